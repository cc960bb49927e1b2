theorem dX0_init_0 : decode cX0_init 0 = .ok (.aload_n 0, 1) := by decide +kernel
theorem dX0_init_1 : decode cX0_init 1 = .ok (.invokespecial 3, 3) := by decide +kernel
theorem dX0_init_4 : decode cX0_init 4 = .ok (.aload_n 0, 1) := by decide +kernel
theorem dX0_init_5 : decode cX0_init 5 = .ok (.sipush 448, 3) := by decide +kernel
theorem dX0_init_8 : decode cX0_init 8 = .ok (.newarray .int, 2) := by decide +kernel
theorem dX0_init_10 : decode cX0_init 10 = .ok (.putfield 9, 3) := by decide +kernel
theorem dX0_init_13 : decode cX0_init 13 = .ok (.aload_n 0, 1) := by decide +kernel
theorem dX0_init_14 : decode cX0_init 14 = .ok (.sipush 8512, 3) := by decide +kernel
theorem dX0_init_17 : decode cX0_init 17 = .ok (.newarray .int, 2) := by decide +kernel
theorem dX0_init_19 : decode cX0_init 19 = .ok (.putfield 15, 3) := by decide +kernel
theorem dX0_init_22 : decode cX0_init 22 = .ok (.aload_n 0, 1) := by decide +kernel
theorem dX0_init_23 : decode cX0_init 23 = .ok (.aload_n 1, 1) := by decide +kernel
theorem dX0_init_24 : decode cX0_init 24 = .ok (.putfield 18, 3) := by decide +kernel
theorem dX0_init_27 : decode cX0_init 27 = .ok (.return_, 1) := by decide +kernel
theorem dX0_countWays_0 : decode cX0_countWays 0 = .ok (.aload_n 0, 1) := by decide +kernel
theorem dX0_countWays_1 : decode cX0_countWays 1 = .ok (.getfield 18, 3) := by decide +kernel
theorem dX0_countWays_4 : decode cX0_countWays 4 = .ok (.invokevirtual 22, 3) := by decide +kernel
theorem dX0_countWays_7 : decode cX0_countWays 7 = .ok (.istore_n 2, 1) := by decide +kernel
theorem dX0_countWays_8 : decode cX0_countWays 8 = .ok (.aload_n 0, 1) := by decide +kernel
theorem dX0_countWays_9 : decode cX0_countWays 9 = .ok (.getfield 9, 3) := by decide +kernel
theorem dX0_countWays_12 : decode cX0_countWays 12 = .ok (.iconst 0, 1) := by decide +kernel
theorem dX0_countWays_13 : decode cX0_countWays 13 = .ok (.invokestatic 28, 3) := by decide +kernel
theorem dX0_countWays_16 : decode cX0_countWays 16 = .ok (.aload_n 0, 1) := by decide +kernel
theorem dX0_countWays_17 : decode cX0_countWays 17 = .ok (.getfield 9, 3) := by decide +kernel
theorem dX0_countWays_20 : decode cX0_countWays 20 = .ok (.iconst 0, 1) := by decide +kernel
theorem dX0_countWays_21 : decode cX0_countWays 21 = .ok (.iconst 1, 1) := by decide +kernel
theorem dX0_countWays_22 : decode cX0_countWays 22 = .ok (.iastore, 1) := by decide +kernel
theorem dX0_countWays_23 : decode cX0_countWays 23 = .ok (.iconst 0, 1) := by decide +kernel
theorem dX0_countWays_24 : decode cX0_countWays 24 = .ok (.istore_n 3, 1) := by decide +kernel
theorem dX0_countWays_25 : decode cX0_countWays 25 = .ok (.iload_n 3, 1) := by decide +kernel
theorem dX0_countWays_26 : decode cX0_countWays 26 = .ok (.iload_n 2, 1) := by decide +kernel
theorem dX0_countWays_27 : decode cX0_countWays 27 = .ok (.bipush 7, 2) := by decide +kernel
theorem dX0_countWays_29 : decode cX0_countWays 29 = .ok (.imul, 1) := by decide +kernel
theorem dX0_countWays_30 : decode cX0_countWays 30 = .ok (.if_icmp .ge 24, 3) := by decide +kernel
theorem dX0_countWays_33 : decode cX0_countWays 33 = .ok (.aload_n 0, 1) := by decide +kernel
theorem dX0_countWays_34 : decode cX0_countWays 34 = .ok (.getfield 9, 3) := by decide +kernel
theorem dX0_countWays_37 : decode cX0_countWays 37 = .ok (.iload_n 3, 1) := by decide +kernel
theorem dX0_countWays_38 : decode cX0_countWays 38 = .ok (.iaload, 1) := by decide +kernel
theorem dX0_countWays_39 : decode cX0_countWays 39 = .ok (.ifCond .eq 9, 3) := by decide +kernel
theorem dX0_countWays_42 : decode cX0_countWays 42 = .ok (.aload_n 0, 1) := by decide +kernel
theorem dX0_countWays_43 : decode cX0_countWays 43 = .ok (.iload_n 3, 1) := by decide +kernel
theorem dX0_countWays_44 : decode cX0_countWays 44 = .ok (.iload_n 1, 1) := by decide +kernel
theorem dX0_countWays_45 : decode cX0_countWays 45 = .ok (.invokevirtual 34, 3) := by decide +kernel
theorem dX0_countWays_48 : decode cX0_countWays 48 = .ok (.iinc 3 1, 3) := by decide +kernel
theorem dX0_countWays_51 : decode cX0_countWays 51 = .ok (.goto (-26), 3) := by decide +kernel
theorem dX0_countWays_54 : decode cX0_countWays 54 = .ok (.iconst 0, 1) := by decide +kernel
theorem dX0_countWays_55 : decode cX0_countWays 55 = .ok (.istore_n 3, 1) := by decide +kernel
theorem dX0_countWays_56 : decode cX0_countWays 56 = .ok (.iconst 0, 1) := by decide +kernel
theorem dX0_countWays_57 : decode cX0_countWays 57 = .ok (.istore 4, 2) := by decide +kernel
theorem dX0_countWays_59 : decode cX0_countWays 59 = .ok (.iload 4, 2) := by decide +kernel
theorem dX0_countWays_61 : decode cX0_countWays 61 = .ok (.bipush 7, 2) := by decide +kernel
theorem dX0_countWays_63 : decode cX0_countWays 63 = .ok (.if_icmp .ge 29, 3) := by decide +kernel
theorem dX0_countWays_66 : decode cX0_countWays 66 = .ok (.ldc 38, 2) := by decide +kernel
theorem dX0_countWays_68 : decode cX0_countWays 68 = .ok (.iload_n 3, 1) := by decide +kernel
theorem dX0_countWays_69 : decode cX0_countWays 69 = .ok (.aload_n 0, 1) := by decide +kernel
theorem dX0_countWays_70 : decode cX0_countWays 70 = .ok (.getfield 9, 3) := by decide +kernel
theorem dX0_countWays_73 : decode cX0_countWays 73 = .ok (.iload_n 2, 1) := by decide +kernel
theorem dX0_countWays_74 : decode cX0_countWays 74 = .ok (.bipush 7, 2) := by decide +kernel
theorem dX0_countWays_76 : decode cX0_countWays 76 = .ok (.imul, 1) := by decide +kernel
theorem dX0_countWays_77 : decode cX0_countWays 77 = .ok (.iload 4, 2) := by decide +kernel
theorem dX0_countWays_79 : decode cX0_countWays 79 = .ok (.iadd, 1) := by decide +kernel
theorem dX0_countWays_80 : decode cX0_countWays 80 = .ok (.iaload, 1) := by decide +kernel
theorem dX0_countWays_81 : decode cX0_countWays 81 = .ok (.iadd, 1) := by decide +kernel
theorem dX0_countWays_82 : decode cX0_countWays 82 = .ok (.invokestatic 39, 3) := by decide +kernel
theorem dX0_countWays_85 : decode cX0_countWays 85 = .ok (.istore_n 3, 1) := by decide +kernel
theorem dX0_countWays_86 : decode cX0_countWays 86 = .ok (.iinc 4 1, 3) := by decide +kernel
theorem dX0_countWays_89 : decode cX0_countWays 89 = .ok (.goto (-30), 3) := by decide +kernel
theorem dX0_countWays_92 : decode cX0_countWays 92 = .ok (.iload_n 3, 1) := by decide +kernel
theorem dX0_countWays_93 : decode cX0_countWays 93 = .ok (.ireturn, 1) := by decide +kernel
theorem dX0_countFrom_0 : decode cX0_countFrom 0 = .ok (.iload_n 1, 1) := by decide +kernel
theorem dX0_countFrom_1 : decode cX0_countFrom 1 = .ok (.bipush 7, 2) := by decide +kernel
theorem dX0_countFrom_3 : decode cX0_countFrom 3 = .ok (.idiv, 1) := by decide +kernel
theorem dX0_countFrom_4 : decode cX0_countFrom 4 = .ok (.istore_n 3, 1) := by decide +kernel
theorem dX0_countFrom_5 : decode cX0_countFrom 5 = .ok (.iconst 0, 1) := by decide +kernel
theorem dX0_countFrom_6 : decode cX0_countFrom 6 = .ok (.istore 4, 2) := by decide +kernel
theorem dX0_countFrom_8 : decode cX0_countFrom 8 = .ok (.iload 4, 2) := by decide +kernel
theorem dX0_countFrom_10 : decode cX0_countFrom 10 = .ok (.aload_n 0, 1) := by decide +kernel
theorem dX0_countFrom_11 : decode cX0_countFrom 11 = .ok (.getfield 18, 3) := by decide +kernel
theorem dX0_countFrom_14 : decode cX0_countFrom 14 = .ok (.getfield 45, 3) := by decide +kernel
theorem dX0_countFrom_17 : decode cX0_countFrom 17 = .ok (.if_icmp .ge 95, 3) := by decide +kernel
theorem dX0_countFrom_20 : decode cX0_countFrom 20 = .ok (.iload_n 3, 1) := by decide +kernel
theorem dX0_countFrom_21 : decode cX0_countFrom 21 = .ok (.aload_n 0, 1) := by decide +kernel
theorem dX0_countFrom_22 : decode cX0_countFrom 22 = .ok (.getfield 18, 3) := by decide +kernel
theorem dX0_countFrom_25 : decode cX0_countFrom 25 = .ok (.getfield 49, 3) := by decide +kernel
theorem dX0_countFrom_28 : decode cX0_countFrom 28 = .ok (.iload 4, 2) := by decide +kernel
theorem dX0_countFrom_30 : decode cX0_countFrom 30 = .ok (.iaload, 1) := by decide +kernel
theorem dX0_countFrom_31 : decode cX0_countFrom 31 = .ok (.iand, 1) := by decide +kernel
theorem dX0_countFrom_32 : decode cX0_countFrom 32 = .ok (.ifCond .ne 74, 3) := by decide +kernel
theorem dX0_countFrom_35 : decode cX0_countFrom 35 = .ok (.aload_n 0, 1) := by decide +kernel
theorem dX0_countFrom_36 : decode cX0_countFrom 36 = .ok (.getfield 18, 3) := by decide +kernel
theorem dX0_countFrom_39 : decode cX0_countFrom 39 = .ok (.iload 4, 2) := by decide +kernel
theorem dX0_countFrom_41 : decode cX0_countFrom 41 = .ok (.iload_n 1, 1) := by decide +kernel
theorem dX0_countFrom_42 : decode cX0_countFrom 42 = .ok (.bipush 7, 2) := by decide +kernel
theorem dX0_countFrom_44 : decode cX0_countFrom 44 = .ok (.irem, 1) := by decide +kernel
theorem dX0_countFrom_45 : decode cX0_countFrom 45 = .ok (.invokevirtual 52, 3) := by decide +kernel
theorem dX0_countFrom_48 : decode cX0_countFrom 48 = .ok (.iload_n 2, 1) := by decide +kernel
theorem dX0_countFrom_49 : decode cX0_countFrom 49 = .ok (.if_icmp .gt 57, 3) := by decide +kernel
theorem dX0_countFrom_52 : decode cX0_countFrom 52 = .ok (.iload_n 3, 1) := by decide +kernel
theorem dX0_countFrom_53 : decode cX0_countFrom 53 = .ok (.aload_n 0, 1) := by decide +kernel
theorem dX0_countFrom_54 : decode cX0_countFrom 54 = .ok (.getfield 18, 3) := by decide +kernel
theorem dX0_countFrom_57 : decode cX0_countFrom 57 = .ok (.getfield 49, 3) := by decide +kernel
theorem dX0_countFrom_60 : decode cX0_countFrom 60 = .ok (.iload 4, 2) := by decide +kernel
theorem dX0_countFrom_62 : decode cX0_countFrom 62 = .ok (.iaload, 1) := by decide +kernel
theorem dX0_countFrom_63 : decode cX0_countFrom 63 = .ok (.ior, 1) := by decide +kernel
theorem dX0_countFrom_64 : decode cX0_countFrom 64 = .ok (.bipush 7, 2) := by decide +kernel
theorem dX0_countFrom_66 : decode cX0_countFrom 66 = .ok (.imul, 1) := by decide +kernel
theorem dX0_countFrom_67 : decode cX0_countFrom 67 = .ok (.aload_n 0, 1) := by decide +kernel
theorem dX0_countFrom_68 : decode cX0_countFrom 68 = .ok (.getfield 18, 3) := by decide +kernel
theorem dX0_countFrom_71 : decode cX0_countFrom 71 = .ok (.getfield 55, 3) := by decide +kernel
theorem dX0_countFrom_74 : decode cX0_countFrom 74 = .ok (.iload 4, 2) := by decide +kernel
theorem dX0_countFrom_76 : decode cX0_countFrom 76 = .ok (.iaload, 1) := by decide +kernel
theorem dX0_countFrom_77 : decode cX0_countFrom 77 = .ok (.iadd, 1) := by decide +kernel
theorem dX0_countFrom_78 : decode cX0_countFrom 78 = .ok (.istore 5, 2) := by decide +kernel
theorem dX0_countFrom_80 : decode cX0_countFrom 80 = .ok (.aload_n 0, 1) := by decide +kernel
theorem dX0_countFrom_81 : decode cX0_countFrom 81 = .ok (.getfield 9, 3) := by decide +kernel
theorem dX0_countFrom_84 : decode cX0_countFrom 84 = .ok (.iload 5, 2) := by decide +kernel
theorem dX0_countFrom_86 : decode cX0_countFrom 86 = .ok (.ldc 38, 2) := by decide +kernel
theorem dX0_countFrom_88 : decode cX0_countFrom 88 = .ok (.aload_n 0, 1) := by decide +kernel
theorem dX0_countFrom_89 : decode cX0_countFrom 89 = .ok (.getfield 9, 3) := by decide +kernel
theorem dX0_countFrom_92 : decode cX0_countFrom 92 = .ok (.iload 5, 2) := by decide +kernel
theorem dX0_countFrom_94 : decode cX0_countFrom 94 = .ok (.iaload, 1) := by decide +kernel
theorem dX0_countFrom_95 : decode cX0_countFrom 95 = .ok (.aload_n 0, 1) := by decide +kernel
theorem dX0_countFrom_96 : decode cX0_countFrom 96 = .ok (.getfield 9, 3) := by decide +kernel
theorem dX0_countFrom_99 : decode cX0_countFrom 99 = .ok (.iload_n 1, 1) := by decide +kernel
theorem dX0_countFrom_100 : decode cX0_countFrom 100 = .ok (.iaload, 1) := by decide +kernel
theorem dX0_countFrom_101 : decode cX0_countFrom 101 = .ok (.iadd, 1) := by decide +kernel
theorem dX0_countFrom_102 : decode cX0_countFrom 102 = .ok (.invokestatic 39, 3) := by decide +kernel
theorem dX0_countFrom_105 : decode cX0_countFrom 105 = .ok (.iastore, 1) := by decide +kernel
theorem dX0_countFrom_106 : decode cX0_countFrom 106 = .ok (.iinc 4 1, 3) := by decide +kernel
theorem dX0_countFrom_109 : decode cX0_countFrom 109 = .ok (.goto (-101), 3) := by decide +kernel
theorem dX0_countFrom_112 : decode cX0_countFrom 112 = .ok (.return_, 1) := by decide +kernel
theorem dX0_cheapestTelling_0 : decode cX0_cheapestTelling 0 = .ok (.aload_n 0, 1) := by decide +kernel
theorem dX0_cheapestTelling_1 : decode cX0_cheapestTelling 1 = .ok (.getfield 18, 3) := by decide +kernel
theorem dX0_cheapestTelling_4 : decode cX0_cheapestTelling 4 = .ok (.invokevirtual 22, 3) := by decide +kernel
theorem dX0_cheapestTelling_7 : decode cX0_cheapestTelling 7 = .ok (.istore 5, 2) := by decide +kernel
theorem dX0_cheapestTelling_9 : decode cX0_cheapestTelling 9 = .ok (.aload_n 0, 1) := by decide +kernel
theorem dX0_cheapestTelling_10 : decode cX0_cheapestTelling 10 = .ok (.getfield 15, 3) := by decide +kernel
theorem dX0_cheapestTelling_13 : decode cX0_cheapestTelling 13 = .ok (.ldc 58, 2) := by decide +kernel
theorem dX0_cheapestTelling_15 : decode cX0_cheapestTelling 15 = .ok (.invokestatic 28, 3) := by decide +kernel
theorem dX0_cheapestTelling_18 : decode cX0_cheapestTelling 18 = .ok (.aload_n 0, 1) := by decide +kernel
theorem dX0_cheapestTelling_19 : decode cX0_cheapestTelling 19 = .ok (.getfield 15, 3) := by decide +kernel
theorem dX0_cheapestTelling_22 : decode cX0_cheapestTelling 22 = .ok (.iconst 0, 1) := by decide +kernel
theorem dX0_cheapestTelling_23 : decode cX0_cheapestTelling 23 = .ok (.iconst 0, 1) := by decide +kernel
theorem dX0_cheapestTelling_24 : decode cX0_cheapestTelling 24 = .ok (.iastore, 1) := by decide +kernel
theorem dX0_cheapestTelling_25 : decode cX0_cheapestTelling 25 = .ok (.iconst 0, 1) := by decide +kernel
theorem dX0_cheapestTelling_26 : decode cX0_cheapestTelling 26 = .ok (.istore 6, 2) := by decide +kernel
theorem dX0_cheapestTelling_28 : decode cX0_cheapestTelling 28 = .ok (.iload 6, 2) := by decide +kernel
theorem dX0_cheapestTelling_30 : decode cX0_cheapestTelling 30 = .ok (.iload 5, 2) := by decide +kernel
theorem dX0_cheapestTelling_32 : decode cX0_cheapestTelling 32 = .ok (.bipush 7, 2) := by decide +kernel
theorem dX0_cheapestTelling_34 : decode cX0_cheapestTelling 34 = .ok (.imul, 1) := by decide +kernel
theorem dX0_cheapestTelling_35 : decode cX0_cheapestTelling 35 = .ok (.bipush 19, 2) := by decide +kernel
theorem dX0_cheapestTelling_37 : decode cX0_cheapestTelling 37 = .ok (.imul, 1) := by decide +kernel
theorem dX0_cheapestTelling_38 : decode cX0_cheapestTelling 38 = .ok (.if_icmp .ge 32, 3) := by decide +kernel
theorem dX0_cheapestTelling_41 : decode cX0_cheapestTelling 41 = .ok (.aload_n 0, 1) := by decide +kernel
theorem dX0_cheapestTelling_42 : decode cX0_cheapestTelling 42 = .ok (.getfield 15, 3) := by decide +kernel
theorem dX0_cheapestTelling_45 : decode cX0_cheapestTelling 45 = .ok (.iload 6, 2) := by decide +kernel
theorem dX0_cheapestTelling_47 : decode cX0_cheapestTelling 47 = .ok (.iaload, 1) := by decide +kernel
theorem dX0_cheapestTelling_48 : decode cX0_cheapestTelling 48 = .ok (.ldc 58, 2) := by decide +kernel
theorem dX0_cheapestTelling_50 : decode cX0_cheapestTelling 50 = .ok (.if_icmp .ge 14, 3) := by decide +kernel
theorem dX0_cheapestTelling_53 : decode cX0_cheapestTelling 53 = .ok (.aload_n 0, 1) := by decide +kernel
theorem dX0_cheapestTelling_54 : decode cX0_cheapestTelling 54 = .ok (.iload 6, 2) := by decide +kernel
theorem dX0_cheapestTelling_56 : decode cX0_cheapestTelling 56 = .ok (.aload_n 1, 1) := by decide +kernel
theorem dX0_cheapestTelling_57 : decode cX0_cheapestTelling 57 = .ok (.iload_n 2, 1) := by decide +kernel
theorem dX0_cheapestTelling_58 : decode cX0_cheapestTelling 58 = .ok (.iload_n 3, 1) := by decide +kernel
theorem dX0_cheapestTelling_59 : decode cX0_cheapestTelling 59 = .ok (.iload 4, 2) := by decide +kernel
theorem dX0_cheapestTelling_61 : decode cX0_cheapestTelling 61 = .ok (.invokevirtual 59, 3) := by decide +kernel
theorem dX0_cheapestTelling_64 : decode cX0_cheapestTelling 64 = .ok (.iinc 6 1, 3) := by decide +kernel
theorem dX0_cheapestTelling_67 : decode cX0_cheapestTelling 67 = .ok (.goto (-39), 3) := by decide +kernel
theorem dX0_cheapestTelling_70 : decode cX0_cheapestTelling 70 = .ok (.ldc 58, 2) := by decide +kernel
theorem dX0_cheapestTelling_72 : decode cX0_cheapestTelling 72 = .ok (.istore 6, 2) := by decide +kernel
theorem dX0_cheapestTelling_74 : decode cX0_cheapestTelling 74 = .ok (.iconst 0, 1) := by decide +kernel
theorem dX0_cheapestTelling_75 : decode cX0_cheapestTelling 75 = .ok (.istore 7, 2) := by decide +kernel
theorem dX0_cheapestTelling_77 : decode cX0_cheapestTelling 77 = .ok (.iload 7, 2) := by decide +kernel
theorem dX0_cheapestTelling_79 : decode cX0_cheapestTelling 79 = .ok (.bipush 7, 2) := by decide +kernel
theorem dX0_cheapestTelling_81 : decode cX0_cheapestTelling 81 = .ok (.if_icmp .ge 34, 3) := by decide +kernel
theorem dX0_cheapestTelling_84 : decode cX0_cheapestTelling 84 = .ok (.iload 6, 2) := by decide +kernel
theorem dX0_cheapestTelling_86 : decode cX0_cheapestTelling 86 = .ok (.aload_n 0, 1) := by decide +kernel
theorem dX0_cheapestTelling_87 : decode cX0_cheapestTelling 87 = .ok (.getfield 15, 3) := by decide +kernel
theorem dX0_cheapestTelling_90 : decode cX0_cheapestTelling 90 = .ok (.iload 5, 2) := by decide +kernel
theorem dX0_cheapestTelling_92 : decode cX0_cheapestTelling 92 = .ok (.bipush 7, 2) := by decide +kernel
theorem dX0_cheapestTelling_94 : decode cX0_cheapestTelling 94 = .ok (.imul, 1) := by decide +kernel
theorem dX0_cheapestTelling_95 : decode cX0_cheapestTelling 95 = .ok (.iload 7, 2) := by decide +kernel
theorem dX0_cheapestTelling_97 : decode cX0_cheapestTelling 97 = .ok (.iadd, 1) := by decide +kernel
theorem dX0_cheapestTelling_98 : decode cX0_cheapestTelling 98 = .ok (.bipush 19, 2) := by decide +kernel
theorem dX0_cheapestTelling_100 : decode cX0_cheapestTelling 100 = .ok (.imul, 1) := by decide +kernel
theorem dX0_cheapestTelling_101 : decode cX0_cheapestTelling 101 = .ok (.iload_n 2, 1) := by decide +kernel
theorem dX0_cheapestTelling_102 : decode cX0_cheapestTelling 102 = .ok (.iadd, 1) := by decide +kernel
theorem dX0_cheapestTelling_103 : decode cX0_cheapestTelling 103 = .ok (.iaload, 1) := by decide +kernel
theorem dX0_cheapestTelling_104 : decode cX0_cheapestTelling 104 = .ok (.invokestatic 39, 3) := by decide +kernel
theorem dX0_cheapestTelling_107 : decode cX0_cheapestTelling 107 = .ok (.istore 6, 2) := by decide +kernel
theorem dX0_cheapestTelling_109 : decode cX0_cheapestTelling 109 = .ok (.iinc 7 1, 3) := by decide +kernel
theorem dX0_cheapestTelling_112 : decode cX0_cheapestTelling 112 = .ok (.goto (-35), 3) := by decide +kernel
theorem dX0_cheapestTelling_115 : decode cX0_cheapestTelling 115 = .ok (.iload 6, 2) := by decide +kernel
theorem dX0_cheapestTelling_117 : decode cX0_cheapestTelling 117 = .ok (.ldc 58, 2) := by decide +kernel
theorem dX0_cheapestTelling_119 : decode cX0_cheapestTelling 119 = .ok (.if_icmp .ne 7, 3) := by decide +kernel
theorem dX0_cheapestTelling_122 : decode cX0_cheapestTelling 122 = .ok (.iconst (-1), 1) := by decide +kernel
theorem dX0_cheapestTelling_123 : decode cX0_cheapestTelling 123 = .ok (.goto 18, 3) := by decide +kernel
theorem dX0_cheapestTelling_126 : decode cX0_cheapestTelling 126 = .ok (.iload 6, 2) := by decide +kernel
theorem dX0_cheapestTelling_128 : decode cX0_cheapestTelling 128 = .ok (.aload_n 0, 1) := by decide +kernel
theorem dX0_cheapestTelling_129 : decode cX0_cheapestTelling 129 = .ok (.getfield 18, 3) := by decide +kernel
theorem dX0_cheapestTelling_132 : decode cX0_cheapestTelling 132 = .ok (.aload_n 1, 1) := by decide +kernel
theorem dX0_cheapestTelling_133 : decode cX0_cheapestTelling 133 = .ok (.iload_n 2, 1) := by decide +kernel
theorem dX0_cheapestTelling_134 : decode cX0_cheapestTelling 134 = .ok (.invokestatic 63, 3) := by decide +kernel
theorem dX0_cheapestTelling_137 : decode cX0_cheapestTelling 137 = .ok (.invokevirtual 67, 3) := by decide +kernel
theorem dX0_cheapestTelling_140 : decode cX0_cheapestTelling 140 = .ok (.iadd, 1) := by decide +kernel
theorem dX0_cheapestTelling_141 : decode cX0_cheapestTelling 141 = .ok (.ireturn, 1) := by decide +kernel
theorem dX0_tellFrom_0 : decode cX0_tellFrom 0 = .ok (.iload_n 1, 1) := by decide +kernel
theorem dX0_tellFrom_1 : decode cX0_tellFrom 1 = .ok (.bipush 19, 2) := by decide +kernel
theorem dX0_tellFrom_3 : decode cX0_tellFrom 3 = .ok (.irem, 1) := by decide +kernel
theorem dX0_tellFrom_4 : decode cX0_tellFrom 4 = .ok (.istore 6, 2) := by decide +kernel
theorem dX0_tellFrom_6 : decode cX0_tellFrom 6 = .ok (.iload_n 1, 1) := by decide +kernel
theorem dX0_tellFrom_7 : decode cX0_tellFrom 7 = .ok (.bipush 19, 2) := by decide +kernel
theorem dX0_tellFrom_9 : decode cX0_tellFrom 9 = .ok (.idiv, 1) := by decide +kernel
theorem dX0_tellFrom_10 : decode cX0_tellFrom 10 = .ok (.bipush 7, 2) := by decide +kernel
theorem dX0_tellFrom_12 : decode cX0_tellFrom 12 = .ok (.irem, 1) := by decide +kernel
theorem dX0_tellFrom_13 : decode cX0_tellFrom 13 = .ok (.istore 7, 2) := by decide +kernel
theorem dX0_tellFrom_15 : decode cX0_tellFrom 15 = .ok (.iload_n 1, 1) := by decide +kernel
theorem dX0_tellFrom_16 : decode cX0_tellFrom 16 = .ok (.sipush 133, 3) := by decide +kernel
theorem dX0_tellFrom_19 : decode cX0_tellFrom 19 = .ok (.idiv, 1) := by decide +kernel
theorem dX0_tellFrom_20 : decode cX0_tellFrom 20 = .ok (.istore 8, 2) := by decide +kernel
theorem dX0_tellFrom_22 : decode cX0_tellFrom 22 = .ok (.aload_n 2, 1) := by decide +kernel
theorem dX0_tellFrom_23 : decode cX0_tellFrom 23 = .ok (.iload 6, 2) := by decide +kernel
theorem dX0_tellFrom_25 : decode cX0_tellFrom 25 = .ok (.invokestatic 63, 3) := by decide +kernel
theorem dX0_tellFrom_28 : decode cX0_tellFrom 28 = .ok (.istore 9, 2) := by decide +kernel
theorem dX0_tellFrom_30 : decode cX0_tellFrom 30 = .ok (.iconst 0, 1) := by decide +kernel
theorem dX0_tellFrom_31 : decode cX0_tellFrom 31 = .ok (.istore 10, 2) := by decide +kernel
theorem dX0_tellFrom_33 : decode cX0_tellFrom 33 = .ok (.iload 10, 2) := by decide +kernel
theorem dX0_tellFrom_35 : decode cX0_tellFrom 35 = .ok (.aload_n 0, 1) := by decide +kernel
theorem dX0_tellFrom_36 : decode cX0_tellFrom 36 = .ok (.getfield 18, 3) := by decide +kernel
theorem dX0_tellFrom_39 : decode cX0_tellFrom 39 = .ok (.getfield 45, 3) := by decide +kernel
theorem dX0_tellFrom_42 : decode cX0_tellFrom 42 = .ok (.if_icmp .ge 149, 3) := by decide +kernel
theorem dX0_tellFrom_45 : decode cX0_tellFrom 45 = .ok (.aload_n 0, 1) := by decide +kernel
theorem dX0_tellFrom_46 : decode cX0_tellFrom 46 = .ok (.getfield 18, 3) := by decide +kernel
theorem dX0_tellFrom_49 : decode cX0_tellFrom 49 = .ok (.iload 10, 2) := by decide +kernel
theorem dX0_tellFrom_51 : decode cX0_tellFrom 51 = .ok (.iload 7, 2) := by decide +kernel
theorem dX0_tellFrom_53 : decode cX0_tellFrom 53 = .ok (.invokevirtual 52, 3) := by decide +kernel
theorem dX0_tellFrom_56 : decode cX0_tellFrom 56 = .ok (.istore 11, 2) := by decide +kernel
theorem dX0_tellFrom_58 : decode cX0_tellFrom 58 = .ok (.iload 8, 2) := by decide +kernel
theorem dX0_tellFrom_60 : decode cX0_tellFrom 60 = .ok (.aload_n 0, 1) := by decide +kernel
theorem dX0_tellFrom_61 : decode cX0_tellFrom 61 = .ok (.getfield 18, 3) := by decide +kernel
theorem dX0_tellFrom_64 : decode cX0_tellFrom 64 = .ok (.getfield 49, 3) := by decide +kernel
theorem dX0_tellFrom_67 : decode cX0_tellFrom 67 = .ok (.iload 10, 2) := by decide +kernel
theorem dX0_tellFrom_69 : decode cX0_tellFrom 69 = .ok (.iaload, 1) := by decide +kernel
theorem dX0_tellFrom_70 : decode cX0_tellFrom 70 = .ok (.iand, 1) := by decide +kernel
theorem dX0_tellFrom_71 : decode cX0_tellFrom 71 = .ok (.ifCond .ne 114, 3) := by decide +kernel
theorem dX0_tellFrom_74 : decode cX0_tellFrom 74 = .ok (.iload 11, 2) := by decide +kernel
theorem dX0_tellFrom_76 : decode cX0_tellFrom 76 = .ok (.iload 5, 2) := by decide +kernel
theorem dX0_tellFrom_78 : decode cX0_tellFrom 78 = .ok (.if_icmp .gt 107, 3) := by decide +kernel
theorem dX0_tellFrom_81 : decode cX0_tellFrom 81 = .ok (.aload_n 0, 1) := by decide +kernel
theorem dX0_tellFrom_82 : decode cX0_tellFrom 82 = .ok (.iload 10, 2) := by decide +kernel
theorem dX0_tellFrom_84 : decode cX0_tellFrom 84 = .ok (.aload_n 2, 1) := by decide +kernel
theorem dX0_tellFrom_85 : decode cX0_tellFrom 85 = .ok (.iload 6, 2) := by decide +kernel
theorem dX0_tellFrom_87 : decode cX0_tellFrom 87 = .ok (.iload_n 3, 1) := by decide +kernel
theorem dX0_tellFrom_88 : decode cX0_tellFrom 88 = .ok (.invokevirtual 71, 3) := by decide +kernel
theorem dX0_tellFrom_91 : decode cX0_tellFrom 91 = .ok (.ifCond .eq 94, 3) := by decide +kernel
theorem dX0_tellFrom_94 : decode cX0_tellFrom 94 = .ok (.iload 8, 2) := by decide +kernel
theorem dX0_tellFrom_96 : decode cX0_tellFrom 96 = .ok (.aload_n 0, 1) := by decide +kernel
theorem dX0_tellFrom_97 : decode cX0_tellFrom 97 = .ok (.getfield 18, 3) := by decide +kernel
theorem dX0_tellFrom_100 : decode cX0_tellFrom 100 = .ok (.getfield 49, 3) := by decide +kernel
theorem dX0_tellFrom_103 : decode cX0_tellFrom 103 = .ok (.iload 10, 2) := by decide +kernel
theorem dX0_tellFrom_105 : decode cX0_tellFrom 105 = .ok (.iaload, 1) := by decide +kernel
theorem dX0_tellFrom_106 : decode cX0_tellFrom 106 = .ok (.ior, 1) := by decide +kernel
theorem dX0_tellFrom_107 : decode cX0_tellFrom 107 = .ok (.bipush 7, 2) := by decide +kernel
theorem dX0_tellFrom_109 : decode cX0_tellFrom 109 = .ok (.imul, 1) := by decide +kernel
theorem dX0_tellFrom_110 : decode cX0_tellFrom 110 = .ok (.aload_n 0, 1) := by decide +kernel
theorem dX0_tellFrom_111 : decode cX0_tellFrom 111 = .ok (.getfield 18, 3) := by decide +kernel
theorem dX0_tellFrom_114 : decode cX0_tellFrom 114 = .ok (.getfield 55, 3) := by decide +kernel
theorem dX0_tellFrom_117 : decode cX0_tellFrom 117 = .ok (.iload 10, 2) := by decide +kernel
theorem dX0_tellFrom_119 : decode cX0_tellFrom 119 = .ok (.iaload, 1) := by decide +kernel
theorem dX0_tellFrom_120 : decode cX0_tellFrom 120 = .ok (.iadd, 1) := by decide +kernel
theorem dX0_tellFrom_121 : decode cX0_tellFrom 121 = .ok (.istore 12, 2) := by decide +kernel
theorem dX0_tellFrom_123 : decode cX0_tellFrom 123 = .ok (.iload 12, 2) := by decide +kernel
theorem dX0_tellFrom_125 : decode cX0_tellFrom 125 = .ok (.bipush 19, 2) := by decide +kernel
theorem dX0_tellFrom_127 : decode cX0_tellFrom 127 = .ok (.imul, 1) := by decide +kernel
theorem dX0_tellFrom_128 : decode cX0_tellFrom 128 = .ok (.iload 6, 2) := by decide +kernel
theorem dX0_tellFrom_130 : decode cX0_tellFrom 130 = .ok (.iadd, 1) := by decide +kernel
theorem dX0_tellFrom_131 : decode cX0_tellFrom 131 = .ok (.aload_n 0, 1) := by decide +kernel
theorem dX0_tellFrom_132 : decode cX0_tellFrom 132 = .ok (.getfield 18, 3) := by decide +kernel
theorem dX0_tellFrom_135 : decode cX0_tellFrom 135 = .ok (.getfield 75, 3) := by decide +kernel
theorem dX0_tellFrom_138 : decode cX0_tellFrom 138 = .ok (.iload 10, 2) := by decide +kernel
theorem dX0_tellFrom_140 : decode cX0_tellFrom 140 = .ok (.iaload, 1) := by decide +kernel
theorem dX0_tellFrom_141 : decode cX0_tellFrom 141 = .ok (.iadd, 1) := by decide +kernel
theorem dX0_tellFrom_142 : decode cX0_tellFrom 142 = .ok (.istore 13, 2) := by decide +kernel
theorem dX0_tellFrom_144 : decode cX0_tellFrom 144 = .ok (.aload_n 0, 1) := by decide +kernel
theorem dX0_tellFrom_145 : decode cX0_tellFrom 145 = .ok (.getfield 15, 3) := by decide +kernel
theorem dX0_tellFrom_148 : decode cX0_tellFrom 148 = .ok (.iload 13, 2) := by decide +kernel
theorem dX0_tellFrom_150 : decode cX0_tellFrom 150 = .ok (.aload_n 0, 1) := by decide +kernel
theorem dX0_tellFrom_151 : decode cX0_tellFrom 151 = .ok (.getfield 15, 3) := by decide +kernel
theorem dX0_tellFrom_154 : decode cX0_tellFrom 154 = .ok (.iload 13, 2) := by decide +kernel
theorem dX0_tellFrom_156 : decode cX0_tellFrom 156 = .ok (.iaload, 1) := by decide +kernel
theorem dX0_tellFrom_157 : decode cX0_tellFrom 157 = .ok (.aload_n 0, 1) := by decide +kernel
theorem dX0_tellFrom_158 : decode cX0_tellFrom 158 = .ok (.getfield 15, 3) := by decide +kernel
theorem dX0_tellFrom_161 : decode cX0_tellFrom 161 = .ok (.iload_n 1, 1) := by decide +kernel
theorem dX0_tellFrom_162 : decode cX0_tellFrom 162 = .ok (.iaload, 1) := by decide +kernel
theorem dX0_tellFrom_163 : decode cX0_tellFrom 163 = .ok (.aload_n 0, 1) := by decide +kernel
theorem dX0_tellFrom_164 : decode cX0_tellFrom 164 = .ok (.getfield 18, 3) := by decide +kernel
theorem dX0_tellFrom_167 : decode cX0_tellFrom 167 = .ok (.iload 10, 2) := by decide +kernel
theorem dX0_tellFrom_169 : decode cX0_tellFrom 169 = .ok (.iload 9, 2) := by decide +kernel
theorem dX0_tellFrom_171 : decode cX0_tellFrom 171 = .ok (.invokevirtual 78, 3) := by decide +kernel
theorem dX0_tellFrom_174 : decode cX0_tellFrom 174 = .ok (.iadd, 1) := by decide +kernel
theorem dX0_tellFrom_175 : decode cX0_tellFrom 175 = .ok (.iload 4, 2) := by decide +kernel
theorem dX0_tellFrom_177 : decode cX0_tellFrom 177 = .ok (.iload 11, 2) := by decide +kernel
theorem dX0_tellFrom_179 : decode cX0_tellFrom 179 = .ok (.imul, 1) := by decide +kernel
theorem dX0_tellFrom_180 : decode cX0_tellFrom 180 = .ok (.iadd, 1) := by decide +kernel
theorem dX0_tellFrom_181 : decode cX0_tellFrom 181 = .ok (.invokestatic 39, 3) := by decide +kernel
theorem dX0_tellFrom_184 : decode cX0_tellFrom 184 = .ok (.iastore, 1) := by decide +kernel
theorem dX0_tellFrom_185 : decode cX0_tellFrom 185 = .ok (.iinc 10 1, 3) := by decide +kernel
theorem dX0_tellFrom_188 : decode cX0_tellFrom 188 = .ok (.goto (-155), 3) := by decide +kernel
theorem dX0_tellFrom_191 : decode cX0_tellFrom 191 = .ok (.return_, 1) := by decide +kernel
theorem dX0_tells_0 : decode cX0_tells 0 = .ok (.aload_n 0, 1) := by decide +kernel
theorem dX0_tells_1 : decode cX0_tells 1 = .ok (.getfield 18, 3) := by decide +kernel
theorem dX0_tells_4 : decode cX0_tells 4 = .ok (.getfield 75, 3) := by decide +kernel
theorem dX0_tells_7 : decode cX0_tells 7 = .ok (.iload_n 1, 1) := by decide +kernel
theorem dX0_tells_8 : decode cX0_tells 8 = .ok (.iaload, 1) := by decide +kernel
theorem dX0_tells_9 : decode cX0_tells 9 = .ok (.istore 5, 2) := by decide +kernel
theorem dX0_tells_11 : decode cX0_tells 11 = .ok (.iload_n 3, 1) := by decide +kernel
theorem dX0_tells_12 : decode cX0_tells 12 = .ok (.iload 5, 2) := by decide +kernel
theorem dX0_tells_14 : decode cX0_tells 14 = .ok (.iadd, 1) := by decide +kernel
theorem dX0_tells_15 : decode cX0_tells 15 = .ok (.iload 4, 2) := by decide +kernel
theorem dX0_tells_17 : decode cX0_tells 17 = .ok (.if_icmp .gt 27, 3) := by decide +kernel
theorem dX0_tells_20 : decode cX0_tells 20 = .ok (.aload_n 0, 1) := by decide +kernel
theorem dX0_tells_21 : decode cX0_tells 21 = .ok (.getfield 18, 3) := by decide +kernel
theorem dX0_tells_24 : decode cX0_tells 24 = .ok (.getfield 81, 3) := by decide +kernel
theorem dX0_tells_27 : decode cX0_tells 27 = .ok (.iload_n 1, 1) := by decide +kernel
theorem dX0_tells_28 : decode cX0_tells 28 = .ok (.iconst 3, 1) := by decide +kernel
theorem dX0_tells_29 : decode cX0_tells 29 = .ok (.imul, 1) := by decide +kernel
theorem dX0_tells_30 : decode cX0_tells 30 = .ok (.aload_n 2, 1) := by decide +kernel
theorem dX0_tells_31 : decode cX0_tells 31 = .ok (.iload_n 3, 1) := by decide +kernel
theorem dX0_tells_32 : decode cX0_tells 32 = .ok (.iload 5, 2) := by decide +kernel
theorem dX0_tells_34 : decode cX0_tells 34 = .ok (.invokestatic 84, 3) := by decide +kernel
theorem dX0_tells_37 : decode cX0_tells 37 = .ok (.ifCond .eq 7, 3) := by decide +kernel
theorem dX0_tells_40 : decode cX0_tells 40 = .ok (.iconst 1, 1) := by decide +kernel
theorem dX0_tells_41 : decode cX0_tells 41 = .ok (.goto 4, 3) := by decide +kernel
theorem dX0_tells_44 : decode cX0_tells 44 = .ok (.iconst 0, 1) := by decide +kernel
theorem dX0_tells_45 : decode cX0_tells 45 = .ok (.ireturn, 1) := by decide +kernel
theorem dX0_wordAhead_0 : decode cX0_wordAhead 0 = .ok (.iload_n 1, 1) := by decide +kernel
theorem dX0_wordAhead_1 : decode cX0_wordAhead 1 = .ok (.ifCond .ne 8, 3) := by decide +kernel
theorem dX0_wordAhead_4 : decode cX0_wordAhead 4 = .ok (.bipush 40, 2) := by decide +kernel
theorem dX0_wordAhead_6 : decode cX0_wordAhead 6 = .ok (.goto 8, 3) := by decide +kernel
theorem dX0_wordAhead_9 : decode cX0_wordAhead 9 = .ok (.aload_n 0, 1) := by decide +kernel
theorem dX0_wordAhead_10 : decode cX0_wordAhead 10 = .ok (.iload_n 1, 1) := by decide +kernel
theorem dX0_wordAhead_11 : decode cX0_wordAhead 11 = .ok (.iconst 1, 1) := by decide +kernel
theorem dX0_wordAhead_12 : decode cX0_wordAhead 12 = .ok (.isub, 1) := by decide +kernel
theorem dX0_wordAhead_13 : decode cX0_wordAhead 13 = .ok (.iaload, 1) := by decide +kernel
theorem dX0_wordAhead_14 : decode cX0_wordAhead 14 = .ok (.ireturn, 1) := by decide +kernel
theorem dX1_init_0 : decode cX1_init 0 = .ok (.aload_n 0, 1) := by decide +kernel
theorem dX1_init_1 : decode cX1_init 1 = .ok (.invokespecial 3, 3) := by decide +kernel
theorem dX1_init_4 : decode cX1_init 4 = .ok (.aload_n 0, 1) := by decide +kernel
theorem dX1_init_5 : decode cX1_init 5 = .ok (.sipush 18368, 3) := by decide +kernel
theorem dX1_init_8 : decode cX1_init 8 = .ok (.newarray .int, 2) := by decide +kernel
theorem dX1_init_10 : decode cX1_init 10 = .ok (.putfield 9, 3) := by decide +kernel
theorem dX1_init_13 : decode cX1_init 13 = .ok (.aload_n 0, 1) := by decide +kernel
theorem dX1_init_14 : decode cX1_init 14 = .ok (.sipush 7913, 3) := by decide +kernel
theorem dX1_init_17 : decode cX1_init 17 = .ok (.newarray .int, 2) := by decide +kernel
theorem dX1_init_19 : decode cX1_init 19 = .ok (.putfield 15, 3) := by decide +kernel
theorem dX1_init_22 : decode cX1_init 22 = .ok (.aload_n 0, 1) := by decide +kernel
theorem dX1_init_23 : decode cX1_init 23 = .ok (.sipush 7913, 3) := by decide +kernel
theorem dX1_init_26 : decode cX1_init 26 = .ok (.newarray .int, 2) := by decide +kernel
theorem dX1_init_28 : decode cX1_init 28 = .ok (.putfield 18, 3) := by decide +kernel
theorem dX1_init_31 : decode cX1_init 31 = .ok (.aload_n 0, 1) := by decide +kernel
theorem dX1_init_32 : decode cX1_init 32 = .ok (.bipush 8, 2) := by decide +kernel
theorem dX1_init_34 : decode cX1_init 34 = .ok (.newarray .int, 2) := by decide +kernel
theorem dX1_init_36 : decode cX1_init 36 = .ok (.putfield 21, 3) := by decide +kernel
theorem dX1_init_39 : decode cX1_init 39 = .ok (.aload_n 0, 1) := by decide +kernel
theorem dX1_init_40 : decode cX1_init 40 = .ok (.aload_n 1, 1) := by decide +kernel
theorem dX1_init_41 : decode cX1_init 41 = .ok (.putfield 24, 3) := by decide +kernel
theorem dX1_init_44 : decode cX1_init 44 = .ok (.return_, 1) := by decide +kernel
theorem dX1_mask_0 : decode cX1_mask 0 = .ok (.aload_n 0, 1) := by decide +kernel
theorem dX1_mask_1 : decode cX1_mask 1 = .ok (.getfield 15, 3) := by decide +kernel
theorem dX1_mask_4 : decode cX1_mask 4 = .ok (.iload_n 1, 1) := by decide +kernel
theorem dX1_mask_5 : decode cX1_mask 5 = .ok (.iaload, 1) := by decide +kernel
theorem dX1_mask_6 : decode cX1_mask 6 = .ok (.sipush 287, 3) := by decide +kernel
theorem dX1_mask_9 : decode cX1_mask 9 = .ok (.idiv, 1) := by decide +kernel
theorem dX1_mask_10 : decode cX1_mask 10 = .ok (.ireturn, 1) := by decide +kernel
theorem dX1_behind_0 : decode cX1_behind 0 = .ok (.aload_n 0, 1) := by decide +kernel
theorem dX1_behind_1 : decode cX1_behind 1 = .ok (.getfield 15, 3) := by decide +kernel
theorem dX1_behind_4 : decode cX1_behind 4 = .ok (.iload_n 1, 1) := by decide +kernel
theorem dX1_behind_5 : decode cX1_behind 5 = .ok (.iaload, 1) := by decide +kernel
theorem dX1_behind_6 : decode cX1_behind 6 = .ok (.bipush 41, 2) := by decide +kernel
theorem dX1_behind_8 : decode cX1_behind 8 = .ok (.idiv, 1) := by decide +kernel
theorem dX1_behind_9 : decode cX1_behind 9 = .ok (.bipush 7, 2) := by decide +kernel
theorem dX1_behind_11 : decode cX1_behind 11 = .ok (.irem, 1) := by decide +kernel
theorem dX1_behind_12 : decode cX1_behind 12 = .ok (.ireturn, 1) := by decide +kernel
theorem dX1_last_0 : decode cX1_last 0 = .ok (.aload_n 0, 1) := by decide +kernel
theorem dX1_last_1 : decode cX1_last 1 = .ok (.getfield 15, 3) := by decide +kernel
theorem dX1_last_4 : decode cX1_last 4 = .ok (.iload_n 1, 1) := by decide +kernel
theorem dX1_last_5 : decode cX1_last 5 = .ok (.iaload, 1) := by decide +kernel
theorem dX1_last_6 : decode cX1_last 6 = .ok (.bipush 41, 2) := by decide +kernel
theorem dX1_last_8 : decode cX1_last 8 = .ok (.irem, 1) := by decide +kernel
theorem dX1_last_9 : decode cX1_last 9 = .ok (.ireturn, 1) := by decide +kernel
theorem dX1_cheapest_0 : decode cX1_cheapest 0 = .ok (.aload_n 0, 1) := by decide +kernel
theorem dX1_cheapest_1 : decode cX1_cheapest 1 = .ok (.getfield 18, 3) := by decide +kernel
theorem dX1_cheapest_4 : decode cX1_cheapest 4 = .ok (.iconst 0, 1) := by decide +kernel
theorem dX1_cheapest_5 : decode cX1_cheapest 5 = .ok (.iaload, 1) := by decide +kernel
theorem dX1_cheapest_6 : decode cX1_cheapest 6 = .ok (.ireturn, 1) := by decide +kernel
theorem dX1_codeBehind_0 : decode cX1_codeBehind 0 = .ok (.iload_n 1, 1) := by decide +kernel
theorem dX1_codeBehind_1 : decode cX1_codeBehind 1 = .ok (.aload_n 0, 1) := by decide +kernel
theorem dX1_codeBehind_2 : decode cX1_codeBehind 2 = .ok (.getfield 24, 3) := by decide +kernel
theorem dX1_codeBehind_5 : decode cX1_codeBehind 5 = .ok (.getfield 28, 3) := by decide +kernel
theorem dX1_codeBehind_8 : decode cX1_codeBehind 8 = .ok (.iload_n 3, 1) := by decide +kernel
theorem dX1_codeBehind_9 : decode cX1_codeBehind 9 = .ok (.iaload, 1) := by decide +kernel
theorem dX1_codeBehind_10 : decode cX1_codeBehind 10 = .ok (.ior, 1) := by decide +kernel
theorem dX1_codeBehind_11 : decode cX1_codeBehind 11 = .ok (.bipush 7, 2) := by decide +kernel
theorem dX1_codeBehind_13 : decode cX1_codeBehind 13 = .ok (.imul, 1) := by decide +kernel
theorem dX1_codeBehind_14 : decode cX1_codeBehind 14 = .ok (.aload_n 0, 1) := by decide +kernel
theorem dX1_codeBehind_15 : decode cX1_codeBehind 15 = .ok (.getfield 24, 3) := by decide +kernel
theorem dX1_codeBehind_18 : decode cX1_codeBehind 18 = .ok (.getfield 33, 3) := by decide +kernel
theorem dX1_codeBehind_21 : decode cX1_codeBehind 21 = .ok (.iload_n 3, 1) := by decide +kernel
theorem dX1_codeBehind_22 : decode cX1_codeBehind 22 = .ok (.iaload, 1) := by decide +kernel
theorem dX1_codeBehind_23 : decode cX1_codeBehind 23 = .ok (.iadd, 1) := by decide +kernel
theorem dX1_codeBehind_24 : decode cX1_codeBehind 24 = .ok (.istore 4, 2) := by decide +kernel
theorem dX1_codeBehind_26 : decode cX1_codeBehind 26 = .ok (.iload 4, 2) := by decide +kernel
theorem dX1_codeBehind_28 : decode cX1_codeBehind 28 = .ok (.bipush 41, 2) := by decide +kernel
theorem dX1_codeBehind_30 : decode cX1_codeBehind 30 = .ok (.imul, 1) := by decide +kernel
theorem dX1_codeBehind_31 : decode cX1_codeBehind 31 = .ok (.aload_n 0, 1) := by decide +kernel
theorem dX1_codeBehind_32 : decode cX1_codeBehind 32 = .ok (.getfield 24, 3) := by decide +kernel
theorem dX1_codeBehind_35 : decode cX1_codeBehind 35 = .ok (.getfield 36, 3) := by decide +kernel
theorem dX1_codeBehind_38 : decode cX1_codeBehind 38 = .ok (.iload_n 3, 1) := by decide +kernel
theorem dX1_codeBehind_39 : decode cX1_codeBehind 39 = .ok (.iaload, 1) := by decide +kernel
theorem dX1_codeBehind_40 : decode cX1_codeBehind 40 = .ok (.iconst (-1), 1) := by decide +kernel
theorem dX1_codeBehind_41 : decode cX1_codeBehind 41 = .ok (.if_icmp .ne 7, 3) := by decide +kernel
theorem dX1_codeBehind_44 : decode cX1_codeBehind 44 = .ok (.iload_n 2, 1) := by decide +kernel
theorem dX1_codeBehind_45 : decode cX1_codeBehind 45 = .ok (.goto 12, 3) := by decide +kernel
theorem dX1_codeBehind_48 : decode cX1_codeBehind 48 = .ok (.aload_n 0, 1) := by decide +kernel
theorem dX1_codeBehind_49 : decode cX1_codeBehind 49 = .ok (.getfield 24, 3) := by decide +kernel
theorem dX1_codeBehind_52 : decode cX1_codeBehind 52 = .ok (.getfield 36, 3) := by decide +kernel
theorem dX1_codeBehind_55 : decode cX1_codeBehind 55 = .ok (.iload_n 3, 1) := by decide +kernel
theorem dX1_codeBehind_56 : decode cX1_codeBehind 56 = .ok (.iaload, 1) := by decide +kernel
theorem dX1_codeBehind_57 : decode cX1_codeBehind 57 = .ok (.iadd, 1) := by decide +kernel
theorem dX1_codeBehind_58 : decode cX1_codeBehind 58 = .ok (.ireturn, 1) := by decide +kernel
theorem dX1_follow_0 : decode cX1_follow 0 = .ok (.aload_n 0, 1) := by decide +kernel
theorem dX1_follow_1 : decode cX1_follow 1 = .ok (.getfield 9, 3) := by decide +kernel
theorem dX1_follow_4 : decode cX1_follow 4 = .ok (.aload_n 0, 1) := by decide +kernel
theorem dX1_follow_5 : decode cX1_follow 5 = .ok (.iload_n 1, 1) := by decide +kernel
theorem dX1_follow_6 : decode cX1_follow 6 = .ok (.iload_n 2, 1) := by decide +kernel
theorem dX1_follow_7 : decode cX1_follow 7 = .ok (.iload_n 3, 1) := by decide +kernel
theorem dX1_follow_8 : decode cX1_follow 8 = .ok (.invokevirtual 39, 3) := by decide +kernel
theorem dX1_follow_11 : decode cX1_follow 11 = .ok (.iaload, 1) := by decide +kernel
theorem dX1_follow_12 : decode cX1_follow 12 = .ok (.iconst 1, 1) := by decide +kernel
theorem dX1_follow_13 : decode cX1_follow 13 = .ok (.isub, 1) := by decide +kernel
theorem dX1_follow_14 : decode cX1_follow 14 = .ok (.ireturn, 1) := by decide +kernel
theorem dX1_explore_0 : decode cX1_explore 0 = .ok (.iconst 0, 1) := by decide +kernel
theorem dX1_explore_1 : decode cX1_explore 1 = .ok (.istore_n 1, 1) := by decide +kernel
theorem dX1_explore_2 : decode cX1_explore 2 = .ok (.iload_n 1, 1) := by decide +kernel
theorem dX1_explore_3 : decode cX1_explore 3 = .ok (.aload_n 0, 1) := by decide +kernel
theorem dX1_explore_4 : decode cX1_explore 4 = .ok (.getfield 43, 3) := by decide +kernel
theorem dX1_explore_7 : decode cX1_explore 7 = .ok (.if_icmp .ge 21, 3) := by decide +kernel
theorem dX1_explore_10 : decode cX1_explore 10 = .ok (.aload_n 0, 1) := by decide +kernel
theorem dX1_explore_11 : decode cX1_explore 11 = .ok (.getfield 9, 3) := by decide +kernel
theorem dX1_explore_14 : decode cX1_explore 14 = .ok (.aload_n 0, 1) := by decide +kernel
theorem dX1_explore_15 : decode cX1_explore 15 = .ok (.getfield 15, 3) := by decide +kernel
theorem dX1_explore_18 : decode cX1_explore 18 = .ok (.iload_n 1, 1) := by decide +kernel
theorem dX1_explore_19 : decode cX1_explore 19 = .ok (.iaload, 1) := by decide +kernel
theorem dX1_explore_20 : decode cX1_explore 20 = .ok (.iconst 0, 1) := by decide +kernel
theorem dX1_explore_21 : decode cX1_explore 21 = .ok (.iastore, 1) := by decide +kernel
theorem dX1_explore_22 : decode cX1_explore 22 = .ok (.iinc 1 1, 3) := by decide +kernel
theorem dX1_explore_25 : decode cX1_explore 25 = .ok (.goto (-23), 3) := by decide +kernel
theorem dX1_explore_28 : decode cX1_explore 28 = .ok (.aload_n 0, 1) := by decide +kernel
theorem dX1_explore_29 : decode cX1_explore 29 = .ok (.iconst 0, 1) := by decide +kernel
theorem dX1_explore_30 : decode cX1_explore 30 = .ok (.putfield 43, 3) := by decide +kernel
theorem dX1_explore_33 : decode cX1_explore 33 = .ok (.aload_n 0, 1) := by decide +kernel
theorem dX1_explore_34 : decode cX1_explore 34 = .ok (.getfield 9, 3) := by decide +kernel
theorem dX1_explore_37 : decode cX1_explore 37 = .ok (.bipush 40, 2) := by decide +kernel
theorem dX1_explore_39 : decode cX1_explore 39 = .ok (.iconst (-1), 1) := by decide +kernel
theorem dX1_explore_40 : decode cX1_explore 40 = .ok (.iastore, 1) := by decide +kernel
theorem dX1_explore_41 : decode cX1_explore 41 = .ok (.iconst 0, 1) := by decide +kernel
theorem dX1_explore_42 : decode cX1_explore 42 = .ok (.istore_n 1, 1) := by decide +kernel
theorem dX1_explore_43 : decode cX1_explore 43 = .ok (.iload_n 1, 1) := by decide +kernel
theorem dX1_explore_44 : decode cX1_explore 44 = .ok (.aload_n 0, 1) := by decide +kernel
theorem dX1_explore_45 : decode cX1_explore 45 = .ok (.getfield 24, 3) := by decide +kernel
theorem dX1_explore_48 : decode cX1_explore 48 = .ok (.getfield 47, 3) := by decide +kernel
theorem dX1_explore_51 : decode cX1_explore 51 = .ok (.if_icmp .gt 51, 3) := by decide +kernel
theorem dX1_explore_54 : decode cX1_explore 54 = .ok (.aload_n 0, 1) := by decide +kernel
theorem dX1_explore_55 : decode cX1_explore 55 = .ok (.getfield 21, 3) := by decide +kernel
theorem dX1_explore_58 : decode cX1_explore 58 = .ok (.iload_n 1, 1) := by decide +kernel
theorem dX1_explore_59 : decode cX1_explore 59 = .ok (.aload_n 0, 1) := by decide +kernel
theorem dX1_explore_60 : decode cX1_explore 60 = .ok (.getfield 43, 3) := by decide +kernel
theorem dX1_explore_63 : decode cX1_explore 63 = .ok (.iastore, 1) := by decide +kernel
theorem dX1_explore_64 : decode cX1_explore 64 = .ok (.iconst 0, 1) := by decide +kernel
theorem dX1_explore_65 : decode cX1_explore 65 = .ok (.istore_n 2, 1) := by decide +kernel
theorem dX1_explore_66 : decode cX1_explore 66 = .ok (.iload_n 2, 1) := by decide +kernel
theorem dX1_explore_67 : decode cX1_explore 67 = .ok (.aload_n 0, 1) := by decide +kernel
theorem dX1_explore_68 : decode cX1_explore 68 = .ok (.getfield 24, 3) := by decide +kernel
theorem dX1_explore_71 : decode cX1_explore 71 = .ok (.invokevirtual 50, 3) := by decide +kernel
theorem dX1_explore_74 : decode cX1_explore 74 = .ok (.if_icmp .gt 22, 3) := by decide +kernel
theorem dX1_explore_77 : decode cX1_explore 77 = .ok (.iload_n 2, 1) := by decide +kernel
theorem dX1_explore_78 : decode cX1_explore 78 = .ok (.invokestatic 54, 3) := by decide +kernel
theorem dX1_explore_81 : decode cX1_explore 81 = .ok (.iload_n 1, 1) := by decide +kernel
theorem dX1_explore_82 : decode cX1_explore 82 = .ok (.if_icmp .ne 8, 3) := by decide +kernel
theorem dX1_explore_85 : decode cX1_explore 85 = .ok (.aload_n 0, 1) := by decide +kernel
theorem dX1_explore_86 : decode cX1_explore 86 = .ok (.iload_n 2, 1) := by decide +kernel
theorem dX1_explore_87 : decode cX1_explore 87 = .ok (.invokevirtual 60, 3) := by decide +kernel
theorem dX1_explore_90 : decode cX1_explore 90 = .ok (.iinc 2 1, 3) := by decide +kernel
theorem dX1_explore_93 : decode cX1_explore 93 = .ok (.goto (-27), 3) := by decide +kernel
theorem dX1_explore_96 : decode cX1_explore 96 = .ok (.iinc 1 1, 3) := by decide +kernel
theorem dX1_explore_99 : decode cX1_explore 99 = .ok (.goto (-56), 3) := by decide +kernel
theorem dX1_explore_102 : decode cX1_explore 102 = .ok (.aload_n 0, 1) := by decide +kernel
theorem dX1_explore_103 : decode cX1_explore 103 = .ok (.getfield 21, 3) := by decide +kernel
theorem dX1_explore_106 : decode cX1_explore 106 = .ok (.aload_n 0, 1) := by decide +kernel
theorem dX1_explore_107 : decode cX1_explore 107 = .ok (.getfield 24, 3) := by decide +kernel
theorem dX1_explore_110 : decode cX1_explore 110 = .ok (.getfield 47, 3) := by decide +kernel
theorem dX1_explore_113 : decode cX1_explore 113 = .ok (.iconst 1, 1) := by decide +kernel
theorem dX1_explore_114 : decode cX1_explore 114 = .ok (.iadd, 1) := by decide +kernel
theorem dX1_explore_115 : decode cX1_explore 115 = .ok (.aload_n 0, 1) := by decide +kernel
theorem dX1_explore_116 : decode cX1_explore 116 = .ok (.getfield 43, 3) := by decide +kernel
theorem dX1_explore_119 : decode cX1_explore 119 = .ok (.iastore, 1) := by decide +kernel
theorem dX1_explore_120 : decode cX1_explore 120 = .ok (.return_, 1) := by decide +kernel
theorem dX1_exploreMask_0 : decode cX1_exploreMask 0 = .ok (.iconst 0, 1) := by decide +kernel
theorem dX1_exploreMask_1 : decode cX1_exploreMask 1 = .ok (.istore_n 2, 1) := by decide +kernel
theorem dX1_exploreMask_2 : decode cX1_exploreMask 2 = .ok (.iload_n 2, 1) := by decide +kernel
theorem dX1_exploreMask_3 : decode cX1_exploreMask 3 = .ok (.aload_n 0, 1) := by decide +kernel
theorem dX1_exploreMask_4 : decode cX1_exploreMask 4 = .ok (.getfield 24, 3) := by decide +kernel
theorem dX1_exploreMask_7 : decode cX1_exploreMask 7 = .ok (.getfield 47, 3) := by decide +kernel
theorem dX1_exploreMask_10 : decode cX1_exploreMask 10 = .ok (.if_icmp .gt 113, 3) := by decide +kernel
theorem dX1_exploreMask_13 : decode cX1_exploreMask 13 = .ok (.iload_n 1, 1) := by decide +kernel
theorem dX1_exploreMask_14 : decode cX1_exploreMask 14 = .ok (.iload_n 2, 1) := by decide +kernel
theorem dX1_exploreMask_15 : decode cX1_exploreMask 15 = .ok (.invokestatic 64, 3) := by decide +kernel
theorem dX1_exploreMask_18 : decode cX1_exploreMask 18 = .ok (.ifCond .eq 8, 3) := by decide +kernel
theorem dX1_exploreMask_21 : decode cX1_exploreMask 21 = .ok (.bipush 41, 2) := by decide +kernel
theorem dX1_exploreMask_23 : decode cX1_exploreMask 23 = .ok (.goto 4, 3) := by decide +kernel
theorem dX1_exploreMask_26 : decode cX1_exploreMask 26 = .ok (.iconst 0, 1) := by decide +kernel
theorem dX1_exploreMask_27 : decode cX1_exploreMask 27 = .ok (.istore_n 3, 1) := by decide +kernel
theorem dX1_exploreMask_28 : decode cX1_exploreMask 28 = .ok (.iconst 0, 1) := by decide +kernel
theorem dX1_exploreMask_29 : decode cX1_exploreMask 29 = .ok (.istore 4, 2) := by decide +kernel
theorem dX1_exploreMask_31 : decode cX1_exploreMask 31 = .ok (.iload 4, 2) := by decide +kernel
theorem dX1_exploreMask_33 : decode cX1_exploreMask 33 = .ok (.iload_n 3, 1) := by decide +kernel
theorem dX1_exploreMask_34 : decode cX1_exploreMask 34 = .ok (.if_icmp .ge 83, 3) := by decide +kernel
theorem dX1_exploreMask_37 : decode cX1_exploreMask 37 = .ok (.iload_n 1, 1) := by decide +kernel
theorem dX1_exploreMask_38 : decode cX1_exploreMask 38 = .ok (.bipush 7, 2) := by decide +kernel
theorem dX1_exploreMask_40 : decode cX1_exploreMask 40 = .ok (.imul, 1) := by decide +kernel
theorem dX1_exploreMask_41 : decode cX1_exploreMask 41 = .ok (.iload_n 2, 1) := by decide +kernel
theorem dX1_exploreMask_42 : decode cX1_exploreMask 42 = .ok (.iadd, 1) := by decide +kernel
theorem dX1_exploreMask_43 : decode cX1_exploreMask 43 = .ok (.bipush 41, 2) := by decide +kernel
theorem dX1_exploreMask_45 : decode cX1_exploreMask 45 = .ok (.imul, 1) := by decide +kernel
theorem dX1_exploreMask_46 : decode cX1_exploreMask 46 = .ok (.iload 4, 2) := by decide +kernel
theorem dX1_exploreMask_48 : decode cX1_exploreMask 48 = .ok (.iadd, 1) := by decide +kernel
theorem dX1_exploreMask_49 : decode cX1_exploreMask 49 = .ok (.istore 5, 2) := by decide +kernel
theorem dX1_exploreMask_51 : decode cX1_exploreMask 51 = .ok (.aload_n 0, 1) := by decide +kernel
theorem dX1_exploreMask_52 : decode cX1_exploreMask 52 = .ok (.getfield 9, 3) := by decide +kernel
theorem dX1_exploreMask_55 : decode cX1_exploreMask 55 = .ok (.iload 5, 2) := by decide +kernel
theorem dX1_exploreMask_57 : decode cX1_exploreMask 57 = .ok (.iaload, 1) := by decide +kernel
theorem dX1_exploreMask_58 : decode cX1_exploreMask 58 = .ok (.iconst (-1), 1) := by decide +kernel
theorem dX1_exploreMask_59 : decode cX1_exploreMask 59 = .ok (.if_icmp .ne 52, 3) := by decide +kernel
theorem dX1_exploreMask_62 : decode cX1_exploreMask 62 = .ok (.aload_n 0, 1) := by decide +kernel
theorem dX1_exploreMask_63 : decode cX1_exploreMask 63 = .ok (.getfield 43, 3) := by decide +kernel
theorem dX1_exploreMask_66 : decode cX1_exploreMask 66 = .ok (.sipush 7913, 3) := by decide +kernel
theorem dX1_exploreMask_69 : decode cX1_exploreMask 69 = .ok (.if_icmp .ge 42, 3) := by decide +kernel
theorem dX1_exploreMask_72 : decode cX1_exploreMask 72 = .ok (.aload_n 0, 1) := by decide +kernel
theorem dX1_exploreMask_73 : decode cX1_exploreMask 73 = .ok (.getfield 15, 3) := by decide +kernel
theorem dX1_exploreMask_76 : decode cX1_exploreMask 76 = .ok (.aload_n 0, 1) := by decide +kernel
theorem dX1_exploreMask_77 : decode cX1_exploreMask 77 = .ok (.getfield 43, 3) := by decide +kernel
theorem dX1_exploreMask_80 : decode cX1_exploreMask 80 = .ok (.iload 5, 2) := by decide +kernel
theorem dX1_exploreMask_82 : decode cX1_exploreMask 82 = .ok (.iastore, 1) := by decide +kernel
theorem dX1_exploreMask_83 : decode cX1_exploreMask 83 = .ok (.aload_n 0, 1) := by decide +kernel
theorem dX1_exploreMask_84 : decode cX1_exploreMask 84 = .ok (.dup, 1) := by decide +kernel
theorem dX1_exploreMask_85 : decode cX1_exploreMask 85 = .ok (.getfield 43, 3) := by decide +kernel
theorem dX1_exploreMask_88 : decode cX1_exploreMask 88 = .ok (.iconst 1, 1) := by decide +kernel
theorem dX1_exploreMask_89 : decode cX1_exploreMask 89 = .ok (.iadd, 1) := by decide +kernel
theorem dX1_exploreMask_90 : decode cX1_exploreMask 90 = .ok (.putfield 43, 3) := by decide +kernel
theorem dX1_exploreMask_93 : decode cX1_exploreMask 93 = .ok (.aload_n 0, 1) := by decide +kernel
theorem dX1_exploreMask_94 : decode cX1_exploreMask 94 = .ok (.getfield 9, 3) := by decide +kernel
theorem dX1_exploreMask_97 : decode cX1_exploreMask 97 = .ok (.iload 5, 2) := by decide +kernel
theorem dX1_exploreMask_99 : decode cX1_exploreMask 99 = .ok (.aload_n 0, 1) := by decide +kernel
theorem dX1_exploreMask_100 : decode cX1_exploreMask 100 = .ok (.getfield 43, 3) := by decide +kernel
theorem dX1_exploreMask_103 : decode cX1_exploreMask 103 = .ok (.iastore, 1) := by decide +kernel
theorem dX1_exploreMask_104 : decode cX1_exploreMask 104 = .ok (.aload_n 0, 1) := by decide +kernel
theorem dX1_exploreMask_105 : decode cX1_exploreMask 105 = .ok (.iload_n 1, 1) := by decide +kernel
theorem dX1_exploreMask_106 : decode cX1_exploreMask 106 = .ok (.iload 4, 2) := by decide +kernel
theorem dX1_exploreMask_108 : decode cX1_exploreMask 108 = .ok (.invokevirtual 68, 3) := by decide +kernel
theorem dX1_exploreMask_111 : decode cX1_exploreMask 111 = .ok (.iinc 4 1, 3) := by decide +kernel
theorem dX1_exploreMask_114 : decode cX1_exploreMask 114 = .ok (.goto (-83), 3) := by decide +kernel
theorem dX1_exploreMask_117 : decode cX1_exploreMask 117 = .ok (.iinc 2 1, 3) := by decide +kernel
theorem dX1_exploreMask_120 : decode cX1_exploreMask 120 = .ok (.goto (-118), 3) := by decide +kernel
theorem dX1_exploreMask_123 : decode cX1_exploreMask 123 = .ok (.return_, 1) := by decide +kernel
theorem dX1_mayEnd_0 : decode cX1_mayEnd 0 = .ok (.iload_n 1, 1) := by decide +kernel
theorem dX1_mayEnd_1 : decode cX1_mayEnd 1 = .ok (.ifCond .ne 15, 3) := by decide +kernel
theorem dX1_mayEnd_4 : decode cX1_mayEnd 4 = .ok (.iload_n 0, 1) := by decide +kernel
theorem dX1_mayEnd_5 : decode cX1_mayEnd 5 = .ok (.ifCond .ne 7, 3) := by decide +kernel
theorem dX1_mayEnd_8 : decode cX1_mayEnd 8 = .ok (.iconst 1, 1) := by decide +kernel
theorem dX1_mayEnd_9 : decode cX1_mayEnd 9 = .ok (.goto 22, 3) := by decide +kernel
theorem dX1_mayEnd_12 : decode cX1_mayEnd 12 = .ok (.iconst 0, 1) := by decide +kernel
theorem dX1_mayEnd_13 : decode cX1_mayEnd 13 = .ok (.goto 18, 3) := by decide +kernel
theorem dX1_mayEnd_16 : decode cX1_mayEnd 16 = .ok (.iload_n 0, 1) := by decide +kernel
theorem dX1_mayEnd_17 : decode cX1_mayEnd 17 = .ok (.iload_n 1, 1) := by decide +kernel
theorem dX1_mayEnd_18 : decode cX1_mayEnd 18 = .ok (.iconst 1, 1) := by decide +kernel
theorem dX1_mayEnd_19 : decode cX1_mayEnd 19 = .ok (.isub, 1) := by decide +kernel
theorem dX1_mayEnd_20 : decode cX1_mayEnd 20 = .ok (.ishr, 1) := by decide +kernel
theorem dX1_mayEnd_21 : decode cX1_mayEnd 21 = .ok (.iconst 1, 1) := by decide +kernel
theorem dX1_mayEnd_22 : decode cX1_mayEnd 22 = .ok (.iand, 1) := by decide +kernel
theorem dX1_mayEnd_23 : decode cX1_mayEnd 23 = .ok (.ifCond .eq 7, 3) := by decide +kernel
theorem dX1_mayEnd_26 : decode cX1_mayEnd 26 = .ok (.iconst 1, 1) := by decide +kernel
theorem dX1_mayEnd_27 : decode cX1_mayEnd 27 = .ok (.goto 4, 3) := by decide +kernel
theorem dX1_mayEnd_30 : decode cX1_mayEnd 30 = .ok (.iconst 0, 1) := by decide +kernel
theorem dX1_mayEnd_31 : decode cX1_mayEnd 31 = .ok (.ireturn, 1) := by decide +kernel
theorem dX1_meetFrom_0 : decode cX1_meetFrom 0 = .ok (.iconst 0, 1) := by decide +kernel
theorem dX1_meetFrom_1 : decode cX1_meetFrom 1 = .ok (.istore_n 3, 1) := by decide +kernel
theorem dX1_meetFrom_2 : decode cX1_meetFrom 2 = .ok (.iload_n 3, 1) := by decide +kernel
theorem dX1_meetFrom_3 : decode cX1_meetFrom 3 = .ok (.aload_n 0, 1) := by decide +kernel
theorem dX1_meetFrom_4 : decode cX1_meetFrom 4 = .ok (.getfield 24, 3) := by decide +kernel
theorem dX1_meetFrom_7 : decode cX1_meetFrom 7 = .ok (.getfield 72, 3) := by decide +kernel
theorem dX1_meetFrom_10 : decode cX1_meetFrom 10 = .ok (.if_icmp .ge 36, 3) := by decide +kernel
theorem dX1_meetFrom_13 : decode cX1_meetFrom 13 = .ok (.iload_n 1, 1) := by decide +kernel
theorem dX1_meetFrom_14 : decode cX1_meetFrom 14 = .ok (.aload_n 0, 1) := by decide +kernel
theorem dX1_meetFrom_15 : decode cX1_meetFrom 15 = .ok (.getfield 24, 3) := by decide +kernel
theorem dX1_meetFrom_18 : decode cX1_meetFrom 18 = .ok (.getfield 28, 3) := by decide +kernel
theorem dX1_meetFrom_21 : decode cX1_meetFrom 21 = .ok (.iload_n 3, 1) := by decide +kernel
theorem dX1_meetFrom_22 : decode cX1_meetFrom 22 = .ok (.iaload, 1) := by decide +kernel
theorem dX1_meetFrom_23 : decode cX1_meetFrom 23 = .ok (.iand, 1) := by decide +kernel
theorem dX1_meetFrom_24 : decode cX1_meetFrom 24 = .ok (.ifCond .ne 16, 3) := by decide +kernel
theorem dX1_meetFrom_27 : decode cX1_meetFrom 27 = .ok (.aload_n 0, 1) := by decide +kernel
theorem dX1_meetFrom_28 : decode cX1_meetFrom 28 = .ok (.getfield 9, 3) := by decide +kernel
theorem dX1_meetFrom_31 : decode cX1_meetFrom 31 = .ok (.aload_n 0, 1) := by decide +kernel
theorem dX1_meetFrom_32 : decode cX1_meetFrom 32 = .ok (.iload_n 1, 1) := by decide +kernel
theorem dX1_meetFrom_33 : decode cX1_meetFrom 33 = .ok (.iload_n 2, 1) := by decide +kernel
theorem dX1_meetFrom_34 : decode cX1_meetFrom 34 = .ok (.iload_n 3, 1) := by decide +kernel
theorem dX1_meetFrom_35 : decode cX1_meetFrom 35 = .ok (.invokevirtual 39, 3) := by decide +kernel
theorem dX1_meetFrom_38 : decode cX1_meetFrom 38 = .ok (.iconst (-1), 1) := by decide +kernel
theorem dX1_meetFrom_39 : decode cX1_meetFrom 39 = .ok (.iastore, 1) := by decide +kernel
theorem dX1_meetFrom_40 : decode cX1_meetFrom 40 = .ok (.iinc 3 1, 3) := by decide +kernel
theorem dX1_meetFrom_43 : decode cX1_meetFrom 43 = .ok (.goto (-41), 3) := by decide +kernel
theorem dX1_meetFrom_46 : decode cX1_meetFrom 46 = .ok (.return_, 1) := by decide +kernel
theorem dX1_reckon_0 : decode cX1_reckon 0 = .ok (.aload_n 0, 1) := by decide +kernel
theorem dX1_reckon_1 : decode cX1_reckon 1 = .ok (.iload_n 1, 1) := by decide +kernel
theorem dX1_reckon_2 : decode cX1_reckon 2 = .ok (.putfield 73, 3) := by decide +kernel
theorem dX1_reckon_5 : decode cX1_reckon 5 = .ok (.aload_n 0, 1) := by decide +kernel
theorem dX1_reckon_6 : decode cX1_reckon 6 = .ok (.iload_n 2, 1) := by decide +kernel
theorem dX1_reckon_7 : decode cX1_reckon 7 = .ok (.putfield 76, 3) := by decide +kernel
theorem dX1_reckon_10 : decode cX1_reckon 10 = .ok (.aload_n 0, 1) := by decide +kernel
theorem dX1_reckon_11 : decode cX1_reckon 11 = .ok (.iload_n 3, 1) := by decide +kernel
theorem dX1_reckon_12 : decode cX1_reckon 12 = .ok (.putfield 79, 3) := by decide +kernel
theorem dX1_reckon_15 : decode cX1_reckon 15 = .ok (.aload_n 0, 1) := by decide +kernel
theorem dX1_reckon_16 : decode cX1_reckon 16 = .ok (.getfield 21, 3) := by decide +kernel
theorem dX1_reckon_19 : decode cX1_reckon 19 = .ok (.aload_n 0, 1) := by decide +kernel
theorem dX1_reckon_20 : decode cX1_reckon 20 = .ok (.getfield 24, 3) := by decide +kernel
theorem dX1_reckon_23 : decode cX1_reckon 23 = .ok (.getfield 47, 3) := by decide +kernel
theorem dX1_reckon_26 : decode cX1_reckon 26 = .ok (.iaload, 1) := by decide +kernel
theorem dX1_reckon_27 : decode cX1_reckon 27 = .ok (.istore 4, 2) := by decide +kernel
theorem dX1_reckon_29 : decode cX1_reckon 29 = .ok (.aload_n 0, 1) := by decide +kernel
theorem dX1_reckon_30 : decode cX1_reckon 30 = .ok (.getfield 43, 3) := by decide +kernel
theorem dX1_reckon_33 : decode cX1_reckon 33 = .ok (.iconst 1, 1) := by decide +kernel
theorem dX1_reckon_34 : decode cX1_reckon 34 = .ok (.isub, 1) := by decide +kernel
theorem dX1_reckon_35 : decode cX1_reckon 35 = .ok (.istore 5, 2) := by decide +kernel
theorem dX1_reckon_37 : decode cX1_reckon 37 = .ok (.iload 5, 2) := by decide +kernel
theorem dX1_reckon_39 : decode cX1_reckon 39 = .ok (.ifCond .lt 45, 3) := by decide +kernel
theorem dX1_reckon_42 : decode cX1_reckon 42 = .ok (.aload_n 0, 1) := by decide +kernel
theorem dX1_reckon_43 : decode cX1_reckon 43 = .ok (.getfield 18, 3) := by decide +kernel
theorem dX1_reckon_46 : decode cX1_reckon 46 = .ok (.iload 5, 2) := by decide +kernel
theorem dX1_reckon_48 : decode cX1_reckon 48 = .ok (.iload 5, 2) := by decide +kernel
theorem dX1_reckon_50 : decode cX1_reckon 50 = .ok (.iload 4, 2) := by decide +kernel
theorem dX1_reckon_52 : decode cX1_reckon 52 = .ok (.if_icmp .lt 19, 3) := by decide +kernel
theorem dX1_reckon_55 : decode cX1_reckon 55 = .ok (.aload_n 0, 1) := by decide +kernel
theorem dX1_reckon_56 : decode cX1_reckon 56 = .ok (.getfield 24, 3) := by decide +kernel
theorem dX1_reckon_59 : decode cX1_reckon 59 = .ok (.aload_n 0, 1) := by decide +kernel
theorem dX1_reckon_60 : decode cX1_reckon 60 = .ok (.iload 5, 2) := by decide +kernel
theorem dX1_reckon_62 : decode cX1_reckon 62 = .ok (.invokevirtual 82, 3) := by decide +kernel
theorem dX1_reckon_65 : decode cX1_reckon 65 = .ok (.invokevirtual 85, 3) := by decide +kernel
theorem dX1_reckon_68 : decode cX1_reckon 68 = .ok (.goto 9, 3) := by decide +kernel
theorem dX1_reckon_71 : decode cX1_reckon 71 = .ok (.aload_n 0, 1) := by decide +kernel
theorem dX1_reckon_72 : decode cX1_reckon 72 = .ok (.iload 5, 2) := by decide +kernel
theorem dX1_reckon_74 : decode cX1_reckon 74 = .ok (.invokevirtual 88, 3) := by decide +kernel
theorem dX1_reckon_77 : decode cX1_reckon 77 = .ok (.iastore, 1) := by decide +kernel
theorem dX1_reckon_78 : decode cX1_reckon 78 = .ok (.iinc 5 (-1), 3) := by decide +kernel
theorem dX1_reckon_81 : decode cX1_reckon 81 = .ok (.goto (-44), 3) := by decide +kernel
theorem dX1_reckon_84 : decode cX1_reckon 84 = .ok (.return_, 1) := by decide +kernel
theorem dX1_leastRest_0 : decode cX1_leastRest 0 = .ok (.aload_n 0, 1) := by decide +kernel
theorem dX1_leastRest_1 : decode cX1_leastRest 1 = .ok (.iload_n 1, 1) := by decide +kernel
theorem dX1_leastRest_2 : decode cX1_leastRest 2 = .ok (.invokevirtual 91, 3) := by decide +kernel
theorem dX1_leastRest_5 : decode cX1_leastRest 5 = .ok (.istore_n 2, 1) := by decide +kernel
theorem dX1_leastRest_6 : decode cX1_leastRest 6 = .ok (.aload_n 0, 1) := by decide +kernel
theorem dX1_leastRest_7 : decode cX1_leastRest 7 = .ok (.iload_n 1, 1) := by decide +kernel
theorem dX1_leastRest_8 : decode cX1_leastRest 8 = .ok (.invokevirtual 94, 3) := by decide +kernel
theorem dX1_leastRest_11 : decode cX1_leastRest 11 = .ok (.istore_n 3, 1) := by decide +kernel
theorem dX1_leastRest_12 : decode cX1_leastRest 12 = .ok (.aload_n 0, 1) := by decide +kernel
theorem dX1_leastRest_13 : decode cX1_leastRest 13 = .ok (.iload_n 1, 1) := by decide +kernel
theorem dX1_leastRest_14 : decode cX1_leastRest 14 = .ok (.invokevirtual 82, 3) := by decide +kernel
theorem dX1_leastRest_17 : decode cX1_leastRest 17 = .ok (.istore 4, 2) := by decide +kernel
theorem dX1_leastRest_19 : decode cX1_leastRest 19 = .ok (.ldc 97, 2) := by decide +kernel
theorem dX1_leastRest_21 : decode cX1_leastRest 21 = .ok (.istore 5, 2) := by decide +kernel
theorem dX1_leastRest_23 : decode cX1_leastRest 23 = .ok (.iconst 0, 1) := by decide +kernel
theorem dX1_leastRest_24 : decode cX1_leastRest 24 = .ok (.istore 6, 2) := by decide +kernel
theorem dX1_leastRest_26 : decode cX1_leastRest 26 = .ok (.iload 6, 2) := by decide +kernel
theorem dX1_leastRest_28 : decode cX1_leastRest 28 = .ok (.aload_n 0, 1) := by decide +kernel
theorem dX1_leastRest_29 : decode cX1_leastRest 29 = .ok (.getfield 24, 3) := by decide +kernel
theorem dX1_leastRest_32 : decode cX1_leastRest 32 = .ok (.getfield 72, 3) := by decide +kernel
theorem dX1_leastRest_35 : decode cX1_leastRest 35 = .ok (.if_icmp .ge 115, 3) := by decide +kernel
theorem dX1_leastRest_38 : decode cX1_leastRest 38 = .ok (.iload_n 2, 1) := by decide +kernel
theorem dX1_leastRest_39 : decode cX1_leastRest 39 = .ok (.aload_n 0, 1) := by decide +kernel
theorem dX1_leastRest_40 : decode cX1_leastRest 40 = .ok (.getfield 24, 3) := by decide +kernel
theorem dX1_leastRest_43 : decode cX1_leastRest 43 = .ok (.getfield 28, 3) := by decide +kernel
theorem dX1_leastRest_46 : decode cX1_leastRest 46 = .ok (.iload 6, 2) := by decide +kernel
theorem dX1_leastRest_48 : decode cX1_leastRest 48 = .ok (.iaload, 1) := by decide +kernel
theorem dX1_leastRest_49 : decode cX1_leastRest 49 = .ok (.iand, 1) := by decide +kernel
theorem dX1_leastRest_50 : decode cX1_leastRest 50 = .ok (.ifCond .ne 94, 3) := by decide +kernel
theorem dX1_leastRest_53 : decode cX1_leastRest 53 = .ok (.aload_n 0, 1) := by decide +kernel
theorem dX1_leastRest_54 : decode cX1_leastRest 54 = .ok (.getfield 24, 3) := by decide +kernel
theorem dX1_leastRest_57 : decode cX1_leastRest 57 = .ok (.getfield 98, 3) := by decide +kernel
theorem dX1_leastRest_60 : decode cX1_leastRest 60 = .ok (.iload 6, 2) := by decide +kernel
theorem dX1_leastRest_62 : decode cX1_leastRest 62 = .ok (.iaload, 1) := by decide +kernel
theorem dX1_leastRest_63 : decode cX1_leastRest 63 = .ok (.aload_n 0, 1) := by decide +kernel
theorem dX1_leastRest_64 : decode cX1_leastRest 64 = .ok (.getfield 79, 3) := by decide +kernel
theorem dX1_leastRest_67 : decode cX1_leastRest 67 = .ok (.if_icmp .ne 6, 3) := by decide +kernel
theorem dX1_leastRest_70 : decode cX1_leastRest 70 = .ok (.goto 74, 3) := by decide +kernel
theorem dX1_leastRest_73 : decode cX1_leastRest 73 = .ok (.aload_n 0, 1) := by decide +kernel
theorem dX1_leastRest_74 : decode cX1_leastRest 74 = .ok (.getfield 24, 3) := by decide +kernel
theorem dX1_leastRest_77 : decode cX1_leastRest 77 = .ok (.iload 6, 2) := by decide +kernel
theorem dX1_leastRest_79 : decode cX1_leastRest 79 = .ok (.iload_n 3, 1) := by decide +kernel
theorem dX1_leastRest_80 : decode cX1_leastRest 80 = .ok (.invokevirtual 101, 3) := by decide +kernel
theorem dX1_leastRest_83 : decode cX1_leastRest 83 = .ok (.istore 7, 2) := by decide +kernel
theorem dX1_leastRest_85 : decode cX1_leastRest 85 = .ok (.aload_n 0, 1) := by decide +kernel
theorem dX1_leastRest_86 : decode cX1_leastRest 86 = .ok (.iload_n 2, 1) := by decide +kernel
theorem dX1_leastRest_87 : decode cX1_leastRest 87 = .ok (.iload 4, 2) := by decide +kernel
theorem dX1_leastRest_89 : decode cX1_leastRest 89 = .ok (.iload 6, 2) := by decide +kernel
theorem dX1_leastRest_91 : decode cX1_leastRest 91 = .ok (.invokevirtual 105, 3) := by decide +kernel
theorem dX1_leastRest_94 : decode cX1_leastRest 94 = .ok (.istore 8, 2) := by decide +kernel
theorem dX1_leastRest_96 : decode cX1_leastRest 96 = .ok (.iload 7, 2) := by decide +kernel
theorem dX1_leastRest_98 : decode cX1_leastRest 98 = .ok (.aload_n 0, 1) := by decide +kernel
theorem dX1_leastRest_99 : decode cX1_leastRest 99 = .ok (.getfield 76, 3) := by decide +kernel
theorem dX1_leastRest_102 : decode cX1_leastRest 102 = .ok (.if_icmp .gt 42, 3) := by decide +kernel
theorem dX1_leastRest_105 : decode cX1_leastRest 105 = .ok (.iload 8, 2) := by decide +kernel
theorem dX1_leastRest_107 : decode cX1_leastRest 107 = .ok (.ifCond .lt 37, 3) := by decide +kernel
theorem dX1_leastRest_110 : decode cX1_leastRest 110 = .ok (.iload 5, 2) := by decide +kernel
theorem dX1_leastRest_112 : decode cX1_leastRest 112 = .ok (.aload_n 0, 1) := by decide +kernel
theorem dX1_leastRest_113 : decode cX1_leastRest 113 = .ok (.getfield 18, 3) := by decide +kernel
theorem dX1_leastRest_116 : decode cX1_leastRest 116 = .ok (.iload 8, 2) := by decide +kernel
theorem dX1_leastRest_118 : decode cX1_leastRest 118 = .ok (.iaload, 1) := by decide +kernel
theorem dX1_leastRest_119 : decode cX1_leastRest 119 = .ok (.aload_n 0, 1) := by decide +kernel
theorem dX1_leastRest_120 : decode cX1_leastRest 120 = .ok (.getfield 24, 3) := by decide +kernel
theorem dX1_leastRest_123 : decode cX1_leastRest 123 = .ok (.iload 6, 2) := by decide +kernel
theorem dX1_leastRest_125 : decode cX1_leastRest 125 = .ok (.iload 4, 2) := by decide +kernel
theorem dX1_leastRest_127 : decode cX1_leastRest 127 = .ok (.invokevirtual 108, 3) := by decide +kernel
theorem dX1_leastRest_130 : decode cX1_leastRest 130 = .ok (.iadd, 1) := by decide +kernel
theorem dX1_leastRest_131 : decode cX1_leastRest 131 = .ok (.aload_n 0, 1) := by decide +kernel
theorem dX1_leastRest_132 : decode cX1_leastRest 132 = .ok (.getfield 73, 3) := by decide +kernel
theorem dX1_leastRest_135 : decode cX1_leastRest 135 = .ok (.iload 7, 2) := by decide +kernel
theorem dX1_leastRest_137 : decode cX1_leastRest 137 = .ok (.imul, 1) := by decide +kernel
theorem dX1_leastRest_138 : decode cX1_leastRest 138 = .ok (.iadd, 1) := by decide +kernel
theorem dX1_leastRest_139 : decode cX1_leastRest 139 = .ok (.invokestatic 111, 3) := by decide +kernel
theorem dX1_leastRest_142 : decode cX1_leastRest 142 = .ok (.istore 5, 2) := by decide +kernel
theorem dX1_leastRest_144 : decode cX1_leastRest 144 = .ok (.iinc 6 1, 3) := by decide +kernel
theorem dX1_leastRest_147 : decode cX1_leastRest 147 = .ok (.goto (-121), 3) := by decide +kernel
theorem dX1_leastRest_150 : decode cX1_leastRest 150 = .ok (.iload 5, 2) := by decide +kernel
theorem dX1_leastRest_152 : decode cX1_leastRest 152 = .ok (.ireturn, 1) := by decide +kernel
theorem dX2_init_0 : decode cX2_init 0 = .ok (.aload_n 0, 1) := by decide +kernel
theorem dX2_init_1 : decode cX2_init 1 = .ok (.invokespecial 3, 3) := by decide +kernel
theorem dX2_init_4 : decode cX2_init 4 = .ok (.aload_n 0, 1) := by decide +kernel
theorem dX2_init_5 : decode cX2_init 5 = .ok (.sipush 320, 3) := by decide +kernel
theorem dX2_init_8 : decode cX2_init 8 = .ok (.newarray .int, 2) := by decide +kernel
theorem dX2_init_10 : decode cX2_init 10 = .ok (.putfield 9, 3) := by decide +kernel
theorem dX2_init_13 : decode cX2_init 13 = .ok (.aload_n 0, 1) := by decide +kernel
theorem dX2_init_14 : decode cX2_init 14 = .ok (.bipush 40, 2) := by decide +kernel
theorem dX2_init_16 : decode cX2_init 16 = .ok (.newarray .int, 2) := by decide +kernel
theorem dX2_init_18 : decode cX2_init 18 = .ok (.putfield 15, 3) := by decide +kernel
theorem dX2_init_21 : decode cX2_init 21 = .ok (.aload_n 0, 1) := by decide +kernel
theorem dX2_init_22 : decode cX2_init 22 = .ok (.bipush 90, 2) := by decide +kernel
theorem dX2_init_24 : decode cX2_init 24 = .ok (.newarray .int, 2) := by decide +kernel
theorem dX2_init_26 : decode cX2_init 26 = .ok (.putfield 18, 3) := by decide +kernel
theorem dX2_init_29 : decode cX2_init 29 = .ok (.aload_n 0, 1) := by decide +kernel
theorem dX2_init_30 : decode cX2_init 30 = .ok (.bipush 30, 2) := by decide +kernel
theorem dX2_init_32 : decode cX2_init 32 = .ok (.newarray .int, 2) := by decide +kernel
theorem dX2_init_34 : decode cX2_init 34 = .ok (.putfield 21, 3) := by decide +kernel
theorem dX2_init_37 : decode cX2_init 37 = .ok (.aload_n 0, 1) := by decide +kernel
theorem dX2_init_38 : decode cX2_init 38 = .ok (.bipush 90, 2) := by decide +kernel
theorem dX2_init_40 : decode cX2_init 40 = .ok (.newarray .int, 2) := by decide +kernel
theorem dX2_init_42 : decode cX2_init 42 = .ok (.putfield 24, 3) := by decide +kernel
theorem dX2_init_45 : decode cX2_init 45 = .ok (.aload_n 0, 1) := by decide +kernel
theorem dX2_init_46 : decode cX2_init 46 = .ok (.bipush 30, 2) := by decide +kernel
theorem dX2_init_48 : decode cX2_init 48 = .ok (.newarray .int, 2) := by decide +kernel
theorem dX2_init_50 : decode cX2_init 50 = .ok (.putfield 27, 3) := by decide +kernel
theorem dX2_init_53 : decode cX2_init 53 = .ok (.aload_n 0, 1) := by decide +kernel
theorem dX2_init_54 : decode cX2_init 54 = .ok (.bipush 30, 2) := by decide +kernel
theorem dX2_init_56 : decode cX2_init 56 = .ok (.newarray .int, 2) := by decide +kernel
theorem dX2_init_58 : decode cX2_init 58 = .ok (.putfield 30, 3) := by decide +kernel
theorem dX2_init_61 : decode cX2_init 61 = .ok (.aload_n 0, 1) := by decide +kernel
theorem dX2_init_62 : decode cX2_init 62 = .ok (.bipush 30, 2) := by decide +kernel
theorem dX2_init_64 : decode cX2_init 64 = .ok (.newarray .boolean, 2) := by decide +kernel
theorem dX2_init_66 : decode cX2_init 66 = .ok (.putfield 33, 3) := by decide +kernel
theorem dX2_init_69 : decode cX2_init 69 = .ok (.aload_n 0, 1) := by decide +kernel
theorem dX2_init_70 : decode cX2_init 70 = .ok (.sipush 1681, 3) := by decide +kernel
theorem dX2_init_73 : decode cX2_init 73 = .ok (.newarray .int, 2) := by decide +kernel
theorem dX2_init_75 : decode cX2_init 75 = .ok (.putfield 37, 3) := by decide +kernel
theorem dX2_init_78 : decode cX2_init 78 = .ok (.aload_n 0, 1) := by decide +kernel
theorem dX2_init_79 : decode cX2_init 79 = .ok (.bipush 6, 2) := by decide +kernel
theorem dX2_init_81 : decode cX2_init 81 = .ok (.newarray .int, 2) := by decide +kernel
theorem dX2_init_83 : decode cX2_init 83 = .ok (.putfield 40, 3) := by decide +kernel
theorem dX2_init_86 : decode cX2_init 86 = .ok (.aload_n 0, 1) := by decide +kernel
theorem dX2_init_87 : decode cX2_init 87 = .ok (.iconst 5, 1) := by decide +kernel
theorem dX2_init_88 : decode cX2_init 88 = .ok (.newarray .int, 2) := by decide +kernel
theorem dX2_init_90 : decode cX2_init 90 = .ok (.dup, 1) := by decide +kernel
theorem dX2_init_91 : decode cX2_init 91 = .ok (.iconst 0, 1) := by decide +kernel
theorem dX2_init_92 : decode cX2_init 92 = .ok (.bipush 20, 2) := by decide +kernel
theorem dX2_init_94 : decode cX2_init 94 = .ok (.iastore, 1) := by decide +kernel
theorem dX2_init_95 : decode cX2_init 95 = .ok (.dup, 1) := by decide +kernel
theorem dX2_init_96 : decode cX2_init 96 = .ok (.iconst 1, 1) := by decide +kernel
theorem dX2_init_97 : decode cX2_init 97 = .ok (.bipush 50, 2) := by decide +kernel
theorem dX2_init_99 : decode cX2_init 99 = .ok (.iastore, 1) := by decide +kernel
theorem dX2_init_100 : decode cX2_init 100 = .ok (.dup, 1) := by decide +kernel
theorem dX2_init_101 : decode cX2_init 101 = .ok (.iconst 2, 1) := by decide +kernel
theorem dX2_init_102 : decode cX2_init 102 = .ok (.iconst 2, 1) := by decide +kernel
theorem dX2_init_103 : decode cX2_init 103 = .ok (.iastore, 1) := by decide +kernel
theorem dX2_init_104 : decode cX2_init 104 = .ok (.dup, 1) := by decide +kernel
theorem dX2_init_105 : decode cX2_init 105 = .ok (.iconst 3, 1) := by decide +kernel
theorem dX2_init_106 : decode cX2_init 106 = .ok (.bipush 6, 2) := by decide +kernel
theorem dX2_init_108 : decode cX2_init 108 = .ok (.iastore, 1) := by decide +kernel
theorem dX2_init_109 : decode cX2_init 109 = .ok (.dup, 1) := by decide +kernel
theorem dX2_init_110 : decode cX2_init 110 = .ok (.iconst 4, 1) := by decide +kernel
theorem dX2_init_111 : decode cX2_init 111 = .ok (.bipush 8, 2) := by decide +kernel
theorem dX2_init_113 : decode cX2_init 113 = .ok (.iastore, 1) := by decide +kernel
theorem dX2_init_114 : decode cX2_init 114 = .ok (.putfield 43, 3) := by decide +kernel
theorem dX2_init_117 : decode cX2_init 117 = .ok (.return_, 1) := by decide +kernel
theorem dX2_copy_0 : decode cX2_copy 0 = .ok (.aload_n 1, 1) := by decide +kernel
theorem dX2_copy_1 : decode cX2_copy 1 = .ok (.getfield 9, 3) := by decide +kernel
theorem dX2_copy_4 : decode cX2_copy 4 = .ok (.iconst 0, 1) := by decide +kernel
theorem dX2_copy_5 : decode cX2_copy 5 = .ok (.aload_n 0, 1) := by decide +kernel
theorem dX2_copy_6 : decode cX2_copy 6 = .ok (.getfield 9, 3) := by decide +kernel
theorem dX2_copy_9 : decode cX2_copy 9 = .ok (.iconst 0, 1) := by decide +kernel
theorem dX2_copy_10 : decode cX2_copy 10 = .ok (.aload_n 0, 1) := by decide +kernel
theorem dX2_copy_11 : decode cX2_copy 11 = .ok (.getfield 9, 3) := by decide +kernel
theorem dX2_copy_14 : decode cX2_copy 14 = .ok (.arraylength, 1) := by decide +kernel
theorem dX2_copy_15 : decode cX2_copy 15 = .ok (.invokestatic 46, 3) := by decide +kernel
theorem dX2_copy_18 : decode cX2_copy 18 = .ok (.aload_n 1, 1) := by decide +kernel
theorem dX2_copy_19 : decode cX2_copy 19 = .ok (.getfield 15, 3) := by decide +kernel
theorem dX2_copy_22 : decode cX2_copy 22 = .ok (.iconst 0, 1) := by decide +kernel
theorem dX2_copy_23 : decode cX2_copy 23 = .ok (.aload_n 0, 1) := by decide +kernel
theorem dX2_copy_24 : decode cX2_copy 24 = .ok (.getfield 15, 3) := by decide +kernel
theorem dX2_copy_27 : decode cX2_copy 27 = .ok (.iconst 0, 1) := by decide +kernel
theorem dX2_copy_28 : decode cX2_copy 28 = .ok (.aload_n 0, 1) := by decide +kernel
theorem dX2_copy_29 : decode cX2_copy 29 = .ok (.getfield 15, 3) := by decide +kernel
theorem dX2_copy_32 : decode cX2_copy 32 = .ok (.arraylength, 1) := by decide +kernel
theorem dX2_copy_33 : decode cX2_copy 33 = .ok (.invokestatic 46, 3) := by decide +kernel
theorem dX2_copy_36 : decode cX2_copy 36 = .ok (.aload_n 0, 1) := by decide +kernel
theorem dX2_copy_37 : decode cX2_copy 37 = .ok (.aload_n 1, 1) := by decide +kernel
theorem dX2_copy_38 : decode cX2_copy 38 = .ok (.getfield 52, 3) := by decide +kernel
theorem dX2_copy_41 : decode cX2_copy 41 = .ok (.putfield 52, 3) := by decide +kernel
theorem dX2_copy_44 : decode cX2_copy 44 = .ok (.aload_n 1, 1) := by decide +kernel
theorem dX2_copy_45 : decode cX2_copy 45 = .ok (.getfield 18, 3) := by decide +kernel
theorem dX2_copy_48 : decode cX2_copy 48 = .ok (.iconst 0, 1) := by decide +kernel
theorem dX2_copy_49 : decode cX2_copy 49 = .ok (.aload_n 0, 1) := by decide +kernel
theorem dX2_copy_50 : decode cX2_copy 50 = .ok (.getfield 18, 3) := by decide +kernel
theorem dX2_copy_53 : decode cX2_copy 53 = .ok (.iconst 0, 1) := by decide +kernel
theorem dX2_copy_54 : decode cX2_copy 54 = .ok (.aload_n 0, 1) := by decide +kernel
theorem dX2_copy_55 : decode cX2_copy 55 = .ok (.getfield 18, 3) := by decide +kernel
theorem dX2_copy_58 : decode cX2_copy 58 = .ok (.arraylength, 1) := by decide +kernel
theorem dX2_copy_59 : decode cX2_copy 59 = .ok (.invokestatic 46, 3) := by decide +kernel
theorem dX2_copy_62 : decode cX2_copy 62 = .ok (.aload_n 1, 1) := by decide +kernel
theorem dX2_copy_63 : decode cX2_copy 63 = .ok (.getfield 21, 3) := by decide +kernel
theorem dX2_copy_66 : decode cX2_copy 66 = .ok (.iconst 0, 1) := by decide +kernel
theorem dX2_copy_67 : decode cX2_copy 67 = .ok (.aload_n 0, 1) := by decide +kernel
theorem dX2_copy_68 : decode cX2_copy 68 = .ok (.getfield 21, 3) := by decide +kernel
theorem dX2_copy_71 : decode cX2_copy 71 = .ok (.iconst 0, 1) := by decide +kernel
theorem dX2_copy_72 : decode cX2_copy 72 = .ok (.aload_n 0, 1) := by decide +kernel
theorem dX2_copy_73 : decode cX2_copy 73 = .ok (.getfield 21, 3) := by decide +kernel
theorem dX2_copy_76 : decode cX2_copy 76 = .ok (.arraylength, 1) := by decide +kernel
theorem dX2_copy_77 : decode cX2_copy 77 = .ok (.invokestatic 46, 3) := by decide +kernel
theorem dX2_copy_80 : decode cX2_copy 80 = .ok (.aload_n 1, 1) := by decide +kernel
theorem dX2_copy_81 : decode cX2_copy 81 = .ok (.getfield 24, 3) := by decide +kernel
theorem dX2_copy_84 : decode cX2_copy 84 = .ok (.iconst 0, 1) := by decide +kernel
theorem dX2_copy_85 : decode cX2_copy 85 = .ok (.aload_n 0, 1) := by decide +kernel
theorem dX2_copy_86 : decode cX2_copy 86 = .ok (.getfield 24, 3) := by decide +kernel
theorem dX2_copy_89 : decode cX2_copy 89 = .ok (.iconst 0, 1) := by decide +kernel
theorem dX2_copy_90 : decode cX2_copy 90 = .ok (.aload_n 0, 1) := by decide +kernel
theorem dX2_copy_91 : decode cX2_copy 91 = .ok (.getfield 24, 3) := by decide +kernel
theorem dX2_copy_94 : decode cX2_copy 94 = .ok (.arraylength, 1) := by decide +kernel
theorem dX2_copy_95 : decode cX2_copy 95 = .ok (.invokestatic 46, 3) := by decide +kernel
theorem dX2_copy_98 : decode cX2_copy 98 = .ok (.aload_n 1, 1) := by decide +kernel
theorem dX2_copy_99 : decode cX2_copy 99 = .ok (.getfield 27, 3) := by decide +kernel
theorem dX2_copy_102 : decode cX2_copy 102 = .ok (.iconst 0, 1) := by decide +kernel
theorem dX2_copy_103 : decode cX2_copy 103 = .ok (.aload_n 0, 1) := by decide +kernel
theorem dX2_copy_104 : decode cX2_copy 104 = .ok (.getfield 27, 3) := by decide +kernel
theorem dX2_copy_107 : decode cX2_copy 107 = .ok (.iconst 0, 1) := by decide +kernel
theorem dX2_copy_108 : decode cX2_copy 108 = .ok (.aload_n 0, 1) := by decide +kernel
theorem dX2_copy_109 : decode cX2_copy 109 = .ok (.getfield 27, 3) := by decide +kernel
theorem dX2_copy_112 : decode cX2_copy 112 = .ok (.arraylength, 1) := by decide +kernel
theorem dX2_copy_113 : decode cX2_copy 113 = .ok (.invokestatic 46, 3) := by decide +kernel
theorem dX2_copy_116 : decode cX2_copy 116 = .ok (.aload_n 1, 1) := by decide +kernel
theorem dX2_copy_117 : decode cX2_copy 117 = .ok (.getfield 30, 3) := by decide +kernel
theorem dX2_copy_120 : decode cX2_copy 120 = .ok (.iconst 0, 1) := by decide +kernel
theorem dX2_copy_121 : decode cX2_copy 121 = .ok (.aload_n 0, 1) := by decide +kernel
theorem dX2_copy_122 : decode cX2_copy 122 = .ok (.getfield 30, 3) := by decide +kernel
theorem dX2_copy_125 : decode cX2_copy 125 = .ok (.iconst 0, 1) := by decide +kernel
theorem dX2_copy_126 : decode cX2_copy 126 = .ok (.aload_n 0, 1) := by decide +kernel
theorem dX2_copy_127 : decode cX2_copy 127 = .ok (.getfield 30, 3) := by decide +kernel
theorem dX2_copy_130 : decode cX2_copy 130 = .ok (.arraylength, 1) := by decide +kernel
theorem dX2_copy_131 : decode cX2_copy 131 = .ok (.invokestatic 46, 3) := by decide +kernel
theorem dX2_copy_134 : decode cX2_copy 134 = .ok (.iconst 0, 1) := by decide +kernel
theorem dX2_copy_135 : decode cX2_copy 135 = .ok (.istore_n 2, 1) := by decide +kernel
theorem dX2_copy_136 : decode cX2_copy 136 = .ok (.iload_n 2, 1) := by decide +kernel
theorem dX2_copy_137 : decode cX2_copy 137 = .ok (.bipush 30, 2) := by decide +kernel
theorem dX2_copy_139 : decode cX2_copy 139 = .ok (.if_icmp .ge 21, 3) := by decide +kernel
theorem dX2_copy_142 : decode cX2_copy 142 = .ok (.aload_n 0, 1) := by decide +kernel
theorem dX2_copy_143 : decode cX2_copy 143 = .ok (.getfield 33, 3) := by decide +kernel
theorem dX2_copy_146 : decode cX2_copy 146 = .ok (.iload_n 2, 1) := by decide +kernel
theorem dX2_copy_147 : decode cX2_copy 147 = .ok (.aload_n 1, 1) := by decide +kernel
theorem dX2_copy_148 : decode cX2_copy 148 = .ok (.getfield 33, 3) := by decide +kernel
theorem dX2_copy_151 : decode cX2_copy 151 = .ok (.iload_n 2, 1) := by decide +kernel
theorem dX2_copy_152 : decode cX2_copy 152 = .ok (.baload, 1) := by decide +kernel
theorem dX2_copy_153 : decode cX2_copy 153 = .ok (.bastore, 1) := by decide +kernel
theorem dX2_copy_154 : decode cX2_copy 154 = .ok (.iinc 2 1, 3) := by decide +kernel
theorem dX2_copy_157 : decode cX2_copy 157 = .ok (.goto (-21), 3) := by decide +kernel
theorem dX2_copy_160 : decode cX2_copy 160 = .ok (.aload_n 0, 1) := by decide +kernel
theorem dX2_copy_161 : decode cX2_copy 161 = .ok (.aload_n 1, 1) := by decide +kernel
theorem dX2_copy_162 : decode cX2_copy 162 = .ok (.getfield 56, 3) := by decide +kernel
theorem dX2_copy_165 : decode cX2_copy 165 = .ok (.putfield 56, 3) := by decide +kernel
theorem dX2_copy_168 : decode cX2_copy 168 = .ok (.aload_n 1, 1) := by decide +kernel
theorem dX2_copy_169 : decode cX2_copy 169 = .ok (.getfield 37, 3) := by decide +kernel
theorem dX2_copy_172 : decode cX2_copy 172 = .ok (.iconst 0, 1) := by decide +kernel
theorem dX2_copy_173 : decode cX2_copy 173 = .ok (.aload_n 0, 1) := by decide +kernel
theorem dX2_copy_174 : decode cX2_copy 174 = .ok (.getfield 37, 3) := by decide +kernel
theorem dX2_copy_177 : decode cX2_copy 177 = .ok (.iconst 0, 1) := by decide +kernel
theorem dX2_copy_178 : decode cX2_copy 178 = .ok (.aload_n 0, 1) := by decide +kernel
theorem dX2_copy_179 : decode cX2_copy 179 = .ok (.getfield 37, 3) := by decide +kernel
theorem dX2_copy_182 : decode cX2_copy 182 = .ok (.arraylength, 1) := by decide +kernel
theorem dX2_copy_183 : decode cX2_copy 183 = .ok (.invokestatic 46, 3) := by decide +kernel
theorem dX2_copy_186 : decode cX2_copy 186 = .ok (.aload_n 0, 1) := by decide +kernel
theorem dX2_copy_187 : decode cX2_copy 187 = .ok (.aload_n 1, 1) := by decide +kernel
theorem dX2_copy_188 : decode cX2_copy 188 = .ok (.getfield 59, 3) := by decide +kernel
theorem dX2_copy_191 : decode cX2_copy 191 = .ok (.putfield 59, 3) := by decide +kernel
theorem dX2_copy_194 : decode cX2_copy 194 = .ok (.aload_n 1, 1) := by decide +kernel
theorem dX2_copy_195 : decode cX2_copy 195 = .ok (.getfield 40, 3) := by decide +kernel
theorem dX2_copy_198 : decode cX2_copy 198 = .ok (.iconst 0, 1) := by decide +kernel
theorem dX2_copy_199 : decode cX2_copy 199 = .ok (.aload_n 0, 1) := by decide +kernel
theorem dX2_copy_200 : decode cX2_copy 200 = .ok (.getfield 40, 3) := by decide +kernel
theorem dX2_copy_203 : decode cX2_copy 203 = .ok (.iconst 0, 1) := by decide +kernel
theorem dX2_copy_204 : decode cX2_copy 204 = .ok (.aload_n 0, 1) := by decide +kernel
theorem dX2_copy_205 : decode cX2_copy 205 = .ok (.getfield 40, 3) := by decide +kernel
theorem dX2_copy_208 : decode cX2_copy 208 = .ok (.arraylength, 1) := by decide +kernel
theorem dX2_copy_209 : decode cX2_copy 209 = .ok (.invokestatic 46, 3) := by decide +kernel
theorem dX2_copy_212 : decode cX2_copy 212 = .ok (.aload_n 0, 1) := by decide +kernel
theorem dX2_copy_213 : decode cX2_copy 213 = .ok (.aload_n 1, 1) := by decide +kernel
theorem dX2_copy_214 : decode cX2_copy 214 = .ok (.getfield 62, 3) := by decide +kernel
theorem dX2_copy_217 : decode cX2_copy 217 = .ok (.putfield 62, 3) := by decide +kernel
theorem dX2_copy_220 : decode cX2_copy 220 = .ok (.aload_n 1, 1) := by decide +kernel
theorem dX2_copy_221 : decode cX2_copy 221 = .ok (.getfield 43, 3) := by decide +kernel
theorem dX2_copy_224 : decode cX2_copy 224 = .ok (.iconst 0, 1) := by decide +kernel
theorem dX2_copy_225 : decode cX2_copy 225 = .ok (.aload_n 0, 1) := by decide +kernel
theorem dX2_copy_226 : decode cX2_copy 226 = .ok (.getfield 43, 3) := by decide +kernel
theorem dX2_copy_229 : decode cX2_copy 229 = .ok (.iconst 0, 1) := by decide +kernel
theorem dX2_copy_230 : decode cX2_copy 230 = .ok (.aload_n 0, 1) := by decide +kernel
theorem dX2_copy_231 : decode cX2_copy 231 = .ok (.getfield 43, 3) := by decide +kernel
theorem dX2_copy_234 : decode cX2_copy 234 = .ok (.arraylength, 1) := by decide +kernel
theorem dX2_copy_235 : decode cX2_copy 235 = .ok (.invokestatic 46, 3) := by decide +kernel
theorem dX2_copy_238 : decode cX2_copy 238 = .ok (.return_, 1) := by decide +kernel
theorem dX2_findWord_0 : decode cX2_findWord 0 = .ok (.iconst 0, 1) := by decide +kernel
theorem dX2_findWord_1 : decode cX2_findWord 1 = .ok (.istore 4, 2) := by decide +kernel
theorem dX2_findWord_3 : decode cX2_findWord 3 = .ok (.iload 4, 2) := by decide +kernel
theorem dX2_findWord_5 : decode cX2_findWord 5 = .ok (.aload_n 0, 1) := by decide +kernel
theorem dX2_findWord_6 : decode cX2_findWord 6 = .ok (.getfield 52, 3) := by decide +kernel
theorem dX2_findWord_9 : decode cX2_findWord 9 = .ok (.if_icmp .ge 41, 3) := by decide +kernel
theorem dX2_findWord_12 : decode cX2_findWord 12 = .ok (.aload_n 0, 1) := by decide +kernel
theorem dX2_findWord_13 : decode cX2_findWord 13 = .ok (.getfield 15, 3) := by decide +kernel
theorem dX2_findWord_16 : decode cX2_findWord 16 = .ok (.iload 4, 2) := by decide +kernel
theorem dX2_findWord_18 : decode cX2_findWord 18 = .ok (.iaload, 1) := by decide +kernel
theorem dX2_findWord_19 : decode cX2_findWord 19 = .ok (.iload_n 3, 1) := by decide +kernel
theorem dX2_findWord_20 : decode cX2_findWord 20 = .ok (.if_icmp .ne 24, 3) := by decide +kernel
theorem dX2_findWord_23 : decode cX2_findWord 23 = .ok (.aload_n 0, 1) := by decide +kernel
theorem dX2_findWord_24 : decode cX2_findWord 24 = .ok (.getfield 9, 3) := by decide +kernel
theorem dX2_findWord_27 : decode cX2_findWord 27 = .ok (.iload 4, 2) := by decide +kernel
theorem dX2_findWord_29 : decode cX2_findWord 29 = .ok (.bipush 8, 2) := by decide +kernel
theorem dX2_findWord_31 : decode cX2_findWord 31 = .ok (.imul, 1) := by decide +kernel
theorem dX2_findWord_32 : decode cX2_findWord 32 = .ok (.aload_n 1, 1) := by decide +kernel
theorem dX2_findWord_33 : decode cX2_findWord 33 = .ok (.iload_n 2, 1) := by decide +kernel
theorem dX2_findWord_34 : decode cX2_findWord 34 = .ok (.iload_n 3, 1) := by decide +kernel
theorem dX2_findWord_35 : decode cX2_findWord 35 = .ok (.invokestatic 65, 3) := by decide +kernel
theorem dX2_findWord_38 : decode cX2_findWord 38 = .ok (.ifCond .eq 6, 3) := by decide +kernel
theorem dX2_findWord_41 : decode cX2_findWord 41 = .ok (.iload 4, 2) := by decide +kernel
theorem dX2_findWord_43 : decode cX2_findWord 43 = .ok (.ireturn, 1) := by decide +kernel
theorem dX2_findWord_44 : decode cX2_findWord 44 = .ok (.iinc 4 1, 3) := by decide +kernel
theorem dX2_findWord_47 : decode cX2_findWord 47 = .ok (.goto (-44), 3) := by decide +kernel
theorem dX2_findWord_50 : decode cX2_findWord 50 = .ok (.iconst (-1), 1) := by decide +kernel
theorem dX2_findWord_51 : decode cX2_findWord 51 = .ok (.ireturn, 1) := by decide +kernel
theorem dX2_addWord_0 : decode cX2_addWord 0 = .ok (.aload_n 0, 1) := by decide +kernel
theorem dX2_addWord_1 : decode cX2_addWord 1 = .ok (.getfield 52, 3) := by decide +kernel
theorem dX2_addWord_4 : decode cX2_addWord 4 = .ok (.istore 4, 2) := by decide +kernel
theorem dX2_addWord_6 : decode cX2_addWord 6 = .ok (.aload_n 1, 1) := by decide +kernel
theorem dX2_addWord_7 : decode cX2_addWord 7 = .ok (.iload_n 2, 1) := by decide +kernel
theorem dX2_addWord_8 : decode cX2_addWord 8 = .ok (.aload_n 0, 1) := by decide +kernel
theorem dX2_addWord_9 : decode cX2_addWord 9 = .ok (.getfield 9, 3) := by decide +kernel
theorem dX2_addWord_12 : decode cX2_addWord 12 = .ok (.iload 4, 2) := by decide +kernel
theorem dX2_addWord_14 : decode cX2_addWord 14 = .ok (.bipush 8, 2) := by decide +kernel
theorem dX2_addWord_16 : decode cX2_addWord 16 = .ok (.imul, 1) := by decide +kernel
theorem dX2_addWord_17 : decode cX2_addWord 17 = .ok (.iload_n 3, 1) := by decide +kernel
theorem dX2_addWord_18 : decode cX2_addWord 18 = .ok (.invokestatic 46, 3) := by decide +kernel
theorem dX2_addWord_21 : decode cX2_addWord 21 = .ok (.aload_n 0, 1) := by decide +kernel
theorem dX2_addWord_22 : decode cX2_addWord 22 = .ok (.getfield 15, 3) := by decide +kernel
theorem dX2_addWord_25 : decode cX2_addWord 25 = .ok (.iload 4, 2) := by decide +kernel
theorem dX2_addWord_27 : decode cX2_addWord 27 = .ok (.iload_n 3, 1) := by decide +kernel
theorem dX2_addWord_28 : decode cX2_addWord 28 = .ok (.iastore, 1) := by decide +kernel
theorem dX2_addWord_29 : decode cX2_addWord 29 = .ok (.aload_n 0, 1) := by decide +kernel
theorem dX2_addWord_30 : decode cX2_addWord 30 = .ok (.dup, 1) := by decide +kernel
theorem dX2_addWord_31 : decode cX2_addWord 31 = .ok (.getfield 52, 3) := by decide +kernel
theorem dX2_addWord_34 : decode cX2_addWord 34 = .ok (.iconst 1, 1) := by decide +kernel
theorem dX2_addWord_35 : decode cX2_addWord 35 = .ok (.iadd, 1) := by decide +kernel
theorem dX2_addWord_36 : decode cX2_addWord 36 = .ok (.putfield 52, 3) := by decide +kernel
theorem dX2_addWord_39 : decode cX2_addWord 39 = .ok (.iload 4, 2) := by decide +kernel
theorem dX2_addWord_41 : decode cX2_addWord 41 = .ok (.ireturn, 1) := by decide +kernel
theorem dX2_findPhrase_0 : decode cX2_findPhrase 0 = .ok (.iconst 0, 1) := by decide +kernel
theorem dX2_findPhrase_1 : decode cX2_findPhrase 1 = .ok (.istore 7, 2) := by decide +kernel
theorem dX2_findPhrase_3 : decode cX2_findPhrase 3 = .ok (.iload 7, 2) := by decide +kernel
theorem dX2_findPhrase_5 : decode cX2_findPhrase 5 = .ok (.aload_n 0, 1) := by decide +kernel
theorem dX2_findPhrase_6 : decode cX2_findPhrase 6 = .ok (.getfield 56, 3) := by decide +kernel
theorem dX2_findPhrase_9 : decode cX2_findPhrase 9 = .ok (.if_icmp .ge 84, 3) := by decide +kernel
theorem dX2_findPhrase_12 : decode cX2_findPhrase 12 = .ok (.iload 7, 2) := by decide +kernel
theorem dX2_findPhrase_14 : decode cX2_findPhrase 14 = .ok (.iconst 3, 1) := by decide +kernel
theorem dX2_findPhrase_15 : decode cX2_findPhrase 15 = .ok (.imul, 1) := by decide +kernel
theorem dX2_findPhrase_16 : decode cX2_findPhrase 16 = .ok (.istore 8, 2) := by decide +kernel
theorem dX2_findPhrase_18 : decode cX2_findPhrase 18 = .ok (.aload_n 0, 1) := by decide +kernel
theorem dX2_findPhrase_19 : decode cX2_findPhrase 19 = .ok (.getfield 33, 3) := by decide +kernel
theorem dX2_findPhrase_22 : decode cX2_findPhrase 22 = .ok (.iload 7, 2) := by decide +kernel
theorem dX2_findPhrase_24 : decode cX2_findPhrase 24 = .ok (.baload, 1) := by decide +kernel
theorem dX2_findPhrase_25 : decode cX2_findPhrase 25 = .ok (.ifCond .ne 62, 3) := by decide +kernel
theorem dX2_findPhrase_28 : decode cX2_findPhrase 28 = .ok (.aload_n 0, 1) := by decide +kernel
theorem dX2_findPhrase_29 : decode cX2_findPhrase 29 = .ok (.getfield 21, 3) := by decide +kernel
theorem dX2_findPhrase_32 : decode cX2_findPhrase 32 = .ok (.iload 7, 2) := by decide +kernel
theorem dX2_findPhrase_34 : decode cX2_findPhrase 34 = .ok (.iaload, 1) := by decide +kernel
theorem dX2_findPhrase_35 : decode cX2_findPhrase 35 = .ok (.iload_n 3, 1) := by decide +kernel
theorem dX2_findPhrase_36 : decode cX2_findPhrase 36 = .ok (.if_icmp .ne 51, 3) := by decide +kernel
theorem dX2_findPhrase_39 : decode cX2_findPhrase 39 = .ok (.aload_n 0, 1) := by decide +kernel
theorem dX2_findPhrase_40 : decode cX2_findPhrase 40 = .ok (.getfield 27, 3) := by decide +kernel
theorem dX2_findPhrase_43 : decode cX2_findPhrase 43 = .ok (.iload 7, 2) := by decide +kernel
theorem dX2_findPhrase_45 : decode cX2_findPhrase 45 = .ok (.iaload, 1) := by decide +kernel
theorem dX2_findPhrase_46 : decode cX2_findPhrase 46 = .ok (.iload 6, 2) := by decide +kernel
theorem dX2_findPhrase_48 : decode cX2_findPhrase 48 = .ok (.if_icmp .ne 39, 3) := by decide +kernel
theorem dX2_findPhrase_51 : decode cX2_findPhrase 51 = .ok (.aload_n 0, 1) := by decide +kernel
theorem dX2_findPhrase_52 : decode cX2_findPhrase 52 = .ok (.getfield 18, 3) := by decide +kernel
theorem dX2_findPhrase_55 : decode cX2_findPhrase 55 = .ok (.iload 8, 2) := by decide +kernel
theorem dX2_findPhrase_57 : decode cX2_findPhrase 57 = .ok (.aload_n 1, 1) := by decide +kernel
theorem dX2_findPhrase_58 : decode cX2_findPhrase 58 = .ok (.iload_n 2, 1) := by decide +kernel
theorem dX2_findPhrase_59 : decode cX2_findPhrase 59 = .ok (.iload_n 3, 1) := by decide +kernel
theorem dX2_findPhrase_60 : decode cX2_findPhrase 60 = .ok (.invokestatic 65, 3) := by decide +kernel
theorem dX2_findPhrase_63 : decode cX2_findPhrase 63 = .ok (.ifCond .eq 24, 3) := by decide +kernel
theorem dX2_findPhrase_66 : decode cX2_findPhrase 66 = .ok (.aload_n 0, 1) := by decide +kernel
theorem dX2_findPhrase_67 : decode cX2_findPhrase 67 = .ok (.getfield 24, 3) := by decide +kernel
theorem dX2_findPhrase_70 : decode cX2_findPhrase 70 = .ok (.iload 8, 2) := by decide +kernel
theorem dX2_findPhrase_72 : decode cX2_findPhrase 72 = .ok (.aload 4, 2) := by decide +kernel
theorem dX2_findPhrase_74 : decode cX2_findPhrase 74 = .ok (.iload 5, 2) := by decide +kernel
theorem dX2_findPhrase_76 : decode cX2_findPhrase 76 = .ok (.iload 6, 2) := by decide +kernel
theorem dX2_findPhrase_78 : decode cX2_findPhrase 78 = .ok (.invokestatic 65, 3) := by decide +kernel
theorem dX2_findPhrase_81 : decode cX2_findPhrase 81 = .ok (.ifCond .eq 6, 3) := by decide +kernel
theorem dX2_findPhrase_84 : decode cX2_findPhrase 84 = .ok (.iload 7, 2) := by decide +kernel
theorem dX2_findPhrase_86 : decode cX2_findPhrase 86 = .ok (.ireturn, 1) := by decide +kernel
theorem dX2_findPhrase_87 : decode cX2_findPhrase 87 = .ok (.iinc 7 1, 3) := by decide +kernel
theorem dX2_findPhrase_90 : decode cX2_findPhrase 90 = .ok (.goto (-87), 3) := by decide +kernel
theorem dX2_findPhrase_93 : decode cX2_findPhrase 93 = .ok (.iconst (-1), 1) := by decide +kernel
theorem dX2_findPhrase_94 : decode cX2_findPhrase 94 = .ok (.ireturn, 1) := by decide +kernel
theorem dX2_addPhrase_0 : decode cX2_addPhrase 0 = .ok (.aload_n 0, 1) := by decide +kernel
theorem dX2_addPhrase_1 : decode cX2_addPhrase 1 = .ok (.getfield 56, 3) := by decide +kernel
theorem dX2_addPhrase_4 : decode cX2_addPhrase 4 = .ok (.istore 8, 2) := by decide +kernel
theorem dX2_addPhrase_6 : decode cX2_addPhrase 6 = .ok (.aload_n 1, 1) := by decide +kernel
theorem dX2_addPhrase_7 : decode cX2_addPhrase 7 = .ok (.iload_n 2, 1) := by decide +kernel
theorem dX2_addPhrase_8 : decode cX2_addPhrase 8 = .ok (.aload_n 0, 1) := by decide +kernel
theorem dX2_addPhrase_9 : decode cX2_addPhrase 9 = .ok (.getfield 18, 3) := by decide +kernel
theorem dX2_addPhrase_12 : decode cX2_addPhrase 12 = .ok (.iload 8, 2) := by decide +kernel
theorem dX2_addPhrase_14 : decode cX2_addPhrase 14 = .ok (.iconst 3, 1) := by decide +kernel
theorem dX2_addPhrase_15 : decode cX2_addPhrase 15 = .ok (.imul, 1) := by decide +kernel
theorem dX2_addPhrase_16 : decode cX2_addPhrase 16 = .ok (.iload_n 3, 1) := by decide +kernel
theorem dX2_addPhrase_17 : decode cX2_addPhrase 17 = .ok (.invokestatic 46, 3) := by decide +kernel
theorem dX2_addPhrase_20 : decode cX2_addPhrase 20 = .ok (.aload 4, 2) := by decide +kernel
theorem dX2_addPhrase_22 : decode cX2_addPhrase 22 = .ok (.iload 5, 2) := by decide +kernel
theorem dX2_addPhrase_24 : decode cX2_addPhrase 24 = .ok (.aload_n 0, 1) := by decide +kernel
theorem dX2_addPhrase_25 : decode cX2_addPhrase 25 = .ok (.getfield 24, 3) := by decide +kernel
theorem dX2_addPhrase_28 : decode cX2_addPhrase 28 = .ok (.iload 8, 2) := by decide +kernel
theorem dX2_addPhrase_30 : decode cX2_addPhrase 30 = .ok (.iconst 3, 1) := by decide +kernel
theorem dX2_addPhrase_31 : decode cX2_addPhrase 31 = .ok (.imul, 1) := by decide +kernel
theorem dX2_addPhrase_32 : decode cX2_addPhrase 32 = .ok (.iload 6, 2) := by decide +kernel
theorem dX2_addPhrase_34 : decode cX2_addPhrase 34 = .ok (.invokestatic 46, 3) := by decide +kernel
theorem dX2_addPhrase_37 : decode cX2_addPhrase 37 = .ok (.aload_n 0, 1) := by decide +kernel
theorem dX2_addPhrase_38 : decode cX2_addPhrase 38 = .ok (.getfield 21, 3) := by decide +kernel
theorem dX2_addPhrase_41 : decode cX2_addPhrase 41 = .ok (.iload 8, 2) := by decide +kernel
theorem dX2_addPhrase_43 : decode cX2_addPhrase 43 = .ok (.iload_n 3, 1) := by decide +kernel
theorem dX2_addPhrase_44 : decode cX2_addPhrase 44 = .ok (.iastore, 1) := by decide +kernel
theorem dX2_addPhrase_45 : decode cX2_addPhrase 45 = .ok (.aload_n 0, 1) := by decide +kernel
theorem dX2_addPhrase_46 : decode cX2_addPhrase 46 = .ok (.getfield 27, 3) := by decide +kernel
theorem dX2_addPhrase_49 : decode cX2_addPhrase 49 = .ok (.iload 8, 2) := by decide +kernel
theorem dX2_addPhrase_51 : decode cX2_addPhrase 51 = .ok (.iload 6, 2) := by decide +kernel
theorem dX2_addPhrase_53 : decode cX2_addPhrase 53 = .ok (.iastore, 1) := by decide +kernel
theorem dX2_addPhrase_54 : decode cX2_addPhrase 54 = .ok (.aload_n 0, 1) := by decide +kernel
theorem dX2_addPhrase_55 : decode cX2_addPhrase 55 = .ok (.getfield 30, 3) := by decide +kernel
theorem dX2_addPhrase_58 : decode cX2_addPhrase 58 = .ok (.iload 8, 2) := by decide +kernel
theorem dX2_addPhrase_60 : decode cX2_addPhrase 60 = .ok (.iload 7, 2) := by decide +kernel
theorem dX2_addPhrase_62 : decode cX2_addPhrase 62 = .ok (.iastore, 1) := by decide +kernel
theorem dX2_addPhrase_63 : decode cX2_addPhrase 63 = .ok (.aload_n 0, 1) := by decide +kernel
theorem dX2_addPhrase_64 : decode cX2_addPhrase 64 = .ok (.getfield 33, 3) := by decide +kernel
theorem dX2_addPhrase_67 : decode cX2_addPhrase 67 = .ok (.iload 8, 2) := by decide +kernel
theorem dX2_addPhrase_69 : decode cX2_addPhrase 69 = .ok (.iconst 0, 1) := by decide +kernel
theorem dX2_addPhrase_70 : decode cX2_addPhrase 70 = .ok (.bastore, 1) := by decide +kernel
theorem dX2_addPhrase_71 : decode cX2_addPhrase 71 = .ok (.aload_n 0, 1) := by decide +kernel
theorem dX2_addPhrase_72 : decode cX2_addPhrase 72 = .ok (.dup, 1) := by decide +kernel
theorem dX2_addPhrase_73 : decode cX2_addPhrase 73 = .ok (.getfield 56, 3) := by decide +kernel
theorem dX2_addPhrase_76 : decode cX2_addPhrase 76 = .ok (.iconst 1, 1) := by decide +kernel
theorem dX2_addPhrase_77 : decode cX2_addPhrase 77 = .ok (.iadd, 1) := by decide +kernel
theorem dX2_addPhrase_78 : decode cX2_addPhrase 78 = .ok (.putfield 56, 3) := by decide +kernel
theorem dX2_addPhrase_81 : decode cX2_addPhrase 81 = .ok (.return_, 1) := by decide +kernel
theorem dX2_hasTwin_0 : decode cX2_hasTwin 0 = .ok (.iload_n 1, 1) := by decide +kernel
theorem dX2_hasTwin_1 : decode cX2_hasTwin 1 = .ok (.iconst 3, 1) := by decide +kernel
theorem dX2_hasTwin_2 : decode cX2_hasTwin 2 = .ok (.imul, 1) := by decide +kernel
theorem dX2_hasTwin_3 : decode cX2_hasTwin 3 = .ok (.istore_n 2, 1) := by decide +kernel
theorem dX2_hasTwin_4 : decode cX2_hasTwin 4 = .ok (.aload_n 0, 1) := by decide +kernel
theorem dX2_hasTwin_5 : decode cX2_hasTwin 5 = .ok (.aload_n 0, 1) := by decide +kernel
theorem dX2_hasTwin_6 : decode cX2_hasTwin 6 = .ok (.getfield 18, 3) := by decide +kernel
theorem dX2_hasTwin_9 : decode cX2_hasTwin 9 = .ok (.iload_n 2, 1) := by decide +kernel
theorem dX2_hasTwin_10 : decode cX2_hasTwin 10 = .ok (.aload_n 0, 1) := by decide +kernel
theorem dX2_hasTwin_11 : decode cX2_hasTwin 11 = .ok (.getfield 21, 3) := by decide +kernel
theorem dX2_hasTwin_14 : decode cX2_hasTwin 14 = .ok (.iload_n 1, 1) := by decide +kernel
theorem dX2_hasTwin_15 : decode cX2_hasTwin 15 = .ok (.iaload, 1) := by decide +kernel
theorem dX2_hasTwin_16 : decode cX2_hasTwin 16 = .ok (.aload_n 0, 1) := by decide +kernel
theorem dX2_hasTwin_17 : decode cX2_hasTwin 17 = .ok (.getfield 24, 3) := by decide +kernel
theorem dX2_hasTwin_20 : decode cX2_hasTwin 20 = .ok (.iload_n 2, 1) := by decide +kernel
theorem dX2_hasTwin_21 : decode cX2_hasTwin 21 = .ok (.aload_n 0, 1) := by decide +kernel
theorem dX2_hasTwin_22 : decode cX2_hasTwin 22 = .ok (.getfield 27, 3) := by decide +kernel
theorem dX2_hasTwin_25 : decode cX2_hasTwin 25 = .ok (.iload_n 1, 1) := by decide +kernel
theorem dX2_hasTwin_26 : decode cX2_hasTwin 26 = .ok (.iaload, 1) := by decide +kernel
theorem dX2_hasTwin_27 : decode cX2_hasTwin 27 = .ok (.invokevirtual 69, 3) := by decide +kernel
theorem dX2_hasTwin_30 : decode cX2_hasTwin 30 = .ok (.iconst (-1), 1) := by decide +kernel
theorem dX2_hasTwin_31 : decode cX2_hasTwin 31 = .ok (.if_icmp .eq 7, 3) := by decide +kernel
theorem dX2_hasTwin_34 : decode cX2_hasTwin 34 = .ok (.iconst 1, 1) := by decide +kernel
theorem dX2_hasTwin_35 : decode cX2_hasTwin 35 = .ok (.goto 4, 3) := by decide +kernel
theorem dX2_hasTwin_38 : decode cX2_hasTwin 38 = .ok (.iconst 0, 1) := by decide +kernel
theorem dX2_hasTwin_39 : decode cX2_hasTwin 39 = .ok (.ireturn, 1) := by decide +kernel
theorem dX2_livingPhrases_0 : decode cX2_livingPhrases 0 = .ok (.iconst 0, 1) := by decide +kernel
theorem dX2_livingPhrases_1 : decode cX2_livingPhrases 1 = .ok (.istore_n 1, 1) := by decide +kernel
theorem dX2_livingPhrases_2 : decode cX2_livingPhrases 2 = .ok (.iconst 0, 1) := by decide +kernel
theorem dX2_livingPhrases_3 : decode cX2_livingPhrases 3 = .ok (.istore_n 2, 1) := by decide +kernel
theorem dX2_livingPhrases_4 : decode cX2_livingPhrases 4 = .ok (.iload_n 2, 1) := by decide +kernel
theorem dX2_livingPhrases_5 : decode cX2_livingPhrases 5 = .ok (.aload_n 0, 1) := by decide +kernel
theorem dX2_livingPhrases_6 : decode cX2_livingPhrases 6 = .ok (.getfield 56, 3) := by decide +kernel
theorem dX2_livingPhrases_9 : decode cX2_livingPhrases 9 = .ok (.if_icmp .ge 21, 3) := by decide +kernel
theorem dX2_livingPhrases_12 : decode cX2_livingPhrases 12 = .ok (.aload_n 0, 1) := by decide +kernel
theorem dX2_livingPhrases_13 : decode cX2_livingPhrases 13 = .ok (.getfield 33, 3) := by decide +kernel
theorem dX2_livingPhrases_16 : decode cX2_livingPhrases 16 = .ok (.iload_n 2, 1) := by decide +kernel
theorem dX2_livingPhrases_17 : decode cX2_livingPhrases 17 = .ok (.baload, 1) := by decide +kernel
theorem dX2_livingPhrases_18 : decode cX2_livingPhrases 18 = .ok (.ifCond .ne 6, 3) := by decide +kernel
theorem dX2_livingPhrases_21 : decode cX2_livingPhrases 21 = .ok (.iinc 1 1, 3) := by decide +kernel
theorem dX2_livingPhrases_24 : decode cX2_livingPhrases 24 = .ok (.iinc 2 1, 3) := by decide +kernel
theorem dX2_livingPhrases_27 : decode cX2_livingPhrases 27 = .ok (.goto (-23), 3) := by decide +kernel
theorem dX2_livingPhrases_30 : decode cX2_livingPhrases 30 = .ok (.iload_n 1, 1) := by decide +kernel
theorem dX2_livingPhrases_31 : decode cX2_livingPhrases 31 = .ok (.ireturn, 1) := by decide +kernel
theorem dX2_flow_0 : decode cX2_flow 0 = .ok (.aload_n 0, 1) := by decide +kernel
theorem dX2_flow_1 : decode cX2_flow 1 = .ok (.getfield 37, 3) := by decide +kernel
theorem dX2_flow_4 : decode cX2_flow 4 = .ok (.iload_n 1, 1) := by decide +kernel
theorem dX2_flow_5 : decode cX2_flow 5 = .ok (.bipush 41, 2) := by decide +kernel
theorem dX2_flow_7 : decode cX2_flow 7 = .ok (.imul, 1) := by decide +kernel
theorem dX2_flow_8 : decode cX2_flow 8 = .ok (.iload_n 2, 1) := by decide +kernel
theorem dX2_flow_9 : decode cX2_flow 9 = .ok (.iadd, 1) := by decide +kernel
theorem dX2_flow_10 : decode cX2_flow 10 = .ok (.iaload, 1) := by decide +kernel
theorem dX2_flow_11 : decode cX2_flow 11 = .ok (.istore_n 3, 1) := by decide +kernel
theorem dX2_flow_12 : decode cX2_flow 12 = .ok (.iload_n 3, 1) := by decide +kernel
theorem dX2_flow_13 : decode cX2_flow 13 = .ok (.ifCond .ne 12, 3) := by decide +kernel
theorem dX2_flow_16 : decode cX2_flow 16 = .ok (.aload_n 0, 1) := by decide +kernel
theorem dX2_flow_17 : decode cX2_flow 17 = .ok (.getfield 43, 3) := by decide +kernel
theorem dX2_flow_20 : decode cX2_flow 20 = .ok (.iconst 0, 1) := by decide +kernel
theorem dX2_flow_21 : decode cX2_flow 21 = .ok (.iaload, 1) := by decide +kernel
theorem dX2_flow_22 : decode cX2_flow 22 = .ok (.goto 6, 3) := by decide +kernel
theorem dX2_flow_25 : decode cX2_flow 25 = .ok (.iload_n 3, 1) := by decide +kernel
theorem dX2_flow_26 : decode cX2_flow 26 = .ok (.iconst 1, 1) := by decide +kernel
theorem dX2_flow_27 : decode cX2_flow 27 = .ok (.isub, 1) := by decide +kernel
theorem dX2_flow_28 : decode cX2_flow 28 = .ok (.ireturn, 1) := by decide +kernel
theorem dX2_isOption_0 : decode cX2_isOption 0 = .ok (.aload_n 0, 1) := by decide +kernel
theorem dX2_isOption_1 : decode cX2_isOption 1 = .ok (.getfield 33, 3) := by decide +kernel
theorem dX2_isOption_4 : decode cX2_isOption 4 = .ok (.iload_n 1, 1) := by decide +kernel
theorem dX2_isOption_5 : decode cX2_isOption 5 = .ok (.baload, 1) := by decide +kernel
theorem dX2_isOption_6 : decode cX2_isOption 6 = .ok (.ifCond .ne 46, 3) := by decide +kernel
theorem dX2_isOption_9 : decode cX2_isOption 9 = .ok (.iload_n 2, 1) := by decide +kernel
theorem dX2_isOption_10 : decode cX2_isOption 10 = .ok (.aload_n 0, 1) := by decide +kernel
theorem dX2_isOption_11 : decode cX2_isOption 11 = .ok (.getfield 21, 3) := by decide +kernel
theorem dX2_isOption_14 : decode cX2_isOption 14 = .ok (.iload_n 1, 1) := by decide +kernel
theorem dX2_isOption_15 : decode cX2_isOption 15 = .ok (.iaload, 1) := by decide +kernel
theorem dX2_isOption_16 : decode cX2_isOption 16 = .ok (.iadd, 1) := by decide +kernel
theorem dX2_isOption_17 : decode cX2_isOption 17 = .ok (.aload_n 0, 1) := by decide +kernel
theorem dX2_isOption_18 : decode cX2_isOption 18 = .ok (.getfield 62, 3) := by decide +kernel
theorem dX2_isOption_21 : decode cX2_isOption 21 = .ok (.if_icmp .gt 31, 3) := by decide +kernel
theorem dX2_isOption_24 : decode cX2_isOption 24 = .ok (.aload_n 0, 1) := by decide +kernel
theorem dX2_isOption_25 : decode cX2_isOption 25 = .ok (.getfield 18, 3) := by decide +kernel
theorem dX2_isOption_28 : decode cX2_isOption 28 = .ok (.iload_n 1, 1) := by decide +kernel
theorem dX2_isOption_29 : decode cX2_isOption 29 = .ok (.iconst 3, 1) := by decide +kernel
theorem dX2_isOption_30 : decode cX2_isOption 30 = .ok (.imul, 1) := by decide +kernel
theorem dX2_isOption_31 : decode cX2_isOption 31 = .ok (.aload_n 0, 1) := by decide +kernel
theorem dX2_isOption_32 : decode cX2_isOption 32 = .ok (.getfield 40, 3) := by decide +kernel
theorem dX2_isOption_35 : decode cX2_isOption 35 = .ok (.iload_n 2, 1) := by decide +kernel
theorem dX2_isOption_36 : decode cX2_isOption 36 = .ok (.aload_n 0, 1) := by decide +kernel
theorem dX2_isOption_37 : decode cX2_isOption 37 = .ok (.getfield 21, 3) := by decide +kernel
theorem dX2_isOption_40 : decode cX2_isOption 40 = .ok (.iload_n 1, 1) := by decide +kernel
theorem dX2_isOption_41 : decode cX2_isOption 41 = .ok (.iaload, 1) := by decide +kernel
theorem dX2_isOption_42 : decode cX2_isOption 42 = .ok (.invokestatic 65, 3) := by decide +kernel
theorem dX2_isOption_45 : decode cX2_isOption 45 = .ok (.ifCond .eq 7, 3) := by decide +kernel
theorem dX2_isOption_48 : decode cX2_isOption 48 = .ok (.iconst 1, 1) := by decide +kernel
theorem dX2_isOption_49 : decode cX2_isOption 49 = .ok (.goto 4, 3) := by decide +kernel
theorem dX2_isOption_52 : decode cX2_isOption 52 = .ok (.iconst 0, 1) := by decide +kernel
theorem dX2_isOption_53 : decode cX2_isOption 53 = .ok (.ireturn, 1) := by decide +kernel
theorem dX2_enterBook_0 : decode cX2_enterBook 0 = .ok (.iconst 0, 1) := by decide +kernel
theorem dX2_enterBook_1 : decode cX2_enterBook 1 = .ok (.istore_n 2, 1) := by decide +kernel
theorem dX2_enterBook_2 : decode cX2_enterBook 2 = .ok (.iconst 0, 1) := by decide +kernel
theorem dX2_enterBook_3 : decode cX2_enterBook 3 = .ok (.istore_n 3, 1) := by decide +kernel
theorem dX2_enterBook_4 : decode cX2_enterBook 4 = .ok (.iload_n 3, 1) := by decide +kernel
theorem dX2_enterBook_5 : decode cX2_enterBook 5 = .ok (.aload_n 1, 1) := by decide +kernel
theorem dX2_enterBook_6 : decode cX2_enterBook 6 = .ok (.getfield 73, 3) := by decide +kernel
theorem dX2_enterBook_9 : decode cX2_enterBook 9 = .ok (.if_icmp .ge 132, 3) := by decide +kernel
theorem dX2_enterBook_12 : decode cX2_enterBook 12 = .ok (.aload_n 1, 1) := by decide +kernel
theorem dX2_enterBook_13 : decode cX2_enterBook 13 = .ok (.invokevirtual 78, 3) := by decide +kernel
theorem dX2_enterBook_16 : decode cX2_enterBook 16 = .ok (.ifCond .eq 125, 3) := by decide +kernel
theorem dX2_enterBook_19 : decode cX2_enterBook 19 = .ok (.iload_n 3, 1) := by decide +kernel
theorem dX2_enterBook_20 : decode cX2_enterBook 20 = .ok (.iconst 3, 1) := by decide +kernel
theorem dX2_enterBook_21 : decode cX2_enterBook 21 = .ok (.imul, 1) := by decide +kernel
theorem dX2_enterBook_22 : decode cX2_enterBook 22 = .ok (.istore 4, 2) := by decide +kernel
theorem dX2_enterBook_24 : decode cX2_enterBook 24 = .ok (.aload_n 0, 1) := by decide +kernel
theorem dX2_enterBook_25 : decode cX2_enterBook 25 = .ok (.aload_n 1, 1) := by decide +kernel
theorem dX2_enterBook_26 : decode cX2_enterBook 26 = .ok (.getfield 82, 3) := by decide +kernel
theorem dX2_enterBook_29 : decode cX2_enterBook 29 = .ok (.iload 4, 2) := by decide +kernel
theorem dX2_enterBook_31 : decode cX2_enterBook 31 = .ok (.aload_n 1, 1) := by decide +kernel
theorem dX2_enterBook_32 : decode cX2_enterBook 32 = .ok (.getfield 83, 3) := by decide +kernel
theorem dX2_enterBook_35 : decode cX2_enterBook 35 = .ok (.iload_n 3, 1) := by decide +kernel
theorem dX2_enterBook_36 : decode cX2_enterBook 36 = .ok (.iaload, 1) := by decide +kernel
theorem dX2_enterBook_37 : decode cX2_enterBook 37 = .ok (.aload_n 1, 1) := by decide +kernel
theorem dX2_enterBook_38 : decode cX2_enterBook 38 = .ok (.getfield 84, 3) := by decide +kernel
theorem dX2_enterBook_41 : decode cX2_enterBook 41 = .ok (.iload 4, 2) := by decide +kernel
theorem dX2_enterBook_43 : decode cX2_enterBook 43 = .ok (.aload_n 1, 1) := by decide +kernel
theorem dX2_enterBook_44 : decode cX2_enterBook 44 = .ok (.getfield 85, 3) := by decide +kernel
theorem dX2_enterBook_47 : decode cX2_enterBook 47 = .ok (.iload_n 3, 1) := by decide +kernel
theorem dX2_enterBook_48 : decode cX2_enterBook 48 = .ok (.iaload, 1) := by decide +kernel
theorem dX2_enterBook_49 : decode cX2_enterBook 49 = .ok (.invokevirtual 69, 3) := by decide +kernel
theorem dX2_enterBook_52 : decode cX2_enterBook 52 = .ok (.istore 5, 2) := by decide +kernel
theorem dX2_enterBook_54 : decode cX2_enterBook 54 = .ok (.iload 5, 2) := by decide +kernel
theorem dX2_enterBook_56 : decode cX2_enterBook 56 = .ok (.iconst (-1), 1) := by decide +kernel
theorem dX2_enterBook_57 : decode cX2_enterBook 57 = .ok (.if_icmp .eq 19, 3) := by decide +kernel
theorem dX2_enterBook_60 : decode cX2_enterBook 60 = .ok (.aload_n 0, 1) := by decide +kernel
theorem dX2_enterBook_61 : decode cX2_enterBook 61 = .ok (.getfield 30, 3) := by decide +kernel
theorem dX2_enterBook_64 : decode cX2_enterBook 64 = .ok (.iload 5, 2) := by decide +kernel
theorem dX2_enterBook_66 : decode cX2_enterBook 66 = .ok (.aload_n 1, 1) := by decide +kernel
theorem dX2_enterBook_67 : decode cX2_enterBook 67 = .ok (.getfield 86, 3) := by decide +kernel
theorem dX2_enterBook_70 : decode cX2_enterBook 70 = .ok (.iload_n 3, 1) := by decide +kernel
theorem dX2_enterBook_71 : decode cX2_enterBook 71 = .ok (.iaload, 1) := by decide +kernel
theorem dX2_enterBook_72 : decode cX2_enterBook 72 = .ok (.iastore, 1) := by decide +kernel
theorem dX2_enterBook_73 : decode cX2_enterBook 73 = .ok (.goto 62, 3) := by decide +kernel
theorem dX2_enterBook_76 : decode cX2_enterBook 76 = .ok (.aload_n 0, 1) := by decide +kernel
theorem dX2_enterBook_77 : decode cX2_enterBook 77 = .ok (.getfield 56, 3) := by decide +kernel
theorem dX2_enterBook_80 : decode cX2_enterBook 80 = .ok (.bipush 30, 2) := by decide +kernel
theorem dX2_enterBook_82 : decode cX2_enterBook 82 = .ok (.if_icmp .ne 16, 3) := by decide +kernel
theorem dX2_enterBook_85 : decode cX2_enterBook 85 = .ok (.aload_n 1, 1) := by decide +kernel
theorem dX2_enterBook_86 : decode cX2_enterBook 86 = .ok (.aload_n 1, 1) := by decide +kernel
theorem dX2_enterBook_87 : decode cX2_enterBook 87 = .ok (.getfield 89, 3) := by decide +kernel
theorem dX2_enterBook_90 : decode cX2_enterBook 90 = .ok (.iload_n 3, 1) := by decide +kernel
theorem dX2_enterBook_91 : decode cX2_enterBook 91 = .ok (.iaload, 1) := by decide +kernel
theorem dX2_enterBook_92 : decode cX2_enterBook 92 = .ok (.invokevirtual 92, 3) := by decide +kernel
theorem dX2_enterBook_95 : decode cX2_enterBook 95 = .ok (.goto 40, 3) := by decide +kernel
theorem dX2_enterBook_98 : decode cX2_enterBook 98 = .ok (.aload_n 0, 1) := by decide +kernel
theorem dX2_enterBook_99 : decode cX2_enterBook 99 = .ok (.aload_n 1, 1) := by decide +kernel
theorem dX2_enterBook_100 : decode cX2_enterBook 100 = .ok (.getfield 82, 3) := by decide +kernel
theorem dX2_enterBook_103 : decode cX2_enterBook 103 = .ok (.iload 4, 2) := by decide +kernel
theorem dX2_enterBook_105 : decode cX2_enterBook 105 = .ok (.aload_n 1, 1) := by decide +kernel
theorem dX2_enterBook_106 : decode cX2_enterBook 106 = .ok (.getfield 83, 3) := by decide +kernel
theorem dX2_enterBook_109 : decode cX2_enterBook 109 = .ok (.iload_n 3, 1) := by decide +kernel
theorem dX2_enterBook_110 : decode cX2_enterBook 110 = .ok (.iaload, 1) := by decide +kernel
theorem dX2_enterBook_111 : decode cX2_enterBook 111 = .ok (.aload_n 1, 1) := by decide +kernel
theorem dX2_enterBook_112 : decode cX2_enterBook 112 = .ok (.getfield 84, 3) := by decide +kernel
theorem dX2_enterBook_115 : decode cX2_enterBook 115 = .ok (.iload 4, 2) := by decide +kernel
theorem dX2_enterBook_117 : decode cX2_enterBook 117 = .ok (.aload_n 1, 1) := by decide +kernel
theorem dX2_enterBook_118 : decode cX2_enterBook 118 = .ok (.getfield 85, 3) := by decide +kernel
theorem dX2_enterBook_121 : decode cX2_enterBook 121 = .ok (.iload_n 3, 1) := by decide +kernel
theorem dX2_enterBook_122 : decode cX2_enterBook 122 = .ok (.iaload, 1) := by decide +kernel
theorem dX2_enterBook_123 : decode cX2_enterBook 123 = .ok (.aload_n 1, 1) := by decide +kernel
theorem dX2_enterBook_124 : decode cX2_enterBook 124 = .ok (.getfield 86, 3) := by decide +kernel
theorem dX2_enterBook_127 : decode cX2_enterBook 127 = .ok (.iload_n 3, 1) := by decide +kernel
theorem dX2_enterBook_128 : decode cX2_enterBook 128 = .ok (.iaload, 1) := by decide +kernel
theorem dX2_enterBook_129 : decode cX2_enterBook 129 = .ok (.invokevirtual 96, 3) := by decide +kernel
theorem dX2_enterBook_132 : decode cX2_enterBook 132 = .ok (.iinc 2 1, 3) := by decide +kernel
theorem dX2_enterBook_135 : decode cX2_enterBook 135 = .ok (.iinc 3 1, 3) := by decide +kernel
theorem dX2_enterBook_138 : decode cX2_enterBook 138 = .ok (.goto (-134), 3) := by decide +kernel
theorem dX2_enterBook_141 : decode cX2_enterBook 141 = .ok (.iload_n 2, 1) := by decide +kernel
theorem dX2_enterBook_142 : decode cX2_enterBook 142 = .ok (.ireturn, 1) := by decide +kernel
theorem dX2_enterFluency_0 : decode cX2_enterFluency 0 = .ok (.iconst 0, 1) := by decide +kernel
theorem dX2_enterFluency_1 : decode cX2_enterFluency 1 = .ok (.istore_n 2, 1) := by decide +kernel
theorem dX2_enterFluency_2 : decode cX2_enterFluency 2 = .ok (.iload_n 2, 1) := by decide +kernel
theorem dX2_enterFluency_3 : decode cX2_enterFluency 3 = .ok (.aload_n 1, 1) := by decide +kernel
theorem dX2_enterFluency_4 : decode cX2_enterFluency 4 = .ok (.getfield 73, 3) := by decide +kernel
theorem dX2_enterFluency_7 : decode cX2_enterFluency 7 = .ok (.if_icmp .ge 105, 3) := by decide +kernel
theorem dX2_enterFluency_10 : decode cX2_enterFluency 10 = .ok (.aload_n 1, 1) := by decide +kernel
theorem dX2_enterFluency_11 : decode cX2_enterFluency 11 = .ok (.invokevirtual 78, 3) := by decide +kernel
theorem dX2_enterFluency_14 : decode cX2_enterFluency 14 = .ok (.ifCond .eq 98, 3) := by decide +kernel
theorem dX2_enterFluency_17 : decode cX2_enterFluency 17 = .ok (.aload_n 1, 1) := by decide +kernel
theorem dX2_enterFluency_18 : decode cX2_enterFluency 18 = .ok (.getfield 82, 3) := by decide +kernel
theorem dX2_enterFluency_21 : decode cX2_enterFluency 21 = .ok (.iload_n 2, 1) := by decide +kernel
theorem dX2_enterFluency_22 : decode cX2_enterFluency 22 = .ok (.iconst 3, 1) := by decide +kernel
theorem dX2_enterFluency_23 : decode cX2_enterFluency 23 = .ok (.imul, 1) := by decide +kernel
theorem dX2_enterFluency_24 : decode cX2_enterFluency 24 = .ok (.iaload, 1) := by decide +kernel
theorem dX2_enterFluency_25 : decode cX2_enterFluency 25 = .ok (.bipush 41, 2) := by decide +kernel
theorem dX2_enterFluency_27 : decode cX2_enterFluency 27 = .ok (.imul, 1) := by decide +kernel
theorem dX2_enterFluency_28 : decode cX2_enterFluency 28 = .ok (.aload_n 1, 1) := by decide +kernel
theorem dX2_enterFluency_29 : decode cX2_enterFluency 29 = .ok (.getfield 84, 3) := by decide +kernel
theorem dX2_enterFluency_32 : decode cX2_enterFluency 32 = .ok (.iload_n 2, 1) := by decide +kernel
theorem dX2_enterFluency_33 : decode cX2_enterFluency 33 = .ok (.iconst 3, 1) := by decide +kernel
theorem dX2_enterFluency_34 : decode cX2_enterFluency 34 = .ok (.imul, 1) := by decide +kernel
theorem dX2_enterFluency_35 : decode cX2_enterFluency 35 = .ok (.iaload, 1) := by decide +kernel
theorem dX2_enterFluency_36 : decode cX2_enterFluency 36 = .ok (.iadd, 1) := by decide +kernel
theorem dX2_enterFluency_37 : decode cX2_enterFluency 37 = .ok (.istore_n 3, 1) := by decide +kernel
theorem dX2_enterFluency_38 : decode cX2_enterFluency 38 = .ok (.aload_n 0, 1) := by decide +kernel
theorem dX2_enterFluency_39 : decode cX2_enterFluency 39 = .ok (.getfield 37, 3) := by decide +kernel
theorem dX2_enterFluency_42 : decode cX2_enterFluency 42 = .ok (.iload_n 3, 1) := by decide +kernel
theorem dX2_enterFluency_43 : decode cX2_enterFluency 43 = .ok (.iaload, 1) := by decide +kernel
theorem dX2_enterFluency_44 : decode cX2_enterFluency 44 = .ok (.ifCond .ne 25, 3) := by decide +kernel
theorem dX2_enterFluency_47 : decode cX2_enterFluency 47 = .ok (.aload_n 0, 1) := by decide +kernel
theorem dX2_enterFluency_48 : decode cX2_enterFluency 48 = .ok (.getfield 59, 3) := by decide +kernel
theorem dX2_enterFluency_51 : decode cX2_enterFluency 51 = .ok (.bipush 60, 2) := by decide +kernel
theorem dX2_enterFluency_53 : decode cX2_enterFluency 53 = .ok (.if_icmp .ne 16, 3) := by decide +kernel
theorem dX2_enterFluency_56 : decode cX2_enterFluency 56 = .ok (.aload_n 1, 1) := by decide +kernel
theorem dX2_enterFluency_57 : decode cX2_enterFluency 57 = .ok (.aload_n 1, 1) := by decide +kernel
theorem dX2_enterFluency_58 : decode cX2_enterFluency 58 = .ok (.getfield 89, 3) := by decide +kernel
theorem dX2_enterFluency_61 : decode cX2_enterFluency 61 = .ok (.iload_n 2, 1) := by decide +kernel
theorem dX2_enterFluency_62 : decode cX2_enterFluency 62 = .ok (.iaload, 1) := by decide +kernel
theorem dX2_enterFluency_63 : decode cX2_enterFluency 63 = .ok (.invokevirtual 92, 3) := by decide +kernel
theorem dX2_enterFluency_66 : decode cX2_enterFluency 66 = .ok (.goto 40, 3) := by decide +kernel
theorem dX2_enterFluency_69 : decode cX2_enterFluency 69 = .ok (.aload_n 0, 1) := by decide +kernel
theorem dX2_enterFluency_70 : decode cX2_enterFluency 70 = .ok (.dup, 1) := by decide +kernel
theorem dX2_enterFluency_71 : decode cX2_enterFluency 71 = .ok (.getfield 59, 3) := by decide +kernel
theorem dX2_enterFluency_74 : decode cX2_enterFluency 74 = .ok (.aload_n 0, 1) := by decide +kernel
theorem dX2_enterFluency_75 : decode cX2_enterFluency 75 = .ok (.getfield 37, 3) := by decide +kernel
theorem dX2_enterFluency_78 : decode cX2_enterFluency 78 = .ok (.iload_n 3, 1) := by decide +kernel
theorem dX2_enterFluency_79 : decode cX2_enterFluency 79 = .ok (.iaload, 1) := by decide +kernel
theorem dX2_enterFluency_80 : decode cX2_enterFluency 80 = .ok (.ifCond .ne 7, 3) := by decide +kernel
theorem dX2_enterFluency_83 : decode cX2_enterFluency 83 = .ok (.iconst 1, 1) := by decide +kernel
theorem dX2_enterFluency_84 : decode cX2_enterFluency 84 = .ok (.goto 4, 3) := by decide +kernel
theorem dX2_enterFluency_87 : decode cX2_enterFluency 87 = .ok (.iconst 0, 1) := by decide +kernel
theorem dX2_enterFluency_88 : decode cX2_enterFluency 88 = .ok (.iadd, 1) := by decide +kernel
theorem dX2_enterFluency_89 : decode cX2_enterFluency 89 = .ok (.putfield 59, 3) := by decide +kernel
theorem dX2_enterFluency_92 : decode cX2_enterFluency 92 = .ok (.aload_n 0, 1) := by decide +kernel
theorem dX2_enterFluency_93 : decode cX2_enterFluency 93 = .ok (.getfield 37, 3) := by decide +kernel
theorem dX2_enterFluency_96 : decode cX2_enterFluency 96 = .ok (.iload_n 3, 1) := by decide +kernel
theorem dX2_enterFluency_97 : decode cX2_enterFluency 97 = .ok (.aload_n 1, 1) := by decide +kernel
theorem dX2_enterFluency_98 : decode cX2_enterFluency 98 = .ok (.getfield 86, 3) := by decide +kernel
theorem dX2_enterFluency_101 : decode cX2_enterFluency 101 = .ok (.iload_n 2, 1) := by decide +kernel
theorem dX2_enterFluency_102 : decode cX2_enterFluency 102 = .ok (.iaload, 1) := by decide +kernel
theorem dX2_enterFluency_103 : decode cX2_enterFluency 103 = .ok (.iconst 1, 1) := by decide +kernel
theorem dX2_enterFluency_104 : decode cX2_enterFluency 104 = .ok (.iadd, 1) := by decide +kernel
theorem dX2_enterFluency_105 : decode cX2_enterFluency 105 = .ok (.iastore, 1) := by decide +kernel
theorem dX2_enterFluency_106 : decode cX2_enterFluency 106 = .ok (.iinc 2 1, 3) := by decide +kernel
theorem dX2_enterFluency_109 : decode cX2_enterFluency 109 = .ok (.goto (-107), 3) := by decide +kernel
theorem dX2_enterFluency_112 : decode cX2_enterFluency 112 = .ok (.return_, 1) := by decide +kernel
theorem dX2_enterSentence_0 : decode cX2_enterSentence 0 = .ok (.aload_n 1, 1) := by decide +kernel
theorem dX2_enterSentence_1 : decode cX2_enterSentence 1 = .ok (.invokevirtual 78, 3) := by decide +kernel
theorem dX2_enterSentence_4 : decode cX2_enterSentence 4 = .ok (.ifCond .eq 28, 3) := by decide +kernel
theorem dX2_enterSentence_7 : decode cX2_enterSentence 7 = .ok (.aload_n 0, 1) := by decide +kernel
theorem dX2_enterSentence_8 : decode cX2_enterSentence 8 = .ok (.aload_n 1, 1) := by decide +kernel
theorem dX2_enterSentence_9 : decode cX2_enterSentence 9 = .ok (.getfield 100, 3) := by decide +kernel
theorem dX2_enterSentence_12 : decode cX2_enterSentence 12 = .ok (.putfield 62, 3) := by decide +kernel
theorem dX2_enterSentence_15 : decode cX2_enterSentence 15 = .ok (.aload_n 1, 1) := by decide +kernel
theorem dX2_enterSentence_16 : decode cX2_enterSentence 16 = .ok (.getfield 103, 3) := by decide +kernel
theorem dX2_enterSentence_19 : decode cX2_enterSentence 19 = .ok (.iconst 0, 1) := by decide +kernel
theorem dX2_enterSentence_20 : decode cX2_enterSentence 20 = .ok (.aload_n 0, 1) := by decide +kernel
theorem dX2_enterSentence_21 : decode cX2_enterSentence 21 = .ok (.getfield 40, 3) := by decide +kernel
theorem dX2_enterSentence_24 : decode cX2_enterSentence 24 = .ok (.iconst 0, 1) := by decide +kernel
theorem dX2_enterSentence_25 : decode cX2_enterSentence 25 = .ok (.aload_n 0, 1) := by decide +kernel
theorem dX2_enterSentence_26 : decode cX2_enterSentence 26 = .ok (.getfield 62, 3) := by decide +kernel
theorem dX2_enterSentence_29 : decode cX2_enterSentence 29 = .ok (.invokestatic 46, 3) := by decide +kernel
theorem dX2_enterSentence_32 : decode cX2_enterSentence 32 = .ok (.return_, 1) := by decide +kernel
theorem dX2_sameRow_0 : decode cX2_sameRow 0 = .ok (.iconst 0, 1) := by decide +kernel
theorem dX2_sameRow_1 : decode cX2_sameRow 1 = .ok (.istore 5, 2) := by decide +kernel
theorem dX2_sameRow_3 : decode cX2_sameRow 3 = .ok (.iload 5, 2) := by decide +kernel
theorem dX2_sameRow_5 : decode cX2_sameRow 5 = .ok (.iload 4, 2) := by decide +kernel
theorem dX2_sameRow_7 : decode cX2_sameRow 7 = .ok (.if_icmp .ge 26, 3) := by decide +kernel
theorem dX2_sameRow_10 : decode cX2_sameRow 10 = .ok (.aload_n 0, 1) := by decide +kernel
theorem dX2_sameRow_11 : decode cX2_sameRow 11 = .ok (.iload_n 1, 1) := by decide +kernel
theorem dX2_sameRow_12 : decode cX2_sameRow 12 = .ok (.iload 5, 2) := by decide +kernel
theorem dX2_sameRow_14 : decode cX2_sameRow 14 = .ok (.iadd, 1) := by decide +kernel
theorem dX2_sameRow_15 : decode cX2_sameRow 15 = .ok (.iaload, 1) := by decide +kernel
theorem dX2_sameRow_16 : decode cX2_sameRow 16 = .ok (.aload_n 2, 1) := by decide +kernel
theorem dX2_sameRow_17 : decode cX2_sameRow 17 = .ok (.iload_n 3, 1) := by decide +kernel
theorem dX2_sameRow_18 : decode cX2_sameRow 18 = .ok (.iload 5, 2) := by decide +kernel
theorem dX2_sameRow_20 : decode cX2_sameRow 20 = .ok (.iadd, 1) := by decide +kernel
theorem dX2_sameRow_21 : decode cX2_sameRow 21 = .ok (.iaload, 1) := by decide +kernel
theorem dX2_sameRow_22 : decode cX2_sameRow 22 = .ok (.if_icmp .eq 5, 3) := by decide +kernel
theorem dX2_sameRow_25 : decode cX2_sameRow 25 = .ok (.iconst 0, 1) := by decide +kernel
theorem dX2_sameRow_26 : decode cX2_sameRow 26 = .ok (.ireturn, 1) := by decide +kernel
theorem dX2_sameRow_27 : decode cX2_sameRow 27 = .ok (.iinc 5 1, 3) := by decide +kernel
theorem dX2_sameRow_30 : decode cX2_sameRow 30 = .ok (.goto (-27), 3) := by decide +kernel
theorem dX2_sameRow_33 : decode cX2_sameRow 33 = .ok (.iconst 1, 1) := by decide +kernel
theorem dX2_sameRow_34 : decode cX2_sameRow 34 = .ok (.ireturn, 1) := by decide +kernel
theorem dX3_enter_0 : decode cX3_enter 0 = .ok (.iconst 0, 1) := by decide +kernel
theorem dX3_enter_1 : decode cX3_enter 1 = .ok (.istore_n 2, 1) := by decide +kernel
theorem dX3_enter_2 : decode cX3_enter 2 = .ok (.iconst 0, 1) := by decide +kernel
theorem dX3_enter_3 : decode cX3_enter 3 = .ok (.istore_n 3, 1) := by decide +kernel
theorem dX3_enter_4 : decode cX3_enter 4 = .ok (.iload_n 3, 1) := by decide +kernel
theorem dX3_enter_5 : decode cX3_enter 5 = .ok (.aload_n 1, 1) := by decide +kernel
theorem dX3_enter_6 : decode cX3_enter 6 = .ok (.getfield 9, 3) := by decide +kernel
theorem dX3_enter_9 : decode cX3_enter 9 = .ok (.if_icmp .ge 58, 3) := by decide +kernel
theorem dX3_enter_12 : decode cX3_enter 12 = .ok (.iload_n 3, 1) := by decide +kernel
theorem dX3_enter_13 : decode cX3_enter 13 = .ok (.istore 4, 2) := by decide +kernel
theorem dX3_enter_15 : decode cX3_enter 15 = .ok (.iload 4, 2) := by decide +kernel
theorem dX3_enter_17 : decode cX3_enter 17 = .ok (.aload_n 1, 1) := by decide +kernel
theorem dX3_enter_18 : decode cX3_enter 18 = .ok (.getfield 9, 3) := by decide +kernel
theorem dX3_enter_21 : decode cX3_enter 21 = .ok (.if_icmp .ge 40, 3) := by decide +kernel
theorem dX3_enter_24 : decode cX3_enter 24 = .ok (.iload 4, 2) := by decide +kernel
theorem dX3_enter_26 : decode cX3_enter 26 = .ok (.iload_n 3, 1) := by decide +kernel
theorem dX3_enter_27 : decode cX3_enter 27 = .ok (.iconst 3, 1) := by decide +kernel
theorem dX3_enter_28 : decode cX3_enter 28 = .ok (.iadd, 1) := by decide +kernel
theorem dX3_enter_29 : decode cX3_enter 29 = .ok (.if_icmp .ge 32, 3) := by decide +kernel
theorem dX3_enter_32 : decode cX3_enter 32 = .ok (.aload_n 0, 1) := by decide +kernel
theorem dX3_enter_33 : decode cX3_enter 33 = .ok (.aload_n 1, 1) := by decide +kernel
theorem dX3_enter_34 : decode cX3_enter 34 = .ok (.iload_n 3, 1) := by decide +kernel
theorem dX3_enter_35 : decode cX3_enter 35 = .ok (.iload 4, 2) := by decide +kernel
theorem dX3_enter_37 : decode cX3_enter 37 = .ok (.invokestatic 15, 3) := by decide +kernel
theorem dX3_enter_40 : decode cX3_enter 40 = .ok (.istore 5, 2) := by decide +kernel
theorem dX3_enter_42 : decode cX3_enter 42 = .ok (.iload 5, 2) := by decide +kernel
theorem dX3_enter_44 : decode cX3_enter 44 = .ok (.iconst (-1), 1) := by decide +kernel
theorem dX3_enter_45 : decode cX3_enter 45 = .ok (.if_icmp .ne 5, 3) := by decide +kernel
theorem dX3_enter_48 : decode cX3_enter 48 = .ok (.iconst (-1), 1) := by decide +kernel
theorem dX3_enter_49 : decode cX3_enter 49 = .ok (.ireturn, 1) := by decide +kernel
theorem dX3_enter_50 : decode cX3_enter 50 = .ok (.iload_n 2, 1) := by decide +kernel
theorem dX3_enter_51 : decode cX3_enter 51 = .ok (.iload 5, 2) := by decide +kernel
theorem dX3_enter_53 : decode cX3_enter 53 = .ok (.iadd, 1) := by decide +kernel
theorem dX3_enter_54 : decode cX3_enter 54 = .ok (.istore_n 2, 1) := by decide +kernel
theorem dX3_enter_55 : decode cX3_enter 55 = .ok (.iinc 4 1, 3) := by decide +kernel
theorem dX3_enter_58 : decode cX3_enter 58 = .ok (.goto (-43), 3) := by decide +kernel
theorem dX3_enter_61 : decode cX3_enter 61 = .ok (.iinc 3 1, 3) := by decide +kernel
theorem dX3_enter_64 : decode cX3_enter 64 = .ok (.goto (-60), 3) := by decide +kernel
theorem dX3_enter_67 : decode cX3_enter 67 = .ok (.iload_n 2, 1) := by decide +kernel
theorem dX3_enter_68 : decode cX3_enter 68 = .ok (.ireturn, 1) := by decide +kernel
theorem dX3_enterAhead_0 : decode cX3_enterAhead 0 = .ok (.iconst 0, 1) := by decide +kernel
theorem dX3_enterAhead_1 : decode cX3_enterAhead 1 = .ok (.istore 4, 2) := by decide +kernel
theorem dX3_enterAhead_3 : decode cX3_enterAhead 3 = .ok (.iconst 0, 1) := by decide +kernel
theorem dX3_enterAhead_4 : decode cX3_enterAhead 4 = .ok (.istore 5, 2) := by decide +kernel
theorem dX3_enterAhead_6 : decode cX3_enterAhead 6 = .ok (.iload 5, 2) := by decide +kernel
theorem dX3_enterAhead_8 : decode cX3_enterAhead 8 = .ok (.aload_n 1, 1) := by decide +kernel
theorem dX3_enterAhead_9 : decode cX3_enterAhead 9 = .ok (.getfield 21, 3) := by decide +kernel
theorem dX3_enterAhead_12 : decode cX3_enterAhead 12 = .ok (.if_icmp .ge 171, 3) := by decide +kernel
theorem dX3_enterAhead_15 : decode cX3_enterAhead 15 = .ok (.iload 5, 2) := by decide +kernel
theorem dX3_enterAhead_17 : decode cX3_enterAhead 17 = .ok (.istore 6, 2) := by decide +kernel
theorem dX3_enterAhead_19 : decode cX3_enterAhead 19 = .ok (.iload 6, 2) := by decide +kernel
theorem dX3_enterAhead_21 : decode cX3_enterAhead 21 = .ok (.aload_n 1, 1) := by decide +kernel
theorem dX3_enterAhead_22 : decode cX3_enterAhead 22 = .ok (.getfield 21, 3) := by decide +kernel
theorem dX3_enterAhead_25 : decode cX3_enterAhead 25 = .ok (.if_icmp .ge 152, 3) := by decide +kernel
theorem dX3_enterAhead_28 : decode cX3_enterAhead 28 = .ok (.iload 6, 2) := by decide +kernel
theorem dX3_enterAhead_30 : decode cX3_enterAhead 30 = .ok (.iload 5, 2) := by decide +kernel
theorem dX3_enterAhead_32 : decode cX3_enterAhead 32 = .ok (.iconst 3, 1) := by decide +kernel
theorem dX3_enterAhead_33 : decode cX3_enterAhead 33 = .ok (.iadd, 1) := by decide +kernel
theorem dX3_enterAhead_34 : decode cX3_enterAhead 34 = .ok (.if_icmp .ge 143, 3) := by decide +kernel
theorem dX3_enterAhead_37 : decode cX3_enterAhead 37 = .ok (.aload_n 1, 1) := by decide +kernel
theorem dX3_enterAhead_38 : decode cX3_enterAhead 38 = .ok (.iload_n 2, 1) := by decide +kernel
theorem dX3_enterAhead_39 : decode cX3_enterAhead 39 = .ok (.iload_n 3, 1) := by decide +kernel
theorem dX3_enterAhead_40 : decode cX3_enterAhead 40 = .ok (.iload 5, 2) := by decide +kernel
theorem dX3_enterAhead_42 : decode cX3_enterAhead 42 = .ok (.iload 6, 2) := by decide +kernel
theorem dX3_enterAhead_44 : decode cX3_enterAhead 44 = .ok (.invokestatic 24, 3) := by decide +kernel
theorem dX3_enterAhead_47 : decode cX3_enterAhead 47 = .ok (.ifCond .ne 6, 3) := by decide +kernel
theorem dX3_enterAhead_50 : decode cX3_enterAhead 50 = .ok (.goto 121, 3) := by decide +kernel
theorem dX3_enterAhead_53 : decode cX3_enterAhead 53 = .ok (.iload_n 3, 1) := by decide +kernel
theorem dX3_enterAhead_54 : decode cX3_enterAhead 54 = .ok (.iload_n 2, 1) := by decide +kernel
theorem dX3_enterAhead_55 : decode cX3_enterAhead 55 = .ok (.isub, 1) := by decide +kernel
theorem dX3_enterAhead_56 : decode cX3_enterAhead 56 = .ok (.iconst 1, 1) := by decide +kernel
theorem dX3_enterAhead_57 : decode cX3_enterAhead 57 = .ok (.iadd, 1) := by decide +kernel
theorem dX3_enterAhead_58 : decode cX3_enterAhead 58 = .ok (.istore 7, 2) := by decide +kernel
theorem dX3_enterAhead_60 : decode cX3_enterAhead 60 = .ok (.iload 6, 2) := by decide +kernel
theorem dX3_enterAhead_62 : decode cX3_enterAhead 62 = .ok (.iload 5, 2) := by decide +kernel
theorem dX3_enterAhead_64 : decode cX3_enterAhead 64 = .ok (.isub, 1) := by decide +kernel
theorem dX3_enterAhead_65 : decode cX3_enterAhead 65 = .ok (.iconst 1, 1) := by decide +kernel
theorem dX3_enterAhead_66 : decode cX3_enterAhead 66 = .ok (.iadd, 1) := by decide +kernel
theorem dX3_enterAhead_67 : decode cX3_enterAhead 67 = .ok (.istore 8, 2) := by decide +kernel
theorem dX3_enterAhead_69 : decode cX3_enterAhead 69 = .ok (.aload_n 0, 1) := by decide +kernel
theorem dX3_enterAhead_70 : decode cX3_enterAhead 70 = .ok (.aload_n 1, 1) := by decide +kernel
theorem dX3_enterAhead_71 : decode cX3_enterAhead 71 = .ok (.getfield 28, 3) := by decide +kernel
theorem dX3_enterAhead_74 : decode cX3_enterAhead 74 = .ok (.iload_n 2, 1) := by decide +kernel
theorem dX3_enterAhead_75 : decode cX3_enterAhead 75 = .ok (.iload 7, 2) := by decide +kernel
theorem dX3_enterAhead_77 : decode cX3_enterAhead 77 = .ok (.aload_n 1, 1) := by decide +kernel
theorem dX3_enterAhead_78 : decode cX3_enterAhead 78 = .ok (.getfield 32, 3) := by decide +kernel
theorem dX3_enterAhead_81 : decode cX3_enterAhead 81 = .ok (.iload 5, 2) := by decide +kernel
theorem dX3_enterAhead_83 : decode cX3_enterAhead 83 = .ok (.iload 8, 2) := by decide +kernel
theorem dX3_enterAhead_85 : decode cX3_enterAhead 85 = .ok (.invokevirtual 35, 3) := by decide +kernel
theorem dX3_enterAhead_88 : decode cX3_enterAhead 88 = .ok (.istore 9, 2) := by decide +kernel
theorem dX3_enterAhead_90 : decode cX3_enterAhead 90 = .ok (.iload 9, 2) := by decide +kernel
theorem dX3_enterAhead_92 : decode cX3_enterAhead 92 = .ok (.iconst (-1), 1) := by decide +kernel
theorem dX3_enterAhead_93 : decode cX3_enterAhead 93 = .ok (.if_icmp .eq 26, 3) := by decide +kernel
theorem dX3_enterAhead_96 : decode cX3_enterAhead 96 = .ok (.aload_n 0, 1) := by decide +kernel
theorem dX3_enterAhead_97 : decode cX3_enterAhead 97 = .ok (.getfield 41, 3) := by decide +kernel
theorem dX3_enterAhead_100 : decode cX3_enterAhead 100 = .ok (.iload 9, 2) := by decide +kernel
theorem dX3_enterAhead_102 : decode cX3_enterAhead 102 = .ok (.iconst 0, 1) := by decide +kernel
theorem dX3_enterAhead_103 : decode cX3_enterAhead 103 = .ok (.aload_n 0, 1) := by decide +kernel
theorem dX3_enterAhead_104 : decode cX3_enterAhead 104 = .ok (.getfield 41, 3) := by decide +kernel
theorem dX3_enterAhead_107 : decode cX3_enterAhead 107 = .ok (.iload 9, 2) := by decide +kernel
theorem dX3_enterAhead_109 : decode cX3_enterAhead 109 = .ok (.iaload, 1) := by decide +kernel
theorem dX3_enterAhead_110 : decode cX3_enterAhead 110 = .ok (.iconst 1, 1) := by decide +kernel
theorem dX3_enterAhead_111 : decode cX3_enterAhead 111 = .ok (.isub, 1) := by decide +kernel
theorem dX3_enterAhead_112 : decode cX3_enterAhead 112 = .ok (.invokestatic 44, 3) := by decide +kernel
theorem dX3_enterAhead_115 : decode cX3_enterAhead 115 = .ok (.iastore, 1) := by decide +kernel
theorem dX3_enterAhead_116 : decode cX3_enterAhead 116 = .ok (.goto 55, 3) := by decide +kernel
theorem dX3_enterAhead_119 : decode cX3_enterAhead 119 = .ok (.aload_n 0, 1) := by decide +kernel
theorem dX3_enterAhead_120 : decode cX3_enterAhead 120 = .ok (.getfield 50, 3) := by decide +kernel
theorem dX3_enterAhead_123 : decode cX3_enterAhead 123 = .ok (.bipush 30, 2) := by decide +kernel
theorem dX3_enterAhead_125 : decode cX3_enterAhead 125 = .ok (.if_icmp .ne 5, 3) := by decide +kernel
theorem dX3_enterAhead_128 : decode cX3_enterAhead 128 = .ok (.iconst (-1), 1) := by decide +kernel
theorem dX3_enterAhead_129 : decode cX3_enterAhead 129 = .ok (.ireturn, 1) := by decide +kernel
theorem dX3_enterAhead_130 : decode cX3_enterAhead 130 = .ok (.bipush 10, 2) := by decide +kernel
theorem dX3_enterAhead_132 : decode cX3_enterAhead 132 = .ok (.iconst 5, 1) := by decide +kernel
theorem dX3_enterAhead_133 : decode cX3_enterAhead 133 = .ok (.aload_n 1, 1) := by decide +kernel
theorem dX3_enterAhead_134 : decode cX3_enterAhead 134 = .ok (.iload_n 2, 1) := by decide +kernel
theorem dX3_enterAhead_135 : decode cX3_enterAhead 135 = .ok (.iload_n 3, 1) := by decide +kernel
theorem dX3_enterAhead_136 : decode cX3_enterAhead 136 = .ok (.iload 5, 2) := by decide +kernel
theorem dX3_enterAhead_138 : decode cX3_enterAhead 138 = .ok (.iload 6, 2) := by decide +kernel
theorem dX3_enterAhead_140 : decode cX3_enterAhead 140 = .ok (.invokestatic 53, 3) := by decide +kernel
theorem dX3_enterAhead_143 : decode cX3_enterAhead 143 = .ok (.imul, 1) := by decide +kernel
theorem dX3_enterAhead_144 : decode cX3_enterAhead 144 = .ok (.iadd, 1) := by decide +kernel
theorem dX3_enterAhead_145 : decode cX3_enterAhead 145 = .ok (.istore 10, 2) := by decide +kernel
theorem dX3_enterAhead_147 : decode cX3_enterAhead 147 = .ok (.aload_n 0, 1) := by decide +kernel
theorem dX3_enterAhead_148 : decode cX3_enterAhead 148 = .ok (.aload_n 1, 1) := by decide +kernel
theorem dX3_enterAhead_149 : decode cX3_enterAhead 149 = .ok (.getfield 28, 3) := by decide +kernel
theorem dX3_enterAhead_152 : decode cX3_enterAhead 152 = .ok (.iload_n 2, 1) := by decide +kernel
theorem dX3_enterAhead_153 : decode cX3_enterAhead 153 = .ok (.iload 7, 2) := by decide +kernel
theorem dX3_enterAhead_155 : decode cX3_enterAhead 155 = .ok (.aload_n 1, 1) := by decide +kernel
theorem dX3_enterAhead_156 : decode cX3_enterAhead 156 = .ok (.getfield 32, 3) := by decide +kernel
theorem dX3_enterAhead_159 : decode cX3_enterAhead 159 = .ok (.iload 5, 2) := by decide +kernel
theorem dX3_enterAhead_161 : decode cX3_enterAhead 161 = .ok (.iload 8, 2) := by decide +kernel
theorem dX3_enterAhead_163 : decode cX3_enterAhead 163 = .ok (.iload 10, 2) := by decide +kernel
theorem dX3_enterAhead_165 : decode cX3_enterAhead 165 = .ok (.invokevirtual 57, 3) := by decide +kernel
theorem dX3_enterAhead_168 : decode cX3_enterAhead 168 = .ok (.iinc 4 1, 3) := by decide +kernel
theorem dX3_enterAhead_171 : decode cX3_enterAhead 171 = .ok (.iinc 6 1, 3) := by decide +kernel
theorem dX3_enterAhead_174 : decode cX3_enterAhead 174 = .ok (.goto (-155), 3) := by decide +kernel
theorem dX3_enterAhead_177 : decode cX3_enterAhead 177 = .ok (.iinc 5 1, 3) := by decide +kernel
theorem dX3_enterAhead_180 : decode cX3_enterAhead 180 = .ok (.goto (-174), 3) := by decide +kernel
theorem dX3_enterAhead_183 : decode cX3_enterAhead 183 = .ok (.iload 4, 2) := by decide +kernel
theorem dX3_enterAhead_185 : decode cX3_enterAhead 185 = .ok (.ireturn, 1) := by decide +kernel
theorem dX3_belong_0 : decode cX3_belong 0 = .ok (.iload_n 3, 1) := by decide +kernel
theorem dX3_belong_1 : decode cX3_belong 1 = .ok (.iload 4, 2) := by decide +kernel
theorem dX3_belong_3 : decode cX3_belong 3 = .ok (.invokestatic 61, 3) := by decide +kernel
theorem dX3_belong_6 : decode cX3_belong 6 = .ok (.istore 5, 2) := by decide +kernel
theorem dX3_belong_8 : decode cX3_belong 8 = .ok (.iconst 0, 1) := by decide +kernel
theorem dX3_belong_9 : decode cX3_belong 9 = .ok (.istore 6, 2) := by decide +kernel
theorem dX3_belong_11 : decode cX3_belong 11 = .ok (.iconst 0, 1) := by decide +kernel
theorem dX3_belong_12 : decode cX3_belong 12 = .ok (.istore 7, 2) := by decide +kernel
theorem dX3_belong_14 : decode cX3_belong 14 = .ok (.iload 7, 2) := by decide +kernel
theorem dX3_belong_16 : decode cX3_belong 16 = .ok (.aload_n 0, 1) := by decide +kernel
theorem dX3_belong_17 : decode cX3_belong 17 = .ok (.getfield 9, 3) := by decide +kernel
theorem dX3_belong_20 : decode cX3_belong 20 = .ok (.if_icmp .ge 92, 3) := by decide +kernel
theorem dX3_belong_23 : decode cX3_belong 23 = .ok (.iload 7, 2) := by decide +kernel
theorem dX3_belong_25 : decode cX3_belong 25 = .ok (.iload_n 1, 1) := by decide +kernel
theorem dX3_belong_26 : decode cX3_belong 26 = .ok (.if_icmp .lt 13, 3) := by decide +kernel
theorem dX3_belong_29 : decode cX3_belong 29 = .ok (.iload 7, 2) := by decide +kernel
theorem dX3_belong_31 : decode cX3_belong 31 = .ok (.iload_n 2, 1) := by decide +kernel
theorem dX3_belong_32 : decode cX3_belong 32 = .ok (.if_icmp .gt 7, 3) := by decide +kernel
theorem dX3_belong_35 : decode cX3_belong 35 = .ok (.iconst 1, 1) := by decide +kernel
theorem dX3_belong_36 : decode cX3_belong 36 = .ok (.goto 4, 3) := by decide +kernel
theorem dX3_belong_39 : decode cX3_belong 39 = .ok (.iconst 0, 1) := by decide +kernel
theorem dX3_belong_40 : decode cX3_belong 40 = .ok (.istore 8, 2) := by decide +kernel
theorem dX3_belong_42 : decode cX3_belong 42 = .ok (.iload 8, 2) := by decide +kernel
theorem dX3_belong_44 : decode cX3_belong 44 = .ok (.ifCond .eq 18, 3) := by decide +kernel
theorem dX3_belong_47 : decode cX3_belong 47 = .ok (.aload_n 0, 1) := by decide +kernel
theorem dX3_belong_48 : decode cX3_belong 48 = .ok (.getfield 64, 3) := by decide +kernel
theorem dX3_belong_51 : decode cX3_belong 51 = .ok (.iload 7, 2) := by decide +kernel
theorem dX3_belong_53 : decode cX3_belong 53 = .ok (.iaload, 1) := by decide +kernel
theorem dX3_belong_54 : decode cX3_belong 54 = .ok (.iload 5, 2) := by decide +kernel
theorem dX3_belong_56 : decode cX3_belong 56 = .ok (.iconst (-1), 1) := by decide +kernel
theorem dX3_belong_57 : decode cX3_belong 57 = .ok (.ixor, 1) := by decide +kernel
theorem dX3_belong_58 : decode cX3_belong 58 = .ok (.iand, 1) := by decide +kernel
theorem dX3_belong_59 : decode cX3_belong 59 = .ok (.goto 13, 3) := by decide +kernel
theorem dX3_belong_62 : decode cX3_belong 62 = .ok (.aload_n 0, 1) := by decide +kernel
theorem dX3_belong_63 : decode cX3_belong 63 = .ok (.getfield 64, 3) := by decide +kernel
theorem dX3_belong_66 : decode cX3_belong 66 = .ok (.iload 7, 2) := by decide +kernel
theorem dX3_belong_68 : decode cX3_belong 68 = .ok (.iaload, 1) := by decide +kernel
theorem dX3_belong_69 : decode cX3_belong 69 = .ok (.iload 5, 2) := by decide +kernel
theorem dX3_belong_71 : decode cX3_belong 71 = .ok (.iand, 1) := by decide +kernel
theorem dX3_belong_72 : decode cX3_belong 72 = .ok (.istore 9, 2) := by decide +kernel
theorem dX3_belong_74 : decode cX3_belong 74 = .ok (.iload 9, 2) := by decide +kernel
theorem dX3_belong_76 : decode cX3_belong 76 = .ok (.ifCond .eq 5, 3) := by decide +kernel
theorem dX3_belong_79 : decode cX3_belong 79 = .ok (.iconst 0, 1) := by decide +kernel
theorem dX3_belong_80 : decode cX3_belong 80 = .ok (.ireturn, 1) := by decide +kernel
theorem dX3_belong_81 : decode cX3_belong 81 = .ok (.iload 6, 2) := by decide +kernel
theorem dX3_belong_83 : decode cX3_belong 83 = .ok (.iload 8, 2) := by decide +kernel
theorem dX3_belong_85 : decode cX3_belong 85 = .ok (.ifCond .eq 17, 3) := by decide +kernel
theorem dX3_belong_88 : decode cX3_belong 88 = .ok (.aload_n 0, 1) := by decide +kernel
theorem dX3_belong_89 : decode cX3_belong 89 = .ok (.getfield 64, 3) := by decide +kernel
theorem dX3_belong_92 : decode cX3_belong 92 = .ok (.iload 7, 2) := by decide +kernel
theorem dX3_belong_94 : decode cX3_belong 94 = .ok (.iaload, 1) := by decide +kernel
theorem dX3_belong_95 : decode cX3_belong 95 = .ok (.ifCond .eq 7, 3) := by decide +kernel
theorem dX3_belong_98 : decode cX3_belong 98 = .ok (.iconst 1, 1) := by decide +kernel
theorem dX3_belong_99 : decode cX3_belong 99 = .ok (.goto 4, 3) := by decide +kernel
theorem dX3_belong_102 : decode cX3_belong 102 = .ok (.iconst 0, 1) := by decide +kernel
theorem dX3_belong_103 : decode cX3_belong 103 = .ok (.ior, 1) := by decide +kernel
theorem dX3_belong_104 : decode cX3_belong 104 = .ok (.istore 6, 2) := by decide +kernel
theorem dX3_belong_106 : decode cX3_belong 106 = .ok (.iinc 7 1, 3) := by decide +kernel
theorem dX3_belong_109 : decode cX3_belong 109 = .ok (.goto (-95), 3) := by decide +kernel
theorem dX3_belong_112 : decode cX3_belong 112 = .ok (.iload 6, 2) := by decide +kernel
theorem dX3_belong_114 : decode cX3_belong 114 = .ok (.ireturn, 1) := by decide +kernel
theorem dX3_unlinked_0 : decode cX3_unlinked 0 = .ok (.iconst 0, 1) := by decide +kernel
theorem dX3_unlinked_1 : decode cX3_unlinked 1 = .ok (.istore 5, 2) := by decide +kernel
theorem dX3_unlinked_3 : decode cX3_unlinked 3 = .ok (.iconst 0, 1) := by decide +kernel
theorem dX3_unlinked_4 : decode cX3_unlinked 4 = .ok (.istore 6, 2) := by decide +kernel
theorem dX3_unlinked_6 : decode cX3_unlinked 6 = .ok (.iload_n 1, 1) := by decide +kernel
theorem dX3_unlinked_7 : decode cX3_unlinked 7 = .ok (.istore 7, 2) := by decide +kernel
theorem dX3_unlinked_9 : decode cX3_unlinked 9 = .ok (.iload 7, 2) := by decide +kernel
theorem dX3_unlinked_11 : decode cX3_unlinked 11 = .ok (.iload_n 2, 1) := by decide +kernel
theorem dX3_unlinked_12 : decode cX3_unlinked 12 = .ok (.if_icmp .gt 41, 3) := by decide +kernel
theorem dX3_unlinked_15 : decode cX3_unlinked 15 = .ok (.iload 5, 2) := by decide +kernel
theorem dX3_unlinked_17 : decode cX3_unlinked 17 = .ok (.aload_n 0, 1) := by decide +kernel
theorem dX3_unlinked_18 : decode cX3_unlinked 18 = .ok (.getfield 64, 3) := by decide +kernel
theorem dX3_unlinked_21 : decode cX3_unlinked 21 = .ok (.iload 7, 2) := by decide +kernel
theorem dX3_unlinked_23 : decode cX3_unlinked 23 = .ok (.iaload, 1) := by decide +kernel
theorem dX3_unlinked_24 : decode cX3_unlinked 24 = .ok (.ior, 1) := by decide +kernel
theorem dX3_unlinked_25 : decode cX3_unlinked 25 = .ok (.istore 5, 2) := by decide +kernel
theorem dX3_unlinked_27 : decode cX3_unlinked 27 = .ok (.iload 6, 2) := by decide +kernel
theorem dX3_unlinked_29 : decode cX3_unlinked 29 = .ok (.aload_n 0, 1) := by decide +kernel
theorem dX3_unlinked_30 : decode cX3_unlinked 30 = .ok (.getfield 64, 3) := by decide +kernel
theorem dX3_unlinked_33 : decode cX3_unlinked 33 = .ok (.iload 7, 2) := by decide +kernel
theorem dX3_unlinked_35 : decode cX3_unlinked 35 = .ok (.iaload, 1) := by decide +kernel
theorem dX3_unlinked_36 : decode cX3_unlinked 36 = .ok (.ifCond .ne 7, 3) := by decide +kernel
theorem dX3_unlinked_39 : decode cX3_unlinked 39 = .ok (.iconst 1, 1) := by decide +kernel
theorem dX3_unlinked_40 : decode cX3_unlinked 40 = .ok (.goto 4, 3) := by decide +kernel
theorem dX3_unlinked_43 : decode cX3_unlinked 43 = .ok (.iconst 0, 1) := by decide +kernel
theorem dX3_unlinked_44 : decode cX3_unlinked 44 = .ok (.iadd, 1) := by decide +kernel
theorem dX3_unlinked_45 : decode cX3_unlinked 45 = .ok (.istore 6, 2) := by decide +kernel
theorem dX3_unlinked_47 : decode cX3_unlinked 47 = .ok (.iinc 7 1, 3) := by decide +kernel
theorem dX3_unlinked_50 : decode cX3_unlinked 50 = .ok (.goto (-41), 3) := by decide +kernel
theorem dX3_unlinked_53 : decode cX3_unlinked 53 = .ok (.iload 6, 2) := by decide +kernel
theorem dX3_unlinked_55 : decode cX3_unlinked 55 = .ok (.iload_n 3, 1) := by decide +kernel
theorem dX3_unlinked_56 : decode cX3_unlinked 56 = .ok (.iload 4, 2) := by decide +kernel
theorem dX3_unlinked_58 : decode cX3_unlinked 58 = .ok (.invokestatic 61, 3) := by decide +kernel
theorem dX3_unlinked_61 : decode cX3_unlinked 61 = .ok (.iload 5, 2) := by decide +kernel
theorem dX3_unlinked_63 : decode cX3_unlinked 63 = .ok (.iconst (-1), 1) := by decide +kernel
theorem dX3_unlinked_64 : decode cX3_unlinked 64 = .ok (.ixor, 1) := by decide +kernel
theorem dX3_unlinked_65 : decode cX3_unlinked 65 = .ok (.iand, 1) := by decide +kernel
theorem dX3_unlinked_66 : decode cX3_unlinked 66 = .ok (.invokestatic 67, 3) := by decide +kernel
theorem dX3_unlinked_69 : decode cX3_unlinked 69 = .ok (.iadd, 1) := by decide +kernel
theorem dX3_unlinked_70 : decode cX3_unlinked 70 = .ok (.ireturn, 1) := by decide +kernel
theorem dX3_bitsOf_0 : decode cX3_bitsOf 0 = .ok (.iconst 1, 1) := by decide +kernel
theorem dX3_bitsOf_1 : decode cX3_bitsOf 1 = .ok (.iload_n 1, 1) := by decide +kernel
theorem dX3_bitsOf_2 : decode cX3_bitsOf 2 = .ok (.iconst 1, 1) := by decide +kernel
theorem dX3_bitsOf_3 : decode cX3_bitsOf 3 = .ok (.iadd, 1) := by decide +kernel
theorem dX3_bitsOf_4 : decode cX3_bitsOf 4 = .ok (.ishl, 1) := by decide +kernel
theorem dX3_bitsOf_5 : decode cX3_bitsOf 5 = .ok (.iconst 1, 1) := by decide +kernel
theorem dX3_bitsOf_6 : decode cX3_bitsOf 6 = .ok (.iload_n 0, 1) := by decide +kernel
theorem dX3_bitsOf_7 : decode cX3_bitsOf 7 = .ok (.ishl, 1) := by decide +kernel
theorem dX3_bitsOf_8 : decode cX3_bitsOf 8 = .ok (.isub, 1) := by decide +kernel
theorem dX3_bitsOf_9 : decode cX3_bitsOf 9 = .ok (.ireturn, 1) := by decide +kernel
theorem dX4_init_0 : decode cX4_init 0 = .ok (.aload_n 0, 1) := by decide +kernel
theorem dX4_init_1 : decode cX4_init 1 = .ok (.invokespecial 3, 3) := by decide +kernel
theorem dX4_init_4 : decode cX4_init 4 = .ok (.aload_n 0, 1) := by decide +kernel
theorem dX4_init_5 : decode cX4_init 5 = .ok (.bipush 19, 2) := by decide +kernel
theorem dX4_init_7 : decode cX4_init 7 = .ok (.newarray .int, 2) := by decide +kernel
theorem dX4_init_9 : decode cX4_init 9 = .ok (.putfield 9, 3) := by decide +kernel
theorem dX4_init_12 : decode cX4_init 12 = .ok (.aload_n 0, 1) := by decide +kernel
theorem dX4_init_13 : decode cX4_init 13 = .ok (.bipush 10, 2) := by decide +kernel
theorem dX4_init_15 : decode cX4_init 15 = .ok (.bipush 18, 2) := by decide +kernel
theorem dX4_init_17 : decode cX4_init 17 = .ok (.multianewarray 15 2, 4) := by decide +kernel
theorem dX4_init_21 : decode cX4_init 21 = .ok (.putfield 17, 3) := by decide +kernel
theorem dX4_init_24 : decode cX4_init 24 = .ok (.aload_n 0, 1) := by decide +kernel
theorem dX4_init_25 : decode cX4_init 25 = .ok (.bipush 10, 2) := by decide +kernel
theorem dX4_init_27 : decode cX4_init 27 = .ok (.newarray .int, 2) := by decide +kernel
theorem dX4_init_29 : decode cX4_init 29 = .ok (.putfield 20, 3) := by decide +kernel
theorem dX4_init_32 : decode cX4_init 32 = .ok (.return_, 1) := by decide +kernel
theorem dX4_apart_0 : decode cX4_apart 0 = .ok (.iconst 0, 1) := by decide +kernel
theorem dX4_apart_1 : decode cX4_apart 1 = .ok (.istore 5, 2) := by decide +kernel
theorem dX4_apart_3 : decode cX4_apart 3 = .ok (.iload 5, 2) := by decide +kernel
theorem dX4_apart_5 : decode cX4_apart 5 = .ok (.iload 4, 2) := by decide +kernel
theorem dX4_apart_7 : decode cX4_apart 7 = .ok (.if_icmp .gt 18, 3) := by decide +kernel
theorem dX4_apart_10 : decode cX4_apart 10 = .ok (.aload_n 0, 1) := by decide +kernel
theorem dX4_apart_11 : decode cX4_apart 11 = .ok (.getfield 9, 3) := by decide +kernel
theorem dX4_apart_14 : decode cX4_apart 14 = .ok (.iload 5, 2) := by decide +kernel
theorem dX4_apart_16 : decode cX4_apart 16 = .ok (.iload 5, 2) := by decide +kernel
theorem dX4_apart_18 : decode cX4_apart 18 = .ok (.iastore, 1) := by decide +kernel
theorem dX4_apart_19 : decode cX4_apart 19 = .ok (.iinc 5 1, 3) := by decide +kernel
theorem dX4_apart_22 : decode cX4_apart 22 = .ok (.goto (-19), 3) := by decide +kernel
theorem dX4_apart_25 : decode cX4_apart 25 = .ok (.iconst 1, 1) := by decide +kernel
theorem dX4_apart_26 : decode cX4_apart 26 = .ok (.istore 5, 2) := by decide +kernel
theorem dX4_apart_28 : decode cX4_apart 28 = .ok (.iload 5, 2) := by decide +kernel
theorem dX4_apart_30 : decode cX4_apart 30 = .ok (.iload_n 2, 1) := by decide +kernel
theorem dX4_apart_31 : decode cX4_apart 31 = .ok (.if_icmp .gt 103, 3) := by decide +kernel
theorem dX4_apart_34 : decode cX4_apart 34 = .ok (.aload_n 0, 1) := by decide +kernel
theorem dX4_apart_35 : decode cX4_apart 35 = .ok (.getfield 9, 3) := by decide +kernel
theorem dX4_apart_38 : decode cX4_apart 38 = .ok (.iconst 0, 1) := by decide +kernel
theorem dX4_apart_39 : decode cX4_apart 39 = .ok (.iaload, 1) := by decide +kernel
theorem dX4_apart_40 : decode cX4_apart 40 = .ok (.istore 6, 2) := by decide +kernel
theorem dX4_apart_42 : decode cX4_apart 42 = .ok (.aload_n 0, 1) := by decide +kernel
theorem dX4_apart_43 : decode cX4_apart 43 = .ok (.getfield 9, 3) := by decide +kernel
theorem dX4_apart_46 : decode cX4_apart 46 = .ok (.iconst 0, 1) := by decide +kernel
theorem dX4_apart_47 : decode cX4_apart 47 = .ok (.iload 5, 2) := by decide +kernel
theorem dX4_apart_49 : decode cX4_apart 49 = .ok (.iastore, 1) := by decide +kernel
theorem dX4_apart_50 : decode cX4_apart 50 = .ok (.iconst 1, 1) := by decide +kernel
theorem dX4_apart_51 : decode cX4_apart 51 = .ok (.istore 7, 2) := by decide +kernel
theorem dX4_apart_53 : decode cX4_apart 53 = .ok (.iload 7, 2) := by decide +kernel
theorem dX4_apart_55 : decode cX4_apart 55 = .ok (.iload 4, 2) := by decide +kernel
theorem dX4_apart_57 : decode cX4_apart 57 = .ok (.if_icmp .gt 71, 3) := by decide +kernel
theorem dX4_apart_60 : decode cX4_apart 60 = .ok (.iload 6, 2) := by decide +kernel
theorem dX4_apart_62 : decode cX4_apart 62 = .ok (.aload_n 1, 1) := by decide +kernel
theorem dX4_apart_63 : decode cX4_apart 63 = .ok (.iload 5, 2) := by decide +kernel
theorem dX4_apart_65 : decode cX4_apart 65 = .ok (.iconst 1, 1) := by decide +kernel
theorem dX4_apart_66 : decode cX4_apart 66 = .ok (.isub, 1) := by decide +kernel
theorem dX4_apart_67 : decode cX4_apart 67 = .ok (.iaload, 1) := by decide +kernel
theorem dX4_apart_68 : decode cX4_apart 68 = .ok (.aload_n 3, 1) := by decide +kernel
theorem dX4_apart_69 : decode cX4_apart 69 = .ok (.iload 7, 2) := by decide +kernel
theorem dX4_apart_71 : decode cX4_apart 71 = .ok (.iconst 1, 1) := by decide +kernel
theorem dX4_apart_72 : decode cX4_apart 72 = .ok (.isub, 1) := by decide +kernel
theorem dX4_apart_73 : decode cX4_apart 73 = .ok (.iaload, 1) := by decide +kernel
theorem dX4_apart_74 : decode cX4_apart 74 = .ok (.if_icmp .ne 7, 3) := by decide +kernel
theorem dX4_apart_77 : decode cX4_apart 77 = .ok (.iconst 0, 1) := by decide +kernel
theorem dX4_apart_78 : decode cX4_apart 78 = .ok (.goto 4, 3) := by decide +kernel
theorem dX4_apart_81 : decode cX4_apart 81 = .ok (.iconst 1, 1) := by decide +kernel
theorem dX4_apart_82 : decode cX4_apart 82 = .ok (.iadd, 1) := by decide +kernel
theorem dX4_apart_83 : decode cX4_apart 83 = .ok (.istore 8, 2) := by decide +kernel
theorem dX4_apart_85 : decode cX4_apart 85 = .ok (.aload_n 0, 1) := by decide +kernel
theorem dX4_apart_86 : decode cX4_apart 86 = .ok (.getfield 9, 3) := by decide +kernel
theorem dX4_apart_89 : decode cX4_apart 89 = .ok (.iload 7, 2) := by decide +kernel
theorem dX4_apart_91 : decode cX4_apart 91 = .ok (.iaload, 1) := by decide +kernel
theorem dX4_apart_92 : decode cX4_apart 92 = .ok (.istore 6, 2) := by decide +kernel
theorem dX4_apart_94 : decode cX4_apart 94 = .ok (.aload_n 0, 1) := by decide +kernel
theorem dX4_apart_95 : decode cX4_apart 95 = .ok (.getfield 9, 3) := by decide +kernel
theorem dX4_apart_98 : decode cX4_apart 98 = .ok (.iload 7, 2) := by decide +kernel
theorem dX4_apart_100 : decode cX4_apart 100 = .ok (.iload 8, 2) := by decide +kernel
theorem dX4_apart_102 : decode cX4_apart 102 = .ok (.aload_n 0, 1) := by decide +kernel
theorem dX4_apart_103 : decode cX4_apart 103 = .ok (.getfield 9, 3) := by decide +kernel
theorem dX4_apart_106 : decode cX4_apart 106 = .ok (.iload 7, 2) := by decide +kernel
theorem dX4_apart_108 : decode cX4_apart 108 = .ok (.iconst 1, 1) := by decide +kernel
theorem dX4_apart_109 : decode cX4_apart 109 = .ok (.isub, 1) := by decide +kernel
theorem dX4_apart_110 : decode cX4_apart 110 = .ok (.iaload, 1) := by decide +kernel
theorem dX4_apart_111 : decode cX4_apart 111 = .ok (.iload 6, 2) := by decide +kernel
theorem dX4_apart_113 : decode cX4_apart 113 = .ok (.invokestatic 23, 3) := by decide +kernel
theorem dX4_apart_116 : decode cX4_apart 116 = .ok (.iconst 1, 1) := by decide +kernel
theorem dX4_apart_117 : decode cX4_apart 117 = .ok (.iadd, 1) := by decide +kernel
theorem dX4_apart_118 : decode cX4_apart 118 = .ok (.invokestatic 23, 3) := by decide +kernel
theorem dX4_apart_121 : decode cX4_apart 121 = .ok (.iastore, 1) := by decide +kernel
theorem dX4_apart_122 : decode cX4_apart 122 = .ok (.iinc 7 1, 3) := by decide +kernel
theorem dX4_apart_125 : decode cX4_apart 125 = .ok (.goto (-72), 3) := by decide +kernel
theorem dX4_apart_128 : decode cX4_apart 128 = .ok (.iinc 5 1, 3) := by decide +kernel
theorem dX4_apart_131 : decode cX4_apart 131 = .ok (.goto (-103), 3) := by decide +kernel
theorem dX4_apart_134 : decode cX4_apart 134 = .ok (.aload_n 0, 1) := by decide +kernel
theorem dX4_apart_135 : decode cX4_apart 135 = .ok (.getfield 9, 3) := by decide +kernel
theorem dX4_apart_138 : decode cX4_apart 138 = .ok (.iload 4, 2) := by decide +kernel
theorem dX4_apart_140 : decode cX4_apart 140 = .ok (.iaload, 1) := by decide +kernel
theorem dX4_apart_141 : decode cX4_apart 141 = .ok (.ireturn, 1) := by decide +kernel
theorem dX4_common_0 : decode cX4_common 0 = .ok (.iconst 0, 1) := by decide +kernel
theorem dX4_common_1 : decode cX4_common 1 = .ok (.istore 6, 2) := by decide +kernel
theorem dX4_common_3 : decode cX4_common 3 = .ok (.iconst 0, 1) := by decide +kernel
theorem dX4_common_4 : decode cX4_common 4 = .ok (.istore 7, 2) := by decide +kernel
theorem dX4_common_6 : decode cX4_common 6 = .ok (.iload 7, 2) := by decide +kernel
theorem dX4_common_8 : decode cX4_common 8 = .ok (.iload 5, 2) := by decide +kernel
theorem dX4_common_10 : decode cX4_common 10 = .ok (.iadd, 1) := by decide +kernel
theorem dX4_common_11 : decode cX4_common 11 = .ok (.iload_n 2, 1) := by decide +kernel
theorem dX4_common_12 : decode cX4_common 12 = .ok (.if_icmp .gt 48, 3) := by decide +kernel
theorem dX4_common_15 : decode cX4_common 15 = .ok (.aload_n 0, 1) := by decide +kernel
theorem dX4_common_16 : decode cX4_common 16 = .ok (.aload_n 1, 1) := by decide +kernel
theorem dX4_common_17 : decode cX4_common 17 = .ok (.iload 7, 2) := by decide +kernel
theorem dX4_common_19 : decode cX4_common 19 = .ok (.aload_n 1, 1) := by decide +kernel
theorem dX4_common_20 : decode cX4_common 20 = .ok (.iload 7, 2) := by decide +kernel
theorem dX4_common_22 : decode cX4_common 22 = .ok (.iload 5, 2) := by decide +kernel
theorem dX4_common_24 : decode cX4_common 24 = .ok (.iadd, 1) := by decide +kernel
theorem dX4_common_25 : decode cX4_common 25 = .ok (.iconst 1, 1) := by decide +kernel
theorem dX4_common_26 : decode cX4_common 26 = .ok (.isub, 1) := by decide +kernel
theorem dX4_common_27 : decode cX4_common 27 = .ok (.iload 5, 2) := by decide +kernel
theorem dX4_common_29 : decode cX4_common 29 = .ok (.invokevirtual 29, 3) := by decide +kernel
theorem dX4_common_32 : decode cX4_common 32 = .ok (.istore 8, 2) := by decide +kernel
theorem dX4_common_34 : decode cX4_common 34 = .ok (.iload 8, 2) := by decide +kernel
theorem dX4_common_36 : decode cX4_common 36 = .ok (.aload_n 0, 1) := by decide +kernel
theorem dX4_common_37 : decode cX4_common 37 = .ok (.aload_n 1, 1) := by decide +kernel
theorem dX4_common_38 : decode cX4_common 38 = .ok (.iload 7, 2) := by decide +kernel
theorem dX4_common_40 : decode cX4_common 40 = .ok (.aload_n 3, 1) := by decide +kernel
theorem dX4_common_41 : decode cX4_common 41 = .ok (.iload 4, 2) := by decide +kernel
theorem dX4_common_43 : decode cX4_common 43 = .ok (.iload 5, 2) := by decide +kernel
theorem dX4_common_45 : decode cX4_common 45 = .ok (.invokevirtual 29, 3) := by decide +kernel
theorem dX4_common_48 : decode cX4_common 48 = .ok (.if_icmp .ge 6, 3) := by decide +kernel
theorem dX4_common_51 : decode cX4_common 51 = .ok (.iinc 6 1, 3) := by decide +kernel
theorem dX4_common_54 : decode cX4_common 54 = .ok (.iinc 7 1, 3) := by decide +kernel
theorem dX4_common_57 : decode cX4_common 57 = .ok (.goto (-51), 3) := by decide +kernel
theorem dX4_common_60 : decode cX4_common 60 = .ok (.iload 6, 2) := by decide +kernel
theorem dX4_common_62 : decode cX4_common 62 = .ok (.ireturn, 1) := by decide +kernel
theorem dX4_howOften_0 : decode cX4_howOften 0 = .ok (.iconst 0, 1) := by decide +kernel
theorem dX4_howOften_1 : decode cX4_howOften 1 = .ok (.istore 6, 2) := by decide +kernel
theorem dX4_howOften_3 : decode cX4_howOften 3 = .ok (.iconst 0, 1) := by decide +kernel
theorem dX4_howOften_4 : decode cX4_howOften 4 = .ok (.istore 7, 2) := by decide +kernel
theorem dX4_howOften_6 : decode cX4_howOften 6 = .ok (.iload 7, 2) := by decide +kernel
theorem dX4_howOften_8 : decode cX4_howOften 8 = .ok (.iload 5, 2) := by decide +kernel
theorem dX4_howOften_10 : decode cX4_howOften 10 = .ok (.iadd, 1) := by decide +kernel
theorem dX4_howOften_11 : decode cX4_howOften 11 = .ok (.iload 4, 2) := by decide +kernel
theorem dX4_howOften_13 : decode cX4_howOften 13 = .ok (.if_icmp .gt 32, 3) := by decide +kernel
theorem dX4_howOften_16 : decode cX4_howOften 16 = .ok (.iload 6, 2) := by decide +kernel
theorem dX4_howOften_18 : decode cX4_howOften 18 = .ok (.aload_n 1, 1) := by decide +kernel
theorem dX4_howOften_19 : decode cX4_howOften 19 = .ok (.iload_n 2, 1) := by decide +kernel
theorem dX4_howOften_20 : decode cX4_howOften 20 = .ok (.aload_n 3, 1) := by decide +kernel
theorem dX4_howOften_21 : decode cX4_howOften 21 = .ok (.iload 7, 2) := by decide +kernel
theorem dX4_howOften_23 : decode cX4_howOften 23 = .ok (.iload 5, 2) := by decide +kernel
theorem dX4_howOften_25 : decode cX4_howOften 25 = .ok (.invokestatic 33, 3) := by decide +kernel
theorem dX4_howOften_28 : decode cX4_howOften 28 = .ok (.ifCond .eq 7, 3) := by decide +kernel
theorem dX4_howOften_31 : decode cX4_howOften 31 = .ok (.iconst 1, 1) := by decide +kernel
theorem dX4_howOften_32 : decode cX4_howOften 32 = .ok (.goto 4, 3) := by decide +kernel
theorem dX4_howOften_35 : decode cX4_howOften 35 = .ok (.iconst 0, 1) := by decide +kernel
theorem dX4_howOften_36 : decode cX4_howOften 36 = .ok (.iadd, 1) := by decide +kernel
theorem dX4_howOften_37 : decode cX4_howOften 37 = .ok (.istore 6, 2) := by decide +kernel
theorem dX4_howOften_39 : decode cX4_howOften 39 = .ok (.iinc 7 1, 3) := by decide +kernel
theorem dX4_howOften_42 : decode cX4_howOften 42 = .ok (.goto (-36), 3) := by decide +kernel
theorem dX4_howOften_45 : decode cX4_howOften 45 = .ok (.iload 6, 2) := by decide +kernel
theorem dX4_howOften_47 : decode cX4_howOften 47 = .ok (.ireturn, 1) := by decide +kernel
theorem dX4_clear_0 : decode cX4_clear 0 = .ok (.aload_n 0, 1) := by decide +kernel
theorem dX4_clear_1 : decode cX4_clear 1 = .ok (.iconst 0, 1) := by decide +kernel
theorem dX4_clear_2 : decode cX4_clear 2 = .ok (.putfield 39, 3) := by decide +kernel
theorem dX4_clear_5 : decode cX4_clear 5 = .ok (.return_, 1) := by decide +kernel
theorem dX4_add_0 : decode cX4_add 0 = .ok (.aload_n 0, 1) := by decide +kernel
theorem dX4_add_1 : decode cX4_add 1 = .ok (.getfield 39, 3) := by decide +kernel
theorem dX4_add_4 : decode cX4_add 4 = .ok (.bipush 10, 2) := by decide +kernel
theorem dX4_add_6 : decode cX4_add 6 = .ok (.if_icmp .ge 39, 3) := by decide +kernel
theorem dX4_add_9 : decode cX4_add 9 = .ok (.aload_n 1, 1) := by decide +kernel
theorem dX4_add_10 : decode cX4_add 10 = .ok (.iconst 0, 1) := by decide +kernel
theorem dX4_add_11 : decode cX4_add 11 = .ok (.aload_n 0, 1) := by decide +kernel
theorem dX4_add_12 : decode cX4_add 12 = .ok (.getfield 17, 3) := by decide +kernel
theorem dX4_add_15 : decode cX4_add 15 = .ok (.aload_n 0, 1) := by decide +kernel
theorem dX4_add_16 : decode cX4_add 16 = .ok (.getfield 39, 3) := by decide +kernel
theorem dX4_add_19 : decode cX4_add 19 = .ok (.aaload, 1) := by decide +kernel
theorem dX4_add_20 : decode cX4_add 20 = .ok (.iconst 0, 1) := by decide +kernel
theorem dX4_add_21 : decode cX4_add 21 = .ok (.iload_n 2, 1) := by decide +kernel
theorem dX4_add_22 : decode cX4_add 22 = .ok (.invokestatic 43, 3) := by decide +kernel
theorem dX4_add_25 : decode cX4_add 25 = .ok (.aload_n 0, 1) := by decide +kernel
theorem dX4_add_26 : decode cX4_add 26 = .ok (.getfield 20, 3) := by decide +kernel
theorem dX4_add_29 : decode cX4_add 29 = .ok (.aload_n 0, 1) := by decide +kernel
theorem dX4_add_30 : decode cX4_add 30 = .ok (.getfield 39, 3) := by decide +kernel
theorem dX4_add_33 : decode cX4_add 33 = .ok (.iload_n 2, 1) := by decide +kernel
theorem dX4_add_34 : decode cX4_add 34 = .ok (.iastore, 1) := by decide +kernel
theorem dX4_add_35 : decode cX4_add 35 = .ok (.aload_n 0, 1) := by decide +kernel
theorem dX4_add_36 : decode cX4_add 36 = .ok (.dup, 1) := by decide +kernel
theorem dX4_add_37 : decode cX4_add 37 = .ok (.getfield 39, 3) := by decide +kernel
theorem dX4_add_40 : decode cX4_add 40 = .ok (.iconst 1, 1) := by decide +kernel
theorem dX4_add_41 : decode cX4_add 41 = .ok (.iadd, 1) := by decide +kernel
theorem dX4_add_42 : decode cX4_add 42 = .ok (.putfield 39, 3) := by decide +kernel
theorem dX4_add_45 : decode cX4_add 45 = .ok (.return_, 1) := by decide +kernel
theorem dX4_middle_0 : decode cX4_middle 0 = .ok (.iconst 0, 1) := by decide +kernel
theorem dX4_middle_1 : decode cX4_middle 1 = .ok (.istore_n 1, 1) := by decide +kernel
theorem dX4_middle_2 : decode cX4_middle 2 = .ok (.ldc 49, 2) := by decide +kernel
theorem dX4_middle_4 : decode cX4_middle 4 = .ok (.istore_n 2, 1) := by decide +kernel
theorem dX4_middle_5 : decode cX4_middle 5 = .ok (.iconst 0, 1) := by decide +kernel
theorem dX4_middle_6 : decode cX4_middle 6 = .ok (.istore_n 3, 1) := by decide +kernel
theorem dX4_middle_7 : decode cX4_middle 7 = .ok (.iload_n 3, 1) := by decide +kernel
theorem dX4_middle_8 : decode cX4_middle 8 = .ok (.aload_n 0, 1) := by decide +kernel
theorem dX4_middle_9 : decode cX4_middle 9 = .ok (.getfield 39, 3) := by decide +kernel
theorem dX4_middle_12 : decode cX4_middle 12 = .ok (.if_icmp .ge 76, 3) := by decide +kernel
theorem dX4_middle_15 : decode cX4_middle 15 = .ok (.iconst 0, 1) := by decide +kernel
theorem dX4_middle_16 : decode cX4_middle 16 = .ok (.istore 4, 2) := by decide +kernel
theorem dX4_middle_18 : decode cX4_middle 18 = .ok (.iconst 0, 1) := by decide +kernel
theorem dX4_middle_19 : decode cX4_middle 19 = .ok (.istore 5, 2) := by decide +kernel
theorem dX4_middle_21 : decode cX4_middle 21 = .ok (.iload 5, 2) := by decide +kernel
theorem dX4_middle_23 : decode cX4_middle 23 = .ok (.aload_n 0, 1) := by decide +kernel
theorem dX4_middle_24 : decode cX4_middle 24 = .ok (.getfield 39, 3) := by decide +kernel
theorem dX4_middle_27 : decode cX4_middle 27 = .ok (.if_icmp .ge 44, 3) := by decide +kernel
theorem dX4_middle_30 : decode cX4_middle 30 = .ok (.iload 4, 2) := by decide +kernel
theorem dX4_middle_32 : decode cX4_middle 32 = .ok (.aload_n 0, 1) := by decide +kernel
theorem dX4_middle_33 : decode cX4_middle 33 = .ok (.aload_n 0, 1) := by decide +kernel
theorem dX4_middle_34 : decode cX4_middle 34 = .ok (.getfield 17, 3) := by decide +kernel
theorem dX4_middle_37 : decode cX4_middle 37 = .ok (.iload_n 3, 1) := by decide +kernel
theorem dX4_middle_38 : decode cX4_middle 38 = .ok (.aaload, 1) := by decide +kernel
theorem dX4_middle_39 : decode cX4_middle 39 = .ok (.aload_n 0, 1) := by decide +kernel
theorem dX4_middle_40 : decode cX4_middle 40 = .ok (.getfield 20, 3) := by decide +kernel
theorem dX4_middle_43 : decode cX4_middle 43 = .ok (.iload_n 3, 1) := by decide +kernel
theorem dX4_middle_44 : decode cX4_middle 44 = .ok (.iaload, 1) := by decide +kernel
theorem dX4_middle_45 : decode cX4_middle 45 = .ok (.aload_n 0, 1) := by decide +kernel
theorem dX4_middle_46 : decode cX4_middle 46 = .ok (.getfield 17, 3) := by decide +kernel
theorem dX4_middle_49 : decode cX4_middle 49 = .ok (.iload 5, 2) := by decide +kernel
theorem dX4_middle_51 : decode cX4_middle 51 = .ok (.aaload, 1) := by decide +kernel
theorem dX4_middle_52 : decode cX4_middle 52 = .ok (.aload_n 0, 1) := by decide +kernel
theorem dX4_middle_53 : decode cX4_middle 53 = .ok (.getfield 20, 3) := by decide +kernel
theorem dX4_middle_56 : decode cX4_middle 56 = .ok (.iload 5, 2) := by decide +kernel
theorem dX4_middle_58 : decode cX4_middle 58 = .ok (.iaload, 1) := by decide +kernel
theorem dX4_middle_59 : decode cX4_middle 59 = .ok (.invokevirtual 50, 3) := by decide +kernel
theorem dX4_middle_62 : decode cX4_middle 62 = .ok (.iadd, 1) := by decide +kernel
theorem dX4_middle_63 : decode cX4_middle 63 = .ok (.istore 4, 2) := by decide +kernel
theorem dX4_middle_65 : decode cX4_middle 65 = .ok (.iinc 5 1, 3) := by decide +kernel
theorem dX4_middle_68 : decode cX4_middle 68 = .ok (.goto (-47), 3) := by decide +kernel
theorem dX4_middle_71 : decode cX4_middle 71 = .ok (.iload 4, 2) := by decide +kernel
theorem dX4_middle_73 : decode cX4_middle 73 = .ok (.iload_n 2, 1) := by decide +kernel
theorem dX4_middle_74 : decode cX4_middle 74 = .ok (.if_icmp .ge 8, 3) := by decide +kernel
theorem dX4_middle_77 : decode cX4_middle 77 = .ok (.iload 4, 2) := by decide +kernel
theorem dX4_middle_79 : decode cX4_middle 79 = .ok (.istore_n 2, 1) := by decide +kernel
theorem dX4_middle_80 : decode cX4_middle 80 = .ok (.iload_n 3, 1) := by decide +kernel
theorem dX4_middle_81 : decode cX4_middle 81 = .ok (.istore_n 1, 1) := by decide +kernel
theorem dX4_middle_82 : decode cX4_middle 82 = .ok (.iinc 3 1, 3) := by decide +kernel
theorem dX4_middle_85 : decode cX4_middle 85 = .ok (.goto (-78), 3) := by decide +kernel
theorem dX4_middle_88 : decode cX4_middle 88 = .ok (.iload_n 1, 1) := by decide +kernel
theorem dX4_middle_89 : decode cX4_middle 89 = .ok (.ireturn, 1) := by decide +kernel
theorem dX5_init_0 : decode cX5_init 0 = .ok (.aload_n 0, 1) := by decide +kernel
theorem dX5_init_1 : decode cX5_init 1 = .ok (.invokespecial 3, 3) := by decide +kernel
theorem dX5_init_4 : decode cX5_init 4 = .ok (.aload_n 0, 1) := by decide +kernel
theorem dX5_init_5 : decode cX5_init 5 = .ok (.sipush 186, 3) := by decide +kernel
theorem dX5_init_8 : decode cX5_init 8 = .ok (.newarray .int, 2) := by decide +kernel
theorem dX5_init_10 : decode cX5_init 10 = .ok (.putfield 9, 3) := by decide +kernel
theorem dX5_init_13 : decode cX5_init 13 = .ok (.aload_n 0, 1) := by decide +kernel
theorem dX5_init_14 : decode cX5_init 14 = .ok (.sipush 186, 3) := by decide +kernel
theorem dX5_init_17 : decode cX5_init 17 = .ok (.newarray .int, 2) := by decide +kernel
theorem dX5_init_19 : decode cX5_init 19 = .ok (.putfield 15, 3) := by decide +kernel
theorem dX5_init_22 : decode cX5_init 22 = .ok (.aload_n 0, 1) := by decide +kernel
theorem dX5_init_23 : decode cX5_init 23 = .ok (.sipush 186, 3) := by decide +kernel
theorem dX5_init_26 : decode cX5_init 26 = .ok (.newarray .int, 2) := by decide +kernel
theorem dX5_init_28 : decode cX5_init 28 = .ok (.putfield 18, 3) := by decide +kernel
theorem dX5_init_31 : decode cX5_init 31 = .ok (.aload_n 0, 1) := by decide +kernel
theorem dX5_init_32 : decode cX5_init 32 = .ok (.sipush 186, 3) := by decide +kernel
theorem dX5_init_35 : decode cX5_init 35 = .ok (.newarray .int, 2) := by decide +kernel
theorem dX5_init_37 : decode cX5_init 37 = .ok (.putfield 21, 3) := by decide +kernel
theorem dX5_init_40 : decode cX5_init 40 = .ok (.aload_n 0, 1) := by decide +kernel
theorem dX5_init_41 : decode cX5_init 41 = .ok (.sipush 558, 3) := by decide +kernel
theorem dX5_init_44 : decode cX5_init 44 = .ok (.newarray .int, 2) := by decide +kernel
theorem dX5_init_46 : decode cX5_init 46 = .ok (.putfield 24, 3) := by decide +kernel
theorem dX5_init_49 : decode cX5_init 49 = .ok (.aload_n 0, 1) := by decide +kernel
theorem dX5_init_50 : decode cX5_init 50 = .ok (.sipush 186, 3) := by decide +kernel
theorem dX5_init_53 : decode cX5_init 53 = .ok (.newarray .int, 2) := by decide +kernel
theorem dX5_init_55 : decode cX5_init 55 = .ok (.putfield 27, 3) := by decide +kernel
theorem dX5_init_58 : decode cX5_init 58 = .ok (.aload_n 0, 1) := by decide +kernel
theorem dX5_init_59 : decode cX5_init 59 = .ok (.sipush 186, 3) := by decide +kernel
theorem dX5_init_62 : decode cX5_init 62 = .ok (.newarray .int, 2) := by decide +kernel
theorem dX5_init_64 : decode cX5_init 64 = .ok (.putfield 30, 3) := by decide +kernel
theorem dX5_init_67 : decode cX5_init 67 = .ok (.aload_n 0, 1) := by decide +kernel
theorem dX5_init_68 : decode cX5_init 68 = .ok (.sipush 186, 3) := by decide +kernel
theorem dX5_init_71 : decode cX5_init 71 = .ok (.newarray .int, 2) := by decide +kernel
theorem dX5_init_73 : decode cX5_init 73 = .ok (.putfield 33, 3) := by decide +kernel
theorem dX5_init_76 : decode cX5_init 76 = .ok (.aload_n 0, 1) := by decide +kernel
theorem dX5_init_77 : decode cX5_init 77 = .ok (.sipush 186, 3) := by decide +kernel
theorem dX5_init_80 : decode cX5_init 80 = .ok (.newarray .int, 2) := by decide +kernel
theorem dX5_init_82 : decode cX5_init 82 = .ok (.putfield 36, 3) := by decide +kernel
theorem dX5_init_85 : decode cX5_init 85 = .ok (.aload_n 0, 1) := by decide +kernel
theorem dX5_init_86 : decode cX5_init 86 = .ok (.aload_n 1, 1) := by decide +kernel
theorem dX5_init_87 : decode cX5_init 87 = .ok (.putfield 39, 3) := by decide +kernel
theorem dX5_init_90 : decode cX5_init 90 = .ok (.return_, 1) := by decide +kernel
theorem dX5_gather_0 : decode cX5_gather 0 = .ok (.aload_n 0, 1) := by decide +kernel
theorem dX5_gather_1 : decode cX5_gather 1 = .ok (.aload_n 1, 1) := by decide +kernel
theorem dX5_gather_2 : decode cX5_gather 2 = .ok (.putfield 39, 3) := by decide +kernel
theorem dX5_gather_5 : decode cX5_gather 5 = .ok (.aload_n 0, 1) := by decide +kernel
theorem dX5_gather_6 : decode cX5_gather 6 = .ok (.aload_n 1, 1) := by decide +kernel
theorem dX5_gather_7 : decode cX5_gather 7 = .ok (.getfield 43, 3) := by decide +kernel
theorem dX5_gather_10 : decode cX5_gather 10 = .ok (.putfield 49, 3) := by decide +kernel
theorem dX5_gather_13 : decode cX5_gather 13 = .ok (.aload_n 0, 1) := by decide +kernel
theorem dX5_gather_14 : decode cX5_gather 14 = .ok (.iconst 0, 1) := by decide +kernel
theorem dX5_gather_15 : decode cX5_gather 15 = .ok (.putfield 52, 3) := by decide +kernel
theorem dX5_gather_18 : decode cX5_gather 18 = .ok (.iconst 0, 1) := by decide +kernel
theorem dX5_gather_19 : decode cX5_gather 19 = .ok (.istore_n 2, 1) := by decide +kernel
theorem dX5_gather_20 : decode cX5_gather 20 = .ok (.iload_n 2, 1) := by decide +kernel
theorem dX5_gather_21 : decode cX5_gather 21 = .ok (.aload_n 0, 1) := by decide +kernel
theorem dX5_gather_22 : decode cX5_gather 22 = .ok (.getfield 49, 3) := by decide +kernel
theorem dX5_gather_25 : decode cX5_gather 25 = .ok (.if_icmp .ge 93, 3) := by decide +kernel
theorem dX5_gather_28 : decode cX5_gather 28 = .ok (.iconst 0, 1) := by decide +kernel
theorem dX5_gather_29 : decode cX5_gather 29 = .ok (.istore_n 3, 1) := by decide +kernel
theorem dX5_gather_30 : decode cX5_gather 30 = .ok (.iload_n 3, 1) := by decide +kernel
theorem dX5_gather_31 : decode cX5_gather 31 = .ok (.aload_n 1, 1) := by decide +kernel
theorem dX5_gather_32 : decode cX5_gather 32 = .ok (.getfield 55, 3) := by decide +kernel
theorem dX5_gather_35 : decode cX5_gather 35 = .ok (.if_icmp .ge 53, 3) := by decide +kernel
theorem dX5_gather_38 : decode cX5_gather 38 = .ok (.aload_n 1, 1) := by decide +kernel
theorem dX5_gather_39 : decode cX5_gather 39 = .ok (.iload_n 3, 1) := by decide +kernel
theorem dX5_gather_40 : decode cX5_gather 40 = .ok (.iload_n 2, 1) := by decide +kernel
theorem dX5_gather_41 : decode cX5_gather 41 = .ok (.invokevirtual 58, 3) := by decide +kernel
theorem dX5_gather_44 : decode cX5_gather 44 = .ok (.ifCond .eq 38, 3) := by decide +kernel
theorem dX5_gather_47 : decode cX5_gather 47 = .ok (.aload_n 0, 1) := by decide +kernel
theorem dX5_gather_48 : decode cX5_gather 48 = .ok (.iload_n 2, 1) := by decide +kernel
theorem dX5_gather_49 : decode cX5_gather 49 = .ok (.aload_n 1, 1) := by decide +kernel
theorem dX5_gather_50 : decode cX5_gather 50 = .ok (.getfield 62, 3) := by decide +kernel
theorem dX5_gather_53 : decode cX5_gather 53 = .ok (.iload_n 3, 1) := by decide +kernel
theorem dX5_gather_54 : decode cX5_gather 54 = .ok (.iaload, 1) := by decide +kernel
theorem dX5_gather_55 : decode cX5_gather 55 = .ok (.iload_n 3, 1) := by decide +kernel
theorem dX5_gather_56 : decode cX5_gather 56 = .ok (.aload_n 1, 1) := by decide +kernel
theorem dX5_gather_57 : decode cX5_gather 57 = .ok (.getfield 65, 3) := by decide +kernel
theorem dX5_gather_60 : decode cX5_gather 60 = .ok (.iload_n 3, 1) := by decide +kernel
theorem dX5_gather_61 : decode cX5_gather 61 = .ok (.iaload, 1) := by decide +kernel
theorem dX5_gather_62 : decode cX5_gather 62 = .ok (.invokevirtual 68, 3) := by decide +kernel
theorem dX5_gather_65 : decode cX5_gather 65 = .ok (.aload_n 0, 1) := by decide +kernel
theorem dX5_gather_66 : decode cX5_gather 66 = .ok (.aload_n 1, 1) := by decide +kernel
theorem dX5_gather_67 : decode cX5_gather 67 = .ok (.getfield 72, 3) := by decide +kernel
theorem dX5_gather_70 : decode cX5_gather 70 = .ok (.iload_n 3, 1) := by decide +kernel
theorem dX5_gather_71 : decode cX5_gather 71 = .ok (.iconst 3, 1) := by decide +kernel
theorem dX5_gather_72 : decode cX5_gather 72 = .ok (.imul, 1) := by decide +kernel
theorem dX5_gather_73 : decode cX5_gather 73 = .ok (.aload_n 1, 1) := by decide +kernel
theorem dX5_gather_74 : decode cX5_gather 74 = .ok (.getfield 73, 3) := by decide +kernel
theorem dX5_gather_77 : decode cX5_gather 77 = .ok (.iload_n 3, 1) := by decide +kernel
theorem dX5_gather_78 : decode cX5_gather 78 = .ok (.iaload, 1) := by decide +kernel
theorem dX5_gather_79 : decode cX5_gather 79 = .ok (.invokevirtual 74, 3) := by decide +kernel
theorem dX5_gather_82 : decode cX5_gather 82 = .ok (.iinc 3 1, 3) := by decide +kernel
theorem dX5_gather_85 : decode cX5_gather 85 = .ok (.goto (-55), 3) := by decide +kernel
theorem dX5_gather_88 : decode cX5_gather 88 = .ok (.aload_n 0, 1) := by decide +kernel
theorem dX5_gather_89 : decode cX5_gather 89 = .ok (.iload_n 2, 1) := by decide +kernel
theorem dX5_gather_90 : decode cX5_gather 90 = .ok (.iconst 1, 1) := by decide +kernel
theorem dX5_gather_91 : decode cX5_gather 91 = .ok (.bipush 99, 2) := by decide +kernel
theorem dX5_gather_93 : decode cX5_gather 93 = .ok (.aload_n 1, 1) := by decide +kernel
theorem dX5_gather_94 : decode cX5_gather 94 = .ok (.getfield 78, 3) := by decide +kernel
theorem dX5_gather_97 : decode cX5_gather 97 = .ok (.iconst 1, 1) := by decide +kernel
theorem dX5_gather_98 : decode cX5_gather 98 = .ok (.iaload, 1) := by decide +kernel
theorem dX5_gather_99 : decode cX5_gather 99 = .ok (.invokevirtual 68, 3) := by decide +kernel
theorem dX5_gather_102 : decode cX5_gather 102 = .ok (.aload_n 0, 1) := by decide +kernel
theorem dX5_gather_103 : decode cX5_gather 103 = .ok (.aload_n 1, 1) := by decide +kernel
theorem dX5_gather_104 : decode cX5_gather 104 = .ok (.getfield 81, 3) := by decide +kernel
theorem dX5_gather_107 : decode cX5_gather 107 = .ok (.iload_n 2, 1) := by decide +kernel
theorem dX5_gather_108 : decode cX5_gather 108 = .ok (.iconst 1, 1) := by decide +kernel
theorem dX5_gather_109 : decode cX5_gather 109 = .ok (.invokevirtual 74, 3) := by decide +kernel
theorem dX5_gather_112 : decode cX5_gather 112 = .ok (.iinc 2 1, 3) := by decide +kernel
theorem dX5_gather_115 : decode cX5_gather 115 = .ok (.goto (-95), 3) := by decide +kernel
theorem dX5_gather_118 : decode cX5_gather 118 = .ok (.return_, 1) := by decide +kernel
theorem dX5_add_0 : decode cX5_add 0 = .ok (.aload_n 0, 1) := by decide +kernel
theorem dX5_add_1 : decode cX5_add 1 = .ok (.getfield 9, 3) := by decide +kernel
theorem dX5_add_4 : decode cX5_add 4 = .ok (.aload_n 0, 1) := by decide +kernel
theorem dX5_add_5 : decode cX5_add 5 = .ok (.getfield 52, 3) := by decide +kernel
theorem dX5_add_8 : decode cX5_add 8 = .ok (.iload_n 1, 1) := by decide +kernel
theorem dX5_add_9 : decode cX5_add 9 = .ok (.iastore, 1) := by decide +kernel
theorem dX5_add_10 : decode cX5_add 10 = .ok (.aload_n 0, 1) := by decide +kernel
theorem dX5_add_11 : decode cX5_add 11 = .ok (.getfield 15, 3) := by decide +kernel
theorem dX5_add_14 : decode cX5_add 14 = .ok (.aload_n 0, 1) := by decide +kernel
theorem dX5_add_15 : decode cX5_add 15 = .ok (.getfield 52, 3) := by decide +kernel
theorem dX5_add_18 : decode cX5_add 18 = .ok (.iload_n 1, 1) := by decide +kernel
theorem dX5_add_19 : decode cX5_add 19 = .ok (.iload_n 2, 1) := by decide +kernel
theorem dX5_add_20 : decode cX5_add 20 = .ok (.iadd, 1) := by decide +kernel
theorem dX5_add_21 : decode cX5_add 21 = .ok (.iastore, 1) := by decide +kernel
theorem dX5_add_22 : decode cX5_add 22 = .ok (.aload_n 0, 1) := by decide +kernel
theorem dX5_add_23 : decode cX5_add 23 = .ok (.getfield 18, 3) := by decide +kernel
theorem dX5_add_26 : decode cX5_add 26 = .ok (.aload_n 0, 1) := by decide +kernel
theorem dX5_add_27 : decode cX5_add 27 = .ok (.getfield 52, 3) := by decide +kernel
theorem dX5_add_30 : decode cX5_add 30 = .ok (.iconst 1, 1) := by decide +kernel
theorem dX5_add_31 : decode cX5_add 31 = .ok (.iload_n 1, 1) := by decide +kernel
theorem dX5_add_32 : decode cX5_add 32 = .ok (.iload_n 2, 1) := by decide +kernel
theorem dX5_add_33 : decode cX5_add 33 = .ok (.iadd, 1) := by decide +kernel
theorem dX5_add_34 : decode cX5_add 34 = .ok (.ishl, 1) := by decide +kernel
theorem dX5_add_35 : decode cX5_add 35 = .ok (.iconst 1, 1) := by decide +kernel
theorem dX5_add_36 : decode cX5_add 36 = .ok (.iload_n 1, 1) := by decide +kernel
theorem dX5_add_37 : decode cX5_add 37 = .ok (.ishl, 1) := by decide +kernel
theorem dX5_add_38 : decode cX5_add 38 = .ok (.isub, 1) := by decide +kernel
theorem dX5_add_39 : decode cX5_add 39 = .ok (.iastore, 1) := by decide +kernel
theorem dX5_add_40 : decode cX5_add 40 = .ok (.aload_n 0, 1) := by decide +kernel
theorem dX5_add_41 : decode cX5_add 41 = .ok (.getfield 21, 3) := by decide +kernel
theorem dX5_add_44 : decode cX5_add 44 = .ok (.aload_n 0, 1) := by decide +kernel
theorem dX5_add_45 : decode cX5_add 45 = .ok (.getfield 52, 3) := by decide +kernel
theorem dX5_add_48 : decode cX5_add 48 = .ok (.iload_n 3, 1) := by decide +kernel
theorem dX5_add_49 : decode cX5_add 49 = .ok (.iastore, 1) := by decide +kernel
theorem dX5_add_50 : decode cX5_add 50 = .ok (.aload_n 0, 1) := by decide +kernel
theorem dX5_add_51 : decode cX5_add 51 = .ok (.getfield 36, 3) := by decide +kernel
theorem dX5_add_54 : decode cX5_add 54 = .ok (.aload_n 0, 1) := by decide +kernel
theorem dX5_add_55 : decode cX5_add 55 = .ok (.getfield 52, 3) := by decide +kernel
theorem dX5_add_58 : decode cX5_add 58 = .ok (.iload 4, 2) := by decide +kernel
theorem dX5_add_60 : decode cX5_add 60 = .ok (.iastore, 1) := by decide +kernel
theorem dX5_add_61 : decode cX5_add 61 = .ok (.return_, 1) := by decide +kernel
theorem dX5_bring_0 : decode cX5_bring 0 = .ok (.aload_n 1, 1) := by decide +kernel
theorem dX5_bring_1 : decode cX5_bring 1 = .ok (.iload_n 2, 1) := by decide +kernel
theorem dX5_bring_2 : decode cX5_bring 2 = .ok (.aload_n 0, 1) := by decide +kernel
theorem dX5_bring_3 : decode cX5_bring 3 = .ok (.getfield 24, 3) := by decide +kernel
theorem dX5_bring_6 : decode cX5_bring 6 = .ok (.aload_n 0, 1) := by decide +kernel
theorem dX5_bring_7 : decode cX5_bring 7 = .ok (.getfield 52, 3) := by decide +kernel
theorem dX5_bring_10 : decode cX5_bring 10 = .ok (.iconst 3, 1) := by decide +kernel
theorem dX5_bring_11 : decode cX5_bring 11 = .ok (.imul, 1) := by decide +kernel
theorem dX5_bring_12 : decode cX5_bring 12 = .ok (.iload_n 3, 1) := by decide +kernel
theorem dX5_bring_13 : decode cX5_bring 13 = .ok (.invokestatic 83, 3) := by decide +kernel
theorem dX5_bring_16 : decode cX5_bring 16 = .ok (.aload_n 0, 1) := by decide +kernel
theorem dX5_bring_17 : decode cX5_bring 17 = .ok (.getfield 27, 3) := by decide +kernel
theorem dX5_bring_20 : decode cX5_bring 20 = .ok (.aload_n 0, 1) := by decide +kernel
theorem dX5_bring_21 : decode cX5_bring 21 = .ok (.getfield 52, 3) := by decide +kernel
theorem dX5_bring_24 : decode cX5_bring 24 = .ok (.iload_n 3, 1) := by decide +kernel
theorem dX5_bring_25 : decode cX5_bring 25 = .ok (.iastore, 1) := by decide +kernel
theorem dX5_bring_26 : decode cX5_bring 26 = .ok (.aload_n 0, 1) := by decide +kernel
theorem dX5_bring_27 : decode cX5_bring 27 = .ok (.getfield 30, 3) := by decide +kernel
theorem dX5_bring_30 : decode cX5_bring 30 = .ok (.aload_n 0, 1) := by decide +kernel
theorem dX5_bring_31 : decode cX5_bring 31 = .ok (.getfield 52, 3) := by decide +kernel
theorem dX5_bring_34 : decode cX5_bring 34 = .ok (.iload_n 3, 1) := by decide +kernel
theorem dX5_bring_35 : decode cX5_bring 35 = .ok (.ifCond .ne 7, 3) := by decide +kernel
theorem dX5_bring_38 : decode cX5_bring 38 = .ok (.iconst (-1), 1) := by decide +kernel
theorem dX5_bring_39 : decode cX5_bring 39 = .ok (.goto 6, 3) := by decide +kernel
theorem dX5_bring_42 : decode cX5_bring 42 = .ok (.aload_n 1, 1) := by decide +kernel
theorem dX5_bring_43 : decode cX5_bring 43 = .ok (.iload_n 2, 1) := by decide +kernel
theorem dX5_bring_44 : decode cX5_bring 44 = .ok (.iaload, 1) := by decide +kernel
theorem dX5_bring_45 : decode cX5_bring 45 = .ok (.iastore, 1) := by decide +kernel
theorem dX5_bring_46 : decode cX5_bring 46 = .ok (.aload_n 0, 1) := by decide +kernel
theorem dX5_bring_47 : decode cX5_bring 47 = .ok (.getfield 33, 3) := by decide +kernel
theorem dX5_bring_50 : decode cX5_bring 50 = .ok (.aload_n 0, 1) := by decide +kernel
theorem dX5_bring_51 : decode cX5_bring 51 = .ok (.getfield 52, 3) := by decide +kernel
theorem dX5_bring_54 : decode cX5_bring 54 = .ok (.iload_n 3, 1) := by decide +kernel
theorem dX5_bring_55 : decode cX5_bring 55 = .ok (.ifCond .ne 7, 3) := by decide +kernel
theorem dX5_bring_58 : decode cX5_bring 58 = .ok (.iconst (-1), 1) := by decide +kernel
theorem dX5_bring_59 : decode cX5_bring 59 = .ok (.goto 10, 3) := by decide +kernel
theorem dX5_bring_62 : decode cX5_bring 62 = .ok (.aload_n 1, 1) := by decide +kernel
theorem dX5_bring_63 : decode cX5_bring 63 = .ok (.iload_n 2, 1) := by decide +kernel
theorem dX5_bring_64 : decode cX5_bring 64 = .ok (.iload_n 3, 1) := by decide +kernel
theorem dX5_bring_65 : decode cX5_bring 65 = .ok (.iadd, 1) := by decide +kernel
theorem dX5_bring_66 : decode cX5_bring 66 = .ok (.iconst 1, 1) := by decide +kernel
theorem dX5_bring_67 : decode cX5_bring 67 = .ok (.isub, 1) := by decide +kernel
theorem dX5_bring_68 : decode cX5_bring 68 = .ok (.iaload, 1) := by decide +kernel
theorem dX5_bring_69 : decode cX5_bring 69 = .ok (.iastore, 1) := by decide +kernel
theorem dX5_bring_70 : decode cX5_bring 70 = .ok (.iconst 1, 1) := by decide +kernel
theorem dX5_bring_71 : decode cX5_bring 71 = .ok (.istore 4, 2) := by decide +kernel
theorem dX5_bring_73 : decode cX5_bring 73 = .ok (.iload 4, 2) := by decide +kernel
theorem dX5_bring_75 : decode cX5_bring 75 = .ok (.iload_n 3, 1) := by decide +kernel
theorem dX5_bring_76 : decode cX5_bring 76 = .ok (.if_icmp .ge 42, 3) := by decide +kernel
theorem dX5_bring_79 : decode cX5_bring 79 = .ok (.aload_n 0, 1) := by decide +kernel
theorem dX5_bring_80 : decode cX5_bring 80 = .ok (.getfield 36, 3) := by decide +kernel
theorem dX5_bring_83 : decode cX5_bring 83 = .ok (.aload_n 0, 1) := by decide +kernel
theorem dX5_bring_84 : decode cX5_bring 84 = .ok (.getfield 52, 3) := by decide +kernel
theorem dX5_bring_87 : decode cX5_bring 87 = .ok (.dup2, 1) := by decide +kernel
theorem dX5_bring_88 : decode cX5_bring 88 = .ok (.iaload, 1) := by decide +kernel
theorem dX5_bring_89 : decode cX5_bring 89 = .ok (.aload_n 0, 1) := by decide +kernel
theorem dX5_bring_90 : decode cX5_bring 90 = .ok (.getfield 39, 3) := by decide +kernel
theorem dX5_bring_93 : decode cX5_bring 93 = .ok (.aload_n 1, 1) := by decide +kernel
theorem dX5_bring_94 : decode cX5_bring 94 = .ok (.iload_n 2, 1) := by decide +kernel
theorem dX5_bring_95 : decode cX5_bring 95 = .ok (.iload 4, 2) := by decide +kernel
theorem dX5_bring_97 : decode cX5_bring 97 = .ok (.iadd, 1) := by decide +kernel
theorem dX5_bring_98 : decode cX5_bring 98 = .ok (.iconst 1, 1) := by decide +kernel
theorem dX5_bring_99 : decode cX5_bring 99 = .ok (.isub, 1) := by decide +kernel
theorem dX5_bring_100 : decode cX5_bring 100 = .ok (.iaload, 1) := by decide +kernel
theorem dX5_bring_101 : decode cX5_bring 101 = .ok (.aload_n 1, 1) := by decide +kernel
theorem dX5_bring_102 : decode cX5_bring 102 = .ok (.iload_n 2, 1) := by decide +kernel
theorem dX5_bring_103 : decode cX5_bring 103 = .ok (.iload 4, 2) := by decide +kernel
theorem dX5_bring_105 : decode cX5_bring 105 = .ok (.iadd, 1) := by decide +kernel
theorem dX5_bring_106 : decode cX5_bring 106 = .ok (.iaload, 1) := by decide +kernel
theorem dX5_bring_107 : decode cX5_bring 107 = .ok (.invokevirtual 89, 3) := by decide +kernel
theorem dX5_bring_110 : decode cX5_bring 110 = .ok (.iadd, 1) := by decide +kernel
theorem dX5_bring_111 : decode cX5_bring 111 = .ok (.iastore, 1) := by decide +kernel
theorem dX5_bring_112 : decode cX5_bring 112 = .ok (.iinc 4 1, 3) := by decide +kernel
theorem dX5_bring_115 : decode cX5_bring 115 = .ok (.goto (-42), 3) := by decide +kernel
theorem dX5_bring_118 : decode cX5_bring 118 = .ok (.aload_n 0, 1) := by decide +kernel
theorem dX5_bring_119 : decode cX5_bring 119 = .ok (.dup, 1) := by decide +kernel
theorem dX5_bring_120 : decode cX5_bring 120 = .ok (.getfield 52, 3) := by decide +kernel
theorem dX5_bring_123 : decode cX5_bring 123 = .ok (.iconst 1, 1) := by decide +kernel
theorem dX5_bring_124 : decode cX5_bring 124 = .ok (.iadd, 1) := by decide +kernel
theorem dX5_bring_125 : decode cX5_bring 125 = .ok (.putfield 52, 3) := by decide +kernel
theorem dX5_bring_128 : decode cX5_bring 128 = .ok (.return_, 1) := by decide +kernel
theorem dX5_howOften_0 : decode cX5_howOften 0 = .ok (.iconst 0, 1) := by decide +kernel
theorem dX5_howOften_1 : decode cX5_howOften 1 = .ok (.istore_n 2, 1) := by decide +kernel
theorem dX5_howOften_2 : decode cX5_howOften 2 = .ok (.iconst 0, 1) := by decide +kernel
theorem dX5_howOften_3 : decode cX5_howOften 3 = .ok (.istore_n 3, 1) := by decide +kernel
theorem dX5_howOften_4 : decode cX5_howOften 4 = .ok (.iload_n 3, 1) := by decide +kernel
theorem dX5_howOften_5 : decode cX5_howOften 5 = .ok (.aload_n 0, 1) := by decide +kernel
theorem dX5_howOften_6 : decode cX5_howOften 6 = .ok (.getfield 52, 3) := by decide +kernel
theorem dX5_howOften_9 : decode cX5_howOften 9 = .ok (.if_icmp .ge 27, 3) := by decide +kernel
theorem dX5_howOften_12 : decode cX5_howOften 12 = .ok (.iload_n 2, 1) := by decide +kernel
theorem dX5_howOften_13 : decode cX5_howOften 13 = .ok (.aload_n 0, 1) := by decide +kernel
theorem dX5_howOften_14 : decode cX5_howOften 14 = .ok (.getfield 21, 3) := by decide +kernel
theorem dX5_howOften_17 : decode cX5_howOften 17 = .ok (.iload_n 3, 1) := by decide +kernel
theorem dX5_howOften_18 : decode cX5_howOften 18 = .ok (.iaload, 1) := by decide +kernel
theorem dX5_howOften_19 : decode cX5_howOften 19 = .ok (.iload_n 1, 1) := by decide +kernel
theorem dX5_howOften_20 : decode cX5_howOften 20 = .ok (.if_icmp .ne 7, 3) := by decide +kernel
theorem dX5_howOften_23 : decode cX5_howOften 23 = .ok (.iconst 1, 1) := by decide +kernel
theorem dX5_howOften_24 : decode cX5_howOften 24 = .ok (.goto 4, 3) := by decide +kernel
theorem dX5_howOften_27 : decode cX5_howOften 27 = .ok (.iconst 0, 1) := by decide +kernel
theorem dX5_howOften_28 : decode cX5_howOften 28 = .ok (.iadd, 1) := by decide +kernel
theorem dX5_howOften_29 : decode cX5_howOften 29 = .ok (.istore_n 2, 1) := by decide +kernel
theorem dX5_howOften_30 : decode cX5_howOften 30 = .ok (.iinc 3 1, 3) := by decide +kernel
theorem dX5_howOften_33 : decode cX5_howOften 33 = .ok (.goto (-29), 3) := by decide +kernel
theorem dX5_howOften_36 : decode cX5_howOften 36 = .ok (.iload_n 2, 1) := by decide +kernel
theorem dX5_howOften_37 : decode cX5_howOften 37 = .ok (.ireturn, 1) := by decide +kernel
theorem dX5_numberAt_0 : decode cX5_numberAt 0 = .ok (.iconst 0, 1) := by decide +kernel
theorem dX5_numberAt_1 : decode cX5_numberAt 1 = .ok (.istore_n 3, 1) := by decide +kernel
theorem dX5_numberAt_2 : decode cX5_numberAt 2 = .ok (.iconst 0, 1) := by decide +kernel
theorem dX5_numberAt_3 : decode cX5_numberAt 3 = .ok (.istore 4, 2) := by decide +kernel
theorem dX5_numberAt_5 : decode cX5_numberAt 5 = .ok (.iload 4, 2) := by decide +kernel
theorem dX5_numberAt_7 : decode cX5_numberAt 7 = .ok (.aload_n 0, 1) := by decide +kernel
theorem dX5_numberAt_8 : decode cX5_numberAt 8 = .ok (.getfield 52, 3) := by decide +kernel
theorem dX5_numberAt_11 : decode cX5_numberAt 11 = .ok (.if_icmp .ge 36, 3) := by decide +kernel
theorem dX5_numberAt_14 : decode cX5_numberAt 14 = .ok (.aload_n 0, 1) := by decide +kernel
theorem dX5_numberAt_15 : decode cX5_numberAt 15 = .ok (.getfield 9, 3) := by decide +kernel
theorem dX5_numberAt_18 : decode cX5_numberAt 18 = .ok (.iload 4, 2) := by decide +kernel
theorem dX5_numberAt_20 : decode cX5_numberAt 20 = .ok (.iaload, 1) := by decide +kernel
theorem dX5_numberAt_21 : decode cX5_numberAt 21 = .ok (.iload_n 1, 1) := by decide +kernel
theorem dX5_numberAt_22 : decode cX5_numberAt 22 = .ok (.if_icmp .ne 19, 3) := by decide +kernel
theorem dX5_numberAt_25 : decode cX5_numberAt 25 = .ok (.iload_n 3, 1) := by decide +kernel
theorem dX5_numberAt_26 : decode cX5_numberAt 26 = .ok (.iload_n 2, 1) := by decide +kernel
theorem dX5_numberAt_27 : decode cX5_numberAt 27 = .ok (.if_icmp .ne 11, 3) := by decide +kernel
theorem dX5_numberAt_30 : decode cX5_numberAt 30 = .ok (.aload_n 0, 1) := by decide +kernel
theorem dX5_numberAt_31 : decode cX5_numberAt 31 = .ok (.getfield 21, 3) := by decide +kernel
theorem dX5_numberAt_34 : decode cX5_numberAt 34 = .ok (.iload 4, 2) := by decide +kernel
theorem dX5_numberAt_36 : decode cX5_numberAt 36 = .ok (.iaload, 1) := by decide +kernel
theorem dX5_numberAt_37 : decode cX5_numberAt 37 = .ok (.ireturn, 1) := by decide +kernel
theorem dX5_numberAt_38 : decode cX5_numberAt 38 = .ok (.iinc 3 1, 3) := by decide +kernel
theorem dX5_numberAt_41 : decode cX5_numberAt 41 = .ok (.iinc 4 1, 3) := by decide +kernel
theorem dX5_numberAt_44 : decode cX5_numberAt 44 = .ok (.goto (-39), 3) := by decide +kernel
theorem dX5_numberAt_47 : decode cX5_numberAt 47 = .ok (.iconst (-1), 1) := by decide +kernel
theorem dX5_numberAt_48 : decode cX5_numberAt 48 = .ok (.ireturn, 1) := by decide +kernel
theorem dX5_full_0 : decode cX5_full 0 = .ok (.iconst 1, 1) := by decide +kernel
theorem dX5_full_1 : decode cX5_full 1 = .ok (.aload_n 0, 1) := by decide +kernel
theorem dX5_full_2 : decode cX5_full 2 = .ok (.getfield 49, 3) := by decide +kernel
theorem dX5_full_5 : decode cX5_full 5 = .ok (.ishl, 1) := by decide +kernel
theorem dX5_full_6 : decode cX5_full 6 = .ok (.iconst 1, 1) := by decide +kernel
theorem dX5_full_7 : decode cX5_full 7 = .ok (.isub, 1) := by decide +kernel
theorem dX5_full_8 : decode cX5_full 8 = .ok (.ireturn, 1) := by decide +kernel
theorem dX5_gap_0 : decode cX5_gap 0 = .ok (.aload_n 0, 1) := by decide +kernel
theorem dX5_gap_1 : decode cX5_gap 1 = .ok (.getfield 9, 3) := by decide +kernel
theorem dX5_gap_4 : decode cX5_gap 4 = .ok (.iload_n 1, 1) := by decide +kernel
theorem dX5_gap_5 : decode cX5_gap 5 = .ok (.iaload, 1) := by decide +kernel
theorem dX5_gap_6 : decode cX5_gap 6 = .ok (.iload_n 2, 1) := by decide +kernel
theorem dX5_gap_7 : decode cX5_gap 7 = .ok (.isub, 1) := by decide +kernel
theorem dX5_gap_8 : decode cX5_gap 8 = .ok (.invokestatic 93, 3) := by decide +kernel
theorem dX5_gap_11 : decode cX5_gap 11 = .ok (.ireturn, 1) := by decide +kernel
theorem dX5_standing_0 : decode cX5_standing 0 = .ok (.aload_n 0, 1) := by decide +kernel
theorem dX5_standing_1 : decode cX5_standing 1 = .ok (.getfield 30, 3) := by decide +kernel
theorem dX5_standing_4 : decode cX5_standing 4 = .ok (.iload_n 1, 1) := by decide +kernel
theorem dX5_standing_5 : decode cX5_standing 5 = .ok (.iaload, 1) := by decide +kernel
theorem dX5_standing_6 : decode cX5_standing 6 = .ok (.iconst (-1), 1) := by decide +kernel
theorem dX5_standing_7 : decode cX5_standing 7 = .ok (.if_icmp .ne 12, 3) := by decide +kernel
theorem dX5_standing_10 : decode cX5_standing 10 = .ok (.aload_n 0, 1) := by decide +kernel
theorem dX5_standing_11 : decode cX5_standing 11 = .ok (.getfield 36, 3) := by decide +kernel
theorem dX5_standing_14 : decode cX5_standing 14 = .ok (.iload_n 1, 1) := by decide +kernel
theorem dX5_standing_15 : decode cX5_standing 15 = .ok (.iaload, 1) := by decide +kernel
theorem dX5_standing_16 : decode cX5_standing 16 = .ok (.goto 24, 3) := by decide +kernel
theorem dX5_standing_19 : decode cX5_standing 19 = .ok (.aload_n 0, 1) := by decide +kernel
theorem dX5_standing_20 : decode cX5_standing 20 = .ok (.getfield 36, 3) := by decide +kernel
theorem dX5_standing_23 : decode cX5_standing 23 = .ok (.iload_n 1, 1) := by decide +kernel
theorem dX5_standing_24 : decode cX5_standing 24 = .ok (.iaload, 1) := by decide +kernel
theorem dX5_standing_25 : decode cX5_standing 25 = .ok (.aload_n 0, 1) := by decide +kernel
theorem dX5_standing_26 : decode cX5_standing 26 = .ok (.getfield 39, 3) := by decide +kernel
theorem dX5_standing_29 : decode cX5_standing 29 = .ok (.iload_n 2, 1) := by decide +kernel
theorem dX5_standing_30 : decode cX5_standing 30 = .ok (.aload_n 0, 1) := by decide +kernel
theorem dX5_standing_31 : decode cX5_standing 31 = .ok (.getfield 30, 3) := by decide +kernel
theorem dX5_standing_34 : decode cX5_standing 34 = .ok (.iload_n 1, 1) := by decide +kernel
theorem dX5_standing_35 : decode cX5_standing 35 = .ok (.iaload, 1) := by decide +kernel
theorem dX5_standing_36 : decode cX5_standing 36 = .ok (.invokevirtual 89, 3) := by decide +kernel
theorem dX5_standing_39 : decode cX5_standing 39 = .ok (.iadd, 1) := by decide +kernel
theorem dX5_standing_40 : decode cX5_standing 40 = .ok (.ireturn, 1) := by decide +kernel
theorem dX5_ending_0 : decode cX5_ending 0 = .ok (.aload_n 0, 1) := by decide +kernel
theorem dX5_ending_1 : decode cX5_ending 1 = .ok (.getfield 39, 3) := by decide +kernel
theorem dX5_ending_4 : decode cX5_ending 4 = .ok (.iload_n 1, 1) := by decide +kernel
theorem dX5_ending_5 : decode cX5_ending 5 = .ok (.bipush 40, 2) := by decide +kernel
theorem dX5_ending_7 : decode cX5_ending 7 = .ok (.invokevirtual 89, 3) := by decide +kernel
theorem dX5_ending_10 : decode cX5_ending 10 = .ok (.ireturn, 1) := by decide +kernel
theorem dX6_init_0 : decode cX6_init 0 = .ok (.aload_n 0, 1) := by decide +kernel
theorem dX6_init_1 : decode cX6_init 1 = .ok (.invokespecial 3, 3) := by decide +kernel
theorem dX6_init_4 : decode cX6_init 4 = .ok (.aload_n 0, 1) := by decide +kernel
theorem dX6_init_5 : decode cX6_init 5 = .ok (.sipush 400, 3) := by decide +kernel
theorem dX6_init_8 : decode cX6_init 8 = .ok (.newarray .int, 2) := by decide +kernel
theorem dX6_init_10 : decode cX6_init 10 = .ok (.putfield 9, 3) := by decide +kernel
theorem dX6_init_13 : decode cX6_init 13 = .ok (.aload_n 0, 1) := by decide +kernel
theorem dX6_init_14 : decode cX6_init 14 = .ok (.iconst (-1), 1) := by decide +kernel
theorem dX6_init_15 : decode cX6_init 15 = .ok (.putfield 15, 3) := by decide +kernel
theorem dX6_init_18 : decode cX6_init 18 = .ok (.aload_n 0, 1) := by decide +kernel
theorem dX6_init_19 : decode cX6_init 19 = .ok (.bipush 12, 2) := by decide +kernel
theorem dX6_init_21 : decode cX6_init 21 = .ok (.newarray .int, 2) := by decide +kernel
theorem dX6_init_23 : decode cX6_init 23 = .ok (.putfield 19, 3) := by decide +kernel
theorem dX6_init_26 : decode cX6_init 26 = .ok (.aload_n 0, 1) := by decide +kernel
theorem dX6_init_27 : decode cX6_init 27 = .ok (.bipush 36, 2) := by decide +kernel
theorem dX6_init_29 : decode cX6_init 29 = .ok (.newarray .int, 2) := by decide +kernel
theorem dX6_init_31 : decode cX6_init 31 = .ok (.putfield 22, 3) := by decide +kernel
theorem dX6_init_34 : decode cX6_init 34 = .ok (.aload_n 0, 1) := by decide +kernel
theorem dX6_init_35 : decode cX6_init 35 = .ok (.bipush 12, 2) := by decide +kernel
theorem dX6_init_37 : decode cX6_init 37 = .ok (.newarray .int, 2) := by decide +kernel
theorem dX6_init_39 : decode cX6_init 39 = .ok (.putfield 25, 3) := by decide +kernel
theorem dX6_init_42 : decode cX6_init 42 = .ok (.aload_n 0, 1) := by decide +kernel
theorem dX6_init_43 : decode cX6_init 43 = .ok (.bipush 36, 2) := by decide +kernel
theorem dX6_init_45 : decode cX6_init 45 = .ok (.newarray .int, 2) := by decide +kernel
theorem dX6_init_47 : decode cX6_init 47 = .ok (.putfield 28, 3) := by decide +kernel
theorem dX6_init_50 : decode cX6_init 50 = .ok (.aload_n 0, 1) := by decide +kernel
theorem dX6_init_51 : decode cX6_init 51 = .ok (.bipush 12, 2) := by decide +kernel
theorem dX6_init_53 : decode cX6_init 53 = .ok (.newarray .int, 2) := by decide +kernel
theorem dX6_init_55 : decode cX6_init 55 = .ok (.putfield 31, 3) := by decide +kernel
theorem dX6_init_58 : decode cX6_init 58 = .ok (.aload_n 0, 1) := by decide +kernel
theorem dX6_init_59 : decode cX6_init 59 = .ok (.bipush 12, 2) := by decide +kernel
theorem dX6_init_61 : decode cX6_init 61 = .ok (.newarray .int, 2) := by decide +kernel
theorem dX6_init_63 : decode cX6_init 63 = .ok (.putfield 34, 3) := by decide +kernel
theorem dX6_init_66 : decode cX6_init 66 = .ok (.aload_n 0, 1) := by decide +kernel
theorem dX6_init_67 : decode cX6_init 67 = .ok (.bipush 18, 2) := by decide +kernel
theorem dX6_init_69 : decode cX6_init 69 = .ok (.newarray .int, 2) := by decide +kernel
theorem dX6_init_71 : decode cX6_init 71 = .ok (.putfield 37, 3) := by decide +kernel
theorem dX6_init_74 : decode cX6_init 74 = .ok (.aload_n 0, 1) := by decide +kernel
theorem dX6_init_75 : decode cX6_init 75 = .ok (.bipush 6, 2) := by decide +kernel
theorem dX6_init_77 : decode cX6_init 77 = .ok (.newarray .int, 2) := by decide +kernel
theorem dX6_init_79 : decode cX6_init 79 = .ok (.putfield 40, 3) := by decide +kernel
theorem dX6_init_82 : decode cX6_init 82 = .ok (.aload_n 0, 1) := by decide +kernel
theorem dX6_init_83 : decode cX6_init 83 = .ok (.bipush 6, 2) := by decide +kernel
theorem dX6_init_85 : decode cX6_init 85 = .ok (.newarray .int, 2) := by decide +kernel
theorem dX6_init_87 : decode cX6_init 87 = .ok (.putfield 43, 3) := by decide +kernel
theorem dX6_init_90 : decode cX6_init 90 = .ok (.aload_n 0, 1) := by decide +kernel
theorem dX6_init_91 : decode cX6_init 91 = .ok (.aload_n 1, 1) := by decide +kernel
theorem dX6_init_92 : decode cX6_init 92 = .ok (.putfield 46, 3) := by decide +kernel
theorem dX6_init_95 : decode cX6_init 95 = .ok (.return_, 1) := by decide +kernel
theorem dX6_append_0 : decode cX6_append 0 = .ok (.bipush 24, 2) := by decide +kernel
theorem dX6_append_2 : decode cX6_append 2 = .ok (.istore_n 2, 1) := by decide +kernel
theorem dX6_append_3 : decode cX6_append 3 = .ok (.iload_n 2, 1) := by decide +kernel
theorem dX6_append_4 : decode cX6_append 4 = .ok (.ifCond .lt 45, 3) := by decide +kernel
theorem dX6_append_7 : decode cX6_append 7 = .ok (.aload_n 0, 1) := by decide +kernel
theorem dX6_append_8 : decode cX6_append 8 = .ok (.getfield 50, 3) := by decide +kernel
theorem dX6_append_11 : decode cX6_append 11 = .ok (.sipush 400, 3) := by decide +kernel
theorem dX6_append_14 : decode cX6_append 14 = .ok (.if_icmp .ge 35, 3) := by decide +kernel
theorem dX6_append_17 : decode cX6_append 17 = .ok (.aload_n 0, 1) := by decide +kernel
theorem dX6_append_18 : decode cX6_append 18 = .ok (.getfield 9, 3) := by decide +kernel
theorem dX6_append_21 : decode cX6_append 21 = .ok (.aload_n 0, 1) := by decide +kernel
theorem dX6_append_22 : decode cX6_append 22 = .ok (.getfield 50, 3) := by decide +kernel
theorem dX6_append_25 : decode cX6_append 25 = .ok (.iload_n 1, 1) := by decide +kernel
theorem dX6_append_26 : decode cX6_append 26 = .ok (.iload_n 2, 1) := by decide +kernel
theorem dX6_append_27 : decode cX6_append 27 = .ok (.iushr, 1) := by decide +kernel
theorem dX6_append_28 : decode cX6_append 28 = .ok (.sipush 255, 3) := by decide +kernel
theorem dX6_append_31 : decode cX6_append 31 = .ok (.iand, 1) := by decide +kernel
theorem dX6_append_32 : decode cX6_append 32 = .ok (.iastore, 1) := by decide +kernel
theorem dX6_append_33 : decode cX6_append 33 = .ok (.aload_n 0, 1) := by decide +kernel
theorem dX6_append_34 : decode cX6_append 34 = .ok (.dup, 1) := by decide +kernel
theorem dX6_append_35 : decode cX6_append 35 = .ok (.getfield 50, 3) := by decide +kernel
theorem dX6_append_38 : decode cX6_append 38 = .ok (.iconst 1, 1) := by decide +kernel
theorem dX6_append_39 : decode cX6_append 39 = .ok (.iadd, 1) := by decide +kernel
theorem dX6_append_40 : decode cX6_append 40 = .ok (.putfield 50, 3) := by decide +kernel
theorem dX6_append_43 : decode cX6_append 43 = .ok (.iinc 2 (-8), 3) := by decide +kernel
theorem dX6_append_46 : decode cX6_append 46 = .ok (.goto (-43), 3) := by decide +kernel
theorem dX6_append_49 : decode cX6_append 49 = .ok (.return_, 1) := by decide +kernel
theorem dX6_isRight_0 : decode cX6_isRight 0 = .ok (.aload_n 0, 1) := by decide +kernel
theorem dX6_isRight_1 : decode cX6_isRight 1 = .ok (.getfield 15, 3) := by decide +kernel
theorem dX6_isRight_4 : decode cX6_isRight 4 = .ok (.iconst (-1), 1) := by decide +kernel
theorem dX6_isRight_5 : decode cX6_isRight 5 = .ok (.if_icmp .ne 7, 3) := by decide +kernel
theorem dX6_isRight_8 : decode cX6_isRight 8 = .ok (.iconst 1, 1) := by decide +kernel
theorem dX6_isRight_9 : decode cX6_isRight 9 = .ok (.goto 4, 3) := by decide +kernel
theorem dX6_isRight_12 : decode cX6_isRight 12 = .ok (.iconst 0, 1) := by decide +kernel
theorem dX6_isRight_13 : decode cX6_isRight 13 = .ok (.ireturn, 1) := by decide +kernel
theorem dX6_fail_0 : decode cX6_fail 0 = .ok (.aload_n 0, 1) := by decide +kernel
theorem dX6_fail_1 : decode cX6_fail 1 = .ok (.getfield 15, 3) := by decide +kernel
theorem dX6_fail_4 : decode cX6_fail 4 = .ok (.iconst (-1), 1) := by decide +kernel
theorem dX6_fail_5 : decode cX6_fail 5 = .ok (.if_icmp .ne 8, 3) := by decide +kernel
theorem dX6_fail_8 : decode cX6_fail 8 = .ok (.aload_n 0, 1) := by decide +kernel
theorem dX6_fail_9 : decode cX6_fail 9 = .ok (.iload_n 1, 1) := by decide +kernel
theorem dX6_fail_10 : decode cX6_fail 10 = .ok (.putfield 15, 3) := by decide +kernel
theorem dX6_fail_13 : decode cX6_fail 13 = .ok (.return_, 1) := by decide +kernel
theorem dX6_readBook_0 : decode cX6_readBook 0 = .ok (.aload_n 0, 1) := by decide +kernel
theorem dX6_readBook_1 : decode cX6_readBook 1 = .ok (.aload_n 1, 1) := by decide +kernel
theorem dX6_readBook_2 : decode cX6_readBook 2 = .ok (.iconst 1, 1) := by decide +kernel
theorem dX6_readBook_3 : decode cX6_readBook 3 = .ok (.invokevirtual 53, 3) := by decide +kernel
theorem dX6_readBook_6 : decode cX6_readBook 6 = .ok (.aload_n 0, 1) := by decide +kernel
theorem dX6_readBook_7 : decode cX6_readBook 7 = .ok (.getfield 57, 3) := by decide +kernel
theorem dX6_readBook_10 : decode cX6_readBook 10 = .ok (.aload_n 0, 1) := by decide +kernel
theorem dX6_readBook_11 : decode cX6_readBook 11 = .ok (.getfield 50, 3) := by decide +kernel
theorem dX6_readBook_14 : decode cX6_readBook 14 = .ok (.if_icmp .ge 7, 3) := by decide +kernel
theorem dX6_readBook_17 : decode cX6_readBook 17 = .ok (.iconst 1, 1) := by decide +kernel
theorem dX6_readBook_18 : decode cX6_readBook 18 = .ok (.goto 4, 3) := by decide +kernel
theorem dX6_readBook_21 : decode cX6_readBook 21 = .ok (.iconst 0, 1) := by decide +kernel
theorem dX6_readBook_22 : decode cX6_readBook 22 = .ok (.istore_n 2, 1) := by decide +kernel
theorem dX6_readBook_23 : decode cX6_readBook 23 = .ok (.iconst 0, 1) := by decide +kernel
theorem dX6_readBook_24 : decode cX6_readBook 24 = .ok (.istore_n 3, 1) := by decide +kernel
theorem dX6_readBook_25 : decode cX6_readBook 25 = .ok (.iload_n 3, 1) := by decide +kernel
theorem dX6_readBook_26 : decode cX6_readBook 26 = .ok (.bipush 12, 2) := by decide +kernel
theorem dX6_readBook_28 : decode cX6_readBook 28 = .ok (.if_icmp .ge 24, 3) := by decide +kernel
theorem dX6_readBook_31 : decode cX6_readBook 31 = .ok (.iload_n 2, 1) := by decide +kernel
theorem dX6_readBook_32 : decode cX6_readBook 32 = .ok (.ifCond .eq 20, 3) := by decide +kernel
theorem dX6_readBook_35 : decode cX6_readBook 35 = .ok (.aload_n 0, 1) := by decide +kernel
theorem dX6_readBook_36 : decode cX6_readBook 36 = .ok (.iload_n 3, 1) := by decide +kernel
theorem dX6_readBook_37 : decode cX6_readBook 37 = .ok (.invokevirtual 60, 3) := by decide +kernel
theorem dX6_readBook_40 : decode cX6_readBook 40 = .ok (.aload_n 0, 1) := by decide +kernel
theorem dX6_readBook_41 : decode cX6_readBook 41 = .ok (.iload_n 3, 1) := by decide +kernel
theorem dX6_readBook_42 : decode cX6_readBook 42 = .ok (.invokevirtual 64, 3) := by decide +kernel
theorem dX6_readBook_45 : decode cX6_readBook 45 = .ok (.istore_n 2, 1) := by decide +kernel
theorem dX6_readBook_46 : decode cX6_readBook 46 = .ok (.iinc 3 1, 3) := by decide +kernel
theorem dX6_readBook_49 : decode cX6_readBook 49 = .ok (.goto (-24), 3) := by decide +kernel
theorem dX6_readBook_52 : decode cX6_readBook 52 = .ok (.return_, 1) := by decide +kernel
theorem dX6_readFluency_0 : decode cX6_readFluency 0 = .ok (.aload_n 0, 1) := by decide +kernel
theorem dX6_readFluency_1 : decode cX6_readFluency 1 = .ok (.aload_n 1, 1) := by decide +kernel
theorem dX6_readFluency_2 : decode cX6_readFluency 2 = .ok (.iconst 1, 1) := by decide +kernel
theorem dX6_readFluency_3 : decode cX6_readFluency 3 = .ok (.invokevirtual 53, 3) := by decide +kernel
theorem dX6_readFluency_6 : decode cX6_readFluency 6 = .ok (.aload_n 0, 1) := by decide +kernel
theorem dX6_readFluency_7 : decode cX6_readFluency 7 = .ok (.getfield 57, 3) := by decide +kernel
theorem dX6_readFluency_10 : decode cX6_readFluency 10 = .ok (.aload_n 0, 1) := by decide +kernel
theorem dX6_readFluency_11 : decode cX6_readFluency 11 = .ok (.getfield 50, 3) := by decide +kernel
theorem dX6_readFluency_14 : decode cX6_readFluency 14 = .ok (.if_icmp .ge 7, 3) := by decide +kernel
theorem dX6_readFluency_17 : decode cX6_readFluency 17 = .ok (.iconst 1, 1) := by decide +kernel
theorem dX6_readFluency_18 : decode cX6_readFluency 18 = .ok (.goto 4, 3) := by decide +kernel
theorem dX6_readFluency_21 : decode cX6_readFluency 21 = .ok (.iconst 0, 1) := by decide +kernel
theorem dX6_readFluency_22 : decode cX6_readFluency 22 = .ok (.istore_n 2, 1) := by decide +kernel
theorem dX6_readFluency_23 : decode cX6_readFluency 23 = .ok (.iconst 0, 1) := by decide +kernel
theorem dX6_readFluency_24 : decode cX6_readFluency 24 = .ok (.istore_n 3, 1) := by decide +kernel
theorem dX6_readFluency_25 : decode cX6_readFluency 25 = .ok (.iload_n 3, 1) := by decide +kernel
theorem dX6_readFluency_26 : decode cX6_readFluency 26 = .ok (.bipush 12, 2) := by decide +kernel
theorem dX6_readFluency_28 : decode cX6_readFluency 28 = .ok (.if_icmp .ge 24, 3) := by decide +kernel
theorem dX6_readFluency_31 : decode cX6_readFluency 31 = .ok (.iload_n 2, 1) := by decide +kernel
theorem dX6_readFluency_32 : decode cX6_readFluency 32 = .ok (.ifCond .eq 20, 3) := by decide +kernel
theorem dX6_readFluency_35 : decode cX6_readFluency 35 = .ok (.aload_n 0, 1) := by decide +kernel
theorem dX6_readFluency_36 : decode cX6_readFluency 36 = .ok (.iload_n 3, 1) := by decide +kernel
theorem dX6_readFluency_37 : decode cX6_readFluency 37 = .ok (.invokevirtual 68, 3) := by decide +kernel
theorem dX6_readFluency_40 : decode cX6_readFluency 40 = .ok (.aload_n 0, 1) := by decide +kernel
theorem dX6_readFluency_41 : decode cX6_readFluency 41 = .ok (.iload_n 3, 1) := by decide +kernel
theorem dX6_readFluency_42 : decode cX6_readFluency 42 = .ok (.invokevirtual 64, 3) := by decide +kernel
theorem dX6_readFluency_45 : decode cX6_readFluency 45 = .ok (.istore_n 2, 1) := by decide +kernel
theorem dX6_readFluency_46 : decode cX6_readFluency 46 = .ok (.iinc 3 1, 3) := by decide +kernel
theorem dX6_readFluency_49 : decode cX6_readFluency 49 = .ok (.goto (-24), 3) := by decide +kernel
theorem dX6_readFluency_52 : decode cX6_readFluency 52 = .ok (.return_, 1) := by decide +kernel
theorem dX6_readRow_0 : decode cX6_readRow 0 = .ok (.aload_n 0, 1) := by decide +kernel
theorem dX6_readRow_1 : decode cX6_readRow 1 = .ok (.aload_n 1, 1) := by decide +kernel
theorem dX6_readRow_2 : decode cX6_readRow 2 = .ok (.iload_n 2, 1) := by decide +kernel
theorem dX6_readRow_3 : decode cX6_readRow 3 = .ok (.invokevirtual 53, 3) := by decide +kernel
theorem dX6_readRow_6 : decode cX6_readRow 6 = .ok (.aload_n 0, 1) := by decide +kernel
theorem dX6_readRow_7 : decode cX6_readRow 7 = .ok (.aload_n 0, 1) := by decide +kernel
theorem dX6_readRow_8 : decode cX6_readRow 8 = .ok (.aload_n 0, 1) := by decide +kernel
theorem dX6_readRow_9 : decode cX6_readRow 9 = .ok (.getfield 37, 3) := by decide +kernel
theorem dX6_readRow_12 : decode cX6_readRow 12 = .ok (.iconst 0, 1) := by decide +kernel
theorem dX6_readRow_13 : decode cX6_readRow 13 = .ok (.iload_n 3, 1) := by decide +kernel
theorem dX6_readRow_14 : decode cX6_readRow 14 = .ok (.invokevirtual 71, 3) := by decide +kernel
theorem dX6_readRow_17 : decode cX6_readRow 17 = .ok (.putfield 75, 3) := by decide +kernel
theorem dX6_readRow_20 : decode cX6_readRow 20 = .ok (.aload_n 0, 1) := by decide +kernel
theorem dX6_readRow_21 : decode cX6_readRow 21 = .ok (.getfield 57, 3) := by decide +kernel
theorem dX6_readRow_24 : decode cX6_readRow 24 = .ok (.aload_n 0, 1) := by decide +kernel
theorem dX6_readRow_25 : decode cX6_readRow 25 = .ok (.getfield 50, 3) := by decide +kernel
theorem dX6_readRow_28 : decode cX6_readRow 28 = .ok (.if_icmp .ge 11, 3) := by decide +kernel
theorem dX6_readRow_31 : decode cX6_readRow 31 = .ok (.aload_n 0, 1) := by decide +kernel
theorem dX6_readRow_32 : decode cX6_readRow 32 = .ok (.aload_n 0, 1) := by decide +kernel
theorem dX6_readRow_33 : decode cX6_readRow 33 = .ok (.getfield 57, 3) := by decide +kernel
theorem dX6_readRow_36 : decode cX6_readRow 36 = .ok (.invokevirtual 78, 3) := by decide +kernel
theorem dX6_readRow_39 : decode cX6_readRow 39 = .ok (.return_, 1) := by decide +kernel
theorem dX6_readLesson_0 : decode cX6_readLesson 0 = .ok (.aload_n 0, 1) := by decide +kernel
theorem dX6_readLesson_1 : decode cX6_readLesson 1 = .ok (.aload_n 1, 1) := by decide +kernel
theorem dX6_readLesson_2 : decode cX6_readLesson 2 = .ok (.iconst 1, 1) := by decide +kernel
theorem dX6_readLesson_3 : decode cX6_readLesson 3 = .ok (.invokevirtual 53, 3) := by decide +kernel
theorem dX6_readLesson_6 : decode cX6_readLesson 6 = .ok (.aload_n 0, 1) := by decide +kernel
theorem dX6_readLesson_7 : decode cX6_readLesson 7 = .ok (.aload_n 0, 1) := by decide +kernel
theorem dX6_readLesson_8 : decode cX6_readLesson 8 = .ok (.aload_n 0, 1) := by decide +kernel
theorem dX6_readLesson_9 : decode cX6_readLesson 9 = .ok (.getfield 37, 3) := by decide +kernel
theorem dX6_readLesson_12 : decode cX6_readLesson 12 = .ok (.iconst 0, 1) := by decide +kernel
theorem dX6_readLesson_13 : decode cX6_readLesson 13 = .ok (.bipush 6, 2) := by decide +kernel
theorem dX6_readLesson_15 : decode cX6_readLesson 15 = .ok (.invokevirtual 71, 3) := by decide +kernel
theorem dX6_readLesson_18 : decode cX6_readLesson 18 = .ok (.putfield 75, 3) := by decide +kernel
theorem dX6_readLesson_21 : decode cX6_readLesson 21 = .ok (.aload_n 0, 1) := by decide +kernel
theorem dX6_readLesson_22 : decode cX6_readLesson 22 = .ok (.aload_n 0, 1) := by decide +kernel
theorem dX6_readLesson_23 : decode cX6_readLesson 23 = .ok (.getfield 75, 3) := by decide +kernel
theorem dX6_readLesson_26 : decode cX6_readLesson 26 = .ok (.invokevirtual 81, 3) := by decide +kernel
theorem dX6_readLesson_29 : decode cX6_readLesson 29 = .ok (.aload_n 0, 1) := by decide +kernel
theorem dX6_readLesson_30 : decode cX6_readLesson 30 = .ok (.bipush 61, 2) := by decide +kernel
theorem dX6_readLesson_32 : decode cX6_readLesson 32 = .ok (.invokevirtual 84, 3) := by decide +kernel
theorem dX6_readLesson_35 : decode cX6_readLesson 35 = .ok (.aload_n 0, 1) := by decide +kernel
theorem dX6_readLesson_36 : decode cX6_readLesson 36 = .ok (.aload_n 0, 1) := by decide +kernel
theorem dX6_readLesson_37 : decode cX6_readLesson 37 = .ok (.aload_n 0, 1) := by decide +kernel
theorem dX6_readLesson_38 : decode cX6_readLesson 38 = .ok (.getfield 40, 3) := by decide +kernel
theorem dX6_readLesson_41 : decode cX6_readLesson 41 = .ok (.iconst 0, 1) := by decide +kernel
theorem dX6_readLesson_42 : decode cX6_readLesson 42 = .ok (.bipush 6, 2) := by decide +kernel
theorem dX6_readLesson_44 : decode cX6_readLesson 44 = .ok (.invokevirtual 71, 3) := by decide +kernel
theorem dX6_readLesson_47 : decode cX6_readLesson 47 = .ok (.putfield 87, 3) := by decide +kernel
theorem dX6_readLesson_50 : decode cX6_readLesson 50 = .ok (.aload_n 0, 1) := by decide +kernel
theorem dX6_readLesson_51 : decode cX6_readLesson 51 = .ok (.aload_n 0, 1) := by decide +kernel
theorem dX6_readLesson_52 : decode cX6_readLesson 52 = .ok (.getfield 87, 3) := by decide +kernel
theorem dX6_readLesson_55 : decode cX6_readLesson 55 = .ok (.invokevirtual 81, 3) := by decide +kernel
theorem dX6_readLesson_58 : decode cX6_readLesson 58 = .ok (.aload_n 0, 1) := by decide +kernel
theorem dX6_readLesson_59 : decode cX6_readLesson 59 = .ok (.bipush 47, 2) := by decide +kernel
theorem dX6_readLesson_61 : decode cX6_readLesson 61 = .ok (.invokevirtual 84, 3) := by decide +kernel
theorem dX6_readLesson_64 : decode cX6_readLesson 64 = .ok (.aload_n 0, 1) := by decide +kernel
theorem dX6_readLesson_65 : decode cX6_readLesson 65 = .ok (.getfield 43, 3) := by decide +kernel
theorem dX6_readLesson_68 : decode cX6_readLesson 68 = .ok (.iconst 0, 1) := by decide +kernel
theorem dX6_readLesson_69 : decode cX6_readLesson 69 = .ok (.invokestatic 90, 3) := by decide +kernel
theorem dX6_readLesson_72 : decode cX6_readLesson 72 = .ok (.aload_n 0, 1) := by decide +kernel
theorem dX6_readLesson_73 : decode cX6_readLesson 73 = .ok (.invokevirtual 96, 3) := by decide +kernel
theorem dX6_readLesson_76 : decode cX6_readLesson 76 = .ok (.istore_n 2, 1) := by decide +kernel
theorem dX6_readLesson_77 : decode cX6_readLesson 77 = .ok (.iconst 0, 1) := by decide +kernel
theorem dX6_readLesson_78 : decode cX6_readLesson 78 = .ok (.istore_n 3, 1) := by decide +kernel
theorem dX6_readLesson_79 : decode cX6_readLesson 79 = .ok (.iload_n 3, 1) := by decide +kernel
theorem dX6_readLesson_80 : decode cX6_readLesson 80 = .ok (.bipush 12, 2) := by decide +kernel
theorem dX6_readLesson_82 : decode cX6_readLesson 82 = .ok (.if_icmp .ge 23, 3) := by decide +kernel
theorem dX6_readLesson_85 : decode cX6_readLesson 85 = .ok (.iload_n 2, 1) := by decide +kernel
theorem dX6_readLesson_86 : decode cX6_readLesson 86 = .ok (.ifCond .eq 19, 3) := by decide +kernel
theorem dX6_readLesson_89 : decode cX6_readLesson 89 = .ok (.aload_n 0, 1) := by decide +kernel
theorem dX6_readLesson_90 : decode cX6_readLesson 90 = .ok (.invokevirtual 100, 3) := by decide +kernel
theorem dX6_readLesson_93 : decode cX6_readLesson 93 = .ok (.aload_n 0, 1) := by decide +kernel
theorem dX6_readLesson_94 : decode cX6_readLesson 94 = .ok (.iload_n 3, 1) := by decide +kernel
theorem dX6_readLesson_95 : decode cX6_readLesson 95 = .ok (.invokevirtual 64, 3) := by decide +kernel
theorem dX6_readLesson_98 : decode cX6_readLesson 98 = .ok (.istore_n 2, 1) := by decide +kernel
theorem dX6_readLesson_99 : decode cX6_readLesson 99 = .ok (.iinc 3 1, 3) := by decide +kernel
theorem dX6_readLesson_102 : decode cX6_readLesson 102 = .ok (.goto (-23), 3) := by decide +kernel
theorem dX6_readLesson_105 : decode cX6_readLesson 105 = .ok (.return_, 1) := by decide +kernel
theorem dX6_start_0 : decode cX6_start 0 = .ok (.aload_n 0, 1) := by decide +kernel
theorem dX6_start_1 : decode cX6_start 1 = .ok (.aload_n 1, 1) := by decide +kernel
theorem dX6_start_2 : decode cX6_start 2 = .ok (.putfield 46, 3) := by decide +kernel
theorem dX6_start_5 : decode cX6_start 5 = .ok (.aload_n 0, 1) := by decide +kernel
theorem dX6_start_6 : decode cX6_start 6 = .ok (.iload_n 2, 1) := by decide +kernel
theorem dX6_start_7 : decode cX6_start 7 = .ok (.putfield 103, 3) := by decide +kernel
theorem dX6_start_10 : decode cX6_start 10 = .ok (.aload_n 0, 1) := by decide +kernel
theorem dX6_start_11 : decode cX6_start 11 = .ok (.iconst 0, 1) := by decide +kernel
theorem dX6_start_12 : decode cX6_start 12 = .ok (.putfield 57, 3) := by decide +kernel
theorem dX6_start_15 : decode cX6_start 15 = .ok (.aload_n 0, 1) := by decide +kernel
theorem dX6_start_16 : decode cX6_start 16 = .ok (.iconst (-1), 1) := by decide +kernel
theorem dX6_start_17 : decode cX6_start 17 = .ok (.putfield 15, 3) := by decide +kernel
theorem dX6_start_20 : decode cX6_start 20 = .ok (.aload_n 0, 1) := by decide +kernel
theorem dX6_start_21 : decode cX6_start 21 = .ok (.iconst 0, 1) := by decide +kernel
theorem dX6_start_22 : decode cX6_start 22 = .ok (.putfield 107, 3) := by decide +kernel
theorem dX6_start_25 : decode cX6_start 25 = .ok (.aload_n 0, 1) := by decide +kernel
theorem dX6_start_26 : decode cX6_start 26 = .ok (.iconst 0, 1) := by decide +kernel
theorem dX6_start_27 : decode cX6_start 27 = .ok (.putfield 75, 3) := by decide +kernel
theorem dX6_start_30 : decode cX6_start 30 = .ok (.aload_n 0, 1) := by decide +kernel
theorem dX6_start_31 : decode cX6_start 31 = .ok (.iconst 0, 1) := by decide +kernel
theorem dX6_start_32 : decode cX6_start 32 = .ok (.putfield 87, 3) := by decide +kernel
theorem dX6_start_35 : decode cX6_start 35 = .ok (.aload_n 0, 1) := by decide +kernel
theorem dX6_start_36 : decode cX6_start 36 = .ok (.invokevirtual 110, 3) := by decide +kernel
theorem dX6_start_39 : decode cX6_start 39 = .ok (.return_, 1) := by decide +kernel
theorem dX6_goesOn_0 : decode cX6_goesOn 0 = .ok (.aload_n 0, 1) := by decide +kernel
theorem dX6_goesOn_1 : decode cX6_goesOn 1 = .ok (.invokevirtual 96, 3) := by decide +kernel
theorem dX6_goesOn_4 : decode cX6_goesOn 4 = .ok (.ifCond .eq 14, 3) := by decide +kernel
theorem dX6_goesOn_7 : decode cX6_goesOn 7 = .ok (.aload_n 0, 1) := by decide +kernel
theorem dX6_goesOn_8 : decode cX6_goesOn 8 = .ok (.getfield 57, 3) := by decide +kernel
theorem dX6_goesOn_11 : decode cX6_goesOn 11 = .ok (.aload_n 0, 1) := by decide +kernel
theorem dX6_goesOn_12 : decode cX6_goesOn 12 = .ok (.getfield 50, 3) := by decide +kernel
theorem dX6_goesOn_15 : decode cX6_goesOn 15 = .ok (.if_icmp .lt 5, 3) := by decide +kernel
theorem dX6_goesOn_18 : decode cX6_goesOn 18 = .ok (.iconst 0, 1) := by decide +kernel
theorem dX6_goesOn_19 : decode cX6_goesOn 19 = .ok (.ireturn, 1) := by decide +kernel
theorem dX6_goesOn_20 : decode cX6_goesOn 20 = .ok (.aload_n 0, 1) := by decide +kernel
theorem dX6_goesOn_21 : decode cX6_goesOn 21 = .ok (.bipush 59, 2) := by decide +kernel
theorem dX6_goesOn_23 : decode cX6_goesOn 23 = .ok (.invokevirtual 84, 3) := by decide +kernel
theorem dX6_goesOn_26 : decode cX6_goesOn 26 = .ok (.iload_n 1, 1) := by decide +kernel
theorem dX6_goesOn_27 : decode cX6_goesOn 27 = .ok (.iconst 1, 1) := by decide +kernel
theorem dX6_goesOn_28 : decode cX6_goesOn 28 = .ok (.iadd, 1) := by decide +kernel
theorem dX6_goesOn_29 : decode cX6_goesOn 29 = .ok (.bipush 12, 2) := by decide +kernel
theorem dX6_goesOn_31 : decode cX6_goesOn 31 = .ok (.if_icmp .lt 11, 3) := by decide +kernel
theorem dX6_goesOn_34 : decode cX6_goesOn 34 = .ok (.aload_n 0, 1) := by decide +kernel
theorem dX6_goesOn_35 : decode cX6_goesOn 35 = .ok (.aload_n 0, 1) := by decide +kernel
theorem dX6_goesOn_36 : decode cX6_goesOn 36 = .ok (.getfield 57, 3) := by decide +kernel
theorem dX6_goesOn_39 : decode cX6_goesOn 39 = .ok (.invokevirtual 78, 3) := by decide +kernel
theorem dX6_goesOn_42 : decode cX6_goesOn 42 = .ok (.aload_n 0, 1) := by decide +kernel
theorem dX6_goesOn_43 : decode cX6_goesOn 43 = .ok (.invokevirtual 96, 3) := by decide +kernel
theorem dX6_goesOn_46 : decode cX6_goesOn 46 = .ok (.ireturn, 1) := by decide +kernel
theorem dX6_readEntry_0 : decode cX6_readEntry 0 = .ok (.aload_n 0, 1) := by decide +kernel
theorem dX6_readEntry_1 : decode cX6_readEntry 1 = .ok (.getfield 19, 3) := by decide +kernel
theorem dX6_readEntry_4 : decode cX6_readEntry 4 = .ok (.iload_n 1, 1) := by decide +kernel
theorem dX6_readEntry_5 : decode cX6_readEntry 5 = .ok (.aload_n 0, 1) := by decide +kernel
theorem dX6_readEntry_6 : decode cX6_readEntry 6 = .ok (.getfield 57, 3) := by decide +kernel
theorem dX6_readEntry_9 : decode cX6_readEntry 9 = .ok (.iastore, 1) := by decide +kernel
theorem dX6_readEntry_10 : decode cX6_readEntry 10 = .ok (.aload_n 0, 1) := by decide +kernel
theorem dX6_readEntry_11 : decode cX6_readEntry 11 = .ok (.getfield 25, 3) := by decide +kernel
theorem dX6_readEntry_14 : decode cX6_readEntry 14 = .ok (.iload_n 1, 1) := by decide +kernel
theorem dX6_readEntry_15 : decode cX6_readEntry 15 = .ok (.aload_n 0, 1) := by decide +kernel
theorem dX6_readEntry_16 : decode cX6_readEntry 16 = .ok (.aload_n 0, 1) := by decide +kernel
theorem dX6_readEntry_17 : decode cX6_readEntry 17 = .ok (.getfield 22, 3) := by decide +kernel
theorem dX6_readEntry_20 : decode cX6_readEntry 20 = .ok (.iload_n 1, 1) := by decide +kernel
theorem dX6_readEntry_21 : decode cX6_readEntry 21 = .ok (.iconst 3, 1) := by decide +kernel
theorem dX6_readEntry_22 : decode cX6_readEntry 22 = .ok (.imul, 1) := by decide +kernel
theorem dX6_readEntry_23 : decode cX6_readEntry 23 = .ok (.iconst 3, 1) := by decide +kernel
theorem dX6_readEntry_24 : decode cX6_readEntry 24 = .ok (.invokevirtual 71, 3) := by decide +kernel
theorem dX6_readEntry_27 : decode cX6_readEntry 27 = .ok (.iastore, 1) := by decide +kernel
theorem dX6_readEntry_28 : decode cX6_readEntry 28 = .ok (.aload_n 0, 1) := by decide +kernel
theorem dX6_readEntry_29 : decode cX6_readEntry 29 = .ok (.aload_n 0, 1) := by decide +kernel
theorem dX6_readEntry_30 : decode cX6_readEntry 30 = .ok (.getfield 25, 3) := by decide +kernel
theorem dX6_readEntry_33 : decode cX6_readEntry 33 = .ok (.iload_n 1, 1) := by decide +kernel
theorem dX6_readEntry_34 : decode cX6_readEntry 34 = .ok (.iaload, 1) := by decide +kernel
theorem dX6_readEntry_35 : decode cX6_readEntry 35 = .ok (.invokevirtual 81, 3) := by decide +kernel
theorem dX6_readEntry_38 : decode cX6_readEntry 38 = .ok (.aload_n 0, 1) := by decide +kernel
theorem dX6_readEntry_39 : decode cX6_readEntry 39 = .ok (.bipush 61, 2) := by decide +kernel
theorem dX6_readEntry_41 : decode cX6_readEntry 41 = .ok (.invokevirtual 84, 3) := by decide +kernel
theorem dX6_readEntry_44 : decode cX6_readEntry 44 = .ok (.aload_n 0, 1) := by decide +kernel
theorem dX6_readEntry_45 : decode cX6_readEntry 45 = .ok (.getfield 31, 3) := by decide +kernel
theorem dX6_readEntry_48 : decode cX6_readEntry 48 = .ok (.iload_n 1, 1) := by decide +kernel
theorem dX6_readEntry_49 : decode cX6_readEntry 49 = .ok (.aload_n 0, 1) := by decide +kernel
theorem dX6_readEntry_50 : decode cX6_readEntry 50 = .ok (.aload_n 0, 1) := by decide +kernel
theorem dX6_readEntry_51 : decode cX6_readEntry 51 = .ok (.getfield 28, 3) := by decide +kernel
theorem dX6_readEntry_54 : decode cX6_readEntry 54 = .ok (.iload_n 1, 1) := by decide +kernel
theorem dX6_readEntry_55 : decode cX6_readEntry 55 = .ok (.iconst 3, 1) := by decide +kernel
theorem dX6_readEntry_56 : decode cX6_readEntry 56 = .ok (.imul, 1) := by decide +kernel
theorem dX6_readEntry_57 : decode cX6_readEntry 57 = .ok (.iconst 3, 1) := by decide +kernel
theorem dX6_readEntry_58 : decode cX6_readEntry 58 = .ok (.invokevirtual 71, 3) := by decide +kernel
theorem dX6_readEntry_61 : decode cX6_readEntry 61 = .ok (.iastore, 1) := by decide +kernel
theorem dX6_readEntry_62 : decode cX6_readEntry 62 = .ok (.aload_n 0, 1) := by decide +kernel
theorem dX6_readEntry_63 : decode cX6_readEntry 63 = .ok (.getfield 34, 3) := by decide +kernel
theorem dX6_readEntry_66 : decode cX6_readEntry 66 = .ok (.iload_n 1, 1) := by decide +kernel
theorem dX6_readEntry_67 : decode cX6_readEntry 67 = .ok (.aload_n 0, 1) := by decide +kernel
theorem dX6_readEntry_68 : decode cX6_readEntry 68 = .ok (.bipush 99, 2) := by decide +kernel
theorem dX6_readEntry_70 : decode cX6_readEntry 70 = .ok (.invokevirtual 113, 3) := by decide +kernel
theorem dX6_readEntry_73 : decode cX6_readEntry 73 = .ok (.iastore, 1) := by decide +kernel
theorem dX6_readEntry_74 : decode cX6_readEntry 74 = .ok (.aload_n 0, 1) := by decide +kernel
theorem dX6_readEntry_75 : decode cX6_readEntry 75 = .ok (.iload_n 1, 1) := by decide +kernel
theorem dX6_readEntry_76 : decode cX6_readEntry 76 = .ok (.iconst 1, 1) := by decide +kernel
theorem dX6_readEntry_77 : decode cX6_readEntry 77 = .ok (.iadd, 1) := by decide +kernel
theorem dX6_readEntry_78 : decode cX6_readEntry 78 = .ok (.putfield 107, 3) := by decide +kernel
theorem dX6_readEntry_81 : decode cX6_readEntry 81 = .ok (.return_, 1) := by decide +kernel
theorem dX6_readPair_0 : decode cX6_readPair 0 = .ok (.aload_n 0, 1) := by decide +kernel
theorem dX6_readPair_1 : decode cX6_readPair 1 = .ok (.getfield 19, 3) := by decide +kernel
theorem dX6_readPair_4 : decode cX6_readPair 4 = .ok (.iload_n 1, 1) := by decide +kernel
theorem dX6_readPair_5 : decode cX6_readPair 5 = .ok (.aload_n 0, 1) := by decide +kernel
theorem dX6_readPair_6 : decode cX6_readPair 6 = .ok (.getfield 57, 3) := by decide +kernel
theorem dX6_readPair_9 : decode cX6_readPair 9 = .ok (.iastore, 1) := by decide +kernel
theorem dX6_readPair_10 : decode cX6_readPair 10 = .ok (.aload_n 0, 1) := by decide +kernel
theorem dX6_readPair_11 : decode cX6_readPair 11 = .ok (.getfield 22, 3) := by decide +kernel
theorem dX6_readPair_14 : decode cX6_readPair 14 = .ok (.iload_n 1, 1) := by decide +kernel
theorem dX6_readPair_15 : decode cX6_readPair 15 = .ok (.iconst 3, 1) := by decide +kernel
theorem dX6_readPair_16 : decode cX6_readPair 16 = .ok (.imul, 1) := by decide +kernel
theorem dX6_readPair_17 : decode cX6_readPair 17 = .ok (.aload_n 0, 1) := by decide +kernel
theorem dX6_readPair_18 : decode cX6_readPair 18 = .ok (.bipush 94, 2) := by decide +kernel
theorem dX6_readPair_20 : decode cX6_readPair 20 = .ok (.invokevirtual 117, 3) := by decide +kernel
theorem dX6_readPair_23 : decode cX6_readPair 23 = .ok (.ifCond .eq 8, 3) := by decide +kernel
theorem dX6_readPair_26 : decode cX6_readPair 26 = .ok (.bipush 40, 2) := by decide +kernel
theorem dX6_readPair_28 : decode cX6_readPair 28 = .ok (.goto 7, 3) := by decide +kernel
theorem dX6_readPair_31 : decode cX6_readPair 31 = .ok (.aload_n 0, 1) := by decide +kernel
theorem dX6_readPair_32 : decode cX6_readPair 32 = .ok (.invokevirtual 120, 3) := by decide +kernel
theorem dX6_readPair_35 : decode cX6_readPair 35 = .ok (.iastore, 1) := by decide +kernel
theorem dX6_readPair_36 : decode cX6_readPair 36 = .ok (.aload_n 0, 1) := by decide +kernel
theorem dX6_readPair_37 : decode cX6_readPair 37 = .ok (.getfield 28, 3) := by decide +kernel
theorem dX6_readPair_40 : decode cX6_readPair 40 = .ok (.iload_n 1, 1) := by decide +kernel
theorem dX6_readPair_41 : decode cX6_readPair 41 = .ok (.iconst 3, 1) := by decide +kernel
theorem dX6_readPair_42 : decode cX6_readPair 42 = .ok (.imul, 1) := by decide +kernel
theorem dX6_readPair_43 : decode cX6_readPair 43 = .ok (.aload_n 0, 1) := by decide +kernel
theorem dX6_readPair_44 : decode cX6_readPair 44 = .ok (.bipush 36, 2) := by decide +kernel
theorem dX6_readPair_46 : decode cX6_readPair 46 = .ok (.invokevirtual 117, 3) := by decide +kernel
theorem dX6_readPair_49 : decode cX6_readPair 49 = .ok (.ifCond .eq 8, 3) := by decide +kernel
theorem dX6_readPair_52 : decode cX6_readPair 52 = .ok (.bipush 40, 2) := by decide +kernel
theorem dX6_readPair_54 : decode cX6_readPair 54 = .ok (.goto 7, 3) := by decide +kernel
theorem dX6_readPair_57 : decode cX6_readPair 57 = .ok (.aload_n 0, 1) := by decide +kernel
theorem dX6_readPair_58 : decode cX6_readPair 58 = .ok (.invokevirtual 120, 3) := by decide +kernel
theorem dX6_readPair_61 : decode cX6_readPair 61 = .ok (.iastore, 1) := by decide +kernel
theorem dX6_readPair_62 : decode cX6_readPair 62 = .ok (.aload_n 0, 1) := by decide +kernel
theorem dX6_readPair_63 : decode cX6_readPair 63 = .ok (.getfield 34, 3) := by decide +kernel
theorem dX6_readPair_66 : decode cX6_readPair 66 = .ok (.iload_n 1, 1) := by decide +kernel
theorem dX6_readPair_67 : decode cX6_readPair 67 = .ok (.aload_n 0, 1) := by decide +kernel
theorem dX6_readPair_68 : decode cX6_readPair 68 = .ok (.bipush 99, 2) := by decide +kernel
theorem dX6_readPair_70 : decode cX6_readPair 70 = .ok (.invokevirtual 113, 3) := by decide +kernel
theorem dX6_readPair_73 : decode cX6_readPair 73 = .ok (.iastore, 1) := by decide +kernel
theorem dX6_readPair_74 : decode cX6_readPair 74 = .ok (.aload_n 0, 1) := by decide +kernel
theorem dX6_readPair_75 : decode cX6_readPair 75 = .ok (.iload_n 1, 1) := by decide +kernel
theorem dX6_readPair_76 : decode cX6_readPair 76 = .ok (.iconst 1, 1) := by decide +kernel
theorem dX6_readPair_77 : decode cX6_readPair 77 = .ok (.iadd, 1) := by decide +kernel
theorem dX6_readPair_78 : decode cX6_readPair 78 = .ok (.putfield 107, 3) := by decide +kernel
theorem dX6_readPair_81 : decode cX6_readPair 81 = .ok (.return_, 1) := by decide +kernel
theorem dX6_readLink_0 : decode cX6_readLink 0 = .ok (.aload_n 0, 1) := by decide +kernel
theorem dX6_readLink_1 : decode cX6_readLink 1 = .ok (.getfield 57, 3) := by decide +kernel
theorem dX6_readLink_4 : decode cX6_readLink 4 = .ok (.istore_n 1, 1) := by decide +kernel
theorem dX6_readLink_5 : decode cX6_readLink 5 = .ok (.aload_n 0, 1) := by decide +kernel
theorem dX6_readLink_6 : decode cX6_readLink 6 = .ok (.aload_n 0, 1) := by decide +kernel
theorem dX6_readLink_7 : decode cX6_readLink 7 = .ok (.getfield 75, 3) := by decide +kernel
theorem dX6_readLink_10 : decode cX6_readLink 10 = .ok (.iconst 1, 1) := by decide +kernel
theorem dX6_readLink_11 : decode cX6_readLink 11 = .ok (.isub, 1) := by decide +kernel
theorem dX6_readLink_12 : decode cX6_readLink 12 = .ok (.invokevirtual 113, 3) := by decide +kernel
theorem dX6_readLink_15 : decode cX6_readLink 15 = .ok (.istore_n 2, 1) := by decide +kernel
theorem dX6_readLink_16 : decode cX6_readLink 16 = .ok (.aload_n 0, 1) := by decide +kernel
theorem dX6_readLink_17 : decode cX6_readLink 17 = .ok (.aload_n 0, 1) := by decide +kernel
theorem dX6_readLink_18 : decode cX6_readLink 18 = .ok (.getfield 87, 3) := by decide +kernel
theorem dX6_readLink_21 : decode cX6_readLink 21 = .ok (.iconst 1, 1) := by decide +kernel
theorem dX6_readLink_22 : decode cX6_readLink 22 = .ok (.isub, 1) := by decide +kernel
theorem dX6_readLink_23 : decode cX6_readLink 23 = .ok (.invokevirtual 113, 3) := by decide +kernel
theorem dX6_readLink_26 : decode cX6_readLink 26 = .ok (.istore_n 3, 1) := by decide +kernel
theorem dX6_readLink_27 : decode cX6_readLink 27 = .ok (.iload_n 2, 1) := by decide +kernel
theorem dX6_readLink_28 : decode cX6_readLink 28 = .ok (.iconst (-1), 1) := by decide +kernel
theorem dX6_readLink_29 : decode cX6_readLink 29 = .ok (.if_icmp .eq 8, 3) := by decide +kernel
theorem dX6_readLink_32 : decode cX6_readLink 32 = .ok (.iload_n 3, 1) := by decide +kernel
theorem dX6_readLink_33 : decode cX6_readLink 33 = .ok (.iconst (-1), 1) := by decide +kernel
theorem dX6_readLink_34 : decode cX6_readLink 34 = .ok (.if_icmp .ne 4, 3) := by decide +kernel
theorem dX6_readLink_37 : decode cX6_readLink 37 = .ok (.return_, 1) := by decide +kernel
theorem dX6_readLink_38 : decode cX6_readLink 38 = .ok (.aload_n 0, 1) := by decide +kernel
theorem dX6_readLink_39 : decode cX6_readLink 39 = .ok (.getfield 43, 3) := by decide +kernel
theorem dX6_readLink_42 : decode cX6_readLink 42 = .ok (.iload_n 2, 1) := by decide +kernel
theorem dX6_readLink_43 : decode cX6_readLink 43 = .ok (.iaload, 1) := by decide +kernel
theorem dX6_readLink_44 : decode cX6_readLink 44 = .ok (.iload_n 3, 1) := by decide +kernel
theorem dX6_readLink_45 : decode cX6_readLink 45 = .ok (.ishr, 1) := by decide +kernel
theorem dX6_readLink_46 : decode cX6_readLink 46 = .ok (.iconst 1, 1) := by decide +kernel
theorem dX6_readLink_47 : decode cX6_readLink 47 = .ok (.iand, 1) := by decide +kernel
theorem dX6_readLink_48 : decode cX6_readLink 48 = .ok (.ifCond .eq 8, 3) := by decide +kernel
theorem dX6_readLink_51 : decode cX6_readLink 51 = .ok (.aload_n 0, 1) := by decide +kernel
theorem dX6_readLink_52 : decode cX6_readLink 52 = .ok (.iload_n 1, 1) := by decide +kernel
theorem dX6_readLink_53 : decode cX6_readLink 53 = .ok (.invokevirtual 78, 3) := by decide +kernel
theorem dX6_readLink_56 : decode cX6_readLink 56 = .ok (.aload_n 0, 1) := by decide +kernel
theorem dX6_readLink_57 : decode cX6_readLink 57 = .ok (.getfield 43, 3) := by decide +kernel
theorem dX6_readLink_60 : decode cX6_readLink 60 = .ok (.iload_n 2, 1) := by decide +kernel
theorem dX6_readLink_61 : decode cX6_readLink 61 = .ok (.dup2, 1) := by decide +kernel
theorem dX6_readLink_62 : decode cX6_readLink 62 = .ok (.iaload, 1) := by decide +kernel
theorem dX6_readLink_63 : decode cX6_readLink 63 = .ok (.iconst 1, 1) := by decide +kernel
theorem dX6_readLink_64 : decode cX6_readLink 64 = .ok (.iload_n 3, 1) := by decide +kernel
theorem dX6_readLink_65 : decode cX6_readLink 65 = .ok (.ishl, 1) := by decide +kernel
theorem dX6_readLink_66 : decode cX6_readLink 66 = .ok (.ior, 1) := by decide +kernel
theorem dX6_readLink_67 : decode cX6_readLink 67 = .ok (.iastore, 1) := by decide +kernel
theorem dX6_readLink_68 : decode cX6_readLink 68 = .ok (.return_, 1) := by decide +kernel
theorem dX6_readWords_0 : decode cX6_readWords 0 = .ok (.iconst 0, 1) := by decide +kernel
theorem dX6_readWords_1 : decode cX6_readWords 1 = .ok (.istore 4, 2) := by decide +kernel
theorem dX6_readWords_3 : decode cX6_readWords 3 = .ok (.iload 4, 2) := by decide +kernel
theorem dX6_readWords_5 : decode cX6_readWords 5 = .ok (.iload_n 3, 1) := by decide +kernel
theorem dX6_readWords_6 : decode cX6_readWords 6 = .ok (.if_icmp .ge 33, 3) := by decide +kernel
theorem dX6_readWords_9 : decode cX6_readWords 9 = .ok (.aload_n 0, 1) := by decide +kernel
theorem dX6_readWords_10 : decode cX6_readWords 10 = .ok (.invokevirtual 96, 3) := by decide +kernel
theorem dX6_readWords_13 : decode cX6_readWords 13 = .ok (.ifCond .eq 26, 3) := by decide +kernel
theorem dX6_readWords_16 : decode cX6_readWords 16 = .ok (.aload_n 0, 1) := by decide +kernel
theorem dX6_readWords_17 : decode cX6_readWords 17 = .ok (.invokevirtual 124, 3) := by decide +kernel
theorem dX6_readWords_20 : decode cX6_readWords 20 = .ok (.ifCond .eq 19, 3) := by decide +kernel
theorem dX6_readWords_23 : decode cX6_readWords 23 = .ok (.aload_n 1, 1) := by decide +kernel
theorem dX6_readWords_24 : decode cX6_readWords 24 = .ok (.iload_n 2, 1) := by decide +kernel
theorem dX6_readWords_25 : decode cX6_readWords 25 = .ok (.iload 4, 2) := by decide +kernel
theorem dX6_readWords_27 : decode cX6_readWords 27 = .ok (.iadd, 1) := by decide +kernel
theorem dX6_readWords_28 : decode cX6_readWords 28 = .ok (.aload_n 0, 1) := by decide +kernel
theorem dX6_readWords_29 : decode cX6_readWords 29 = .ok (.invokevirtual 120, 3) := by decide +kernel
theorem dX6_readWords_32 : decode cX6_readWords 32 = .ok (.iastore, 1) := by decide +kernel
theorem dX6_readWords_33 : decode cX6_readWords 33 = .ok (.iinc 4 1, 3) := by decide +kernel
theorem dX6_readWords_36 : decode cX6_readWords 36 = .ok (.goto (-33), 3) := by decide +kernel
theorem dX6_readWords_39 : decode cX6_readWords 39 = .ok (.aload_n 0, 1) := by decide +kernel
theorem dX6_readWords_40 : decode cX6_readWords 40 = .ok (.invokevirtual 124, 3) := by decide +kernel
theorem dX6_readWords_43 : decode cX6_readWords 43 = .ok (.ifCond .eq 11, 3) := by decide +kernel
theorem dX6_readWords_46 : decode cX6_readWords 46 = .ok (.aload_n 0, 1) := by decide +kernel
theorem dX6_readWords_47 : decode cX6_readWords 47 = .ok (.aload_n 0, 1) := by decide +kernel
theorem dX6_readWords_48 : decode cX6_readWords 48 = .ok (.getfield 57, 3) := by decide +kernel
theorem dX6_readWords_51 : decode cX6_readWords 51 = .ok (.invokevirtual 78, 3) := by decide +kernel
theorem dX6_readWords_54 : decode cX6_readWords 54 = .ok (.iload 4, 2) := by decide +kernel
theorem dX6_readWords_56 : decode cX6_readWords 56 = .ok (.ireturn, 1) := by decide +kernel
theorem dX6_readWord_0 : decode cX6_readWord 0 = .ok (.aload_n 0, 1) := by decide +kernel
theorem dX6_readWord_1 : decode cX6_readWord 1 = .ok (.getfield 57, 3) := by decide +kernel
theorem dX6_readWord_4 : decode cX6_readWord 4 = .ok (.istore_n 1, 1) := by decide +kernel
theorem dX6_readWord_5 : decode cX6_readWord 5 = .ok (.aload_n 0, 1) := by decide +kernel
theorem dX6_readWord_6 : decode cX6_readWord 6 = .ok (.getfield 57, 3) := by decide +kernel
theorem dX6_readWord_9 : decode cX6_readWord 9 = .ok (.aload_n 0, 1) := by decide +kernel
theorem dX6_readWord_10 : decode cX6_readWord 10 = .ok (.getfield 50, 3) := by decide +kernel
theorem dX6_readWord_13 : decode cX6_readWord 13 = .ok (.if_icmp .ge 23, 3) := by decide +kernel
theorem dX6_readWord_16 : decode cX6_readWord 16 = .ok (.aload_n 0, 1) := by decide +kernel
theorem dX6_readWord_17 : decode cX6_readWord 17 = .ok (.invokevirtual 124, 3) := by decide +kernel
theorem dX6_readWord_20 : decode cX6_readWord 20 = .ok (.ifCond .eq 16, 3) := by decide +kernel
theorem dX6_readWord_23 : decode cX6_readWord 23 = .ok (.aload_n 0, 1) := by decide +kernel
theorem dX6_readWord_24 : decode cX6_readWord 24 = .ok (.dup, 1) := by decide +kernel
theorem dX6_readWord_25 : decode cX6_readWord 25 = .ok (.getfield 57, 3) := by decide +kernel
theorem dX6_readWord_28 : decode cX6_readWord 28 = .ok (.iconst 1, 1) := by decide +kernel
theorem dX6_readWord_29 : decode cX6_readWord 29 = .ok (.iadd, 1) := by decide +kernel
theorem dX6_readWord_30 : decode cX6_readWord 30 = .ok (.putfield 57, 3) := by decide +kernel
theorem dX6_readWord_33 : decode cX6_readWord 33 = .ok (.goto (-28), 3) := by decide +kernel
theorem dX6_readWord_36 : decode cX6_readWord 36 = .ok (.aload_n 0, 1) := by decide +kernel
theorem dX6_readWord_37 : decode cX6_readWord 37 = .ok (.getfield 57, 3) := by decide +kernel
theorem dX6_readWord_40 : decode cX6_readWord 40 = .ok (.iload_n 1, 1) := by decide +kernel
theorem dX6_readWord_41 : decode cX6_readWord 41 = .ok (.isub, 1) := by decide +kernel
theorem dX6_readWord_42 : decode cX6_readWord 42 = .ok (.istore_n 2, 1) := by decide +kernel
theorem dX6_readWord_43 : decode cX6_readWord 43 = .ok (.iload_n 2, 1) := by decide +kernel
theorem dX6_readWord_44 : decode cX6_readWord 44 = .ok (.ifCond .eq 9, 3) := by decide +kernel
theorem dX6_readWord_47 : decode cX6_readWord 47 = .ok (.iload_n 2, 1) := by decide +kernel
theorem dX6_readWord_48 : decode cX6_readWord 48 = .ok (.bipush 8, 2) := by decide +kernel
theorem dX6_readWord_50 : decode cX6_readWord 50 = .ok (.if_icmp .le 10, 3) := by decide +kernel
theorem dX6_readWord_53 : decode cX6_readWord 53 = .ok (.aload_n 0, 1) := by decide +kernel
theorem dX6_readWord_54 : decode cX6_readWord 54 = .ok (.iload_n 1, 1) := by decide +kernel
theorem dX6_readWord_55 : decode cX6_readWord 55 = .ok (.invokevirtual 78, 3) := by decide +kernel
theorem dX6_readWord_58 : decode cX6_readWord 58 = .ok (.iconst (-1), 1) := by decide +kernel
theorem dX6_readWord_59 : decode cX6_readWord 59 = .ok (.ireturn, 1) := by decide +kernel
theorem dX6_readWord_60 : decode cX6_readWord 60 = .ok (.aload_n 0, 1) := by decide +kernel
theorem dX6_readWord_61 : decode cX6_readWord 61 = .ok (.invokevirtual 110, 3) := by decide +kernel
theorem dX6_readWord_64 : decode cX6_readWord 64 = .ok (.aload_n 0, 1) := by decide +kernel
theorem dX6_readWord_65 : decode cX6_readWord 65 = .ok (.getfield 46, 3) := by decide +kernel
theorem dX6_readWord_68 : decode cX6_readWord 68 = .ok (.aload_n 0, 1) := by decide +kernel
theorem dX6_readWord_69 : decode cX6_readWord 69 = .ok (.getfield 9, 3) := by decide +kernel
theorem dX6_readWord_72 : decode cX6_readWord 72 = .ok (.iload_n 1, 1) := by decide +kernel
theorem dX6_readWord_73 : decode cX6_readWord 73 = .ok (.iload_n 2, 1) := by decide +kernel
theorem dX6_readWord_74 : decode cX6_readWord 74 = .ok (.invokevirtual 127, 3) := by decide +kernel
theorem dX6_readWord_77 : decode cX6_readWord 77 = .ok (.istore_n 3, 1) := by decide +kernel
theorem dX6_readWord_78 : decode cX6_readWord 78 = .ok (.iload_n 3, 1) := by decide +kernel
theorem dX6_readWord_79 : decode cX6_readWord 79 = .ok (.iconst (-1), 1) := by decide +kernel
theorem dX6_readWord_80 : decode cX6_readWord 80 = .ok (.if_icmp .ne 10, 3) := by decide +kernel
theorem dX6_readWord_83 : decode cX6_readWord 83 = .ok (.aload_n 0, 1) := by decide +kernel
theorem dX6_readWord_84 : decode cX6_readWord 84 = .ok (.getfield 103, 3) := by decide +kernel
theorem dX6_readWord_87 : decode cX6_readWord 87 = .ok (.ifCond .ne 5, 3) := by decide +kernel
theorem dX6_readWord_90 : decode cX6_readWord 90 = .ok (.iload_n 3, 1) := by decide +kernel
theorem dX6_readWord_91 : decode cX6_readWord 91 = .ok (.ireturn, 1) := by decide +kernel
theorem dX6_readWord_92 : decode cX6_readWord 92 = .ok (.aload_n 0, 1) := by decide +kernel
theorem dX6_readWord_93 : decode cX6_readWord 93 = .ok (.getfield 46, 3) := by decide +kernel
theorem dX6_readWord_96 : decode cX6_readWord 96 = .ok (.getfield 132, 3) := by decide +kernel
theorem dX6_readWord_99 : decode cX6_readWord 99 = .ok (.bipush 40, 2) := by decide +kernel
theorem dX6_readWord_101 : decode cX6_readWord 101 = .ok (.if_icmp .lt 10, 3) := by decide +kernel
theorem dX6_readWord_104 : decode cX6_readWord 104 = .ok (.aload_n 0, 1) := by decide +kernel
theorem dX6_readWord_105 : decode cX6_readWord 105 = .ok (.iload_n 1, 1) := by decide +kernel
theorem dX6_readWord_106 : decode cX6_readWord 106 = .ok (.invokevirtual 78, 3) := by decide +kernel
theorem dX6_readWord_109 : decode cX6_readWord 109 = .ok (.iconst (-1), 1) := by decide +kernel
theorem dX6_readWord_110 : decode cX6_readWord 110 = .ok (.ireturn, 1) := by decide +kernel
theorem dX6_readWord_111 : decode cX6_readWord 111 = .ok (.aload_n 0, 1) := by decide +kernel
theorem dX6_readWord_112 : decode cX6_readWord 112 = .ok (.getfield 46, 3) := by decide +kernel
theorem dX6_readWord_115 : decode cX6_readWord 115 = .ok (.aload_n 0, 1) := by decide +kernel
theorem dX6_readWord_116 : decode cX6_readWord 116 = .ok (.getfield 9, 3) := by decide +kernel
theorem dX6_readWord_119 : decode cX6_readWord 119 = .ok (.iload_n 1, 1) := by decide +kernel
theorem dX6_readWord_120 : decode cX6_readWord 120 = .ok (.iload_n 2, 1) := by decide +kernel
theorem dX6_readWord_121 : decode cX6_readWord 121 = .ok (.invokevirtual 135, 3) := by decide +kernel
theorem dX6_readWord_124 : decode cX6_readWord 124 = .ok (.ireturn, 1) := by decide +kernel
theorem dX6_readNumber_0 : decode cX6_readNumber 0 = .ok (.aload_n 0, 1) := by decide +kernel
theorem dX6_readNumber_1 : decode cX6_readNumber 1 = .ok (.getfield 57, 3) := by decide +kernel
theorem dX6_readNumber_4 : decode cX6_readNumber 4 = .ok (.istore_n 2, 1) := by decide +kernel
theorem dX6_readNumber_5 : decode cX6_readNumber 5 = .ok (.iconst 0, 1) := by decide +kernel
theorem dX6_readNumber_6 : decode cX6_readNumber 6 = .ok (.istore_n 3, 1) := by decide +kernel
theorem dX6_readNumber_7 : decode cX6_readNumber 7 = .ok (.aload_n 0, 1) := by decide +kernel
theorem dX6_readNumber_8 : decode cX6_readNumber 8 = .ok (.getfield 57, 3) := by decide +kernel
theorem dX6_readNumber_11 : decode cX6_readNumber 11 = .ok (.aload_n 0, 1) := by decide +kernel
theorem dX6_readNumber_12 : decode cX6_readNumber 12 = .ok (.getfield 50, 3) := by decide +kernel
theorem dX6_readNumber_15 : decode cX6_readNumber 15 = .ok (.if_icmp .ge 72, 3) := by decide +kernel
theorem dX6_readNumber_18 : decode cX6_readNumber 18 = .ok (.aload_n 0, 1) := by decide +kernel
theorem dX6_readNumber_19 : decode cX6_readNumber 19 = .ok (.getfield 9, 3) := by decide +kernel
theorem dX6_readNumber_22 : decode cX6_readNumber 22 = .ok (.aload_n 0, 1) := by decide +kernel
theorem dX6_readNumber_23 : decode cX6_readNumber 23 = .ok (.getfield 57, 3) := by decide +kernel
theorem dX6_readNumber_26 : decode cX6_readNumber 26 = .ok (.iaload, 1) := by decide +kernel
theorem dX6_readNumber_27 : decode cX6_readNumber 27 = .ok (.bipush 48, 2) := by decide +kernel
theorem dX6_readNumber_29 : decode cX6_readNumber 29 = .ok (.if_icmp .lt 58, 3) := by decide +kernel
theorem dX6_readNumber_32 : decode cX6_readNumber 32 = .ok (.aload_n 0, 1) := by decide +kernel
theorem dX6_readNumber_33 : decode cX6_readNumber 33 = .ok (.getfield 9, 3) := by decide +kernel
theorem dX6_readNumber_36 : decode cX6_readNumber 36 = .ok (.aload_n 0, 1) := by decide +kernel
theorem dX6_readNumber_37 : decode cX6_readNumber 37 = .ok (.getfield 57, 3) := by decide +kernel
theorem dX6_readNumber_40 : decode cX6_readNumber 40 = .ok (.iaload, 1) := by decide +kernel
theorem dX6_readNumber_41 : decode cX6_readNumber 41 = .ok (.bipush 57, 2) := by decide +kernel
theorem dX6_readNumber_43 : decode cX6_readNumber 43 = .ok (.if_icmp .gt 44, 3) := by decide +kernel
theorem dX6_readNumber_46 : decode cX6_readNumber 46 = .ok (.aload_n 0, 1) := by decide +kernel
theorem dX6_readNumber_47 : decode cX6_readNumber 47 = .ok (.getfield 57, 3) := by decide +kernel
theorem dX6_readNumber_50 : decode cX6_readNumber 50 = .ok (.iload_n 2, 1) := by decide +kernel
theorem dX6_readNumber_51 : decode cX6_readNumber 51 = .ok (.isub, 1) := by decide +kernel
theorem dX6_readNumber_52 : decode cX6_readNumber 52 = .ok (.iconst 3, 1) := by decide +kernel
theorem dX6_readNumber_53 : decode cX6_readNumber 53 = .ok (.if_icmp .ge 21, 3) := by decide +kernel
theorem dX6_readNumber_56 : decode cX6_readNumber 56 = .ok (.iload_n 3, 1) := by decide +kernel
theorem dX6_readNumber_57 : decode cX6_readNumber 57 = .ok (.bipush 10, 2) := by decide +kernel
theorem dX6_readNumber_59 : decode cX6_readNumber 59 = .ok (.imul, 1) := by decide +kernel
theorem dX6_readNumber_60 : decode cX6_readNumber 60 = .ok (.aload_n 0, 1) := by decide +kernel
theorem dX6_readNumber_61 : decode cX6_readNumber 61 = .ok (.getfield 9, 3) := by decide +kernel
theorem dX6_readNumber_64 : decode cX6_readNumber 64 = .ok (.aload_n 0, 1) := by decide +kernel
theorem dX6_readNumber_65 : decode cX6_readNumber 65 = .ok (.getfield 57, 3) := by decide +kernel
theorem dX6_readNumber_68 : decode cX6_readNumber 68 = .ok (.iaload, 1) := by decide +kernel
theorem dX6_readNumber_69 : decode cX6_readNumber 69 = .ok (.iadd, 1) := by decide +kernel
theorem dX6_readNumber_70 : decode cX6_readNumber 70 = .ok (.bipush 48, 2) := by decide +kernel
theorem dX6_readNumber_72 : decode cX6_readNumber 72 = .ok (.isub, 1) := by decide +kernel
theorem dX6_readNumber_73 : decode cX6_readNumber 73 = .ok (.istore_n 3, 1) := by decide +kernel
theorem dX6_readNumber_74 : decode cX6_readNumber 74 = .ok (.aload_n 0, 1) := by decide +kernel
theorem dX6_readNumber_75 : decode cX6_readNumber 75 = .ok (.dup, 1) := by decide +kernel
theorem dX6_readNumber_76 : decode cX6_readNumber 76 = .ok (.getfield 57, 3) := by decide +kernel
theorem dX6_readNumber_79 : decode cX6_readNumber 79 = .ok (.iconst 1, 1) := by decide +kernel
theorem dX6_readNumber_80 : decode cX6_readNumber 80 = .ok (.iadd, 1) := by decide +kernel
theorem dX6_readNumber_81 : decode cX6_readNumber 81 = .ok (.putfield 57, 3) := by decide +kernel
theorem dX6_readNumber_84 : decode cX6_readNumber 84 = .ok (.goto (-77), 3) := by decide +kernel
theorem dX6_readNumber_87 : decode cX6_readNumber 87 = .ok (.aload_n 0, 1) := by decide +kernel
theorem dX6_readNumber_88 : decode cX6_readNumber 88 = .ok (.getfield 57, 3) := by decide +kernel
theorem dX6_readNumber_91 : decode cX6_readNumber 91 = .ok (.iload_n 2, 1) := by decide +kernel
theorem dX6_readNumber_92 : decode cX6_readNumber 92 = .ok (.isub, 1) := by decide +kernel
theorem dX6_readNumber_93 : decode cX6_readNumber 93 = .ok (.istore 4, 2) := by decide +kernel
theorem dX6_readNumber_95 : decode cX6_readNumber 95 = .ok (.iload 4, 2) := by decide +kernel
theorem dX6_readNumber_97 : decode cX6_readNumber 97 = .ok (.ifCond .eq 14, 3) := by decide +kernel
theorem dX6_readNumber_100 : decode cX6_readNumber 100 = .ok (.iload 4, 2) := by decide +kernel
theorem dX6_readNumber_102 : decode cX6_readNumber 102 = .ok (.iconst 3, 1) := by decide +kernel
theorem dX6_readNumber_103 : decode cX6_readNumber 103 = .ok (.if_icmp .gt 8, 3) := by decide +kernel
theorem dX6_readNumber_106 : decode cX6_readNumber 106 = .ok (.iload_n 3, 1) := by decide +kernel
theorem dX6_readNumber_107 : decode cX6_readNumber 107 = .ok (.iload_n 1, 1) := by decide +kernel
theorem dX6_readNumber_108 : decode cX6_readNumber 108 = .ok (.if_icmp .le 10, 3) := by decide +kernel
theorem dX6_readNumber_111 : decode cX6_readNumber 111 = .ok (.aload_n 0, 1) := by decide +kernel
theorem dX6_readNumber_112 : decode cX6_readNumber 112 = .ok (.iload_n 2, 1) := by decide +kernel
theorem dX6_readNumber_113 : decode cX6_readNumber 113 = .ok (.invokevirtual 78, 3) := by decide +kernel
theorem dX6_readNumber_116 : decode cX6_readNumber 116 = .ok (.iconst (-1), 1) := by decide +kernel
theorem dX6_readNumber_117 : decode cX6_readNumber 117 = .ok (.ireturn, 1) := by decide +kernel
theorem dX6_readNumber_118 : decode cX6_readNumber 118 = .ok (.aload_n 0, 1) := by decide +kernel
theorem dX6_readNumber_119 : decode cX6_readNumber 119 = .ok (.invokevirtual 110, 3) := by decide +kernel
theorem dX6_readNumber_122 : decode cX6_readNumber 122 = .ok (.iload_n 3, 1) := by decide +kernel
theorem dX6_readNumber_123 : decode cX6_readNumber 123 = .ok (.ireturn, 1) := by decide +kernel
theorem dX6_needSome_0 : decode cX6_needSome 0 = .ok (.iload_n 1, 1) := by decide +kernel
theorem dX6_needSome_1 : decode cX6_needSome 1 = .ok (.ifCond .ne 11, 3) := by decide +kernel
theorem dX6_needSome_4 : decode cX6_needSome 4 = .ok (.aload_n 0, 1) := by decide +kernel
theorem dX6_needSome_5 : decode cX6_needSome 5 = .ok (.aload_n 0, 1) := by decide +kernel
theorem dX6_needSome_6 : decode cX6_needSome 6 = .ok (.getfield 57, 3) := by decide +kernel
theorem dX6_needSome_9 : decode cX6_needSome 9 = .ok (.invokevirtual 78, 3) := by decide +kernel
theorem dX6_needSome_12 : decode cX6_needSome 12 = .ok (.return_, 1) := by decide +kernel
theorem dX6_expect_0 : decode cX6_expect 0 = .ok (.aload_n 0, 1) := by decide +kernel
theorem dX6_expect_1 : decode cX6_expect 1 = .ok (.iload_n 1, 1) := by decide +kernel
theorem dX6_expect_2 : decode cX6_expect 2 = .ok (.invokevirtual 117, 3) := by decide +kernel
theorem dX6_expect_5 : decode cX6_expect 5 = .ok (.ifCond .ne 11, 3) := by decide +kernel
theorem dX6_expect_8 : decode cX6_expect 8 = .ok (.aload_n 0, 1) := by decide +kernel
theorem dX6_expect_9 : decode cX6_expect 9 = .ok (.aload_n 0, 1) := by decide +kernel
theorem dX6_expect_10 : decode cX6_expect 10 = .ok (.getfield 57, 3) := by decide +kernel
theorem dX6_expect_13 : decode cX6_expect 13 = .ok (.invokevirtual 78, 3) := by decide +kernel
theorem dX6_expect_16 : decode cX6_expect 16 = .ok (.return_, 1) := by decide +kernel
theorem dX6_take_0 : decode cX6_take 0 = .ok (.aload_n 0, 1) := by decide +kernel
theorem dX6_take_1 : decode cX6_take 1 = .ok (.getfield 57, 3) := by decide +kernel
theorem dX6_take_4 : decode cX6_take 4 = .ok (.aload_n 0, 1) := by decide +kernel
theorem dX6_take_5 : decode cX6_take 5 = .ok (.getfield 50, 3) := by decide +kernel
theorem dX6_take_8 : decode cX6_take 8 = .ok (.if_icmp .ge 16, 3) := by decide +kernel
theorem dX6_take_11 : decode cX6_take 11 = .ok (.aload_n 0, 1) := by decide +kernel
theorem dX6_take_12 : decode cX6_take 12 = .ok (.getfield 9, 3) := by decide +kernel
theorem dX6_take_15 : decode cX6_take 15 = .ok (.aload_n 0, 1) := by decide +kernel
theorem dX6_take_16 : decode cX6_take 16 = .ok (.getfield 57, 3) := by decide +kernel
theorem dX6_take_19 : decode cX6_take 19 = .ok (.iaload, 1) := by decide +kernel
theorem dX6_take_20 : decode cX6_take 20 = .ok (.iload_n 1, 1) := by decide +kernel
theorem dX6_take_21 : decode cX6_take 21 = .ok (.if_icmp .eq 5, 3) := by decide +kernel
theorem dX6_take_24 : decode cX6_take 24 = .ok (.iconst 0, 1) := by decide +kernel
theorem dX6_take_25 : decode cX6_take 25 = .ok (.ireturn, 1) := by decide +kernel
theorem dX6_take_26 : decode cX6_take 26 = .ok (.aload_n 0, 1) := by decide +kernel
theorem dX6_take_27 : decode cX6_take 27 = .ok (.dup, 1) := by decide +kernel
theorem dX6_take_28 : decode cX6_take 28 = .ok (.getfield 57, 3) := by decide +kernel
theorem dX6_take_31 : decode cX6_take 31 = .ok (.iconst 1, 1) := by decide +kernel
theorem dX6_take_32 : decode cX6_take 32 = .ok (.iadd, 1) := by decide +kernel
theorem dX6_take_33 : decode cX6_take 33 = .ok (.putfield 57, 3) := by decide +kernel
theorem dX6_take_36 : decode cX6_take 36 = .ok (.aload_n 0, 1) := by decide +kernel
theorem dX6_take_37 : decode cX6_take 37 = .ok (.invokevirtual 110, 3) := by decide +kernel
theorem dX6_take_40 : decode cX6_take 40 = .ok (.iconst 1, 1) := by decide +kernel
theorem dX6_take_41 : decode cX6_take 41 = .ok (.ireturn, 1) := by decide +kernel
theorem dX6_atLetter_0 : decode cX6_atLetter 0 = .ok (.aload_n 0, 1) := by decide +kernel
theorem dX6_atLetter_1 : decode cX6_atLetter 1 = .ok (.getfield 57, 3) := by decide +kernel
theorem dX6_atLetter_4 : decode cX6_atLetter 4 = .ok (.aload_n 0, 1) := by decide +kernel
theorem dX6_atLetter_5 : decode cX6_atLetter 5 = .ok (.getfield 50, 3) := by decide +kernel
theorem dX6_atLetter_8 : decode cX6_atLetter 8 = .ok (.if_icmp .ge 35, 3) := by decide +kernel
theorem dX6_atLetter_11 : decode cX6_atLetter 11 = .ok (.aload_n 0, 1) := by decide +kernel
theorem dX6_atLetter_12 : decode cX6_atLetter 12 = .ok (.getfield 9, 3) := by decide +kernel
theorem dX6_atLetter_15 : decode cX6_atLetter 15 = .ok (.aload_n 0, 1) := by decide +kernel
theorem dX6_atLetter_16 : decode cX6_atLetter 16 = .ok (.getfield 57, 3) := by decide +kernel
theorem dX6_atLetter_19 : decode cX6_atLetter 19 = .ok (.iaload, 1) := by decide +kernel
theorem dX6_atLetter_20 : decode cX6_atLetter 20 = .ok (.bipush 97, 2) := by decide +kernel
theorem dX6_atLetter_22 : decode cX6_atLetter 22 = .ok (.if_icmp .lt 21, 3) := by decide +kernel
theorem dX6_atLetter_25 : decode cX6_atLetter 25 = .ok (.aload_n 0, 1) := by decide +kernel
theorem dX6_atLetter_26 : decode cX6_atLetter 26 = .ok (.getfield 9, 3) := by decide +kernel
theorem dX6_atLetter_29 : decode cX6_atLetter 29 = .ok (.aload_n 0, 1) := by decide +kernel
theorem dX6_atLetter_30 : decode cX6_atLetter 30 = .ok (.getfield 57, 3) := by decide +kernel
theorem dX6_atLetter_33 : decode cX6_atLetter 33 = .ok (.iaload, 1) := by decide +kernel
theorem dX6_atLetter_34 : decode cX6_atLetter 34 = .ok (.bipush 122, 2) := by decide +kernel
theorem dX6_atLetter_36 : decode cX6_atLetter 36 = .ok (.if_icmp .gt 7, 3) := by decide +kernel
theorem dX6_atLetter_39 : decode cX6_atLetter 39 = .ok (.iconst 1, 1) := by decide +kernel
theorem dX6_atLetter_40 : decode cX6_atLetter 40 = .ok (.goto 4, 3) := by decide +kernel
theorem dX6_atLetter_43 : decode cX6_atLetter 43 = .ok (.iconst 0, 1) := by decide +kernel
theorem dX6_atLetter_44 : decode cX6_atLetter 44 = .ok (.ireturn, 1) := by decide +kernel
theorem dX6_skipBlanks_0 : decode cX6_skipBlanks 0 = .ok (.aload_n 0, 1) := by decide +kernel
theorem dX6_skipBlanks_1 : decode cX6_skipBlanks 1 = .ok (.getfield 57, 3) := by decide +kernel
theorem dX6_skipBlanks_4 : decode cX6_skipBlanks 4 = .ok (.aload_n 0, 1) := by decide +kernel
theorem dX6_skipBlanks_5 : decode cX6_skipBlanks 5 = .ok (.getfield 50, 3) := by decide +kernel
theorem dX6_skipBlanks_8 : decode cX6_skipBlanks 8 = .ok (.if_icmp .ge 30, 3) := by decide +kernel
theorem dX6_skipBlanks_11 : decode cX6_skipBlanks 11 = .ok (.aload_n 0, 1) := by decide +kernel
theorem dX6_skipBlanks_12 : decode cX6_skipBlanks 12 = .ok (.getfield 9, 3) := by decide +kernel
theorem dX6_skipBlanks_15 : decode cX6_skipBlanks 15 = .ok (.aload_n 0, 1) := by decide +kernel
theorem dX6_skipBlanks_16 : decode cX6_skipBlanks 16 = .ok (.getfield 57, 3) := by decide +kernel
theorem dX6_skipBlanks_19 : decode cX6_skipBlanks 19 = .ok (.iaload, 1) := by decide +kernel
theorem dX6_skipBlanks_20 : decode cX6_skipBlanks 20 = .ok (.bipush 32, 2) := by decide +kernel
theorem dX6_skipBlanks_22 : decode cX6_skipBlanks 22 = .ok (.if_icmp .ne 16, 3) := by decide +kernel
theorem dX6_skipBlanks_25 : decode cX6_skipBlanks 25 = .ok (.aload_n 0, 1) := by decide +kernel
theorem dX6_skipBlanks_26 : decode cX6_skipBlanks 26 = .ok (.dup, 1) := by decide +kernel
theorem dX6_skipBlanks_27 : decode cX6_skipBlanks 27 = .ok (.getfield 57, 3) := by decide +kernel
theorem dX6_skipBlanks_30 : decode cX6_skipBlanks 30 = .ok (.iconst 1, 1) := by decide +kernel
theorem dX6_skipBlanks_31 : decode cX6_skipBlanks 31 = .ok (.iadd, 1) := by decide +kernel
theorem dX6_skipBlanks_32 : decode cX6_skipBlanks 32 = .ok (.putfield 57, 3) := by decide +kernel
theorem dX6_skipBlanks_35 : decode cX6_skipBlanks 35 = .ok (.goto (-35), 3) := by decide +kernel
theorem dX6_skipBlanks_38 : decode cX6_skipBlanks 38 = .ok (.return_, 1) := by decide +kernel
theorem dX7_init_0 : decode cX7_init 0 = .ok (.aload_n 0, 1) := by decide +kernel
theorem dX7_init_1 : decode cX7_init 1 = .ok (.invokespecial 3, 3) := by decide +kernel
theorem dX7_init_4 : decode cX7_init 4 = .ok (.aload_n 0, 1) := by decide +kernel
theorem dX7_init_5 : decode cX7_init 5 = .ok (.sipush 7913, 3) := by decide +kernel
theorem dX7_init_8 : decode cX7_init 8 = .ok (.newarray .int, 2) := by decide +kernel
theorem dX7_init_10 : decode cX7_init 10 = .ok (.putfield 9, 3) := by decide +kernel
theorem dX7_init_13 : decode cX7_init 13 = .ok (.aload_n 0, 1) := by decide +kernel
theorem dX7_init_14 : decode cX7_init 14 = .ok (.sipush 7913, 3) := by decide +kernel
theorem dX7_init_17 : decode cX7_init 17 = .ok (.newarray .int, 2) := by decide +kernel
theorem dX7_init_19 : decode cX7_init 19 = .ok (.putfield 15, 3) := by decide +kernel
theorem dX7_init_22 : decode cX7_init 22 = .ok (.aload_n 0, 1) := by decide +kernel
theorem dX7_init_23 : decode cX7_init 23 = .ok (.sipush 7913, 3) := by decide +kernel
theorem dX7_init_26 : decode cX7_init 26 = .ok (.newarray .int, 2) := by decide +kernel
theorem dX7_init_28 : decode cX7_init 28 = .ok (.putfield 18, 3) := by decide +kernel
theorem dX7_init_31 : decode cX7_init 31 = .ok (.aload_n 0, 1) := by decide +kernel
theorem dX7_init_32 : decode cX7_init 32 = .ok (.sipush 7913, 3) := by decide +kernel
theorem dX7_init_35 : decode cX7_init 35 = .ok (.newarray .int, 2) := by decide +kernel
theorem dX7_init_37 : decode cX7_init 37 = .ok (.putfield 21, 3) := by decide +kernel
theorem dX7_init_40 : decode cX7_init 40 = .ok (.aload_n 0, 1) := by decide +kernel
theorem dX7_init_41 : decode cX7_init 41 = .ok (.bipush 7, 2) := by decide +kernel
theorem dX7_init_43 : decode cX7_init 43 = .ok (.newarray .int, 2) := by decide +kernel
theorem dX7_init_45 : decode cX7_init 45 = .ok (.putfield 24, 3) := by decide +kernel
theorem dX7_init_48 : decode cX7_init 48 = .ok (.aload_n 0, 1) := by decide +kernel
theorem dX7_init_49 : decode cX7_init 49 = .ok (.bipush 7, 2) := by decide +kernel
theorem dX7_init_51 : decode cX7_init 51 = .ok (.newarray .int, 2) := by decide +kernel
theorem dX7_init_53 : decode cX7_init 53 = .ok (.putfield 27, 3) := by decide +kernel
theorem dX7_init_56 : decode cX7_init 56 = .ok (.aload_n 0, 1) := by decide +kernel
theorem dX7_init_57 : decode cX7_init 57 = .ok (.bipush 40, 2) := by decide +kernel
theorem dX7_init_59 : decode cX7_init 59 = .ok (.newarray .long, 2) := by decide +kernel
theorem dX7_init_61 : decode cX7_init 61 = .ok (.putfield 30, 3) := by decide +kernel
theorem dX7_init_64 : decode cX7_init 64 = .ok (.aload_n 0, 1) := by decide +kernel
theorem dX7_init_65 : decode cX7_init 65 = .ok (.bipush 40, 2) := by decide +kernel
theorem dX7_init_67 : decode cX7_init 67 = .ok (.newarray .int, 2) := by decide +kernel
theorem dX7_init_69 : decode cX7_init 69 = .ok (.putfield 34, 3) := by decide +kernel
theorem dX7_init_72 : decode cX7_init 72 = .ok (.aload_n 0, 1) := by decide +kernel
theorem dX7_init_73 : decode cX7_init 73 = .ok (.bipush 6, 2) := by decide +kernel
theorem dX7_init_75 : decode cX7_init 75 = .ok (.newarray .int, 2) := by decide +kernel
theorem dX7_init_77 : decode cX7_init 77 = .ok (.putfield 37, 3) := by decide +kernel
theorem dX7_init_80 : decode cX7_init 80 = .ok (.aload_n 0, 1) := by decide +kernel
theorem dX7_init_81 : decode cX7_init 81 = .ok (.aload_n 1, 1) := by decide +kernel
theorem dX7_init_82 : decode cX7_init 82 = .ok (.putfield 40, 3) := by decide +kernel
theorem dX7_init_85 : decode cX7_init 85 = .ok (.aload_n 0, 1) := by decide +kernel
theorem dX7_init_86 : decode cX7_init 86 = .ok (.aload_n 2, 1) := by decide +kernel
theorem dX7_init_87 : decode cX7_init 87 = .ok (.putfield 44, 3) := by decide +kernel
theorem dX7_init_90 : decode cX7_init 90 = .ok (.aload_n 0, 1) := by decide +kernel
theorem dX7_init_91 : decode cX7_init 91 = .ok (.aload_n 3, 1) := by decide +kernel
theorem dX7_init_92 : decode cX7_init 92 = .ok (.putfield 48, 3) := by decide +kernel
theorem dX7_init_95 : decode cX7_init 95 = .ok (.return_, 1) := by decide +kernel
theorem dX7_fill_0 : decode cX7_fill 0 = .ok (.iconst 0, 1) := by decide +kernel
theorem dX7_fill_1 : decode cX7_fill 1 = .ok (.istore 4, 2) := by decide +kernel
theorem dX7_fill_3 : decode cX7_fill 3 = .ok (.iload 4, 2) := by decide +kernel
theorem dX7_fill_5 : decode cX7_fill 5 = .ok (.aload_n 0, 1) := by decide +kernel
theorem dX7_fill_6 : decode cX7_fill 6 = .ok (.getfield 44, 3) := by decide +kernel
theorem dX7_fill_9 : decode cX7_fill 9 = .ok (.getfield 52, 3) := by decide +kernel
theorem dX7_fill_12 : decode cX7_fill 12 = .ok (.if_icmp .ge 17, 3) := by decide +kernel
theorem dX7_fill_15 : decode cX7_fill 15 = .ok (.aload_n 0, 1) := by decide +kernel
theorem dX7_fill_16 : decode cX7_fill 16 = .ok (.getfield 15, 3) := by decide +kernel
theorem dX7_fill_19 : decode cX7_fill 19 = .ok (.iload 4, 2) := by decide +kernel
theorem dX7_fill_21 : decode cX7_fill 21 = .ok (.iconst (-1), 1) := by decide +kernel
theorem dX7_fill_22 : decode cX7_fill 22 = .ok (.iastore, 1) := by decide +kernel
theorem dX7_fill_23 : decode cX7_fill 23 = .ok (.iinc 4 1, 3) := by decide +kernel
theorem dX7_fill_26 : decode cX7_fill 26 = .ok (.goto (-23), 3) := by decide +kernel
theorem dX7_fill_29 : decode cX7_fill 29 = .ok (.aload_n 0, 1) := by decide +kernel
theorem dX7_fill_30 : decode cX7_fill 30 = .ok (.getfield 24, 3) := by decide +kernel
theorem dX7_fill_33 : decode cX7_fill 33 = .ok (.iconst 0, 1) := by decide +kernel
theorem dX7_fill_34 : decode cX7_fill 34 = .ok (.invokestatic 58, 3) := by decide +kernel
theorem dX7_fill_37 : decode cX7_fill 37 = .ok (.aload_n 0, 1) := by decide +kernel
theorem dX7_fill_38 : decode cX7_fill 38 = .ok (.getfield 27, 3) := by decide +kernel
theorem dX7_fill_41 : decode cX7_fill 41 = .ok (.iconst (-1), 1) := by decide +kernel
theorem dX7_fill_42 : decode cX7_fill 42 = .ok (.invokestatic 58, 3) := by decide +kernel
theorem dX7_fill_45 : decode cX7_fill 45 = .ok (.aload_n 0, 1) := by decide +kernel
theorem dX7_fill_46 : decode cX7_fill 46 = .ok (.iconst 0, 1) := by decide +kernel
theorem dX7_fill_47 : decode cX7_fill 47 = .ok (.putfield 64, 3) := by decide +kernel
theorem dX7_fill_50 : decode cX7_fill 50 = .ok (.aload_n 0, 1) := by decide +kernel
theorem dX7_fill_51 : decode cX7_fill 51 = .ok (.iconst 0, 1) := by decide +kernel
theorem dX7_fill_52 : decode cX7_fill 52 = .ok (.putfield 67, 3) := by decide +kernel
theorem dX7_fill_55 : decode cX7_fill 55 = .ok (.aload_n 0, 1) := by decide +kernel
theorem dX7_fill_56 : decode cX7_fill 56 = .ok (.iconst 0, 1) := by decide +kernel
theorem dX7_fill_57 : decode cX7_fill 57 = .ok (.putfield 70, 3) := by decide +kernel
theorem dX7_fill_60 : decode cX7_fill 60 = .ok (.aload_n 0, 1) := by decide +kernel
theorem dX7_fill_61 : decode cX7_fill 61 = .ok (.iconst 0, 1) := by decide +kernel
theorem dX7_fill_62 : decode cX7_fill 62 = .ok (.iconst 0, 1) := by decide +kernel
theorem dX7_fill_63 : decode cX7_fill 63 = .ok (.iconst (-1), 1) := by decide +kernel
theorem dX7_fill_64 : decode cX7_fill 64 = .ok (.iconst (-1), 1) := by decide +kernel
theorem dX7_fill_65 : decode cX7_fill 65 = .ok (.invokevirtual 73, 3) := by decide +kernel
theorem dX7_fill_68 : decode cX7_fill 68 = .ok (.iconst 0, 1) := by decide +kernel
theorem dX7_fill_69 : decode cX7_fill 69 = .ok (.istore 4, 2) := by decide +kernel
theorem dX7_fill_71 : decode cX7_fill 71 = .ok (.iload 4, 2) := by decide +kernel
theorem dX7_fill_73 : decode cX7_fill 73 = .ok (.aload_n 0, 1) := by decide +kernel
theorem dX7_fill_74 : decode cX7_fill 74 = .ok (.getfield 40, 3) := by decide +kernel
theorem dX7_fill_77 : decode cX7_fill 77 = .ok (.getfield 77, 3) := by decide +kernel
theorem dX7_fill_80 : decode cX7_fill 80 = .ok (.if_icmp .ge 68, 3) := by decide +kernel
theorem dX7_fill_83 : decode cX7_fill 83 = .ok (.aload_n 0, 1) := by decide +kernel
theorem dX7_fill_84 : decode cX7_fill 84 = .ok (.iload 4, 2) := by decide +kernel
theorem dX7_fill_86 : decode cX7_fill 86 = .ok (.iload_n 3, 1) := by decide +kernel
theorem dX7_fill_87 : decode cX7_fill 87 = .ok (.invokevirtual 82, 3) := by decide +kernel
theorem dX7_fill_90 : decode cX7_fill 90 = .ok (.aload_n 0, 1) := by decide +kernel
theorem dX7_fill_91 : decode cX7_fill 91 = .ok (.dup, 1) := by decide +kernel
theorem dX7_fill_92 : decode cX7_fill 92 = .ok (.getfield 70, 3) := by decide +kernel
theorem dX7_fill_95 : decode cX7_fill 95 = .ok (.aload_n 0, 1) := by decide +kernel
theorem dX7_fill_96 : decode cX7_fill 96 = .ok (.getfield 24, 3) := by decide +kernel
theorem dX7_fill_99 : decode cX7_fill 99 = .ok (.iload 4, 2) := by decide +kernel
theorem dX7_fill_101 : decode cX7_fill 101 = .ok (.iaload, 1) := by decide +kernel
theorem dX7_fill_102 : decode cX7_fill 102 = .ok (.aload_n 0, 1) := by decide +kernel
theorem dX7_fill_103 : decode cX7_fill 103 = .ok (.getfield 86, 3) := by decide +kernel
theorem dX7_fill_106 : decode cX7_fill 106 = .ok (.isub, 1) := by decide +kernel
theorem dX7_fill_107 : decode cX7_fill 107 = .ok (.iadd, 1) := by decide +kernel
theorem dX7_fill_108 : decode cX7_fill 108 = .ok (.putfield 70, 3) := by decide +kernel
theorem dX7_fill_111 : decode cX7_fill 111 = .ok (.iconst 0, 1) := by decide +kernel
theorem dX7_fill_112 : decode cX7_fill 112 = .ok (.istore 5, 2) := by decide +kernel
theorem dX7_fill_114 : decode cX7_fill 114 = .ok (.iload 5, 2) := by decide +kernel
theorem dX7_fill_116 : decode cX7_fill 116 = .ok (.aload_n 0, 1) := by decide +kernel
theorem dX7_fill_117 : decode cX7_fill 117 = .ok (.getfield 86, 3) := by decide +kernel
theorem dX7_fill_120 : decode cX7_fill 120 = .ok (.if_icmp .ge 22, 3) := by decide +kernel
theorem dX7_fill_123 : decode cX7_fill 123 = .ok (.aload_n 0, 1) := by decide +kernel
theorem dX7_fill_124 : decode cX7_fill 124 = .ok (.aload_n 0, 1) := by decide +kernel
theorem dX7_fill_125 : decode cX7_fill 125 = .ok (.getfield 34, 3) := by decide +kernel
theorem dX7_fill_128 : decode cX7_fill 128 = .ok (.iload 5, 2) := by decide +kernel
theorem dX7_fill_130 : decode cX7_fill 130 = .ok (.iaload, 1) := by decide +kernel
theorem dX7_fill_131 : decode cX7_fill 131 = .ok (.iload_n 1, 1) := by decide +kernel
theorem dX7_fill_132 : decode cX7_fill 132 = .ok (.iload_n 2, 1) := by decide +kernel
theorem dX7_fill_133 : decode cX7_fill 133 = .ok (.invokevirtual 89, 3) := by decide +kernel
theorem dX7_fill_136 : decode cX7_fill 136 = .ok (.iinc 5 1, 3) := by decide +kernel
theorem dX7_fill_139 : decode cX7_fill 139 = .ok (.goto (-25), 3) := by decide +kernel
theorem dX7_fill_142 : decode cX7_fill 142 = .ok (.iinc 4 1, 3) := by decide +kernel
theorem dX7_fill_145 : decode cX7_fill 145 = .ok (.goto (-74), 3) := by decide +kernel
theorem dX7_fill_148 : decode cX7_fill 148 = .ok (.aload_n 0, 1) := by decide +kernel
theorem dX7_fill_149 : decode cX7_fill 149 = .ok (.invokevirtual 93, 3) := by decide +kernel
theorem dX7_fill_152 : decode cX7_fill 152 = .ok (.return_, 1) := by decide +kernel
theorem dX7_lay_0 : decode cX7_lay 0 = .ok (.aload_n 0, 1) := by decide +kernel
theorem dX7_lay_1 : decode cX7_lay 1 = .ok (.getfield 44, 3) := by decide +kernel
theorem dX7_lay_4 : decode cX7_lay 4 = .ok (.iload_n 1, 1) := by decide +kernel
theorem dX7_lay_5 : decode cX7_lay 5 = .ok (.invokevirtual 96, 3) := by decide +kernel
theorem dX7_lay_8 : decode cX7_lay 8 = .ok (.invokestatic 100, 3) := by decide +kernel
theorem dX7_lay_11 : decode cX7_lay 11 = .ok (.istore 5, 2) := by decide +kernel
theorem dX7_lay_13 : decode cX7_lay 13 = .ok (.aload_n 0, 1) := by decide +kernel
theorem dX7_lay_14 : decode cX7_lay 14 = .ok (.getfield 15, 3) := by decide +kernel
theorem dX7_lay_17 : decode cX7_lay 17 = .ok (.iload_n 1, 1) := by decide +kernel
theorem dX7_lay_18 : decode cX7_lay 18 = .ok (.iaload, 1) := by decide +kernel
theorem dX7_lay_19 : decode cX7_lay 19 = .ok (.iconst (-1), 1) := by decide +kernel
theorem dX7_lay_20 : decode cX7_lay 20 = .ok (.if_icmp .eq 24, 3) := by decide +kernel
theorem dX7_lay_23 : decode cX7_lay 23 = .ok (.aload_n 0, 1) := by decide +kernel
theorem dX7_lay_24 : decode cX7_lay 24 = .ok (.dup, 1) := by decide +kernel
theorem dX7_lay_25 : decode cX7_lay 25 = .ok (.getfield 67, 3) := by decide +kernel
theorem dX7_lay_28 : decode cX7_lay 28 = .ok (.iconst 1, 1) := by decide +kernel
theorem dX7_lay_29 : decode cX7_lay 29 = .ok (.iadd, 1) := by decide +kernel
theorem dX7_lay_30 : decode cX7_lay 30 = .ok (.putfield 67, 3) := by decide +kernel
theorem dX7_lay_33 : decode cX7_lay 33 = .ok (.iload_n 2, 1) := by decide +kernel
theorem dX7_lay_34 : decode cX7_lay 34 = .ok (.aload_n 0, 1) := by decide +kernel
theorem dX7_lay_35 : decode cX7_lay 35 = .ok (.getfield 9, 3) := by decide +kernel
theorem dX7_lay_38 : decode cX7_lay 38 = .ok (.iload_n 1, 1) := by decide +kernel
theorem dX7_lay_39 : decode cX7_lay 39 = .ok (.iaload, 1) := by decide +kernel
theorem dX7_lay_40 : decode cX7_lay 40 = .ok (.if_icmp .lt 15, 3) := by decide +kernel
theorem dX7_lay_43 : decode cX7_lay 43 = .ok (.return_, 1) := by decide +kernel
theorem dX7_lay_44 : decode cX7_lay 44 = .ok (.aload_n 0, 1) := by decide +kernel
theorem dX7_lay_45 : decode cX7_lay 45 = .ok (.getfield 24, 3) := by decide +kernel
theorem dX7_lay_48 : decode cX7_lay 48 = .ok (.iload 5, 2) := by decide +kernel
theorem dX7_lay_50 : decode cX7_lay 50 = .ok (.dup2, 1) := by decide +kernel
theorem dX7_lay_51 : decode cX7_lay 51 = .ok (.iaload, 1) := by decide +kernel
theorem dX7_lay_52 : decode cX7_lay 52 = .ok (.iconst 1, 1) := by decide +kernel
theorem dX7_lay_53 : decode cX7_lay 53 = .ok (.iadd, 1) := by decide +kernel
theorem dX7_lay_54 : decode cX7_lay 54 = .ok (.iastore, 1) := by decide +kernel
theorem dX7_lay_55 : decode cX7_lay 55 = .ok (.aload_n 0, 1) := by decide +kernel
theorem dX7_lay_56 : decode cX7_lay 56 = .ok (.getfield 9, 3) := by decide +kernel
theorem dX7_lay_59 : decode cX7_lay 59 = .ok (.iload_n 1, 1) := by decide +kernel
theorem dX7_lay_60 : decode cX7_lay 60 = .ok (.iload_n 2, 1) := by decide +kernel
theorem dX7_lay_61 : decode cX7_lay 61 = .ok (.iastore, 1) := by decide +kernel
theorem dX7_lay_62 : decode cX7_lay 62 = .ok (.aload_n 0, 1) := by decide +kernel
theorem dX7_lay_63 : decode cX7_lay 63 = .ok (.getfield 15, 3) := by decide +kernel
theorem dX7_lay_66 : decode cX7_lay 66 = .ok (.iload_n 1, 1) := by decide +kernel
theorem dX7_lay_67 : decode cX7_lay 67 = .ok (.aload_n 0, 1) := by decide +kernel
theorem dX7_lay_68 : decode cX7_lay 68 = .ok (.getfield 64, 3) := by decide +kernel
theorem dX7_lay_71 : decode cX7_lay 71 = .ok (.iastore, 1) := by decide +kernel
theorem dX7_lay_72 : decode cX7_lay 72 = .ok (.aload_n 0, 1) := by decide +kernel
theorem dX7_lay_73 : decode cX7_lay 73 = .ok (.getfield 18, 3) := by decide +kernel
theorem dX7_lay_76 : decode cX7_lay 76 = .ok (.iload_n 1, 1) := by decide +kernel
theorem dX7_lay_77 : decode cX7_lay 77 = .ok (.iload_n 3, 1) := by decide +kernel
theorem dX7_lay_78 : decode cX7_lay 78 = .ok (.iastore, 1) := by decide +kernel
theorem dX7_lay_79 : decode cX7_lay 79 = .ok (.aload_n 0, 1) := by decide +kernel
theorem dX7_lay_80 : decode cX7_lay 80 = .ok (.getfield 21, 3) := by decide +kernel
theorem dX7_lay_83 : decode cX7_lay 83 = .ok (.iload_n 1, 1) := by decide +kernel
theorem dX7_lay_84 : decode cX7_lay 84 = .ok (.iload 4, 2) := by decide +kernel
theorem dX7_lay_86 : decode cX7_lay 86 = .ok (.iastore, 1) := by decide +kernel
theorem dX7_lay_87 : decode cX7_lay 87 = .ok (.aload_n 0, 1) := by decide +kernel
theorem dX7_lay_88 : decode cX7_lay 88 = .ok (.iload_n 1, 1) := by decide +kernel
theorem dX7_lay_89 : decode cX7_lay 89 = .ok (.invokevirtual 105, 3) := by decide +kernel
theorem dX7_lay_92 : decode cX7_lay 92 = .ok (.istore 6, 2) := by decide +kernel
theorem dX7_lay_94 : decode cX7_lay 94 = .ok (.aload_n 0, 1) := by decide +kernel
theorem dX7_lay_95 : decode cX7_lay 95 = .ok (.getfield 27, 3) := by decide +kernel
theorem dX7_lay_98 : decode cX7_lay 98 = .ok (.iload 5, 2) := by decide +kernel
theorem dX7_lay_100 : decode cX7_lay 100 = .ok (.aload_n 0, 1) := by decide +kernel
theorem dX7_lay_101 : decode cX7_lay 101 = .ok (.getfield 27, 3) := by decide +kernel
theorem dX7_lay_104 : decode cX7_lay 104 = .ok (.iload 5, 2) := by decide +kernel
theorem dX7_lay_106 : decode cX7_lay 106 = .ok (.iaload, 1) := by decide +kernel
theorem dX7_lay_107 : decode cX7_lay 107 = .ok (.iconst (-1), 1) := by decide +kernel
theorem dX7_lay_108 : decode cX7_lay 108 = .ok (.if_icmp .ne 8, 3) := by decide +kernel
theorem dX7_lay_111 : decode cX7_lay 111 = .ok (.iload 6, 2) := by decide +kernel
theorem dX7_lay_113 : decode cX7_lay 113 = .ok (.goto 15, 3) := by decide +kernel
theorem dX7_lay_116 : decode cX7_lay 116 = .ok (.aload_n 0, 1) := by decide +kernel
theorem dX7_lay_117 : decode cX7_lay 117 = .ok (.getfield 27, 3) := by decide +kernel
theorem dX7_lay_120 : decode cX7_lay 120 = .ok (.iload 5, 2) := by decide +kernel
theorem dX7_lay_122 : decode cX7_lay 122 = .ok (.iaload, 1) := by decide +kernel
theorem dX7_lay_123 : decode cX7_lay 123 = .ok (.iload 6, 2) := by decide +kernel
theorem dX7_lay_125 : decode cX7_lay 125 = .ok (.invokestatic 108, 3) := by decide +kernel
theorem dX7_lay_128 : decode cX7_lay 128 = .ok (.iastore, 1) := by decide +kernel
theorem dX7_lay_129 : decode cX7_lay 129 = .ok (.return_, 1) := by decide +kernel
theorem dX7_score_0 : decode cX7_score 0 = .ok (.aload_n 0, 1) := by decide +kernel
theorem dX7_score_1 : decode cX7_score 1 = .ok (.getfield 9, 3) := by decide +kernel
theorem dX7_score_4 : decode cX7_score 4 = .ok (.iload_n 1, 1) := by decide +kernel
theorem dX7_score_5 : decode cX7_score 5 = .ok (.iaload, 1) := by decide +kernel
theorem dX7_score_6 : decode cX7_score 6 = .ok (.aload_n 0, 1) := by decide +kernel
theorem dX7_score_7 : decode cX7_score 7 = .ok (.getfield 48, 3) := by decide +kernel
theorem dX7_score_10 : decode cX7_score 10 = .ok (.getfield 114, 3) := by decide +kernel
theorem dX7_score_13 : decode cX7_score 13 = .ok (.aload_n 0, 1) := by decide +kernel
theorem dX7_score_14 : decode cX7_score 14 = .ok (.getfield 44, 3) := by decide +kernel
theorem dX7_score_17 : decode cX7_score 17 = .ok (.iload_n 1, 1) := by decide +kernel
theorem dX7_score_18 : decode cX7_score 18 = .ok (.invokevirtual 96, 3) := by decide +kernel
theorem dX7_score_21 : decode cX7_score 21 = .ok (.iaload, 1) := by decide +kernel
theorem dX7_score_22 : decode cX7_score 22 = .ok (.iadd, 1) := by decide +kernel
theorem dX7_score_23 : decode cX7_score 23 = .ok (.ireturn, 1) := by decide +kernel
theorem dX7_choose_0 : decode cX7_choose 0 = .ok (.aload_n 0, 1) := by decide +kernel
theorem dX7_choose_1 : decode cX7_choose 1 = .ok (.iconst 0, 1) := by decide +kernel
theorem dX7_choose_2 : decode cX7_choose 2 = .ok (.putfield 86, 3) := by decide +kernel
theorem dX7_choose_5 : decode cX7_choose 5 = .ok (.aload_n 0, 1) := by decide +kernel
theorem dX7_choose_6 : decode cX7_choose 6 = .ok (.getfield 44, 3) := by decide +kernel
theorem dX7_choose_9 : decode cX7_choose 9 = .ok (.getfield 119, 3) := by decide +kernel
theorem dX7_choose_12 : decode cX7_choose 12 = .ok (.iload_n 1, 1) := by decide +kernel
theorem dX7_choose_13 : decode cX7_choose 13 = .ok (.iaload, 1) := by decide +kernel
theorem dX7_choose_14 : decode cX7_choose 14 = .ok (.istore_n 3, 1) := by decide +kernel
theorem dX7_choose_15 : decode cX7_choose 15 = .ok (.iload_n 3, 1) := by decide +kernel
theorem dX7_choose_16 : decode cX7_choose 16 = .ok (.aload_n 0, 1) := by decide +kernel
theorem dX7_choose_17 : decode cX7_choose 17 = .ok (.getfield 44, 3) := by decide +kernel
theorem dX7_choose_20 : decode cX7_choose 20 = .ok (.getfield 119, 3) := by decide +kernel
theorem dX7_choose_23 : decode cX7_choose 23 = .ok (.iload_n 1, 1) := by decide +kernel
theorem dX7_choose_24 : decode cX7_choose 24 = .ok (.iconst 1, 1) := by decide +kernel
theorem dX7_choose_25 : decode cX7_choose 25 = .ok (.iadd, 1) := by decide +kernel
theorem dX7_choose_26 : decode cX7_choose 26 = .ok (.iaload, 1) := by decide +kernel
theorem dX7_choose_27 : decode cX7_choose 27 = .ok (.if_icmp .ge 25, 3) := by decide +kernel
theorem dX7_choose_30 : decode cX7_choose 30 = .ok (.aload_n 0, 1) := by decide +kernel
theorem dX7_choose_31 : decode cX7_choose 31 = .ok (.getfield 15, 3) := by decide +kernel
theorem dX7_choose_34 : decode cX7_choose 34 = .ok (.iload_n 3, 1) := by decide +kernel
theorem dX7_choose_35 : decode cX7_choose 35 = .ok (.iaload, 1) := by decide +kernel
theorem dX7_choose_36 : decode cX7_choose 36 = .ok (.iconst (-1), 1) := by decide +kernel
theorem dX7_choose_37 : decode cX7_choose 37 = .ok (.if_icmp .eq 9, 3) := by decide +kernel
theorem dX7_choose_40 : decode cX7_choose 40 = .ok (.aload_n 0, 1) := by decide +kernel
theorem dX7_choose_41 : decode cX7_choose 41 = .ok (.iload_n 3, 1) := by decide +kernel
theorem dX7_choose_42 : decode cX7_choose 42 = .ok (.iload_n 2, 1) := by decide +kernel
theorem dX7_choose_43 : decode cX7_choose 43 = .ok (.invokevirtual 122, 3) := by decide +kernel
theorem dX7_choose_46 : decode cX7_choose 46 = .ok (.iinc 3 1, 3) := by decide +kernel
theorem dX7_choose_49 : decode cX7_choose 49 = .ok (.goto (-34), 3) := by decide +kernel
theorem dX7_choose_52 : decode cX7_choose 52 = .ok (.return_, 1) := by decide +kernel
theorem dX7_offer_0 : decode cX7_offer 0 = .ok (.aload_n 0, 1) := by decide +kernel
theorem dX7_offer_1 : decode cX7_offer 1 = .ok (.iload_n 1, 1) := by decide +kernel
theorem dX7_offer_2 : decode cX7_offer 2 = .ok (.invokevirtual 105, 3) := by decide +kernel
theorem dX7_offer_5 : decode cX7_offer 5 = .ok (.i2l, 1) := by decide +kernel
theorem dX7_offer_6 : decode cX7_offer 6 = .ok (.bipush 32, 2) := by decide +kernel
theorem dX7_offer_8 : decode cX7_offer 8 = .ok (.lshl, 1) := by decide +kernel
theorem dX7_offer_9 : decode cX7_offer 9 = .ok (.aload_n 0, 1) := by decide +kernel
theorem dX7_offer_10 : decode cX7_offer 10 = .ok (.getfield 15, 3) := by decide +kernel
theorem dX7_offer_13 : decode cX7_offer 13 = .ok (.iload_n 1, 1) := by decide +kernel
theorem dX7_offer_14 : decode cX7_offer 14 = .ok (.iaload, 1) := by decide +kernel
theorem dX7_offer_15 : decode cX7_offer 15 = .ok (.i2l, 1) := by decide +kernel
theorem dX7_offer_16 : decode cX7_offer 16 = .ok (.lor, 1) := by decide +kernel
theorem dX7_offer_17 : decode cX7_offer 17 = .ok (.lstore_n 3, 1) := by decide +kernel
theorem dX7_offer_18 : decode cX7_offer 18 = .ok (.aload_n 0, 1) := by decide +kernel
theorem dX7_offer_19 : decode cX7_offer 19 = .ok (.getfield 86, 3) := by decide +kernel
theorem dX7_offer_22 : decode cX7_offer 22 = .ok (.iload_n 2, 1) := by decide +kernel
theorem dX7_offer_23 : decode cX7_offer 23 = .ok (.if_icmp .ge 16, 3) := by decide +kernel
theorem dX7_offer_26 : decode cX7_offer 26 = .ok (.aload_n 0, 1) := by decide +kernel
theorem dX7_offer_27 : decode cX7_offer 27 = .ok (.dup, 1) := by decide +kernel
theorem dX7_offer_28 : decode cX7_offer 28 = .ok (.getfield 86, 3) := by decide +kernel
theorem dX7_offer_31 : decode cX7_offer 31 = .ok (.iconst 1, 1) := by decide +kernel
theorem dX7_offer_32 : decode cX7_offer 32 = .ok (.iadd, 1) := by decide +kernel
theorem dX7_offer_33 : decode cX7_offer 33 = .ok (.putfield 86, 3) := by decide +kernel
theorem dX7_offer_36 : decode cX7_offer 36 = .ok (.goto 17, 3) := by decide +kernel
theorem dX7_offer_39 : decode cX7_offer 39 = .ok (.lload_n 3, 1) := by decide +kernel
theorem dX7_offer_40 : decode cX7_offer 40 = .ok (.aload_n 0, 1) := by decide +kernel
theorem dX7_offer_41 : decode cX7_offer 41 = .ok (.getfield 30, 3) := by decide +kernel
theorem dX7_offer_44 : decode cX7_offer 44 = .ok (.iload_n 2, 1) := by decide +kernel
theorem dX7_offer_45 : decode cX7_offer 45 = .ok (.iconst 1, 1) := by decide +kernel
theorem dX7_offer_46 : decode cX7_offer 46 = .ok (.isub, 1) := by decide +kernel
theorem dX7_offer_47 : decode cX7_offer 47 = .ok (.laload, 1) := by decide +kernel
theorem dX7_offer_48 : decode cX7_offer 48 = .ok (.lcmp, 1) := by decide +kernel
theorem dX7_offer_49 : decode cX7_offer 49 = .ok (.ifCond .lt 4, 3) := by decide +kernel
theorem dX7_offer_52 : decode cX7_offer 52 = .ok (.return_, 1) := by decide +kernel
theorem dX7_offer_53 : decode cX7_offer 53 = .ok (.aload_n 0, 1) := by decide +kernel
theorem dX7_offer_54 : decode cX7_offer 54 = .ok (.getfield 86, 3) := by decide +kernel
theorem dX7_offer_57 : decode cX7_offer 57 = .ok (.iconst 1, 1) := by decide +kernel
theorem dX7_offer_58 : decode cX7_offer 58 = .ok (.isub, 1) := by decide +kernel
theorem dX7_offer_59 : decode cX7_offer 59 = .ok (.istore 5, 2) := by decide +kernel
theorem dX7_offer_61 : decode cX7_offer 61 = .ok (.iload 5, 2) := by decide +kernel
theorem dX7_offer_63 : decode cX7_offer 63 = .ok (.ifCond .le 55, 3) := by decide +kernel
theorem dX7_offer_66 : decode cX7_offer 66 = .ok (.aload_n 0, 1) := by decide +kernel
theorem dX7_offer_67 : decode cX7_offer 67 = .ok (.getfield 30, 3) := by decide +kernel
theorem dX7_offer_70 : decode cX7_offer 70 = .ok (.iload 5, 2) := by decide +kernel
theorem dX7_offer_72 : decode cX7_offer 72 = .ok (.iconst 1, 1) := by decide +kernel
theorem dX7_offer_73 : decode cX7_offer 73 = .ok (.isub, 1) := by decide +kernel
theorem dX7_offer_74 : decode cX7_offer 74 = .ok (.laload, 1) := by decide +kernel
theorem dX7_offer_75 : decode cX7_offer 75 = .ok (.lload_n 3, 1) := by decide +kernel
theorem dX7_offer_76 : decode cX7_offer 76 = .ok (.lcmp, 1) := by decide +kernel
theorem dX7_offer_77 : decode cX7_offer 77 = .ok (.ifCond .le 41, 3) := by decide +kernel
theorem dX7_offer_80 : decode cX7_offer 80 = .ok (.aload_n 0, 1) := by decide +kernel
theorem dX7_offer_81 : decode cX7_offer 81 = .ok (.getfield 30, 3) := by decide +kernel
theorem dX7_offer_84 : decode cX7_offer 84 = .ok (.iload 5, 2) := by decide +kernel
theorem dX7_offer_86 : decode cX7_offer 86 = .ok (.aload_n 0, 1) := by decide +kernel
theorem dX7_offer_87 : decode cX7_offer 87 = .ok (.getfield 30, 3) := by decide +kernel
theorem dX7_offer_90 : decode cX7_offer 90 = .ok (.iload 5, 2) := by decide +kernel
theorem dX7_offer_92 : decode cX7_offer 92 = .ok (.iconst 1, 1) := by decide +kernel
theorem dX7_offer_93 : decode cX7_offer 93 = .ok (.isub, 1) := by decide +kernel
theorem dX7_offer_94 : decode cX7_offer 94 = .ok (.laload, 1) := by decide +kernel
theorem dX7_offer_95 : decode cX7_offer 95 = .ok (.lastore, 1) := by decide +kernel
theorem dX7_offer_96 : decode cX7_offer 96 = .ok (.aload_n 0, 1) := by decide +kernel
theorem dX7_offer_97 : decode cX7_offer 97 = .ok (.getfield 34, 3) := by decide +kernel
theorem dX7_offer_100 : decode cX7_offer 100 = .ok (.iload 5, 2) := by decide +kernel
theorem dX7_offer_102 : decode cX7_offer 102 = .ok (.aload_n 0, 1) := by decide +kernel
theorem dX7_offer_103 : decode cX7_offer 103 = .ok (.getfield 34, 3) := by decide +kernel
theorem dX7_offer_106 : decode cX7_offer 106 = .ok (.iload 5, 2) := by decide +kernel
theorem dX7_offer_108 : decode cX7_offer 108 = .ok (.iconst 1, 1) := by decide +kernel
theorem dX7_offer_109 : decode cX7_offer 109 = .ok (.isub, 1) := by decide +kernel
theorem dX7_offer_110 : decode cX7_offer 110 = .ok (.iaload, 1) := by decide +kernel
theorem dX7_offer_111 : decode cX7_offer 111 = .ok (.iastore, 1) := by decide +kernel
theorem dX7_offer_112 : decode cX7_offer 112 = .ok (.iinc 5 (-1), 3) := by decide +kernel
theorem dX7_offer_115 : decode cX7_offer 115 = .ok (.goto (-54), 3) := by decide +kernel
theorem dX7_offer_118 : decode cX7_offer 118 = .ok (.aload_n 0, 1) := by decide +kernel
theorem dX7_offer_119 : decode cX7_offer 119 = .ok (.getfield 30, 3) := by decide +kernel
theorem dX7_offer_122 : decode cX7_offer 122 = .ok (.iload 5, 2) := by decide +kernel
theorem dX7_offer_124 : decode cX7_offer 124 = .ok (.lload_n 3, 1) := by decide +kernel
theorem dX7_offer_125 : decode cX7_offer 125 = .ok (.lastore, 1) := by decide +kernel
theorem dX7_offer_126 : decode cX7_offer 126 = .ok (.aload_n 0, 1) := by decide +kernel
theorem dX7_offer_127 : decode cX7_offer 127 = .ok (.getfield 34, 3) := by decide +kernel
theorem dX7_offer_130 : decode cX7_offer 130 = .ok (.iload 5, 2) := by decide +kernel
theorem dX7_offer_132 : decode cX7_offer 132 = .ok (.iload_n 1, 1) := by decide +kernel
theorem dX7_offer_133 : decode cX7_offer 133 = .ok (.iastore, 1) := by decide +kernel
theorem dX7_offer_134 : decode cX7_offer 134 = .ok (.return_, 1) := by decide +kernel
theorem dX7_goOn_0 : decode cX7_goOn 0 = .ok (.aload_n 0, 1) := by decide +kernel
theorem dX7_goOn_1 : decode cX7_goOn 1 = .ok (.getfield 44, 3) := by decide +kernel
theorem dX7_goOn_4 : decode cX7_goOn 4 = .ok (.iload_n 1, 1) := by decide +kernel
theorem dX7_goOn_5 : decode cX7_goOn 5 = .ok (.invokevirtual 96, 3) := by decide +kernel
theorem dX7_goOn_8 : decode cX7_goOn 8 = .ok (.istore 4, 2) := by decide +kernel
theorem dX7_goOn_10 : decode cX7_goOn 10 = .ok (.aload_n 0, 1) := by decide +kernel
theorem dX7_goOn_11 : decode cX7_goOn 11 = .ok (.getfield 44, 3) := by decide +kernel
theorem dX7_goOn_14 : decode cX7_goOn 14 = .ok (.iload_n 1, 1) := by decide +kernel
theorem dX7_goOn_15 : decode cX7_goOn 15 = .ok (.invokevirtual 125, 3) := by decide +kernel
theorem dX7_goOn_18 : decode cX7_goOn 18 = .ok (.istore 5, 2) := by decide +kernel
theorem dX7_goOn_20 : decode cX7_goOn 20 = .ok (.aload_n 0, 1) := by decide +kernel
theorem dX7_goOn_21 : decode cX7_goOn 21 = .ok (.getfield 44, 3) := by decide +kernel
theorem dX7_goOn_24 : decode cX7_goOn 24 = .ok (.iload_n 1, 1) := by decide +kernel
theorem dX7_goOn_25 : decode cX7_goOn 25 = .ok (.invokevirtual 128, 3) := by decide +kernel
theorem dX7_goOn_28 : decode cX7_goOn 28 = .ok (.istore 6, 2) := by decide +kernel
theorem dX7_goOn_30 : decode cX7_goOn 30 = .ok (.iconst 0, 1) := by decide +kernel
theorem dX7_goOn_31 : decode cX7_goOn 31 = .ok (.istore 7, 2) := by decide +kernel
theorem dX7_goOn_33 : decode cX7_goOn 33 = .ok (.iload 7, 2) := by decide +kernel
theorem dX7_goOn_35 : decode cX7_goOn 35 = .ok (.aload_n 0, 1) := by decide +kernel
theorem dX7_goOn_36 : decode cX7_goOn 36 = .ok (.getfield 40, 3) := by decide +kernel
theorem dX7_goOn_39 : decode cX7_goOn 39 = .ok (.getfield 131, 3) := by decide +kernel
theorem dX7_goOn_42 : decode cX7_goOn 42 = .ok (.if_icmp .ge 109, 3) := by decide +kernel
theorem dX7_goOn_45 : decode cX7_goOn 45 = .ok (.aload_n 0, 1) := by decide +kernel
theorem dX7_goOn_46 : decode cX7_goOn 46 = .ok (.getfield 40, 3) := by decide +kernel
theorem dX7_goOn_49 : decode cX7_goOn 49 = .ok (.iload 7, 2) := by decide +kernel
theorem dX7_goOn_51 : decode cX7_goOn 51 = .ok (.iload 5, 2) := by decide +kernel
theorem dX7_goOn_53 : decode cX7_goOn 53 = .ok (.invokevirtual 132, 3) := by decide +kernel
theorem dX7_goOn_56 : decode cX7_goOn 56 = .ok (.istore 8, 2) := by decide +kernel
theorem dX7_goOn_58 : decode cX7_goOn 58 = .ok (.iload 4, 2) := by decide +kernel
theorem dX7_goOn_60 : decode cX7_goOn 60 = .ok (.aload_n 0, 1) := by decide +kernel
theorem dX7_goOn_61 : decode cX7_goOn 61 = .ok (.getfield 40, 3) := by decide +kernel
theorem dX7_goOn_64 : decode cX7_goOn 64 = .ok (.getfield 135, 3) := by decide +kernel
theorem dX7_goOn_67 : decode cX7_goOn 67 = .ok (.iload 7, 2) := by decide +kernel
theorem dX7_goOn_69 : decode cX7_goOn 69 = .ok (.iaload, 1) := by decide +kernel
theorem dX7_goOn_70 : decode cX7_goOn 70 = .ok (.iand, 1) := by decide +kernel
theorem dX7_goOn_71 : decode cX7_goOn 71 = .ok (.ifCond .ne 74, 3) := by decide +kernel
theorem dX7_goOn_74 : decode cX7_goOn 74 = .ok (.iload 8, 2) := by decide +kernel
theorem dX7_goOn_76 : decode cX7_goOn 76 = .ok (.iload_n 3, 1) := by decide +kernel
theorem dX7_goOn_77 : decode cX7_goOn 77 = .ok (.if_icmp .le 6, 3) := by decide +kernel
theorem dX7_goOn_80 : decode cX7_goOn 80 = .ok (.goto 65, 3) := by decide +kernel
theorem dX7_goOn_83 : decode cX7_goOn 83 = .ok (.aload_n 0, 1) := by decide +kernel
theorem dX7_goOn_84 : decode cX7_goOn 84 = .ok (.getfield 44, 3) := by decide +kernel
theorem dX7_goOn_87 : decode cX7_goOn 87 = .ok (.iload 4, 2) := by decide +kernel
theorem dX7_goOn_89 : decode cX7_goOn 89 = .ok (.iload 6, 2) := by decide +kernel
theorem dX7_goOn_91 : decode cX7_goOn 91 = .ok (.iload 7, 2) := by decide +kernel
theorem dX7_goOn_93 : decode cX7_goOn 93 = .ok (.invokevirtual 138, 3) := by decide +kernel
theorem dX7_goOn_96 : decode cX7_goOn 96 = .ok (.istore 9, 2) := by decide +kernel
theorem dX7_goOn_98 : decode cX7_goOn 98 = .ok (.iload 9, 2) := by decide +kernel
theorem dX7_goOn_100 : decode cX7_goOn 100 = .ok (.ifCond .lt 45, 3) := by decide +kernel
theorem dX7_goOn_103 : decode cX7_goOn 103 = .ok (.aload_n 0, 1) := by decide +kernel
theorem dX7_goOn_104 : decode cX7_goOn 104 = .ok (.dup, 1) := by decide +kernel
theorem dX7_goOn_105 : decode cX7_goOn 105 = .ok (.getfield 64, 3) := by decide +kernel
theorem dX7_goOn_108 : decode cX7_goOn 108 = .ok (.iconst 1, 1) := by decide +kernel
theorem dX7_goOn_109 : decode cX7_goOn 109 = .ok (.iadd, 1) := by decide +kernel
theorem dX7_goOn_110 : decode cX7_goOn 110 = .ok (.putfield 64, 3) := by decide +kernel
theorem dX7_goOn_113 : decode cX7_goOn 113 = .ok (.aload_n 0, 1) := by decide +kernel
theorem dX7_goOn_114 : decode cX7_goOn 114 = .ok (.iload 9, 2) := by decide +kernel
theorem dX7_goOn_116 : decode cX7_goOn 116 = .ok (.aload_n 0, 1) := by decide +kernel
theorem dX7_goOn_117 : decode cX7_goOn 117 = .ok (.getfield 9, 3) := by decide +kernel
theorem dX7_goOn_120 : decode cX7_goOn 120 = .ok (.iload_n 1, 1) := by decide +kernel
theorem dX7_goOn_121 : decode cX7_goOn 121 = .ok (.iaload, 1) := by decide +kernel
theorem dX7_goOn_122 : decode cX7_goOn 122 = .ok (.aload_n 0, 1) := by decide +kernel
theorem dX7_goOn_123 : decode cX7_goOn 123 = .ok (.getfield 40, 3) := by decide +kernel
theorem dX7_goOn_126 : decode cX7_goOn 126 = .ok (.iload 7, 2) := by decide +kernel
theorem dX7_goOn_128 : decode cX7_goOn 128 = .ok (.iload 6, 2) := by decide +kernel
theorem dX7_goOn_130 : decode cX7_goOn 130 = .ok (.invokevirtual 142, 3) := by decide +kernel
theorem dX7_goOn_133 : decode cX7_goOn 133 = .ok (.iadd, 1) := by decide +kernel
theorem dX7_goOn_134 : decode cX7_goOn 134 = .ok (.iload_n 2, 1) := by decide +kernel
theorem dX7_goOn_135 : decode cX7_goOn 135 = .ok (.iload 8, 2) := by decide +kernel
theorem dX7_goOn_137 : decode cX7_goOn 137 = .ok (.imul, 1) := by decide +kernel
theorem dX7_goOn_138 : decode cX7_goOn 138 = .ok (.iadd, 1) := by decide +kernel
theorem dX7_goOn_139 : decode cX7_goOn 139 = .ok (.iload_n 1, 1) := by decide +kernel
theorem dX7_goOn_140 : decode cX7_goOn 140 = .ok (.iload 7, 2) := by decide +kernel
theorem dX7_goOn_142 : decode cX7_goOn 142 = .ok (.invokevirtual 73, 3) := by decide +kernel
theorem dX7_goOn_145 : decode cX7_goOn 145 = .ok (.iinc 7 1, 3) := by decide +kernel
theorem dX7_goOn_148 : decode cX7_goOn 148 = .ok (.goto (-115), 3) := by decide +kernel
theorem dX7_goOn_151 : decode cX7_goOn 151 = .ok (.return_, 1) := by decide +kernel
theorem dX7_find_0 : decode cX7_find 0 = .ok (.iconst (-1), 1) := by decide +kernel
theorem dX7_find_1 : decode cX7_find 1 = .ok (.istore_n 1, 1) := by decide +kernel
theorem dX7_find_2 : decode cX7_find 2 = .ok (.aload_n 0, 1) := by decide +kernel
theorem dX7_find_3 : decode cX7_find 3 = .ok (.iconst (-1), 1) := by decide +kernel
theorem dX7_find_4 : decode cX7_find 4 = .ok (.putfield 145, 3) := by decide +kernel
theorem dX7_find_7 : decode cX7_find 7 = .ok (.aload_n 0, 1) := by decide +kernel
theorem dX7_find_8 : decode cX7_find 8 = .ok (.getfield 44, 3) := by decide +kernel
theorem dX7_find_11 : decode cX7_find 11 = .ok (.getfield 119, 3) := by decide +kernel
theorem dX7_find_14 : decode cX7_find 14 = .ok (.aload_n 0, 1) := by decide +kernel
theorem dX7_find_15 : decode cX7_find 15 = .ok (.getfield 40, 3) := by decide +kernel
theorem dX7_find_18 : decode cX7_find 18 = .ok (.getfield 77, 3) := by decide +kernel
theorem dX7_find_21 : decode cX7_find 21 = .ok (.iaload, 1) := by decide +kernel
theorem dX7_find_22 : decode cX7_find 22 = .ok (.istore_n 2, 1) := by decide +kernel
theorem dX7_find_23 : decode cX7_find 23 = .ok (.iload_n 2, 1) := by decide +kernel
theorem dX7_find_24 : decode cX7_find 24 = .ok (.aload_n 0, 1) := by decide +kernel
theorem dX7_find_25 : decode cX7_find 25 = .ok (.getfield 44, 3) := by decide +kernel
theorem dX7_find_28 : decode cX7_find 28 = .ok (.getfield 52, 3) := by decide +kernel
theorem dX7_find_31 : decode cX7_find 31 = .ok (.if_icmp .ge 88, 3) := by decide +kernel
theorem dX7_find_34 : decode cX7_find 34 = .ok (.aload_n 0, 1) := by decide +kernel
theorem dX7_find_35 : decode cX7_find 35 = .ok (.getfield 15, 3) := by decide +kernel
theorem dX7_find_38 : decode cX7_find 38 = .ok (.iload_n 2, 1) := by decide +kernel
theorem dX7_find_39 : decode cX7_find 39 = .ok (.iaload, 1) := by decide +kernel
theorem dX7_find_40 : decode cX7_find 40 = .ok (.iconst (-1), 1) := by decide +kernel
theorem dX7_find_41 : decode cX7_find 41 = .ok (.if_icmp .ne 6, 3) := by decide +kernel
theorem dX7_find_44 : decode cX7_find 44 = .ok (.goto 69, 3) := by decide +kernel
theorem dX7_find_47 : decode cX7_find 47 = .ok (.aload_n 0, 1) := by decide +kernel
theorem dX7_find_48 : decode cX7_find 48 = .ok (.getfield 9, 3) := by decide +kernel
theorem dX7_find_51 : decode cX7_find 51 = .ok (.iload_n 2, 1) := by decide +kernel
theorem dX7_find_52 : decode cX7_find 52 = .ok (.iaload, 1) := by decide +kernel
theorem dX7_find_53 : decode cX7_find 53 = .ok (.aload_n 0, 1) := by decide +kernel
theorem dX7_find_54 : decode cX7_find 54 = .ok (.getfield 40, 3) := by decide +kernel
theorem dX7_find_57 : decode cX7_find 57 = .ok (.aload_n 0, 1) := by decide +kernel
theorem dX7_find_58 : decode cX7_find 58 = .ok (.getfield 44, 3) := by decide +kernel
theorem dX7_find_61 : decode cX7_find 61 = .ok (.iload_n 2, 1) := by decide +kernel
theorem dX7_find_62 : decode cX7_find 62 = .ok (.invokevirtual 128, 3) := by decide +kernel
theorem dX7_find_65 : decode cX7_find 65 = .ok (.invokevirtual 148, 3) := by decide +kernel
theorem dX7_find_68 : decode cX7_find 68 = .ok (.iadd, 1) := by decide +kernel
theorem dX7_find_69 : decode cX7_find 69 = .ok (.istore_n 3, 1) := by decide +kernel
theorem dX7_find_70 : decode cX7_find 70 = .ok (.iload_n 1, 1) := by decide +kernel
theorem dX7_find_71 : decode cX7_find 71 = .ok (.iconst (-1), 1) := by decide +kernel
theorem dX7_find_72 : decode cX7_find 72 = .ok (.if_icmp .eq 34, 3) := by decide +kernel
theorem dX7_find_75 : decode cX7_find 75 = .ok (.iload_n 3, 1) := by decide +kernel
theorem dX7_find_76 : decode cX7_find 76 = .ok (.aload_n 0, 1) := by decide +kernel
theorem dX7_find_77 : decode cX7_find 77 = .ok (.getfield 145, 3) := by decide +kernel
theorem dX7_find_80 : decode cX7_find 80 = .ok (.if_icmp .lt 26, 3) := by decide +kernel
theorem dX7_find_83 : decode cX7_find 83 = .ok (.iload_n 3, 1) := by decide +kernel
theorem dX7_find_84 : decode cX7_find 84 = .ok (.aload_n 0, 1) := by decide +kernel
theorem dX7_find_85 : decode cX7_find 85 = .ok (.getfield 145, 3) := by decide +kernel
theorem dX7_find_88 : decode cX7_find 88 = .ok (.if_icmp .ne 25, 3) := by decide +kernel
theorem dX7_find_91 : decode cX7_find 91 = .ok (.aload_n 0, 1) := by decide +kernel
theorem dX7_find_92 : decode cX7_find 92 = .ok (.getfield 15, 3) := by decide +kernel
theorem dX7_find_95 : decode cX7_find 95 = .ok (.iload_n 2, 1) := by decide +kernel
theorem dX7_find_96 : decode cX7_find 96 = .ok (.iaload, 1) := by decide +kernel
theorem dX7_find_97 : decode cX7_find 97 = .ok (.aload_n 0, 1) := by decide +kernel
theorem dX7_find_98 : decode cX7_find 98 = .ok (.getfield 15, 3) := by decide +kernel
theorem dX7_find_101 : decode cX7_find 101 = .ok (.iload_n 1, 1) := by decide +kernel
theorem dX7_find_102 : decode cX7_find 102 = .ok (.iaload, 1) := by decide +kernel
theorem dX7_find_103 : decode cX7_find 103 = .ok (.if_icmp .ge 10, 3) := by decide +kernel
theorem dX7_find_106 : decode cX7_find 106 = .ok (.iload_n 2, 1) := by decide +kernel
theorem dX7_find_107 : decode cX7_find 107 = .ok (.istore_n 1, 1) := by decide +kernel
theorem dX7_find_108 : decode cX7_find 108 = .ok (.aload_n 0, 1) := by decide +kernel
theorem dX7_find_109 : decode cX7_find 109 = .ok (.iload_n 3, 1) := by decide +kernel
theorem dX7_find_110 : decode cX7_find 110 = .ok (.putfield 145, 3) := by decide +kernel
theorem dX7_find_113 : decode cX7_find 113 = .ok (.iinc 2 1, 3) := by decide +kernel
theorem dX7_find_116 : decode cX7_find 116 = .ok (.goto (-93), 3) := by decide +kernel
theorem dX7_find_119 : decode cX7_find 119 = .ok (.aload_n 0, 1) := by decide +kernel
theorem dX7_find_120 : decode cX7_find 120 = .ok (.iload_n 1, 1) := by decide +kernel
theorem dX7_find_121 : decode cX7_find 121 = .ok (.invokevirtual 151, 3) := by decide +kernel
theorem dX7_find_124 : decode cX7_find 124 = .ok (.return_, 1) := by decide +kernel
theorem dX7_tracePath_0 : decode cX7_tracePath 0 = .ok (.aload_n 0, 1) := by decide +kernel
theorem dX7_tracePath_1 : decode cX7_tracePath 1 = .ok (.iconst 0, 1) := by decide +kernel
theorem dX7_tracePath_2 : decode cX7_tracePath 2 = .ok (.putfield 155, 3) := by decide +kernel
theorem dX7_tracePath_5 : decode cX7_tracePath 5 = .ok (.iload_n 1, 1) := by decide +kernel
theorem dX7_tracePath_6 : decode cX7_tracePath 6 = .ok (.istore_n 2, 1) := by decide +kernel
theorem dX7_tracePath_7 : decode cX7_tracePath 7 = .ok (.aload_n 0, 1) := by decide +kernel
theorem dX7_tracePath_8 : decode cX7_tracePath 8 = .ok (.getfield 155, 3) := by decide +kernel
theorem dX7_tracePath_11 : decode cX7_tracePath 11 = .ok (.bipush 6, 2) := by decide +kernel
theorem dX7_tracePath_13 : decode cX7_tracePath 13 = .ok (.if_icmp .ge 38, 3) := by decide +kernel
theorem dX7_tracePath_16 : decode cX7_tracePath 16 = .ok (.iload_n 2, 1) := by decide +kernel
theorem dX7_tracePath_17 : decode cX7_tracePath 17 = .ok (.iconst (-1), 1) := by decide +kernel
theorem dX7_tracePath_18 : decode cX7_tracePath 18 = .ok (.if_icmp .eq 33, 3) := by decide +kernel
theorem dX7_tracePath_21 : decode cX7_tracePath 21 = .ok (.aload_n 0, 1) := by decide +kernel
theorem dX7_tracePath_22 : decode cX7_tracePath 22 = .ok (.getfield 21, 3) := by decide +kernel
theorem dX7_tracePath_25 : decode cX7_tracePath 25 = .ok (.iload_n 2, 1) := by decide +kernel
theorem dX7_tracePath_26 : decode cX7_tracePath 26 = .ok (.iaload, 1) := by decide +kernel
theorem dX7_tracePath_27 : decode cX7_tracePath 27 = .ok (.iconst (-1), 1) := by decide +kernel
theorem dX7_tracePath_28 : decode cX7_tracePath 28 = .ok (.if_icmp .eq 23, 3) := by decide +kernel
theorem dX7_tracePath_31 : decode cX7_tracePath 31 = .ok (.aload_n 0, 1) := by decide +kernel
theorem dX7_tracePath_32 : decode cX7_tracePath 32 = .ok (.dup, 1) := by decide +kernel
theorem dX7_tracePath_33 : decode cX7_tracePath 33 = .ok (.getfield 155, 3) := by decide +kernel
theorem dX7_tracePath_36 : decode cX7_tracePath 36 = .ok (.iconst 1, 1) := by decide +kernel
theorem dX7_tracePath_37 : decode cX7_tracePath 37 = .ok (.iadd, 1) := by decide +kernel
theorem dX7_tracePath_38 : decode cX7_tracePath 38 = .ok (.putfield 155, 3) := by decide +kernel
theorem dX7_tracePath_41 : decode cX7_tracePath 41 = .ok (.aload_n 0, 1) := by decide +kernel
theorem dX7_tracePath_42 : decode cX7_tracePath 42 = .ok (.getfield 18, 3) := by decide +kernel
theorem dX7_tracePath_45 : decode cX7_tracePath 45 = .ok (.iload_n 2, 1) := by decide +kernel
theorem dX7_tracePath_46 : decode cX7_tracePath 46 = .ok (.iaload, 1) := by decide +kernel
theorem dX7_tracePath_47 : decode cX7_tracePath 47 = .ok (.istore_n 2, 1) := by decide +kernel
theorem dX7_tracePath_48 : decode cX7_tracePath 48 = .ok (.goto (-41), 3) := by decide +kernel
theorem dX7_tracePath_51 : decode cX7_tracePath 51 = .ok (.iload_n 1, 1) := by decide +kernel
theorem dX7_tracePath_52 : decode cX7_tracePath 52 = .ok (.istore_n 2, 1) := by decide +kernel
theorem dX7_tracePath_53 : decode cX7_tracePath 53 = .ok (.aload_n 0, 1) := by decide +kernel
theorem dX7_tracePath_54 : decode cX7_tracePath 54 = .ok (.getfield 155, 3) := by decide +kernel
theorem dX7_tracePath_57 : decode cX7_tracePath 57 = .ok (.iconst 1, 1) := by decide +kernel
theorem dX7_tracePath_58 : decode cX7_tracePath 58 = .ok (.isub, 1) := by decide +kernel
theorem dX7_tracePath_59 : decode cX7_tracePath 59 = .ok (.istore_n 3, 1) := by decide +kernel
theorem dX7_tracePath_60 : decode cX7_tracePath 60 = .ok (.iload_n 3, 1) := by decide +kernel
theorem dX7_tracePath_61 : decode cX7_tracePath 61 = .ok (.ifCond .lt 28, 3) := by decide +kernel
theorem dX7_tracePath_64 : decode cX7_tracePath 64 = .ok (.aload_n 0, 1) := by decide +kernel
theorem dX7_tracePath_65 : decode cX7_tracePath 65 = .ok (.getfield 37, 3) := by decide +kernel
theorem dX7_tracePath_68 : decode cX7_tracePath 68 = .ok (.iload_n 3, 1) := by decide +kernel
theorem dX7_tracePath_69 : decode cX7_tracePath 69 = .ok (.aload_n 0, 1) := by decide +kernel
theorem dX7_tracePath_70 : decode cX7_tracePath 70 = .ok (.getfield 21, 3) := by decide +kernel
theorem dX7_tracePath_73 : decode cX7_tracePath 73 = .ok (.iload_n 2, 1) := by decide +kernel
theorem dX7_tracePath_74 : decode cX7_tracePath 74 = .ok (.iaload, 1) := by decide +kernel
theorem dX7_tracePath_75 : decode cX7_tracePath 75 = .ok (.iastore, 1) := by decide +kernel
theorem dX7_tracePath_76 : decode cX7_tracePath 76 = .ok (.aload_n 0, 1) := by decide +kernel
theorem dX7_tracePath_77 : decode cX7_tracePath 77 = .ok (.getfield 18, 3) := by decide +kernel
theorem dX7_tracePath_80 : decode cX7_tracePath 80 = .ok (.iload_n 2, 1) := by decide +kernel
theorem dX7_tracePath_81 : decode cX7_tracePath 81 = .ok (.iaload, 1) := by decide +kernel
theorem dX7_tracePath_82 : decode cX7_tracePath 82 = .ok (.istore_n 2, 1) := by decide +kernel
theorem dX7_tracePath_83 : decode cX7_tracePath 83 = .ok (.iinc 3 (-1), 3) := by decide +kernel
theorem dX7_tracePath_86 : decode cX7_tracePath 86 = .ok (.goto (-26), 3) := by decide +kernel
theorem dX7_tracePath_89 : decode cX7_tracePath 89 = .ok (.return_, 1) := by decide +kernel
theorem dX8_init_0 : decode cX8_init 0 = .ok (.aload_n 0, 1) := by decide +kernel
theorem dX8_init_1 : decode cX8_init 1 = .ok (.invokespecial 3, 3) := by decide +kernel
theorem dX8_init_4 : decode cX8_init 4 = .ok (.aload_n 0, 1) := by decide +kernel
theorem dX8_init_5 : decode cX8_init 5 = .ok (.bipush 36, 2) := by decide +kernel
theorem dX8_init_7 : decode cX8_init 7 = .ok (.newarray .int, 2) := by decide +kernel
theorem dX8_init_9 : decode cX8_init 9 = .ok (.putfield 9, 3) := by decide +kernel
theorem dX8_init_12 : decode cX8_init 12 = .ok (.aload_n 0, 1) := by decide +kernel
theorem dX8_init_13 : decode cX8_init 13 = .ok (.bipush 64, 2) := by decide +kernel
theorem dX8_init_15 : decode cX8_init 15 = .ok (.newarray .int, 2) := by decide +kernel
theorem dX8_init_17 : decode cX8_init 17 = .ok (.putfield 15, 3) := by decide +kernel
theorem dX8_init_20 : decode cX8_init 20 = .ok (.aload_n 0, 1) := by decide +kernel
theorem dX8_init_21 : decode cX8_init 21 = .ok (.aload_n 1, 1) := by decide +kernel
theorem dX8_init_22 : decode cX8_init 22 = .ok (.putfield 18, 3) := by decide +kernel
theorem dX8_init_25 : decode cX8_init 25 = .ok (.return_, 1) := by decide +kernel
theorem dX8_reckon_0 : decode cX8_reckon 0 = .ok (.aload_n 0, 1) := by decide +kernel
theorem dX8_reckon_1 : decode cX8_reckon 1 = .ok (.getfield 9, 3) := by decide +kernel
theorem dX8_reckon_4 : decode cX8_reckon 4 = .ok (.ldc 22, 2) := by decide +kernel
theorem dX8_reckon_6 : decode cX8_reckon 6 = .ok (.invokestatic 23, 3) := by decide +kernel
theorem dX8_reckon_9 : decode cX8_reckon 9 = .ok (.iconst 0, 1) := by decide +kernel
theorem dX8_reckon_10 : decode cX8_reckon 10 = .ok (.istore_n 1, 1) := by decide +kernel
theorem dX8_reckon_11 : decode cX8_reckon 11 = .ok (.iload_n 1, 1) := by decide +kernel
theorem dX8_reckon_12 : decode cX8_reckon 12 = .ok (.aload_n 0, 1) := by decide +kernel
theorem dX8_reckon_13 : decode cX8_reckon 13 = .ok (.getfield 18, 3) := by decide +kernel
theorem dX8_reckon_16 : decode cX8_reckon 16 = .ok (.getfield 29, 3) := by decide +kernel
theorem dX8_reckon_19 : decode cX8_reckon 19 = .ok (.if_icmp .ge 58, 3) := by decide +kernel
theorem dX8_reckon_22 : decode cX8_reckon 22 = .ok (.aload_n 0, 1) := by decide +kernel
theorem dX8_reckon_23 : decode cX8_reckon 23 = .ok (.getfield 18, 3) := by decide +kernel
theorem dX8_reckon_26 : decode cX8_reckon 26 = .ok (.getfield 35, 3) := by decide +kernel
theorem dX8_reckon_29 : decode cX8_reckon 29 = .ok (.iload_n 1, 1) := by decide +kernel
theorem dX8_reckon_30 : decode cX8_reckon 30 = .ok (.iaload, 1) := by decide +kernel
theorem dX8_reckon_31 : decode cX8_reckon 31 = .ok (.bipush 6, 2) := by decide +kernel
theorem dX8_reckon_33 : decode cX8_reckon 33 = .ok (.imul, 1) := by decide +kernel
theorem dX8_reckon_34 : decode cX8_reckon 34 = .ok (.aload_n 0, 1) := by decide +kernel
theorem dX8_reckon_35 : decode cX8_reckon 35 = .ok (.getfield 18, 3) := by decide +kernel
theorem dX8_reckon_38 : decode cX8_reckon 38 = .ok (.getfield 38, 3) := by decide +kernel
theorem dX8_reckon_41 : decode cX8_reckon 41 = .ok (.iload_n 1, 1) := by decide +kernel
theorem dX8_reckon_42 : decode cX8_reckon 42 = .ok (.iaload, 1) := by decide +kernel
theorem dX8_reckon_43 : decode cX8_reckon 43 = .ok (.iadd, 1) := by decide +kernel
theorem dX8_reckon_44 : decode cX8_reckon 44 = .ok (.iconst 1, 1) := by decide +kernel
theorem dX8_reckon_45 : decode cX8_reckon 45 = .ok (.isub, 1) := by decide +kernel
theorem dX8_reckon_46 : decode cX8_reckon 46 = .ok (.istore_n 2, 1) := by decide +kernel
theorem dX8_reckon_47 : decode cX8_reckon 47 = .ok (.aload_n 0, 1) := by decide +kernel
theorem dX8_reckon_48 : decode cX8_reckon 48 = .ok (.getfield 9, 3) := by decide +kernel
theorem dX8_reckon_51 : decode cX8_reckon 51 = .ok (.iload_n 2, 1) := by decide +kernel
theorem dX8_reckon_52 : decode cX8_reckon 52 = .ok (.aload_n 0, 1) := by decide +kernel
theorem dX8_reckon_53 : decode cX8_reckon 53 = .ok (.getfield 9, 3) := by decide +kernel
theorem dX8_reckon_56 : decode cX8_reckon 56 = .ok (.iload_n 2, 1) := by decide +kernel
theorem dX8_reckon_57 : decode cX8_reckon 57 = .ok (.iaload, 1) := by decide +kernel
theorem dX8_reckon_58 : decode cX8_reckon 58 = .ok (.aload_n 0, 1) := by decide +kernel
theorem dX8_reckon_59 : decode cX8_reckon 59 = .ok (.getfield 18, 3) := by decide +kernel
theorem dX8_reckon_62 : decode cX8_reckon 62 = .ok (.getfield 41, 3) := by decide +kernel
theorem dX8_reckon_65 : decode cX8_reckon 65 = .ok (.iload_n 1, 1) := by decide +kernel
theorem dX8_reckon_66 : decode cX8_reckon 66 = .ok (.iaload, 1) := by decide +kernel
theorem dX8_reckon_67 : decode cX8_reckon 67 = .ok (.invokestatic 44, 3) := by decide +kernel
theorem dX8_reckon_70 : decode cX8_reckon 70 = .ok (.iastore, 1) := by decide +kernel
theorem dX8_reckon_71 : decode cX8_reckon 71 = .ok (.iinc 1 1, 3) := by decide +kernel
theorem dX8_reckon_74 : decode cX8_reckon 74 = .ok (.goto (-63), 3) := by decide +kernel
theorem dX8_reckon_77 : decode cX8_reckon 77 = .ok (.iconst 2, 1) := by decide +kernel
theorem dX8_reckon_78 : decode cX8_reckon 78 = .ok (.istore_n 1, 1) := by decide +kernel
theorem dX8_reckon_79 : decode cX8_reckon 79 = .ok (.iload_n 1, 1) := by decide +kernel
theorem dX8_reckon_80 : decode cX8_reckon 80 = .ok (.aload_n 0, 1) := by decide +kernel
theorem dX8_reckon_81 : decode cX8_reckon 81 = .ok (.getfield 18, 3) := by decide +kernel
theorem dX8_reckon_84 : decode cX8_reckon 84 = .ok (.getfield 50, 3) := by decide +kernel
theorem dX8_reckon_87 : decode cX8_reckon 87 = .ok (.if_icmp .gt 40, 3) := by decide +kernel
theorem dX8_reckon_90 : decode cX8_reckon 90 = .ok (.iconst 0, 1) := by decide +kernel
theorem dX8_reckon_91 : decode cX8_reckon 91 = .ok (.istore_n 2, 1) := by decide +kernel
theorem dX8_reckon_92 : decode cX8_reckon 92 = .ok (.iload_n 2, 1) := by decide +kernel
theorem dX8_reckon_93 : decode cX8_reckon 93 = .ok (.iload_n 1, 1) := by decide +kernel
theorem dX8_reckon_94 : decode cX8_reckon 94 = .ok (.iadd, 1) := by decide +kernel
theorem dX8_reckon_95 : decode cX8_reckon 95 = .ok (.aload_n 0, 1) := by decide +kernel
theorem dX8_reckon_96 : decode cX8_reckon 96 = .ok (.getfield 18, 3) := by decide +kernel
theorem dX8_reckon_99 : decode cX8_reckon 99 = .ok (.getfield 50, 3) := by decide +kernel
theorem dX8_reckon_102 : decode cX8_reckon 102 = .ok (.if_icmp .gt 19, 3) := by decide +kernel
theorem dX8_reckon_105 : decode cX8_reckon 105 = .ok (.aload_n 0, 1) := by decide +kernel
theorem dX8_reckon_106 : decode cX8_reckon 106 = .ok (.iload_n 2, 1) := by decide +kernel
theorem dX8_reckon_107 : decode cX8_reckon 107 = .ok (.iload_n 2, 1) := by decide +kernel
theorem dX8_reckon_108 : decode cX8_reckon 108 = .ok (.iload_n 1, 1) := by decide +kernel
theorem dX8_reckon_109 : decode cX8_reckon 109 = .ok (.iadd, 1) := by decide +kernel
theorem dX8_reckon_110 : decode cX8_reckon 110 = .ok (.iconst 1, 1) := by decide +kernel
theorem dX8_reckon_111 : decode cX8_reckon 111 = .ok (.isub, 1) := by decide +kernel
theorem dX8_reckon_112 : decode cX8_reckon 112 = .ok (.invokevirtual 53, 3) := by decide +kernel
theorem dX8_reckon_115 : decode cX8_reckon 115 = .ok (.iinc 2 1, 3) := by decide +kernel
theorem dX8_reckon_118 : decode cX8_reckon 118 = .ok (.goto (-26), 3) := by decide +kernel
theorem dX8_reckon_121 : decode cX8_reckon 121 = .ok (.iinc 1 1, 3) := by decide +kernel
theorem dX8_reckon_124 : decode cX8_reckon 124 = .ok (.goto (-45), 3) := by decide +kernel
theorem dX8_reckon_127 : decode cX8_reckon 127 = .ok (.iconst 0, 1) := by decide +kernel
theorem dX8_reckon_128 : decode cX8_reckon 128 = .ok (.istore_n 1, 1) := by decide +kernel
theorem dX8_reckon_129 : decode cX8_reckon 129 = .ok (.iload_n 1, 1) := by decide +kernel
theorem dX8_reckon_130 : decode cX8_reckon 130 = .ok (.aload_n 0, 1) := by decide +kernel
theorem dX8_reckon_131 : decode cX8_reckon 131 = .ok (.getfield 18, 3) := by decide +kernel
theorem dX8_reckon_134 : decode cX8_reckon 134 = .ok (.invokevirtual 57, 3) := by decide +kernel
theorem dX8_reckon_137 : decode cX8_reckon 137 = .ok (.if_icmp .gt 20, 3) := by decide +kernel
theorem dX8_reckon_140 : decode cX8_reckon 140 = .ok (.aload_n 0, 1) := by decide +kernel
theorem dX8_reckon_141 : decode cX8_reckon 141 = .ok (.getfield 15, 3) := by decide +kernel
theorem dX8_reckon_144 : decode cX8_reckon 144 = .ok (.iload_n 1, 1) := by decide +kernel
theorem dX8_reckon_145 : decode cX8_reckon 145 = .ok (.aload_n 0, 1) := by decide +kernel
theorem dX8_reckon_146 : decode cX8_reckon 146 = .ok (.iload_n 1, 1) := by decide +kernel
theorem dX8_reckon_147 : decode cX8_reckon 147 = .ok (.invokevirtual 61, 3) := by decide +kernel
theorem dX8_reckon_150 : decode cX8_reckon 150 = .ok (.iastore, 1) := by decide +kernel
theorem dX8_reckon_151 : decode cX8_reckon 151 = .ok (.iinc 1 1, 3) := by decide +kernel
theorem dX8_reckon_154 : decode cX8_reckon 154 = .ok (.goto (-25), 3) := by decide +kernel
theorem dX8_reckon_157 : decode cX8_reckon 157 = .ok (.return_, 1) := by decide +kernel
theorem dX8_join_0 : decode cX8_join 0 = .ok (.iload_n 1, 1) := by decide +kernel
theorem dX8_join_1 : decode cX8_join 1 = .ok (.bipush 6, 2) := by decide +kernel
theorem dX8_join_3 : decode cX8_join 3 = .ok (.imul, 1) := by decide +kernel
theorem dX8_join_4 : decode cX8_join 4 = .ok (.iload_n 2, 1) := by decide +kernel
theorem dX8_join_5 : decode cX8_join 5 = .ok (.iadd, 1) := by decide +kernel
theorem dX8_join_6 : decode cX8_join 6 = .ok (.istore_n 3, 1) := by decide +kernel
theorem dX8_join_7 : decode cX8_join 7 = .ok (.iload_n 1, 1) := by decide +kernel
theorem dX8_join_8 : decode cX8_join 8 = .ok (.istore 4, 2) := by decide +kernel
theorem dX8_join_10 : decode cX8_join 10 = .ok (.iload 4, 2) := by decide +kernel
theorem dX8_join_12 : decode cX8_join 12 = .ok (.iload_n 2, 1) := by decide +kernel
theorem dX8_join_13 : decode cX8_join 13 = .ok (.if_icmp .ge 55, 3) := by decide +kernel
theorem dX8_join_16 : decode cX8_join 16 = .ok (.aload_n 0, 1) := by decide +kernel
theorem dX8_join_17 : decode cX8_join 17 = .ok (.getfield 9, 3) := by decide +kernel
theorem dX8_join_20 : decode cX8_join 20 = .ok (.iload_n 1, 1) := by decide +kernel
theorem dX8_join_21 : decode cX8_join 21 = .ok (.bipush 6, 2) := by decide +kernel
theorem dX8_join_23 : decode cX8_join 23 = .ok (.imul, 1) := by decide +kernel
theorem dX8_join_24 : decode cX8_join 24 = .ok (.iload 4, 2) := by decide +kernel
theorem dX8_join_26 : decode cX8_join 26 = .ok (.iadd, 1) := by decide +kernel
theorem dX8_join_27 : decode cX8_join 27 = .ok (.iaload, 1) := by decide +kernel
theorem dX8_join_28 : decode cX8_join 28 = .ok (.aload_n 0, 1) := by decide +kernel
theorem dX8_join_29 : decode cX8_join 29 = .ok (.getfield 9, 3) := by decide +kernel
theorem dX8_join_32 : decode cX8_join 32 = .ok (.iload 4, 2) := by decide +kernel
theorem dX8_join_34 : decode cX8_join 34 = .ok (.iconst 1, 1) := by decide +kernel
theorem dX8_join_35 : decode cX8_join 35 = .ok (.iadd, 1) := by decide +kernel
theorem dX8_join_36 : decode cX8_join 36 = .ok (.bipush 6, 2) := by decide +kernel
theorem dX8_join_38 : decode cX8_join 38 = .ok (.imul, 1) := by decide +kernel
theorem dX8_join_39 : decode cX8_join 39 = .ok (.iload_n 2, 1) := by decide +kernel
theorem dX8_join_40 : decode cX8_join 40 = .ok (.iadd, 1) := by decide +kernel
theorem dX8_join_41 : decode cX8_join 41 = .ok (.iaload, 1) := by decide +kernel
theorem dX8_join_42 : decode cX8_join 42 = .ok (.iadd, 1) := by decide +kernel
theorem dX8_join_43 : decode cX8_join 43 = .ok (.istore 5, 2) := by decide +kernel
theorem dX8_join_45 : decode cX8_join 45 = .ok (.aload_n 0, 1) := by decide +kernel
theorem dX8_join_46 : decode cX8_join 46 = .ok (.getfield 9, 3) := by decide +kernel
theorem dX8_join_49 : decode cX8_join 49 = .ok (.iload_n 3, 1) := by decide +kernel
theorem dX8_join_50 : decode cX8_join 50 = .ok (.aload_n 0, 1) := by decide +kernel
theorem dX8_join_51 : decode cX8_join 51 = .ok (.getfield 9, 3) := by decide +kernel
theorem dX8_join_54 : decode cX8_join 54 = .ok (.iload_n 3, 1) := by decide +kernel
theorem dX8_join_55 : decode cX8_join 55 = .ok (.iaload, 1) := by decide +kernel
theorem dX8_join_56 : decode cX8_join 56 = .ok (.iload 5, 2) := by decide +kernel
theorem dX8_join_58 : decode cX8_join 58 = .ok (.invokestatic 44, 3) := by decide +kernel
theorem dX8_join_61 : decode cX8_join 61 = .ok (.iastore, 1) := by decide +kernel
theorem dX8_join_62 : decode cX8_join 62 = .ok (.iinc 4 1, 3) := by decide +kernel
theorem dX8_join_65 : decode cX8_join 65 = .ok (.goto (-55), 3) := by decide +kernel
theorem dX8_join_68 : decode cX8_join 68 = .ok (.return_, 1) := by decide +kernel
theorem dX8_reckonAhead_0 : decode cX8_reckonAhead 0 = .ok (.iconst 0, 1) := by decide +kernel
theorem dX8_reckonAhead_1 : decode cX8_reckonAhead 1 = .ok (.istore_n 2, 1) := by decide +kernel
theorem dX8_reckonAhead_2 : decode cX8_reckonAhead 2 = .ok (.iconst (-1), 1) := by decide +kernel
theorem dX8_reckonAhead_3 : decode cX8_reckonAhead 3 = .ok (.istore_n 3, 1) := by decide +kernel
theorem dX8_reckonAhead_4 : decode cX8_reckonAhead 4 = .ok (.iconst 0, 1) := by decide +kernel
theorem dX8_reckonAhead_5 : decode cX8_reckonAhead 5 = .ok (.istore 4, 2) := by decide +kernel
theorem dX8_reckonAhead_7 : decode cX8_reckonAhead 7 = .ok (.iload 4, 2) := by decide +kernel
theorem dX8_reckonAhead_9 : decode cX8_reckonAhead 9 = .ok (.aload_n 0, 1) := by decide +kernel
theorem dX8_reckonAhead_10 : decode cX8_reckonAhead 10 = .ok (.getfield 18, 3) := by decide +kernel
theorem dX8_reckonAhead_13 : decode cX8_reckonAhead 13 = .ok (.getfield 50, 3) := by decide +kernel
theorem dX8_reckonAhead_16 : decode cX8_reckonAhead 16 = .ok (.if_icmp .ge 97, 3) := by decide +kernel
theorem dX8_reckonAhead_19 : decode cX8_reckonAhead 19 = .ok (.iload_n 1, 1) := by decide +kernel
theorem dX8_reckonAhead_20 : decode cX8_reckonAhead 20 = .ok (.iload 4, 2) := by decide +kernel
theorem dX8_reckonAhead_22 : decode cX8_reckonAhead 22 = .ok (.ishr, 1) := by decide +kernel
theorem dX8_reckonAhead_23 : decode cX8_reckonAhead 23 = .ok (.iconst 1, 1) := by decide +kernel
theorem dX8_reckonAhead_24 : decode cX8_reckonAhead 24 = .ok (.iand, 1) := by decide +kernel
theorem dX8_reckonAhead_25 : decode cX8_reckonAhead 25 = .ok (.ifCond .ne 7, 3) := by decide +kernel
theorem dX8_reckonAhead_28 : decode cX8_reckonAhead 28 = .ok (.iconst 1, 1) := by decide +kernel
theorem dX8_reckonAhead_29 : decode cX8_reckonAhead 29 = .ok (.goto 4, 3) := by decide +kernel
theorem dX8_reckonAhead_32 : decode cX8_reckonAhead 32 = .ok (.iconst 0, 1) := by decide +kernel
theorem dX8_reckonAhead_33 : decode cX8_reckonAhead 33 = .ok (.istore 5, 2) := by decide +kernel
theorem dX8_reckonAhead_35 : decode cX8_reckonAhead 35 = .ok (.iload 4, 2) := by decide +kernel
theorem dX8_reckonAhead_37 : decode cX8_reckonAhead 37 = .ok (.iconst 1, 1) := by decide +kernel
theorem dX8_reckonAhead_38 : decode cX8_reckonAhead 38 = .ok (.iadd, 1) := by decide +kernel
theorem dX8_reckonAhead_39 : decode cX8_reckonAhead 39 = .ok (.aload_n 0, 1) := by decide +kernel
theorem dX8_reckonAhead_40 : decode cX8_reckonAhead 40 = .ok (.getfield 18, 3) := by decide +kernel
theorem dX8_reckonAhead_43 : decode cX8_reckonAhead 43 = .ok (.getfield 50, 3) := by decide +kernel
theorem dX8_reckonAhead_46 : decode cX8_reckonAhead 46 = .ok (.if_icmp .ge 18, 3) := by decide +kernel
theorem dX8_reckonAhead_49 : decode cX8_reckonAhead 49 = .ok (.iload_n 1, 1) := by decide +kernel
theorem dX8_reckonAhead_50 : decode cX8_reckonAhead 50 = .ok (.iload 4, 2) := by decide +kernel
theorem dX8_reckonAhead_52 : decode cX8_reckonAhead 52 = .ok (.iconst 1, 1) := by decide +kernel
theorem dX8_reckonAhead_53 : decode cX8_reckonAhead 53 = .ok (.iadd, 1) := by decide +kernel
theorem dX8_reckonAhead_54 : decode cX8_reckonAhead 54 = .ok (.ishr, 1) := by decide +kernel
theorem dX8_reckonAhead_55 : decode cX8_reckonAhead 55 = .ok (.iconst 1, 1) := by decide +kernel
theorem dX8_reckonAhead_56 : decode cX8_reckonAhead 56 = .ok (.iand, 1) := by decide +kernel
theorem dX8_reckonAhead_57 : decode cX8_reckonAhead 57 = .ok (.ifCond .ne 7, 3) := by decide +kernel
theorem dX8_reckonAhead_60 : decode cX8_reckonAhead 60 = .ok (.iconst 1, 1) := by decide +kernel
theorem dX8_reckonAhead_61 : decode cX8_reckonAhead 61 = .ok (.goto 4, 3) := by decide +kernel
theorem dX8_reckonAhead_64 : decode cX8_reckonAhead 64 = .ok (.iconst 0, 1) := by decide +kernel
theorem dX8_reckonAhead_65 : decode cX8_reckonAhead 65 = .ok (.istore 6, 2) := by decide +kernel
theorem dX8_reckonAhead_67 : decode cX8_reckonAhead 67 = .ok (.iload 5, 2) := by decide +kernel
theorem dX8_reckonAhead_69 : decode cX8_reckonAhead 69 = .ok (.ifCond .eq 11, 3) := by decide +kernel
theorem dX8_reckonAhead_72 : decode cX8_reckonAhead 72 = .ok (.iload_n 3, 1) := by decide +kernel
theorem dX8_reckonAhead_73 : decode cX8_reckonAhead 73 = .ok (.iconst (-1), 1) := by decide +kernel
theorem dX8_reckonAhead_74 : decode cX8_reckonAhead 74 = .ok (.if_icmp .ne 6, 3) := by decide +kernel
theorem dX8_reckonAhead_77 : decode cX8_reckonAhead 77 = .ok (.iload 4, 2) := by decide +kernel
theorem dX8_reckonAhead_79 : decode cX8_reckonAhead 79 = .ok (.istore_n 3, 1) := by decide +kernel
theorem dX8_reckonAhead_80 : decode cX8_reckonAhead 80 = .ok (.iload 5, 2) := by decide +kernel
theorem dX8_reckonAhead_82 : decode cX8_reckonAhead 82 = .ok (.ifCond .eq 25, 3) := by decide +kernel
theorem dX8_reckonAhead_85 : decode cX8_reckonAhead 85 = .ok (.iload 6, 2) := by decide +kernel
theorem dX8_reckonAhead_87 : decode cX8_reckonAhead 87 = .ok (.ifCond .ne 20, 3) := by decide +kernel
theorem dX8_reckonAhead_90 : decode cX8_reckonAhead 90 = .ok (.iload_n 2, 1) := by decide +kernel
theorem dX8_reckonAhead_91 : decode cX8_reckonAhead 91 = .ok (.aload_n 0, 1) := by decide +kernel
theorem dX8_reckonAhead_92 : decode cX8_reckonAhead 92 = .ok (.getfield 9, 3) := by decide +kernel
theorem dX8_reckonAhead_95 : decode cX8_reckonAhead 95 = .ok (.iload_n 3, 1) := by decide +kernel
theorem dX8_reckonAhead_96 : decode cX8_reckonAhead 96 = .ok (.bipush 6, 2) := by decide +kernel
theorem dX8_reckonAhead_98 : decode cX8_reckonAhead 98 = .ok (.imul, 1) := by decide +kernel
theorem dX8_reckonAhead_99 : decode cX8_reckonAhead 99 = .ok (.iload 4, 2) := by decide +kernel
theorem dX8_reckonAhead_101 : decode cX8_reckonAhead 101 = .ok (.iadd, 1) := by decide +kernel
theorem dX8_reckonAhead_102 : decode cX8_reckonAhead 102 = .ok (.iaload, 1) := by decide +kernel
theorem dX8_reckonAhead_103 : decode cX8_reckonAhead 103 = .ok (.iadd, 1) := by decide +kernel
theorem dX8_reckonAhead_104 : decode cX8_reckonAhead 104 = .ok (.istore_n 2, 1) := by decide +kernel
theorem dX8_reckonAhead_105 : decode cX8_reckonAhead 105 = .ok (.iconst (-1), 1) := by decide +kernel
theorem dX8_reckonAhead_106 : decode cX8_reckonAhead 106 = .ok (.istore_n 3, 1) := by decide +kernel
theorem dX8_reckonAhead_107 : decode cX8_reckonAhead 107 = .ok (.iinc 4 1, 3) := by decide +kernel
theorem dX8_reckonAhead_110 : decode cX8_reckonAhead 110 = .ok (.goto (-103), 3) := by decide +kernel
theorem dX8_reckonAhead_113 : decode cX8_reckonAhead 113 = .ok (.iload_n 2, 1) := by decide +kernel
theorem dX8_reckonAhead_114 : decode cX8_reckonAhead 114 = .ok (.ireturn, 1) := by decide +kernel
theorem dX9_init_0 : decode cX9_init 0 = .ok (.aload_n 0, 1) := by decide +kernel
theorem dX9_init_1 : decode cX9_init 1 = .ok (.invokespecial 3, 3) := by decide +kernel
theorem dX9_init_4 : decode cX9_init 4 = .ok (.aload_n 0, 1) := by decide +kernel
theorem dX9_init_5 : decode cX9_init 5 = .ok (.bipush 30, 2) := by decide +kernel
theorem dX9_init_7 : decode cX9_init 7 = .ok (.newarray .long, 2) := by decide +kernel
theorem dX9_init_9 : decode cX9_init 9 = .ok (.putfield 9, 3) := by decide +kernel
theorem dX9_init_12 : decode cX9_init 12 = .ok (.aload_n 0, 1) := by decide +kernel
theorem dX9_init_13 : decode cX9_init 13 = .ok (.bipush 30, 2) := by decide +kernel
theorem dX9_init_15 : decode cX9_init 15 = .ok (.newarray .int, 2) := by decide +kernel
theorem dX9_init_17 : decode cX9_init 17 = .ok (.putfield 15, 3) := by decide +kernel
theorem dX9_init_20 : decode cX9_init 20 = .ok (.aload_n 0, 1) := by decide +kernel
theorem dX9_init_21 : decode cX9_init 21 = .ok (.bipush 30, 2) := by decide +kernel
theorem dX9_init_23 : decode cX9_init 23 = .ok (.newarray .int, 2) := by decide +kernel
theorem dX9_init_25 : decode cX9_init 25 = .ok (.putfield 19, 3) := by decide +kernel
theorem dX9_init_28 : decode cX9_init 28 = .ok (.aload_n 0, 1) := by decide +kernel
theorem dX9_init_29 : decode cX9_init 29 = .ok (.bipush 30, 2) := by decide +kernel
theorem dX9_init_31 : decode cX9_init 31 = .ok (.newarray .int, 2) := by decide +kernel
theorem dX9_init_33 : decode cX9_init 33 = .ok (.putfield 22, 3) := by decide +kernel
theorem dX9_init_36 : decode cX9_init 36 = .ok (.aload_n 0, 1) := by decide +kernel
theorem dX9_init_37 : decode cX9_init 37 = .ok (.bipush 30, 2) := by decide +kernel
theorem dX9_init_39 : decode cX9_init 39 = .ok (.newarray .long, 2) := by decide +kernel
theorem dX9_init_41 : decode cX9_init 41 = .ok (.putfield 25, 3) := by decide +kernel
theorem dX9_init_44 : decode cX9_init 44 = .ok (.aload_n 0, 1) := by decide +kernel
theorem dX9_init_45 : decode cX9_init 45 = .ok (.bipush 6, 2) := by decide +kernel
theorem dX9_init_47 : decode cX9_init 47 = .ok (.newarray .int, 2) := by decide +kernel
theorem dX9_init_49 : decode cX9_init 49 = .ok (.putfield 28, 3) := by decide +kernel
theorem dX9_init_52 : decode cX9_init 52 = .ok (.aload_n 0, 1) := by decide +kernel
theorem dX9_init_53 : decode cX9_init 53 = .ok (.bipush 6, 2) := by decide +kernel
theorem dX9_init_55 : decode cX9_init 55 = .ok (.newarray .int, 2) := by decide +kernel
theorem dX9_init_57 : decode cX9_init 57 = .ok (.putfield 31, 3) := by decide +kernel
theorem dX9_init_60 : decode cX9_init 60 = .ok (.aload_n 0, 1) := by decide +kernel
theorem dX9_init_61 : decode cX9_init 61 = .ok (.bipush 18, 2) := by decide +kernel
theorem dX9_init_63 : decode cX9_init 63 = .ok (.newarray .int, 2) := by decide +kernel
theorem dX9_init_65 : decode cX9_init 65 = .ok (.putfield 34, 3) := by decide +kernel
theorem dX9_init_68 : decode cX9_init 68 = .ok (.aload_n 0, 1) := by decide +kernel
theorem dX9_init_69 : decode cX9_init 69 = .ok (.aload_n 1, 1) := by decide +kernel
theorem dX9_init_70 : decode cX9_init 70 = .ok (.putfield 37, 3) := by decide +kernel
theorem dX9_init_73 : decode cX9_init 73 = .ok (.aload_n 0, 1) := by decide +kernel
theorem dX9_init_74 : decode cX9_init 74 = .ok (.aload_n 2, 1) := by decide +kernel
theorem dX9_init_75 : decode cX9_init 75 = .ok (.putfield 41, 3) := by decide +kernel
theorem dX9_init_78 : decode cX9_init 78 = .ok (.return_, 1) := by decide +kernel
theorem dX9_begin_0 : decode cX9_begin 0 = .ok (.aload_n 0, 1) := by decide +kernel
theorem dX9_begin_1 : decode cX9_begin 1 = .ok (.iconst 0, 1) := by decide +kernel
theorem dX9_begin_2 : decode cX9_begin 2 = .ok (.putfield 45, 3) := by decide +kernel
theorem dX9_begin_5 : decode cX9_begin 5 = .ok (.aload_n 0, 1) := by decide +kernel
theorem dX9_begin_6 : decode cX9_begin 6 = .ok (.iconst 0, 1) := by decide +kernel
theorem dX9_begin_7 : decode cX9_begin 7 = .ok (.putfield 49, 3) := by decide +kernel
theorem dX9_begin_10 : decode cX9_begin 10 = .ok (.aload_n 0, 1) := by decide +kernel
theorem dX9_begin_11 : decode cX9_begin 11 = .ok (.aload_n 0, 1) := by decide +kernel
theorem dX9_begin_12 : decode cX9_begin 12 = .ok (.getfield 41, 3) := by decide +kernel
theorem dX9_begin_15 : decode cX9_begin 15 = .ok (.invokevirtual 52, 3) := by decide +kernel
theorem dX9_begin_18 : decode cX9_begin 18 = .ok (.i2l, 1) := by decide +kernel
theorem dX9_begin_19 : decode cX9_begin 19 = .ok (.bipush 48, 2) := by decide +kernel
theorem dX9_begin_21 : decode cX9_begin 21 = .ok (.lshl, 1) := by decide +kernel
theorem dX9_begin_22 : decode cX9_begin 22 = .ok (.iconst 0, 1) := by decide +kernel
theorem dX9_begin_23 : decode cX9_begin 23 = .ok (.iconst 0, 1) := by decide +kernel
theorem dX9_begin_24 : decode cX9_begin 24 = .ok (.iconst 0, 1) := by decide +kernel
theorem dX9_begin_25 : decode cX9_begin 25 = .ok (.invokevirtual 58, 3) := by decide +kernel
theorem dX9_begin_28 : decode cX9_begin 28 = .ok (.return_, 1) := by decide +kernel
theorem dX9_costOf_0 : decode cX9_costOf 0 = .ok (.aload_n 0, 1) := by decide +kernel
theorem dX9_costOf_1 : decode cX9_costOf 1 = .ok (.getfield 25, 3) := by decide +kernel
theorem dX9_costOf_4 : decode cX9_costOf 4 = .ok (.iload_n 1, 1) := by decide +kernel
theorem dX9_costOf_5 : decode cX9_costOf 5 = .ok (.laload, 1) := by decide +kernel
theorem dX9_costOf_6 : decode cX9_costOf 6 = .ok (.bipush 48, 2) := by decide +kernel
theorem dX9_costOf_8 : decode cX9_costOf 8 = .ok (.lushr, 1) := by decide +kernel
theorem dX9_costOf_9 : decode cX9_costOf 9 = .ok (.l2i, 1) := by decide +kernel
theorem dX9_costOf_10 : decode cX9_costOf 10 = .ok (.ireturn, 1) := by decide +kernel
theorem dX9_bring_0 : decode cX9_bring 0 = .ok (.sipush 210, 3) := by decide +kernel
theorem dX9_bring_3 : decode cX9_bring 3 = .ok (.istore_n 2, 1) := by decide +kernel
theorem dX9_bring_4 : decode cX9_bring 4 = .ok (.iload_n 2, 1) := by decide +kernel
theorem dX9_bring_5 : decode cX9_bring 5 = .ok (.ifCond .le 28, 3) := by decide +kernel
theorem dX9_bring_8 : decode cX9_bring 8 = .ok (.aload_n 0, 1) := by decide +kernel
theorem dX9_bring_9 : decode cX9_bring 9 = .ok (.getfield 45, 3) := by decide +kernel
theorem dX9_bring_12 : decode cX9_bring 12 = .ok (.iload_n 1, 1) := by decide +kernel
theorem dX9_bring_13 : decode cX9_bring 13 = .ok (.if_icmp .gt 20, 3) := by decide +kernel
theorem dX9_bring_16 : decode cX9_bring 16 = .ok (.aload_n 0, 1) := by decide +kernel
theorem dX9_bring_17 : decode cX9_bring 17 = .ok (.getfield 49, 3) := by decide +kernel
theorem dX9_bring_20 : decode cX9_bring 20 = .ok (.ifCond .le 13, 3) := by decide +kernel
theorem dX9_bring_23 : decode cX9_bring 23 = .ok (.aload_n 0, 1) := by decide +kernel
theorem dX9_bring_24 : decode cX9_bring 24 = .ok (.invokevirtual 62, 3) := by decide +kernel
theorem dX9_bring_27 : decode cX9_bring 27 = .ok (.iinc 2 (-1), 3) := by decide +kernel
theorem dX9_bring_30 : decode cX9_bring 30 = .ok (.goto (-26), 3) := by decide +kernel
theorem dX9_bring_33 : decode cX9_bring 33 = .ok (.return_, 1) := by decide +kernel
theorem dX9_unfold_0 : decode cX9_unfold 0 = .ok (.aload_n 0, 1) := by decide +kernel
theorem dX9_unfold_1 : decode cX9_unfold 1 = .ok (.iconst 0, 1) := by decide +kernel
theorem dX9_unfold_2 : decode cX9_unfold 2 = .ok (.putfield 65, 3) := by decide +kernel
theorem dX9_unfold_5 : decode cX9_unfold 5 = .ok (.aload_n 0, 1) := by decide +kernel
theorem dX9_unfold_6 : decode cX9_unfold 6 = .ok (.iconst 0, 1) := by decide +kernel
theorem dX9_unfold_7 : decode cX9_unfold 7 = .ok (.putfield 68, 3) := by decide +kernel
theorem dX9_unfold_10 : decode cX9_unfold 10 = .ok (.iload_n 1, 1) := by decide +kernel
theorem dX9_unfold_11 : decode cX9_unfold 11 = .ok (.aload_n 0, 1) := by decide +kernel
theorem dX9_unfold_12 : decode cX9_unfold 12 = .ok (.getfield 45, 3) := by decide +kernel
theorem dX9_unfold_15 : decode cX9_unfold 15 = .ok (.if_icmp .lt 5, 3) := by decide +kernel
theorem dX9_unfold_18 : decode cX9_unfold 18 = .ok (.iconst 0, 1) := by decide +kernel
theorem dX9_unfold_19 : decode cX9_unfold 19 = .ok (.ireturn, 1) := by decide +kernel
theorem dX9_unfold_20 : decode cX9_unfold 20 = .ok (.iconst 0, 1) := by decide +kernel
theorem dX9_unfold_21 : decode cX9_unfold 21 = .ok (.istore_n 2, 1) := by decide +kernel
theorem dX9_unfold_22 : decode cX9_unfold 22 = .ok (.bipush 40, 2) := by decide +kernel
theorem dX9_unfold_24 : decode cX9_unfold 24 = .ok (.istore_n 3, 1) := by decide +kernel
theorem dX9_unfold_25 : decode cX9_unfold 25 = .ok (.iconst 0, 1) := by decide +kernel
theorem dX9_unfold_26 : decode cX9_unfold 26 = .ok (.istore 4, 2) := by decide +kernel
theorem dX9_unfold_28 : decode cX9_unfold 28 = .ok (.iload 4, 2) := by decide +kernel
theorem dX9_unfold_30 : decode cX9_unfold 30 = .ok (.bipush 6, 2) := by decide +kernel
theorem dX9_unfold_32 : decode cX9_unfold 32 = .ok (.if_icmp .ge 168, 3) := by decide +kernel
theorem dX9_unfold_35 : decode cX9_unfold 35 = .ok (.aload_n 0, 1) := by decide +kernel
theorem dX9_unfold_36 : decode cX9_unfold 36 = .ok (.getfield 25, 3) := by decide +kernel
theorem dX9_unfold_39 : decode cX9_unfold 39 = .ok (.iload_n 1, 1) := by decide +kernel
theorem dX9_unfold_40 : decode cX9_unfold 40 = .ok (.laload, 1) := by decide +kernel
theorem dX9_unfold_41 : decode cX9_unfold 41 = .ok (.iload 4, 2) := by decide +kernel
theorem dX9_unfold_43 : decode cX9_unfold 43 = .ok (.invokestatic 71, 3) := by decide +kernel
theorem dX9_unfold_46 : decode cX9_unfold 46 = .ok (.istore 5, 2) := by decide +kernel
theorem dX9_unfold_48 : decode cX9_unfold 48 = .ok (.iload 5, 2) := by decide +kernel
theorem dX9_unfold_50 : decode cX9_unfold 50 = .ok (.iconst (-1), 1) := by decide +kernel
theorem dX9_unfold_51 : decode cX9_unfold 51 = .ok (.if_icmp .ne 6, 3) := by decide +kernel
theorem dX9_unfold_54 : decode cX9_unfold 54 = .ok (.goto 146, 3) := by decide +kernel
theorem dX9_unfold_57 : decode cX9_unfold 57 = .ok (.aload_n 0, 1) := by decide +kernel
theorem dX9_unfold_58 : decode cX9_unfold 58 = .ok (.getfield 28, 3) := by decide +kernel
theorem dX9_unfold_61 : decode cX9_unfold 61 = .ok (.aload_n 0, 1) := by decide +kernel
theorem dX9_unfold_62 : decode cX9_unfold 62 = .ok (.getfield 65, 3) := by decide +kernel
theorem dX9_unfold_65 : decode cX9_unfold 65 = .ok (.iload 5, 2) := by decide +kernel
theorem dX9_unfold_67 : decode cX9_unfold 67 = .ok (.iastore, 1) := by decide +kernel
theorem dX9_unfold_68 : decode cX9_unfold 68 = .ok (.aload_n 0, 1) := by decide +kernel
theorem dX9_unfold_69 : decode cX9_unfold 69 = .ok (.getfield 31, 3) := by decide +kernel
theorem dX9_unfold_72 : decode cX9_unfold 72 = .ok (.aload_n 0, 1) := by decide +kernel
theorem dX9_unfold_73 : decode cX9_unfold 73 = .ok (.getfield 65, 3) := by decide +kernel
theorem dX9_unfold_76 : decode cX9_unfold 76 = .ok (.aload_n 0, 1) := by decide +kernel
theorem dX9_unfold_77 : decode cX9_unfold 77 = .ok (.getfield 37, 3) := by decide +kernel
theorem dX9_unfold_80 : decode cX9_unfold 80 = .ok (.iload 5, 2) := by decide +kernel
theorem dX9_unfold_82 : decode cX9_unfold 82 = .ok (.iload_n 3, 1) := by decide +kernel
theorem dX9_unfold_83 : decode cX9_unfold 83 = .ok (.invokevirtual 75, 3) := by decide +kernel
theorem dX9_unfold_86 : decode cX9_unfold 86 = .ok (.aload_n 0, 1) := by decide +kernel
theorem dX9_unfold_87 : decode cX9_unfold 87 = .ok (.getfield 41, 3) := by decide +kernel
theorem dX9_unfold_90 : decode cX9_unfold 90 = .ok (.getfield 81, 3) := by decide +kernel
theorem dX9_unfold_93 : decode cX9_unfold 93 = .ok (.aload_n 0, 1) := by decide +kernel
theorem dX9_unfold_94 : decode cX9_unfold 94 = .ok (.getfield 37, 3) := by decide +kernel
theorem dX9_unfold_97 : decode cX9_unfold 97 = .ok (.iload 5, 2) := by decide +kernel
theorem dX9_unfold_99 : decode cX9_unfold 99 = .ok (.iload_n 2, 1) := by decide +kernel
theorem dX9_unfold_100 : decode cX9_unfold 100 = .ok (.invokevirtual 84, 3) := by decide +kernel
theorem dX9_unfold_103 : decode cX9_unfold 103 = .ok (.imul, 1) := by decide +kernel
theorem dX9_unfold_104 : decode cX9_unfold 104 = .ok (.iadd, 1) := by decide +kernel
theorem dX9_unfold_105 : decode cX9_unfold 105 = .ok (.iastore, 1) := by decide +kernel
theorem dX9_unfold_106 : decode cX9_unfold 106 = .ok (.aload_n 0, 1) := by decide +kernel
theorem dX9_unfold_107 : decode cX9_unfold 107 = .ok (.dup, 1) := by decide +kernel
theorem dX9_unfold_108 : decode cX9_unfold 108 = .ok (.getfield 65, 3) := by decide +kernel
theorem dX9_unfold_111 : decode cX9_unfold 111 = .ok (.iconst 1, 1) := by decide +kernel
theorem dX9_unfold_112 : decode cX9_unfold 112 = .ok (.iadd, 1) := by decide +kernel
theorem dX9_unfold_113 : decode cX9_unfold 113 = .ok (.putfield 65, 3) := by decide +kernel
theorem dX9_unfold_116 : decode cX9_unfold 116 = .ok (.aload_n 0, 1) := by decide +kernel
theorem dX9_unfold_117 : decode cX9_unfold 117 = .ok (.getfield 37, 3) := by decide +kernel
theorem dX9_unfold_120 : decode cX9_unfold 120 = .ok (.getfield 87, 3) := by decide +kernel
theorem dX9_unfold_123 : decode cX9_unfold 123 = .ok (.iload 5, 2) := by decide +kernel
theorem dX9_unfold_125 : decode cX9_unfold 125 = .ok (.iaload, 1) := by decide +kernel
theorem dX9_unfold_126 : decode cX9_unfold 126 = .ok (.istore 6, 2) := by decide +kernel
theorem dX9_unfold_128 : decode cX9_unfold 128 = .ok (.aload_n 0, 1) := by decide +kernel
theorem dX9_unfold_129 : decode cX9_unfold 129 = .ok (.getfield 37, 3) := by decide +kernel
theorem dX9_unfold_132 : decode cX9_unfold 132 = .ok (.getfield 90, 3) := by decide +kernel
theorem dX9_unfold_135 : decode cX9_unfold 135 = .ok (.iload 5, 2) := by decide +kernel
theorem dX9_unfold_137 : decode cX9_unfold 137 = .ok (.iconst 3, 1) := by decide +kernel
theorem dX9_unfold_138 : decode cX9_unfold 138 = .ok (.imul, 1) := by decide +kernel
theorem dX9_unfold_139 : decode cX9_unfold 139 = .ok (.aload_n 0, 1) := by decide +kernel
theorem dX9_unfold_140 : decode cX9_unfold 140 = .ok (.getfield 34, 3) := by decide +kernel
theorem dX9_unfold_143 : decode cX9_unfold 143 = .ok (.aload_n 0, 1) := by decide +kernel
theorem dX9_unfold_144 : decode cX9_unfold 144 = .ok (.getfield 68, 3) := by decide +kernel
theorem dX9_unfold_147 : decode cX9_unfold 147 = .ok (.iload 6, 2) := by decide +kernel
theorem dX9_unfold_149 : decode cX9_unfold 149 = .ok (.invokestatic 93, 3) := by decide +kernel
theorem dX9_unfold_152 : decode cX9_unfold 152 = .ok (.aload_n 0, 1) := by decide +kernel
theorem dX9_unfold_153 : decode cX9_unfold 153 = .ok (.dup, 1) := by decide +kernel
theorem dX9_unfold_154 : decode cX9_unfold 154 = .ok (.getfield 68, 3) := by decide +kernel
theorem dX9_unfold_157 : decode cX9_unfold 157 = .ok (.iload 6, 2) := by decide +kernel
theorem dX9_unfold_159 : decode cX9_unfold 159 = .ok (.iadd, 1) := by decide +kernel
theorem dX9_unfold_160 : decode cX9_unfold 160 = .ok (.putfield 68, 3) := by decide +kernel
theorem dX9_unfold_163 : decode cX9_unfold 163 = .ok (.aload_n 0, 1) := by decide +kernel
theorem dX9_unfold_164 : decode cX9_unfold 164 = .ok (.getfield 37, 3) := by decide +kernel
theorem dX9_unfold_167 : decode cX9_unfold 167 = .ok (.getfield 99, 3) := by decide +kernel
theorem dX9_unfold_170 : decode cX9_unfold 170 = .ok (.iload 5, 2) := by decide +kernel
theorem dX9_unfold_172 : decode cX9_unfold 172 = .ok (.iaload, 1) := by decide +kernel
theorem dX9_unfold_173 : decode cX9_unfold 173 = .ok (.istore_n 2, 1) := by decide +kernel
theorem dX9_unfold_174 : decode cX9_unfold 174 = .ok (.iload 6, 2) := by decide +kernel
theorem dX9_unfold_176 : decode cX9_unfold 176 = .ok (.ifCond .ne 7, 3) := by decide +kernel
theorem dX9_unfold_179 : decode cX9_unfold 179 = .ok (.iload_n 3, 1) := by decide +kernel
theorem dX9_unfold_180 : decode cX9_unfold 180 = .ok (.goto 13, 3) := by decide +kernel
theorem dX9_unfold_183 : decode cX9_unfold 183 = .ok (.aload_n 0, 1) := by decide +kernel
theorem dX9_unfold_184 : decode cX9_unfold 184 = .ok (.getfield 37, 3) := by decide +kernel
theorem dX9_unfold_187 : decode cX9_unfold 187 = .ok (.getfield 100, 3) := by decide +kernel
theorem dX9_unfold_190 : decode cX9_unfold 190 = .ok (.iload 5, 2) := by decide +kernel
theorem dX9_unfold_192 : decode cX9_unfold 192 = .ok (.iaload, 1) := by decide +kernel
theorem dX9_unfold_193 : decode cX9_unfold 193 = .ok (.istore_n 3, 1) := by decide +kernel
theorem dX9_unfold_194 : decode cX9_unfold 194 = .ok (.iinc 4 1, 3) := by decide +kernel
theorem dX9_unfold_197 : decode cX9_unfold 197 = .ok (.goto (-169), 3) := by decide +kernel
theorem dX9_unfold_200 : decode cX9_unfold 200 = .ok (.iconst 1, 1) := by decide +kernel
theorem dX9_unfold_201 : decode cX9_unfold 201 = .ok (.ireturn, 1) := by decide +kernel
theorem dX9_stepOf_0 : decode cX9_stepOf 0 = .ok (.lload_n 0, 1) := by decide +kernel
theorem dX9_stepOf_1 : decode cX9_stepOf 1 = .ok (.bipush 8, 2) := by decide +kernel
theorem dX9_stepOf_3 : decode cX9_stepOf 3 = .ok (.iconst 5, 1) := by decide +kernel
theorem dX9_stepOf_4 : decode cX9_stepOf 4 = .ok (.iload_n 2, 1) := by decide +kernel
theorem dX9_stepOf_5 : decode cX9_stepOf 5 = .ok (.isub, 1) := by decide +kernel
theorem dX9_stepOf_6 : decode cX9_stepOf 6 = .ok (.imul, 1) := by decide +kernel
theorem dX9_stepOf_7 : decode cX9_stepOf 7 = .ok (.lushr, 1) := by decide +kernel
theorem dX9_stepOf_8 : decode cX9_stepOf 8 = .ok (.ldc2_w 103, 3) := by decide +kernel
theorem dX9_stepOf_11 : decode cX9_stepOf 11 = .ok (.land, 1) := by decide +kernel
theorem dX9_stepOf_12 : decode cX9_stepOf 12 = .ok (.l2i, 1) := by decide +kernel
theorem dX9_stepOf_13 : decode cX9_stepOf 13 = .ok (.iconst 1, 1) := by decide +kernel
theorem dX9_stepOf_14 : decode cX9_stepOf 14 = .ok (.isub, 1) := by decide +kernel
theorem dX9_stepOf_15 : decode cX9_stepOf 15 = .ok (.ireturn, 1) := by decide +kernel
theorem dX9_takeFirst_0 : decode cX9_takeFirst 0 = .ok (.aload_n 0, 1) := by decide +kernel
theorem dX9_takeFirst_1 : decode cX9_takeFirst 1 = .ok (.getfield 9, 3) := by decide +kernel
theorem dX9_takeFirst_4 : decode cX9_takeFirst 4 = .ok (.iconst 0, 1) := by decide +kernel
theorem dX9_takeFirst_5 : decode cX9_takeFirst 5 = .ok (.laload, 1) := by decide +kernel
theorem dX9_takeFirst_6 : decode cX9_takeFirst 6 = .ok (.lstore_n 1, 1) := by decide +kernel
theorem dX9_takeFirst_7 : decode cX9_takeFirst 7 = .ok (.aload_n 0, 1) := by decide +kernel
theorem dX9_takeFirst_8 : decode cX9_takeFirst 8 = .ok (.getfield 15, 3) := by decide +kernel
theorem dX9_takeFirst_11 : decode cX9_takeFirst 11 = .ok (.iconst 0, 1) := by decide +kernel
theorem dX9_takeFirst_12 : decode cX9_takeFirst 12 = .ok (.iaload, 1) := by decide +kernel
theorem dX9_takeFirst_13 : decode cX9_takeFirst 13 = .ok (.istore_n 3, 1) := by decide +kernel
theorem dX9_takeFirst_14 : decode cX9_takeFirst 14 = .ok (.aload_n 0, 1) := by decide +kernel
theorem dX9_takeFirst_15 : decode cX9_takeFirst 15 = .ok (.getfield 19, 3) := by decide +kernel
theorem dX9_takeFirst_18 : decode cX9_takeFirst 18 = .ok (.iconst 0, 1) := by decide +kernel
theorem dX9_takeFirst_19 : decode cX9_takeFirst 19 = .ok (.iaload, 1) := by decide +kernel
theorem dX9_takeFirst_20 : decode cX9_takeFirst 20 = .ok (.istore 4, 2) := by decide +kernel
theorem dX9_takeFirst_22 : decode cX9_takeFirst 22 = .ok (.aload_n 0, 1) := by decide +kernel
theorem dX9_takeFirst_23 : decode cX9_takeFirst 23 = .ok (.getfield 22, 3) := by decide +kernel
theorem dX9_takeFirst_26 : decode cX9_takeFirst 26 = .ok (.iconst 0, 1) := by decide +kernel
theorem dX9_takeFirst_27 : decode cX9_takeFirst 27 = .ok (.iaload, 1) := by decide +kernel
theorem dX9_takeFirst_28 : decode cX9_takeFirst 28 = .ok (.istore 5, 2) := by decide +kernel
theorem dX9_takeFirst_30 : decode cX9_takeFirst 30 = .ok (.aload_n 0, 1) := by decide +kernel
theorem dX9_takeFirst_31 : decode cX9_takeFirst 31 = .ok (.dup, 1) := by decide +kernel
theorem dX9_takeFirst_32 : decode cX9_takeFirst 32 = .ok (.getfield 49, 3) := by decide +kernel
theorem dX9_takeFirst_35 : decode cX9_takeFirst 35 = .ok (.iconst 1, 1) := by decide +kernel
theorem dX9_takeFirst_36 : decode cX9_takeFirst 36 = .ok (.isub, 1) := by decide +kernel
theorem dX9_takeFirst_37 : decode cX9_takeFirst 37 = .ok (.putfield 49, 3) := by decide +kernel
theorem dX9_takeFirst_40 : decode cX9_takeFirst 40 = .ok (.aload_n 0, 1) := by decide +kernel
theorem dX9_takeFirst_41 : decode cX9_takeFirst 41 = .ok (.getfield 9, 3) := by decide +kernel
theorem dX9_takeFirst_44 : decode cX9_takeFirst 44 = .ok (.iconst 1, 1) := by decide +kernel
theorem dX9_takeFirst_45 : decode cX9_takeFirst 45 = .ok (.aload_n 0, 1) := by decide +kernel
theorem dX9_takeFirst_46 : decode cX9_takeFirst 46 = .ok (.getfield 9, 3) := by decide +kernel
theorem dX9_takeFirst_49 : decode cX9_takeFirst 49 = .ok (.iconst 0, 1) := by decide +kernel
theorem dX9_takeFirst_50 : decode cX9_takeFirst 50 = .ok (.aload_n 0, 1) := by decide +kernel
theorem dX9_takeFirst_51 : decode cX9_takeFirst 51 = .ok (.getfield 49, 3) := by decide +kernel
theorem dX9_takeFirst_54 : decode cX9_takeFirst 54 = .ok (.invokestatic 93, 3) := by decide +kernel
theorem dX9_takeFirst_57 : decode cX9_takeFirst 57 = .ok (.aload_n 0, 1) := by decide +kernel
theorem dX9_takeFirst_58 : decode cX9_takeFirst 58 = .ok (.getfield 15, 3) := by decide +kernel
theorem dX9_takeFirst_61 : decode cX9_takeFirst 61 = .ok (.iconst 1, 1) := by decide +kernel
theorem dX9_takeFirst_62 : decode cX9_takeFirst 62 = .ok (.aload_n 0, 1) := by decide +kernel
theorem dX9_takeFirst_63 : decode cX9_takeFirst 63 = .ok (.getfield 15, 3) := by decide +kernel
theorem dX9_takeFirst_66 : decode cX9_takeFirst 66 = .ok (.iconst 0, 1) := by decide +kernel
theorem dX9_takeFirst_67 : decode cX9_takeFirst 67 = .ok (.aload_n 0, 1) := by decide +kernel
theorem dX9_takeFirst_68 : decode cX9_takeFirst 68 = .ok (.getfield 49, 3) := by decide +kernel
theorem dX9_takeFirst_71 : decode cX9_takeFirst 71 = .ok (.invokestatic 93, 3) := by decide +kernel
theorem dX9_takeFirst_74 : decode cX9_takeFirst 74 = .ok (.aload_n 0, 1) := by decide +kernel
theorem dX9_takeFirst_75 : decode cX9_takeFirst 75 = .ok (.getfield 19, 3) := by decide +kernel
theorem dX9_takeFirst_78 : decode cX9_takeFirst 78 = .ok (.iconst 1, 1) := by decide +kernel
theorem dX9_takeFirst_79 : decode cX9_takeFirst 79 = .ok (.aload_n 0, 1) := by decide +kernel
theorem dX9_takeFirst_80 : decode cX9_takeFirst 80 = .ok (.getfield 19, 3) := by decide +kernel
theorem dX9_takeFirst_83 : decode cX9_takeFirst 83 = .ok (.iconst 0, 1) := by decide +kernel
theorem dX9_takeFirst_84 : decode cX9_takeFirst 84 = .ok (.aload_n 0, 1) := by decide +kernel
theorem dX9_takeFirst_85 : decode cX9_takeFirst 85 = .ok (.getfield 49, 3) := by decide +kernel
theorem dX9_takeFirst_88 : decode cX9_takeFirst 88 = .ok (.invokestatic 93, 3) := by decide +kernel
theorem dX9_takeFirst_91 : decode cX9_takeFirst 91 = .ok (.aload_n 0, 1) := by decide +kernel
theorem dX9_takeFirst_92 : decode cX9_takeFirst 92 = .ok (.getfield 22, 3) := by decide +kernel
theorem dX9_takeFirst_95 : decode cX9_takeFirst 95 = .ok (.iconst 1, 1) := by decide +kernel
theorem dX9_takeFirst_96 : decode cX9_takeFirst 96 = .ok (.aload_n 0, 1) := by decide +kernel
theorem dX9_takeFirst_97 : decode cX9_takeFirst 97 = .ok (.getfield 22, 3) := by decide +kernel
theorem dX9_takeFirst_100 : decode cX9_takeFirst 100 = .ok (.iconst 0, 1) := by decide +kernel
theorem dX9_takeFirst_101 : decode cX9_takeFirst 101 = .ok (.aload_n 0, 1) := by decide +kernel
theorem dX9_takeFirst_102 : decode cX9_takeFirst 102 = .ok (.getfield 49, 3) := by decide +kernel
theorem dX9_takeFirst_105 : decode cX9_takeFirst 105 = .ok (.invokestatic 93, 3) := by decide +kernel
theorem dX9_takeFirst_108 : decode cX9_takeFirst 108 = .ok (.aload_n 0, 1) := by decide +kernel
theorem dX9_takeFirst_109 : decode cX9_takeFirst 109 = .ok (.getfield 41, 3) := by decide +kernel
theorem dX9_takeFirst_112 : decode cX9_takeFirst 112 = .ok (.iload_n 3, 1) := by decide +kernel
theorem dX9_takeFirst_113 : decode cX9_takeFirst 113 = .ok (.invokevirtual 105, 3) := by decide +kernel
theorem dX9_takeFirst_116 : decode cX9_takeFirst 116 = .ok (.aload_n 0, 1) := by decide +kernel
theorem dX9_takeFirst_117 : decode cX9_takeFirst 117 = .ok (.getfield 37, 3) := by decide +kernel
theorem dX9_takeFirst_120 : decode cX9_takeFirst 120 = .ok (.invokevirtual 109, 3) := by decide +kernel
theorem dX9_takeFirst_123 : decode cX9_takeFirst 123 = .ok (.if_icmp .ne 26, 3) := by decide +kernel
theorem dX9_takeFirst_126 : decode cX9_takeFirst 126 = .ok (.aload_n 0, 1) := by decide +kernel
theorem dX9_takeFirst_127 : decode cX9_takeFirst 127 = .ok (.getfield 25, 3) := by decide +kernel
theorem dX9_takeFirst_130 : decode cX9_takeFirst 130 = .ok (.aload_n 0, 1) := by decide +kernel
theorem dX9_takeFirst_131 : decode cX9_takeFirst 131 = .ok (.getfield 45, 3) := by decide +kernel
theorem dX9_takeFirst_134 : decode cX9_takeFirst 134 = .ok (.lload_n 1, 1) := by decide +kernel
theorem dX9_takeFirst_135 : decode cX9_takeFirst 135 = .ok (.lastore, 1) := by decide +kernel
theorem dX9_takeFirst_136 : decode cX9_takeFirst 136 = .ok (.aload_n 0, 1) := by decide +kernel
theorem dX9_takeFirst_137 : decode cX9_takeFirst 137 = .ok (.dup, 1) := by decide +kernel
theorem dX9_takeFirst_138 : decode cX9_takeFirst 138 = .ok (.getfield 45, 3) := by decide +kernel
theorem dX9_takeFirst_141 : decode cX9_takeFirst 141 = .ok (.iconst 1, 1) := by decide +kernel
theorem dX9_takeFirst_142 : decode cX9_takeFirst 142 = .ok (.iadd, 1) := by decide +kernel
theorem dX9_takeFirst_143 : decode cX9_takeFirst 143 = .ok (.putfield 45, 3) := by decide +kernel
theorem dX9_takeFirst_146 : decode cX9_takeFirst 146 = .ok (.goto 24, 3) := by decide +kernel
theorem dX9_takeFirst_149 : decode cX9_takeFirst 149 = .ok (.iload 5, 2) := by decide +kernel
theorem dX9_takeFirst_151 : decode cX9_takeFirst 151 = .ok (.bipush 6, 2) := by decide +kernel
theorem dX9_takeFirst_153 : decode cX9_takeFirst 153 = .ok (.if_icmp .ge 17, 3) := by decide +kernel
theorem dX9_takeFirst_156 : decode cX9_takeFirst 156 = .ok (.aload_n 0, 1) := by decide +kernel
theorem dX9_takeFirst_157 : decode cX9_takeFirst 157 = .ok (.lload_n 1, 1) := by decide +kernel
theorem dX9_takeFirst_158 : decode cX9_takeFirst 158 = .ok (.ldc2_w 112, 3) := by decide +kernel
theorem dX9_takeFirst_161 : decode cX9_takeFirst 161 = .ok (.land, 1) := by decide +kernel
theorem dX9_takeFirst_162 : decode cX9_takeFirst 162 = .ok (.iload_n 3, 1) := by decide +kernel
theorem dX9_takeFirst_163 : decode cX9_takeFirst 163 = .ok (.iload 4, 2) := by decide +kernel
theorem dX9_takeFirst_165 : decode cX9_takeFirst 165 = .ok (.iload 5, 2) := by decide +kernel
theorem dX9_takeFirst_167 : decode cX9_takeFirst 167 = .ok (.invokevirtual 114, 3) := by decide +kernel
theorem dX9_takeFirst_170 : decode cX9_takeFirst 170 = .ok (.return_, 1) := by decide +kernel
theorem dX9_goOn_0 : decode cX9_goOn 0 = .ok (.aload_n 0, 1) := by decide +kernel
theorem dX9_goOn_1 : decode cX9_goOn 1 = .ok (.getfield 41, 3) := by decide +kernel
theorem dX9_goOn_4 : decode cX9_goOn 4 = .ok (.iload_n 3, 1) := by decide +kernel
theorem dX9_goOn_5 : decode cX9_goOn 5 = .ok (.invokevirtual 105, 3) := by decide +kernel
theorem dX9_goOn_8 : decode cX9_goOn 8 = .ok (.istore 6, 2) := by decide +kernel
theorem dX9_goOn_10 : decode cX9_goOn 10 = .ok (.aload_n 0, 1) := by decide +kernel
theorem dX9_goOn_11 : decode cX9_goOn 11 = .ok (.getfield 41, 3) := by decide +kernel
theorem dX9_goOn_14 : decode cX9_goOn 14 = .ok (.iload_n 3, 1) := by decide +kernel
theorem dX9_goOn_15 : decode cX9_goOn 15 = .ok (.invokevirtual 117, 3) := by decide +kernel
theorem dX9_goOn_18 : decode cX9_goOn 18 = .ok (.istore 7, 2) := by decide +kernel
theorem dX9_goOn_20 : decode cX9_goOn 20 = .ok (.aload_n 0, 1) := by decide +kernel
theorem dX9_goOn_21 : decode cX9_goOn 21 = .ok (.getfield 41, 3) := by decide +kernel
theorem dX9_goOn_24 : decode cX9_goOn 24 = .ok (.iload_n 3, 1) := by decide +kernel
theorem dX9_goOn_25 : decode cX9_goOn 25 = .ok (.invokevirtual 120, 3) := by decide +kernel
theorem dX9_goOn_28 : decode cX9_goOn 28 = .ok (.istore 8, 2) := by decide +kernel
theorem dX9_goOn_30 : decode cX9_goOn 30 = .ok (.iconst 0, 1) := by decide +kernel
theorem dX9_goOn_31 : decode cX9_goOn 31 = .ok (.istore 9, 2) := by decide +kernel
theorem dX9_goOn_33 : decode cX9_goOn 33 = .ok (.iload 9, 2) := by decide +kernel
theorem dX9_goOn_35 : decode cX9_goOn 35 = .ok (.aload_n 0, 1) := by decide +kernel
theorem dX9_goOn_36 : decode cX9_goOn 36 = .ok (.getfield 37, 3) := by decide +kernel
theorem dX9_goOn_39 : decode cX9_goOn 39 = .ok (.getfield 123, 3) := by decide +kernel
theorem dX9_goOn_42 : decode cX9_goOn 42 = .ok (.if_icmp .ge 171, 3) := by decide +kernel
theorem dX9_goOn_45 : decode cX9_goOn 45 = .ok (.aload_n 0, 1) := by decide +kernel
theorem dX9_goOn_46 : decode cX9_goOn 46 = .ok (.getfield 37, 3) := by decide +kernel
theorem dX9_goOn_49 : decode cX9_goOn 49 = .ok (.iload 9, 2) := by decide +kernel
theorem dX9_goOn_51 : decode cX9_goOn 51 = .ok (.iload 7, 2) := by decide +kernel
theorem dX9_goOn_53 : decode cX9_goOn 53 = .ok (.invokevirtual 84, 3) := by decide +kernel
theorem dX9_goOn_56 : decode cX9_goOn 56 = .ok (.istore 10, 2) := by decide +kernel
theorem dX9_goOn_58 : decode cX9_goOn 58 = .ok (.iload 6, 2) := by decide +kernel
theorem dX9_goOn_60 : decode cX9_goOn 60 = .ok (.aload_n 0, 1) := by decide +kernel
theorem dX9_goOn_61 : decode cX9_goOn 61 = .ok (.getfield 37, 3) := by decide +kernel
theorem dX9_goOn_64 : decode cX9_goOn 64 = .ok (.getfield 124, 3) := by decide +kernel
theorem dX9_goOn_67 : decode cX9_goOn 67 = .ok (.iload 9, 2) := by decide +kernel
theorem dX9_goOn_69 : decode cX9_goOn 69 = .ok (.iaload, 1) := by decide +kernel
theorem dX9_goOn_70 : decode cX9_goOn 70 = .ok (.iand, 1) := by decide +kernel
theorem dX9_goOn_71 : decode cX9_goOn 71 = .ok (.ifCond .ne 136, 3) := by decide +kernel
theorem dX9_goOn_74 : decode cX9_goOn 74 = .ok (.iload 10, 2) := by decide +kernel
theorem dX9_goOn_76 : decode cX9_goOn 76 = .ok (.aload_n 0, 1) := by decide +kernel
theorem dX9_goOn_77 : decode cX9_goOn 77 = .ok (.getfield 41, 3) := by decide +kernel
theorem dX9_goOn_80 : decode cX9_goOn 80 = .ok (.getfield 127, 3) := by decide +kernel
theorem dX9_goOn_83 : decode cX9_goOn 83 = .ok (.if_icmp .le 6, 3) := by decide +kernel
theorem dX9_goOn_86 : decode cX9_goOn 86 = .ok (.goto 121, 3) := by decide +kernel
theorem dX9_goOn_89 : decode cX9_goOn 89 = .ok (.aload_n 0, 1) := by decide +kernel
theorem dX9_goOn_90 : decode cX9_goOn 90 = .ok (.getfield 41, 3) := by decide +kernel
theorem dX9_goOn_93 : decode cX9_goOn 93 = .ok (.iload 6, 2) := by decide +kernel
theorem dX9_goOn_95 : decode cX9_goOn 95 = .ok (.iload 8, 2) := by decide +kernel
theorem dX9_goOn_97 : decode cX9_goOn 97 = .ok (.iload 9, 2) := by decide +kernel
theorem dX9_goOn_99 : decode cX9_goOn 99 = .ok (.invokevirtual 130, 3) := by decide +kernel
theorem dX9_goOn_102 : decode cX9_goOn 102 = .ok (.istore 11, 2) := by decide +kernel
theorem dX9_goOn_104 : decode cX9_goOn 104 = .ok (.iload 11, 2) := by decide +kernel
theorem dX9_goOn_106 : decode cX9_goOn 106 = .ok (.ifCond .lt 101, 3) := by decide +kernel
theorem dX9_goOn_109 : decode cX9_goOn 109 = .ok (.aload_n 0, 1) := by decide +kernel
theorem dX9_goOn_110 : decode cX9_goOn 110 = .ok (.getfield 41, 3) := by decide +kernel
theorem dX9_goOn_113 : decode cX9_goOn 113 = .ok (.getfield 134, 3) := by decide +kernel
theorem dX9_goOn_116 : decode cX9_goOn 116 = .ok (.iload 11, 2) := by decide +kernel
theorem dX9_goOn_118 : decode cX9_goOn 118 = .ok (.iaload, 1) := by decide +kernel
theorem dX9_goOn_119 : decode cX9_goOn 119 = .ok (.ldc 137, 2) := by decide +kernel
theorem dX9_goOn_121 : decode cX9_goOn 121 = .ok (.if_icmp .lt 6, 3) := by decide +kernel
theorem dX9_goOn_124 : decode cX9_goOn 124 = .ok (.goto 83, 3) := by decide +kernel
theorem dX9_goOn_127 : decode cX9_goOn 127 = .ok (.iload 4, 2) := by decide +kernel
theorem dX9_goOn_129 : decode cX9_goOn 129 = .ok (.aload_n 0, 1) := by decide +kernel
theorem dX9_goOn_130 : decode cX9_goOn 130 = .ok (.getfield 37, 3) := by decide +kernel
theorem dX9_goOn_133 : decode cX9_goOn 133 = .ok (.iload 9, 2) := by decide +kernel
theorem dX9_goOn_135 : decode cX9_goOn 135 = .ok (.iload 8, 2) := by decide +kernel
theorem dX9_goOn_137 : decode cX9_goOn 137 = .ok (.invokevirtual 75, 3) := by decide +kernel
theorem dX9_goOn_140 : decode cX9_goOn 140 = .ok (.iadd, 1) := by decide +kernel
theorem dX9_goOn_141 : decode cX9_goOn 141 = .ok (.aload_n 0, 1) := by decide +kernel
theorem dX9_goOn_142 : decode cX9_goOn 142 = .ok (.getfield 41, 3) := by decide +kernel
theorem dX9_goOn_145 : decode cX9_goOn 145 = .ok (.getfield 81, 3) := by decide +kernel
theorem dX9_goOn_148 : decode cX9_goOn 148 = .ok (.iload 10, 2) := by decide +kernel
theorem dX9_goOn_150 : decode cX9_goOn 150 = .ok (.imul, 1) := by decide +kernel
theorem dX9_goOn_151 : decode cX9_goOn 151 = .ok (.iadd, 1) := by decide +kernel
theorem dX9_goOn_152 : decode cX9_goOn 152 = .ok (.istore 12, 2) := by decide +kernel
theorem dX9_goOn_154 : decode cX9_goOn 154 = .ok (.iload 9, 2) := by decide +kernel
theorem dX9_goOn_156 : decode cX9_goOn 156 = .ok (.iconst 1, 1) := by decide +kernel
theorem dX9_goOn_157 : decode cX9_goOn 157 = .ok (.iadd, 1) := by decide +kernel
theorem dX9_goOn_158 : decode cX9_goOn 158 = .ok (.i2l, 1) := by decide +kernel
theorem dX9_goOn_159 : decode cX9_goOn 159 = .ok (.bipush 8, 2) := by decide +kernel
theorem dX9_goOn_161 : decode cX9_goOn 161 = .ok (.iconst 5, 1) := by decide +kernel
theorem dX9_goOn_162 : decode cX9_goOn 162 = .ok (.iload 5, 2) := by decide +kernel
theorem dX9_goOn_164 : decode cX9_goOn 164 = .ok (.isub, 1) := by decide +kernel
theorem dX9_goOn_165 : decode cX9_goOn 165 = .ok (.imul, 1) := by decide +kernel
theorem dX9_goOn_166 : decode cX9_goOn 166 = .ok (.lshl, 1) := by decide +kernel
theorem dX9_goOn_167 : decode cX9_goOn 167 = .ok (.lstore 13, 2) := by decide +kernel
theorem dX9_goOn_169 : decode cX9_goOn 169 = .ok (.iload 12, 2) := by decide +kernel
theorem dX9_goOn_171 : decode cX9_goOn 171 = .ok (.aload_n 0, 1) := by decide +kernel
theorem dX9_goOn_172 : decode cX9_goOn 172 = .ok (.getfield 41, 3) := by decide +kernel
theorem dX9_goOn_175 : decode cX9_goOn 175 = .ok (.getfield 134, 3) := by decide +kernel
theorem dX9_goOn_178 : decode cX9_goOn 178 = .ok (.iload 11, 2) := by decide +kernel
theorem dX9_goOn_180 : decode cX9_goOn 180 = .ok (.iaload, 1) := by decide +kernel
theorem dX9_goOn_181 : decode cX9_goOn 181 = .ok (.iadd, 1) := by decide +kernel
theorem dX9_goOn_182 : decode cX9_goOn 182 = .ok (.i2l, 1) := by decide +kernel
theorem dX9_goOn_183 : decode cX9_goOn 183 = .ok (.bipush 48, 2) := by decide +kernel
theorem dX9_goOn_185 : decode cX9_goOn 185 = .ok (.lshl, 1) := by decide +kernel
theorem dX9_goOn_186 : decode cX9_goOn 186 = .ok (.lstore 15, 2) := by decide +kernel
theorem dX9_goOn_188 : decode cX9_goOn 188 = .ok (.aload_n 0, 1) := by decide +kernel
theorem dX9_goOn_189 : decode cX9_goOn 189 = .ok (.lload 15, 2) := by decide +kernel
theorem dX9_goOn_191 : decode cX9_goOn 191 = .ok (.lload_n 1, 1) := by decide +kernel
theorem dX9_goOn_192 : decode cX9_goOn 192 = .ok (.lor, 1) := by decide +kernel
theorem dX9_goOn_193 : decode cX9_goOn 193 = .ok (.lload 13, 2) := by decide +kernel
theorem dX9_goOn_195 : decode cX9_goOn 195 = .ok (.lor, 1) := by decide +kernel
theorem dX9_goOn_196 : decode cX9_goOn 196 = .ok (.iload 11, 2) := by decide +kernel
theorem dX9_goOn_198 : decode cX9_goOn 198 = .ok (.iload 12, 2) := by decide +kernel
theorem dX9_goOn_200 : decode cX9_goOn 200 = .ok (.iload 5, 2) := by decide +kernel
theorem dX9_goOn_202 : decode cX9_goOn 202 = .ok (.iconst 1, 1) := by decide +kernel
theorem dX9_goOn_203 : decode cX9_goOn 203 = .ok (.iadd, 1) := by decide +kernel
theorem dX9_goOn_204 : decode cX9_goOn 204 = .ok (.invokevirtual 58, 3) := by decide +kernel
theorem dX9_goOn_207 : decode cX9_goOn 207 = .ok (.iinc 9 1, 3) := by decide +kernel
theorem dX9_goOn_210 : decode cX9_goOn 210 = .ok (.goto (-177), 3) := by decide +kernel
theorem dX9_goOn_213 : decode cX9_goOn 213 = .ok (.return_, 1) := by decide +kernel
theorem dX9_enqueue_0 : decode cX9_enqueue 0 = .ok (.bipush 30, 2) := by decide +kernel
theorem dX9_enqueue_2 : decode cX9_enqueue 2 = .ok (.aload_n 0, 1) := by decide +kernel
theorem dX9_enqueue_3 : decode cX9_enqueue 3 = .ok (.getfield 45, 3) := by decide +kernel
theorem dX9_enqueue_6 : decode cX9_enqueue 6 = .ok (.isub, 1) := by decide +kernel
theorem dX9_enqueue_7 : decode cX9_enqueue 7 = .ok (.istore 6, 2) := by decide +kernel
theorem dX9_enqueue_9 : decode cX9_enqueue 9 = .ok (.aload_n 0, 1) := by decide +kernel
theorem dX9_enqueue_10 : decode cX9_enqueue 10 = .ok (.getfield 49, 3) := by decide +kernel
theorem dX9_enqueue_13 : decode cX9_enqueue 13 = .ok (.iload 6, 2) := by decide +kernel
theorem dX9_enqueue_15 : decode cX9_enqueue 15 = .ok (.if_icmp .lt 31, 3) := by decide +kernel
theorem dX9_enqueue_18 : decode cX9_enqueue 18 = .ok (.iload 6, 2) := by decide +kernel
theorem dX9_enqueue_20 : decode cX9_enqueue 20 = .ok (.ifCond .le 17, 3) := by decide +kernel
theorem dX9_enqueue_23 : decode cX9_enqueue 23 = .ok (.lload_n 1, 1) := by decide +kernel
theorem dX9_enqueue_24 : decode cX9_enqueue 24 = .ok (.aload_n 0, 1) := by decide +kernel
theorem dX9_enqueue_25 : decode cX9_enqueue 25 = .ok (.getfield 9, 3) := by decide +kernel
theorem dX9_enqueue_28 : decode cX9_enqueue 28 = .ok (.iload 6, 2) := by decide +kernel
theorem dX9_enqueue_30 : decode cX9_enqueue 30 = .ok (.iconst 1, 1) := by decide +kernel
theorem dX9_enqueue_31 : decode cX9_enqueue 31 = .ok (.isub, 1) := by decide +kernel
theorem dX9_enqueue_32 : decode cX9_enqueue 32 = .ok (.laload, 1) := by decide +kernel
theorem dX9_enqueue_33 : decode cX9_enqueue 33 = .ok (.lcmp, 1) := by decide +kernel
theorem dX9_enqueue_34 : decode cX9_enqueue 34 = .ok (.ifCond .lt 4, 3) := by decide +kernel
theorem dX9_enqueue_37 : decode cX9_enqueue 37 = .ok (.return_, 1) := by decide +kernel
theorem dX9_enqueue_38 : decode cX9_enqueue 38 = .ok (.aload_n 0, 1) := by decide +kernel
theorem dX9_enqueue_39 : decode cX9_enqueue 39 = .ok (.iload 6, 2) := by decide +kernel
theorem dX9_enqueue_41 : decode cX9_enqueue 41 = .ok (.iconst 1, 1) := by decide +kernel
theorem dX9_enqueue_42 : decode cX9_enqueue 42 = .ok (.isub, 1) := by decide +kernel
theorem dX9_enqueue_43 : decode cX9_enqueue 43 = .ok (.putfield 49, 3) := by decide +kernel
theorem dX9_enqueue_46 : decode cX9_enqueue 46 = .ok (.aload_n 0, 1) := by decide +kernel
theorem dX9_enqueue_47 : decode cX9_enqueue 47 = .ok (.getfield 49, 3) := by decide +kernel
theorem dX9_enqueue_50 : decode cX9_enqueue 50 = .ok (.istore 7, 2) := by decide +kernel
theorem dX9_enqueue_52 : decode cX9_enqueue 52 = .ok (.iload 7, 2) := by decide +kernel
theorem dX9_enqueue_54 : decode cX9_enqueue 54 = .ok (.ifCond .le 87, 3) := by decide +kernel
theorem dX9_enqueue_57 : decode cX9_enqueue 57 = .ok (.aload_n 0, 1) := by decide +kernel
theorem dX9_enqueue_58 : decode cX9_enqueue 58 = .ok (.getfield 9, 3) := by decide +kernel
theorem dX9_enqueue_61 : decode cX9_enqueue 61 = .ok (.iload 7, 2) := by decide +kernel
theorem dX9_enqueue_63 : decode cX9_enqueue 63 = .ok (.iconst 1, 1) := by decide +kernel
theorem dX9_enqueue_64 : decode cX9_enqueue 64 = .ok (.isub, 1) := by decide +kernel
theorem dX9_enqueue_65 : decode cX9_enqueue 65 = .ok (.laload, 1) := by decide +kernel
theorem dX9_enqueue_66 : decode cX9_enqueue 66 = .ok (.lload_n 1, 1) := by decide +kernel
theorem dX9_enqueue_67 : decode cX9_enqueue 67 = .ok (.lcmp, 1) := by decide +kernel
theorem dX9_enqueue_68 : decode cX9_enqueue 68 = .ok (.ifCond .le 73, 3) := by decide +kernel
theorem dX9_enqueue_71 : decode cX9_enqueue 71 = .ok (.aload_n 0, 1) := by decide +kernel
theorem dX9_enqueue_72 : decode cX9_enqueue 72 = .ok (.getfield 9, 3) := by decide +kernel
theorem dX9_enqueue_75 : decode cX9_enqueue 75 = .ok (.iload 7, 2) := by decide +kernel
theorem dX9_enqueue_77 : decode cX9_enqueue 77 = .ok (.aload_n 0, 1) := by decide +kernel
theorem dX9_enqueue_78 : decode cX9_enqueue 78 = .ok (.getfield 9, 3) := by decide +kernel
theorem dX9_enqueue_81 : decode cX9_enqueue 81 = .ok (.iload 7, 2) := by decide +kernel
theorem dX9_enqueue_83 : decode cX9_enqueue 83 = .ok (.iconst 1, 1) := by decide +kernel
theorem dX9_enqueue_84 : decode cX9_enqueue 84 = .ok (.isub, 1) := by decide +kernel
theorem dX9_enqueue_85 : decode cX9_enqueue 85 = .ok (.laload, 1) := by decide +kernel
theorem dX9_enqueue_86 : decode cX9_enqueue 86 = .ok (.lastore, 1) := by decide +kernel
theorem dX9_enqueue_87 : decode cX9_enqueue 87 = .ok (.aload_n 0, 1) := by decide +kernel
theorem dX9_enqueue_88 : decode cX9_enqueue 88 = .ok (.getfield 15, 3) := by decide +kernel
theorem dX9_enqueue_91 : decode cX9_enqueue 91 = .ok (.iload 7, 2) := by decide +kernel
theorem dX9_enqueue_93 : decode cX9_enqueue 93 = .ok (.aload_n 0, 1) := by decide +kernel
theorem dX9_enqueue_94 : decode cX9_enqueue 94 = .ok (.getfield 15, 3) := by decide +kernel
theorem dX9_enqueue_97 : decode cX9_enqueue 97 = .ok (.iload 7, 2) := by decide +kernel
theorem dX9_enqueue_99 : decode cX9_enqueue 99 = .ok (.iconst 1, 1) := by decide +kernel
theorem dX9_enqueue_100 : decode cX9_enqueue 100 = .ok (.isub, 1) := by decide +kernel
theorem dX9_enqueue_101 : decode cX9_enqueue 101 = .ok (.iaload, 1) := by decide +kernel
theorem dX9_enqueue_102 : decode cX9_enqueue 102 = .ok (.iastore, 1) := by decide +kernel
theorem dX9_enqueue_103 : decode cX9_enqueue 103 = .ok (.aload_n 0, 1) := by decide +kernel
theorem dX9_enqueue_104 : decode cX9_enqueue 104 = .ok (.getfield 19, 3) := by decide +kernel
theorem dX9_enqueue_107 : decode cX9_enqueue 107 = .ok (.iload 7, 2) := by decide +kernel
theorem dX9_enqueue_109 : decode cX9_enqueue 109 = .ok (.aload_n 0, 1) := by decide +kernel
theorem dX9_enqueue_110 : decode cX9_enqueue 110 = .ok (.getfield 19, 3) := by decide +kernel
theorem dX9_enqueue_113 : decode cX9_enqueue 113 = .ok (.iload 7, 2) := by decide +kernel
theorem dX9_enqueue_115 : decode cX9_enqueue 115 = .ok (.iconst 1, 1) := by decide +kernel
theorem dX9_enqueue_116 : decode cX9_enqueue 116 = .ok (.isub, 1) := by decide +kernel
theorem dX9_enqueue_117 : decode cX9_enqueue 117 = .ok (.iaload, 1) := by decide +kernel
theorem dX9_enqueue_118 : decode cX9_enqueue 118 = .ok (.iastore, 1) := by decide +kernel
theorem dX9_enqueue_119 : decode cX9_enqueue 119 = .ok (.aload_n 0, 1) := by decide +kernel
theorem dX9_enqueue_120 : decode cX9_enqueue 120 = .ok (.getfield 22, 3) := by decide +kernel
theorem dX9_enqueue_123 : decode cX9_enqueue 123 = .ok (.iload 7, 2) := by decide +kernel
theorem dX9_enqueue_125 : decode cX9_enqueue 125 = .ok (.aload_n 0, 1) := by decide +kernel
theorem dX9_enqueue_126 : decode cX9_enqueue 126 = .ok (.getfield 22, 3) := by decide +kernel
theorem dX9_enqueue_129 : decode cX9_enqueue 129 = .ok (.iload 7, 2) := by decide +kernel
theorem dX9_enqueue_131 : decode cX9_enqueue 131 = .ok (.iconst 1, 1) := by decide +kernel
theorem dX9_enqueue_132 : decode cX9_enqueue 132 = .ok (.isub, 1) := by decide +kernel
theorem dX9_enqueue_133 : decode cX9_enqueue 133 = .ok (.iaload, 1) := by decide +kernel
theorem dX9_enqueue_134 : decode cX9_enqueue 134 = .ok (.iastore, 1) := by decide +kernel
theorem dX9_enqueue_135 : decode cX9_enqueue 135 = .ok (.iinc 7 (-1), 3) := by decide +kernel
theorem dX9_enqueue_138 : decode cX9_enqueue 138 = .ok (.goto (-86), 3) := by decide +kernel
theorem dX9_enqueue_141 : decode cX9_enqueue 141 = .ok (.aload_n 0, 1) := by decide +kernel
theorem dX9_enqueue_142 : decode cX9_enqueue 142 = .ok (.getfield 9, 3) := by decide +kernel
theorem dX9_enqueue_145 : decode cX9_enqueue 145 = .ok (.iload 7, 2) := by decide +kernel
theorem dX9_enqueue_147 : decode cX9_enqueue 147 = .ok (.lload_n 1, 1) := by decide +kernel
theorem dX9_enqueue_148 : decode cX9_enqueue 148 = .ok (.lastore, 1) := by decide +kernel
theorem dX9_enqueue_149 : decode cX9_enqueue 149 = .ok (.aload_n 0, 1) := by decide +kernel
theorem dX9_enqueue_150 : decode cX9_enqueue 150 = .ok (.getfield 15, 3) := by decide +kernel
theorem dX9_enqueue_153 : decode cX9_enqueue 153 = .ok (.iload 7, 2) := by decide +kernel
theorem dX9_enqueue_155 : decode cX9_enqueue 155 = .ok (.iload_n 3, 1) := by decide +kernel
theorem dX9_enqueue_156 : decode cX9_enqueue 156 = .ok (.iastore, 1) := by decide +kernel
theorem dX9_enqueue_157 : decode cX9_enqueue 157 = .ok (.aload_n 0, 1) := by decide +kernel
theorem dX9_enqueue_158 : decode cX9_enqueue 158 = .ok (.getfield 19, 3) := by decide +kernel
theorem dX9_enqueue_161 : decode cX9_enqueue 161 = .ok (.iload 7, 2) := by decide +kernel
theorem dX9_enqueue_163 : decode cX9_enqueue 163 = .ok (.iload 4, 2) := by decide +kernel
theorem dX9_enqueue_165 : decode cX9_enqueue 165 = .ok (.iastore, 1) := by decide +kernel
theorem dX9_enqueue_166 : decode cX9_enqueue 166 = .ok (.aload_n 0, 1) := by decide +kernel
theorem dX9_enqueue_167 : decode cX9_enqueue 167 = .ok (.getfield 22, 3) := by decide +kernel
theorem dX9_enqueue_170 : decode cX9_enqueue 170 = .ok (.iload 7, 2) := by decide +kernel
theorem dX9_enqueue_172 : decode cX9_enqueue 172 = .ok (.iload 5, 2) := by decide +kernel
theorem dX9_enqueue_174 : decode cX9_enqueue 174 = .ok (.iastore, 1) := by decide +kernel
theorem dX9_enqueue_175 : decode cX9_enqueue 175 = .ok (.aload_n 0, 1) := by decide +kernel
theorem dX9_enqueue_176 : decode cX9_enqueue 176 = .ok (.dup, 1) := by decide +kernel
theorem dX9_enqueue_177 : decode cX9_enqueue 177 = .ok (.getfield 49, 3) := by decide +kernel
theorem dX9_enqueue_180 : decode cX9_enqueue 180 = .ok (.iconst 1, 1) := by decide +kernel
theorem dX9_enqueue_181 : decode cX9_enqueue 181 = .ok (.iadd, 1) := by decide +kernel
theorem dX9_enqueue_182 : decode cX9_enqueue 182 = .ok (.putfield 49, 3) := by decide +kernel
theorem dX9_enqueue_185 : decode cX9_enqueue 185 = .ok (.return_, 1) := by decide +kernel
theorem dX10_init_0 : decode cX10_init 0 = .ok (.aload_n 0, 1) := by decide +kernel
theorem dX10_init_1 : decode cX10_init 1 = .ok (.invokespecial 3, 3) := by decide +kernel
theorem dX10_init_4 : decode cX10_init 4 = .ok (.aload_n 0, 1) := by decide +kernel
theorem dX10_init_5 : decode cX10_init 5 = .ok (.new 9, 3) := by decide +kernel
theorem dX10_init_8 : decode cX10_init 8 = .ok (.dup, 1) := by decide +kernel
theorem dX10_init_9 : decode cX10_init 9 = .ok (.invokespecial 11, 3) := by decide +kernel
theorem dX10_init_12 : decode cX10_init 12 = .ok (.putfield 12, 3) := by decide +kernel
theorem dX10_init_15 : decode cX10_init 15 = .ok (.aload_n 0, 1) := by decide +kernel
theorem dX10_init_16 : decode cX10_init 16 = .ok (.new 9, 3) := by decide +kernel
theorem dX10_init_19 : decode cX10_init 19 = .ok (.dup, 1) := by decide +kernel
theorem dX10_init_20 : decode cX10_init 20 = .ok (.invokespecial 11, 3) := by decide +kernel
theorem dX10_init_23 : decode cX10_init 23 = .ok (.putfield 16, 3) := by decide +kernel
theorem dX10_init_26 : decode cX10_init 26 = .ok (.aload_n 0, 1) := by decide +kernel
theorem dX10_init_27 : decode cX10_init 27 = .ok (.new 9, 3) := by decide +kernel
theorem dX10_init_30 : decode cX10_init 30 = .ok (.dup, 1) := by decide +kernel
theorem dX10_init_31 : decode cX10_init 31 = .ok (.invokespecial 11, 3) := by decide +kernel
theorem dX10_init_34 : decode cX10_init 34 = .ok (.putfield 19, 3) := by decide +kernel
theorem dX10_init_37 : decode cX10_init 37 = .ok (.aload_n 0, 1) := by decide +kernel
theorem dX10_init_38 : decode cX10_init 38 = .ok (.new 22, 3) := by decide +kernel
theorem dX10_init_41 : decode cX10_init 41 = .ok (.dup, 1) := by decide +kernel
theorem dX10_init_42 : decode cX10_init 42 = .ok (.aload_n 0, 1) := by decide +kernel
theorem dX10_init_43 : decode cX10_init 43 = .ok (.getfield 16, 3) := by decide +kernel
theorem dX10_init_46 : decode cX10_init 46 = .ok (.invokespecial 24, 3) := by decide +kernel
theorem dX10_init_49 : decode cX10_init 49 = .ok (.putfield 27, 3) := by decide +kernel
theorem dX10_init_52 : decode cX10_init 52 = .ok (.aload_n 0, 1) := by decide +kernel
theorem dX10_init_53 : decode cX10_init 53 = .ok (.new 31, 3) := by decide +kernel
theorem dX10_init_56 : decode cX10_init 56 = .ok (.dup, 1) := by decide +kernel
theorem dX10_init_57 : decode cX10_init 57 = .ok (.aload_n 0, 1) := by decide +kernel
theorem dX10_init_58 : decode cX10_init 58 = .ok (.getfield 16, 3) := by decide +kernel
theorem dX10_init_61 : decode cX10_init 61 = .ok (.invokespecial 33, 3) := by decide +kernel
theorem dX10_init_64 : decode cX10_init 64 = .ok (.putfield 34, 3) := by decide +kernel
theorem dX10_init_67 : decode cX10_init 67 = .ok (.aload_n 0, 1) := by decide +kernel
theorem dX10_init_68 : decode cX10_init 68 = .ok (.new 38, 3) := by decide +kernel
theorem dX10_init_71 : decode cX10_init 71 = .ok (.dup, 1) := by decide +kernel
theorem dX10_init_72 : decode cX10_init 72 = .ok (.aload_n 0, 1) := by decide +kernel
theorem dX10_init_73 : decode cX10_init 73 = .ok (.getfield 34, 3) := by decide +kernel
theorem dX10_init_76 : decode cX10_init 76 = .ok (.invokespecial 40, 3) := by decide +kernel
theorem dX10_init_79 : decode cX10_init 79 = .ok (.putfield 43, 3) := by decide +kernel
theorem dX10_init_82 : decode cX10_init 82 = .ok (.aload_n 0, 1) := by decide +kernel
theorem dX10_init_83 : decode cX10_init 83 = .ok (.new 47, 3) := by decide +kernel
theorem dX10_init_86 : decode cX10_init 86 = .ok (.dup, 1) := by decide +kernel
theorem dX10_init_87 : decode cX10_init 87 = .ok (.aload_n 0, 1) := by decide +kernel
theorem dX10_init_88 : decode cX10_init 88 = .ok (.getfield 34, 3) := by decide +kernel
theorem dX10_init_91 : decode cX10_init 91 = .ok (.aload_n 0, 1) := by decide +kernel
theorem dX10_init_92 : decode cX10_init 92 = .ok (.getfield 43, 3) := by decide +kernel
theorem dX10_init_95 : decode cX10_init 95 = .ok (.invokespecial 49, 3) := by decide +kernel
theorem dX10_init_98 : decode cX10_init 98 = .ok (.putfield 52, 3) := by decide +kernel
theorem dX10_init_101 : decode cX10_init 101 = .ok (.aload_n 0, 1) := by decide +kernel
theorem dX10_init_102 : decode cX10_init 102 = .ok (.new 56, 3) := by decide +kernel
theorem dX10_init_105 : decode cX10_init 105 = .ok (.dup, 1) := by decide +kernel
theorem dX10_init_106 : decode cX10_init 106 = .ok (.aload_n 0, 1) := by decide +kernel
theorem dX10_init_107 : decode cX10_init 107 = .ok (.getfield 34, 3) := by decide +kernel
theorem dX10_init_110 : decode cX10_init 110 = .ok (.invokespecial 58, 3) := by decide +kernel
theorem dX10_init_113 : decode cX10_init 113 = .ok (.putfield 59, 3) := by decide +kernel
theorem dX10_init_116 : decode cX10_init 116 = .ok (.aload_n 0, 1) := by decide +kernel
theorem dX10_init_117 : decode cX10_init 117 = .ok (.new 63, 3) := by decide +kernel
theorem dX10_init_120 : decode cX10_init 120 = .ok (.dup, 1) := by decide +kernel
theorem dX10_init_121 : decode cX10_init 121 = .ok (.aload_n 0, 1) := by decide +kernel
theorem dX10_init_122 : decode cX10_init 122 = .ok (.getfield 34, 3) := by decide +kernel
theorem dX10_init_125 : decode cX10_init 125 = .ok (.aload_n 0, 1) := by decide +kernel
theorem dX10_init_126 : decode cX10_init 126 = .ok (.getfield 43, 3) := by decide +kernel
theorem dX10_init_129 : decode cX10_init 129 = .ok (.aload_n 0, 1) := by decide +kernel
theorem dX10_init_130 : decode cX10_init 130 = .ok (.getfield 59, 3) := by decide +kernel
theorem dX10_init_133 : decode cX10_init 133 = .ok (.invokespecial 65, 3) := by decide +kernel
theorem dX10_init_136 : decode cX10_init 136 = .ok (.putfield 68, 3) := by decide +kernel
theorem dX10_init_139 : decode cX10_init 139 = .ok (.aload_n 0, 1) := by decide +kernel
theorem dX10_init_140 : decode cX10_init 140 = .ok (.new 72, 3) := by decide +kernel
theorem dX10_init_143 : decode cX10_init 143 = .ok (.dup, 1) := by decide +kernel
theorem dX10_init_144 : decode cX10_init 144 = .ok (.aload_n 0, 1) := by decide +kernel
theorem dX10_init_145 : decode cX10_init 145 = .ok (.getfield 34, 3) := by decide +kernel
theorem dX10_init_148 : decode cX10_init 148 = .ok (.invokespecial 74, 3) := by decide +kernel
theorem dX10_init_151 : decode cX10_init 151 = .ok (.putfield 75, 3) := by decide +kernel
theorem dX10_init_154 : decode cX10_init 154 = .ok (.aload_n 0, 1) := by decide +kernel
theorem dX10_init_155 : decode cX10_init 155 = .ok (.new 79, 3) := by decide +kernel
theorem dX10_init_158 : decode cX10_init 158 = .ok (.dup, 1) := by decide +kernel
theorem dX10_init_159 : decode cX10_init 159 = .ok (.invokespecial 81, 3) := by decide +kernel
theorem dX10_init_162 : decode cX10_init 162 = .ok (.putfield 82, 3) := by decide +kernel
theorem dX10_init_165 : decode cX10_init 165 = .ok (.return_, 1) := by decide +kernel
theorem dX10_feed_0 : decode cX10_feed 0 = .ok (.aload_n 0, 1) := by decide +kernel
theorem dX10_feed_1 : decode cX10_feed 1 = .ok (.getfield 27, 3) := by decide +kernel
theorem dX10_feed_4 : decode cX10_feed 4 = .ok (.getfield 86, 3) := by decide +kernel
theorem dX10_feed_7 : decode cX10_feed 7 = .ok (.bipush 20, 2) := by decide +kernel
theorem dX10_feed_9 : decode cX10_feed 9 = .ok (.iadd, 1) := by decide +kernel
theorem dX10_feed_10 : decode cX10_feed 10 = .ok (.sipush 400, 3) := by decide +kernel
theorem dX10_feed_13 : decode cX10_feed 13 = .ok (.if_icmp .le 5, 3) := by decide +kernel
theorem dX10_feed_16 : decode cX10_feed 16 = .ok (.iconst (-1), 1) := by decide +kernel
theorem dX10_feed_17 : decode cX10_feed 17 = .ok (.ireturn, 1) := by decide +kernel
theorem dX10_feed_18 : decode cX10_feed 18 = .ok (.aload_n 0, 1) := by decide +kernel
theorem dX10_feed_19 : decode cX10_feed 19 = .ok (.getfield 27, 3) := by decide +kernel
theorem dX10_feed_22 : decode cX10_feed 22 = .ok (.iload_n 1, 1) := by decide +kernel
theorem dX10_feed_23 : decode cX10_feed 23 = .ok (.invokevirtual 90, 3) := by decide +kernel
theorem dX10_feed_26 : decode cX10_feed 26 = .ok (.aload_n 0, 1) := by decide +kernel
theorem dX10_feed_27 : decode cX10_feed 27 = .ok (.getfield 27, 3) := by decide +kernel
theorem dX10_feed_30 : decode cX10_feed 30 = .ok (.iload_n 2, 1) := by decide +kernel
theorem dX10_feed_31 : decode cX10_feed 31 = .ok (.invokevirtual 90, 3) := by decide +kernel
theorem dX10_feed_34 : decode cX10_feed 34 = .ok (.aload_n 0, 1) := by decide +kernel
theorem dX10_feed_35 : decode cX10_feed 35 = .ok (.getfield 27, 3) := by decide +kernel
theorem dX10_feed_38 : decode cX10_feed 38 = .ok (.iload_n 3, 1) := by decide +kernel
theorem dX10_feed_39 : decode cX10_feed 39 = .ok (.invokevirtual 90, 3) := by decide +kernel
theorem dX10_feed_42 : decode cX10_feed 42 = .ok (.aload_n 0, 1) := by decide +kernel
theorem dX10_feed_43 : decode cX10_feed 43 = .ok (.getfield 27, 3) := by decide +kernel
theorem dX10_feed_46 : decode cX10_feed 46 = .ok (.iload 4, 2) := by decide +kernel
theorem dX10_feed_48 : decode cX10_feed 48 = .ok (.invokevirtual 90, 3) := by decide +kernel
theorem dX10_feed_51 : decode cX10_feed 51 = .ok (.aload_n 0, 1) := by decide +kernel
theorem dX10_feed_52 : decode cX10_feed 52 = .ok (.getfield 27, 3) := by decide +kernel
theorem dX10_feed_55 : decode cX10_feed 55 = .ok (.iload 5, 2) := by decide +kernel
theorem dX10_feed_57 : decode cX10_feed 57 = .ok (.invokevirtual 90, 3) := by decide +kernel
theorem dX10_feed_60 : decode cX10_feed 60 = .ok (.aload_n 0, 1) := by decide +kernel
theorem dX10_feed_61 : decode cX10_feed 61 = .ok (.getfield 27, 3) := by decide +kernel
theorem dX10_feed_64 : decode cX10_feed 64 = .ok (.getfield 86, 3) := by decide +kernel
theorem dX10_feed_67 : decode cX10_feed 67 = .ok (.ireturn, 1) := by decide +kernel
theorem dX10_end_0 : decode cX10_end 0 = .ok (.iload_n 1, 1) := by decide +kernel
theorem dX10_end_1 : decode cX10_end 1 = .ok (.ifCond .lt 14, 3) := by decide +kernel
theorem dX10_end_4 : decode cX10_end 4 = .ok (.iload_n 1, 1) := by decide +kernel
theorem dX10_end_5 : decode cX10_end 5 = .ok (.aload_n 0, 1) := by decide +kernel
theorem dX10_end_6 : decode cX10_end 6 = .ok (.getfield 27, 3) := by decide +kernel
theorem dX10_end_9 : decode cX10_end 9 = .ok (.getfield 86, 3) := by decide +kernel
theorem dX10_end_12 : decode cX10_end 12 = .ok (.if_icmp .le 5, 3) := by decide +kernel
theorem dX10_end_15 : decode cX10_end 15 = .ok (.iconst 0, 1) := by decide +kernel
theorem dX10_end_16 : decode cX10_end 16 = .ok (.ireturn, 1) := by decide +kernel
theorem dX10_end_17 : decode cX10_end 17 = .ok (.aload_n 0, 1) := by decide +kernel
theorem dX10_end_18 : decode cX10_end 18 = .ok (.getfield 27, 3) := by decide +kernel
theorem dX10_end_21 : decode cX10_end 21 = .ok (.iload_n 1, 1) := by decide +kernel
theorem dX10_end_22 : decode cX10_end 22 = .ok (.putfield 86, 3) := by decide +kernel
theorem dX10_end_25 : decode cX10_end 25 = .ok (.iconst 1, 1) := by decide +kernel
theorem dX10_end_26 : decode cX10_end 26 = .ok (.ireturn, 1) := by decide +kernel
theorem dX10_book_0 : decode cX10_book 0 = .ok (.aload_n 0, 1) := by decide +kernel
theorem dX10_book_1 : decode cX10_book 1 = .ok (.getfield 19, 3) := by decide +kernel
theorem dX10_book_4 : decode cX10_book 4 = .ok (.aload_n 0, 1) := by decide +kernel
theorem dX10_book_5 : decode cX10_book 5 = .ok (.getfield 16, 3) := by decide +kernel
theorem dX10_book_8 : decode cX10_book 8 = .ok (.invokevirtual 94, 3) := by decide +kernel
theorem dX10_book_11 : decode cX10_book 11 = .ok (.aload_n 0, 1) := by decide +kernel
theorem dX10_book_12 : decode cX10_book 12 = .ok (.getfield 27, 3) := by decide +kernel
theorem dX10_book_15 : decode cX10_book 15 = .ok (.aload_n 0, 1) := by decide +kernel
theorem dX10_book_16 : decode cX10_book 16 = .ok (.getfield 19, 3) := by decide +kernel
theorem dX10_book_19 : decode cX10_book 19 = .ok (.invokevirtual 97, 3) := by decide +kernel
theorem dX10_book_22 : decode cX10_book 22 = .ok (.aload_n 0, 1) := by decide +kernel
theorem dX10_book_23 : decode cX10_book 23 = .ok (.getfield 19, 3) := by decide +kernel
theorem dX10_book_26 : decode cX10_book 26 = .ok (.aload_n 0, 1) := by decide +kernel
theorem dX10_book_27 : decode cX10_book 27 = .ok (.getfield 27, 3) := by decide +kernel
theorem dX10_book_30 : decode cX10_book 30 = .ok (.invokevirtual 100, 3) := by decide +kernel
theorem dX10_book_33 : decode cX10_book 33 = .ok (.istore_n 1, 1) := by decide +kernel
theorem dX10_book_34 : decode cX10_book 34 = .ok (.aload_n 0, 1) := by decide +kernel
theorem dX10_book_35 : decode cX10_book 35 = .ok (.getfield 27, 3) := by decide +kernel
theorem dX10_book_38 : decode cX10_book 38 = .ok (.iconst 0, 1) := by decide +kernel
theorem dX10_book_39 : decode cX10_book 39 = .ok (.putfield 86, 3) := by decide +kernel
theorem dX10_book_42 : decode cX10_book 42 = .ok (.aload_n 0, 1) := by decide +kernel
theorem dX10_book_43 : decode cX10_book 43 = .ok (.invokevirtual 104, 3) := by decide +kernel
theorem dX10_book_46 : decode cX10_book 46 = .ok (.aload_n 0, 1) := by decide +kernel
theorem dX10_book_47 : decode cX10_book 47 = .ok (.invokevirtual 107, 3) := by decide +kernel
theorem dX10_book_50 : decode cX10_book 50 = .ok (.iload_n 1, 1) := by decide +kernel
theorem dX10_book_51 : decode cX10_book 51 = .ok (.ireturn, 1) := by decide +kernel
theorem dX10_fluency_0 : decode cX10_fluency 0 = .ok (.aload_n 0, 1) := by decide +kernel
theorem dX10_fluency_1 : decode cX10_fluency 1 = .ok (.getfield 19, 3) := by decide +kernel
theorem dX10_fluency_4 : decode cX10_fluency 4 = .ok (.aload_n 0, 1) := by decide +kernel
theorem dX10_fluency_5 : decode cX10_fluency 5 = .ok (.getfield 16, 3) := by decide +kernel
theorem dX10_fluency_8 : decode cX10_fluency 8 = .ok (.invokevirtual 94, 3) := by decide +kernel
theorem dX10_fluency_11 : decode cX10_fluency 11 = .ok (.aload_n 0, 1) := by decide +kernel
theorem dX10_fluency_12 : decode cX10_fluency 12 = .ok (.getfield 27, 3) := by decide +kernel
theorem dX10_fluency_15 : decode cX10_fluency 15 = .ok (.aload_n 0, 1) := by decide +kernel
theorem dX10_fluency_16 : decode cX10_fluency 16 = .ok (.getfield 19, 3) := by decide +kernel
theorem dX10_fluency_19 : decode cX10_fluency 19 = .ok (.invokevirtual 110, 3) := by decide +kernel
theorem dX10_fluency_22 : decode cX10_fluency 22 = .ok (.aload_n 0, 1) := by decide +kernel
theorem dX10_fluency_23 : decode cX10_fluency 23 = .ok (.getfield 19, 3) := by decide +kernel
theorem dX10_fluency_26 : decode cX10_fluency 26 = .ok (.aload_n 0, 1) := by decide +kernel
theorem dX10_fluency_27 : decode cX10_fluency 27 = .ok (.getfield 27, 3) := by decide +kernel
theorem dX10_fluency_30 : decode cX10_fluency 30 = .ok (.invokevirtual 113, 3) := by decide +kernel
theorem dX10_fluency_33 : decode cX10_fluency 33 = .ok (.aload_n 0, 1) := by decide +kernel
theorem dX10_fluency_34 : decode cX10_fluency 34 = .ok (.getfield 27, 3) := by decide +kernel
theorem dX10_fluency_37 : decode cX10_fluency 37 = .ok (.iconst 0, 1) := by decide +kernel
theorem dX10_fluency_38 : decode cX10_fluency 38 = .ok (.putfield 86, 3) := by decide +kernel
theorem dX10_fluency_41 : decode cX10_fluency 41 = .ok (.aload_n 0, 1) := by decide +kernel
theorem dX10_fluency_42 : decode cX10_fluency 42 = .ok (.invokevirtual 104, 3) := by decide +kernel
theorem dX10_fluency_45 : decode cX10_fluency 45 = .ok (.aload_n 0, 1) := by decide +kernel
theorem dX10_fluency_46 : decode cX10_fluency 46 = .ok (.invokevirtual 107, 3) := by decide +kernel
theorem dX10_fluency_49 : decode cX10_fluency 49 = .ok (.aload_n 0, 1) := by decide +kernel
theorem dX10_fluency_50 : decode cX10_fluency 50 = .ok (.getfield 16, 3) := by decide +kernel
theorem dX10_fluency_53 : decode cX10_fluency 53 = .ok (.getfield 117, 3) := by decide +kernel
theorem dX10_fluency_56 : decode cX10_fluency 56 = .ok (.ireturn, 1) := by decide +kernel
theorem dX10_sentence_0 : decode cX10_sentence 0 = .ok (.aload_n 0, 1) := by decide +kernel
theorem dX10_sentence_1 : decode cX10_sentence 1 = .ok (.getfield 19, 3) := by decide +kernel
theorem dX10_sentence_4 : decode cX10_sentence 4 = .ok (.aload_n 0, 1) := by decide +kernel
theorem dX10_sentence_5 : decode cX10_sentence 5 = .ok (.getfield 16, 3) := by decide +kernel
theorem dX10_sentence_8 : decode cX10_sentence 8 = .ok (.invokevirtual 94, 3) := by decide +kernel
theorem dX10_sentence_11 : decode cX10_sentence 11 = .ok (.aload_n 0, 1) := by decide +kernel
theorem dX10_sentence_12 : decode cX10_sentence 12 = .ok (.getfield 27, 3) := by decide +kernel
theorem dX10_sentence_15 : decode cX10_sentence 15 = .ok (.aload_n 0, 1) := by decide +kernel
theorem dX10_sentence_16 : decode cX10_sentence 16 = .ok (.getfield 19, 3) := by decide +kernel
theorem dX10_sentence_19 : decode cX10_sentence 19 = .ok (.iconst 1, 1) := by decide +kernel
theorem dX10_sentence_20 : decode cX10_sentence 20 = .ok (.bipush 6, 2) := by decide +kernel
theorem dX10_sentence_22 : decode cX10_sentence 22 = .ok (.invokevirtual 120, 3) := by decide +kernel
theorem dX10_sentence_25 : decode cX10_sentence 25 = .ok (.aload_n 0, 1) := by decide +kernel
theorem dX10_sentence_26 : decode cX10_sentence 26 = .ok (.getfield 19, 3) := by decide +kernel
theorem dX10_sentence_29 : decode cX10_sentence 29 = .ok (.aload_n 0, 1) := by decide +kernel
theorem dX10_sentence_30 : decode cX10_sentence 30 = .ok (.getfield 27, 3) := by decide +kernel
theorem dX10_sentence_33 : decode cX10_sentence 33 = .ok (.invokevirtual 124, 3) := by decide +kernel
theorem dX10_sentence_36 : decode cX10_sentence 36 = .ok (.aload_n 0, 1) := by decide +kernel
theorem dX10_sentence_37 : decode cX10_sentence 37 = .ok (.getfield 27, 3) := by decide +kernel
theorem dX10_sentence_40 : decode cX10_sentence 40 = .ok (.iconst 0, 1) := by decide +kernel
theorem dX10_sentence_41 : decode cX10_sentence 41 = .ok (.putfield 86, 3) := by decide +kernel
theorem dX10_sentence_44 : decode cX10_sentence 44 = .ok (.aload_n 0, 1) := by decide +kernel
theorem dX10_sentence_45 : decode cX10_sentence 45 = .ok (.invokevirtual 104, 3) := by decide +kernel
theorem dX10_sentence_48 : decode cX10_sentence 48 = .ok (.aload_n 0, 1) := by decide +kernel
theorem dX10_sentence_49 : decode cX10_sentence 49 = .ok (.invokevirtual 107, 3) := by decide +kernel
theorem dX10_sentence_52 : decode cX10_sentence 52 = .ok (.aload_n 0, 1) := by decide +kernel
theorem dX10_sentence_53 : decode cX10_sentence 53 = .ok (.getfield 16, 3) := by decide +kernel
theorem dX10_sentence_56 : decode cX10_sentence 56 = .ok (.getfield 127, 3) := by decide +kernel
theorem dX10_sentence_59 : decode cX10_sentence 59 = .ok (.ireturn, 1) := by decide +kernel
theorem dX10_learn_0 : decode cX10_learn 0 = .ok (.aload_n 0, 1) := by decide +kernel
theorem dX10_learn_1 : decode cX10_learn 1 = .ok (.getfield 19, 3) := by decide +kernel
theorem dX10_learn_4 : decode cX10_learn 4 = .ok (.aload_n 0, 1) := by decide +kernel
theorem dX10_learn_5 : decode cX10_learn 5 = .ok (.getfield 16, 3) := by decide +kernel
theorem dX10_learn_8 : decode cX10_learn 8 = .ok (.invokevirtual 94, 3) := by decide +kernel
theorem dX10_learn_11 : decode cX10_learn 11 = .ok (.aload_n 0, 1) := by decide +kernel
theorem dX10_learn_12 : decode cX10_learn 12 = .ok (.getfield 27, 3) := by decide +kernel
theorem dX10_learn_15 : decode cX10_learn 15 = .ok (.aload_n 0, 1) := by decide +kernel
theorem dX10_learn_16 : decode cX10_learn 16 = .ok (.getfield 19, 3) := by decide +kernel
theorem dX10_learn_19 : decode cX10_learn 19 = .ok (.invokevirtual 130, 3) := by decide +kernel
theorem dX10_learn_22 : decode cX10_learn 22 = .ok (.aload_n 0, 1) := by decide +kernel
theorem dX10_learn_23 : decode cX10_learn 23 = .ok (.getfield 27, 3) := by decide +kernel
theorem dX10_learn_26 : decode cX10_learn 26 = .ok (.invokevirtual 133, 3) := by decide +kernel
theorem dX10_learn_29 : decode cX10_learn 29 = .ok (.ifCond .eq 17, 3) := by decide +kernel
theorem dX10_learn_32 : decode cX10_learn 32 = .ok (.aload_n 0, 1) := by decide +kernel
theorem dX10_learn_33 : decode cX10_learn 33 = .ok (.getfield 19, 3) := by decide +kernel
theorem dX10_learn_36 : decode cX10_learn 36 = .ok (.aload_n 0, 1) := by decide +kernel
theorem dX10_learn_37 : decode cX10_learn 37 = .ok (.getfield 27, 3) := by decide +kernel
theorem dX10_learn_40 : decode cX10_learn 40 = .ok (.invokestatic 137, 3) := by decide +kernel
theorem dX10_learn_43 : decode cX10_learn 43 = .ok (.goto 4, 3) := by decide +kernel
theorem dX10_learn_46 : decode cX10_learn 46 = .ok (.iconst 0, 1) := by decide +kernel
theorem dX10_learn_47 : decode cX10_learn 47 = .ok (.istore_n 1, 1) := by decide +kernel
theorem dX10_learn_48 : decode cX10_learn 48 = .ok (.aload_n 0, 1) := by decide +kernel
theorem dX10_learn_49 : decode cX10_learn 49 = .ok (.getfield 27, 3) := by decide +kernel
theorem dX10_learn_52 : decode cX10_learn 52 = .ok (.iconst 0, 1) := by decide +kernel
theorem dX10_learn_53 : decode cX10_learn 53 = .ok (.putfield 86, 3) := by decide +kernel
theorem dX10_learn_56 : decode cX10_learn 56 = .ok (.aload_n 0, 1) := by decide +kernel
theorem dX10_learn_57 : decode cX10_learn 57 = .ok (.invokevirtual 104, 3) := by decide +kernel
theorem dX10_learn_60 : decode cX10_learn 60 = .ok (.iload_n 1, 1) := by decide +kernel
theorem dX10_learn_61 : decode cX10_learn 61 = .ok (.iconst (-1), 1) := by decide +kernel
theorem dX10_learn_62 : decode cX10_learn 62 = .ok (.if_icmp .ne 13, 3) := by decide +kernel
theorem dX10_learn_65 : decode cX10_learn 65 = .ok (.new 143, 3) := by decide +kernel
theorem dX10_learn_68 : decode cX10_learn 68 = .ok (.dup, 1) := by decide +kernel
theorem dX10_learn_69 : decode cX10_learn 69 = .ok (.ldc 145, 2) := by decide +kernel
theorem dX10_learn_71 : decode cX10_learn 71 = .ok (.invokespecial 147, 3) := by decide +kernel
theorem dX10_learn_74 : decode cX10_learn 74 = .ok (.athrow, 1) := by decide +kernel
theorem dX10_learn_75 : decode cX10_learn 75 = .ok (.aload_n 0, 1) := by decide +kernel
theorem dX10_learn_76 : decode cX10_learn 76 = .ok (.invokevirtual 107, 3) := by decide +kernel
theorem dX10_learn_79 : decode cX10_learn 79 = .ok (.iload_n 1, 1) := by decide +kernel
theorem dX10_learn_80 : decode cX10_learn 80 = .ok (.ireturn, 1) := by decide +kernel
theorem dX10_fault_0 : decode cX10_fault 0 = .ok (.aload_n 0, 1) := by decide +kernel
theorem dX10_fault_1 : decode cX10_fault 1 = .ok (.getfield 27, 3) := by decide +kernel
theorem dX10_fault_4 : decode cX10_fault 4 = .ok (.getfield 150, 3) := by decide +kernel
theorem dX10_fault_7 : decode cX10_fault 7 = .ok (.ireturn, 1) := by decide +kernel
theorem dX10_letter_0 : decode cX10_letter 0 = .ok (.aload_n 0, 1) := by decide +kernel
theorem dX10_letter_1 : decode cX10_letter 1 = .ok (.iload_n 1, 1) := by decide +kernel
theorem dX10_letter_2 : decode cX10_letter 2 = .ok (.invokevirtual 153, 3) := by decide +kernel
theorem dX10_letter_5 : decode cX10_letter 5 = .ok (.iload_n 2, 1) := by decide +kernel
theorem dX10_letter_6 : decode cX10_letter 6 = .ok (.ifCond .lt 16, 3) := by decide +kernel
theorem dX10_letter_9 : decode cX10_letter 9 = .ok (.iload_n 2, 1) := by decide +kernel
theorem dX10_letter_10 : decode cX10_letter 10 = .ok (.aload_n 0, 1) := by decide +kernel
theorem dX10_letter_11 : decode cX10_letter 11 = .ok (.getfield 16, 3) := by decide +kernel
theorem dX10_letter_14 : decode cX10_letter 14 = .ok (.getfield 156, 3) := by decide +kernel
theorem dX10_letter_17 : decode cX10_letter 17 = .ok (.iload_n 1, 1) := by decide +kernel
theorem dX10_letter_18 : decode cX10_letter 18 = .ok (.iaload, 1) := by decide +kernel
theorem dX10_letter_19 : decode cX10_letter 19 = .ok (.if_icmp .lt 5, 3) := by decide +kernel
theorem dX10_letter_22 : decode cX10_letter 22 = .ok (.iconst (-1), 1) := by decide +kernel
theorem dX10_letter_23 : decode cX10_letter 23 = .ok (.ireturn, 1) := by decide +kernel
theorem dX10_letter_24 : decode cX10_letter 24 = .ok (.aload_n 0, 1) := by decide +kernel
theorem dX10_letter_25 : decode cX10_letter 25 = .ok (.getfield 16, 3) := by decide +kernel
theorem dX10_letter_28 : decode cX10_letter 28 = .ok (.getfield 160, 3) := by decide +kernel
theorem dX10_letter_31 : decode cX10_letter 31 = .ok (.iload_n 1, 1) := by decide +kernel
theorem dX10_letter_32 : decode cX10_letter 32 = .ok (.bipush 8, 2) := by decide +kernel
theorem dX10_letter_34 : decode cX10_letter 34 = .ok (.imul, 1) := by decide +kernel
theorem dX10_letter_35 : decode cX10_letter 35 = .ok (.iload_n 2, 1) := by decide +kernel
theorem dX10_letter_36 : decode cX10_letter 36 = .ok (.iadd, 1) := by decide +kernel
theorem dX10_letter_37 : decode cX10_letter 37 = .ok (.iaload, 1) := by decide +kernel
theorem dX10_letter_38 : decode cX10_letter 38 = .ok (.bipush 97, 2) := by decide +kernel
theorem dX10_letter_40 : decode cX10_letter 40 = .ok (.isub, 1) := by decide +kernel
theorem dX10_letter_41 : decode cX10_letter 41 = .ok (.ireturn, 1) := by decide +kernel
theorem dX10_phrase_0 : decode cX10_phrase 0 = .ok (.aload_n 0, 1) := by decide +kernel
theorem dX10_phrase_1 : decode cX10_phrase 1 = .ok (.iload_n 1, 1) := by decide +kernel
theorem dX10_phrase_2 : decode cX10_phrase 2 = .ok (.invokevirtual 163, 3) := by decide +kernel
theorem dX10_phrase_5 : decode cX10_phrase 5 = .ok (.iload_n 2, 1) := by decide +kernel
theorem dX10_phrase_6 : decode cX10_phrase 6 = .ok (.tableswitch 111 0 5 #[38, 48, 58, 68, 86, 99], 38) := by decide +kernel
theorem dX10_phrase_44 : decode cX10_phrase 44 = .ok (.aload_n 0, 1) := by decide +kernel
theorem dX10_phrase_45 : decode cX10_phrase 45 = .ok (.getfield 16, 3) := by decide +kernel
theorem dX10_phrase_48 : decode cX10_phrase 48 = .ok (.getfield 166, 3) := by decide +kernel
theorem dX10_phrase_51 : decode cX10_phrase 51 = .ok (.iload_n 1, 1) := by decide +kernel
theorem dX10_phrase_52 : decode cX10_phrase 52 = .ok (.iaload, 1) := by decide +kernel
theorem dX10_phrase_53 : decode cX10_phrase 53 = .ok (.ireturn, 1) := by decide +kernel
theorem dX10_phrase_54 : decode cX10_phrase 54 = .ok (.aload_n 0, 1) := by decide +kernel
theorem dX10_phrase_55 : decode cX10_phrase 55 = .ok (.getfield 16, 3) := by decide +kernel
theorem dX10_phrase_58 : decode cX10_phrase 58 = .ok (.getfield 169, 3) := by decide +kernel
theorem dX10_phrase_61 : decode cX10_phrase 61 = .ok (.iload_n 1, 1) := by decide +kernel
theorem dX10_phrase_62 : decode cX10_phrase 62 = .ok (.iaload, 1) := by decide +kernel
theorem dX10_phrase_63 : decode cX10_phrase 63 = .ok (.ireturn, 1) := by decide +kernel
theorem dX10_phrase_64 : decode cX10_phrase 64 = .ok (.aload_n 0, 1) := by decide +kernel
theorem dX10_phrase_65 : decode cX10_phrase 65 = .ok (.getfield 16, 3) := by decide +kernel
theorem dX10_phrase_68 : decode cX10_phrase 68 = .ok (.getfield 172, 3) := by decide +kernel
theorem dX10_phrase_71 : decode cX10_phrase 71 = .ok (.iload_n 1, 1) := by decide +kernel
theorem dX10_phrase_72 : decode cX10_phrase 72 = .ok (.iaload, 1) := by decide +kernel
theorem dX10_phrase_73 : decode cX10_phrase 73 = .ok (.ireturn, 1) := by decide +kernel
theorem dX10_phrase_74 : decode cX10_phrase 74 = .ok (.aload_n 0, 1) := by decide +kernel
theorem dX10_phrase_75 : decode cX10_phrase 75 = .ok (.getfield 16, 3) := by decide +kernel
theorem dX10_phrase_78 : decode cX10_phrase 78 = .ok (.getfield 175, 3) := by decide +kernel
theorem dX10_phrase_81 : decode cX10_phrase 81 = .ok (.iload_n 1, 1) := by decide +kernel
theorem dX10_phrase_82 : decode cX10_phrase 82 = .ok (.baload, 1) := by decide +kernel
theorem dX10_phrase_83 : decode cX10_phrase 83 = .ok (.ifCond .eq 7, 3) := by decide +kernel
theorem dX10_phrase_86 : decode cX10_phrase 86 = .ok (.iconst 1, 1) := by decide +kernel
theorem dX10_phrase_87 : decode cX10_phrase 87 = .ok (.goto 4, 3) := by decide +kernel
theorem dX10_phrase_90 : decode cX10_phrase 90 = .ok (.iconst 0, 1) := by decide +kernel
theorem dX10_phrase_91 : decode cX10_phrase 91 = .ok (.ireturn, 1) := by decide +kernel
theorem dX10_phrase_92 : decode cX10_phrase 92 = .ok (.aload_n 0, 1) := by decide +kernel
theorem dX10_phrase_93 : decode cX10_phrase 93 = .ok (.invokevirtual 179, 3) := by decide +kernel
theorem dX10_phrase_96 : decode cX10_phrase 96 = .ok (.aload_n 0, 1) := by decide +kernel
theorem dX10_phrase_97 : decode cX10_phrase 97 = .ok (.getfield 34, 3) := by decide +kernel
theorem dX10_phrase_100 : decode cX10_phrase 100 = .ok (.iload_n 1, 1) := by decide +kernel
theorem dX10_phrase_101 : decode cX10_phrase 101 = .ok (.invokevirtual 182, 3) := by decide +kernel
theorem dX10_phrase_104 : decode cX10_phrase 104 = .ok (.ireturn, 1) := by decide +kernel
theorem dX10_phrase_105 : decode cX10_phrase 105 = .ok (.aload_n 0, 1) := by decide +kernel
theorem dX10_phrase_106 : decode cX10_phrase 106 = .ok (.iconst 0, 1) := by decide +kernel
theorem dX10_phrase_107 : decode cX10_phrase 107 = .ok (.invokevirtual 186, 3) := by decide +kernel
theorem dX10_phrase_110 : decode cX10_phrase 110 = .ok (.pop, 1) := by decide +kernel
theorem dX10_phrase_111 : decode cX10_phrase 111 = .ok (.aload_n 0, 1) := by decide +kernel
theorem dX10_phrase_112 : decode cX10_phrase 112 = .ok (.iload_n 1, 1) := by decide +kernel
theorem dX10_phrase_113 : decode cX10_phrase 113 = .ok (.invokevirtual 190, 3) := by decide +kernel
theorem dX10_phrase_116 : decode cX10_phrase 116 = .ok (.ireturn, 1) := by decide +kernel
theorem dX10_phrase_117 : decode cX10_phrase 117 = .ok (.new 193, 3) := by decide +kernel
theorem dX10_phrase_120 : decode cX10_phrase 120 = .ok (.dup, 1) := by decide +kernel
theorem dX10_phrase_121 : decode cX10_phrase 121 = .ok (.ldc 195, 2) := by decide +kernel
theorem dX10_phrase_123 : decode cX10_phrase 123 = .ok (.invokespecial 197, 3) := by decide +kernel
theorem dX10_phrase_126 : decode cX10_phrase 126 = .ok (.athrow, 1) := by decide +kernel
theorem dX10_part_0 : decode cX10_part 0 = .ok (.aload_n 0, 1) := by decide +kernel
theorem dX10_part_1 : decode cX10_part 1 = .ok (.iload_n 1, 1) := by decide +kernel
theorem dX10_part_2 : decode cX10_part 2 = .ok (.invokevirtual 163, 3) := by decide +kernel
theorem dX10_part_5 : decode cX10_part 5 = .ok (.iload_n 2, 1) := by decide +kernel
theorem dX10_part_6 : decode cX10_part 6 = .ok (.ifCond .eq 15, 3) := by decide +kernel
theorem dX10_part_9 : decode cX10_part 9 = .ok (.aload_n 0, 1) := by decide +kernel
theorem dX10_part_10 : decode cX10_part 10 = .ok (.getfield 16, 3) := by decide +kernel
theorem dX10_part_13 : decode cX10_part 13 = .ok (.getfield 169, 3) := by decide +kernel
theorem dX10_part_16 : decode cX10_part 16 = .ok (.iload_n 1, 1) := by decide +kernel
theorem dX10_part_17 : decode cX10_part 17 = .ok (.iaload, 1) := by decide +kernel
theorem dX10_part_18 : decode cX10_part 18 = .ok (.goto 12, 3) := by decide +kernel
theorem dX10_part_21 : decode cX10_part 21 = .ok (.aload_n 0, 1) := by decide +kernel
theorem dX10_part_22 : decode cX10_part 22 = .ok (.getfield 16, 3) := by decide +kernel
theorem dX10_part_25 : decode cX10_part 25 = .ok (.getfield 166, 3) := by decide +kernel
theorem dX10_part_28 : decode cX10_part 28 = .ok (.iload_n 1, 1) := by decide +kernel
theorem dX10_part_29 : decode cX10_part 29 = .ok (.iaload, 1) := by decide +kernel
theorem dX10_part_30 : decode cX10_part 30 = .ok (.istore 4, 2) := by decide +kernel
theorem dX10_part_32 : decode cX10_part 32 = .ok (.iload_n 3, 1) := by decide +kernel
theorem dX10_part_33 : decode cX10_part 33 = .ok (.ifCond .lt 9, 3) := by decide +kernel
theorem dX10_part_36 : decode cX10_part 36 = .ok (.iload_n 3, 1) := by decide +kernel
theorem dX10_part_37 : decode cX10_part 37 = .ok (.iload 4, 2) := by decide +kernel
theorem dX10_part_39 : decode cX10_part 39 = .ok (.if_icmp .lt 5, 3) := by decide +kernel
theorem dX10_part_42 : decode cX10_part 42 = .ok (.iconst (-1), 1) := by decide +kernel
theorem dX10_part_43 : decode cX10_part 43 = .ok (.ireturn, 1) := by decide +kernel
theorem dX10_part_44 : decode cX10_part 44 = .ok (.iload_n 1, 1) := by decide +kernel
theorem dX10_part_45 : decode cX10_part 45 = .ok (.iconst 3, 1) := by decide +kernel
theorem dX10_part_46 : decode cX10_part 46 = .ok (.imul, 1) := by decide +kernel
theorem dX10_part_47 : decode cX10_part 47 = .ok (.iload_n 3, 1) := by decide +kernel
theorem dX10_part_48 : decode cX10_part 48 = .ok (.iadd, 1) := by decide +kernel
theorem dX10_part_49 : decode cX10_part 49 = .ok (.istore 5, 2) := by decide +kernel
theorem dX10_part_51 : decode cX10_part 51 = .ok (.iload_n 2, 1) := by decide +kernel
theorem dX10_part_52 : decode cX10_part 52 = .ok (.ifCond .eq 16, 3) := by decide +kernel
theorem dX10_part_55 : decode cX10_part 55 = .ok (.aload_n 0, 1) := by decide +kernel
theorem dX10_part_56 : decode cX10_part 56 = .ok (.getfield 16, 3) := by decide +kernel
theorem dX10_part_59 : decode cX10_part 59 = .ok (.getfield 198, 3) := by decide +kernel
theorem dX10_part_62 : decode cX10_part 62 = .ok (.iload 5, 2) := by decide +kernel
theorem dX10_part_64 : decode cX10_part 64 = .ok (.iaload, 1) := by decide +kernel
theorem dX10_part_65 : decode cX10_part 65 = .ok (.goto 13, 3) := by decide +kernel
theorem dX10_part_68 : decode cX10_part 68 = .ok (.aload_n 0, 1) := by decide +kernel
theorem dX10_part_69 : decode cX10_part 69 = .ok (.getfield 16, 3) := by decide +kernel
theorem dX10_part_72 : decode cX10_part 72 = .ok (.getfield 201, 3) := by decide +kernel
theorem dX10_part_75 : decode cX10_part 75 = .ok (.iload 5, 2) := by decide +kernel
theorem dX10_part_77 : decode cX10_part 77 = .ok (.iaload, 1) := by decide +kernel
theorem dX10_part_78 : decode cX10_part 78 = .ok (.ireturn, 1) := by decide +kernel
theorem dX10_after_0 : decode cX10_after 0 = .ok (.iload_n 1, 1) := by decide +kernel
theorem dX10_after_1 : decode cX10_after 1 = .ok (.iconst (-1), 1) := by decide +kernel
theorem dX10_after_2 : decode cX10_after 2 = .ok (.if_icmp .eq 8, 3) := by decide +kernel
theorem dX10_after_5 : decode cX10_after 5 = .ok (.aload_n 0, 1) := by decide +kernel
theorem dX10_after_6 : decode cX10_after 6 = .ok (.iload_n 1, 1) := by decide +kernel
theorem dX10_after_7 : decode cX10_after 7 = .ok (.invokevirtual 153, 3) := by decide +kernel
theorem dX10_after_10 : decode cX10_after 10 = .ok (.iload_n 2, 1) := by decide +kernel
theorem dX10_after_11 : decode cX10_after 11 = .ok (.iconst (-1), 1) := by decide +kernel
theorem dX10_after_12 : decode cX10_after 12 = .ok (.if_icmp .eq 8, 3) := by decide +kernel
theorem dX10_after_15 : decode cX10_after 15 = .ok (.aload_n 0, 1) := by decide +kernel
theorem dX10_after_16 : decode cX10_after 16 = .ok (.iload_n 2, 1) := by decide +kernel
theorem dX10_after_17 : decode cX10_after 17 = .ok (.invokevirtual 153, 3) := by decide +kernel
theorem dX10_after_20 : decode cX10_after 20 = .ok (.aload_n 0, 1) := by decide +kernel
theorem dX10_after_21 : decode cX10_after 21 = .ok (.getfield 16, 3) := by decide +kernel
theorem dX10_after_24 : decode cX10_after 24 = .ok (.iload_n 1, 1) := by decide +kernel
theorem dX10_after_25 : decode cX10_after 25 = .ok (.iconst (-1), 1) := by decide +kernel
theorem dX10_after_26 : decode cX10_after 26 = .ok (.if_icmp .ne 8, 3) := by decide +kernel
theorem dX10_after_29 : decode cX10_after 29 = .ok (.bipush 40, 2) := by decide +kernel
theorem dX10_after_31 : decode cX10_after 31 = .ok (.goto 4, 3) := by decide +kernel
theorem dX10_after_34 : decode cX10_after 34 = .ok (.iload_n 1, 1) := by decide +kernel
theorem dX10_after_35 : decode cX10_after 35 = .ok (.iload_n 2, 1) := by decide +kernel
theorem dX10_after_36 : decode cX10_after 36 = .ok (.iconst (-1), 1) := by decide +kernel
theorem dX10_after_37 : decode cX10_after 37 = .ok (.if_icmp .ne 8, 3) := by decide +kernel
theorem dX10_after_40 : decode cX10_after 40 = .ok (.bipush 40, 2) := by decide +kernel
theorem dX10_after_42 : decode cX10_after 42 = .ok (.goto 4, 3) := by decide +kernel
theorem dX10_after_45 : decode cX10_after 45 = .ok (.iload_n 2, 1) := by decide +kernel
theorem dX10_after_46 : decode cX10_after 46 = .ok (.invokevirtual 204, 3) := by decide +kernel
theorem dX10_after_49 : decode cX10_after 49 = .ok (.ireturn, 1) := by decide +kernel
theorem dX10_place_0 : decode cX10_place 0 = .ok (.aload_n 0, 1) := by decide +kernel
theorem dX10_place_1 : decode cX10_place 1 = .ok (.iload_n 1, 1) := by decide +kernel
theorem dX10_place_2 : decode cX10_place 2 = .ok (.invokevirtual 208, 3) := by decide +kernel
theorem dX10_place_5 : decode cX10_place 5 = .ok (.aload_n 0, 1) := by decide +kernel
theorem dX10_place_6 : decode cX10_place 6 = .ok (.getfield 16, 3) := by decide +kernel
theorem dX10_place_9 : decode cX10_place 9 = .ok (.getfield 211, 3) := by decide +kernel
theorem dX10_place_12 : decode cX10_place 12 = .ok (.iload_n 1, 1) := by decide +kernel
theorem dX10_place_13 : decode cX10_place 13 = .ok (.iaload, 1) := by decide +kernel
theorem dX10_place_14 : decode cX10_place 14 = .ok (.ireturn, 1) := by decide +kernel
theorem dX10_put_0 : decode cX10_put 0 = .ok (.aload_n 0, 1) := by decide +kernel
theorem dX10_put_1 : decode cX10_put 1 = .ok (.iload_n 1, 1) := by decide +kernel
theorem dX10_put_2 : decode cX10_put 2 = .ok (.invokevirtual 208, 3) := by decide +kernel
theorem dX10_put_5 : decode cX10_put 5 = .ok (.aload_n 0, 1) := by decide +kernel
theorem dX10_put_6 : decode cX10_put 6 = .ok (.iload_n 2, 1) := by decide +kernel
theorem dX10_put_7 : decode cX10_put 7 = .ok (.invokevirtual 153, 3) := by decide +kernel
theorem dX10_put_10 : decode cX10_put 10 = .ok (.aload_n 0, 1) := by decide +kernel
theorem dX10_put_11 : decode cX10_put 11 = .ok (.getfield 16, 3) := by decide +kernel
theorem dX10_put_14 : decode cX10_put 14 = .ok (.getfield 211, 3) := by decide +kernel
theorem dX10_put_17 : decode cX10_put 17 = .ok (.iload_n 1, 1) := by decide +kernel
theorem dX10_put_18 : decode cX10_put 18 = .ok (.iaload, 1) := by decide +kernel
theorem dX10_put_19 : decode cX10_put 19 = .ok (.istore_n 3, 1) := by decide +kernel
theorem dX10_put_20 : decode cX10_put 20 = .ok (.aload_n 0, 1) := by decide +kernel
theorem dX10_put_21 : decode cX10_put 21 = .ok (.getfield 16, 3) := by decide +kernel
theorem dX10_put_24 : decode cX10_put 24 = .ok (.getfield 211, 3) := by decide +kernel
theorem dX10_put_27 : decode cX10_put 27 = .ok (.iload_n 1, 1) := by decide +kernel
theorem dX10_put_28 : decode cX10_put 28 = .ok (.iload_n 2, 1) := by decide +kernel
theorem dX10_put_29 : decode cX10_put 29 = .ok (.iastore, 1) := by decide +kernel
theorem dX10_put_30 : decode cX10_put 30 = .ok (.aload_n 0, 1) := by decide +kernel
theorem dX10_put_31 : decode cX10_put 31 = .ok (.invokevirtual 214, 3) := by decide +kernel
theorem dX10_put_34 : decode cX10_put 34 = .ok (.iload_n 3, 1) := by decide +kernel
theorem dX10_put_35 : decode cX10_put 35 = .ok (.ireturn, 1) := by decide +kernel
theorem dX10_price_0 : decode cX10_price 0 = .ok (.aload_n 0, 1) := by decide +kernel
theorem dX10_price_1 : decode cX10_price 1 = .ok (.iload_n 1, 1) := by decide +kernel
theorem dX10_price_2 : decode cX10_price 2 = .ok (.invokevirtual 163, 3) := by decide +kernel
theorem dX10_price_5 : decode cX10_price 5 = .ok (.iload_n 2, 1) := by decide +kernel
theorem dX10_price_6 : decode cX10_price 6 = .ok (.ifCond .lt 9, 3) := by decide +kernel
theorem dX10_price_9 : decode cX10_price 9 = .ok (.iload_n 2, 1) := by decide +kernel
theorem dX10_price_10 : decode cX10_price 10 = .ok (.bipush 99, 2) := by decide +kernel
theorem dX10_price_12 : decode cX10_price 12 = .ok (.if_icmp .le 13, 3) := by decide +kernel
theorem dX10_price_15 : decode cX10_price 15 = .ok (.new 217, 3) := by decide +kernel
theorem dX10_price_18 : decode cX10_price 18 = .ok (.dup, 1) := by decide +kernel
theorem dX10_price_19 : decode cX10_price 19 = .ok (.ldc 219, 2) := by decide +kernel
theorem dX10_price_21 : decode cX10_price 21 = .ok (.invokespecial 221, 3) := by decide +kernel
theorem dX10_price_24 : decode cX10_price 24 = .ok (.athrow, 1) := by decide +kernel
theorem dX10_price_25 : decode cX10_price 25 = .ok (.aload_n 0, 1) := by decide +kernel
theorem dX10_price_26 : decode cX10_price 26 = .ok (.getfield 16, 3) := by decide +kernel
theorem dX10_price_29 : decode cX10_price 29 = .ok (.getfield 172, 3) := by decide +kernel
theorem dX10_price_32 : decode cX10_price 32 = .ok (.iload_n 1, 1) := by decide +kernel
theorem dX10_price_33 : decode cX10_price 33 = .ok (.iaload, 1) := by decide +kernel
theorem dX10_price_34 : decode cX10_price 34 = .ok (.istore_n 3, 1) := by decide +kernel
theorem dX10_price_35 : decode cX10_price 35 = .ok (.aload_n 0, 1) := by decide +kernel
theorem dX10_price_36 : decode cX10_price 36 = .ok (.getfield 16, 3) := by decide +kernel
theorem dX10_price_39 : decode cX10_price 39 = .ok (.getfield 172, 3) := by decide +kernel
theorem dX10_price_42 : decode cX10_price 42 = .ok (.iload_n 1, 1) := by decide +kernel
theorem dX10_price_43 : decode cX10_price 43 = .ok (.iload_n 2, 1) := by decide +kernel
theorem dX10_price_44 : decode cX10_price 44 = .ok (.iastore, 1) := by decide +kernel
theorem dX10_price_45 : decode cX10_price 45 = .ok (.aload_n 0, 1) := by decide +kernel
theorem dX10_price_46 : decode cX10_price 46 = .ok (.invokevirtual 214, 3) := by decide +kernel
theorem dX10_price_49 : decode cX10_price 49 = .ok (.iload_n 3, 1) := by decide +kernel
theorem dX10_price_50 : decode cX10_price 50 = .ok (.ireturn, 1) := by decide +kernel
theorem dX10_drop_0 : decode cX10_drop 0 = .ok (.aload_n 0, 1) := by decide +kernel
theorem dX10_drop_1 : decode cX10_drop 1 = .ok (.iload_n 1, 1) := by decide +kernel
theorem dX10_drop_2 : decode cX10_drop 2 = .ok (.invokevirtual 163, 3) := by decide +kernel
theorem dX10_drop_5 : decode cX10_drop 5 = .ok (.aload_n 0, 1) := by decide +kernel
theorem dX10_drop_6 : decode cX10_drop 6 = .ok (.getfield 16, 3) := by decide +kernel
theorem dX10_drop_9 : decode cX10_drop 9 = .ok (.getfield 175, 3) := by decide +kernel
theorem dX10_drop_12 : decode cX10_drop 12 = .ok (.iload_n 1, 1) := by decide +kernel
theorem dX10_drop_13 : decode cX10_drop 13 = .ok (.baload, 1) := by decide +kernel
theorem dX10_drop_14 : decode cX10_drop 14 = .ok (.iload_n 2, 1) := by decide +kernel
theorem dX10_drop_15 : decode cX10_drop 15 = .ok (.if_icmp .ne 5, 3) := by decide +kernel
theorem dX10_drop_18 : decode cX10_drop 18 = .ok (.iconst 0, 1) := by decide +kernel
theorem dX10_drop_19 : decode cX10_drop 19 = .ok (.ireturn, 1) := by decide +kernel
theorem dX10_drop_20 : decode cX10_drop 20 = .ok (.iload_n 2, 1) := by decide +kernel
theorem dX10_drop_21 : decode cX10_drop 21 = .ok (.ifCond .ne 24, 3) := by decide +kernel
theorem dX10_drop_24 : decode cX10_drop 24 = .ok (.aload_n 0, 1) := by decide +kernel
theorem dX10_drop_25 : decode cX10_drop 25 = .ok (.getfield 16, 3) := by decide +kernel
theorem dX10_drop_28 : decode cX10_drop 28 = .ok (.iload_n 1, 1) := by decide +kernel
theorem dX10_drop_29 : decode cX10_drop 29 = .ok (.invokevirtual 222, 3) := by decide +kernel
theorem dX10_drop_32 : decode cX10_drop 32 = .ok (.ifCond .eq 13, 3) := by decide +kernel
theorem dX10_drop_35 : decode cX10_drop 35 = .ok (.new 217, 3) := by decide +kernel
theorem dX10_drop_38 : decode cX10_drop 38 = .ok (.dup, 1) := by decide +kernel
theorem dX10_drop_39 : decode cX10_drop 39 = .ok (.ldc 225, 2) := by decide +kernel
theorem dX10_drop_41 : decode cX10_drop 41 = .ok (.invokespecial 221, 3) := by decide +kernel
theorem dX10_drop_44 : decode cX10_drop 44 = .ok (.athrow, 1) := by decide +kernel
theorem dX10_drop_45 : decode cX10_drop 45 = .ok (.aload_n 0, 1) := by decide +kernel
theorem dX10_drop_46 : decode cX10_drop 46 = .ok (.getfield 16, 3) := by decide +kernel
theorem dX10_drop_49 : decode cX10_drop 49 = .ok (.getfield 175, 3) := by decide +kernel
theorem dX10_drop_52 : decode cX10_drop 52 = .ok (.iload_n 1, 1) := by decide +kernel
theorem dX10_drop_53 : decode cX10_drop 53 = .ok (.iload_n 2, 1) := by decide +kernel
theorem dX10_drop_54 : decode cX10_drop 54 = .ok (.bastore, 1) := by decide +kernel
theorem dX10_drop_55 : decode cX10_drop 55 = .ok (.aload_n 0, 1) := by decide +kernel
theorem dX10_drop_56 : decode cX10_drop 56 = .ok (.invokevirtual 214, 3) := by decide +kernel
theorem dX10_drop_59 : decode cX10_drop 59 = .ok (.iconst 1, 1) := by decide +kernel
theorem dX10_drop_60 : decode cX10_drop 60 = .ok (.ireturn, 1) := by decide +kernel
theorem dX10_tune_0 : decode cX10_tune 0 = .ok (.iload_n 1, 1) := by decide +kernel
theorem dX10_tune_1 : decode cX10_tune 1 = .ok (.ifCond .lt 8, 3) := by decide +kernel
theorem dX10_tune_4 : decode cX10_tune 4 = .ok (.iload_n 1, 1) := by decide +kernel
theorem dX10_tune_5 : decode cX10_tune 5 = .ok (.iconst 5, 1) := by decide +kernel
theorem dX10_tune_6 : decode cX10_tune 6 = .ok (.if_icmp .lt 13, 3) := by decide +kernel
theorem dX10_tune_9 : decode cX10_tune 9 = .ok (.new 193, 3) := by decide +kernel
theorem dX10_tune_12 : decode cX10_tune 12 = .ok (.dup, 1) := by decide +kernel
theorem dX10_tune_13 : decode cX10_tune 13 = .ok (.ldc 227, 2) := by decide +kernel
theorem dX10_tune_15 : decode cX10_tune 15 = .ok (.invokespecial 197, 3) := by decide +kernel
theorem dX10_tune_18 : decode cX10_tune 18 = .ok (.athrow, 1) := by decide +kernel
theorem dX10_tune_19 : decode cX10_tune 19 = .ok (.iload_n 2, 1) := by decide +kernel
theorem dX10_tune_20 : decode cX10_tune 20 = .ok (.getstatic 229, 3) := by decide +kernel
theorem dX10_tune_23 : decode cX10_tune 23 = .ok (.iload_n 1, 1) := by decide +kernel
theorem dX10_tune_24 : decode cX10_tune 24 = .ok (.iaload, 1) := by decide +kernel
theorem dX10_tune_25 : decode cX10_tune 25 = .ok (.if_icmp .lt 12, 3) := by decide +kernel
theorem dX10_tune_28 : decode cX10_tune 28 = .ok (.iload_n 2, 1) := by decide +kernel
theorem dX10_tune_29 : decode cX10_tune 29 = .ok (.getstatic 232, 3) := by decide +kernel
theorem dX10_tune_32 : decode cX10_tune 32 = .ok (.iload_n 1, 1) := by decide +kernel
theorem dX10_tune_33 : decode cX10_tune 33 = .ok (.iaload, 1) := by decide +kernel
theorem dX10_tune_34 : decode cX10_tune 34 = .ok (.if_icmp .le 13, 3) := by decide +kernel
theorem dX10_tune_37 : decode cX10_tune 37 = .ok (.new 217, 3) := by decide +kernel
theorem dX10_tune_40 : decode cX10_tune 40 = .ok (.dup, 1) := by decide +kernel
theorem dX10_tune_41 : decode cX10_tune 41 = .ok (.ldc 235, 2) := by decide +kernel
theorem dX10_tune_43 : decode cX10_tune 43 = .ok (.invokespecial 221, 3) := by decide +kernel
theorem dX10_tune_46 : decode cX10_tune 46 = .ok (.athrow, 1) := by decide +kernel
theorem dX10_tune_47 : decode cX10_tune 47 = .ok (.aload_n 0, 1) := by decide +kernel
theorem dX10_tune_48 : decode cX10_tune 48 = .ok (.getfield 16, 3) := by decide +kernel
theorem dX10_tune_51 : decode cX10_tune 51 = .ok (.getfield 237, 3) := by decide +kernel
theorem dX10_tune_54 : decode cX10_tune 54 = .ok (.iload_n 1, 1) := by decide +kernel
theorem dX10_tune_55 : decode cX10_tune 55 = .ok (.iaload, 1) := by decide +kernel
theorem dX10_tune_56 : decode cX10_tune 56 = .ok (.istore_n 3, 1) := by decide +kernel
theorem dX10_tune_57 : decode cX10_tune 57 = .ok (.aload_n 0, 1) := by decide +kernel
theorem dX10_tune_58 : decode cX10_tune 58 = .ok (.getfield 16, 3) := by decide +kernel
theorem dX10_tune_61 : decode cX10_tune 61 = .ok (.getfield 237, 3) := by decide +kernel
theorem dX10_tune_64 : decode cX10_tune 64 = .ok (.iload_n 1, 1) := by decide +kernel
theorem dX10_tune_65 : decode cX10_tune 65 = .ok (.iload_n 2, 1) := by decide +kernel
theorem dX10_tune_66 : decode cX10_tune 66 = .ok (.iastore, 1) := by decide +kernel
theorem dX10_tune_67 : decode cX10_tune 67 = .ok (.iload_n 1, 1) := by decide +kernel
theorem dX10_tune_68 : decode cX10_tune 68 = .ok (.ifCond .eq 8, 3) := by decide +kernel
theorem dX10_tune_71 : decode cX10_tune 71 = .ok (.iload_n 1, 1) := by decide +kernel
theorem dX10_tune_72 : decode cX10_tune 72 = .ok (.iconst 1, 1) := by decide +kernel
theorem dX10_tune_73 : decode cX10_tune 73 = .ok (.if_icmp .ne 10, 3) := by decide +kernel
theorem dX10_tune_76 : decode cX10_tune 76 = .ok (.aload_n 0, 1) := by decide +kernel
theorem dX10_tune_77 : decode cX10_tune 77 = .ok (.invokevirtual 214, 3) := by decide +kernel
theorem dX10_tune_80 : decode cX10_tune 80 = .ok (.goto 7, 3) := by decide +kernel
theorem dX10_tune_83 : decode cX10_tune 83 = .ok (.aload_n 0, 1) := by decide +kernel
theorem dX10_tune_84 : decode cX10_tune 84 = .ok (.invokevirtual 240, 3) := by decide +kernel
theorem dX10_tune_87 : decode cX10_tune 87 = .ok (.iload_n 3, 1) := by decide +kernel
theorem dX10_tune_88 : decode cX10_tune 88 = .ok (.ireturn, 1) := by decide +kernel
theorem dX10_option_0 : decode cX10_option 0 = .ok (.aload_n 0, 1) := by decide +kernel
theorem dX10_option_1 : decode cX10_option 1 = .ok (.iload_n 1, 1) := by decide +kernel
theorem dX10_option_2 : decode cX10_option 2 = .ok (.invokevirtual 208, 3) := by decide +kernel
theorem dX10_option_5 : decode cX10_option 5 = .ok (.aload_n 0, 1) := by decide +kernel
theorem dX10_option_6 : decode cX10_option 6 = .ok (.invokevirtual 179, 3) := by decide +kernel
theorem dX10_option_9 : decode cX10_option 9 = .ok (.aload_n 0, 1) := by decide +kernel
theorem dX10_option_10 : decode cX10_option 10 = .ok (.getfield 34, 3) := by decide +kernel
theorem dX10_option_13 : decode cX10_option 13 = .ok (.iload_n 1, 1) := by decide +kernel
theorem dX10_option_14 : decode cX10_option 14 = .ok (.iload_n 2, 1) := by decide +kernel
theorem dX10_option_15 : decode cX10_option 15 = .ok (.invokevirtual 243, 3) := by decide +kernel
theorem dX10_option_18 : decode cX10_option 18 = .ok (.ireturn, 1) := by decide +kernel
theorem dX10_stretch_0 : decode cX10_stretch 0 = .ok (.aload_n 0, 1) := by decide +kernel
theorem dX10_stretch_1 : decode cX10_stretch 1 = .ok (.iload_n 1, 1) := by decide +kernel
theorem dX10_stretch_2 : decode cX10_stretch 2 = .ok (.invokevirtual 208, 3) := by decide +kernel
theorem dX10_stretch_5 : decode cX10_stretch 5 = .ok (.aload_n 0, 1) := by decide +kernel
theorem dX10_stretch_6 : decode cX10_stretch 6 = .ok (.iload_n 2, 1) := by decide +kernel
theorem dX10_stretch_7 : decode cX10_stretch 7 = .ok (.invokevirtual 208, 3) := by decide +kernel
theorem dX10_stretch_10 : decode cX10_stretch 10 = .ok (.iload_n 2, 1) := by decide +kernel
theorem dX10_stretch_11 : decode cX10_stretch 11 = .ok (.iload_n 1, 1) := by decide +kernel
theorem dX10_stretch_12 : decode cX10_stretch 12 = .ok (.if_icmp .ge 13, 3) := by decide +kernel
theorem dX10_stretch_15 : decode cX10_stretch 15 = .ok (.new 217, 3) := by decide +kernel
theorem dX10_stretch_18 : decode cX10_stretch 18 = .ok (.dup, 1) := by decide +kernel
theorem dX10_stretch_19 : decode cX10_stretch 19 = .ok (.ldc 246, 2) := by decide +kernel
theorem dX10_stretch_21 : decode cX10_stretch 21 = .ok (.invokespecial 221, 3) := by decide +kernel
theorem dX10_stretch_24 : decode cX10_stretch 24 = .ok (.athrow, 1) := by decide +kernel
theorem dX10_stretch_25 : decode cX10_stretch 25 = .ok (.aload_n 0, 1) := by decide +kernel
theorem dX10_stretch_26 : decode cX10_stretch 26 = .ok (.invokevirtual 179, 3) := by decide +kernel
theorem dX10_stretch_29 : decode cX10_stretch 29 = .ok (.aload_n 0, 1) := by decide +kernel
theorem dX10_stretch_30 : decode cX10_stretch 30 = .ok (.getfield 59, 3) := by decide +kernel
theorem dX10_stretch_33 : decode cX10_stretch 33 = .ok (.getfield 248, 3) := by decide +kernel
theorem dX10_stretch_36 : decode cX10_stretch 36 = .ok (.iload_n 1, 1) := by decide +kernel
theorem dX10_stretch_37 : decode cX10_stretch 37 = .ok (.bipush 6, 2) := by decide +kernel
theorem dX10_stretch_39 : decode cX10_stretch 39 = .ok (.imul, 1) := by decide +kernel
theorem dX10_stretch_40 : decode cX10_stretch 40 = .ok (.iload_n 2, 1) := by decide +kernel
theorem dX10_stretch_41 : decode cX10_stretch 41 = .ok (.iadd, 1) := by decide +kernel
theorem dX10_stretch_42 : decode cX10_stretch 42 = .ok (.iaload, 1) := by decide +kernel
theorem dX10_stretch_43 : decode cX10_stretch 43 = .ok (.ireturn, 1) := by decide +kernel
theorem dX10_exact_0 : decode cX10_exact 0 = .ok (.aload_n 0, 1) := by decide +kernel
theorem dX10_exact_1 : decode cX10_exact 1 = .ok (.invokevirtual 179, 3) := by decide +kernel
theorem dX10_exact_4 : decode cX10_exact 4 = .ok (.aload_n 0, 1) := by decide +kernel
theorem dX10_exact_5 : decode cX10_exact 5 = .ok (.invokevirtual 249, 3) := by decide +kernel
theorem dX10_exact_8 : decode cX10_exact 8 = .ok (.aload_n 0, 1) := by decide +kernel
theorem dX10_exact_9 : decode cX10_exact 9 = .ok (.getfield 43, 3) := by decide +kernel
theorem dX10_exact_12 : decode cX10_exact 12 = .ok (.invokevirtual 252, 3) := by decide +kernel
theorem dX10_exact_15 : decode cX10_exact 15 = .ok (.ireturn, 1) := by decide +kernel
theorem dX10_many_0 : decode cX10_many 0 = .ok (.aload_n 0, 1) := by decide +kernel
theorem dX10_many_1 : decode cX10_many 1 = .ok (.invokevirtual 179, 3) := by decide +kernel
theorem dX10_many_4 : decode cX10_many 4 = .ok (.aload_n 0, 1) := by decide +kernel
theorem dX10_many_5 : decode cX10_many 5 = .ok (.getfield 75, 3) := by decide +kernel
theorem dX10_many_8 : decode cX10_many 8 = .ok (.aload_n 0, 1) := by decide +kernel
theorem dX10_many_9 : decode cX10_many 9 = .ok (.getfield 16, 3) := by decide +kernel
theorem dX10_many_12 : decode cX10_many 12 = .ok (.getfield 237, 3) := by decide +kernel
theorem dX10_many_15 : decode cX10_many 15 = .ok (.iconst 3, 1) := by decide +kernel
theorem dX10_many_16 : decode cX10_many 16 = .ok (.iaload, 1) := by decide +kernel
theorem dX10_many_17 : decode cX10_many 17 = .ok (.invokevirtual 256, 3) := by decide +kernel
theorem dX10_many_20 : decode cX10_many 20 = .ok (.ireturn, 1) := by decide +kernel
theorem dX10_way_0 : decode cX10_way 0 = .ok (.iload_n 2, 1) := by decide +kernel
theorem dX10_way_1 : decode cX10_way 1 = .ok (.ifCond .lt 8, 3) := by decide +kernel
theorem dX10_way_4 : decode cX10_way 4 = .ok (.iload_n 2, 1) := by decide +kernel
theorem dX10_way_5 : decode cX10_way 5 = .ok (.iconst 2, 1) := by decide +kernel
theorem dX10_way_6 : decode cX10_way 6 = .ok (.if_icmp .le 14, 3) := by decide +kernel
theorem dX10_way_9 : decode cX10_way 9 = .ok (.new 193, 3) := by decide +kernel
theorem dX10_way_12 : decode cX10_way 12 = .ok (.dup, 1) := by decide +kernel
theorem dX10_way_13 : decode cX10_way 13 = .ok (.ldc_w 259, 3) := by decide +kernel
theorem dX10_way_16 : decode cX10_way 16 = .ok (.invokespecial 197, 3) := by decide +kernel
theorem dX10_way_19 : decode cX10_way 19 = .ok (.athrow, 1) := by decide +kernel
theorem dX10_way_20 : decode cX10_way 20 = .ok (.aload_n 0, 1) := by decide +kernel
theorem dX10_way_21 : decode cX10_way 21 = .ok (.iload_n 1, 1) := by decide +kernel
theorem dX10_way_22 : decode cX10_way 22 = .ok (.invokevirtual 261, 3) := by decide +kernel
theorem dX10_way_25 : decode cX10_way 25 = .ok (.aload_n 0, 1) := by decide +kernel
theorem dX10_way_26 : decode cX10_way 26 = .ok (.iload_n 1, 1) := by decide +kernel
theorem dX10_way_27 : decode cX10_way 27 = .ok (.invokevirtual 186, 3) := by decide +kernel
theorem dX10_way_30 : decode cX10_way 30 = .ok (.ifCond .ne 5, 3) := by decide +kernel
theorem dX10_way_33 : decode cX10_way 33 = .ok (.iconst (-1), 1) := by decide +kernel
theorem dX10_way_34 : decode cX10_way 34 = .ok (.ireturn, 1) := by decide +kernel
theorem dX10_way_35 : decode cX10_way 35 = .ok (.iload_n 2, 1) := by decide +kernel
theorem dX10_way_36 : decode cX10_way 36 = .ok (.ifCond .ne 12, 3) := by decide +kernel
theorem dX10_way_39 : decode cX10_way 39 = .ok (.aload_n 0, 1) := by decide +kernel
theorem dX10_way_40 : decode cX10_way 40 = .ok (.getfield 52, 3) := by decide +kernel
theorem dX10_way_43 : decode cX10_way 43 = .ok (.iload_n 1, 1) := by decide +kernel
theorem dX10_way_44 : decode cX10_way 44 = .ok (.invokevirtual 264, 3) := by decide +kernel
theorem dX10_way_47 : decode cX10_way 47 = .ok (.ireturn, 1) := by decide +kernel
theorem dX10_way_48 : decode cX10_way 48 = .ok (.iload_n 2, 1) := by decide +kernel
theorem dX10_way_49 : decode cX10_way 49 = .ok (.iconst 1, 1) := by decide +kernel
theorem dX10_way_50 : decode cX10_way 50 = .ok (.if_icmp .ne 13, 3) := by decide +kernel
theorem dX10_way_53 : decode cX10_way 53 = .ok (.aload_n 0, 1) := by decide +kernel
theorem dX10_way_54 : decode cX10_way 54 = .ok (.getfield 52, 3) := by decide +kernel
theorem dX10_way_57 : decode cX10_way 57 = .ok (.getfield 267, 3) := by decide +kernel
theorem dX10_way_60 : decode cX10_way 60 = .ok (.goto 10, 3) := by decide +kernel
theorem dX10_way_63 : decode cX10_way 63 = .ok (.aload_n 0, 1) := by decide +kernel
theorem dX10_way_64 : decode cX10_way 64 = .ok (.getfield 52, 3) := by decide +kernel
theorem dX10_way_67 : decode cX10_way 67 = .ok (.getfield 268, 3) := by decide +kernel
theorem dX10_way_70 : decode cX10_way 70 = .ok (.ireturn, 1) := by decide +kernel
theorem dX10_step_0 : decode cX10_step 0 = .ok (.iload_n 3, 1) := by decide +kernel
theorem dX10_step_1 : decode cX10_step 1 = .ok (.ifCond .lt 8, 3) := by decide +kernel
theorem dX10_step_4 : decode cX10_step 4 = .ok (.iload_n 3, 1) := by decide +kernel
theorem dX10_step_5 : decode cX10_step 5 = .ok (.iconst 2, 1) := by decide +kernel
theorem dX10_step_6 : decode cX10_step 6 = .ok (.if_icmp .le 14, 3) := by decide +kernel
theorem dX10_step_9 : decode cX10_step 9 = .ok (.new 193, 3) := by decide +kernel
theorem dX10_step_12 : decode cX10_step 12 = .ok (.dup, 1) := by decide +kernel
theorem dX10_step_13 : decode cX10_step 13 = .ok (.ldc_w 271, 3) := by decide +kernel
theorem dX10_step_16 : decode cX10_step 16 = .ok (.invokespecial 197, 3) := by decide +kernel
theorem dX10_step_19 : decode cX10_step 19 = .ok (.athrow, 1) := by decide +kernel
theorem dX10_step_20 : decode cX10_step 20 = .ok (.aload_n 0, 1) := by decide +kernel
theorem dX10_step_21 : decode cX10_step 21 = .ok (.iload_n 1, 1) := by decide +kernel
theorem dX10_step_22 : decode cX10_step 22 = .ok (.invokevirtual 261, 3) := by decide +kernel
theorem dX10_step_25 : decode cX10_step 25 = .ok (.aload_n 0, 1) := by decide +kernel
theorem dX10_step_26 : decode cX10_step 26 = .ok (.iload_n 1, 1) := by decide +kernel
theorem dX10_step_27 : decode cX10_step 27 = .ok (.invokevirtual 186, 3) := by decide +kernel
theorem dX10_step_30 : decode cX10_step 30 = .ok (.ifCond .eq 18, 3) := by decide +kernel
theorem dX10_step_33 : decode cX10_step 33 = .ok (.iload_n 2, 1) := by decide +kernel
theorem dX10_step_34 : decode cX10_step 34 = .ok (.ifCond .lt 14, 3) := by decide +kernel
theorem dX10_step_37 : decode cX10_step 37 = .ok (.iload_n 2, 1) := by decide +kernel
theorem dX10_step_38 : decode cX10_step 38 = .ok (.aload_n 0, 1) := by decide +kernel
theorem dX10_step_39 : decode cX10_step 39 = .ok (.getfield 52, 3) := by decide +kernel
theorem dX10_step_42 : decode cX10_step 42 = .ok (.getfield 267, 3) := by decide +kernel
theorem dX10_step_45 : decode cX10_step 45 = .ok (.if_icmp .lt 5, 3) := by decide +kernel
theorem dX10_step_48 : decode cX10_step 48 = .ok (.iconst (-1), 1) := by decide +kernel
theorem dX10_step_49 : decode cX10_step 49 = .ok (.ireturn, 1) := by decide +kernel
theorem dX10_step_50 : decode cX10_step 50 = .ok (.iload_n 3, 1) := by decide +kernel
theorem dX10_step_51 : decode cX10_step 51 = .ok (.iconst 2, 1) := by decide +kernel
theorem dX10_step_52 : decode cX10_step 52 = .ok (.if_icmp .ne 13, 3) := by decide +kernel
theorem dX10_step_55 : decode cX10_step 55 = .ok (.aload_n 0, 1) := by decide +kernel
theorem dX10_step_56 : decode cX10_step 56 = .ok (.getfield 52, 3) := by decide +kernel
theorem dX10_step_59 : decode cX10_step 59 = .ok (.getfield 273, 3) := by decide +kernel
theorem dX10_step_62 : decode cX10_step 62 = .ok (.iload_n 2, 1) := by decide +kernel
theorem dX10_step_63 : decode cX10_step 63 = .ok (.iaload, 1) := by decide +kernel
theorem dX10_step_64 : decode cX10_step 64 = .ok (.ireturn, 1) := by decide +kernel
theorem dX10_step_65 : decode cX10_step 65 = .ok (.aload_n 0, 1) := by decide +kernel
theorem dX10_step_66 : decode cX10_step 66 = .ok (.getfield 52, 3) := by decide +kernel
theorem dX10_step_69 : decode cX10_step 69 = .ok (.getfield 276, 3) := by decide +kernel
theorem dX10_step_72 : decode cX10_step 72 = .ok (.iload_n 2, 1) := by decide +kernel
theorem dX10_step_73 : decode cX10_step 73 = .ok (.iaload, 1) := by decide +kernel
theorem dX10_step_74 : decode cX10_step 74 = .ok (.istore 4, 2) := by decide +kernel
theorem dX10_step_76 : decode cX10_step 76 = .ok (.iload_n 3, 1) := by decide +kernel
theorem dX10_step_77 : decode cX10_step 77 = .ok (.ifCond .ne 16, 3) := by decide +kernel
theorem dX10_step_80 : decode cX10_step 80 = .ok (.aload_n 0, 1) := by decide +kernel
theorem dX10_step_81 : decode cX10_step 81 = .ok (.getfield 34, 3) := by decide +kernel
theorem dX10_step_84 : decode cX10_step 84 = .ok (.getfield 279, 3) := by decide +kernel
theorem dX10_step_87 : decode cX10_step 87 = .ok (.iload 4, 2) := by decide +kernel
theorem dX10_step_89 : decode cX10_step 89 = .ok (.iaload, 1) := by decide +kernel
theorem dX10_step_90 : decode cX10_step 90 = .ok (.goto 13, 3) := by decide +kernel
theorem dX10_step_93 : decode cX10_step 93 = .ok (.aload_n 0, 1) := by decide +kernel
theorem dX10_step_94 : decode cX10_step 94 = .ok (.getfield 34, 3) := by decide +kernel
theorem dX10_step_97 : decode cX10_step 97 = .ok (.getfield 282, 3) := by decide +kernel
theorem dX10_step_100 : decode cX10_step 100 = .ok (.iload 4, 2) := by decide +kernel
theorem dX10_step_102 : decode cX10_step 102 = .ok (.iaload, 1) := by decide +kernel
theorem dX10_step_103 : decode cX10_step 103 = .ok (.ireturn, 1) := by decide +kernel
theorem dX10_word_0 : decode cX10_word 0 = .ok (.aload_n 0, 1) := by decide +kernel
theorem dX10_word_1 : decode cX10_word 1 = .ok (.iload_n 1, 1) := by decide +kernel
theorem dX10_word_2 : decode cX10_word 2 = .ok (.invokevirtual 261, 3) := by decide +kernel
theorem dX10_word_5 : decode cX10_word 5 = .ok (.aload_n 0, 1) := by decide +kernel
theorem dX10_word_6 : decode cX10_word 6 = .ok (.iload_n 1, 1) := by decide +kernel
theorem dX10_word_7 : decode cX10_word 7 = .ok (.invokevirtual 186, 3) := by decide +kernel
theorem dX10_word_10 : decode cX10_word 10 = .ok (.ifCond .eq 18, 3) := by decide +kernel
theorem dX10_word_13 : decode cX10_word 13 = .ok (.iload_n 2, 1) := by decide +kernel
theorem dX10_word_14 : decode cX10_word 14 = .ok (.ifCond .lt 14, 3) := by decide +kernel
theorem dX10_word_17 : decode cX10_word 17 = .ok (.iload_n 2, 1) := by decide +kernel
theorem dX10_word_18 : decode cX10_word 18 = .ok (.aload_n 0, 1) := by decide +kernel
theorem dX10_word_19 : decode cX10_word 19 = .ok (.getfield 52, 3) := by decide +kernel
theorem dX10_word_22 : decode cX10_word 22 = .ok (.getfield 268, 3) := by decide +kernel
theorem dX10_word_25 : decode cX10_word 25 = .ok (.if_icmp .lt 5, 3) := by decide +kernel
theorem dX10_word_28 : decode cX10_word 28 = .ok (.iconst (-1), 1) := by decide +kernel
theorem dX10_word_29 : decode cX10_word 29 = .ok (.ireturn, 1) := by decide +kernel
theorem dX10_word_30 : decode cX10_word 30 = .ok (.aload_n 0, 1) := by decide +kernel
theorem dX10_word_31 : decode cX10_word 31 = .ok (.getfield 52, 3) := by decide +kernel
theorem dX10_word_34 : decode cX10_word 34 = .ok (.getfield 285, 3) := by decide +kernel
theorem dX10_word_37 : decode cX10_word 37 = .ok (.iload_n 2, 1) := by decide +kernel
theorem dX10_word_38 : decode cX10_word 38 = .ok (.iaload, 1) := by decide +kernel
theorem dX10_word_39 : decode cX10_word 39 = .ok (.ireturn, 1) := by decide +kernel
theorem dX10_found_0 : decode cX10_found 0 = .ok (.iload_n 1, 1) := by decide +kernel
theorem dX10_found_1 : decode cX10_found 1 = .ok (.ifCond .lt 8, 3) := by decide +kernel
theorem dX10_found_4 : decode cX10_found 4 = .ok (.iload_n 1, 1) := by decide +kernel
theorem dX10_found_5 : decode cX10_found 5 = .ok (.iconst 4, 1) := by decide +kernel
theorem dX10_found_6 : decode cX10_found 6 = .ok (.if_icmp .le 14, 3) := by decide +kernel
theorem dX10_found_9 : decode cX10_found 9 = .ok (.new 193, 3) := by decide +kernel
theorem dX10_found_12 : decode cX10_found 12 = .ok (.dup, 1) := by decide +kernel
theorem dX10_found_13 : decode cX10_found 13 = .ok (.ldc_w 288, 3) := by decide +kernel
theorem dX10_found_16 : decode cX10_found 16 = .ok (.invokespecial 197, 3) := by decide +kernel
theorem dX10_found_19 : decode cX10_found 19 = .ok (.athrow, 1) := by decide +kernel
theorem dX10_found_20 : decode cX10_found 20 = .ok (.aload_n 0, 1) := by decide +kernel
theorem dX10_found_21 : decode cX10_found 21 = .ok (.invokevirtual 290, 3) := by decide +kernel
theorem dX10_found_24 : decode cX10_found 24 = .ok (.iload_n 1, 1) := by decide +kernel
theorem dX10_found_25 : decode cX10_found 25 = .ok (.tableswitch 78 0 3 #[31, 39, 62, 70], 31) := by decide +kernel
theorem dX10_found_56 : decode cX10_found 56 = .ok (.aload_n 0, 1) := by decide +kernel
theorem dX10_found_57 : decode cX10_found 57 = .ok (.getfield 68, 3) := by decide +kernel
theorem dX10_found_60 : decode cX10_found 60 = .ok (.getfield 293, 3) := by decide +kernel
theorem dX10_found_63 : decode cX10_found 63 = .ok (.ireturn, 1) := by decide +kernel
theorem dX10_found_64 : decode cX10_found 64 = .ok (.aload_n 0, 1) := by decide +kernel
theorem dX10_found_65 : decode cX10_found 65 = .ok (.getfield 68, 3) := by decide +kernel
theorem dX10_found_68 : decode cX10_found 68 = .ok (.getfield 293, 3) := by decide +kernel
theorem dX10_found_71 : decode cX10_found 71 = .ok (.iconst (-1), 1) := by decide +kernel
theorem dX10_found_72 : decode cX10_found 72 = .ok (.if_icmp .ne 7, 3) := by decide +kernel
theorem dX10_found_75 : decode cX10_found 75 = .ok (.iconst (-1), 1) := by decide +kernel
theorem dX10_found_76 : decode cX10_found 76 = .ok (.goto 10, 3) := by decide +kernel
theorem dX10_found_79 : decode cX10_found 79 = .ok (.aload_n 0, 1) := by decide +kernel
theorem dX10_found_80 : decode cX10_found 80 = .ok (.getfield 68, 3) := by decide +kernel
theorem dX10_found_83 : decode cX10_found 83 = .ok (.getfield 296, 3) := by decide +kernel
theorem dX10_found_86 : decode cX10_found 86 = .ok (.ireturn, 1) := by decide +kernel
theorem dX10_found_87 : decode cX10_found 87 = .ok (.aload_n 0, 1) := by decide +kernel
theorem dX10_found_88 : decode cX10_found 88 = .ok (.getfield 68, 3) := by decide +kernel
theorem dX10_found_91 : decode cX10_found 91 = .ok (.getfield 299, 3) := by decide +kernel
theorem dX10_found_94 : decode cX10_found 94 = .ok (.ireturn, 1) := by decide +kernel
theorem dX10_found_95 : decode cX10_found 95 = .ok (.aload_n 0, 1) := by decide +kernel
theorem dX10_found_96 : decode cX10_found 96 = .ok (.getfield 68, 3) := by decide +kernel
theorem dX10_found_99 : decode cX10_found 99 = .ok (.getfield 302, 3) := by decide +kernel
theorem dX10_found_102 : decode cX10_found 102 = .ok (.ireturn, 1) := by decide +kernel
theorem dX10_found_103 : decode cX10_found 103 = .ok (.aload_n 0, 1) := by decide +kernel
theorem dX10_found_104 : decode cX10_found 104 = .ok (.getfield 68, 3) := by decide +kernel
theorem dX10_found_107 : decode cX10_found 107 = .ok (.getfield 305, 3) := by decide +kernel
theorem dX10_found_110 : decode cX10_found 110 = .ok (.ireturn, 1) := by decide +kernel
theorem dX10_halves_0 : decode cX10_halves 0 = .ok (.iload_n 2, 1) := by decide +kernel
theorem dX10_halves_1 : decode cX10_halves 1 = .ok (.ifCond .lt 8, 3) := by decide +kernel
theorem dX10_halves_4 : decode cX10_halves 4 = .ok (.iload_n 2, 1) := by decide +kernel
theorem dX10_halves_5 : decode cX10_halves 5 = .ok (.iconst 1, 1) := by decide +kernel
theorem dX10_halves_6 : decode cX10_halves 6 = .ok (.if_icmp .le 14, 3) := by decide +kernel
theorem dX10_halves_9 : decode cX10_halves 9 = .ok (.new 193, 3) := by decide +kernel
theorem dX10_halves_12 : decode cX10_halves 12 = .ok (.dup, 1) := by decide +kernel
theorem dX10_halves_13 : decode cX10_halves 13 = .ok (.ldc_w 271, 3) := by decide +kernel
theorem dX10_halves_16 : decode cX10_halves 16 = .ok (.invokespecial 197, 3) := by decide +kernel
theorem dX10_halves_19 : decode cX10_halves 19 = .ok (.athrow, 1) := by decide +kernel
theorem dX10_halves_20 : decode cX10_halves 20 = .ok (.aload_n 0, 1) := by decide +kernel
theorem dX10_halves_21 : decode cX10_halves 21 = .ok (.invokevirtual 290, 3) := by decide +kernel
theorem dX10_halves_24 : decode cX10_halves 24 = .ok (.iload_n 1, 1) := by decide +kernel
theorem dX10_halves_25 : decode cX10_halves 25 = .ok (.ifCond .lt 14, 3) := by decide +kernel
theorem dX10_halves_28 : decode cX10_halves 28 = .ok (.iload_n 1, 1) := by decide +kernel
theorem dX10_halves_29 : decode cX10_halves 29 = .ok (.aload_n 0, 1) := by decide +kernel
theorem dX10_halves_30 : decode cX10_halves 30 = .ok (.getfield 68, 3) := by decide +kernel
theorem dX10_halves_33 : decode cX10_halves 33 = .ok (.getfield 296, 3) := by decide +kernel
theorem dX10_halves_36 : decode cX10_halves 36 = .ok (.if_icmp .lt 5, 3) := by decide +kernel
theorem dX10_halves_39 : decode cX10_halves 39 = .ok (.iconst (-1), 1) := by decide +kernel
theorem dX10_halves_40 : decode cX10_halves 40 = .ok (.ireturn, 1) := by decide +kernel
theorem dX10_halves_41 : decode cX10_halves 41 = .ok (.aload_n 0, 1) := by decide +kernel
theorem dX10_halves_42 : decode cX10_halves 42 = .ok (.getfield 68, 3) := by decide +kernel
theorem dX10_halves_45 : decode cX10_halves 45 = .ok (.getfield 308, 3) := by decide +kernel
theorem dX10_halves_48 : decode cX10_halves 48 = .ok (.iload_n 1, 1) := by decide +kernel
theorem dX10_halves_49 : decode cX10_halves 49 = .ok (.iaload, 1) := by decide +kernel
theorem dX10_halves_50 : decode cX10_halves 50 = .ok (.istore_n 3, 1) := by decide +kernel
theorem dX10_halves_51 : decode cX10_halves 51 = .ok (.iload_n 2, 1) := by decide +kernel
theorem dX10_halves_52 : decode cX10_halves 52 = .ok (.ifCond .ne 15, 3) := by decide +kernel
theorem dX10_halves_55 : decode cX10_halves 55 = .ok (.aload_n 0, 1) := by decide +kernel
theorem dX10_halves_56 : decode cX10_halves 56 = .ok (.getfield 34, 3) := by decide +kernel
theorem dX10_halves_59 : decode cX10_halves 59 = .ok (.getfield 279, 3) := by decide +kernel
theorem dX10_halves_62 : decode cX10_halves 62 = .ok (.iload_n 3, 1) := by decide +kernel
theorem dX10_halves_63 : decode cX10_halves 63 = .ok (.iaload, 1) := by decide +kernel
theorem dX10_halves_64 : decode cX10_halves 64 = .ok (.goto 12, 3) := by decide +kernel
theorem dX10_halves_67 : decode cX10_halves 67 = .ok (.aload_n 0, 1) := by decide +kernel
theorem dX10_halves_68 : decode cX10_halves 68 = .ok (.getfield 34, 3) := by decide +kernel
theorem dX10_halves_71 : decode cX10_halves 71 = .ok (.getfield 282, 3) := by decide +kernel
theorem dX10_halves_74 : decode cX10_halves 74 = .ok (.iload_n 3, 1) := by decide +kernel
theorem dX10_halves_75 : decode cX10_halves 75 = .ok (.iaload, 1) := by decide +kernel
theorem dX10_halves_76 : decode cX10_halves 76 = .ok (.ireturn, 1) := by decide +kernel
theorem dX10_stack_0 : decode cX10_stack 0 = .ok (.iload_n 1, 1) := by decide +kernel
theorem dX10_stack_1 : decode cX10_stack 1 = .ok (.ifCond .lt 14, 3) := by decide +kernel
theorem dX10_stack_4 : decode cX10_stack 4 = .ok (.iload_n 1, 1) := by decide +kernel
theorem dX10_stack_5 : decode cX10_stack 5 = .ok (.aload_n 0, 1) := by decide +kernel
theorem dX10_stack_6 : decode cX10_stack 6 = .ok (.getfield 16, 3) := by decide +kernel
theorem dX10_stack_9 : decode cX10_stack 9 = .ok (.getfield 127, 3) := by decide +kernel
theorem dX10_stack_12 : decode cX10_stack 12 = .ok (.if_icmp .le 14, 3) := by decide +kernel
theorem dX10_stack_15 : decode cX10_stack 15 = .ok (.new 311, 3) := by decide +kernel
theorem dX10_stack_18 : decode cX10_stack 18 = .ok (.dup, 1) := by decide +kernel
theorem dX10_stack_19 : decode cX10_stack 19 = .ok (.ldc_w 313, 3) := by decide +kernel
theorem dX10_stack_22 : decode cX10_stack 22 = .ok (.invokespecial 315, 3) := by decide +kernel
theorem dX10_stack_25 : decode cX10_stack 25 = .ok (.athrow, 1) := by decide +kernel
theorem dX10_stack_26 : decode cX10_stack 26 = .ok (.iload_n 2, 1) := by decide +kernel
theorem dX10_stack_27 : decode cX10_stack 27 = .ok (.ifCond .lt 8, 3) := by decide +kernel
theorem dX10_stack_30 : decode cX10_stack 30 = .ok (.iload_n 2, 1) := by decide +kernel
theorem dX10_stack_31 : decode cX10_stack 31 = .ok (.iconst 1, 1) := by decide +kernel
theorem dX10_stack_32 : decode cX10_stack 32 = .ok (.if_icmp .le 14, 3) := by decide +kernel
theorem dX10_stack_35 : decode cX10_stack 35 = .ok (.new 193, 3) := by decide +kernel
theorem dX10_stack_38 : decode cX10_stack 38 = .ok (.dup, 1) := by decide +kernel
theorem dX10_stack_39 : decode cX10_stack 39 = .ok (.ldc_w 316, 3) := by decide +kernel
theorem dX10_stack_42 : decode cX10_stack 42 = .ok (.invokespecial 197, 3) := by decide +kernel
theorem dX10_stack_45 : decode cX10_stack 45 = .ok (.athrow, 1) := by decide +kernel
theorem dX10_stack_46 : decode cX10_stack 46 = .ok (.aload_n 0, 1) := by decide +kernel
theorem dX10_stack_47 : decode cX10_stack 47 = .ok (.invokevirtual 290, 3) := by decide +kernel
theorem dX10_stack_50 : decode cX10_stack 50 = .ok (.iload_n 2, 1) := by decide +kernel
theorem dX10_stack_51 : decode cX10_stack 51 = .ok (.ifCond .ne 15, 3) := by decide +kernel
theorem dX10_stack_54 : decode cX10_stack 54 = .ok (.aload_n 0, 1) := by decide +kernel
theorem dX10_stack_55 : decode cX10_stack 55 = .ok (.getfield 68, 3) := by decide +kernel
theorem dX10_stack_58 : decode cX10_stack 58 = .ok (.getfield 318, 3) := by decide +kernel
theorem dX10_stack_61 : decode cX10_stack 61 = .ok (.iload_n 1, 1) := by decide +kernel
theorem dX10_stack_62 : decode cX10_stack 62 = .ok (.iaload, 1) := by decide +kernel
theorem dX10_stack_63 : decode cX10_stack 63 = .ok (.goto 12, 3) := by decide +kernel
theorem dX10_stack_66 : decode cX10_stack 66 = .ok (.aload_n 0, 1) := by decide +kernel
theorem dX10_stack_67 : decode cX10_stack 67 = .ok (.getfield 68, 3) := by decide +kernel
theorem dX10_stack_70 : decode cX10_stack 70 = .ok (.getfield 321, 3) := by decide +kernel
theorem dX10_stack_73 : decode cX10_stack 73 = .ok (.iload_n 1, 1) := by decide +kernel
theorem dX10_stack_74 : decode cX10_stack 74 = .ok (.iaload, 1) := by decide +kernel
theorem dX10_stack_75 : decode cX10_stack 75 = .ok (.ireturn, 1) := by decide +kernel
theorem dX10_forced_0 : decode cX10_forced 0 = .ok (.aload_n 0, 1) := by decide +kernel
theorem dX10_forced_1 : decode cX10_forced 1 = .ok (.invokevirtual 324, 3) := by decide +kernel
theorem dX10_forced_4 : decode cX10_forced 4 = .ok (.aload_n 0, 1) := by decide +kernel
theorem dX10_forced_5 : decode cX10_forced 5 = .ok (.invokevirtual 179, 3) := by decide +kernel
theorem dX10_forced_8 : decode cX10_forced 8 = .ok (.aload_n 0, 1) := by decide +kernel
theorem dX10_forced_9 : decode cX10_forced 9 = .ok (.getfield 75, 3) := by decide +kernel
theorem dX10_forced_12 : decode cX10_forced 12 = .ok (.aload_n 0, 1) := by decide +kernel
theorem dX10_forced_13 : decode cX10_forced 13 = .ok (.getfield 27, 3) := by decide +kernel
theorem dX10_forced_16 : decode cX10_forced 16 = .ok (.getfield 327, 3) := by decide +kernel
theorem dX10_forced_19 : decode cX10_forced 19 = .ok (.aload_n 0, 1) := by decide +kernel
theorem dX10_forced_20 : decode cX10_forced 20 = .ok (.getfield 27, 3) := by decide +kernel
theorem dX10_forced_23 : decode cX10_forced 23 = .ok (.getfield 330, 3) := by decide +kernel
theorem dX10_forced_26 : decode cX10_forced 26 = .ok (.aload_n 0, 1) := by decide +kernel
theorem dX10_forced_27 : decode cX10_forced 27 = .ok (.getfield 16, 3) := by decide +kernel
theorem dX10_forced_30 : decode cX10_forced 30 = .ok (.getfield 237, 3) := by decide +kernel
theorem dX10_forced_33 : decode cX10_forced 33 = .ok (.iconst 2, 1) := by decide +kernel
theorem dX10_forced_34 : decode cX10_forced 34 = .ok (.iaload, 1) := by decide +kernel
theorem dX10_forced_35 : decode cX10_forced 35 = .ok (.aload_n 0, 1) := by decide +kernel
theorem dX10_forced_36 : decode cX10_forced 36 = .ok (.getfield 16, 3) := by decide +kernel
theorem dX10_forced_39 : decode cX10_forced 39 = .ok (.getfield 237, 3) := by decide +kernel
theorem dX10_forced_42 : decode cX10_forced 42 = .ok (.iconst 3, 1) := by decide +kernel
theorem dX10_forced_43 : decode cX10_forced 43 = .ok (.iaload, 1) := by decide +kernel
theorem dX10_forced_44 : decode cX10_forced 44 = .ok (.invokevirtual 333, 3) := by decide +kernel
theorem dX10_forced_47 : decode cX10_forced 47 = .ok (.ireturn, 1) := by decide +kernel
theorem dX10_near_0 : decode cX10_near 0 = .ok (.aload_n 0, 1) := by decide +kernel
theorem dX10_near_1 : decode cX10_near 1 = .ok (.invokevirtual 324, 3) := by decide +kernel
theorem dX10_near_4 : decode cX10_near 4 = .ok (.aload_n 0, 1) := by decide +kernel
theorem dX10_near_5 : decode cX10_near 5 = .ok (.iconst 0, 1) := by decide +kernel
theorem dX10_near_6 : decode cX10_near 6 = .ok (.invokevirtual 186, 3) := by decide +kernel
theorem dX10_near_9 : decode cX10_near 9 = .ok (.pop, 1) := by decide +kernel
theorem dX10_near_10 : decode cX10_near 10 = .ok (.aload_n 0, 1) := by decide +kernel
theorem dX10_near_11 : decode cX10_near 11 = .ok (.getfield 82, 3) := by decide +kernel
theorem dX10_near_14 : decode cX10_near 14 = .ok (.aload_n 0, 1) := by decide +kernel
theorem dX10_near_15 : decode cX10_near 15 = .ok (.getfield 52, 3) := by decide +kernel
theorem dX10_near_18 : decode cX10_near 18 = .ok (.getfield 285, 3) := by decide +kernel
theorem dX10_near_21 : decode cX10_near 21 = .ok (.aload_n 0, 1) := by decide +kernel
theorem dX10_near_22 : decode cX10_near 22 = .ok (.getfield 52, 3) := by decide +kernel
theorem dX10_near_25 : decode cX10_near 25 = .ok (.getfield 268, 3) := by decide +kernel
theorem dX10_near_28 : decode cX10_near 28 = .ok (.aload_n 0, 1) := by decide +kernel
theorem dX10_near_29 : decode cX10_near 29 = .ok (.getfield 27, 3) := by decide +kernel
theorem dX10_near_32 : decode cX10_near 32 = .ok (.getfield 327, 3) := by decide +kernel
theorem dX10_near_35 : decode cX10_near 35 = .ok (.aload_n 0, 1) := by decide +kernel
theorem dX10_near_36 : decode cX10_near 36 = .ok (.getfield 27, 3) := by decide +kernel
theorem dX10_near_39 : decode cX10_near 39 = .ok (.getfield 330, 3) := by decide +kernel
theorem dX10_near_42 : decode cX10_near 42 = .ok (.invokevirtual 337, 3) := by decide +kernel
theorem dX10_near_45 : decode cX10_near 45 = .ok (.ireturn, 1) := by decide +kernel
theorem dX10_match_0 : decode cX10_match 0 = .ok (.iload_n 1, 1) := by decide +kernel
theorem dX10_match_1 : decode cX10_match 1 = .ok (.iconst 1, 1) := by decide +kernel
theorem dX10_match_2 : decode cX10_match 2 = .ok (.if_icmp .lt 8, 3) := by decide +kernel
theorem dX10_match_5 : decode cX10_match 5 = .ok (.iload_n 1, 1) := by decide +kernel
theorem dX10_match_6 : decode cX10_match 6 = .ok (.iconst 3, 1) := by decide +kernel
theorem dX10_match_7 : decode cX10_match 7 = .ok (.if_icmp .le 22, 3) := by decide +kernel
theorem dX10_match_10 : decode cX10_match 10 = .ok (.aload_n 0, 1) := by decide +kernel
theorem dX10_match_11 : decode cX10_match 11 = .ok (.getfield 27, 3) := by decide +kernel
theorem dX10_match_14 : decode cX10_match 14 = .ok (.iconst 0, 1) := by decide +kernel
theorem dX10_match_15 : decode cX10_match 15 = .ok (.putfield 86, 3) := by decide +kernel
theorem dX10_match_18 : decode cX10_match 18 = .ok (.new 217, 3) := by decide +kernel
theorem dX10_match_21 : decode cX10_match 21 = .ok (.dup, 1) := by decide +kernel
theorem dX10_match_22 : decode cX10_match 22 = .ok (.ldc_w 341, 3) := by decide +kernel
theorem dX10_match_25 : decode cX10_match 25 = .ok (.invokespecial 221, 3) := by decide +kernel
theorem dX10_match_28 : decode cX10_match 28 = .ok (.athrow, 1) := by decide +kernel
theorem dX10_match_29 : decode cX10_match 29 = .ok (.aload_n 0, 1) := by decide +kernel
theorem dX10_match_30 : decode cX10_match 30 = .ok (.invokevirtual 324, 3) := by decide +kernel
theorem dX10_match_33 : decode cX10_match 33 = .ok (.aload_n 0, 1) := by decide +kernel
theorem dX10_match_34 : decode cX10_match 34 = .ok (.iconst 0, 1) := by decide +kernel
theorem dX10_match_35 : decode cX10_match 35 = .ok (.invokevirtual 186, 3) := by decide +kernel
theorem dX10_match_38 : decode cX10_match 38 = .ok (.pop, 1) := by decide +kernel
theorem dX10_match_39 : decode cX10_match 39 = .ok (.aload_n 0, 1) := by decide +kernel
theorem dX10_match_40 : decode cX10_match 40 = .ok (.getfield 82, 3) := by decide +kernel
theorem dX10_match_43 : decode cX10_match 43 = .ok (.aload_n 0, 1) := by decide +kernel
theorem dX10_match_44 : decode cX10_match 44 = .ok (.getfield 52, 3) := by decide +kernel
theorem dX10_match_47 : decode cX10_match 47 = .ok (.getfield 285, 3) := by decide +kernel
theorem dX10_match_50 : decode cX10_match 50 = .ok (.aload_n 0, 1) := by decide +kernel
theorem dX10_match_51 : decode cX10_match 51 = .ok (.getfield 52, 3) := by decide +kernel
theorem dX10_match_54 : decode cX10_match 54 = .ok (.getfield 268, 3) := by decide +kernel
theorem dX10_match_57 : decode cX10_match 57 = .ok (.aload_n 0, 1) := by decide +kernel
theorem dX10_match_58 : decode cX10_match 58 = .ok (.getfield 27, 3) := by decide +kernel
theorem dX10_match_61 : decode cX10_match 61 = .ok (.getfield 327, 3) := by decide +kernel
theorem dX10_match_64 : decode cX10_match 64 = .ok (.aload_n 0, 1) := by decide +kernel
theorem dX10_match_65 : decode cX10_match 65 = .ok (.getfield 27, 3) := by decide +kernel
theorem dX10_match_68 : decode cX10_match 68 = .ok (.getfield 330, 3) := by decide +kernel
theorem dX10_match_71 : decode cX10_match 71 = .ok (.iload_n 1, 1) := by decide +kernel
theorem dX10_match_72 : decode cX10_match 72 = .ok (.invokevirtual 343, 3) := by decide +kernel
theorem dX10_match_75 : decode cX10_match 75 = .ok (.ireturn, 1) := by decide +kernel
theorem dX10_agreed_0 : decode cX10_agreed 0 = .ok (.iload_n 1, 1) := by decide +kernel
theorem dX10_agreed_1 : decode cX10_agreed 1 = .ok (.iconst 1, 1) := by decide +kernel
theorem dX10_agreed_2 : decode cX10_agreed 2 = .ok (.if_icmp .lt 9, 3) := by decide +kernel
theorem dX10_agreed_5 : decode cX10_agreed 5 = .ok (.iload_n 1, 1) := by decide +kernel
theorem dX10_agreed_6 : decode cX10_agreed 6 = .ok (.bipush 10, 2) := by decide +kernel
theorem dX10_agreed_8 : decode cX10_agreed 8 = .ok (.if_icmp .le 14, 3) := by decide +kernel
theorem dX10_agreed_11 : decode cX10_agreed 11 = .ok (.new 217, 3) := by decide +kernel
theorem dX10_agreed_14 : decode cX10_agreed 14 = .ok (.dup, 1) := by decide +kernel
theorem dX10_agreed_15 : decode cX10_agreed 15 = .ok (.ldc_w 347, 3) := by decide +kernel
theorem dX10_agreed_18 : decode cX10_agreed 18 = .ok (.invokespecial 221, 3) := by decide +kernel
theorem dX10_agreed_21 : decode cX10_agreed 21 = .ok (.athrow, 1) := by decide +kernel
theorem dX10_agreed_22 : decode cX10_agreed 22 = .ok (.aload_n 0, 1) := by decide +kernel
theorem dX10_agreed_23 : decode cX10_agreed 23 = .ok (.getfield 82, 3) := by decide +kernel
theorem dX10_agreed_26 : decode cX10_agreed 26 = .ok (.invokevirtual 349, 3) := by decide +kernel
theorem dX10_agreed_29 : decode cX10_agreed 29 = .ok (.iconst 0, 1) := by decide +kernel
theorem dX10_agreed_30 : decode cX10_agreed 30 = .ok (.istore_n 2, 1) := by decide +kernel
theorem dX10_agreed_31 : decode cX10_agreed 31 = .ok (.iload_n 2, 1) := by decide +kernel
theorem dX10_agreed_32 : decode cX10_agreed 32 = .ok (.iload_n 1, 1) := by decide +kernel
theorem dX10_agreed_33 : decode cX10_agreed 33 = .ok (.if_icmp .ge 38, 3) := by decide +kernel
theorem dX10_agreed_36 : decode cX10_agreed 36 = .ok (.aload_n 0, 1) := by decide +kernel
theorem dX10_agreed_37 : decode cX10_agreed 37 = .ok (.iload_n 2, 1) := by decide +kernel
theorem dX10_agreed_38 : decode cX10_agreed 38 = .ok (.invokevirtual 186, 3) := by decide +kernel
theorem dX10_agreed_41 : decode cX10_agreed 41 = .ok (.ifCond .eq 24, 3) := by decide +kernel
theorem dX10_agreed_44 : decode cX10_agreed 44 = .ok (.aload_n 0, 1) := by decide +kernel
theorem dX10_agreed_45 : decode cX10_agreed 45 = .ok (.getfield 82, 3) := by decide +kernel
theorem dX10_agreed_48 : decode cX10_agreed 48 = .ok (.aload_n 0, 1) := by decide +kernel
theorem dX10_agreed_49 : decode cX10_agreed 49 = .ok (.getfield 52, 3) := by decide +kernel
theorem dX10_agreed_52 : decode cX10_agreed 52 = .ok (.getfield 285, 3) := by decide +kernel
theorem dX10_agreed_55 : decode cX10_agreed 55 = .ok (.aload_n 0, 1) := by decide +kernel
theorem dX10_agreed_56 : decode cX10_agreed 56 = .ok (.getfield 52, 3) := by decide +kernel
theorem dX10_agreed_59 : decode cX10_agreed 59 = .ok (.getfield 268, 3) := by decide +kernel
theorem dX10_agreed_62 : decode cX10_agreed 62 = .ok (.invokevirtual 352, 3) := by decide +kernel
theorem dX10_agreed_65 : decode cX10_agreed 65 = .ok (.iinc 2 1, 3) := by decide +kernel
theorem dX10_agreed_68 : decode cX10_agreed 68 = .ok (.goto (-37), 3) := by decide +kernel
theorem dX10_agreed_71 : decode cX10_agreed 71 = .ok (.aload_n 0, 1) := by decide +kernel
theorem dX10_agreed_72 : decode cX10_agreed 72 = .ok (.getfield 82, 3) := by decide +kernel
theorem dX10_agreed_75 : decode cX10_agreed 75 = .ok (.invokevirtual 356, 3) := by decide +kernel
theorem dX10_agreed_78 : decode cX10_agreed 78 = .ok (.ireturn, 1) := by decide +kernel
theorem dX10_needed_0 : decode cX10_needed 0 = .ok (.iconst 0, 1) := by decide +kernel
theorem dX10_needed_1 : decode cX10_needed 1 = .ok (.istore_n 1, 1) := by decide +kernel
theorem dX10_needed_2 : decode cX10_needed 2 = .ok (.aload_n 0, 1) := by decide +kernel
theorem dX10_needed_3 : decode cX10_needed 3 = .ok (.iconst 0, 1) := by decide +kernel
theorem dX10_needed_4 : decode cX10_needed 4 = .ok (.invokevirtual 186, 3) := by decide +kernel
theorem dX10_needed_7 : decode cX10_needed 7 = .ok (.pop, 1) := by decide +kernel
theorem dX10_needed_8 : decode cX10_needed 8 = .ok (.aload_n 0, 1) := by decide +kernel
theorem dX10_needed_9 : decode cX10_needed 9 = .ok (.invokevirtual 359, 3) := by decide +kernel
theorem dX10_needed_12 : decode cX10_needed 12 = .ok (.istore_n 2, 1) := by decide +kernel
theorem dX10_needed_13 : decode cX10_needed 13 = .ok (.aload_n 0, 1) := by decide +kernel
theorem dX10_needed_14 : decode cX10_needed 14 = .ok (.getfield 43, 3) := by decide +kernel
theorem dX10_needed_17 : decode cX10_needed 17 = .ok (.invokevirtual 252, 3) := by decide +kernel
theorem dX10_needed_20 : decode cX10_needed 20 = .ok (.istore_n 3, 1) := by decide +kernel
theorem dX10_needed_21 : decode cX10_needed 21 = .ok (.iconst 0, 1) := by decide +kernel
theorem dX10_needed_22 : decode cX10_needed 22 = .ok (.istore 4, 2) := by decide +kernel
theorem dX10_needed_24 : decode cX10_needed 24 = .ok (.iload 4, 2) := by decide +kernel
theorem dX10_needed_26 : decode cX10_needed 26 = .ok (.aload_n 0, 1) := by decide +kernel
theorem dX10_needed_27 : decode cX10_needed 27 = .ok (.getfield 16, 3) := by decide +kernel
theorem dX10_needed_30 : decode cX10_needed 30 = .ok (.getfield 362, 3) := by decide +kernel
theorem dX10_needed_33 : decode cX10_needed 33 = .ok (.if_icmp .ge 53, 3) := by decide +kernel
theorem dX10_needed_36 : decode cX10_needed 36 = .ok (.iload_n 2, 1) := by decide +kernel
theorem dX10_needed_37 : decode cX10_needed 37 = .ok (.iload 4, 2) := by decide +kernel
theorem dX10_needed_39 : decode cX10_needed 39 = .ok (.ishr, 1) := by decide +kernel
theorem dX10_needed_40 : decode cX10_needed 40 = .ok (.iconst 1, 1) := by decide +kernel
theorem dX10_needed_41 : decode cX10_needed 41 = .ok (.iand, 1) := by decide +kernel
theorem dX10_needed_42 : decode cX10_needed 42 = .ok (.ifCond .eq 38, 3) := by decide +kernel
theorem dX10_needed_45 : decode cX10_needed 45 = .ok (.aload_n 0, 1) := by decide +kernel
theorem dX10_needed_46 : decode cX10_needed 46 = .ok (.aload_n 0, 1) := by decide +kernel
theorem dX10_needed_47 : decode cX10_needed 47 = .ok (.getfield 16, 3) := by decide +kernel
theorem dX10_needed_50 : decode cX10_needed 50 = .ok (.getfield 237, 3) := by decide +kernel
theorem dX10_needed_53 : decode cX10_needed 53 = .ok (.iconst 2, 1) := by decide +kernel
theorem dX10_needed_54 : decode cX10_needed 54 = .ok (.iaload, 1) := by decide +kernel
theorem dX10_needed_55 : decode cX10_needed 55 = .ok (.aload_n 0, 1) := by decide +kernel
theorem dX10_needed_56 : decode cX10_needed 56 = .ok (.getfield 16, 3) := by decide +kernel
theorem dX10_needed_59 : decode cX10_needed 59 = .ok (.getfield 237, 3) := by decide +kernel
theorem dX10_needed_62 : decode cX10_needed 62 = .ok (.iconst 3, 1) := by decide +kernel
theorem dX10_needed_63 : decode cX10_needed 63 = .ok (.iaload, 1) := by decide +kernel
theorem dX10_needed_64 : decode cX10_needed 64 = .ok (.iload 4, 2) := by decide +kernel
theorem dX10_needed_66 : decode cX10_needed 66 = .ok (.invokevirtual 365, 3) := by decide +kernel
theorem dX10_needed_69 : decode cX10_needed 69 = .ok (.iload_n 3, 1) := by decide +kernel
theorem dX10_needed_70 : decode cX10_needed 70 = .ok (.if_icmp .le 10, 3) := by decide +kernel
theorem dX10_needed_73 : decode cX10_needed 73 = .ok (.iload_n 1, 1) := by decide +kernel
theorem dX10_needed_74 : decode cX10_needed 74 = .ok (.iconst 1, 1) := by decide +kernel
theorem dX10_needed_75 : decode cX10_needed 75 = .ok (.iload 4, 2) := by decide +kernel
theorem dX10_needed_77 : decode cX10_needed 77 = .ok (.ishl, 1) := by decide +kernel
theorem dX10_needed_78 : decode cX10_needed 78 = .ok (.ior, 1) := by decide +kernel
theorem dX10_needed_79 : decode cX10_needed 79 = .ok (.istore_n 1, 1) := by decide +kernel
theorem dX10_needed_80 : decode cX10_needed 80 = .ok (.iinc 4 1, 3) := by decide +kernel
theorem dX10_needed_83 : decode cX10_needed 83 = .ok (.goto (-59), 3) := by decide +kernel
theorem dX10_needed_86 : decode cX10_needed 86 = .ok (.iload_n 1, 1) := by decide +kernel
theorem dX10_needed_87 : decode cX10_needed 87 = .ok (.ireturn, 1) := by decide +kernel
theorem dX10_idle_0 : decode cX10_idle 0 = .ok (.aload_n 0, 1) := by decide +kernel
theorem dX10_idle_1 : decode cX10_idle 1 = .ok (.invokevirtual 179, 3) := by decide +kernel
theorem dX10_idle_4 : decode cX10_idle 4 = .ok (.iconst 0, 1) := by decide +kernel
theorem dX10_idle_5 : decode cX10_idle 5 = .ok (.istore_n 1, 1) := by decide +kernel
theorem dX10_idle_6 : decode cX10_idle 6 = .ok (.iconst 0, 1) := by decide +kernel
theorem dX10_idle_7 : decode cX10_idle 7 = .ok (.istore_n 2, 1) := by decide +kernel
theorem dX10_idle_8 : decode cX10_idle 8 = .ok (.iload_n 2, 1) := by decide +kernel
theorem dX10_idle_9 : decode cX10_idle 9 = .ok (.aload_n 0, 1) := by decide +kernel
theorem dX10_idle_10 : decode cX10_idle 10 = .ok (.getfield 16, 3) := by decide +kernel
theorem dX10_idle_13 : decode cX10_idle 13 = .ok (.getfield 362, 3) := by decide +kernel
theorem dX10_idle_16 : decode cX10_idle 16 = .ok (.if_icmp .ge 38, 3) := by decide +kernel
theorem dX10_idle_19 : decode cX10_idle 19 = .ok (.aload_n 0, 1) := by decide +kernel
theorem dX10_idle_20 : decode cX10_idle 20 = .ok (.getfield 16, 3) := by decide +kernel
theorem dX10_idle_23 : decode cX10_idle 23 = .ok (.getfield 175, 3) := by decide +kernel
theorem dX10_idle_26 : decode cX10_idle 26 = .ok (.iload_n 2, 1) := by decide +kernel
theorem dX10_idle_27 : decode cX10_idle 27 = .ok (.baload, 1) := by decide +kernel
theorem dX10_idle_28 : decode cX10_idle 28 = .ok (.ifCond .ne 20, 3) := by decide +kernel
theorem dX10_idle_31 : decode cX10_idle 31 = .ok (.aload_n 0, 1) := by decide +kernel
theorem dX10_idle_32 : decode cX10_idle 32 = .ok (.getfield 34, 3) := by decide +kernel
theorem dX10_idle_35 : decode cX10_idle 35 = .ok (.iload_n 2, 1) := by decide +kernel
theorem dX10_idle_36 : decode cX10_idle 36 = .ok (.invokevirtual 182, 3) := by decide +kernel
theorem dX10_idle_39 : decode cX10_idle 39 = .ok (.ifCond .ne 9, 3) := by decide +kernel
theorem dX10_idle_42 : decode cX10_idle 42 = .ok (.iload_n 1, 1) := by decide +kernel
theorem dX10_idle_43 : decode cX10_idle 43 = .ok (.iconst 1, 1) := by decide +kernel
theorem dX10_idle_44 : decode cX10_idle 44 = .ok (.iload_n 2, 1) := by decide +kernel
theorem dX10_idle_45 : decode cX10_idle 45 = .ok (.ishl, 1) := by decide +kernel
theorem dX10_idle_46 : decode cX10_idle 46 = .ok (.ior, 1) := by decide +kernel
theorem dX10_idle_47 : decode cX10_idle 47 = .ok (.istore_n 1, 1) := by decide +kernel
theorem dX10_idle_48 : decode cX10_idle 48 = .ok (.iinc 2 1, 3) := by decide +kernel
theorem dX10_idle_51 : decode cX10_idle 51 = .ok (.goto (-43), 3) := by decide +kernel
theorem dX10_idle_54 : decode cX10_idle 54 = .ok (.iload_n 1, 1) := by decide +kernel
theorem dX10_idle_55 : decode cX10_idle 55 = .ok (.ireturn, 1) := by decide +kernel
theorem dX10_reach_0 : decode cX10_reach 0 = .ok (.aload_n 0, 1) := by decide +kernel
theorem dX10_reach_1 : decode cX10_reach 1 = .ok (.invokevirtual 179, 3) := by decide +kernel
theorem dX10_reach_4 : decode cX10_reach 4 = .ok (.aload_n 0, 1) := by decide +kernel
theorem dX10_reach_5 : decode cX10_reach 5 = .ok (.getfield 16, 3) := by decide +kernel
theorem dX10_reach_8 : decode cX10_reach 8 = .ok (.getfield 237, 3) := by decide +kernel
theorem dX10_reach_11 : decode cX10_reach 11 = .ok (.iconst 2, 1) := by decide +kernel
theorem dX10_reach_12 : decode cX10_reach 12 = .ok (.iaload, 1) := by decide +kernel
theorem dX10_reach_13 : decode cX10_reach 13 = .ok (.istore_n 1, 1) := by decide +kernel
theorem dX10_reach_14 : decode cX10_reach 14 = .ok (.aload_n 0, 1) := by decide +kernel
theorem dX10_reach_15 : decode cX10_reach 15 = .ok (.iload_n 1, 1) := by decide +kernel
theorem dX10_reach_16 : decode cX10_reach 16 = .ok (.bipush 6, 2) := by decide +kernel
theorem dX10_reach_18 : decode cX10_reach 18 = .ok (.iconst (-1), 1) := by decide +kernel
theorem dX10_reach_19 : decode cX10_reach 19 = .ok (.invokevirtual 365, 3) := by decide +kernel
theorem dX10_reach_22 : decode cX10_reach 22 = .ok (.istore_n 2, 1) := by decide +kernel
theorem dX10_reach_23 : decode cX10_reach 23 = .ok (.iconst 0, 1) := by decide +kernel
theorem dX10_reach_24 : decode cX10_reach 24 = .ok (.istore_n 3, 1) := by decide +kernel
theorem dX10_reach_25 : decode cX10_reach 25 = .ok (.iload_n 3, 1) := by decide +kernel
theorem dX10_reach_26 : decode cX10_reach 26 = .ok (.bipush 6, 2) := by decide +kernel
theorem dX10_reach_28 : decode cX10_reach 28 = .ok (.if_icmp .ge 20, 3) := by decide +kernel
theorem dX10_reach_31 : decode cX10_reach 31 = .ok (.aload_n 0, 1) := by decide +kernel
theorem dX10_reach_32 : decode cX10_reach 32 = .ok (.iload_n 1, 1) := by decide +kernel
theorem dX10_reach_33 : decode cX10_reach 33 = .ok (.iload_n 3, 1) := by decide +kernel
theorem dX10_reach_34 : decode cX10_reach 34 = .ok (.iconst (-1), 1) := by decide +kernel
theorem dX10_reach_35 : decode cX10_reach 35 = .ok (.invokevirtual 365, 3) := by decide +kernel
theorem dX10_reach_38 : decode cX10_reach 38 = .ok (.iload_n 2, 1) := by decide +kernel
theorem dX10_reach_39 : decode cX10_reach 39 = .ok (.if_icmp .le 9, 3) := by decide +kernel
theorem dX10_reach_42 : decode cX10_reach 42 = .ok (.iinc 3 1, 3) := by decide +kernel
theorem dX10_reach_45 : decode cX10_reach 45 = .ok (.goto (-20), 3) := by decide +kernel
theorem dX10_reach_48 : decode cX10_reach 48 = .ok (.iload_n 3, 1) := by decide +kernel
theorem dX10_reach_49 : decode cX10_reach 49 = .ok (.ireturn, 1) := by decide +kernel
theorem dX10_width_0 : decode cX10_width 0 = .ok (.aload_n 0, 1) := by decide +kernel
theorem dX10_width_1 : decode cX10_width 1 = .ok (.invokevirtual 179, 3) := by decide +kernel
theorem dX10_width_4 : decode cX10_width 4 = .ok (.aload_n 0, 1) := by decide +kernel
theorem dX10_width_5 : decode cX10_width 5 = .ok (.invokevirtual 249, 3) := by decide +kernel
theorem dX10_width_8 : decode cX10_width 8 = .ok (.aload_n 0, 1) := by decide +kernel
theorem dX10_width_9 : decode cX10_width 9 = .ok (.getfield 43, 3) := by decide +kernel
theorem dX10_width_12 : decode cX10_width 12 = .ok (.invokevirtual 252, 3) := by decide +kernel
theorem dX10_width_15 : decode cX10_width 15 = .ok (.istore_n 1, 1) := by decide +kernel
theorem dX10_width_16 : decode cX10_width 16 = .ok (.aload_n 0, 1) := by decide +kernel
theorem dX10_width_17 : decode cX10_width 17 = .ok (.iconst 0, 1) := by decide +kernel
theorem dX10_width_18 : decode cX10_width 18 = .ok (.putfield 369, 3) := by decide +kernel
theorem dX10_width_21 : decode cX10_width 21 = .ok (.iconst 1, 1) := by decide +kernel
theorem dX10_width_22 : decode cX10_width 22 = .ok (.istore_n 2, 1) := by decide +kernel
theorem dX10_width_23 : decode cX10_width 23 = .ok (.iload_n 2, 1) := by decide +kernel
theorem dX10_width_24 : decode cX10_width 24 = .ok (.bipush 40, 2) := by decide +kernel
theorem dX10_width_26 : decode cX10_width 26 = .ok (.if_icmp .gt 48, 3) := by decide +kernel
theorem dX10_width_29 : decode cX10_width 29 = .ok (.aload_n 0, 1) := by decide +kernel
theorem dX10_width_30 : decode cX10_width 30 = .ok (.getfield 68, 3) := by decide +kernel
theorem dX10_width_33 : decode cX10_width 33 = .ok (.aload_n 0, 1) := by decide +kernel
theorem dX10_width_34 : decode cX10_width 34 = .ok (.getfield 16, 3) := by decide +kernel
theorem dX10_width_37 : decode cX10_width 37 = .ok (.getfield 237, 3) := by decide +kernel
theorem dX10_width_40 : decode cX10_width 40 = .ok (.iconst 2, 1) := by decide +kernel
theorem dX10_width_41 : decode cX10_width 41 = .ok (.iaload, 1) := by decide +kernel
theorem dX10_width_42 : decode cX10_width 42 = .ok (.aload_n 0, 1) := by decide +kernel
theorem dX10_width_43 : decode cX10_width 43 = .ok (.getfield 16, 3) := by decide +kernel
theorem dX10_width_46 : decode cX10_width 46 = .ok (.getfield 237, 3) := by decide +kernel
theorem dX10_width_49 : decode cX10_width 49 = .ok (.iconst 3, 1) := by decide +kernel
theorem dX10_width_50 : decode cX10_width 50 = .ok (.iaload, 1) := by decide +kernel
theorem dX10_width_51 : decode cX10_width 51 = .ok (.iload_n 2, 1) := by decide +kernel
theorem dX10_width_52 : decode cX10_width 52 = .ok (.invokevirtual 373, 3) := by decide +kernel
theorem dX10_width_55 : decode cX10_width 55 = .ok (.aload_n 0, 1) := by decide +kernel
theorem dX10_width_56 : decode cX10_width 56 = .ok (.getfield 68, 3) := by decide +kernel
theorem dX10_width_59 : decode cX10_width 59 = .ok (.getfield 293, 3) := by decide +kernel
theorem dX10_width_62 : decode cX10_width 62 = .ok (.iload_n 1, 1) := by decide +kernel
theorem dX10_width_63 : decode cX10_width 63 = .ok (.if_icmp .ne 5, 3) := by decide +kernel
theorem dX10_width_66 : decode cX10_width 66 = .ok (.iload_n 2, 1) := by decide +kernel
theorem dX10_width_67 : decode cX10_width 67 = .ok (.ireturn, 1) := by decide +kernel
theorem dX10_width_68 : decode cX10_width 68 = .ok (.iinc 2 1, 3) := by decide +kernel
theorem dX10_width_71 : decode cX10_width 71 = .ok (.goto (-48), 3) := by decide +kernel
theorem dX10_width_74 : decode cX10_width 74 = .ok (.iconst (-1), 1) := by decide +kernel
theorem dX10_width_75 : decode cX10_width 75 = .ok (.ireturn, 1) := by decide +kernel
theorem dX10_tuned_0 : decode cX10_tuned 0 = .ok (.aload_n 0, 1) := by decide +kernel
theorem dX10_tuned_1 : decode cX10_tuned 1 = .ok (.invokevirtual 324, 3) := by decide +kernel
theorem dX10_tuned_4 : decode cX10_tuned 4 = .ok (.aload_n 0, 1) := by decide +kernel
theorem dX10_tuned_5 : decode cX10_tuned 5 = .ok (.invokevirtual 179, 3) := by decide +kernel
theorem dX10_tuned_8 : decode cX10_tuned 8 = .ok (.iconst 0, 1) := by decide +kernel
theorem dX10_tuned_9 : decode cX10_tuned 9 = .ok (.istore_n 1, 1) := by decide +kernel
theorem dX10_tuned_10 : decode cX10_tuned 10 = .ok (.ldc_w 377, 3) := by decide +kernel
theorem dX10_tuned_13 : decode cX10_tuned 13 = .ok (.istore_n 2, 1) := by decide +kernel
theorem dX10_tuned_14 : decode cX10_tuned 14 = .ok (.iconst 0, 1) := by decide +kernel
theorem dX10_tuned_15 : decode cX10_tuned 15 = .ok (.istore_n 3, 1) := by decide +kernel
theorem dX10_tuned_16 : decode cX10_tuned 16 = .ok (.iload_n 3, 1) := by decide +kernel
theorem dX10_tuned_17 : decode cX10_tuned 17 = .ok (.bipush 20, 2) := by decide +kernel
theorem dX10_tuned_19 : decode cX10_tuned 19 = .ok (.if_icmp .gt 97, 3) := by decide +kernel
theorem dX10_tuned_22 : decode cX10_tuned 22 = .ok (.aload_n 0, 1) := by decide +kernel
theorem dX10_tuned_23 : decode cX10_tuned 23 = .ok (.iload_n 3, 1) := by decide +kernel
theorem dX10_tuned_24 : decode cX10_tuned 24 = .ok (.aload_n 0, 1) := by decide +kernel
theorem dX10_tuned_25 : decode cX10_tuned 25 = .ok (.getfield 16, 3) := by decide +kernel
theorem dX10_tuned_28 : decode cX10_tuned 28 = .ok (.getfield 237, 3) := by decide +kernel
theorem dX10_tuned_31 : decode cX10_tuned 31 = .ok (.iconst 3, 1) := by decide +kernel
theorem dX10_tuned_32 : decode cX10_tuned 32 = .ok (.iaload, 1) := by decide +kernel
theorem dX10_tuned_33 : decode cX10_tuned 33 = .ok (.iconst (-1), 1) := by decide +kernel
theorem dX10_tuned_34 : decode cX10_tuned 34 = .ok (.invokevirtual 365, 3) := by decide +kernel
theorem dX10_tuned_37 : decode cX10_tuned 37 = .ok (.pop, 1) := by decide +kernel
theorem dX10_tuned_38 : decode cX10_tuned 38 = .ok (.aload_n 0, 1) := by decide +kernel
theorem dX10_tuned_39 : decode cX10_tuned 39 = .ok (.getfield 52, 3) := by decide +kernel
theorem dX10_tuned_42 : decode cX10_tuned 42 = .ok (.invokevirtual 378, 3) := by decide +kernel
theorem dX10_tuned_45 : decode cX10_tuned 45 = .ok (.aload_n 0, 1) := by decide +kernel
theorem dX10_tuned_46 : decode cX10_tuned 46 = .ok (.getfield 52, 3) := by decide +kernel
theorem dX10_tuned_49 : decode cX10_tuned 49 = .ok (.iconst 0, 1) := by decide +kernel
theorem dX10_tuned_50 : decode cX10_tuned 50 = .ok (.invokevirtual 381, 3) := by decide +kernel
theorem dX10_tuned_53 : decode cX10_tuned 53 = .ok (.aload_n 0, 1) := by decide +kernel
theorem dX10_tuned_54 : decode cX10_tuned 54 = .ok (.getfield 52, 3) := by decide +kernel
theorem dX10_tuned_57 : decode cX10_tuned 57 = .ok (.iconst 0, 1) := by decide +kernel
theorem dX10_tuned_58 : decode cX10_tuned 58 = .ok (.invokevirtual 384, 3) := by decide +kernel
theorem dX10_tuned_61 : decode cX10_tuned 61 = .ok (.pop, 1) := by decide +kernel
theorem dX10_tuned_62 : decode cX10_tuned 62 = .ok (.aload_n 0, 1) := by decide +kernel
theorem dX10_tuned_63 : decode cX10_tuned 63 = .ok (.getfield 82, 3) := by decide +kernel
theorem dX10_tuned_66 : decode cX10_tuned 66 = .ok (.aload_n 0, 1) := by decide +kernel
theorem dX10_tuned_67 : decode cX10_tuned 67 = .ok (.getfield 52, 3) := by decide +kernel
theorem dX10_tuned_70 : decode cX10_tuned 70 = .ok (.getfield 285, 3) := by decide +kernel
theorem dX10_tuned_73 : decode cX10_tuned 73 = .ok (.aload_n 0, 1) := by decide +kernel
theorem dX10_tuned_74 : decode cX10_tuned 74 = .ok (.getfield 52, 3) := by decide +kernel
theorem dX10_tuned_77 : decode cX10_tuned 77 = .ok (.getfield 268, 3) := by decide +kernel
theorem dX10_tuned_80 : decode cX10_tuned 80 = .ok (.aload_n 0, 1) := by decide +kernel
theorem dX10_tuned_81 : decode cX10_tuned 81 = .ok (.getfield 27, 3) := by decide +kernel
theorem dX10_tuned_84 : decode cX10_tuned 84 = .ok (.getfield 327, 3) := by decide +kernel
theorem dX10_tuned_87 : decode cX10_tuned 87 = .ok (.aload_n 0, 1) := by decide +kernel
theorem dX10_tuned_88 : decode cX10_tuned 88 = .ok (.getfield 27, 3) := by decide +kernel
theorem dX10_tuned_91 : decode cX10_tuned 91 = .ok (.getfield 330, 3) := by decide +kernel
theorem dX10_tuned_94 : decode cX10_tuned 94 = .ok (.invokevirtual 337, 3) := by decide +kernel
theorem dX10_tuned_97 : decode cX10_tuned 97 = .ok (.istore 4, 2) := by decide +kernel
theorem dX10_tuned_99 : decode cX10_tuned 99 = .ok (.iload 4, 2) := by decide +kernel
theorem dX10_tuned_101 : decode cX10_tuned 101 = .ok (.iload_n 2, 1) := by decide +kernel
theorem dX10_tuned_102 : decode cX10_tuned 102 = .ok (.if_icmp .ge 8, 3) := by decide +kernel
theorem dX10_tuned_105 : decode cX10_tuned 105 = .ok (.iload 4, 2) := by decide +kernel
theorem dX10_tuned_107 : decode cX10_tuned 107 = .ok (.istore_n 2, 1) := by decide +kernel
theorem dX10_tuned_108 : decode cX10_tuned 108 = .ok (.iload_n 3, 1) := by decide +kernel
theorem dX10_tuned_109 : decode cX10_tuned 109 = .ok (.istore_n 1, 1) := by decide +kernel
theorem dX10_tuned_110 : decode cX10_tuned 110 = .ok (.iinc 3 1, 3) := by decide +kernel
theorem dX10_tuned_113 : decode cX10_tuned 113 = .ok (.goto (-97), 3) := by decide +kernel
theorem dX10_tuned_116 : decode cX10_tuned 116 = .ok (.iload_n 1, 1) := by decide +kernel
theorem dX10_tuned_117 : decode cX10_tuned 117 = .ok (.ireturn, 1) := by decide +kernel
theorem dX10_image_0 : decode cX10_image 0 = .ok (.aload_n 0, 1) := by decide +kernel
theorem dX10_image_1 : decode cX10_image 1 = .ok (.getfield 12, 3) := by decide +kernel
theorem dX10_image_4 : decode cX10_image 4 = .ok (.aload_n 0, 1) := by decide +kernel
theorem dX10_image_5 : decode cX10_image 5 = .ok (.getfield 16, 3) := by decide +kernel
theorem dX10_image_8 : decode cX10_image 8 = .ok (.invokevirtual 94, 3) := by decide +kernel
theorem dX10_image_11 : decode cX10_image 11 = .ok (.aload_n 0, 1) := by decide +kernel
theorem dX10_image_12 : decode cX10_image 12 = .ok (.iconst 1, 1) := by decide +kernel
theorem dX10_image_13 : decode cX10_image 13 = .ok (.putfield 387, 3) := by decide +kernel
theorem dX10_image_16 : decode cX10_image 16 = .ok (.return_, 1) := by decide +kernel
theorem dX10_back_0 : decode cX10_back 0 = .ok (.aload_n 0, 1) := by decide +kernel
theorem dX10_back_1 : decode cX10_back 1 = .ok (.getfield 387, 3) := by decide +kernel
theorem dX10_back_4 : decode cX10_back 4 = .ok (.ifCond .ne 5, 3) := by decide +kernel
theorem dX10_back_7 : decode cX10_back 7 = .ok (.iconst 0, 1) := by decide +kernel
theorem dX10_back_8 : decode cX10_back 8 = .ok (.ireturn, 1) := by decide +kernel
theorem dX10_back_9 : decode cX10_back 9 = .ok (.aload_n 0, 1) := by decide +kernel
theorem dX10_back_10 : decode cX10_back 10 = .ok (.getfield 16, 3) := by decide +kernel
theorem dX10_back_13 : decode cX10_back 13 = .ok (.aload_n 0, 1) := by decide +kernel
theorem dX10_back_14 : decode cX10_back 14 = .ok (.getfield 12, 3) := by decide +kernel
theorem dX10_back_17 : decode cX10_back 17 = .ok (.invokevirtual 94, 3) := by decide +kernel
theorem dX10_back_20 : decode cX10_back 20 = .ok (.aload_n 0, 1) := by decide +kernel
theorem dX10_back_21 : decode cX10_back 21 = .ok (.invokevirtual 214, 3) := by decide +kernel
theorem dX10_back_24 : decode cX10_back 24 = .ok (.iconst 1, 1) := by decide +kernel
theorem dX10_back_25 : decode cX10_back 25 = .ok (.ireturn, 1) := by decide +kernel
theorem dX10_count_0 : decode cX10_count 0 = .ok (.iload_n 1, 1) := by decide +kernel
theorem dX10_count_1 : decode cX10_count 1 = .ok (.tableswitch 107 0 9 #[55, 63, 71, 79, 87, 87, 87, 87, 87, 99], 55) := by decide +kernel
theorem dX10_count_56 : decode cX10_count 56 = .ok (.aload_n 0, 1) := by decide +kernel
theorem dX10_count_57 : decode cX10_count 57 = .ok (.getfield 16, 3) := by decide +kernel
theorem dX10_count_60 : decode cX10_count 60 = .ok (.getfield 390, 3) := by decide +kernel
theorem dX10_count_63 : decode cX10_count 63 = .ok (.ireturn, 1) := by decide +kernel
theorem dX10_count_64 : decode cX10_count 64 = .ok (.aload_n 0, 1) := by decide +kernel
theorem dX10_count_65 : decode cX10_count 65 = .ok (.getfield 16, 3) := by decide +kernel
theorem dX10_count_68 : decode cX10_count 68 = .ok (.getfield 362, 3) := by decide +kernel
theorem dX10_count_71 : decode cX10_count 71 = .ok (.ireturn, 1) := by decide +kernel
theorem dX10_count_72 : decode cX10_count 72 = .ok (.aload_n 0, 1) := by decide +kernel
theorem dX10_count_73 : decode cX10_count 73 = .ok (.getfield 16, 3) := by decide +kernel
theorem dX10_count_76 : decode cX10_count 76 = .ok (.getfield 117, 3) := by decide +kernel
theorem dX10_count_79 : decode cX10_count 79 = .ok (.ireturn, 1) := by decide +kernel
theorem dX10_count_80 : decode cX10_count 80 = .ok (.aload_n 0, 1) := by decide +kernel
theorem dX10_count_81 : decode cX10_count 81 = .ok (.getfield 16, 3) := by decide +kernel
theorem dX10_count_84 : decode cX10_count 84 = .ok (.getfield 127, 3) := by decide +kernel
theorem dX10_count_87 : decode cX10_count 87 = .ok (.ireturn, 1) := by decide +kernel
theorem dX10_count_88 : decode cX10_count 88 = .ok (.aload_n 0, 1) := by decide +kernel
theorem dX10_count_89 : decode cX10_count 89 = .ok (.getfield 16, 3) := by decide +kernel
theorem dX10_count_92 : decode cX10_count 92 = .ok (.getfield 237, 3) := by decide +kernel
theorem dX10_count_95 : decode cX10_count 95 = .ok (.iload_n 1, 1) := by decide +kernel
theorem dX10_count_96 : decode cX10_count 96 = .ok (.iconst 4, 1) := by decide +kernel
theorem dX10_count_97 : decode cX10_count 97 = .ok (.isub, 1) := by decide +kernel
theorem dX10_count_98 : decode cX10_count 98 = .ok (.iaload, 1) := by decide +kernel
theorem dX10_count_99 : decode cX10_count 99 = .ok (.ireturn, 1) := by decide +kernel
theorem dX10_count_100 : decode cX10_count 100 = .ok (.aload_n 0, 1) := by decide +kernel
theorem dX10_count_101 : decode cX10_count 101 = .ok (.getfield 16, 3) := by decide +kernel
theorem dX10_count_104 : decode cX10_count 104 = .ok (.invokevirtual 393, 3) := by decide +kernel
theorem dX10_count_107 : decode cX10_count 107 = .ok (.ireturn, 1) := by decide +kernel
theorem dX10_count_108 : decode cX10_count 108 = .ok (.iconst (-1), 1) := by decide +kernel
theorem dX10_count_109 : decode cX10_count 109 = .ok (.ireturn, 1) := by decide +kernel
theorem dX10_checkWord_0 : decode cX10_checkWord 0 = .ok (.iload_n 1, 1) := by decide +kernel
theorem dX10_checkWord_1 : decode cX10_checkWord 1 = .ok (.ifCond .lt 14, 3) := by decide +kernel
theorem dX10_checkWord_4 : decode cX10_checkWord 4 = .ok (.iload_n 1, 1) := by decide +kernel
theorem dX10_checkWord_5 : decode cX10_checkWord 5 = .ok (.aload_n 0, 1) := by decide +kernel
theorem dX10_checkWord_6 : decode cX10_checkWord 6 = .ok (.getfield 16, 3) := by decide +kernel
theorem dX10_checkWord_9 : decode cX10_checkWord 9 = .ok (.getfield 390, 3) := by decide +kernel
theorem dX10_checkWord_12 : decode cX10_checkWord 12 = .ok (.if_icmp .lt 14, 3) := by decide +kernel
theorem dX10_checkWord_15 : decode cX10_checkWord 15 = .ok (.new 311, 3) := by decide +kernel
theorem dX10_checkWord_18 : decode cX10_checkWord 18 = .ok (.dup, 1) := by decide +kernel
theorem dX10_checkWord_19 : decode cX10_checkWord 19 = .ok (.ldc_w 396, 3) := by decide +kernel
theorem dX10_checkWord_22 : decode cX10_checkWord 22 = .ok (.invokespecial 315, 3) := by decide +kernel
theorem dX10_checkWord_25 : decode cX10_checkWord 25 = .ok (.athrow, 1) := by decide +kernel
theorem dX10_checkWord_26 : decode cX10_checkWord 26 = .ok (.return_, 1) := by decide +kernel
theorem dX10_checkPhrase_0 : decode cX10_checkPhrase 0 = .ok (.iload_n 1, 1) := by decide +kernel
theorem dX10_checkPhrase_1 : decode cX10_checkPhrase 1 = .ok (.ifCond .lt 14, 3) := by decide +kernel
theorem dX10_checkPhrase_4 : decode cX10_checkPhrase 4 = .ok (.iload_n 1, 1) := by decide +kernel
theorem dX10_checkPhrase_5 : decode cX10_checkPhrase 5 = .ok (.aload_n 0, 1) := by decide +kernel
theorem dX10_checkPhrase_6 : decode cX10_checkPhrase 6 = .ok (.getfield 16, 3) := by decide +kernel
theorem dX10_checkPhrase_9 : decode cX10_checkPhrase 9 = .ok (.getfield 362, 3) := by decide +kernel
theorem dX10_checkPhrase_12 : decode cX10_checkPhrase 12 = .ok (.if_icmp .lt 14, 3) := by decide +kernel
theorem dX10_checkPhrase_15 : decode cX10_checkPhrase 15 = .ok (.new 311, 3) := by decide +kernel
theorem dX10_checkPhrase_18 : decode cX10_checkPhrase 18 = .ok (.dup, 1) := by decide +kernel
theorem dX10_checkPhrase_19 : decode cX10_checkPhrase 19 = .ok (.ldc_w 398, 3) := by decide +kernel
theorem dX10_checkPhrase_22 : decode cX10_checkPhrase 22 = .ok (.invokespecial 315, 3) := by decide +kernel
theorem dX10_checkPhrase_25 : decode cX10_checkPhrase 25 = .ok (.athrow, 1) := by decide +kernel
theorem dX10_checkPhrase_26 : decode cX10_checkPhrase 26 = .ok (.return_, 1) := by decide +kernel
theorem dX10_checkPlace_0 : decode cX10_checkPlace 0 = .ok (.iload_n 1, 1) := by decide +kernel
theorem dX10_checkPlace_1 : decode cX10_checkPlace 1 = .ok (.ifCond .lt 14, 3) := by decide +kernel
theorem dX10_checkPlace_4 : decode cX10_checkPlace 4 = .ok (.iload_n 1, 1) := by decide +kernel
theorem dX10_checkPlace_5 : decode cX10_checkPlace 5 = .ok (.aload_n 0, 1) := by decide +kernel
theorem dX10_checkPlace_6 : decode cX10_checkPlace 6 = .ok (.getfield 16, 3) := by decide +kernel
theorem dX10_checkPlace_9 : decode cX10_checkPlace 9 = .ok (.getfield 127, 3) := by decide +kernel
theorem dX10_checkPlace_12 : decode cX10_checkPlace 12 = .ok (.if_icmp .lt 14, 3) := by decide +kernel
theorem dX10_checkPlace_15 : decode cX10_checkPlace 15 = .ok (.new 311, 3) := by decide +kernel
theorem dX10_checkPlace_18 : decode cX10_checkPlace 18 = .ok (.dup, 1) := by decide +kernel
theorem dX10_checkPlace_19 : decode cX10_checkPlace 19 = .ok (.ldc_w 400, 3) := by decide +kernel
theorem dX10_checkPlace_22 : decode cX10_checkPlace 22 = .ok (.invokespecial 315, 3) := by decide +kernel
theorem dX10_checkPlace_25 : decode cX10_checkPlace 25 = .ok (.athrow, 1) := by decide +kernel
theorem dX10_checkPlace_26 : decode cX10_checkPlace 26 = .ok (.return_, 1) := by decide +kernel
theorem dX10_checkWay_0 : decode cX10_checkWay 0 = .ok (.iload_n 1, 1) := by decide +kernel
theorem dX10_checkWay_1 : decode cX10_checkWay 1 = .ok (.ifCond .lt 9, 3) := by decide +kernel
theorem dX10_checkWay_4 : decode cX10_checkWay 4 = .ok (.iload_n 1, 1) := by decide +kernel
theorem dX10_checkWay_5 : decode cX10_checkWay 5 = .ok (.bipush 30, 2) := by decide +kernel
theorem dX10_checkWay_7 : decode cX10_checkWay 7 = .ok (.if_icmp .lt 14, 3) := by decide +kernel
theorem dX10_checkWay_10 : decode cX10_checkWay 10 = .ok (.new 217, 3) := by decide +kernel
theorem dX10_checkWay_13 : decode cX10_checkWay 13 = .ok (.dup, 1) := by decide +kernel
theorem dX10_checkWay_14 : decode cX10_checkWay 14 = .ok (.ldc_w 402, 3) := by decide +kernel
theorem dX10_checkWay_17 : decode cX10_checkWay 17 = .ok (.invokespecial 221, 3) := by decide +kernel
theorem dX10_checkWay_20 : decode cX10_checkWay 20 = .ok (.athrow, 1) := by decide +kernel
theorem dX10_checkWay_21 : decode cX10_checkWay 21 = .ok (.return_, 1) := by decide +kernel
theorem dX10_checkText_0 : decode cX10_checkText 0 = .ok (.aload_n 0, 1) := by decide +kernel
theorem dX10_checkText_1 : decode cX10_checkText 1 = .ok (.getfield 27, 3) := by decide +kernel
theorem dX10_checkText_4 : decode cX10_checkText 4 = .ok (.invokevirtual 133, 3) := by decide +kernel
theorem dX10_checkText_7 : decode cX10_checkText 7 = .ok (.ifCond .ne 14, 3) := by decide +kernel
theorem dX10_checkText_10 : decode cX10_checkText 10 = .ok (.new 217, 3) := by decide +kernel
theorem dX10_checkText_13 : decode cX10_checkText 13 = .ok (.dup, 1) := by decide +kernel
theorem dX10_checkText_14 : decode cX10_checkText 14 = .ok (.ldc_w 404, 3) := by decide +kernel
theorem dX10_checkText_17 : decode cX10_checkText 17 = .ok (.invokespecial 221, 3) := by decide +kernel
theorem dX10_checkText_20 : decode cX10_checkText 20 = .ok (.athrow, 1) := by decide +kernel
theorem dX10_checkText_21 : decode cX10_checkText 21 = .ok (.return_, 1) := by decide +kernel
theorem dX10_readTold_0 : decode cX10_readTold 0 = .ok (.aload_n 0, 1) := by decide +kernel
theorem dX10_readTold_1 : decode cX10_readTold 1 = .ok (.getfield 27, 3) := by decide +kernel
theorem dX10_readTold_4 : decode cX10_readTold 4 = .ok (.aload_n 0, 1) := by decide +kernel
theorem dX10_readTold_5 : decode cX10_readTold 5 = .ok (.getfield 16, 3) := by decide +kernel
theorem dX10_readTold_8 : decode cX10_readTold 8 = .ok (.iconst 0, 1) := by decide +kernel
theorem dX10_readTold_9 : decode cX10_readTold 9 = .ok (.bipush 18, 2) := by decide +kernel
theorem dX10_readTold_11 : decode cX10_readTold 11 = .ok (.invokevirtual 120, 3) := by decide +kernel
theorem dX10_readTold_14 : decode cX10_readTold 14 = .ok (.aload_n 0, 1) := by decide +kernel
theorem dX10_readTold_15 : decode cX10_readTold 15 = .ok (.getfield 27, 3) := by decide +kernel
theorem dX10_readTold_18 : decode cX10_readTold 18 = .ok (.iconst 0, 1) := by decide +kernel
theorem dX10_readTold_19 : decode cX10_readTold 19 = .ok (.putfield 86, 3) := by decide +kernel
theorem dX10_readTold_22 : decode cX10_readTold 22 = .ok (.aload_n 0, 1) := by decide +kernel
theorem dX10_readTold_23 : decode cX10_readTold 23 = .ok (.invokevirtual 104, 3) := by decide +kernel
theorem dX10_readTold_26 : decode cX10_readTold 26 = .ok (.return_, 1) := by decide +kernel
theorem dX10_keepDraft_0 : decode cX10_keepDraft 0 = .ok (.aload_n 0, 1) := by decide +kernel
theorem dX10_keepDraft_1 : decode cX10_keepDraft 1 = .ok (.getfield 16, 3) := by decide +kernel
theorem dX10_keepDraft_4 : decode cX10_keepDraft 4 = .ok (.astore_n 1, 1) := by decide +kernel
theorem dX10_keepDraft_5 : decode cX10_keepDraft 5 = .ok (.aload_n 0, 1) := by decide +kernel
theorem dX10_keepDraft_6 : decode cX10_keepDraft 6 = .ok (.aload_n 0, 1) := by decide +kernel
theorem dX10_keepDraft_7 : decode cX10_keepDraft 7 = .ok (.getfield 19, 3) := by decide +kernel
theorem dX10_keepDraft_10 : decode cX10_keepDraft 10 = .ok (.putfield 16, 3) := by decide +kernel
theorem dX10_keepDraft_13 : decode cX10_keepDraft 13 = .ok (.aload_n 0, 1) := by decide +kernel
theorem dX10_keepDraft_14 : decode cX10_keepDraft 14 = .ok (.aload_n 1, 1) := by decide +kernel
theorem dX10_keepDraft_15 : decode cX10_keepDraft 15 = .ok (.putfield 19, 3) := by decide +kernel
theorem dX10_keepDraft_18 : decode cX10_keepDraft 18 = .ok (.aload_n 0, 1) := by decide +kernel
theorem dX10_keepDraft_19 : decode cX10_keepDraft 19 = .ok (.invokevirtual 214, 3) := by decide +kernel
theorem dX10_keepDraft_22 : decode cX10_keepDraft 22 = .ok (.return_, 1) := by decide +kernel
theorem dX10_forgetOptions_0 : decode cX10_forgetOptions 0 = .ok (.aload_n 0, 1) := by decide +kernel
theorem dX10_forgetOptions_1 : decode cX10_forgetOptions 1 = .ok (.iconst 0, 1) := by decide +kernel
theorem dX10_forgetOptions_2 : decode cX10_forgetOptions 2 = .ok (.putfield 406, 3) := by decide +kernel
theorem dX10_forgetOptions_5 : decode cX10_forgetOptions 5 = .ok (.aload_n 0, 1) := by decide +kernel
theorem dX10_forgetOptions_6 : decode cX10_forgetOptions 6 = .ok (.invokevirtual 240, 3) := by decide +kernel
theorem dX10_forgetOptions_9 : decode cX10_forgetOptions 9 = .ok (.return_, 1) := by decide +kernel
theorem dX10_forgetWays_0 : decode cX10_forgetWays 0 = .ok (.aload_n 0, 1) := by decide +kernel
theorem dX10_forgetWays_1 : decode cX10_forgetWays 1 = .ok (.iconst 0, 1) := by decide +kernel
theorem dX10_forgetWays_2 : decode cX10_forgetWays 2 = .ok (.putfield 409, 3) := by decide +kernel
theorem dX10_forgetWays_5 : decode cX10_forgetWays 5 = .ok (.aload_n 0, 1) := by decide +kernel
theorem dX10_forgetWays_6 : decode cX10_forgetWays 6 = .ok (.iconst 0, 1) := by decide +kernel
theorem dX10_forgetWays_7 : decode cX10_forgetWays 7 = .ok (.putfield 369, 3) := by decide +kernel
theorem dX10_forgetWays_10 : decode cX10_forgetWays 10 = .ok (.return_, 1) := by decide +kernel
theorem dX10_prepareOptions_0 : decode cX10_prepareOptions 0 = .ok (.aload_n 0, 1) := by decide +kernel
theorem dX10_prepareOptions_1 : decode cX10_prepareOptions 1 = .ok (.getfield 406, 3) := by decide +kernel
theorem dX10_prepareOptions_4 : decode cX10_prepareOptions 4 = .ok (.ifCond .ne 33, 3) := by decide +kernel
theorem dX10_prepareOptions_7 : decode cX10_prepareOptions 7 = .ok (.aload_n 0, 1) := by decide +kernel
theorem dX10_prepareOptions_8 : decode cX10_prepareOptions 8 = .ok (.getfield 34, 3) := by decide +kernel
theorem dX10_prepareOptions_11 : decode cX10_prepareOptions 11 = .ok (.aload_n 0, 1) := by decide +kernel
theorem dX10_prepareOptions_12 : decode cX10_prepareOptions 12 = .ok (.getfield 16, 3) := by decide +kernel
theorem dX10_prepareOptions_15 : decode cX10_prepareOptions 15 = .ok (.invokevirtual 412, 3) := by decide +kernel
theorem dX10_prepareOptions_18 : decode cX10_prepareOptions 18 = .ok (.aload_n 0, 1) := by decide +kernel
theorem dX10_prepareOptions_19 : decode cX10_prepareOptions 19 = .ok (.getfield 43, 3) := by decide +kernel
theorem dX10_prepareOptions_22 : decode cX10_prepareOptions 22 = .ok (.invokevirtual 415, 3) := by decide +kernel
theorem dX10_prepareOptions_25 : decode cX10_prepareOptions 25 = .ok (.aload_n 0, 1) := by decide +kernel
theorem dX10_prepareOptions_26 : decode cX10_prepareOptions 26 = .ok (.getfield 59, 3) := by decide +kernel
theorem dX10_prepareOptions_29 : decode cX10_prepareOptions 29 = .ok (.invokevirtual 418, 3) := by decide +kernel
theorem dX10_prepareOptions_32 : decode cX10_prepareOptions 32 = .ok (.aload_n 0, 1) := by decide +kernel
theorem dX10_prepareOptions_33 : decode cX10_prepareOptions 33 = .ok (.iconst 1, 1) := by decide +kernel
theorem dX10_prepareOptions_34 : decode cX10_prepareOptions 34 = .ok (.putfield 406, 3) := by decide +kernel
theorem dX10_prepareOptions_37 : decode cX10_prepareOptions 37 = .ok (.return_, 1) := by decide +kernel
theorem dX10_prepareWays_0 : decode cX10_prepareWays 0 = .ok (.aload_n 0, 1) := by decide +kernel
theorem dX10_prepareWays_1 : decode cX10_prepareWays 1 = .ok (.getfield 409, 3) := by decide +kernel
theorem dX10_prepareWays_4 : decode cX10_prepareWays 4 = .ok (.ifCond .ne 41, 3) := by decide +kernel
theorem dX10_prepareWays_7 : decode cX10_prepareWays 7 = .ok (.aload_n 0, 1) := by decide +kernel
theorem dX10_prepareWays_8 : decode cX10_prepareWays 8 = .ok (.getfield 43, 3) := by decide +kernel
theorem dX10_prepareWays_11 : decode cX10_prepareWays 11 = .ok (.aload_n 0, 1) := by decide +kernel
theorem dX10_prepareWays_12 : decode cX10_prepareWays 12 = .ok (.getfield 16, 3) := by decide +kernel
theorem dX10_prepareWays_15 : decode cX10_prepareWays 15 = .ok (.getfield 237, 3) := by decide +kernel
theorem dX10_prepareWays_18 : decode cX10_prepareWays 18 = .ok (.iconst 2, 1) := by decide +kernel
theorem dX10_prepareWays_19 : decode cX10_prepareWays 19 = .ok (.iaload, 1) := by decide +kernel
theorem dX10_prepareWays_20 : decode cX10_prepareWays 20 = .ok (.aload_n 0, 1) := by decide +kernel
theorem dX10_prepareWays_21 : decode cX10_prepareWays 21 = .ok (.getfield 16, 3) := by decide +kernel
theorem dX10_prepareWays_24 : decode cX10_prepareWays 24 = .ok (.getfield 237, 3) := by decide +kernel
theorem dX10_prepareWays_27 : decode cX10_prepareWays 27 = .ok (.iconst 3, 1) := by decide +kernel
theorem dX10_prepareWays_28 : decode cX10_prepareWays 28 = .ok (.iaload, 1) := by decide +kernel
theorem dX10_prepareWays_29 : decode cX10_prepareWays 29 = .ok (.iconst (-1), 1) := by decide +kernel
theorem dX10_prepareWays_30 : decode cX10_prepareWays 30 = .ok (.invokevirtual 421, 3) := by decide +kernel
theorem dX10_prepareWays_33 : decode cX10_prepareWays 33 = .ok (.aload_n 0, 1) := by decide +kernel
theorem dX10_prepareWays_34 : decode cX10_prepareWays 34 = .ok (.getfield 52, 3) := by decide +kernel
theorem dX10_prepareWays_37 : decode cX10_prepareWays 37 = .ok (.invokevirtual 378, 3) := by decide +kernel
theorem dX10_prepareWays_40 : decode cX10_prepareWays 40 = .ok (.aload_n 0, 1) := by decide +kernel
theorem dX10_prepareWays_41 : decode cX10_prepareWays 41 = .ok (.iconst 1, 1) := by decide +kernel
theorem dX10_prepareWays_42 : decode cX10_prepareWays 42 = .ok (.putfield 409, 3) := by decide +kernel
theorem dX10_prepareWays_45 : decode cX10_prepareWays 45 = .ok (.return_, 1) := by decide +kernel
theorem dX10_prepareStacks_0 : decode cX10_prepareStacks 0 = .ok (.aload_n 0, 1) := by decide +kernel
theorem dX10_prepareStacks_1 : decode cX10_prepareStacks 1 = .ok (.invokevirtual 179, 3) := by decide +kernel
theorem dX10_prepareStacks_4 : decode cX10_prepareStacks 4 = .ok (.aload_n 0, 1) := by decide +kernel
theorem dX10_prepareStacks_5 : decode cX10_prepareStacks 5 = .ok (.getfield 369, 3) := by decide +kernel
theorem dX10_prepareStacks_8 : decode cX10_prepareStacks 8 = .ok (.ifCond .ne 42, 3) := by decide +kernel
theorem dX10_prepareStacks_11 : decode cX10_prepareStacks 11 = .ok (.aload_n 0, 1) := by decide +kernel
theorem dX10_prepareStacks_12 : decode cX10_prepareStacks 12 = .ok (.getfield 68, 3) := by decide +kernel
theorem dX10_prepareStacks_15 : decode cX10_prepareStacks 15 = .ok (.aload_n 0, 1) := by decide +kernel
theorem dX10_prepareStacks_16 : decode cX10_prepareStacks 16 = .ok (.getfield 16, 3) := by decide +kernel
theorem dX10_prepareStacks_19 : decode cX10_prepareStacks 19 = .ok (.getfield 237, 3) := by decide +kernel
theorem dX10_prepareStacks_22 : decode cX10_prepareStacks 22 = .ok (.iconst 2, 1) := by decide +kernel
theorem dX10_prepareStacks_23 : decode cX10_prepareStacks 23 = .ok (.iaload, 1) := by decide +kernel
theorem dX10_prepareStacks_24 : decode cX10_prepareStacks 24 = .ok (.aload_n 0, 1) := by decide +kernel
theorem dX10_prepareStacks_25 : decode cX10_prepareStacks 25 = .ok (.getfield 16, 3) := by decide +kernel
theorem dX10_prepareStacks_28 : decode cX10_prepareStacks 28 = .ok (.getfield 237, 3) := by decide +kernel
theorem dX10_prepareStacks_31 : decode cX10_prepareStacks 31 = .ok (.iconst 3, 1) := by decide +kernel
theorem dX10_prepareStacks_32 : decode cX10_prepareStacks 32 = .ok (.iaload, 1) := by decide +kernel
theorem dX10_prepareStacks_33 : decode cX10_prepareStacks 33 = .ok (.aload_n 0, 1) := by decide +kernel
theorem dX10_prepareStacks_34 : decode cX10_prepareStacks 34 = .ok (.getfield 16, 3) := by decide +kernel
theorem dX10_prepareStacks_37 : decode cX10_prepareStacks 37 = .ok (.getfield 237, 3) := by decide +kernel
theorem dX10_prepareStacks_40 : decode cX10_prepareStacks 40 = .ok (.iconst 4, 1) := by decide +kernel
theorem dX10_prepareStacks_41 : decode cX10_prepareStacks 41 = .ok (.iaload, 1) := by decide +kernel
theorem dX10_prepareStacks_42 : decode cX10_prepareStacks 42 = .ok (.invokevirtual 373, 3) := by decide +kernel
theorem dX10_prepareStacks_45 : decode cX10_prepareStacks 45 = .ok (.aload_n 0, 1) := by decide +kernel
theorem dX10_prepareStacks_46 : decode cX10_prepareStacks 46 = .ok (.iconst 1, 1) := by decide +kernel
theorem dX10_prepareStacks_47 : decode cX10_prepareStacks 47 = .ok (.putfield 369, 3) := by decide +kernel
theorem dX10_prepareStacks_50 : decode cX10_prepareStacks 50 = .ok (.return_, 1) := by decide +kernel
theorem dX10_unfoldWay_0 : decode cX10_unfoldWay 0 = .ok (.aload_n 0, 1) := by decide +kernel
theorem dX10_unfoldWay_1 : decode cX10_unfoldWay 1 = .ok (.invokevirtual 179, 3) := by decide +kernel
theorem dX10_unfoldWay_4 : decode cX10_unfoldWay 4 = .ok (.aload_n 0, 1) := by decide +kernel
theorem dX10_unfoldWay_5 : decode cX10_unfoldWay 5 = .ok (.invokevirtual 249, 3) := by decide +kernel
theorem dX10_unfoldWay_8 : decode cX10_unfoldWay 8 = .ok (.aload_n 0, 1) := by decide +kernel
theorem dX10_unfoldWay_9 : decode cX10_unfoldWay 9 = .ok (.getfield 52, 3) := by decide +kernel
theorem dX10_unfoldWay_12 : decode cX10_unfoldWay 12 = .ok (.iload_n 1, 1) := by decide +kernel
theorem dX10_unfoldWay_13 : decode cX10_unfoldWay 13 = .ok (.invokevirtual 381, 3) := by decide +kernel
theorem dX10_unfoldWay_16 : decode cX10_unfoldWay 16 = .ok (.aload_n 0, 1) := by decide +kernel
theorem dX10_unfoldWay_17 : decode cX10_unfoldWay 17 = .ok (.getfield 52, 3) := by decide +kernel
theorem dX10_unfoldWay_20 : decode cX10_unfoldWay 20 = .ok (.iload_n 1, 1) := by decide +kernel
theorem dX10_unfoldWay_21 : decode cX10_unfoldWay 21 = .ok (.invokevirtual 384, 3) := by decide +kernel
theorem dX10_unfoldWay_24 : decode cX10_unfoldWay 24 = .ok (.ireturn, 1) := by decide +kernel
theorem dX10_reckonOtherwise_0 : decode cX10_reckonOtherwise 0 = .ok (.aload_n 0, 1) := by decide +kernel
theorem dX10_reckonOtherwise_1 : decode cX10_reckonOtherwise 1 = .ok (.iconst 0, 1) := by decide +kernel
theorem dX10_reckonOtherwise_2 : decode cX10_reckonOtherwise 2 = .ok (.putfield 409, 3) := by decide +kernel
theorem dX10_reckonOtherwise_5 : decode cX10_reckonOtherwise 5 = .ok (.aload_n 0, 1) := by decide +kernel
theorem dX10_reckonOtherwise_6 : decode cX10_reckonOtherwise 6 = .ok (.getfield 43, 3) := by decide +kernel
theorem dX10_reckonOtherwise_9 : decode cX10_reckonOtherwise 9 = .ok (.iload_n 1, 1) := by decide +kernel
theorem dX10_reckonOtherwise_10 : decode cX10_reckonOtherwise 10 = .ok (.iload_n 2, 1) := by decide +kernel
theorem dX10_reckonOtherwise_11 : decode cX10_reckonOtherwise 11 = .ok (.iload_n 3, 1) := by decide +kernel
theorem dX10_reckonOtherwise_12 : decode cX10_reckonOtherwise 12 = .ok (.invokevirtual 421, 3) := by decide +kernel
theorem dX10_reckonOtherwise_15 : decode cX10_reckonOtherwise 15 = .ok (.aload_n 0, 1) := by decide +kernel
theorem dX10_reckonOtherwise_16 : decode cX10_reckonOtherwise 16 = .ok (.getfield 43, 3) := by decide +kernel
theorem dX10_reckonOtherwise_19 : decode cX10_reckonOtherwise 19 = .ok (.invokevirtual 252, 3) := by decide +kernel
theorem dX10_reckonOtherwise_22 : decode cX10_reckonOtherwise 22 = .ok (.ireturn, 1) := by decide +kernel
theorem dX10_phrasesUnfolded_0 : decode cX10_phrasesUnfolded 0 = .ok (.iconst 0, 1) := by decide +kernel
theorem dX10_phrasesUnfolded_1 : decode cX10_phrasesUnfolded 1 = .ok (.istore_n 1, 1) := by decide +kernel
theorem dX10_phrasesUnfolded_2 : decode cX10_phrasesUnfolded 2 = .ok (.iconst 0, 1) := by decide +kernel
theorem dX10_phrasesUnfolded_3 : decode cX10_phrasesUnfolded 3 = .ok (.istore_n 2, 1) := by decide +kernel
theorem dX10_phrasesUnfolded_4 : decode cX10_phrasesUnfolded 4 = .ok (.iload_n 2, 1) := by decide +kernel
theorem dX10_phrasesUnfolded_5 : decode cX10_phrasesUnfolded 5 = .ok (.aload_n 0, 1) := by decide +kernel
theorem dX10_phrasesUnfolded_6 : decode cX10_phrasesUnfolded 6 = .ok (.getfield 52, 3) := by decide +kernel
theorem dX10_phrasesUnfolded_9 : decode cX10_phrasesUnfolded 9 = .ok (.getfield 267, 3) := by decide +kernel
theorem dX10_phrasesUnfolded_12 : decode cX10_phrasesUnfolded 12 = .ok (.if_icmp .ge 39, 3) := by decide +kernel
theorem dX10_phrasesUnfolded_15 : decode cX10_phrasesUnfolded 15 = .ok (.aload_n 0, 1) := by decide +kernel
theorem dX10_phrasesUnfolded_16 : decode cX10_phrasesUnfolded 16 = .ok (.getfield 34, 3) := by decide +kernel
theorem dX10_phrasesUnfolded_19 : decode cX10_phrasesUnfolded 19 = .ok (.getfield 282, 3) := by decide +kernel
theorem dX10_phrasesUnfolded_22 : decode cX10_phrasesUnfolded 22 = .ok (.aload_n 0, 1) := by decide +kernel
theorem dX10_phrasesUnfolded_23 : decode cX10_phrasesUnfolded 23 = .ok (.getfield 52, 3) := by decide +kernel
theorem dX10_phrasesUnfolded_26 : decode cX10_phrasesUnfolded 26 = .ok (.getfield 276, 3) := by decide +kernel
theorem dX10_phrasesUnfolded_29 : decode cX10_phrasesUnfolded 29 = .ok (.iload_n 2, 1) := by decide +kernel
theorem dX10_phrasesUnfolded_30 : decode cX10_phrasesUnfolded 30 = .ok (.iaload, 1) := by decide +kernel
theorem dX10_phrasesUnfolded_31 : decode cX10_phrasesUnfolded 31 = .ok (.iaload, 1) := by decide +kernel
theorem dX10_phrasesUnfolded_32 : decode cX10_phrasesUnfolded 32 = .ok (.istore_n 3, 1) := by decide +kernel
theorem dX10_phrasesUnfolded_33 : decode cX10_phrasesUnfolded 33 = .ok (.iload_n 3, 1) := by decide +kernel
theorem dX10_phrasesUnfolded_34 : decode cX10_phrasesUnfolded 34 = .ok (.bipush 99, 2) := by decide +kernel
theorem dX10_phrasesUnfolded_36 : decode cX10_phrasesUnfolded 36 = .ok (.if_icmp .eq 9, 3) := by decide +kernel
theorem dX10_phrasesUnfolded_39 : decode cX10_phrasesUnfolded 39 = .ok (.iload_n 1, 1) := by decide +kernel
theorem dX10_phrasesUnfolded_40 : decode cX10_phrasesUnfolded 40 = .ok (.iconst 1, 1) := by decide +kernel
theorem dX10_phrasesUnfolded_41 : decode cX10_phrasesUnfolded 41 = .ok (.iload_n 3, 1) := by decide +kernel
theorem dX10_phrasesUnfolded_42 : decode cX10_phrasesUnfolded 42 = .ok (.ishl, 1) := by decide +kernel
theorem dX10_phrasesUnfolded_43 : decode cX10_phrasesUnfolded 43 = .ok (.ior, 1) := by decide +kernel
theorem dX10_phrasesUnfolded_44 : decode cX10_phrasesUnfolded 44 = .ok (.istore_n 1, 1) := by decide +kernel
theorem dX10_phrasesUnfolded_45 : decode cX10_phrasesUnfolded 45 = .ok (.iinc 2 1, 3) := by decide +kernel
theorem dX10_phrasesUnfolded_48 : decode cX10_phrasesUnfolded 48 = .ok (.goto (-44), 3) := by decide +kernel
theorem dX10_phrasesUnfolded_51 : decode cX10_phrasesUnfolded 51 = .ok (.iload_n 1, 1) := by decide +kernel
theorem dX10_phrasesUnfolded_52 : decode cX10_phrasesUnfolded 52 = .ok (.ireturn, 1) := by decide +kernel
theorem dX10_worthOf_0 : decode cX10_worthOf 0 = .ok (.aload_n 0, 1) := by decide +kernel
theorem dX10_worthOf_1 : decode cX10_worthOf 1 = .ok (.invokevirtual 359, 3) := by decide +kernel
theorem dX10_worthOf_4 : decode cX10_worthOf 4 = .ok (.iload_n 1, 1) := by decide +kernel
theorem dX10_worthOf_5 : decode cX10_worthOf 5 = .ok (.ishr, 1) := by decide +kernel
theorem dX10_worthOf_6 : decode cX10_worthOf 6 = .ok (.iconst 1, 1) := by decide +kernel
theorem dX10_worthOf_7 : decode cX10_worthOf 7 = .ok (.iand, 1) := by decide +kernel
theorem dX10_worthOf_8 : decode cX10_worthOf 8 = .ok (.ifCond .ne 5, 3) := by decide +kernel
theorem dX10_worthOf_11 : decode cX10_worthOf 11 = .ok (.iconst 0, 1) := by decide +kernel
theorem dX10_worthOf_12 : decode cX10_worthOf 12 = .ok (.ireturn, 1) := by decide +kernel
theorem dX10_worthOf_13 : decode cX10_worthOf 13 = .ok (.aload_n 0, 1) := by decide +kernel
theorem dX10_worthOf_14 : decode cX10_worthOf 14 = .ok (.getfield 43, 3) := by decide +kernel
theorem dX10_worthOf_17 : decode cX10_worthOf 17 = .ok (.invokevirtual 252, 3) := by decide +kernel
theorem dX10_worthOf_20 : decode cX10_worthOf 20 = .ok (.istore_n 2, 1) := by decide +kernel
theorem dX10_worthOf_21 : decode cX10_worthOf 21 = .ok (.aload_n 0, 1) := by decide +kernel
theorem dX10_worthOf_22 : decode cX10_worthOf 22 = .ok (.aload_n 0, 1) := by decide +kernel
theorem dX10_worthOf_23 : decode cX10_worthOf 23 = .ok (.getfield 16, 3) := by decide +kernel
theorem dX10_worthOf_26 : decode cX10_worthOf 26 = .ok (.getfield 237, 3) := by decide +kernel
theorem dX10_worthOf_29 : decode cX10_worthOf 29 = .ok (.iconst 2, 1) := by decide +kernel
theorem dX10_worthOf_30 : decode cX10_worthOf 30 = .ok (.iaload, 1) := by decide +kernel
theorem dX10_worthOf_31 : decode cX10_worthOf 31 = .ok (.aload_n 0, 1) := by decide +kernel
theorem dX10_worthOf_32 : decode cX10_worthOf 32 = .ok (.getfield 16, 3) := by decide +kernel
theorem dX10_worthOf_35 : decode cX10_worthOf 35 = .ok (.getfield 237, 3) := by decide +kernel
theorem dX10_worthOf_38 : decode cX10_worthOf 38 = .ok (.iconst 3, 1) := by decide +kernel
theorem dX10_worthOf_39 : decode cX10_worthOf 39 = .ok (.iaload, 1) := by decide +kernel
theorem dX10_worthOf_40 : decode cX10_worthOf 40 = .ok (.iload_n 1, 1) := by decide +kernel
theorem dX10_worthOf_41 : decode cX10_worthOf 41 = .ok (.invokevirtual 365, 3) := by decide +kernel
theorem dX10_worthOf_44 : decode cX10_worthOf 44 = .ok (.iload_n 2, 1) := by decide +kernel
theorem dX10_worthOf_45 : decode cX10_worthOf 45 = .ok (.isub, 1) := by decide +kernel
theorem dX10_worthOf_46 : decode cX10_worthOf 46 = .ok (.ireturn, 1) := by decide +kernel
