/-! what stands at each place of a code (printed rows of NAMES) -/
theorem dX0_init_0 : decode cX0_init 0 = .ok (.aload_n 0, 1) := by decide +kernel
theorem dX0_init_1 : decode cX0_init 1 = .ok (.invokespecial 3, 3) := by decide +kernel
theorem dX0_init_4 : decode cX0_init 4 = .ok (.aload_n 0, 1) := by decide +kernel
theorem dX0_init_5 : decode cX0_init 5 = .ok (.new 9, 3) := by decide +kernel
theorem dX0_init_8 : decode cX0_init 8 = .ok (.dup, 1) := by decide +kernel
theorem dX0_init_9 : decode cX0_init 9 = .ok (.invokespecial 11, 3) := by decide +kernel
theorem dX0_init_12 : decode cX0_init 12 = .ok (.putfield 12, 3) := by decide +kernel
theorem dX0_init_15 : decode cX0_init 15 = .ok (.aload_n 0, 1) := by decide +kernel
theorem dX0_init_16 : decode cX0_init 16 = .ok (.new 18, 3) := by decide +kernel
theorem dX0_init_19 : decode cX0_init 19 = .ok (.dup, 1) := by decide +kernel
theorem dX0_init_20 : decode cX0_init 20 = .ok (.bipush 6, 2) := by decide +kernel
theorem dX0_init_22 : decode cX0_init 22 = .ok (.invokespecial 20, 3) := by decide +kernel
theorem dX0_init_25 : decode cX0_init 25 = .ok (.putfield 23, 3) := by decide +kernel
theorem dX0_init_28 : decode cX0_init 28 = .ok (.return_, 1) := by decide +kernel
theorem dX0_goesOf_0 : decode cX0_goesOf 0 = .ok (.aload_n 0, 1) := by decide +kernel
theorem dX0_goesOf_1 : decode cX0_goesOf 1 = .ok (.aload_n 1, 1) := by decide +kernel
theorem dX0_goesOf_2 : decode cX0_goesOf 2 = .ok (.putfield 12, 3) := by decide +kernel
theorem dX0_goesOf_5 : decode cX0_goesOf 5 = .ok (.aload_n 0, 1) := by decide +kernel
theorem dX0_goesOf_6 : decode cX0_goesOf 6 = .ok (.getfield 23, 3) := by decide +kernel
theorem dX0_goesOf_9 : decode cX0_goesOf 9 = .ok (.aload_n 0, 1) := by decide +kernel
theorem dX0_goesOf_10 : decode cX0_goesOf 10 = .ok (.getfield 12, 3) := by decide +kernel
theorem dX0_goesOf_13 : decode cX0_goesOf 13 = .ok (.getfield 27, 3) := by decide +kernel
theorem dX0_goesOf_16 : decode cX0_goesOf 16 = .ok (.invokevirtual 28, 3) := by decide +kernel
theorem dX0_goesOf_19 : decode cX0_goesOf 19 = .ok (.aload_n 0, 1) := by decide +kernel
theorem dX0_goesOf_20 : decode cX0_goesOf 20 = .ok (.iconst 0, 1) := by decide +kernel
theorem dX0_goesOf_21 : decode cX0_goesOf 21 = .ok (.putfield 32, 3) := by decide +kernel
theorem dX0_goesOf_24 : decode cX0_goesOf 24 = .ok (.aload_n 0, 1) := by decide +kernel
theorem dX0_goesOf_25 : decode cX0_goesOf 25 = .ok (.iconst 1, 1) := by decide +kernel
theorem dX0_goesOf_26 : decode cX0_goesOf 26 = .ok (.putfield 36, 3) := by decide +kernel
theorem dX0_goesOf_29 : decode cX0_goesOf 29 = .ok (.aload_n 0, 1) := by decide +kernel
theorem dX0_goesOf_30 : decode cX0_goesOf 30 = .ok (.aload_n 0, 1) := by decide +kernel
theorem dX0_goesOf_31 : decode cX0_goesOf 31 = .ok (.getfield 12, 3) := by decide +kernel
theorem dX0_goesOf_34 : decode cX0_goesOf 34 = .ok (.getfield 39, 3) := by decide +kernel
theorem dX0_goesOf_37 : decode cX0_goesOf 37 = .ok (.putfield 43, 3) := by decide +kernel
theorem dX0_goesOf_40 : decode cX0_goesOf 40 = .ok (.aload_n 0, 1) := by decide +kernel
theorem dX0_goesOf_41 : decode cX0_goesOf 41 = .ok (.iconst (-1), 1) := by decide +kernel
theorem dX0_goesOf_42 : decode cX0_goesOf 42 = .ok (.putfield 44, 3) := by decide +kernel
theorem dX0_goesOf_45 : decode cX0_goesOf 45 = .ok (.return_, 1) := by decide +kernel
theorem dX0_differs_0 : decode cX0_differs 0 = .ok (.iload_n 1, 1) := by decide +kernel
theorem dX0_differs_1 : decode cX0_differs 1 = .ok (.tableswitch 64 0 3 #[31, 39, 48, 56], 31) := by decide +kernel
theorem dX0_differs_32 : decode cX0_differs 32 = .ok (.aload_n 0, 1) := by decide +kernel
theorem dX0_differs_33 : decode cX0_differs 33 = .ok (.iconst 0, 1) := by decide +kernel
theorem dX0_differs_34 : decode cX0_differs 34 = .ok (.putfield 43, 3) := by decide +kernel
theorem dX0_differs_37 : decode cX0_differs 37 = .ok (.goto 36, 3) := by decide +kernel
theorem dX0_differs_40 : decode cX0_differs 40 = .ok (.aload_n 0, 1) := by decide +kernel
theorem dX0_differs_41 : decode cX0_differs 41 = .ok (.bipush 100, 2) := by decide +kernel
theorem dX0_differs_43 : decode cX0_differs 43 = .ok (.putfield 43, 3) := by decide +kernel
theorem dX0_differs_46 : decode cX0_differs 46 = .ok (.goto 27, 3) := by decide +kernel
theorem dX0_differs_49 : decode cX0_differs 49 = .ok (.aload_n 0, 1) := by decide +kernel
theorem dX0_differs_50 : decode cX0_differs 50 = .ok (.iload_n 2, 1) := by decide +kernel
theorem dX0_differs_51 : decode cX0_differs 51 = .ok (.putfield 44, 3) := by decide +kernel
theorem dX0_differs_54 : decode cX0_differs 54 = .ok (.goto 19, 3) := by decide +kernel
theorem dX0_differs_57 : decode cX0_differs 57 = .ok (.aload_n 0, 1) := by decide +kernel
theorem dX0_differs_58 : decode cX0_differs 58 = .ok (.iconst 0, 1) := by decide +kernel
theorem dX0_differs_59 : decode cX0_differs 59 = .ok (.putfield 36, 3) := by decide +kernel
theorem dX0_differs_62 : decode cX0_differs 62 = .ok (.goto 11, 3) := by decide +kernel
theorem dX0_differs_65 : decode cX0_differs 65 = .ok (.aload_n 0, 1) := by decide +kernel
theorem dX0_differs_66 : decode cX0_differs 66 = .ok (.getfield 23, 3) := by decide +kernel
theorem dX0_differs_69 : decode cX0_differs 69 = .ok (.iconst 0, 1) := by decide +kernel
theorem dX0_differs_70 : decode cX0_differs 70 = .ok (.invokevirtual 47, 3) := by decide +kernel
theorem dX0_differs_73 : decode cX0_differs 73 = .ok (.return_, 1) := by decide +kernel
theorem dX0_daysGo_0 : decode cX0_daysGo 0 = .ok (.iconst 0, 1) := by decide +kernel
theorem dX0_daysGo_1 : decode cX0_daysGo 1 = .ok (.istore_n 3, 1) := by decide +kernel
theorem dX0_daysGo_2 : decode cX0_daysGo 2 = .ok (.iload_n 3, 1) := by decide +kernel
theorem dX0_daysGo_3 : decode cX0_daysGo 3 = .ok (.iload_n 2, 1) := by decide +kernel
theorem dX0_daysGo_4 : decode cX0_daysGo 4 = .ok (.if_icmp .ge 14, 3) := by decide +kernel
theorem dX0_daysGo_7 : decode cX0_daysGo 7 = .ok (.aload_n 0, 1) := by decide +kernel
theorem dX0_daysGo_8 : decode cX0_daysGo 8 = .ok (.aload_n 1, 1) := by decide +kernel
theorem dX0_daysGo_9 : decode cX0_daysGo 9 = .ok (.invokevirtual 50, 3) := by decide +kernel
theorem dX0_daysGo_12 : decode cX0_daysGo 12 = .ok (.iinc 3 1, 3) := by decide +kernel
theorem dX0_daysGo_15 : decode cX0_daysGo 15 = .ok (.goto (-13), 3) := by decide +kernel
theorem dX0_daysGo_18 : decode cX0_daysGo 18 = .ok (.return_, 1) := by decide +kernel
theorem dX0_dayGoes_0 : decode cX0_dayGoes 0 = .ok (.aload_n 1, 1) := by decide +kernel
theorem dX0_dayGoes_1 : decode cX0_dayGoes 1 = .ok (.getfield 54, 3) := by decide +kernel
theorem dX0_dayGoes_4 : decode cX0_dayGoes 4 = .ok (.istore_n 2, 1) := by decide +kernel
theorem dX0_dayGoes_5 : decode cX0_dayGoes 5 = .ok (.iload_n 2, 1) := by decide +kernel
theorem dX0_dayGoes_6 : decode cX0_dayGoes 6 = .ok (.iconst (-1), 1) := by decide +kernel
theorem dX0_dayGoes_7 : decode cX0_dayGoes 7 = .ok (.if_icmp .ne 22, 3) := by decide +kernel
theorem dX0_dayGoes_10 : decode cX0_dayGoes 10 = .ok (.aload_n 0, 1) := by decide +kernel
theorem dX0_dayGoes_11 : decode cX0_dayGoes 11 = .ok (.getfield 36, 3) := by decide +kernel
theorem dX0_dayGoes_14 : decode cX0_dayGoes 14 = .ok (.ifCond .eq 15, 3) := by decide +kernel
theorem dX0_dayGoes_17 : decode cX0_dayGoes 17 = .ok (.aload_n 0, 1) := by decide +kernel
theorem dX0_dayGoes_18 : decode cX0_dayGoes 18 = .ok (.getfield 12, 3) := by decide +kernel
theorem dX0_dayGoes_21 : decode cX0_dayGoes 21 = .ok (.aload_n 1, 1) := by decide +kernel
theorem dX0_dayGoes_22 : decode cX0_dayGoes 22 = .ok (.getfield 59, 3) := by decide +kernel
theorem dX0_dayGoes_25 : decode cX0_dayGoes 25 = .ok (.invokevirtual 62, 3) := by decide +kernel
theorem dX0_dayGoes_28 : decode cX0_dayGoes 28 = .ok (.istore_n 2, 1) := by decide +kernel
theorem dX0_dayGoes_29 : decode cX0_dayGoes 29 = .ok (.iload_n 2, 1) := by decide +kernel
theorem dX0_dayGoes_30 : decode cX0_dayGoes 30 = .ok (.iconst (-1), 1) := by decide +kernel
theorem dX0_dayGoes_31 : decode cX0_dayGoes 31 = .ok (.if_icmp .ne 16, 3) := by decide +kernel
theorem dX0_dayGoes_34 : decode cX0_dayGoes 34 = .ok (.aload_n 1, 1) := by decide +kernel
theorem dX0_dayGoes_35 : decode cX0_dayGoes 35 = .ok (.getfield 66, 3) := by decide +kernel
theorem dX0_dayGoes_38 : decode cX0_dayGoes 38 = .ok (.ifCond .le 9, 3) := by decide +kernel
theorem dX0_dayGoes_41 : decode cX0_dayGoes 41 = .ok (.aload_n 0, 1) := by decide +kernel
theorem dX0_dayGoes_42 : decode cX0_dayGoes 42 = .ok (.aload_n 1, 1) := by decide +kernel
theorem dX0_dayGoes_43 : decode cX0_dayGoes 43 = .ok (.invokevirtual 69, 3) := by decide +kernel
theorem dX0_dayGoes_46 : decode cX0_dayGoes 46 = .ok (.istore_n 2, 1) := by decide +kernel
theorem dX0_dayGoes_47 : decode cX0_dayGoes 47 = .ok (.iload_n 2, 1) := by decide +kernel
theorem dX0_dayGoes_48 : decode cX0_dayGoes 48 = .ok (.iconst (-1), 1) := by decide +kernel
theorem dX0_dayGoes_49 : decode cX0_dayGoes 49 = .ok (.if_icmp .ne 21, 3) := by decide +kernel
theorem dX0_dayGoes_52 : decode cX0_dayGoes 52 = .ok (.aload_n 1, 1) := by decide +kernel
theorem dX0_dayGoes_53 : decode cX0_dayGoes 53 = .ok (.iconst (-1), 1) := by decide +kernel
theorem dX0_dayGoes_54 : decode cX0_dayGoes 54 = .ok (.putfield 73, 3) := by decide +kernel
theorem dX0_dayGoes_57 : decode cX0_dayGoes 57 = .ok (.aload_n 1, 1) := by decide +kernel
theorem dX0_dayGoes_58 : decode cX0_dayGoes 58 = .ok (.dup, 1) := by decide +kernel
theorem dX0_dayGoes_59 : decode cX0_dayGoes 59 = .ok (.getfield 76, 3) := by decide +kernel
theorem dX0_dayGoes_62 : decode cX0_dayGoes 62 = .ok (.iconst 1, 1) := by decide +kernel
theorem dX0_dayGoes_63 : decode cX0_dayGoes 63 = .ok (.iadd, 1) := by decide +kernel
theorem dX0_dayGoes_64 : decode cX0_dayGoes 64 = .ok (.putfield 76, 3) := by decide +kernel
theorem dX0_dayGoes_67 : decode cX0_dayGoes 67 = .ok (.goto 44, 3) := by decide +kernel
theorem dX0_dayGoes_70 : decode cX0_dayGoes 70 = .ok (.aload_n 0, 1) := by decide +kernel
theorem dX0_dayGoes_71 : decode cX0_dayGoes 71 = .ok (.aload_n 1, 1) := by decide +kernel
theorem dX0_dayGoes_72 : decode cX0_dayGoes 72 = .ok (.iload_n 2, 1) := by decide +kernel
theorem dX0_dayGoes_73 : decode cX0_dayGoes 73 = .ok (.invokevirtual 79, 3) := by decide +kernel
theorem dX0_dayGoes_76 : decode cX0_dayGoes 76 = .ok (.istore_n 3, 1) := by decide +kernel
theorem dX0_dayGoes_77 : decode cX0_dayGoes 77 = .ok (.aload_n 0, 1) := by decide +kernel
theorem dX0_dayGoes_78 : decode cX0_dayGoes 78 = .ok (.aload_n 1, 1) := by decide +kernel
theorem dX0_dayGoes_79 : decode cX0_dayGoes 79 = .ok (.iconst 1, 1) := by decide +kernel
theorem dX0_dayGoes_80 : decode cX0_dayGoes 80 = .ok (.iload_n 2, 1) := by decide +kernel
theorem dX0_dayGoes_81 : decode cX0_dayGoes 81 = .ok (.invokevirtual 83, 3) := by decide +kernel
theorem dX0_dayGoes_84 : decode cX0_dayGoes 84 = .ok (.bipush (-9), 2) := by decide +kernel
theorem dX0_dayGoes_86 : decode cX0_dayGoes 86 = .ok (.bipush 9, 2) := by decide +kernel
theorem dX0_dayGoes_88 : decode cX0_dayGoes 88 = .ok (.iconst 1, 1) := by decide +kernel
theorem dX0_dayGoes_89 : decode cX0_dayGoes 89 = .ok (.invokestatic 87, 3) := by decide +kernel
theorem dX0_dayGoes_92 : decode cX0_dayGoes 92 = .ok (.istore 4, 2) := by decide +kernel
theorem dX0_dayGoes_94 : decode cX0_dayGoes 94 = .ok (.aload_n 1, 1) := by decide +kernel
theorem dX0_dayGoes_95 : decode cX0_dayGoes 95 = .ok (.iload_n 2, 1) := by decide +kernel
theorem dX0_dayGoes_96 : decode cX0_dayGoes 96 = .ok (.iload_n 3, 1) := by decide +kernel
theorem dX0_dayGoes_97 : decode cX0_dayGoes 97 = .ok (.iload 4, 2) := by decide +kernel
theorem dX0_dayGoes_99 : decode cX0_dayGoes 99 = .ok (.invokevirtual 91, 3) := by decide +kernel
theorem dX0_dayGoes_102 : decode cX0_dayGoes 102 = .ok (.aload_n 1, 1) := by decide +kernel
theorem dX0_dayGoes_103 : decode cX0_dayGoes 103 = .ok (.aload_n 0, 1) := by decide +kernel
theorem dX0_dayGoes_104 : decode cX0_dayGoes 104 = .ok (.getfield 12, 3) := by decide +kernel
theorem dX0_dayGoes_107 : decode cX0_dayGoes 107 = .ok (.iload_n 3, 1) := by decide +kernel
theorem dX0_dayGoes_108 : decode cX0_dayGoes 108 = .ok (.invokevirtual 95, 3) := by decide +kernel
theorem dX0_dayGoes_111 : decode cX0_dayGoes 111 = .ok (.aload_n 1, 1) := by decide +kernel
theorem dX0_dayGoes_112 : decode cX0_dayGoes 112 = .ok (.iconst (-1), 1) := by decide +kernel
theorem dX0_dayGoes_113 : decode cX0_dayGoes 113 = .ok (.putfield 54, 3) := by decide +kernel
theorem dX0_dayGoes_116 : decode cX0_dayGoes 116 = .ok (.aload_n 1, 1) := by decide +kernel
theorem dX0_dayGoes_117 : decode cX0_dayGoes 117 = .ok (.dup, 1) := by decide +kernel
theorem dX0_dayGoes_118 : decode cX0_dayGoes 118 = .ok (.getfield 59, 3) := by decide +kernel
theorem dX0_dayGoes_121 : decode cX0_dayGoes 121 = .ok (.iconst 1, 1) := by decide +kernel
theorem dX0_dayGoes_122 : decode cX0_dayGoes 122 = .ok (.iadd, 1) := by decide +kernel
theorem dX0_dayGoes_123 : decode cX0_dayGoes 123 = .ok (.putfield 59, 3) := by decide +kernel
theorem dX0_dayGoes_126 : decode cX0_dayGoes 126 = .ok (.return_, 1) := by decide +kernel
theorem dX0_byTurns_0 : decode cX0_byTurns 0 = .ok (.aload_n 0, 1) := by decide +kernel
theorem dX0_byTurns_1 : decode cX0_byTurns 1 = .ok (.aload_n 1, 1) := by decide +kernel
theorem dX0_byTurns_2 : decode cX0_byTurns 2 = .ok (.invokevirtual 99, 3) := by decide +kernel
theorem dX0_byTurns_5 : decode cX0_byTurns 5 = .ok (.ifCond .eq 25, 3) := by decide +kernel
theorem dX0_byTurns_8 : decode cX0_byTurns 8 = .ok (.aload_n 1, 1) := by decide +kernel
theorem dX0_byTurns_9 : decode cX0_byTurns 9 = .ok (.dup, 1) := by decide +kernel
theorem dX0_byTurns_10 : decode cX0_byTurns 10 = .ok (.getfield 103, 3) := by decide +kernel
theorem dX0_byTurns_13 : decode cX0_byTurns 13 = .ok (.iconst 1, 1) := by decide +kernel
theorem dX0_byTurns_14 : decode cX0_byTurns 14 = .ok (.iadd, 1) := by decide +kernel
theorem dX0_byTurns_15 : decode cX0_byTurns 15 = .ok (.putfield 103, 3) := by decide +kernel
theorem dX0_byTurns_18 : decode cX0_byTurns 18 = .ok (.aload_n 1, 1) := by decide +kernel
theorem dX0_byTurns_19 : decode cX0_byTurns 19 = .ok (.aload_n 1, 1) := by decide +kernel
theorem dX0_byTurns_20 : decode cX0_byTurns 20 = .ok (.aload_n 1, 1) := by decide +kernel
theorem dX0_byTurns_21 : decode cX0_byTurns 21 = .ok (.getfield 106, 3) := by decide +kernel
theorem dX0_byTurns_24 : decode cX0_byTurns 24 = .ok (.invokevirtual 109, 3) := by decide +kernel
theorem dX0_byTurns_27 : decode cX0_byTurns 27 = .ok (.putfield 106, 3) := by decide +kernel
theorem dX0_byTurns_30 : decode cX0_byTurns 30 = .ok (.aload_n 1, 1) := by decide +kernel
theorem dX0_byTurns_31 : decode cX0_byTurns 31 = .ok (.getfield 106, 3) := by decide +kernel
theorem dX0_byTurns_34 : decode cX0_byTurns 34 = .ok (.istore_n 2, 1) := by decide +kernel
theorem dX0_byTurns_35 : decode cX0_byTurns 35 = .ok (.iconst 0, 1) := by decide +kernel
theorem dX0_byTurns_36 : decode cX0_byTurns 36 = .ok (.istore_n 3, 1) := by decide +kernel
theorem dX0_byTurns_37 : decode cX0_byTurns 37 = .ok (.iconst 0, 1) := by decide +kernel
theorem dX0_byTurns_38 : decode cX0_byTurns 38 = .ok (.istore 4, 2) := by decide +kernel
theorem dX0_byTurns_40 : decode cX0_byTurns 40 = .ok (.iload 4, 2) := by decide +kernel
theorem dX0_byTurns_42 : decode cX0_byTurns 42 = .ok (.aload_n 1, 1) := by decide +kernel
theorem dX0_byTurns_43 : decode cX0_byTurns 43 = .ok (.getfield 66, 3) := by decide +kernel
theorem dX0_byTurns_46 : decode cX0_byTurns 46 = .ok (.if_icmp .ge 71, 3) := by decide +kernel
theorem dX0_byTurns_49 : decode cX0_byTurns 49 = .ok (.aload_n 1, 1) := by decide +kernel
theorem dX0_byTurns_50 : decode cX0_byTurns 50 = .ok (.getfield 112, 3) := by decide +kernel
theorem dX0_byTurns_53 : decode cX0_byTurns 53 = .ok (.iload_n 2, 1) := by decide +kernel
theorem dX0_byTurns_54 : decode cX0_byTurns 54 = .ok (.invokevirtual 115, 3) := by decide +kernel
theorem dX0_byTurns_57 : decode cX0_byTurns 57 = .ok (.istore 5, 2) := by decide +kernel
theorem dX0_byTurns_59 : decode cX0_byTurns 59 = .ok (.aload_n 1, 1) := by decide +kernel
theorem dX0_byTurns_60 : decode cX0_byTurns 60 = .ok (.iload_n 2, 1) := by decide +kernel
theorem dX0_byTurns_61 : decode cX0_byTurns 61 = .ok (.invokevirtual 109, 3) := by decide +kernel
theorem dX0_byTurns_64 : decode cX0_byTurns 64 = .ok (.istore_n 2, 1) := by decide +kernel
theorem dX0_byTurns_65 : decode cX0_byTurns 65 = .ok (.iload_n 3, 1) := by decide +kernel
theorem dX0_byTurns_66 : decode cX0_byTurns 66 = .ok (.iload 5, 2) := by decide +kernel
theorem dX0_byTurns_68 : decode cX0_byTurns 68 = .ok (.ishr, 1) := by decide +kernel
theorem dX0_byTurns_69 : decode cX0_byTurns 69 = .ok (.iconst 1, 1) := by decide +kernel
theorem dX0_byTurns_70 : decode cX0_byTurns 70 = .ok (.iand, 1) := by decide +kernel
theorem dX0_byTurns_71 : decode cX0_byTurns 71 = .ok (.ifCond .ne 40, 3) := by decide +kernel
theorem dX0_byTurns_74 : decode cX0_byTurns 74 = .ok (.iload 5, 2) := by decide +kernel
theorem dX0_byTurns_76 : decode cX0_byTurns 76 = .ok (.aload_n 0, 1) := by decide +kernel
theorem dX0_byTurns_77 : decode cX0_byTurns 77 = .ok (.getfield 44, 3) := by decide +kernel
theorem dX0_byTurns_80 : decode cX0_byTurns 80 = .ok (.if_icmp .eq 24, 3) := by decide +kernel
theorem dX0_byTurns_83 : decode cX0_byTurns 83 = .ok (.aload_n 0, 1) := by decide +kernel
theorem dX0_byTurns_84 : decode cX0_byTurns 84 = .ok (.aload_n 1, 1) := by decide +kernel
theorem dX0_byTurns_85 : decode cX0_byTurns 85 = .ok (.iconst 2, 1) := by decide +kernel
theorem dX0_byTurns_86 : decode cX0_byTurns 86 = .ok (.iload 5, 2) := by decide +kernel
theorem dX0_byTurns_88 : decode cX0_byTurns 88 = .ok (.invokevirtual 83, 3) := by decide +kernel
theorem dX0_byTurns_91 : decode cX0_byTurns 91 = .ok (.lconst 0, 1) := by decide +kernel
theorem dX0_byTurns_92 : decode cX0_byTurns 92 = .ok (.lcmp, 1) := by decide +kernel
theorem dX0_byTurns_93 : decode cX0_byTurns 93 = .ok (.ifCond .eq 11, 3) := by decide +kernel
theorem dX0_byTurns_96 : decode cX0_byTurns 96 = .ok (.aload_n 1, 1) := by decide +kernel
theorem dX0_byTurns_97 : decode cX0_byTurns 97 = .ok (.iload_n 2, 1) := by decide +kernel
theorem dX0_byTurns_98 : decode cX0_byTurns 98 = .ok (.putfield 106, 3) := by decide +kernel
theorem dX0_byTurns_101 : decode cX0_byTurns 101 = .ok (.iload 5, 2) := by decide +kernel
theorem dX0_byTurns_103 : decode cX0_byTurns 103 = .ok (.ireturn, 1) := by decide +kernel
theorem dX0_byTurns_104 : decode cX0_byTurns 104 = .ok (.iload_n 3, 1) := by decide +kernel
theorem dX0_byTurns_105 : decode cX0_byTurns 105 = .ok (.iconst 1, 1) := by decide +kernel
theorem dX0_byTurns_106 : decode cX0_byTurns 106 = .ok (.iload 5, 2) := by decide +kernel
theorem dX0_byTurns_108 : decode cX0_byTurns 108 = .ok (.ishl, 1) := by decide +kernel
theorem dX0_byTurns_109 : decode cX0_byTurns 109 = .ok (.ior, 1) := by decide +kernel
theorem dX0_byTurns_110 : decode cX0_byTurns 110 = .ok (.istore_n 3, 1) := by decide +kernel
theorem dX0_byTurns_111 : decode cX0_byTurns 111 = .ok (.iinc 4 1, 3) := by decide +kernel
theorem dX0_byTurns_114 : decode cX0_byTurns 114 = .ok (.goto (-74), 3) := by decide +kernel
theorem dX0_byTurns_117 : decode cX0_byTurns 117 = .ok (.iconst (-1), 1) := by decide +kernel
theorem dX0_byTurns_118 : decode cX0_byTurns 118 = .ok (.ireturn, 1) := by decide +kernel
theorem dX0_isMistake_0 : decode cX0_isMistake 0 = .ok (.aload_n 0, 1) := by decide +kernel
theorem dX0_isMistake_1 : decode cX0_isMistake 1 = .ok (.getfield 43, 3) := by decide +kernel
theorem dX0_isMistake_4 : decode cX0_isMistake 4 = .ok (.ifCond .eq 12, 3) := by decide +kernel
theorem dX0_isMistake_7 : decode cX0_isMistake 7 = .ok (.aload_n 0, 1) := by decide +kernel
theorem dX0_isMistake_8 : decode cX0_isMistake 8 = .ok (.getfield 43, 3) := by decide +kernel
theorem dX0_isMistake_11 : decode cX0_isMistake 11 = .ok (.bipush 100, 2) := by decide +kernel
theorem dX0_isMistake_13 : decode cX0_isMistake 13 = .ok (.if_icmp .ne 18, 3) := by decide +kernel
theorem dX0_isMistake_16 : decode cX0_isMistake 16 = .ok (.aload_n 0, 1) := by decide +kernel
theorem dX0_isMistake_17 : decode cX0_isMistake 17 = .ok (.getfield 43, 3) := by decide +kernel
theorem dX0_isMistake_20 : decode cX0_isMistake 20 = .ok (.bipush 100, 2) := by decide +kernel
theorem dX0_isMistake_22 : decode cX0_isMistake 22 = .ok (.if_icmp .ne 7, 3) := by decide +kernel
theorem dX0_isMistake_25 : decode cX0_isMistake 25 = .ok (.iconst 1, 1) := by decide +kernel
theorem dX0_isMistake_26 : decode cX0_isMistake 26 = .ok (.goto 4, 3) := by decide +kernel
theorem dX0_isMistake_29 : decode cX0_isMistake 29 = .ok (.iconst 0, 1) := by decide +kernel
theorem dX0_isMistake_30 : decode cX0_isMistake 30 = .ok (.ireturn, 1) := by decide +kernel
theorem dX0_isMistake_31 : decode cX0_isMistake 31 = .ok (.aload_n 0, 1) := by decide +kernel
theorem dX0_isMistake_32 : decode cX0_isMistake 32 = .ok (.getfield 32, 3) := by decide +kernel
theorem dX0_isMistake_35 : decode cX0_isMistake 35 = .ok (.ifCond .eq 25, 3) := by decide +kernel
theorem dX0_isMistake_38 : decode cX0_isMistake 38 = .ok (.aload_n 1, 1) := by decide +kernel
theorem dX0_isMistake_39 : decode cX0_isMistake 39 = .ok (.invokevirtual 118, 3) := by decide +kernel
theorem dX0_isMistake_42 : decode cX0_isMistake 42 = .ok (.bipush 100, 2) := by decide +kernel
theorem dX0_isMistake_44 : decode cX0_isMistake 44 = .ok (.irem, 1) := by decide +kernel
theorem dX0_isMistake_45 : decode cX0_isMistake 45 = .ok (.aload_n 0, 1) := by decide +kernel
theorem dX0_isMistake_46 : decode cX0_isMistake 46 = .ok (.getfield 43, 3) := by decide +kernel
theorem dX0_isMistake_49 : decode cX0_isMistake 49 = .ok (.if_icmp .ge 7, 3) := by decide +kernel
theorem dX0_isMistake_52 : decode cX0_isMistake 52 = .ok (.iconst 1, 1) := by decide +kernel
theorem dX0_isMistake_53 : decode cX0_isMistake 53 = .ok (.goto 21, 3) := by decide +kernel
theorem dX0_isMistake_56 : decode cX0_isMistake 56 = .ok (.iconst 0, 1) := by decide +kernel
theorem dX0_isMistake_57 : decode cX0_isMistake 57 = .ok (.goto 17, 3) := by decide +kernel
theorem dX0_isMistake_60 : decode cX0_isMistake 60 = .ok (.aload_n 0, 1) := by decide +kernel
theorem dX0_isMistake_61 : decode cX0_isMistake 61 = .ok (.getfield 43, 3) := by decide +kernel
theorem dX0_isMistake_64 : decode cX0_isMistake 64 = .ok (.bipush 50, 2) := by decide +kernel
theorem dX0_isMistake_66 : decode cX0_isMistake 66 = .ok (.if_icmp .lt 7, 3) := by decide +kernel
theorem dX0_isMistake_69 : decode cX0_isMistake 69 = .ok (.iconst 1, 1) := by decide +kernel
theorem dX0_isMistake_70 : decode cX0_isMistake 70 = .ok (.goto 4, 3) := by decide +kernel
theorem dX0_isMistake_73 : decode cX0_isMistake 73 = .ok (.iconst 0, 1) := by decide +kernel
theorem dX0_isMistake_74 : decode cX0_isMistake 74 = .ok (.ireturn, 1) := by decide +kernel
theorem dX0_lengthBy_0 : decode cX0_lengthBy 0 = .ok (.aload_n 0, 1) := by decide +kernel
theorem dX0_lengthBy_1 : decode cX0_lengthBy 1 = .ok (.aload_n 1, 1) := by decide +kernel
theorem dX0_lengthBy_2 : decode cX0_lengthBy 2 = .ok (.iconst 0, 1) := by decide +kernel
theorem dX0_lengthBy_3 : decode cX0_lengthBy 3 = .ok (.iload_n 2, 1) := by decide +kernel
theorem dX0_lengthBy_4 : decode cX0_lengthBy 4 = .ok (.invokevirtual 83, 3) := by decide +kernel
theorem dX0_lengthBy_7 : decode cX0_lengthBy 7 = .ok (.iconst 0, 1) := by decide +kernel
theorem dX0_lengthBy_8 : decode cX0_lengthBy 8 = .ok (.bipush 24, 2) := by decide +kernel
theorem dX0_lengthBy_10 : decode cX0_lengthBy 10 = .ok (.bipush 24, 2) := by decide +kernel
theorem dX0_lengthBy_12 : decode cX0_lengthBy 12 = .ok (.aload_n 0, 1) := by decide +kernel
theorem dX0_lengthBy_13 : decode cX0_lengthBy 13 = .ok (.getfield 23, 3) := by decide +kernel
theorem dX0_lengthBy_16 : decode cX0_lengthBy 16 = .ok (.iload_n 2, 1) := by decide +kernel
theorem dX0_lengthBy_17 : decode cX0_lengthBy 17 = .ok (.invokevirtual 115, 3) := by decide +kernel
theorem dX0_lengthBy_20 : decode cX0_lengthBy 20 = .ok (.isub, 1) := by decide +kernel
theorem dX0_lengthBy_21 : decode cX0_lengthBy 21 = .ok (.invokestatic 87, 3) := by decide +kernel
theorem dX0_lengthBy_24 : decode cX0_lengthBy 24 = .ok (.ireturn, 1) := by decide +kernel
theorem dX0_bounded_0 : decode cX0_bounded 0 = .ok (.lload_n 0, 1) := by decide +kernel
theorem dX0_bounded_1 : decode cX0_bounded 1 = .ok (.ldc2_w 122, 3) := by decide +kernel
theorem dX0_bounded_4 : decode cX0_bounded 4 = .ok (.lcmp, 1) := by decide +kernel
theorem dX0_bounded_5 : decode cX0_bounded 5 = .ok (.ifCond .ne 8, 3) := by decide +kernel
theorem dX0_bounded_8 : decode cX0_bounded 8 = .ok (.iload 4, 2) := by decide +kernel
theorem dX0_bounded_10 : decode cX0_bounded 10 = .ok (.goto 15, 3) := by decide +kernel
theorem dX0_bounded_13 : decode cX0_bounded 13 = .ok (.iload_n 2, 1) := by decide +kernel
theorem dX0_bounded_14 : decode cX0_bounded 14 = .ok (.i2l, 1) := by decide +kernel
theorem dX0_bounded_15 : decode cX0_bounded 15 = .ok (.iload_n 3, 1) := by decide +kernel
theorem dX0_bounded_16 : decode cX0_bounded 16 = .ok (.i2l, 1) := by decide +kernel
theorem dX0_bounded_17 : decode cX0_bounded 17 = .ok (.lload_n 0, 1) := by decide +kernel
theorem dX0_bounded_18 : decode cX0_bounded 18 = .ok (.invokestatic 124, 3) := by decide +kernel
theorem dX0_bounded_21 : decode cX0_bounded 21 = .ok (.invokestatic 130, 3) := by decide +kernel
theorem dX0_bounded_24 : decode cX0_bounded 24 = .ok (.l2i, 1) := by decide +kernel
theorem dX0_bounded_25 : decode cX0_bounded 25 = .ok (.ireturn, 1) := by decide +kernel
theorem dX0_worth_0 : decode cX0_worth 0 = .ok (.aload_n 0, 1) := by decide +kernel
theorem dX0_worth_1 : decode cX0_worth 1 = .ok (.getfield 12, 3) := by decide +kernel
theorem dX0_worth_4 : decode cX0_worth 4 = .ok (.getfield 133, 3) := by decide +kernel
theorem dX0_worth_7 : decode cX0_worth 7 = .ok (.astore 4, 2) := by decide +kernel
theorem dX0_worth_9 : decode cX0_worth 9 = .ok (.aload 4, 2) := by decide +kernel
theorem dX0_worth_11 : decode cX0_worth 11 = .ok (.iload_n 2, 1) := by decide +kernel
theorem dX0_worth_12 : decode cX0_worth 12 = .ok (.invokevirtual 137, 3) := by decide +kernel
theorem dX0_worth_15 : decode cX0_worth 15 = .ok (.ifCond .ne 7, 3) := by decide +kernel
theorem dX0_worth_18 : decode cX0_worth 18 = .ok (.ldc2_w 122, 3) := by decide +kernel
theorem dX0_worth_21 : decode cX0_worth 21 = .ok (.lreturn, 1) := by decide +kernel
theorem dX0_worth_22 : decode cX0_worth 22 = .ok (.aload 4, 2) := by decide +kernel
theorem dX0_worth_24 : decode cX0_worth 24 = .ok (.iconst 0, 1) := by decide +kernel
theorem dX0_worth_25 : decode cX0_worth 25 = .ok (.aload_n 0, 1) := by decide +kernel
theorem dX0_worth_26 : decode cX0_worth 26 = .ok (.getfield 23, 3) := by decide +kernel
theorem dX0_worth_29 : decode cX0_worth 29 = .ok (.iload_n 3, 1) := by decide +kernel
theorem dX0_worth_30 : decode cX0_worth 30 = .ok (.invokevirtual 115, 3) := by decide +kernel
theorem dX0_worth_33 : decode cX0_worth 33 = .ok (.i2l, 1) := by decide +kernel
theorem dX0_worth_34 : decode cX0_worth 34 = .ok (.invokevirtual 143, 3) := by decide +kernel
theorem dX0_worth_37 : decode cX0_worth 37 = .ok (.aload 4, 2) := by decide +kernel
theorem dX0_worth_39 : decode cX0_worth 39 = .ok (.iconst 1, 1) := by decide +kernel
theorem dX0_worth_40 : decode cX0_worth 40 = .ok (.aload_n 0, 1) := by decide +kernel
theorem dX0_worth_41 : decode cX0_worth 41 = .ok (.getfield 12, 3) := by decide +kernel
theorem dX0_worth_44 : decode cX0_worth 44 = .ok (.getfield 147, 3) := by decide +kernel
theorem dX0_worth_47 : decode cX0_worth 47 = .ok (.iload_n 3, 1) := by decide +kernel
theorem dX0_worth_48 : decode cX0_worth 48 = .ok (.invokevirtual 115, 3) := by decide +kernel
theorem dX0_worth_51 : decode cX0_worth 51 = .ok (.i2l, 1) := by decide +kernel
theorem dX0_worth_52 : decode cX0_worth 52 = .ok (.invokevirtual 143, 3) := by decide +kernel
theorem dX0_worth_55 : decode cX0_worth 55 = .ok (.aload 4, 2) := by decide +kernel
theorem dX0_worth_57 : decode cX0_worth 57 = .ok (.iconst 2, 1) := by decide +kernel
theorem dX0_worth_58 : decode cX0_worth 58 = .ok (.aload_n 1, 1) := by decide +kernel
theorem dX0_worth_59 : decode cX0_worth 59 = .ok (.getfield 150, 3) := by decide +kernel
theorem dX0_worth_62 : decode cX0_worth 62 = .ok (.iload_n 3, 1) := by decide +kernel
theorem dX0_worth_63 : decode cX0_worth 63 = .ok (.invokevirtual 115, 3) := by decide +kernel
theorem dX0_worth_66 : decode cX0_worth 66 = .ok (.i2l, 1) := by decide +kernel
theorem dX0_worth_67 : decode cX0_worth 67 = .ok (.invokevirtual 143, 3) := by decide +kernel
theorem dX0_worth_70 : decode cX0_worth 70 = .ok (.aload 4, 2) := by decide +kernel
theorem dX0_worth_72 : decode cX0_worth 72 = .ok (.iconst 3, 1) := by decide +kernel
theorem dX0_worth_73 : decode cX0_worth 73 = .ok (.aload_n 1, 1) := by decide +kernel
theorem dX0_worth_74 : decode cX0_worth 74 = .ok (.getfield 153, 3) := by decide +kernel
theorem dX0_worth_77 : decode cX0_worth 77 = .ok (.iload_n 3, 1) := by decide +kernel
theorem dX0_worth_78 : decode cX0_worth 78 = .ok (.invokevirtual 115, 3) := by decide +kernel
theorem dX0_worth_81 : decode cX0_worth 81 = .ok (.i2l, 1) := by decide +kernel
theorem dX0_worth_82 : decode cX0_worth 82 = .ok (.invokevirtual 143, 3) := by decide +kernel
theorem dX0_worth_85 : decode cX0_worth 85 = .ok (.aload 4, 2) := by decide +kernel
theorem dX0_worth_87 : decode cX0_worth 87 = .ok (.iconst 4, 1) := by decide +kernel
theorem dX0_worth_88 : decode cX0_worth 88 = .ok (.aload_n 1, 1) := by decide +kernel
theorem dX0_worth_89 : decode cX0_worth 89 = .ok (.getfield 156, 3) := by decide +kernel
theorem dX0_worth_92 : decode cX0_worth 92 = .ok (.i2l, 1) := by decide +kernel
theorem dX0_worth_93 : decode cX0_worth 93 = .ok (.invokevirtual 143, 3) := by decide +kernel
theorem dX0_worth_96 : decode cX0_worth 96 = .ok (.aload 4, 2) := by decide +kernel
theorem dX0_worth_98 : decode cX0_worth 98 = .ok (.iconst 5, 1) := by decide +kernel
theorem dX0_worth_99 : decode cX0_worth 99 = .ok (.aload_n 1, 1) := by decide +kernel
theorem dX0_worth_100 : decode cX0_worth 100 = .ok (.getfield 159, 3) := by decide +kernel
theorem dX0_worth_103 : decode cX0_worth 103 = .ok (.i2l, 1) := by decide +kernel
theorem dX0_worth_104 : decode cX0_worth 104 = .ok (.invokevirtual 143, 3) := by decide +kernel
theorem dX0_worth_107 : decode cX0_worth 107 = .ok (.aload 4, 2) := by decide +kernel
theorem dX0_worth_109 : decode cX0_worth 109 = .ok (.bipush 6, 2) := by decide +kernel
theorem dX0_worth_111 : decode cX0_worth 111 = .ok (.aload_n 1, 1) := by decide +kernel
theorem dX0_worth_112 : decode cX0_worth 112 = .ok (.getfield 59, 3) := by decide +kernel
theorem dX0_worth_115 : decode cX0_worth 115 = .ok (.i2l, 1) := by decide +kernel
theorem dX0_worth_116 : decode cX0_worth 116 = .ok (.invokevirtual 143, 3) := by decide +kernel
theorem dX0_worth_119 : decode cX0_worth 119 = .ok (.aload 4, 2) := by decide +kernel
theorem dX0_worth_121 : decode cX0_worth 121 = .ok (.iload_n 2, 1) := by decide +kernel
theorem dX0_worth_122 : decode cX0_worth 122 = .ok (.invokevirtual 162, 3) := by decide +kernel
theorem dX0_worth_125 : decode cX0_worth 125 = .ok (.lreturn, 1) := by decide +kernel
theorem dX1_init_0 : decode cX1_init 0 = .ok (.aload_n 0, 1) := by decide +kernel
theorem dX1_init_1 : decode cX1_init 1 = .ok (.invokespecial 3, 3) := by decide +kernel
theorem dX1_init_4 : decode cX1_init 4 = .ok (.aload_n 0, 1) := by decide +kernel
theorem dX1_init_5 : decode cX1_init 5 = .ok (.new 9, 3) := by decide +kernel
theorem dX1_init_8 : decode cX1_init 8 = .ok (.dup, 1) := by decide +kernel
theorem dX1_init_9 : decode cX1_init 9 = .ok (.bipush 64, 2) := by decide +kernel
theorem dX1_init_11 : decode cX1_init 11 = .ok (.invokespecial 11, 3) := by decide +kernel
theorem dX1_init_14 : decode cX1_init 14 = .ok (.putfield 14, 3) := by decide +kernel
theorem dX1_init_17 : decode cX1_init 17 = .ok (.aload_n 0, 1) := by decide +kernel
theorem dX1_init_18 : decode cX1_init 18 = .ok (.new 9, 3) := by decide +kernel
theorem dX1_init_21 : decode cX1_init 21 = .ok (.dup, 1) := by decide +kernel
theorem dX1_init_22 : decode cX1_init 22 = .ok (.bipush 64, 2) := by decide +kernel
theorem dX1_init_24 : decode cX1_init 24 = .ok (.invokespecial 11, 3) := by decide +kernel
theorem dX1_init_27 : decode cX1_init 27 = .ok (.putfield 20, 3) := by decide +kernel
theorem dX1_init_30 : decode cX1_init 30 = .ok (.aload_n 0, 1) := by decide +kernel
theorem dX1_init_31 : decode cX1_init 31 = .ok (.new 9, 3) := by decide +kernel
theorem dX1_init_34 : decode cX1_init 34 = .ok (.dup, 1) := by decide +kernel
theorem dX1_init_35 : decode cX1_init 35 = .ok (.iconst 3, 1) := by decide +kernel
theorem dX1_init_36 : decode cX1_init 36 = .ok (.invokespecial 11, 3) := by decide +kernel
theorem dX1_init_39 : decode cX1_init 39 = .ok (.putfield 23, 3) := by decide +kernel
theorem dX1_init_42 : decode cX1_init 42 = .ok (.aload_n 0, 1) := by decide +kernel
theorem dX1_init_43 : decode cX1_init 43 = .ok (.new 9, 3) := by decide +kernel
theorem dX1_init_46 : decode cX1_init 46 = .ok (.dup, 1) := by decide +kernel
theorem dX1_init_47 : decode cX1_init 47 = .ok (.iconst 3, 1) := by decide +kernel
theorem dX1_init_48 : decode cX1_init 48 = .ok (.invokespecial 11, 3) := by decide +kernel
theorem dX1_init_51 : decode cX1_init 51 = .ok (.putfield 26, 3) := by decide +kernel
theorem dX1_init_54 : decode cX1_init 54 = .ok (.aload_n 0, 1) := by decide +kernel
theorem dX1_init_55 : decode cX1_init 55 = .ok (.bipush 7, 2) := by decide +kernel
theorem dX1_init_57 : decode cX1_init 57 = .ok (.newarray .long, 2) := by decide +kernel
theorem dX1_init_59 : decode cX1_init 59 = .ok (.putfield 29, 3) := by decide +kernel
theorem dX1_init_62 : decode cX1_init 62 = .ok (.aload_n 0, 1) := by decide +kernel
theorem dX1_init_63 : decode cX1_init 63 = .ok (.bipush 64, 2) := by decide +kernel
theorem dX1_init_65 : decode cX1_init 65 = .ok (.newarray .long, 2) := by decide +kernel
theorem dX1_init_67 : decode cX1_init 67 = .ok (.putfield 33, 3) := by decide +kernel
theorem dX1_init_70 : decode cX1_init 70 = .ok (.return_, 1) := by decide +kernel
theorem dX1_clear_0 : decode cX1_clear 0 = .ok (.aload_n 0, 1) := by decide +kernel
theorem dX1_clear_1 : decode cX1_clear 1 = .ok (.iconst 0, 1) := by decide +kernel
theorem dX1_clear_2 : decode cX1_clear 2 = .ok (.putfield 36, 3) := by decide +kernel
theorem dX1_clear_5 : decode cX1_clear 5 = .ok (.aload_n 0, 1) := by decide +kernel
theorem dX1_clear_6 : decode cX1_clear 6 = .ok (.getfield 23, 3) := by decide +kernel
theorem dX1_clear_9 : decode cX1_clear 9 = .ok (.iconst 0, 1) := by decide +kernel
theorem dX1_clear_10 : decode cX1_clear 10 = .ok (.invokevirtual 40, 3) := by decide +kernel
theorem dX1_clear_13 : decode cX1_clear 13 = .ok (.aload_n 0, 1) := by decide +kernel
theorem dX1_clear_14 : decode cX1_clear 14 = .ok (.getfield 26, 3) := by decide +kernel
theorem dX1_clear_17 : decode cX1_clear 17 = .ok (.iconst 0, 1) := by decide +kernel
theorem dX1_clear_18 : decode cX1_clear 18 = .ok (.invokevirtual 40, 3) := by decide +kernel
theorem dX1_clear_21 : decode cX1_clear 21 = .ok (.return_, 1) := by decide +kernel
theorem dX1_begin_0 : decode cX1_begin 0 = .ok (.aload_n 0, 1) := by decide +kernel
theorem dX1_begin_1 : decode cX1_begin 1 = .ok (.getfield 23, 3) := by decide +kernel
theorem dX1_begin_4 : decode cX1_begin 4 = .ok (.iload_n 1, 1) := by decide +kernel
theorem dX1_begin_5 : decode cX1_begin 5 = .ok (.aload_n 0, 1) := by decide +kernel
theorem dX1_begin_6 : decode cX1_begin 6 = .ok (.getfield 36, 3) := by decide +kernel
theorem dX1_begin_9 : decode cX1_begin 9 = .ok (.invokevirtual 43, 3) := by decide +kernel
theorem dX1_begin_12 : decode cX1_begin 12 = .ok (.return_, 1) := by decide +kernel
theorem dX1_add_0 : decode cX1_add 0 = .ok (.aload_n 0, 1) := by decide +kernel
theorem dX1_add_1 : decode cX1_add 1 = .ok (.getfield 14, 3) := by decide +kernel
theorem dX1_add_4 : decode cX1_add 4 = .ok (.aload_n 0, 1) := by decide +kernel
theorem dX1_add_5 : decode cX1_add 5 = .ok (.getfield 36, 3) := by decide +kernel
theorem dX1_add_8 : decode cX1_add 8 = .ok (.iload_n 1, 1) := by decide +kernel
theorem dX1_add_9 : decode cX1_add 9 = .ok (.invokevirtual 43, 3) := by decide +kernel
theorem dX1_add_12 : decode cX1_add 12 = .ok (.aload_n 0, 1) := by decide +kernel
theorem dX1_add_13 : decode cX1_add 13 = .ok (.getfield 20, 3) := by decide +kernel
theorem dX1_add_16 : decode cX1_add 16 = .ok (.aload_n 0, 1) := by decide +kernel
theorem dX1_add_17 : decode cX1_add 17 = .ok (.getfield 36, 3) := by decide +kernel
theorem dX1_add_20 : decode cX1_add 20 = .ok (.iload_n 2, 1) := by decide +kernel
theorem dX1_add_21 : decode cX1_add 21 = .ok (.invokevirtual 43, 3) := by decide +kernel
theorem dX1_add_24 : decode cX1_add 24 = .ok (.aload_n 0, 1) := by decide +kernel
theorem dX1_add_25 : decode cX1_add 25 = .ok (.dup, 1) := by decide +kernel
theorem dX1_add_26 : decode cX1_add 26 = .ok (.getfield 36, 3) := by decide +kernel
theorem dX1_add_29 : decode cX1_add 29 = .ok (.iconst 1, 1) := by decide +kernel
theorem dX1_add_30 : decode cX1_add 30 = .ok (.iadd, 1) := by decide +kernel
theorem dX1_add_31 : decode cX1_add 31 = .ok (.putfield 36, 3) := by decide +kernel
theorem dX1_add_34 : decode cX1_add 34 = .ok (.return_, 1) := by decide +kernel
theorem dX1_end_0 : decode cX1_end 0 = .ok (.aload_n 0, 1) := by decide +kernel
theorem dX1_end_1 : decode cX1_end 1 = .ok (.getfield 26, 3) := by decide +kernel
theorem dX1_end_4 : decode cX1_end 4 = .ok (.iload_n 1, 1) := by decide +kernel
theorem dX1_end_5 : decode cX1_end 5 = .ok (.aload_n 0, 1) := by decide +kernel
theorem dX1_end_6 : decode cX1_end 6 = .ok (.getfield 36, 3) := by decide +kernel
theorem dX1_end_9 : decode cX1_end 9 = .ok (.invokevirtual 43, 3) := by decide +kernel
theorem dX1_end_12 : decode cX1_end 12 = .ok (.return_, 1) := by decide +kernel
theorem dX1_has_0 : decode cX1_has 0 = .ok (.aload_n 0, 1) := by decide +kernel
theorem dX1_has_1 : decode cX1_has 1 = .ok (.getfield 26, 3) := by decide +kernel
theorem dX1_has_4 : decode cX1_has 4 = .ok (.iload_n 1, 1) := by decide +kernel
theorem dX1_has_5 : decode cX1_has 5 = .ok (.invokevirtual 47, 3) := by decide +kernel
theorem dX1_has_8 : decode cX1_has 8 = .ok (.aload_n 0, 1) := by decide +kernel
theorem dX1_has_9 : decode cX1_has 9 = .ok (.getfield 23, 3) := by decide +kernel
theorem dX1_has_12 : decode cX1_has 12 = .ok (.iload_n 1, 1) := by decide +kernel
theorem dX1_has_13 : decode cX1_has 13 = .ok (.invokevirtual 47, 3) := by decide +kernel
theorem dX1_has_16 : decode cX1_has 16 = .ok (.if_icmp .le 7, 3) := by decide +kernel
theorem dX1_has_19 : decode cX1_has 19 = .ok (.iconst 1, 1) := by decide +kernel
theorem dX1_has_20 : decode cX1_has 20 = .ok (.goto 4, 3) := by decide +kernel
theorem dX1_has_23 : decode cX1_has 23 = .ok (.iconst 0, 1) := by decide +kernel
theorem dX1_has_24 : decode cX1_has 24 = .ok (.ireturn, 1) := by decide +kernel
theorem dX1_setName_0 : decode cX1_setName 0 = .ok (.iload_n 1, 1) := by decide +kernel
theorem dX1_setName_1 : decode cX1_setName 1 = .ok (.ifCond .lt 19, 3) := by decide +kernel
theorem dX1_setName_4 : decode cX1_setName 4 = .ok (.iload_n 1, 1) := by decide +kernel
theorem dX1_setName_5 : decode cX1_setName 5 = .ok (.aload_n 0, 1) := by decide +kernel
theorem dX1_setName_6 : decode cX1_setName 6 = .ok (.getfield 29, 3) := by decide +kernel
theorem dX1_setName_9 : decode cX1_setName 9 = .ok (.arraylength, 1) := by decide +kernel
theorem dX1_setName_10 : decode cX1_setName 10 = .ok (.if_icmp .ge 10, 3) := by decide +kernel
theorem dX1_setName_13 : decode cX1_setName 13 = .ok (.aload_n 0, 1) := by decide +kernel
theorem dX1_setName_14 : decode cX1_setName 14 = .ok (.getfield 29, 3) := by decide +kernel
theorem dX1_setName_17 : decode cX1_setName 17 = .ok (.iload_n 1, 1) := by decide +kernel
theorem dX1_setName_18 : decode cX1_setName 18 = .ok (.lload_n 2, 1) := by decide +kernel
theorem dX1_setName_19 : decode cX1_setName 19 = .ok (.lastore, 1) := by decide +kernel
theorem dX1_setName_20 : decode cX1_setName 20 = .ok (.return_, 1) := by decide +kernel
theorem dX1_nameWorth_0 : decode cX1_nameWorth 0 = .ok (.iload_n 1, 1) := by decide +kernel
theorem dX1_nameWorth_1 : decode cX1_nameWorth 1 = .ok (.ifCond .lt 21, 3) := by decide +kernel
theorem dX1_nameWorth_4 : decode cX1_nameWorth 4 = .ok (.iload_n 1, 1) := by decide +kernel
theorem dX1_nameWorth_5 : decode cX1_nameWorth 5 = .ok (.aload_n 0, 1) := by decide +kernel
theorem dX1_nameWorth_6 : decode cX1_nameWorth 6 = .ok (.getfield 29, 3) := by decide +kernel
theorem dX1_nameWorth_9 : decode cX1_nameWorth 9 = .ok (.arraylength, 1) := by decide +kernel
theorem dX1_nameWorth_10 : decode cX1_nameWorth 10 = .ok (.if_icmp .ge 12, 3) := by decide +kernel
theorem dX1_nameWorth_13 : decode cX1_nameWorth 13 = .ok (.aload_n 0, 1) := by decide +kernel
theorem dX1_nameWorth_14 : decode cX1_nameWorth 14 = .ok (.getfield 29, 3) := by decide +kernel
theorem dX1_nameWorth_17 : decode cX1_nameWorth 17 = .ok (.iload_n 1, 1) := by decide +kernel
theorem dX1_nameWorth_18 : decode cX1_nameWorth 18 = .ok (.laload, 1) := by decide +kernel
theorem dX1_nameWorth_19 : decode cX1_nameWorth 19 = .ok (.goto 4, 3) := by decide +kernel
theorem dX1_nameWorth_22 : decode cX1_nameWorth 22 = .ok (.lconst 0, 1) := by decide +kernel
theorem dX1_nameWorth_23 : decode cX1_nameWorth 23 = .ok (.lreturn, 1) := by decide +kernel
theorem dX1_worth_0 : decode cX1_worth 0 = .ok (.aload_n 0, 1) := by decide +kernel
theorem dX1_worth_1 : decode cX1_worth 1 = .ok (.getfield 26, 3) := by decide +kernel
theorem dX1_worth_4 : decode cX1_worth 4 = .ok (.iload_n 1, 1) := by decide +kernel
theorem dX1_worth_5 : decode cX1_worth 5 = .ok (.invokevirtual 47, 3) := by decide +kernel
theorem dX1_worth_8 : decode cX1_worth 8 = .ok (.istore_n 2, 1) := by decide +kernel
theorem dX1_worth_9 : decode cX1_worth 9 = .ok (.iconst 0, 1) := by decide +kernel
theorem dX1_worth_10 : decode cX1_worth 10 = .ok (.istore_n 3, 1) := by decide +kernel
theorem dX1_worth_11 : decode cX1_worth 11 = .ok (.aload_n 0, 1) := by decide +kernel
theorem dX1_worth_12 : decode cX1_worth 12 = .ok (.getfield 23, 3) := by decide +kernel
theorem dX1_worth_15 : decode cX1_worth 15 = .ok (.iload_n 1, 1) := by decide +kernel
theorem dX1_worth_16 : decode cX1_worth 16 = .ok (.invokevirtual 47, 3) := by decide +kernel
theorem dX1_worth_19 : decode cX1_worth 19 = .ok (.istore 4, 2) := by decide +kernel
theorem dX1_worth_21 : decode cX1_worth 21 = .ok (.iload 4, 2) := by decide +kernel
theorem dX1_worth_23 : decode cX1_worth 23 = .ok (.iload_n 2, 1) := by decide +kernel
theorem dX1_worth_24 : decode cX1_worth 24 = .ok (.if_icmp .ge 180, 3) := by decide +kernel
theorem dX1_worth_27 : decode cX1_worth 27 = .ok (.aload_n 0, 1) := by decide +kernel
theorem dX1_worth_28 : decode cX1_worth 28 = .ok (.getfield 14, 3) := by decide +kernel
theorem dX1_worth_31 : decode cX1_worth 31 = .ok (.iload 4, 2) := by decide +kernel
theorem dX1_worth_33 : decode cX1_worth 33 = .ok (.invokevirtual 47, 3) := by decide +kernel
theorem dX1_worth_36 : decode cX1_worth 36 = .ok (.istore 5, 2) := by decide +kernel
theorem dX1_worth_38 : decode cX1_worth 38 = .ok (.iload 5, 2) := by decide +kernel
theorem dX1_worth_40 : decode cX1_worth 40 = .ok (.ifCond .eq 9, 3) := by decide +kernel
theorem dX1_worth_43 : decode cX1_worth 43 = .ok (.iload 5, 2) := by decide +kernel
theorem dX1_worth_45 : decode cX1_worth 45 = .ok (.iconst 1, 1) := by decide +kernel
theorem dX1_worth_46 : decode cX1_worth 46 = .ok (.if_icmp .ne 59, 3) := by decide +kernel
theorem dX1_worth_49 : decode cX1_worth 49 = .ok (.iload_n 3, 1) := by decide +kernel
theorem dX1_worth_50 : decode cX1_worth 50 = .ok (.aload_n 0, 1) := by decide +kernel
theorem dX1_worth_51 : decode cX1_worth 51 = .ok (.getfield 33, 3) := by decide +kernel
theorem dX1_worth_54 : decode cX1_worth 54 = .ok (.arraylength, 1) := by decide +kernel
theorem dX1_worth_55 : decode cX1_worth 55 = .ok (.if_icmp .lt 7, 3) := by decide +kernel
theorem dX1_worth_58 : decode cX1_worth 58 = .ok (.ldc2_w 51, 3) := by decide +kernel
theorem dX1_worth_61 : decode cX1_worth 61 = .ok (.lreturn, 1) := by decide +kernel
theorem dX1_worth_62 : decode cX1_worth 62 = .ok (.aload_n 0, 1) := by decide +kernel
theorem dX1_worth_63 : decode cX1_worth 63 = .ok (.getfield 33, 3) := by decide +kernel
theorem dX1_worth_66 : decode cX1_worth 66 = .ok (.iload_n 3, 1) := by decide +kernel
theorem dX1_worth_67 : decode cX1_worth 67 = .ok (.iload 5, 2) := by decide +kernel
theorem dX1_worth_69 : decode cX1_worth 69 = .ok (.ifCond .ne 16, 3) := by decide +kernel
theorem dX1_worth_72 : decode cX1_worth 72 = .ok (.aload_n 0, 1) := by decide +kernel
theorem dX1_worth_73 : decode cX1_worth 73 = .ok (.getfield 20, 3) := by decide +kernel
theorem dX1_worth_76 : decode cX1_worth 76 = .ok (.iload 4, 2) := by decide +kernel
theorem dX1_worth_78 : decode cX1_worth 78 = .ok (.invokevirtual 47, 3) := by decide +kernel
theorem dX1_worth_81 : decode cX1_worth 81 = .ok (.i2l, 1) := by decide +kernel
theorem dX1_worth_82 : decode cX1_worth 82 = .ok (.goto 16, 3) := by decide +kernel
theorem dX1_worth_85 : decode cX1_worth 85 = .ok (.aload_n 0, 1) := by decide +kernel
theorem dX1_worth_86 : decode cX1_worth 86 = .ok (.aload_n 0, 1) := by decide +kernel
theorem dX1_worth_87 : decode cX1_worth 87 = .ok (.getfield 20, 3) := by decide +kernel
theorem dX1_worth_90 : decode cX1_worth 90 = .ok (.iload 4, 2) := by decide +kernel
theorem dX1_worth_92 : decode cX1_worth 92 = .ok (.invokevirtual 47, 3) := by decide +kernel
theorem dX1_worth_95 : decode cX1_worth 95 = .ok (.invokevirtual 53, 3) := by decide +kernel
theorem dX1_worth_98 : decode cX1_worth 98 = .ok (.lastore, 1) := by decide +kernel
theorem dX1_worth_99 : decode cX1_worth 99 = .ok (.iinc 3 1, 3) := by decide +kernel
theorem dX1_worth_102 : decode cX1_worth 102 = .ok (.goto 96, 3) := by decide +kernel
theorem dX1_worth_105 : decode cX1_worth 105 = .ok (.iload 5, 2) := by decide +kernel
theorem dX1_worth_107 : decode cX1_worth 107 = .ok (.iconst 5, 1) := by decide +kernel
theorem dX1_worth_108 : decode cX1_worth 108 = .ok (.if_icmp .ne 9, 3) := by decide +kernel
theorem dX1_worth_111 : decode cX1_worth 111 = .ok (.iload_n 3, 1) := by decide +kernel
theorem dX1_worth_112 : decode cX1_worth 112 = .ok (.iconst 1, 1) := by decide +kernel
theorem dX1_worth_113 : decode cX1_worth 113 = .ok (.isub, 1) := by decide +kernel
theorem dX1_worth_114 : decode cX1_worth 114 = .ok (.goto 6, 3) := by decide +kernel
theorem dX1_worth_117 : decode cX1_worth 117 = .ok (.iload_n 3, 1) := by decide +kernel
theorem dX1_worth_118 : decode cX1_worth 118 = .ok (.iconst 2, 1) := by decide +kernel
theorem dX1_worth_119 : decode cX1_worth 119 = .ok (.isub, 1) := by decide +kernel
theorem dX1_worth_120 : decode cX1_worth 120 = .ok (.istore 6, 2) := by decide +kernel
theorem dX1_worth_122 : decode cX1_worth 122 = .ok (.iload 6, 2) := by decide +kernel
theorem dX1_worth_124 : decode cX1_worth 124 = .ok (.ifCond .lt 12, 3) := by decide +kernel
theorem dX1_worth_127 : decode cX1_worth 127 = .ok (.iload_n 3, 1) := by decide +kernel
theorem dX1_worth_128 : decode cX1_worth 128 = .ok (.aload_n 0, 1) := by decide +kernel
theorem dX1_worth_129 : decode cX1_worth 129 = .ok (.getfield 33, 3) := by decide +kernel
theorem dX1_worth_132 : decode cX1_worth 132 = .ok (.arraylength, 1) := by decide +kernel
theorem dX1_worth_133 : decode cX1_worth 133 = .ok (.if_icmp .le 7, 3) := by decide +kernel
theorem dX1_worth_136 : decode cX1_worth 136 = .ok (.ldc2_w 51, 3) := by decide +kernel
theorem dX1_worth_139 : decode cX1_worth 139 = .ok (.lreturn, 1) := by decide +kernel
theorem dX1_worth_140 : decode cX1_worth 140 = .ok (.iload 5, 2) := by decide +kernel
theorem dX1_worth_142 : decode cX1_worth 142 = .ok (.aload_n 0, 1) := by decide +kernel
theorem dX1_worth_143 : decode cX1_worth 143 = .ok (.getfield 33, 3) := by decide +kernel
theorem dX1_worth_146 : decode cX1_worth 146 = .ok (.iload 6, 2) := by decide +kernel
theorem dX1_worth_148 : decode cX1_worth 148 = .ok (.laload, 1) := by decide +kernel
theorem dX1_worth_149 : decode cX1_worth 149 = .ok (.aload_n 0, 1) := by decide +kernel
theorem dX1_worth_150 : decode cX1_worth 150 = .ok (.getfield 33, 3) := by decide +kernel
theorem dX1_worth_153 : decode cX1_worth 153 = .ok (.iload_n 3, 1) := by decide +kernel
theorem dX1_worth_154 : decode cX1_worth 154 = .ok (.iconst 1, 1) := by decide +kernel
theorem dX1_worth_155 : decode cX1_worth 155 = .ok (.isub, 1) := by decide +kernel
theorem dX1_worth_156 : decode cX1_worth 156 = .ok (.laload, 1) := by decide +kernel
theorem dX1_worth_157 : decode cX1_worth 157 = .ok (.invokestatic 57, 3) := by decide +kernel
theorem dX1_worth_160 : decode cX1_worth 160 = .ok (.lstore 7, 2) := by decide +kernel
theorem dX1_worth_162 : decode cX1_worth 162 = .ok (.lload 7, 2) := by decide +kernel
theorem dX1_worth_164 : decode cX1_worth 164 = .ok (.ldc2_w 61, 3) := by decide +kernel
theorem dX1_worth_167 : decode cX1_worth 167 = .ok (.lcmp, 1) := by decide +kernel
theorem dX1_worth_168 : decode cX1_worth 168 = .ok (.ifCond .gt 12, 3) := by decide +kernel
theorem dX1_worth_171 : decode cX1_worth 171 = .ok (.lload 7, 2) := by decide +kernel
theorem dX1_worth_173 : decode cX1_worth 173 = .ok (.ldc2_w 63, 3) := by decide +kernel
theorem dX1_worth_176 : decode cX1_worth 176 = .ok (.lcmp, 1) := by decide +kernel
theorem dX1_worth_177 : decode cX1_worth 177 = .ok (.ifCond .ge 7, 3) := by decide +kernel
theorem dX1_worth_180 : decode cX1_worth 180 = .ok (.ldc2_w 51, 3) := by decide +kernel
theorem dX1_worth_183 : decode cX1_worth 183 = .ok (.lreturn, 1) := by decide +kernel
theorem dX1_worth_184 : decode cX1_worth 184 = .ok (.aload_n 0, 1) := by decide +kernel
theorem dX1_worth_185 : decode cX1_worth 185 = .ok (.getfield 33, 3) := by decide +kernel
theorem dX1_worth_188 : decode cX1_worth 188 = .ok (.iload 6, 2) := by decide +kernel
theorem dX1_worth_190 : decode cX1_worth 190 = .ok (.lload 7, 2) := by decide +kernel
theorem dX1_worth_192 : decode cX1_worth 192 = .ok (.lastore, 1) := by decide +kernel
theorem dX1_worth_193 : decode cX1_worth 193 = .ok (.iload 6, 2) := by decide +kernel
theorem dX1_worth_195 : decode cX1_worth 195 = .ok (.iconst 1, 1) := by decide +kernel
theorem dX1_worth_196 : decode cX1_worth 196 = .ok (.iadd, 1) := by decide +kernel
theorem dX1_worth_197 : decode cX1_worth 197 = .ok (.istore_n 3, 1) := by decide +kernel
theorem dX1_worth_198 : decode cX1_worth 198 = .ok (.iinc 4 1, 3) := by decide +kernel
theorem dX1_worth_201 : decode cX1_worth 201 = .ok (.goto (-180), 3) := by decide +kernel
theorem dX1_worth_204 : decode cX1_worth 204 = .ok (.iload_n 3, 1) := by decide +kernel
theorem dX1_worth_205 : decode cX1_worth 205 = .ok (.iconst 1, 1) := by decide +kernel
theorem dX1_worth_206 : decode cX1_worth 206 = .ok (.if_icmp .ne 12, 3) := by decide +kernel
theorem dX1_worth_209 : decode cX1_worth 209 = .ok (.aload_n 0, 1) := by decide +kernel
theorem dX1_worth_210 : decode cX1_worth 210 = .ok (.getfield 33, 3) := by decide +kernel
theorem dX1_worth_213 : decode cX1_worth 213 = .ok (.iconst 0, 1) := by decide +kernel
theorem dX1_worth_214 : decode cX1_worth 214 = .ok (.laload, 1) := by decide +kernel
theorem dX1_worth_215 : decode cX1_worth 215 = .ok (.goto 6, 3) := by decide +kernel
theorem dX1_worth_218 : decode cX1_worth 218 = .ok (.ldc2_w 51, 3) := by decide +kernel
theorem dX1_worth_221 : decode cX1_worth 221 = .ok (.lreturn, 1) := by decide +kernel
theorem dX1_joined_0 : decode cX1_joined 0 = .ok (.iload_n 0, 1) := by decide +kernel
theorem dX1_joined_1 : decode cX1_joined 1 = .ok (.tableswitch 255 3 15 #[79, 97, 67, 115, 127, 139, 151, 163, 175, 187, 191, 195, 239], 67) := by decide +kernel
theorem dX1_joined_68 : decode cX1_joined 68 = .ok (.lload_n 3, 1) := by decide +kernel
theorem dX1_joined_69 : decode cX1_joined 69 = .ok (.lconst 0, 1) := by decide +kernel
theorem dX1_joined_70 : decode cX1_joined 70 = .ok (.lcmp, 1) := by decide +kernel
theorem dX1_joined_71 : decode cX1_joined 71 = .ok (.ifCond .ne 7, 3) := by decide +kernel
theorem dX1_joined_74 : decode cX1_joined 74 = .ok (.lconst 1, 1) := by decide +kernel
theorem dX1_joined_75 : decode cX1_joined 75 = .ok (.goto 4, 3) := by decide +kernel
theorem dX1_joined_78 : decode cX1_joined 78 = .ok (.lconst 0, 1) := by decide +kernel
theorem dX1_joined_79 : decode cX1_joined 79 = .ok (.lreturn, 1) := by decide +kernel
theorem dX1_joined_80 : decode cX1_joined 80 = .ok (.lload_n 1, 1) := by decide +kernel
theorem dX1_joined_81 : decode cX1_joined 81 = .ok (.lconst 0, 1) := by decide +kernel
theorem dX1_joined_82 : decode cX1_joined 82 = .ok (.lcmp, 1) := by decide +kernel
theorem dX1_joined_83 : decode cX1_joined 83 = .ok (.ifCond .ne 9, 3) := by decide +kernel
theorem dX1_joined_86 : decode cX1_joined 86 = .ok (.lload_n 3, 1) := by decide +kernel
theorem dX1_joined_87 : decode cX1_joined 87 = .ok (.lconst 0, 1) := by decide +kernel
theorem dX1_joined_88 : decode cX1_joined 88 = .ok (.lcmp, 1) := by decide +kernel
theorem dX1_joined_89 : decode cX1_joined 89 = .ok (.ifCond .eq 7, 3) := by decide +kernel
theorem dX1_joined_92 : decode cX1_joined 92 = .ok (.lconst 1, 1) := by decide +kernel
theorem dX1_joined_93 : decode cX1_joined 93 = .ok (.goto 4, 3) := by decide +kernel
theorem dX1_joined_96 : decode cX1_joined 96 = .ok (.lconst 0, 1) := by decide +kernel
theorem dX1_joined_97 : decode cX1_joined 97 = .ok (.lreturn, 1) := by decide +kernel
theorem dX1_joined_98 : decode cX1_joined 98 = .ok (.lload_n 1, 1) := by decide +kernel
theorem dX1_joined_99 : decode cX1_joined 99 = .ok (.lconst 0, 1) := by decide +kernel
theorem dX1_joined_100 : decode cX1_joined 100 = .ok (.lcmp, 1) := by decide +kernel
theorem dX1_joined_101 : decode cX1_joined 101 = .ok (.ifCond .eq 13, 3) := by decide +kernel
theorem dX1_joined_104 : decode cX1_joined 104 = .ok (.lload_n 3, 1) := by decide +kernel
theorem dX1_joined_105 : decode cX1_joined 105 = .ok (.lconst 0, 1) := by decide +kernel
theorem dX1_joined_106 : decode cX1_joined 106 = .ok (.lcmp, 1) := by decide +kernel
theorem dX1_joined_107 : decode cX1_joined 107 = .ok (.ifCond .eq 7, 3) := by decide +kernel
theorem dX1_joined_110 : decode cX1_joined 110 = .ok (.lconst 1, 1) := by decide +kernel
theorem dX1_joined_111 : decode cX1_joined 111 = .ok (.goto 4, 3) := by decide +kernel
theorem dX1_joined_114 : decode cX1_joined 114 = .ok (.lconst 0, 1) := by decide +kernel
theorem dX1_joined_115 : decode cX1_joined 115 = .ok (.lreturn, 1) := by decide +kernel
theorem dX1_joined_116 : decode cX1_joined 116 = .ok (.lload_n 1, 1) := by decide +kernel
theorem dX1_joined_117 : decode cX1_joined 117 = .ok (.lload_n 3, 1) := by decide +kernel
theorem dX1_joined_118 : decode cX1_joined 118 = .ok (.lcmp, 1) := by decide +kernel
theorem dX1_joined_119 : decode cX1_joined 119 = .ok (.ifCond .ge 7, 3) := by decide +kernel
theorem dX1_joined_122 : decode cX1_joined 122 = .ok (.lconst 1, 1) := by decide +kernel
theorem dX1_joined_123 : decode cX1_joined 123 = .ok (.goto 4, 3) := by decide +kernel
theorem dX1_joined_126 : decode cX1_joined 126 = .ok (.lconst 0, 1) := by decide +kernel
theorem dX1_joined_127 : decode cX1_joined 127 = .ok (.lreturn, 1) := by decide +kernel
theorem dX1_joined_128 : decode cX1_joined 128 = .ok (.lload_n 1, 1) := by decide +kernel
theorem dX1_joined_129 : decode cX1_joined 129 = .ok (.lload_n 3, 1) := by decide +kernel
theorem dX1_joined_130 : decode cX1_joined 130 = .ok (.lcmp, 1) := by decide +kernel
theorem dX1_joined_131 : decode cX1_joined 131 = .ok (.ifCond .gt 7, 3) := by decide +kernel
theorem dX1_joined_134 : decode cX1_joined 134 = .ok (.lconst 1, 1) := by decide +kernel
theorem dX1_joined_135 : decode cX1_joined 135 = .ok (.goto 4, 3) := by decide +kernel
theorem dX1_joined_138 : decode cX1_joined 138 = .ok (.lconst 0, 1) := by decide +kernel
theorem dX1_joined_139 : decode cX1_joined 139 = .ok (.lreturn, 1) := by decide +kernel
theorem dX1_joined_140 : decode cX1_joined 140 = .ok (.lload_n 1, 1) := by decide +kernel
theorem dX1_joined_141 : decode cX1_joined 141 = .ok (.lload_n 3, 1) := by decide +kernel
theorem dX1_joined_142 : decode cX1_joined 142 = .ok (.lcmp, 1) := by decide +kernel
theorem dX1_joined_143 : decode cX1_joined 143 = .ok (.ifCond .ne 7, 3) := by decide +kernel
theorem dX1_joined_146 : decode cX1_joined 146 = .ok (.lconst 1, 1) := by decide +kernel
theorem dX1_joined_147 : decode cX1_joined 147 = .ok (.goto 4, 3) := by decide +kernel
theorem dX1_joined_150 : decode cX1_joined 150 = .ok (.lconst 0, 1) := by decide +kernel
theorem dX1_joined_151 : decode cX1_joined 151 = .ok (.lreturn, 1) := by decide +kernel
theorem dX1_joined_152 : decode cX1_joined 152 = .ok (.lload_n 1, 1) := by decide +kernel
theorem dX1_joined_153 : decode cX1_joined 153 = .ok (.lload_n 3, 1) := by decide +kernel
theorem dX1_joined_154 : decode cX1_joined 154 = .ok (.lcmp, 1) := by decide +kernel
theorem dX1_joined_155 : decode cX1_joined 155 = .ok (.ifCond .eq 7, 3) := by decide +kernel
theorem dX1_joined_158 : decode cX1_joined 158 = .ok (.lconst 1, 1) := by decide +kernel
theorem dX1_joined_159 : decode cX1_joined 159 = .ok (.goto 4, 3) := by decide +kernel
theorem dX1_joined_162 : decode cX1_joined 162 = .ok (.lconst 0, 1) := by decide +kernel
theorem dX1_joined_163 : decode cX1_joined 163 = .ok (.lreturn, 1) := by decide +kernel
theorem dX1_joined_164 : decode cX1_joined 164 = .ok (.lload_n 1, 1) := by decide +kernel
theorem dX1_joined_165 : decode cX1_joined 165 = .ok (.lload_n 3, 1) := by decide +kernel
theorem dX1_joined_166 : decode cX1_joined 166 = .ok (.lcmp, 1) := by decide +kernel
theorem dX1_joined_167 : decode cX1_joined 167 = .ok (.ifCond .lt 7, 3) := by decide +kernel
theorem dX1_joined_170 : decode cX1_joined 170 = .ok (.lconst 1, 1) := by decide +kernel
theorem dX1_joined_171 : decode cX1_joined 171 = .ok (.goto 4, 3) := by decide +kernel
theorem dX1_joined_174 : decode cX1_joined 174 = .ok (.lconst 0, 1) := by decide +kernel
theorem dX1_joined_175 : decode cX1_joined 175 = .ok (.lreturn, 1) := by decide +kernel
theorem dX1_joined_176 : decode cX1_joined 176 = .ok (.lload_n 1, 1) := by decide +kernel
theorem dX1_joined_177 : decode cX1_joined 177 = .ok (.lload_n 3, 1) := by decide +kernel
theorem dX1_joined_178 : decode cX1_joined 178 = .ok (.lcmp, 1) := by decide +kernel
theorem dX1_joined_179 : decode cX1_joined 179 = .ok (.ifCond .le 7, 3) := by decide +kernel
theorem dX1_joined_182 : decode cX1_joined 182 = .ok (.lconst 1, 1) := by decide +kernel
theorem dX1_joined_183 : decode cX1_joined 183 = .ok (.goto 4, 3) := by decide +kernel
theorem dX1_joined_186 : decode cX1_joined 186 = .ok (.lconst 0, 1) := by decide +kernel
theorem dX1_joined_187 : decode cX1_joined 187 = .ok (.lreturn, 1) := by decide +kernel
theorem dX1_joined_188 : decode cX1_joined 188 = .ok (.lload_n 1, 1) := by decide +kernel
theorem dX1_joined_189 : decode cX1_joined 189 = .ok (.lload_n 3, 1) := by decide +kernel
theorem dX1_joined_190 : decode cX1_joined 190 = .ok (.ladd, 1) := by decide +kernel
theorem dX1_joined_191 : decode cX1_joined 191 = .ok (.lreturn, 1) := by decide +kernel
theorem dX1_joined_192 : decode cX1_joined 192 = .ok (.lload_n 1, 1) := by decide +kernel
theorem dX1_joined_193 : decode cX1_joined 193 = .ok (.lload_n 3, 1) := by decide +kernel
theorem dX1_joined_194 : decode cX1_joined 194 = .ok (.lsub, 1) := by decide +kernel
theorem dX1_joined_195 : decode cX1_joined 195 = .ok (.lreturn, 1) := by decide +kernel
theorem dX1_joined_196 : decode cX1_joined 196 = .ok (.lload_n 1, 1) := by decide +kernel
theorem dX1_joined_197 : decode cX1_joined 197 = .ok (.lconst 0, 1) := by decide +kernel
theorem dX1_joined_198 : decode cX1_joined 198 = .ok (.lcmp, 1) := by decide +kernel
theorem dX1_joined_199 : decode cX1_joined 199 = .ok (.ifCond .eq 19, 3) := by decide +kernel
theorem dX1_joined_202 : decode cX1_joined 202 = .ok (.lload_n 3, 1) := by decide +kernel
theorem dX1_joined_203 : decode cX1_joined 203 = .ok (.invokestatic 65, 3) := by decide +kernel
theorem dX1_joined_206 : decode cX1_joined 206 = .ok (.ldc2_w 61, 3) := by decide +kernel
theorem dX1_joined_209 : decode cX1_joined 209 = .ok (.lload_n 1, 1) := by decide +kernel
theorem dX1_joined_210 : decode cX1_joined 210 = .ok (.invokestatic 65, 3) := by decide +kernel
theorem dX1_joined_213 : decode cX1_joined 213 = .ok (.ldiv, 1) := by decide +kernel
theorem dX1_joined_214 : decode cX1_joined 214 = .ok (.lcmp, 1) := by decide +kernel
theorem dX1_joined_215 : decode cX1_joined 215 = .ok (.ifCond .gt 7, 3) := by decide +kernel
theorem dX1_joined_218 : decode cX1_joined 218 = .ok (.iconst 1, 1) := by decide +kernel
theorem dX1_joined_219 : decode cX1_joined 219 = .ok (.goto 4, 3) := by decide +kernel
theorem dX1_joined_222 : decode cX1_joined 222 = .ok (.iconst 0, 1) := by decide +kernel
theorem dX1_joined_223 : decode cX1_joined 223 = .ok (.istore 5, 2) := by decide +kernel
theorem dX1_joined_225 : decode cX1_joined 225 = .ok (.iload 5, 2) := by decide +kernel
theorem dX1_joined_227 : decode cX1_joined 227 = .ok (.ifCond .eq 9, 3) := by decide +kernel
theorem dX1_joined_230 : decode cX1_joined 230 = .ok (.lload_n 1, 1) := by decide +kernel
theorem dX1_joined_231 : decode cX1_joined 231 = .ok (.lload_n 3, 1) := by decide +kernel
theorem dX1_joined_232 : decode cX1_joined 232 = .ok (.lmul, 1) := by decide +kernel
theorem dX1_joined_233 : decode cX1_joined 233 = .ok (.goto 6, 3) := by decide +kernel
theorem dX1_joined_236 : decode cX1_joined 236 = .ok (.ldc2_w 51, 3) := by decide +kernel
theorem dX1_joined_239 : decode cX1_joined 239 = .ok (.lreturn, 1) := by decide +kernel
theorem dX1_joined_240 : decode cX1_joined 240 = .ok (.lload_n 3, 1) := by decide +kernel
theorem dX1_joined_241 : decode cX1_joined 241 = .ok (.lconst 0, 1) := by decide +kernel
theorem dX1_joined_242 : decode cX1_joined 242 = .ok (.lcmp, 1) := by decide +kernel
theorem dX1_joined_243 : decode cX1_joined 243 = .ok (.ifCond .ne 9, 3) := by decide +kernel
theorem dX1_joined_246 : decode cX1_joined 246 = .ok (.ldc2_w 51, 3) := by decide +kernel
theorem dX1_joined_249 : decode cX1_joined 249 = .ok (.goto 6, 3) := by decide +kernel
theorem dX1_joined_252 : decode cX1_joined 252 = .ok (.lload_n 1, 1) := by decide +kernel
theorem dX1_joined_253 : decode cX1_joined 253 = .ok (.lload_n 3, 1) := by decide +kernel
theorem dX1_joined_254 : decode cX1_joined 254 = .ok (.ldiv, 1) := by decide +kernel
theorem dX1_joined_255 : decode cX1_joined 255 = .ok (.lreturn, 1) := by decide +kernel
theorem dX1_joined_256 : decode cX1_joined 256 = .ok (.ldc2_w 51, 3) := by decide +kernel
theorem dX1_joined_259 : decode cX1_joined 259 = .ok (.lreturn, 1) := by decide +kernel
theorem dX2_init_0 : decode cX2_init 0 = .ok (.aload_n 0, 1) := by decide +kernel
theorem dX2_init_1 : decode cX2_init 1 = .ok (.invokespecial 3, 3) := by decide +kernel
theorem dX2_init_4 : decode cX2_init 4 = .ok (.aload_n 0, 1) := by decide +kernel
theorem dX2_init_5 : decode cX2_init 5 = .ok (.new 9, 3) := by decide +kernel
theorem dX2_init_8 : decode cX2_init 8 = .ok (.dup, 1) := by decide +kernel
theorem dX2_init_9 : decode cX2_init 9 = .ok (.bipush 24, 2) := by decide +kernel
theorem dX2_init_11 : decode cX2_init 11 = .ok (.invokespecial 11, 3) := by decide +kernel
theorem dX2_init_14 : decode cX2_init 14 = .ok (.putfield 14, 3) := by decide +kernel
theorem dX2_init_17 : decode cX2_init 17 = .ok (.aload_n 0, 1) := by decide +kernel
theorem dX2_init_18 : decode cX2_init 18 = .ok (.new 9, 3) := by decide +kernel
theorem dX2_init_21 : decode cX2_init 21 = .ok (.dup, 1) := by decide +kernel
theorem dX2_init_22 : decode cX2_init 22 = .ok (.bipush 24, 2) := by decide +kernel
theorem dX2_init_24 : decode cX2_init 24 = .ok (.invokespecial 11, 3) := by decide +kernel
theorem dX2_init_27 : decode cX2_init 27 = .ok (.putfield 20, 3) := by decide +kernel
theorem dX2_init_30 : decode cX2_init 30 = .ok (.aload_n 0, 1) := by decide +kernel
theorem dX2_init_31 : decode cX2_init 31 = .ok (.new 9, 3) := by decide +kernel
theorem dX2_init_34 : decode cX2_init 34 = .ok (.dup, 1) := by decide +kernel
theorem dX2_init_35 : decode cX2_init 35 = .ok (.bipush 24, 2) := by decide +kernel
theorem dX2_init_37 : decode cX2_init 37 = .ok (.invokespecial 11, 3) := by decide +kernel
theorem dX2_init_40 : decode cX2_init 40 = .ok (.putfield 23, 3) := by decide +kernel
theorem dX2_init_43 : decode cX2_init 43 = .ok (.aload_n 0, 1) := by decide +kernel
theorem dX2_init_44 : decode cX2_init 44 = .ok (.new 9, 3) := by decide +kernel
theorem dX2_init_47 : decode cX2_init 47 = .ok (.dup, 1) := by decide +kernel
theorem dX2_init_48 : decode cX2_init 48 = .ok (.bipush 24, 2) := by decide +kernel
theorem dX2_init_50 : decode cX2_init 50 = .ok (.invokespecial 11, 3) := by decide +kernel
theorem dX2_init_53 : decode cX2_init 53 = .ok (.putfield 26, 3) := by decide +kernel
theorem dX2_init_56 : decode cX2_init 56 = .ok (.aload_n 0, 1) := by decide +kernel
theorem dX2_init_57 : decode cX2_init 57 = .ok (.new 9, 3) := by decide +kernel
theorem dX2_init_60 : decode cX2_init 60 = .ok (.dup, 1) := by decide +kernel
theorem dX2_init_61 : decode cX2_init 61 = .ok (.sipush 1440, 3) := by decide +kernel
theorem dX2_init_64 : decode cX2_init 64 = .ok (.invokespecial 11, 3) := by decide +kernel
theorem dX2_init_67 : decode cX2_init 67 = .ok (.putfield 29, 3) := by decide +kernel
theorem dX2_init_70 : decode cX2_init 70 = .ok (.aload_n 0, 1) := by decide +kernel
theorem dX2_init_71 : decode cX2_init 71 = .ok (.new 9, 3) := by decide +kernel
theorem dX2_init_74 : decode cX2_init 74 = .ok (.dup, 1) := by decide +kernel
theorem dX2_init_75 : decode cX2_init 75 = .ok (.bipush 25, 2) := by decide +kernel
theorem dX2_init_77 : decode cX2_init 77 = .ok (.invokespecial 11, 3) := by decide +kernel
theorem dX2_init_80 : decode cX2_init 80 = .ok (.putfield 32, 3) := by decide +kernel
theorem dX2_init_83 : decode cX2_init 83 = .ok (.aload_n 0, 1) := by decide +kernel
theorem dX2_init_84 : decode cX2_init 84 = .ok (.iconst (-1), 1) := by decide +kernel
theorem dX2_init_85 : decode cX2_init 85 = .ok (.putfield 35, 3) := by decide +kernel
theorem dX2_init_88 : decode cX2_init 88 = .ok (.return_, 1) := by decide +kernel
theorem dX2_clear_0 : decode cX2_clear 0 = .ok (.aload_n 0, 1) := by decide +kernel
theorem dX2_clear_1 : decode cX2_clear 1 = .ok (.iconst 0, 1) := by decide +kernel
theorem dX2_clear_2 : decode cX2_clear 2 = .ok (.putfield 39, 3) := by decide +kernel
theorem dX2_clear_5 : decode cX2_clear 5 = .ok (.aload_n 0, 1) := by decide +kernel
theorem dX2_clear_6 : decode cX2_clear 6 = .ok (.iconst (-1), 1) := by decide +kernel
theorem dX2_clear_7 : decode cX2_clear 7 = .ok (.putfield 35, 3) := by decide +kernel
theorem dX2_clear_10 : decode cX2_clear 10 = .ok (.return_, 1) := by decide +kernel
theorem dX2_add_0 : decode cX2_add 0 = .ok (.aload_n 0, 1) := by decide +kernel
theorem dX2_add_1 : decode cX2_add 1 = .ok (.getfield 39, 3) := by decide +kernel
theorem dX2_add_4 : decode cX2_add 4 = .ok (.bipush 24, 2) := by decide +kernel
theorem dX2_add_6 : decode cX2_add 6 = .ok (.if_icmp .lt 5, 3) := by decide +kernel
theorem dX2_add_9 : decode cX2_add 9 = .ok (.iconst (-1), 1) := by decide +kernel
theorem dX2_add_10 : decode cX2_add 10 = .ok (.ireturn, 1) := by decide +kernel
theorem dX2_add_11 : decode cX2_add 11 = .ok (.aload_n 0, 1) := by decide +kernel
theorem dX2_add_12 : decode cX2_add 12 = .ok (.getfield 14, 3) := by decide +kernel
theorem dX2_add_15 : decode cX2_add 15 = .ok (.aload_n 0, 1) := by decide +kernel
theorem dX2_add_16 : decode cX2_add 16 = .ok (.getfield 39, 3) := by decide +kernel
theorem dX2_add_19 : decode cX2_add 19 = .ok (.iload_n 1, 1) := by decide +kernel
theorem dX2_add_20 : decode cX2_add 20 = .ok (.invokevirtual 42, 3) := by decide +kernel
theorem dX2_add_23 : decode cX2_add 23 = .ok (.aload_n 0, 1) := by decide +kernel
theorem dX2_add_24 : decode cX2_add 24 = .ok (.getfield 20, 3) := by decide +kernel
theorem dX2_add_27 : decode cX2_add 27 = .ok (.aload_n 0, 1) := by decide +kernel
theorem dX2_add_28 : decode cX2_add 28 = .ok (.getfield 39, 3) := by decide +kernel
theorem dX2_add_31 : decode cX2_add 31 = .ok (.iload_n 2, 1) := by decide +kernel
theorem dX2_add_32 : decode cX2_add 32 = .ok (.invokevirtual 42, 3) := by decide +kernel
theorem dX2_add_35 : decode cX2_add 35 = .ok (.aload_n 0, 1) := by decide +kernel
theorem dX2_add_36 : decode cX2_add 36 = .ok (.getfield 23, 3) := by decide +kernel
theorem dX2_add_39 : decode cX2_add 39 = .ok (.aload_n 0, 1) := by decide +kernel
theorem dX2_add_40 : decode cX2_add 40 = .ok (.getfield 39, 3) := by decide +kernel
theorem dX2_add_43 : decode cX2_add 43 = .ok (.iload_n 3, 1) := by decide +kernel
theorem dX2_add_44 : decode cX2_add 44 = .ok (.invokevirtual 42, 3) := by decide +kernel
theorem dX2_add_47 : decode cX2_add 47 = .ok (.aload_n 0, 1) := by decide +kernel
theorem dX2_add_48 : decode cX2_add 48 = .ok (.dup, 1) := by decide +kernel
theorem dX2_add_49 : decode cX2_add 49 = .ok (.getfield 39, 3) := by decide +kernel
theorem dX2_add_52 : decode cX2_add 52 = .ok (.iconst 1, 1) := by decide +kernel
theorem dX2_add_53 : decode cX2_add 53 = .ok (.iadd, 1) := by decide +kernel
theorem dX2_add_54 : decode cX2_add 54 = .ok (.putfield 39, 3) := by decide +kernel
theorem dX2_add_57 : decode cX2_add 57 = .ok (.aload_n 0, 1) := by decide +kernel
theorem dX2_add_58 : decode cX2_add 58 = .ok (.getfield 39, 3) := by decide +kernel
theorem dX2_add_61 : decode cX2_add 61 = .ok (.iconst 1, 1) := by decide +kernel
theorem dX2_add_62 : decode cX2_add 62 = .ok (.isub, 1) := by decide +kernel
theorem dX2_add_63 : decode cX2_add 63 = .ok (.ireturn, 1) := by decide +kernel
theorem dX2_byHowMany_0 : decode cX2_byHowMany 0 = .ok (.aload_n 0, 1) := by decide +kernel
theorem dX2_byHowMany_1 : decode cX2_byHowMany 1 = .ok (.getfield 35, 3) := by decide +kernel
theorem dX2_byHowMany_4 : decode cX2_byHowMany 4 = .ok (.iconst (-1), 1) := by decide +kernel
theorem dX2_byHowMany_5 : decode cX2_byHowMany 5 = .ok (.if_icmp .ne 10, 3) := by decide +kernel
theorem dX2_byHowMany_8 : decode cX2_byHowMany 8 = .ok (.aload_n 0, 1) := by decide +kernel
theorem dX2_byHowMany_9 : decode cX2_byHowMany 9 = .ok (.getfield 39, 3) := by decide +kernel
theorem dX2_byHowMany_12 : decode cX2_byHowMany 12 = .ok (.goto 7, 3) := by decide +kernel
theorem dX2_byHowMany_15 : decode cX2_byHowMany 15 = .ok (.aload_n 0, 1) := by decide +kernel
theorem dX2_byHowMany_16 : decode cX2_byHowMany 16 = .ok (.getfield 35, 3) := by decide +kernel
theorem dX2_byHowMany_19 : decode cX2_byHowMany 19 = .ok (.ireturn, 1) := by decide +kernel
theorem dX2_strikeOut_0 : decode cX2_strikeOut 0 = .ok (.aload_n 0, 1) := by decide +kernel
theorem dX2_strikeOut_1 : decode cX2_strikeOut 1 = .ok (.getfield 26, 3) := by decide +kernel
theorem dX2_strikeOut_4 : decode cX2_strikeOut 4 = .ok (.iconst 0, 1) := by decide +kernel
theorem dX2_strikeOut_5 : decode cX2_strikeOut 5 = .ok (.invokevirtual 46, 3) := by decide +kernel
theorem dX2_strikeOut_8 : decode cX2_strikeOut 8 = .ok (.aload_n 0, 1) := by decide +kernel
theorem dX2_strikeOut_9 : decode cX2_strikeOut 9 = .ok (.invokevirtual 49, 3) := by decide +kernel
theorem dX2_strikeOut_12 : decode cX2_strikeOut 12 = .ok (.iconst 1, 1) := by decide +kernel
theorem dX2_strikeOut_13 : decode cX2_strikeOut 13 = .ok (.isub, 1) := by decide +kernel
theorem dX2_strikeOut_14 : decode cX2_strikeOut 14 = .ok (.istore_n 1, 1) := by decide +kernel
theorem dX2_strikeOut_15 : decode cX2_strikeOut 15 = .ok (.iload_n 1, 1) := by decide +kernel
theorem dX2_strikeOut_16 : decode cX2_strikeOut 16 = .ok (.ifCond .lt 48, 3) := by decide +kernel
theorem dX2_strikeOut_19 : decode cX2_strikeOut 19 = .ok (.aload_n 0, 1) := by decide +kernel
theorem dX2_strikeOut_20 : decode cX2_strikeOut 20 = .ok (.getfield 14, 3) := by decide +kernel
theorem dX2_strikeOut_23 : decode cX2_strikeOut 23 = .ok (.iload_n 1, 1) := by decide +kernel
theorem dX2_strikeOut_24 : decode cX2_strikeOut 24 = .ok (.invokevirtual 53, 3) := by decide +kernel
theorem dX2_strikeOut_27 : decode cX2_strikeOut 27 = .ok (.iconst 2, 1) := by decide +kernel
theorem dX2_strikeOut_28 : decode cX2_strikeOut 28 = .ok (.if_icmp .ne 30, 3) := by decide +kernel
theorem dX2_strikeOut_31 : decode cX2_strikeOut 31 = .ok (.aload_n 0, 1) := by decide +kernel
theorem dX2_strikeOut_32 : decode cX2_strikeOut 32 = .ok (.getfield 26, 3) := by decide +kernel
theorem dX2_strikeOut_35 : decode cX2_strikeOut 35 = .ok (.iload_n 1, 1) := by decide +kernel
theorem dX2_strikeOut_36 : decode cX2_strikeOut 36 = .ok (.invokevirtual 53, 3) := by decide +kernel
theorem dX2_strikeOut_39 : decode cX2_strikeOut 39 = .ok (.ifCond .ne 19, 3) := by decide +kernel
theorem dX2_strikeOut_42 : decode cX2_strikeOut 42 = .ok (.aload_n 0, 1) := by decide +kernel
theorem dX2_strikeOut_43 : decode cX2_strikeOut 43 = .ok (.getfield 26, 3) := by decide +kernel
theorem dX2_strikeOut_46 : decode cX2_strikeOut 46 = .ok (.aload_n 0, 1) := by decide +kernel
theorem dX2_strikeOut_47 : decode cX2_strikeOut 47 = .ok (.getfield 20, 3) := by decide +kernel
theorem dX2_strikeOut_50 : decode cX2_strikeOut 50 = .ok (.iload_n 1, 1) := by decide +kernel
theorem dX2_strikeOut_51 : decode cX2_strikeOut 51 = .ok (.invokevirtual 53, 3) := by decide +kernel
theorem dX2_strikeOut_54 : decode cX2_strikeOut 54 = .ok (.iconst 1, 1) := by decide +kernel
theorem dX2_strikeOut_55 : decode cX2_strikeOut 55 = .ok (.invokevirtual 42, 3) := by decide +kernel
theorem dX2_strikeOut_58 : decode cX2_strikeOut 58 = .ok (.iinc 1 (-1), 3) := by decide +kernel
theorem dX2_strikeOut_61 : decode cX2_strikeOut 61 = .ok (.goto (-46), 3) := by decide +kernel
theorem dX2_strikeOut_64 : decode cX2_strikeOut 64 = .ok (.return_, 1) := by decide +kernel
theorem dX2_tells_0 : decode cX2_tells 0 = .ok (.aload_n 0, 1) := by decide +kernel
theorem dX2_tells_1 : decode cX2_tells 1 = .ok (.getfield 14, 3) := by decide +kernel
theorem dX2_tells_4 : decode cX2_tells 4 = .ok (.iload_n 1, 1) := by decide +kernel
theorem dX2_tells_5 : decode cX2_tells 5 = .ok (.invokevirtual 53, 3) := by decide +kernel
theorem dX2_tells_8 : decode cX2_tells 8 = .ok (.iconst 2, 1) := by decide +kernel
theorem dX2_tells_9 : decode cX2_tells 9 = .ok (.if_icmp .eq 18, 3) := by decide +kernel
theorem dX2_tells_12 : decode cX2_tells 12 = .ok (.aload_n 0, 1) := by decide +kernel
theorem dX2_tells_13 : decode cX2_tells 13 = .ok (.getfield 26, 3) := by decide +kernel
theorem dX2_tells_16 : decode cX2_tells 16 = .ok (.iload_n 1, 1) := by decide +kernel
theorem dX2_tells_17 : decode cX2_tells 17 = .ok (.invokevirtual 53, 3) := by decide +kernel
theorem dX2_tells_20 : decode cX2_tells 20 = .ok (.ifCond .ne 7, 3) := by decide +kernel
theorem dX2_tells_23 : decode cX2_tells 23 = .ok (.iconst 1, 1) := by decide +kernel
theorem dX2_tells_24 : decode cX2_tells 24 = .ok (.goto 4, 3) := by decide +kernel
theorem dX2_tells_27 : decode cX2_tells 27 = .ok (.iconst 0, 1) := by decide +kernel
theorem dX2_tells_28 : decode cX2_tells 28 = .ok (.ireturn, 1) := by decide +kernel
theorem dX2_longest_0 : decode cX2_longest 0 = .ok (.iconst 0, 1) := by decide +kernel
theorem dX2_longest_1 : decode cX2_longest 1 = .ok (.istore_n 1, 1) := by decide +kernel
theorem dX2_longest_2 : decode cX2_longest 2 = .ok (.iconst 0, 1) := by decide +kernel
theorem dX2_longest_3 : decode cX2_longest 3 = .ok (.istore_n 2, 1) := by decide +kernel
theorem dX2_longest_4 : decode cX2_longest 4 = .ok (.iload_n 2, 1) := by decide +kernel
theorem dX2_longest_5 : decode cX2_longest 5 = .ok (.aload_n 0, 1) := by decide +kernel
theorem dX2_longest_6 : decode cX2_longest 6 = .ok (.invokevirtual 49, 3) := by decide +kernel
theorem dX2_longest_9 : decode cX2_longest 9 = .ok (.if_icmp .ge 30, 3) := by decide +kernel
theorem dX2_longest_12 : decode cX2_longest 12 = .ok (.aload_n 0, 1) := by decide +kernel
theorem dX2_longest_13 : decode cX2_longest 13 = .ok (.iload_n 2, 1) := by decide +kernel
theorem dX2_longest_14 : decode cX2_longest 14 = .ok (.invokevirtual 57, 3) := by decide +kernel
theorem dX2_longest_17 : decode cX2_longest 17 = .ok (.ifCond .eq 16, 3) := by decide +kernel
theorem dX2_longest_20 : decode cX2_longest 20 = .ok (.iload_n 1, 1) := by decide +kernel
theorem dX2_longest_21 : decode cX2_longest 21 = .ok (.aload_n 0, 1) := by decide +kernel
theorem dX2_longest_22 : decode cX2_longest 22 = .ok (.getfield 20, 3) := by decide +kernel
theorem dX2_longest_25 : decode cX2_longest 25 = .ok (.iload_n 2, 1) := by decide +kernel
theorem dX2_longest_26 : decode cX2_longest 26 = .ok (.invokevirtual 53, 3) := by decide +kernel
theorem dX2_longest_29 : decode cX2_longest 29 = .ok (.invokestatic 61, 3) := by decide +kernel
theorem dX2_longest_32 : decode cX2_longest 32 = .ok (.istore_n 1, 1) := by decide +kernel
theorem dX2_longest_33 : decode cX2_longest 33 = .ok (.iinc 2 1, 3) := by decide +kernel
theorem dX2_longest_36 : decode cX2_longest 36 = .ok (.goto (-32), 3) := by decide +kernel
theorem dX2_longest_39 : decode cX2_longest 39 = .ok (.iload_n 1, 1) := by decide +kernel
theorem dX2_longest_40 : decode cX2_longest 40 = .ok (.ireturn, 1) := by decide +kernel
theorem dX2_sees_0 : decode cX2_sees 0 = .ok (.aload_n 0, 1) := by decide +kernel
theorem dX2_sees_1 : decode cX2_sees 1 = .ok (.getfield 29, 3) := by decide +kernel
theorem dX2_sees_4 : decode cX2_sees 4 = .ok (.iload_n 1, 1) := by decide +kernel
theorem dX2_sees_5 : decode cX2_sees 5 = .ok (.bipush 60, 2) := by decide +kernel
theorem dX2_sees_7 : decode cX2_sees 7 = .ok (.imul, 1) := by decide +kernel
theorem dX2_sees_8 : decode cX2_sees 8 = .ok (.iload_n 2, 1) := by decide +kernel
theorem dX2_sees_9 : decode cX2_sees 9 = .ok (.iadd, 1) := by decide +kernel
theorem dX2_sees_10 : decode cX2_sees 10 = .ok (.iconst 1, 1) := by decide +kernel
theorem dX2_sees_11 : decode cX2_sees 11 = .ok (.isub, 1) := by decide +kernel
theorem dX2_sees_12 : decode cX2_sees 12 = .ok (.iload_n 3, 1) := by decide +kernel
theorem dX2_sees_13 : decode cX2_sees 13 = .ok (.invokevirtual 42, 3) := by decide +kernel
theorem dX2_sees_16 : decode cX2_sees 16 = .ok (.return_, 1) := by decide +kernel
theorem dX2_lastBehind_0 : decode cX2_lastBehind 0 = .ok (.aload_n 0, 1) := by decide +kernel
theorem dX2_lastBehind_1 : decode cX2_lastBehind 1 = .ok (.getfield 29, 3) := by decide +kernel
theorem dX2_lastBehind_4 : decode cX2_lastBehind 4 = .ok (.iload_n 2, 1) := by decide +kernel
theorem dX2_lastBehind_5 : decode cX2_lastBehind 5 = .ok (.bipush 60, 2) := by decide +kernel
theorem dX2_lastBehind_7 : decode cX2_lastBehind 7 = .ok (.imul, 1) := by decide +kernel
theorem dX2_lastBehind_8 : decode cX2_lastBehind 8 = .ok (.iload_n 1, 1) := by decide +kernel
theorem dX2_lastBehind_9 : decode cX2_lastBehind 9 = .ok (.iadd, 1) := by decide +kernel
theorem dX2_lastBehind_10 : decode cX2_lastBehind 10 = .ok (.iconst 1, 1) := by decide +kernel
theorem dX2_lastBehind_11 : decode cX2_lastBehind 11 = .ok (.isub, 1) := by decide +kernel
theorem dX2_lastBehind_12 : decode cX2_lastBehind 12 = .ok (.invokevirtual 53, 3) := by decide +kernel
theorem dX2_lastBehind_15 : decode cX2_lastBehind 15 = .ok (.ireturn, 1) := by decide +kernel
theorem dX2_fits_0 : decode cX2_fits 0 = .ok (.aload_n 0, 1) := by decide +kernel
theorem dX2_fits_1 : decode cX2_fits 1 = .ok (.aload_n 0, 1) := by decide +kernel
theorem dX2_fits_2 : decode cX2_fits 2 = .ok (.getfield 20, 3) := by decide +kernel
theorem dX2_fits_5 : decode cX2_fits 5 = .ok (.iload_n 1, 1) := by decide +kernel
theorem dX2_fits_6 : decode cX2_fits 6 = .ok (.invokevirtual 53, 3) := by decide +kernel
theorem dX2_fits_9 : decode cX2_fits 9 = .ok (.iload_n 2, 1) := by decide +kernel
theorem dX2_fits_10 : decode cX2_fits 10 = .ok (.invokevirtual 67, 3) := by decide +kernel
theorem dX2_fits_13 : decode cX2_fits 13 = .ok (.aload_n 0, 1) := by decide +kernel
theorem dX2_fits_14 : decode cX2_fits 14 = .ok (.getfield 23, 3) := by decide +kernel
theorem dX2_fits_17 : decode cX2_fits 17 = .ok (.iload_n 1, 1) := by decide +kernel
theorem dX2_fits_18 : decode cX2_fits 18 = .ok (.invokevirtual 53, 3) := by decide +kernel
theorem dX2_fits_21 : decode cX2_fits 21 = .ok (.if_icmp .lt 7, 3) := by decide +kernel
theorem dX2_fits_24 : decode cX2_fits 24 = .ok (.iconst 1, 1) := by decide +kernel
theorem dX2_fits_25 : decode cX2_fits 25 = .ok (.goto 4, 3) := by decide +kernel
theorem dX2_fits_28 : decode cX2_fits 28 = .ok (.iconst 0, 1) := by decide +kernel
theorem dX2_fits_29 : decode cX2_fits 29 = .ok (.istore_n 3, 1) := by decide +kernel
theorem dX2_fits_30 : decode cX2_fits 30 = .ok (.iload_n 3, 1) := by decide +kernel
theorem dX2_fits_31 : decode cX2_fits 31 = .ok (.aload_n 0, 1) := by decide +kernel
theorem dX2_fits_32 : decode cX2_fits 32 = .ok (.getfield 14, 3) := by decide +kernel
theorem dX2_fits_35 : decode cX2_fits 35 = .ok (.iload_n 1, 1) := by decide +kernel
theorem dX2_fits_36 : decode cX2_fits 36 = .ok (.invokevirtual 53, 3) := by decide +kernel
theorem dX2_fits_39 : decode cX2_fits 39 = .ok (.ifCond .ne 7, 3) := by decide +kernel
theorem dX2_fits_42 : decode cX2_fits 42 = .ok (.iconst 1, 1) := by decide +kernel
theorem dX2_fits_43 : decode cX2_fits 43 = .ok (.goto 4, 3) := by decide +kernel
theorem dX2_fits_46 : decode cX2_fits 46 = .ok (.iconst 0, 1) := by decide +kernel
theorem dX2_fits_47 : decode cX2_fits 47 = .ok (.if_icmp .ne 7, 3) := by decide +kernel
theorem dX2_fits_50 : decode cX2_fits 50 = .ok (.iconst 1, 1) := by decide +kernel
theorem dX2_fits_51 : decode cX2_fits 51 = .ok (.goto 4, 3) := by decide +kernel
theorem dX2_fits_54 : decode cX2_fits 54 = .ok (.iconst 0, 1) := by decide +kernel
theorem dX2_fits_55 : decode cX2_fits 55 = .ok (.ireturn, 1) := by decide +kernel
theorem dX2_fitting_0 : decode cX2_fitting 0 = .ok (.ldc 70, 2) := by decide +kernel
theorem dX2_fitting_2 : decode cX2_fitting 2 = .ok (.istore_n 1, 1) := by decide +kernel
theorem dX2_fitting_3 : decode cX2_fitting 3 = .ok (.iconst 0, 1) := by decide +kernel
theorem dX2_fitting_4 : decode cX2_fitting 4 = .ok (.istore_n 2, 1) := by decide +kernel
theorem dX2_fitting_5 : decode cX2_fitting 5 = .ok (.iload_n 2, 1) := by decide +kernel
theorem dX2_fitting_6 : decode cX2_fitting 6 = .ok (.aload_n 0, 1) := by decide +kernel
theorem dX2_fitting_7 : decode cX2_fitting 7 = .ok (.invokevirtual 49, 3) := by decide +kernel
theorem dX2_fitting_10 : decode cX2_fitting 10 = .ok (.if_icmp .ge 48, 3) := by decide +kernel
theorem dX2_fitting_13 : decode cX2_fitting 13 = .ok (.iconst 0, 1) := by decide +kernel
theorem dX2_fitting_14 : decode cX2_fitting 14 = .ok (.istore_n 3, 1) := by decide +kernel
theorem dX2_fitting_15 : decode cX2_fitting 15 = .ok (.iload_n 3, 1) := by decide +kernel
theorem dX2_fitting_16 : decode cX2_fitting 16 = .ok (.bipush 24, 2) := by decide +kernel
theorem dX2_fitting_18 : decode cX2_fitting 18 = .ok (.if_icmp .ge 34, 3) := by decide +kernel
theorem dX2_fitting_21 : decode cX2_fitting 21 = .ok (.aload_n 0, 1) := by decide +kernel
theorem dX2_fitting_22 : decode cX2_fitting 22 = .ok (.iload_n 2, 1) := by decide +kernel
theorem dX2_fitting_23 : decode cX2_fitting 23 = .ok (.invokevirtual 57, 3) := by decide +kernel
theorem dX2_fitting_26 : decode cX2_fitting 26 = .ok (.ifCond .eq 20, 3) := by decide +kernel
theorem dX2_fitting_29 : decode cX2_fitting 29 = .ok (.aload_n 0, 1) := by decide +kernel
theorem dX2_fitting_30 : decode cX2_fitting 30 = .ok (.iload_n 2, 1) := by decide +kernel
theorem dX2_fitting_31 : decode cX2_fitting 31 = .ok (.iload_n 3, 1) := by decide +kernel
theorem dX2_fitting_32 : decode cX2_fitting 32 = .ok (.invokevirtual 71, 3) := by decide +kernel
theorem dX2_fitting_35 : decode cX2_fitting 35 = .ok (.ifCond .ne 11, 3) := by decide +kernel
theorem dX2_fitting_38 : decode cX2_fitting 38 = .ok (.iload_n 1, 1) := by decide +kernel
theorem dX2_fitting_39 : decode cX2_fitting 39 = .ok (.iconst 1, 1) := by decide +kernel
theorem dX2_fitting_40 : decode cX2_fitting 40 = .ok (.iload_n 3, 1) := by decide +kernel
theorem dX2_fitting_41 : decode cX2_fitting 41 = .ok (.ishl, 1) := by decide +kernel
theorem dX2_fitting_42 : decode cX2_fitting 42 = .ok (.iconst (-1), 1) := by decide +kernel
theorem dX2_fitting_43 : decode cX2_fitting 43 = .ok (.ixor, 1) := by decide +kernel
theorem dX2_fitting_44 : decode cX2_fitting 44 = .ok (.iand, 1) := by decide +kernel
theorem dX2_fitting_45 : decode cX2_fitting 45 = .ok (.istore_n 1, 1) := by decide +kernel
theorem dX2_fitting_46 : decode cX2_fitting 46 = .ok (.iinc 3 1, 3) := by decide +kernel
theorem dX2_fitting_49 : decode cX2_fitting 49 = .ok (.goto (-34), 3) := by decide +kernel
theorem dX2_fitting_52 : decode cX2_fitting 52 = .ok (.iinc 2 1, 3) := by decide +kernel
theorem dX2_fitting_55 : decode cX2_fitting 55 = .ok (.goto (-50), 3) := by decide +kernel
theorem dX2_fitting_58 : decode cX2_fitting 58 = .ok (.iload_n 1, 1) := by decide +kernel
theorem dX2_fitting_59 : decode cX2_fitting 59 = .ok (.ireturn, 1) := by decide +kernel
theorem dX2_seekQuestion_0 : decode cX2_seekQuestion 0 = .ok (.aload_n 0, 1) := by decide +kernel
theorem dX2_seekQuestion_1 : decode cX2_seekQuestion 1 = .ok (.iconst 1, 1) := by decide +kernel
theorem dX2_seekQuestion_2 : decode cX2_seekQuestion 2 = .ok (.putfield 75, 3) := by decide +kernel
theorem dX2_seekQuestion_5 : decode cX2_seekQuestion 5 = .ok (.aload_n 0, 1) := by decide +kernel
theorem dX2_seekQuestion_6 : decode cX2_seekQuestion 6 = .ok (.aload_n 0, 1) := by decide +kernel
theorem dX2_seekQuestion_7 : decode cX2_seekQuestion 7 = .ok (.iconst 1, 1) := by decide +kernel
theorem dX2_seekQuestion_8 : decode cX2_seekQuestion 8 = .ok (.iload_n 1, 1) := by decide +kernel
theorem dX2_seekQuestion_9 : decode cX2_seekQuestion 9 = .ok (.invokevirtual 78, 3) := by decide +kernel
theorem dX2_seekQuestion_12 : decode cX2_seekQuestion 12 = .ok (.putfield 81, 3) := by decide +kernel
theorem dX2_seekQuestion_15 : decode cX2_seekQuestion 15 = .ok (.iconst 2, 1) := by decide +kernel
theorem dX2_seekQuestion_16 : decode cX2_seekQuestion 16 = .ok (.istore_n 2, 1) := by decide +kernel
theorem dX2_seekQuestion_17 : decode cX2_seekQuestion 17 = .ok (.iload_n 2, 1) := by decide +kernel
theorem dX2_seekQuestion_18 : decode cX2_seekQuestion 18 = .ok (.bipush 60, 2) := by decide +kernel
theorem dX2_seekQuestion_20 : decode cX2_seekQuestion 20 = .ok (.if_icmp .gt 34, 3) := by decide +kernel
theorem dX2_seekQuestion_23 : decode cX2_seekQuestion 23 = .ok (.aload_n 0, 1) := by decide +kernel
theorem dX2_seekQuestion_24 : decode cX2_seekQuestion 24 = .ok (.iload_n 2, 1) := by decide +kernel
theorem dX2_seekQuestion_25 : decode cX2_seekQuestion 25 = .ok (.iload_n 1, 1) := by decide +kernel
theorem dX2_seekQuestion_26 : decode cX2_seekQuestion 26 = .ok (.invokevirtual 78, 3) := by decide +kernel
theorem dX2_seekQuestion_29 : decode cX2_seekQuestion 29 = .ok (.istore_n 3, 1) := by decide +kernel
theorem dX2_seekQuestion_30 : decode cX2_seekQuestion 30 = .ok (.iload_n 3, 1) := by decide +kernel
theorem dX2_seekQuestion_31 : decode cX2_seekQuestion 31 = .ok (.aload_n 0, 1) := by decide +kernel
theorem dX2_seekQuestion_32 : decode cX2_seekQuestion 32 = .ok (.getfield 81, 3) := by decide +kernel
theorem dX2_seekQuestion_35 : decode cX2_seekQuestion 35 = .ok (.if_icmp .ge 13, 3) := by decide +kernel
theorem dX2_seekQuestion_38 : decode cX2_seekQuestion 38 = .ok (.aload_n 0, 1) := by decide +kernel
theorem dX2_seekQuestion_39 : decode cX2_seekQuestion 39 = .ok (.iload_n 2, 1) := by decide +kernel
theorem dX2_seekQuestion_40 : decode cX2_seekQuestion 40 = .ok (.putfield 75, 3) := by decide +kernel
theorem dX2_seekQuestion_43 : decode cX2_seekQuestion 43 = .ok (.aload_n 0, 1) := by decide +kernel
theorem dX2_seekQuestion_44 : decode cX2_seekQuestion 44 = .ok (.iload_n 3, 1) := by decide +kernel
theorem dX2_seekQuestion_45 : decode cX2_seekQuestion 45 = .ok (.putfield 81, 3) := by decide +kernel
theorem dX2_seekQuestion_48 : decode cX2_seekQuestion 48 = .ok (.iinc 2 1, 3) := by decide +kernel
theorem dX2_seekQuestion_51 : decode cX2_seekQuestion 51 = .ok (.goto (-34), 3) := by decide +kernel
theorem dX2_seekQuestion_54 : decode cX2_seekQuestion 54 = .ok (.return_, 1) := by decide +kernel
theorem dX2_worstOf_0 : decode cX2_worstOf 0 = .ok (.aload_n 0, 1) := by decide +kernel
theorem dX2_worstOf_1 : decode cX2_worstOf 1 = .ok (.getfield 32, 3) := by decide +kernel
theorem dX2_worstOf_4 : decode cX2_worstOf 4 = .ok (.iconst 0, 1) := by decide +kernel
theorem dX2_worstOf_5 : decode cX2_worstOf 5 = .ok (.invokevirtual 46, 3) := by decide +kernel
theorem dX2_worstOf_8 : decode cX2_worstOf 8 = .ok (.iconst 0, 1) := by decide +kernel
theorem dX2_worstOf_9 : decode cX2_worstOf 9 = .ok (.istore_n 3, 1) := by decide +kernel
theorem dX2_worstOf_10 : decode cX2_worstOf 10 = .ok (.iconst 0, 1) := by decide +kernel
theorem dX2_worstOf_11 : decode cX2_worstOf 11 = .ok (.istore 4, 2) := by decide +kernel
theorem dX2_worstOf_13 : decode cX2_worstOf 13 = .ok (.iload 4, 2) := by decide +kernel
theorem dX2_worstOf_15 : decode cX2_worstOf 15 = .ok (.bipush 24, 2) := by decide +kernel
theorem dX2_worstOf_17 : decode cX2_worstOf 17 = .ok (.if_icmp .ge 62, 3) := by decide +kernel
theorem dX2_worstOf_20 : decode cX2_worstOf 20 = .ok (.iload_n 2, 1) := by decide +kernel
theorem dX2_worstOf_21 : decode cX2_worstOf 21 = .ok (.iload 4, 2) := by decide +kernel
theorem dX2_worstOf_23 : decode cX2_worstOf 23 = .ok (.ishr, 1) := by decide +kernel
theorem dX2_worstOf_24 : decode cX2_worstOf 24 = .ok (.iconst 1, 1) := by decide +kernel
theorem dX2_worstOf_25 : decode cX2_worstOf 25 = .ok (.iand, 1) := by decide +kernel
theorem dX2_worstOf_26 : decode cX2_worstOf 26 = .ok (.iconst 1, 1) := by decide +kernel
theorem dX2_worstOf_27 : decode cX2_worstOf 27 = .ok (.if_icmp .ne 46, 3) := by decide +kernel
theorem dX2_worstOf_30 : decode cX2_worstOf 30 = .ok (.aload_n 0, 1) := by decide +kernel
theorem dX2_worstOf_31 : decode cX2_worstOf 31 = .ok (.iload_n 1, 1) := by decide +kernel
theorem dX2_worstOf_32 : decode cX2_worstOf 32 = .ok (.iload 4, 2) := by decide +kernel
theorem dX2_worstOf_34 : decode cX2_worstOf 34 = .ok (.invokevirtual 67, 3) := by decide +kernel
theorem dX2_worstOf_37 : decode cX2_worstOf 37 = .ok (.istore 5, 2) := by decide +kernel
theorem dX2_worstOf_39 : decode cX2_worstOf 39 = .ok (.aload_n 0, 1) := by decide +kernel
theorem dX2_worstOf_40 : decode cX2_worstOf 40 = .ok (.getfield 32, 3) := by decide +kernel
theorem dX2_worstOf_43 : decode cX2_worstOf 43 = .ok (.iload 5, 2) := by decide +kernel
theorem dX2_worstOf_45 : decode cX2_worstOf 45 = .ok (.aload_n 0, 1) := by decide +kernel
theorem dX2_worstOf_46 : decode cX2_worstOf 46 = .ok (.getfield 32, 3) := by decide +kernel
theorem dX2_worstOf_49 : decode cX2_worstOf 49 = .ok (.iload 5, 2) := by decide +kernel
theorem dX2_worstOf_51 : decode cX2_worstOf 51 = .ok (.invokevirtual 53, 3) := by decide +kernel
theorem dX2_worstOf_54 : decode cX2_worstOf 54 = .ok (.iconst 1, 1) := by decide +kernel
theorem dX2_worstOf_55 : decode cX2_worstOf 55 = .ok (.iadd, 1) := by decide +kernel
theorem dX2_worstOf_56 : decode cX2_worstOf 56 = .ok (.invokevirtual 42, 3) := by decide +kernel
theorem dX2_worstOf_59 : decode cX2_worstOf 59 = .ok (.iload_n 3, 1) := by decide +kernel
theorem dX2_worstOf_60 : decode cX2_worstOf 60 = .ok (.aload_n 0, 1) := by decide +kernel
theorem dX2_worstOf_61 : decode cX2_worstOf 61 = .ok (.getfield 32, 3) := by decide +kernel
theorem dX2_worstOf_64 : decode cX2_worstOf 64 = .ok (.iload 5, 2) := by decide +kernel
theorem dX2_worstOf_66 : decode cX2_worstOf 66 = .ok (.invokevirtual 53, 3) := by decide +kernel
theorem dX2_worstOf_69 : decode cX2_worstOf 69 = .ok (.invokestatic 61, 3) := by decide +kernel
theorem dX2_worstOf_72 : decode cX2_worstOf 72 = .ok (.istore_n 3, 1) := by decide +kernel
theorem dX2_worstOf_73 : decode cX2_worstOf 73 = .ok (.iinc 4 1, 3) := by decide +kernel
theorem dX2_worstOf_76 : decode cX2_worstOf 76 = .ok (.goto (-63), 3) := by decide +kernel
theorem dX2_worstOf_79 : decode cX2_worstOf 79 = .ok (.iload_n 3, 1) := by decide +kernel
theorem dX2_worstOf_80 : decode cX2_worstOf 80 = .ok (.ireturn, 1) := by decide +kernel
theorem dX3_init_0 : decode cX3_init 0 = .ok (.aload_n 0, 1) := by decide +kernel
theorem dX3_init_1 : decode cX3_init 1 = .ok (.invokespecial 3, 3) := by decide +kernel
theorem dX3_init_4 : decode cX3_init 4 = .ok (.aload_n 0, 1) := by decide +kernel
theorem dX3_init_5 : decode cX3_init 5 = .ok (.new 9, 3) := by decide +kernel
theorem dX3_init_8 : decode cX3_init 8 = .ok (.dup, 1) := by decide +kernel
theorem dX3_init_9 : decode cX3_init 9 = .ok (.invokespecial 11, 3) := by decide +kernel
theorem dX3_init_12 : decode cX3_init 12 = .ok (.putfield 12, 3) := by decide +kernel
theorem dX3_init_15 : decode cX3_init 15 = .ok (.aload_n 0, 1) := by decide +kernel
theorem dX3_init_16 : decode cX3_init 16 = .ok (.new 18, 3) := by decide +kernel
theorem dX3_init_19 : decode cX3_init 19 = .ok (.dup, 1) := by decide +kernel
theorem dX3_init_20 : decode cX3_init 20 = .ok (.invokespecial 20, 3) := by decide +kernel
theorem dX3_init_23 : decode cX3_init 23 = .ok (.putfield 21, 3) := by decide +kernel
theorem dX3_init_26 : decode cX3_init 26 = .ok (.aload_n 0, 1) := by decide +kernel
theorem dX3_init_27 : decode cX3_init 27 = .ok (.new 25, 3) := by decide +kernel
theorem dX3_init_30 : decode cX3_init 30 = .ok (.dup, 1) := by decide +kernel
theorem dX3_init_31 : decode cX3_init 31 = .ok (.bipush 72, 2) := by decide +kernel
theorem dX3_init_33 : decode cX3_init 33 = .ok (.invokespecial 27, 3) := by decide +kernel
theorem dX3_init_36 : decode cX3_init 36 = .ok (.putfield 30, 3) := by decide +kernel
theorem dX3_init_39 : decode cX3_init 39 = .ok (.return_, 1) := by decide +kernel
theorem dX3_reads_0 : decode cX3_reads 0 = .ok (.aload_n 0, 1) := by decide +kernel
theorem dX3_reads_1 : decode cX3_reads 1 = .ok (.aload_n 3, 1) := by decide +kernel
theorem dX3_reads_2 : decode cX3_reads 2 = .ok (.putfield 21, 3) := by decide +kernel
theorem dX3_reads_5 : decode cX3_reads 5 = .ok (.aload_n 0, 1) := by decide +kernel
theorem dX3_reads_6 : decode cX3_reads 6 = .ok (.getfield 21, 3) := by decide +kernel
theorem dX3_reads_9 : decode cX3_reads 9 = .ok (.invokevirtual 34, 3) := by decide +kernel
theorem dX3_reads_12 : decode cX3_reads 12 = .ok (.aload_n 0, 1) := by decide +kernel
theorem dX3_reads_13 : decode cX3_reads 13 = .ok (.iconst 0, 1) := by decide +kernel
theorem dX3_reads_14 : decode cX3_reads 14 = .ok (.putfield 37, 3) := by decide +kernel
theorem dX3_reads_17 : decode cX3_reads 17 = .ok (.aload_n 0, 1) := by decide +kernel
theorem dX3_reads_18 : decode cX3_reads 18 = .ok (.iconst 0, 1) := by decide +kernel
theorem dX3_reads_19 : decode cX3_reads 19 = .ok (.putfield 41, 3) := by decide +kernel
theorem dX3_reads_22 : decode cX3_reads 22 = .ok (.aload_n 0, 1) := by decide +kernel
theorem dX3_reads_23 : decode cX3_reads 23 = .ok (.iconst 0, 1) := by decide +kernel
theorem dX3_reads_24 : decode cX3_reads 24 = .ok (.putfield 45, 3) := by decide +kernel
theorem dX3_reads_27 : decode cX3_reads 27 = .ok (.aload_n 0, 1) := by decide +kernel
theorem dX3_reads_28 : decode cX3_reads 28 = .ok (.iconst 0, 1) := by decide +kernel
theorem dX3_reads_29 : decode cX3_reads 29 = .ok (.putfield 48, 3) := by decide +kernel
theorem dX3_reads_32 : decode cX3_reads 32 = .ok (.aload_n 0, 1) := by decide +kernel
theorem dX3_reads_33 : decode cX3_reads 33 = .ok (.getfield 12, 3) := by decide +kernel
theorem dX3_reads_36 : decode cX3_reads 36 = .ok (.aload_n 1, 1) := by decide +kernel
theorem dX3_reads_37 : decode cX3_reads 37 = .ok (.iload_n 2, 1) := by decide +kernel
theorem dX3_reads_38 : decode cX3_reads 38 = .ok (.invokevirtual 51, 3) := by decide +kernel
theorem dX3_reads_41 : decode cX3_reads 41 = .ok (.iconst 0, 1) := by decide +kernel
theorem dX3_reads_42 : decode cX3_reads 42 = .ok (.istore 4, 2) := by decide +kernel
theorem dX3_reads_44 : decode cX3_reads 44 = .ok (.iload 4, 2) := by decide +kernel
theorem dX3_reads_46 : decode cX3_reads 46 = .ok (.iload_n 2, 1) := by decide +kernel
theorem dX3_reads_47 : decode cX3_reads 47 = .ok (.if_icmp .ge 41, 3) := by decide +kernel
theorem dX3_reads_50 : decode cX3_reads 50 = .ok (.aload_n 0, 1) := by decide +kernel
theorem dX3_reads_51 : decode cX3_reads 51 = .ok (.getfield 12, 3) := by decide +kernel
theorem dX3_reads_54 : decode cX3_reads 54 = .ok (.getfield 55, 3) := by decide +kernel
theorem dX3_reads_57 : decode cX3_reads 57 = .ok (.ifCond .eq 31, 3) := by decide +kernel
theorem dX3_reads_60 : decode cX3_reads 60 = .ok (.aload_n 0, 1) := by decide +kernel
theorem dX3_reads_61 : decode cX3_reads 61 = .ok (.invokevirtual 58, 3) := by decide +kernel
theorem dX3_reads_64 : decode cX3_reads 64 = .ok (.ifCond .ne 5, 3) := by decide +kernel
theorem dX3_reads_67 : decode cX3_reads 67 = .ok (.iconst 0, 1) := by decide +kernel
theorem dX3_reads_68 : decode cX3_reads 68 = .ok (.ireturn, 1) := by decide +kernel
theorem dX3_reads_69 : decode cX3_reads 69 = .ok (.aload_n 0, 1) := by decide +kernel
theorem dX3_reads_70 : decode cX3_reads 70 = .ok (.getfield 21, 3) := by decide +kernel
theorem dX3_reads_73 : decode cX3_reads 73 = .ok (.dup, 1) := by decide +kernel
theorem dX3_reads_74 : decode cX3_reads 74 = .ok (.getfield 62, 3) := by decide +kernel
theorem dX3_reads_77 : decode cX3_reads 77 = .ok (.iconst 1, 1) := by decide +kernel
theorem dX3_reads_78 : decode cX3_reads 78 = .ok (.iadd, 1) := by decide +kernel
theorem dX3_reads_79 : decode cX3_reads 79 = .ok (.putfield 62, 3) := by decide +kernel
theorem dX3_reads_82 : decode cX3_reads 82 = .ok (.iinc 4 1, 3) := by decide +kernel
theorem dX3_reads_85 : decode cX3_reads 85 = .ok (.goto (-41), 3) := by decide +kernel
theorem dX3_reads_88 : decode cX3_reads 88 = .ok (.iconst 1, 1) := by decide +kernel
theorem dX3_reads_89 : decode cX3_reads 89 = .ok (.ireturn, 1) := by decide +kernel
theorem dX3_fails_0 : decode cX3_fails 0 = .ok (.aload_n 0, 1) := by decide +kernel
theorem dX3_fails_1 : decode cX3_fails 1 = .ok (.iload_n 1, 1) := by decide +kernel
theorem dX3_fails_2 : decode cX3_fails 2 = .ok (.putfield 37, 3) := by decide +kernel
theorem dX3_fails_5 : decode cX3_fails 5 = .ok (.aload_n 0, 1) := by decide +kernel
theorem dX3_fails_6 : decode cX3_fails 6 = .ok (.aload_n 0, 1) := by decide +kernel
theorem dX3_fails_7 : decode cX3_fails 7 = .ok (.getfield 12, 3) := by decide +kernel
theorem dX3_fails_10 : decode cX3_fails 10 = .ok (.getfield 65, 3) := by decide +kernel
theorem dX3_fails_13 : decode cX3_fails 13 = .ok (.putfield 68, 3) := by decide +kernel
theorem dX3_fails_16 : decode cX3_fails 16 = .ok (.iconst 0, 1) := by decide +kernel
theorem dX3_fails_17 : decode cX3_fails 17 = .ok (.ireturn, 1) := by decide +kernel
theorem dX3_line_0 : decode cX3_line 0 = .ok (.aload_n 0, 1) := by decide +kernel
theorem dX3_line_1 : decode cX3_line 1 = .ok (.getfield 12, 3) := by decide +kernel
theorem dX3_line_4 : decode cX3_line 4 = .ok (.getfield 55, 3) := by decide +kernel
theorem dX3_line_7 : decode cX3_line 7 = .ok (.iconst 3, 1) := by decide +kernel
theorem dX3_line_8 : decode cX3_line 8 = .ok (.if_icmp .eq 9, 3) := by decide +kernel
theorem dX3_line_11 : decode cX3_line 11 = .ok (.aload_n 0, 1) := by decide +kernel
theorem dX3_line_12 : decode cX3_line 12 = .ok (.iconst 1, 1) := by decide +kernel
theorem dX3_line_13 : decode cX3_line 13 = .ok (.invokevirtual 69, 3) := by decide +kernel
theorem dX3_line_16 : decode cX3_line 16 = .ok (.ireturn, 1) := by decide +kernel
theorem dX3_line_17 : decode cX3_line 17 = .ok (.aload_n 0, 1) := by decide +kernel
theorem dX3_line_18 : decode cX3_line 18 = .ok (.getfield 12, 3) := by decide +kernel
theorem dX3_line_21 : decode cX3_line 21 = .ok (.getfield 73, 3) := by decide +kernel
theorem dX3_line_24 : decode cX3_line 24 = .ok (.tableswitch 184 0 6 #[44, 64, 84, 104, 124, 144, 164], 44) := by decide +kernel
theorem dX3_line_68 : decode cX3_line 68 = .ok (.aload_n 0, 1) := by decide +kernel
theorem dX3_line_69 : decode cX3_line 69 = .ok (.invokevirtual 76, 3) := by decide +kernel
theorem dX3_line_72 : decode cX3_line 72 = .ok (.ifCond .eq 14, 3) := by decide +kernel
theorem dX3_line_75 : decode cX3_line 75 = .ok (.aload_n 0, 1) := by decide +kernel
theorem dX3_line_76 : decode cX3_line 76 = .ok (.invokevirtual 79, 3) := by decide +kernel
theorem dX3_line_79 : decode cX3_line 79 = .ok (.ifCond .eq 7, 3) := by decide +kernel
theorem dX3_line_82 : decode cX3_line 82 = .ok (.iconst 1, 1) := by decide +kernel
theorem dX3_line_83 : decode cX3_line 83 = .ok (.goto 4, 3) := by decide +kernel
theorem dX3_line_86 : decode cX3_line 86 = .ok (.iconst 0, 1) := by decide +kernel
theorem dX3_line_87 : decode cX3_line 87 = .ok (.ireturn, 1) := by decide +kernel
theorem dX3_line_88 : decode cX3_line 88 = .ok (.aload_n 0, 1) := by decide +kernel
theorem dX3_line_89 : decode cX3_line 89 = .ok (.invokevirtual 82, 3) := by decide +kernel
theorem dX3_line_92 : decode cX3_line 92 = .ok (.ifCond .eq 14, 3) := by decide +kernel
theorem dX3_line_95 : decode cX3_line 95 = .ok (.aload_n 0, 1) := by decide +kernel
theorem dX3_line_96 : decode cX3_line 96 = .ok (.invokevirtual 79, 3) := by decide +kernel
theorem dX3_line_99 : decode cX3_line 99 = .ok (.ifCond .eq 7, 3) := by decide +kernel
theorem dX3_line_102 : decode cX3_line 102 = .ok (.iconst 1, 1) := by decide +kernel
theorem dX3_line_103 : decode cX3_line 103 = .ok (.goto 4, 3) := by decide +kernel
theorem dX3_line_106 : decode cX3_line 106 = .ok (.iconst 0, 1) := by decide +kernel
theorem dX3_line_107 : decode cX3_line 107 = .ok (.ireturn, 1) := by decide +kernel
theorem dX3_line_108 : decode cX3_line 108 = .ok (.aload_n 0, 1) := by decide +kernel
theorem dX3_line_109 : decode cX3_line 109 = .ok (.invokevirtual 85, 3) := by decide +kernel
theorem dX3_line_112 : decode cX3_line 112 = .ok (.ifCond .eq 14, 3) := by decide +kernel
theorem dX3_line_115 : decode cX3_line 115 = .ok (.aload_n 0, 1) := by decide +kernel
theorem dX3_line_116 : decode cX3_line 116 = .ok (.invokevirtual 79, 3) := by decide +kernel
theorem dX3_line_119 : decode cX3_line 119 = .ok (.ifCond .eq 7, 3) := by decide +kernel
theorem dX3_line_122 : decode cX3_line 122 = .ok (.iconst 1, 1) := by decide +kernel
theorem dX3_line_123 : decode cX3_line 123 = .ok (.goto 4, 3) := by decide +kernel
theorem dX3_line_126 : decode cX3_line 126 = .ok (.iconst 0, 1) := by decide +kernel
theorem dX3_line_127 : decode cX3_line 127 = .ok (.ireturn, 1) := by decide +kernel
theorem dX3_line_128 : decode cX3_line 128 = .ok (.aload_n 0, 1) := by decide +kernel
theorem dX3_line_129 : decode cX3_line 129 = .ok (.invokevirtual 88, 3) := by decide +kernel
theorem dX3_line_132 : decode cX3_line 132 = .ok (.ifCond .eq 14, 3) := by decide +kernel
theorem dX3_line_135 : decode cX3_line 135 = .ok (.aload_n 0, 1) := by decide +kernel
theorem dX3_line_136 : decode cX3_line 136 = .ok (.invokevirtual 79, 3) := by decide +kernel
theorem dX3_line_139 : decode cX3_line 139 = .ok (.ifCond .eq 7, 3) := by decide +kernel
theorem dX3_line_142 : decode cX3_line 142 = .ok (.iconst 1, 1) := by decide +kernel
theorem dX3_line_143 : decode cX3_line 143 = .ok (.goto 4, 3) := by decide +kernel
theorem dX3_line_146 : decode cX3_line 146 = .ok (.iconst 0, 1) := by decide +kernel
theorem dX3_line_147 : decode cX3_line 147 = .ok (.ireturn, 1) := by decide +kernel
theorem dX3_line_148 : decode cX3_line 148 = .ok (.aload_n 0, 1) := by decide +kernel
theorem dX3_line_149 : decode cX3_line 149 = .ok (.invokevirtual 91, 3) := by decide +kernel
theorem dX3_line_152 : decode cX3_line 152 = .ok (.ifCond .eq 14, 3) := by decide +kernel
theorem dX3_line_155 : decode cX3_line 155 = .ok (.aload_n 0, 1) := by decide +kernel
theorem dX3_line_156 : decode cX3_line 156 = .ok (.invokevirtual 79, 3) := by decide +kernel
theorem dX3_line_159 : decode cX3_line 159 = .ok (.ifCond .eq 7, 3) := by decide +kernel
theorem dX3_line_162 : decode cX3_line 162 = .ok (.iconst 1, 1) := by decide +kernel
theorem dX3_line_163 : decode cX3_line 163 = .ok (.goto 4, 3) := by decide +kernel
theorem dX3_line_166 : decode cX3_line 166 = .ok (.iconst 0, 1) := by decide +kernel
theorem dX3_line_167 : decode cX3_line 167 = .ok (.ireturn, 1) := by decide +kernel
theorem dX3_line_168 : decode cX3_line 168 = .ok (.aload_n 0, 1) := by decide +kernel
theorem dX3_line_169 : decode cX3_line 169 = .ok (.invokevirtual 94, 3) := by decide +kernel
theorem dX3_line_172 : decode cX3_line 172 = .ok (.ifCond .eq 14, 3) := by decide +kernel
theorem dX3_line_175 : decode cX3_line 175 = .ok (.aload_n 0, 1) := by decide +kernel
theorem dX3_line_176 : decode cX3_line 176 = .ok (.invokevirtual 79, 3) := by decide +kernel
theorem dX3_line_179 : decode cX3_line 179 = .ok (.ifCond .eq 7, 3) := by decide +kernel
theorem dX3_line_182 : decode cX3_line 182 = .ok (.iconst 1, 1) := by decide +kernel
theorem dX3_line_183 : decode cX3_line 183 = .ok (.goto 4, 3) := by decide +kernel
theorem dX3_line_186 : decode cX3_line 186 = .ok (.iconst 0, 1) := by decide +kernel
theorem dX3_line_187 : decode cX3_line 187 = .ok (.ireturn, 1) := by decide +kernel
theorem dX3_line_188 : decode cX3_line 188 = .ok (.aload_n 0, 1) := by decide +kernel
theorem dX3_line_189 : decode cX3_line 189 = .ok (.invokevirtual 97, 3) := by decide +kernel
theorem dX3_line_192 : decode cX3_line 192 = .ok (.ifCond .eq 14, 3) := by decide +kernel
theorem dX3_line_195 : decode cX3_line 195 = .ok (.aload_n 0, 1) := by decide +kernel
theorem dX3_line_196 : decode cX3_line 196 = .ok (.invokevirtual 79, 3) := by decide +kernel
theorem dX3_line_199 : decode cX3_line 199 = .ok (.ifCond .eq 7, 3) := by decide +kernel
theorem dX3_line_202 : decode cX3_line 202 = .ok (.iconst 1, 1) := by decide +kernel
theorem dX3_line_203 : decode cX3_line 203 = .ok (.goto 4, 3) := by decide +kernel
theorem dX3_line_206 : decode cX3_line 206 = .ok (.iconst 0, 1) := by decide +kernel
theorem dX3_line_207 : decode cX3_line 207 = .ok (.ireturn, 1) := by decide +kernel
theorem dX3_line_208 : decode cX3_line 208 = .ok (.aload_n 0, 1) := by decide +kernel
theorem dX3_line_209 : decode cX3_line 209 = .ok (.iconst 1, 1) := by decide +kernel
theorem dX3_line_210 : decode cX3_line 210 = .ok (.invokevirtual 69, 3) := by decide +kernel
theorem dX3_line_213 : decode cX3_line 213 = .ok (.ireturn, 1) := by decide +kernel
theorem dX3_ends_0 : decode cX3_ends 0 = .ok (.aload_n 0, 1) := by decide +kernel
theorem dX3_ends_1 : decode cX3_ends 1 = .ok (.getfield 12, 3) := by decide +kernel
theorem dX3_ends_4 : decode cX3_ends 4 = .ok (.getfield 55, 3) := by decide +kernel
theorem dX3_ends_7 : decode cX3_ends 7 = .ok (.iconst 5, 1) := by decide +kernel
theorem dX3_ends_8 : decode cX3_ends 8 = .ok (.if_icmp .eq 9, 3) := by decide +kernel
theorem dX3_ends_11 : decode cX3_ends 11 = .ok (.aload_n 0, 1) := by decide +kernel
theorem dX3_ends_12 : decode cX3_ends 12 = .ok (.iconst 1, 1) := by decide +kernel
theorem dX3_ends_13 : decode cX3_ends 13 = .ok (.invokevirtual 69, 3) := by decide +kernel
theorem dX3_ends_16 : decode cX3_ends 16 = .ok (.ireturn, 1) := by decide +kernel
theorem dX3_ends_17 : decode cX3_ends 17 = .ok (.aload_n 0, 1) := by decide +kernel
theorem dX3_ends_18 : decode cX3_ends 18 = .ok (.getfield 12, 3) := by decide +kernel
theorem dX3_ends_21 : decode cX3_ends 21 = .ok (.invokevirtual 100, 3) := by decide +kernel
theorem dX3_ends_24 : decode cX3_ends 24 = .ok (.iconst 1, 1) := by decide +kernel
theorem dX3_ends_25 : decode cX3_ends 25 = .ok (.ireturn, 1) := by decide +kernel
theorem dX3_isNewName_0 : decode cX3_isNewName 0 = .ok (.aload_n 0, 1) := by decide +kernel
theorem dX3_isNewName_1 : decode cX3_isNewName 1 = .ok (.getfield 12, 3) := by decide +kernel
theorem dX3_isNewName_4 : decode cX3_isNewName 4 = .ok (.getfield 55, 3) := by decide +kernel
theorem dX3_isNewName_7 : decode cX3_isNewName 7 = .ok (.iconst 2, 1) := by decide +kernel
theorem dX3_isNewName_8 : decode cX3_isNewName 8 = .ok (.if_icmp .eq 9, 3) := by decide +kernel
theorem dX3_isNewName_11 : decode cX3_isNewName 11 = .ok (.aload_n 0, 1) := by decide +kernel
theorem dX3_isNewName_12 : decode cX3_isNewName 12 = .ok (.iconst 1, 1) := by decide +kernel
theorem dX3_isNewName_13 : decode cX3_isNewName 13 = .ok (.invokevirtual 69, 3) := by decide +kernel
theorem dX3_isNewName_16 : decode cX3_isNewName 16 = .ok (.ireturn, 1) := by decide +kernel
theorem dX3_isNewName_17 : decode cX3_isNewName 17 = .ok (.aload_n 0, 1) := by decide +kernel
theorem dX3_isNewName_18 : decode cX3_isNewName 18 = .ok (.getfield 12, 3) := by decide +kernel
theorem dX3_isNewName_21 : decode cX3_isNewName 21 = .ok (.getfield 73, 3) := by decide +kernel
theorem dX3_isNewName_24 : decode cX3_isNewName 24 = .ok (.istore_n 2, 1) := by decide +kernel
theorem dX3_isNewName_25 : decode cX3_isNewName 25 = .ok (.iload_n 1, 1) := by decide +kernel
theorem dX3_isNewName_26 : decode cX3_isNewName 26 = .ok (.ifCond .ne 14, 3) := by decide +kernel
theorem dX3_isNewName_29 : decode cX3_isNewName 29 = .ok (.aload_n 0, 1) := by decide +kernel
theorem dX3_isNewName_30 : decode cX3_isNewName 30 = .ok (.getfield 21, 3) := by decide +kernel
theorem dX3_isNewName_33 : decode cX3_isNewName 33 = .ok (.iload_n 2, 1) := by decide +kernel
theorem dX3_isNewName_34 : decode cX3_isNewName 34 = .ok (.invokevirtual 103, 3) := by decide +kernel
theorem dX3_isNewName_37 : decode cX3_isNewName 37 = .ok (.goto 11, 3) := by decide +kernel
theorem dX3_isNewName_40 : decode cX3_isNewName 40 = .ok (.aload_n 0, 1) := by decide +kernel
theorem dX3_isNewName_41 : decode cX3_isNewName 41 = .ok (.getfield 21, 3) := by decide +kernel
theorem dX3_isNewName_44 : decode cX3_isNewName 44 = .ok (.iload_n 2, 1) := by decide +kernel
theorem dX3_isNewName_45 : decode cX3_isNewName 45 = .ok (.invokevirtual 107, 3) := by decide +kernel
theorem dX3_isNewName_48 : decode cX3_isNewName 48 = .ok (.istore_n 3, 1) := by decide +kernel
theorem dX3_isNewName_49 : decode cX3_isNewName 49 = .ok (.iload_n 3, 1) := by decide +kernel
theorem dX3_isNewName_50 : decode cX3_isNewName 50 = .ok (.iconst (-1), 1) := by decide +kernel
theorem dX3_isNewName_51 : decode cX3_isNewName 51 = .ok (.if_icmp .eq 11, 3) := by decide +kernel
theorem dX3_isNewName_54 : decode cX3_isNewName 54 = .ok (.aload_n 0, 1) := by decide +kernel
theorem dX3_isNewName_55 : decode cX3_isNewName 55 = .ok (.iconst 3, 1) := by decide +kernel
theorem dX3_isNewName_56 : decode cX3_isNewName 56 = .ok (.invokevirtual 69, 3) := by decide +kernel
theorem dX3_isNewName_59 : decode cX3_isNewName 59 = .ok (.ifCond .eq 7, 3) := by decide +kernel
theorem dX3_isNewName_62 : decode cX3_isNewName 62 = .ok (.iconst 1, 1) := by decide +kernel
theorem dX3_isNewName_63 : decode cX3_isNewName 63 = .ok (.goto 4, 3) := by decide +kernel
theorem dX3_isNewName_66 : decode cX3_isNewName 66 = .ok (.iconst 0, 1) := by decide +kernel
theorem dX3_isNewName_67 : decode cX3_isNewName 67 = .ok (.ireturn, 1) := by decide +kernel
theorem dX3_isTrade_0 : decode cX3_isTrade 0 = .ok (.aload_n 0, 1) := by decide +kernel
theorem dX3_isTrade_1 : decode cX3_isTrade 1 = .ok (.getfield 12, 3) := by decide +kernel
theorem dX3_isTrade_4 : decode cX3_isTrade 4 = .ok (.getfield 55, 3) := by decide +kernel
theorem dX3_isTrade_7 : decode cX3_isTrade 7 = .ok (.iconst 2, 1) := by decide +kernel
theorem dX3_isTrade_8 : decode cX3_isTrade 8 = .ok (.if_icmp .eq 9, 3) := by decide +kernel
theorem dX3_isTrade_11 : decode cX3_isTrade 11 = .ok (.aload_n 0, 1) := by decide +kernel
theorem dX3_isTrade_12 : decode cX3_isTrade 12 = .ok (.iconst 1, 1) := by decide +kernel
theorem dX3_isTrade_13 : decode cX3_isTrade 13 = .ok (.invokevirtual 69, 3) := by decide +kernel
theorem dX3_isTrade_16 : decode cX3_isTrade 16 = .ok (.ireturn, 1) := by decide +kernel
theorem dX3_isTrade_17 : decode cX3_isTrade 17 = .ok (.aload_n 0, 1) := by decide +kernel
theorem dX3_isTrade_18 : decode cX3_isTrade 18 = .ok (.getfield 21, 3) := by decide +kernel
theorem dX3_isTrade_21 : decode cX3_isTrade 21 = .ok (.aload_n 0, 1) := by decide +kernel
theorem dX3_isTrade_22 : decode cX3_isTrade 22 = .ok (.getfield 12, 3) := by decide +kernel
theorem dX3_isTrade_25 : decode cX3_isTrade 25 = .ok (.getfield 73, 3) := by decide +kernel
theorem dX3_isTrade_28 : decode cX3_isTrade 28 = .ok (.invokevirtual 103, 3) := by decide +kernel
theorem dX3_isTrade_31 : decode cX3_isTrade 31 = .ok (.iconst (-1), 1) := by decide +kernel
theorem dX3_isTrade_32 : decode cX3_isTrade 32 = .ok (.if_icmp .ne 11, 3) := by decide +kernel
theorem dX3_isTrade_35 : decode cX3_isTrade 35 = .ok (.aload_n 0, 1) := by decide +kernel
theorem dX3_isTrade_36 : decode cX3_isTrade 36 = .ok (.iconst 4, 1) := by decide +kernel
theorem dX3_isTrade_37 : decode cX3_isTrade 37 = .ok (.invokevirtual 69, 3) := by decide +kernel
theorem dX3_isTrade_40 : decode cX3_isTrade 40 = .ok (.ifCond .eq 7, 3) := by decide +kernel
theorem dX3_isTrade_43 : decode cX3_isTrade 43 = .ok (.iconst 1, 1) := by decide +kernel
theorem dX3_isTrade_44 : decode cX3_isTrade 44 = .ok (.goto 4, 3) := by decide +kernel
theorem dX3_isTrade_47 : decode cX3_isTrade 47 = .ok (.iconst 0, 1) := by decide +kernel
theorem dX3_isTrade_48 : decode cX3_isTrade 48 = .ok (.ireturn, 1) := by decide +kernel
theorem dX3_isNumber_0 : decode cX3_isNumber 0 = .ok (.aload_n 0, 1) := by decide +kernel
theorem dX3_isNumber_1 : decode cX3_isNumber 1 = .ok (.getfield 12, 3) := by decide +kernel
theorem dX3_isNumber_4 : decode cX3_isNumber 4 = .ok (.getfield 55, 3) := by decide +kernel
theorem dX3_isNumber_7 : decode cX3_isNumber 7 = .ok (.iconst 4, 1) := by decide +kernel
theorem dX3_isNumber_8 : decode cX3_isNumber 8 = .ok (.if_icmp .eq 9, 3) := by decide +kernel
theorem dX3_isNumber_11 : decode cX3_isNumber 11 = .ok (.aload_n 0, 1) := by decide +kernel
theorem dX3_isNumber_12 : decode cX3_isNumber 12 = .ok (.iconst 1, 1) := by decide +kernel
theorem dX3_isNumber_13 : decode cX3_isNumber 13 = .ok (.invokevirtual 69, 3) := by decide +kernel
theorem dX3_isNumber_16 : decode cX3_isNumber 16 = .ok (.ireturn, 1) := by decide +kernel
theorem dX3_isNumber_17 : decode cX3_isNumber 17 = .ok (.aload_n 0, 1) := by decide +kernel
theorem dX3_isNumber_18 : decode cX3_isNumber 18 = .ok (.getfield 12, 3) := by decide +kernel
theorem dX3_isNumber_21 : decode cX3_isNumber 21 = .ok (.getfield 73, 3) := by decide +kernel
theorem dX3_isNumber_24 : decode cX3_isNumber 24 = .ok (.iload_n 1, 1) := by decide +kernel
theorem dX3_isNumber_25 : decode cX3_isNumber 25 = .ok (.if_icmp .lt 14, 3) := by decide +kernel
theorem dX3_isNumber_28 : decode cX3_isNumber 28 = .ok (.aload_n 0, 1) := by decide +kernel
theorem dX3_isNumber_29 : decode cX3_isNumber 29 = .ok (.getfield 12, 3) := by decide +kernel
theorem dX3_isNumber_32 : decode cX3_isNumber 32 = .ok (.getfield 73, 3) := by decide +kernel
theorem dX3_isNumber_35 : decode cX3_isNumber 35 = .ok (.iload_n 2, 1) := by decide +kernel
theorem dX3_isNumber_36 : decode cX3_isNumber 36 = .ok (.if_icmp .le 11, 3) := by decide +kernel
theorem dX3_isNumber_39 : decode cX3_isNumber 39 = .ok (.aload_n 0, 1) := by decide +kernel
theorem dX3_isNumber_40 : decode cX3_isNumber 40 = .ok (.iconst 2, 1) := by decide +kernel
theorem dX3_isNumber_41 : decode cX3_isNumber 41 = .ok (.invokevirtual 69, 3) := by decide +kernel
theorem dX3_isNumber_44 : decode cX3_isNumber 44 = .ok (.ifCond .eq 7, 3) := by decide +kernel
theorem dX3_isNumber_47 : decode cX3_isNumber 47 = .ok (.iconst 1, 1) := by decide +kernel
theorem dX3_isNumber_48 : decode cX3_isNumber 48 = .ok (.goto 4, 3) := by decide +kernel
theorem dX3_isNumber_51 : decode cX3_isNumber 51 = .ok (.iconst 0, 1) := by decide +kernel
theorem dX3_isNumber_52 : decode cX3_isNumber 52 = .ok (.ireturn, 1) := by decide +kernel
theorem dX3_taken_0 : decode cX3_taken 0 = .ok (.aload_n 0, 1) := by decide +kernel
theorem dX3_taken_1 : decode cX3_taken 1 = .ok (.getfield 12, 3) := by decide +kernel
theorem dX3_taken_4 : decode cX3_taken 4 = .ok (.getfield 73, 3) := by decide +kernel
theorem dX3_taken_7 : decode cX3_taken 7 = .ok (.istore_n 1, 1) := by decide +kernel
theorem dX3_taken_8 : decode cX3_taken 8 = .ok (.aload_n 0, 1) := by decide +kernel
theorem dX3_taken_9 : decode cX3_taken 9 = .ok (.getfield 12, 3) := by decide +kernel
theorem dX3_taken_12 : decode cX3_taken 12 = .ok (.invokevirtual 100, 3) := by decide +kernel
theorem dX3_taken_15 : decode cX3_taken 15 = .ok (.iload_n 1, 1) := by decide +kernel
theorem dX3_taken_16 : decode cX3_taken 16 = .ok (.ireturn, 1) := by decide +kernel
theorem dX3_trades_0 : decode cX3_trades 0 = .ok (.aload_n 0, 1) := by decide +kernel
theorem dX3_trades_1 : decode cX3_trades 1 = .ok (.getfield 21, 3) := by decide +kernel
theorem dX3_trades_4 : decode cX3_trades 4 = .ok (.getfield 110, 3) := by decide +kernel
theorem dX3_trades_7 : decode cX3_trades 7 = .ok (.bipush 6, 2) := by decide +kernel
theorem dX3_trades_9 : decode cX3_trades 9 = .ok (.if_icmp .lt 9, 3) := by decide +kernel
theorem dX3_trades_12 : decode cX3_trades 12 = .ok (.aload_n 0, 1) := by decide +kernel
theorem dX3_trades_13 : decode cX3_trades 13 = .ok (.iconst 2, 1) := by decide +kernel
theorem dX3_trades_14 : decode cX3_trades 14 = .ok (.invokevirtual 69, 3) := by decide +kernel
theorem dX3_trades_17 : decode cX3_trades 17 = .ok (.ireturn, 1) := by decide +kernel
theorem dX3_trades_18 : decode cX3_trades 18 = .ok (.aload_n 0, 1) := by decide +kernel
theorem dX3_trades_19 : decode cX3_trades 19 = .ok (.getfield 12, 3) := by decide +kernel
theorem dX3_trades_22 : decode cX3_trades 22 = .ok (.invokevirtual 100, 3) := by decide +kernel
theorem dX3_trades_25 : decode cX3_trades 25 = .ok (.aload_n 0, 1) := by decide +kernel
theorem dX3_trades_26 : decode cX3_trades 26 = .ok (.iconst 0, 1) := by decide +kernel
theorem dX3_trades_27 : decode cX3_trades 27 = .ok (.invokevirtual 112, 3) := by decide +kernel
theorem dX3_trades_30 : decode cX3_trades 30 = .ok (.ifCond .ne 5, 3) := by decide +kernel
theorem dX3_trades_33 : decode cX3_trades 33 = .ok (.iconst 0, 1) := by decide +kernel
theorem dX3_trades_34 : decode cX3_trades 34 = .ok (.ireturn, 1) := by decide +kernel
theorem dX3_trades_35 : decode cX3_trades 35 = .ok (.aload_n 0, 1) := by decide +kernel
theorem dX3_trades_36 : decode cX3_trades 36 = .ok (.getfield 21, 3) := by decide +kernel
theorem dX3_trades_39 : decode cX3_trades 39 = .ok (.getfield 115, 3) := by decide +kernel
theorem dX3_trades_42 : decode cX3_trades 42 = .ok (.aload_n 0, 1) := by decide +kernel
theorem dX3_trades_43 : decode cX3_trades 43 = .ok (.getfield 21, 3) := by decide +kernel
theorem dX3_trades_46 : decode cX3_trades 46 = .ok (.getfield 110, 3) := by decide +kernel
theorem dX3_trades_49 : decode cX3_trades 49 = .ok (.aload_n 0, 1) := by decide +kernel
theorem dX3_trades_50 : decode cX3_trades 50 = .ok (.invokevirtual 118, 3) := by decide +kernel
theorem dX3_trades_53 : decode cX3_trades 53 = .ok (.invokevirtual 122, 3) := by decide +kernel
theorem dX3_trades_56 : decode cX3_trades 56 = .ok (.aload_n 0, 1) := by decide +kernel
theorem dX3_trades_57 : decode cX3_trades 57 = .ok (.iconst 0, 1) := by decide +kernel
theorem dX3_trades_58 : decode cX3_trades 58 = .ok (.bipush 23, 2) := by decide +kernel
theorem dX3_trades_60 : decode cX3_trades 60 = .ok (.invokevirtual 126, 3) := by decide +kernel
theorem dX3_trades_63 : decode cX3_trades 63 = .ok (.ifCond .ne 5, 3) := by decide +kernel
theorem dX3_trades_66 : decode cX3_trades 66 = .ok (.iconst 0, 1) := by decide +kernel
theorem dX3_trades_67 : decode cX3_trades 67 = .ok (.ireturn, 1) := by decide +kernel
theorem dX3_trades_68 : decode cX3_trades 68 = .ok (.aload_n 0, 1) := by decide +kernel
theorem dX3_trades_69 : decode cX3_trades 69 = .ok (.getfield 21, 3) := by decide +kernel
theorem dX3_trades_72 : decode cX3_trades 72 = .ok (.getfield 130, 3) := by decide +kernel
theorem dX3_trades_75 : decode cX3_trades 75 = .ok (.aload_n 0, 1) := by decide +kernel
theorem dX3_trades_76 : decode cX3_trades 76 = .ok (.getfield 21, 3) := by decide +kernel
theorem dX3_trades_79 : decode cX3_trades 79 = .ok (.getfield 110, 3) := by decide +kernel
theorem dX3_trades_82 : decode cX3_trades 82 = .ok (.aload_n 0, 1) := by decide +kernel
theorem dX3_trades_83 : decode cX3_trades 83 = .ok (.invokevirtual 118, 3) := by decide +kernel
theorem dX3_trades_86 : decode cX3_trades 86 = .ok (.invokevirtual 122, 3) := by decide +kernel
theorem dX3_trades_89 : decode cX3_trades 89 = .ok (.aload_n 0, 1) := by decide +kernel
theorem dX3_trades_90 : decode cX3_trades 90 = .ok (.iconst 0, 1) := by decide +kernel
theorem dX3_trades_91 : decode cX3_trades 91 = .ok (.bipush 9, 2) := by decide +kernel
theorem dX3_trades_93 : decode cX3_trades 93 = .ok (.invokevirtual 126, 3) := by decide +kernel
theorem dX3_trades_96 : decode cX3_trades 96 = .ok (.ifCond .ne 5, 3) := by decide +kernel
theorem dX3_trades_99 : decode cX3_trades 99 = .ok (.iconst 0, 1) := by decide +kernel
theorem dX3_trades_100 : decode cX3_trades 100 = .ok (.ireturn, 1) := by decide +kernel
theorem dX3_trades_101 : decode cX3_trades 101 = .ok (.aload_n 0, 1) := by decide +kernel
theorem dX3_trades_102 : decode cX3_trades 102 = .ok (.getfield 21, 3) := by decide +kernel
theorem dX3_trades_105 : decode cX3_trades 105 = .ok (.getfield 133, 3) := by decide +kernel
theorem dX3_trades_108 : decode cX3_trades 108 = .ok (.aload_n 0, 1) := by decide +kernel
theorem dX3_trades_109 : decode cX3_trades 109 = .ok (.getfield 21, 3) := by decide +kernel
theorem dX3_trades_112 : decode cX3_trades 112 = .ok (.getfield 110, 3) := by decide +kernel
theorem dX3_trades_115 : decode cX3_trades 115 = .ok (.aload_n 0, 1) := by decide +kernel
theorem dX3_trades_116 : decode cX3_trades 116 = .ok (.invokevirtual 118, 3) := by decide +kernel
theorem dX3_trades_119 : decode cX3_trades 119 = .ok (.invokevirtual 122, 3) := by decide +kernel
theorem dX3_trades_122 : decode cX3_trades 122 = .ok (.aload_n 0, 1) := by decide +kernel
theorem dX3_trades_123 : decode cX3_trades 123 = .ok (.getfield 21, 3) := by decide +kernel
theorem dX3_trades_126 : decode cX3_trades 126 = .ok (.dup, 1) := by decide +kernel
theorem dX3_trades_127 : decode cX3_trades 127 = .ok (.getfield 110, 3) := by decide +kernel
theorem dX3_trades_130 : decode cX3_trades 130 = .ok (.iconst 1, 1) := by decide +kernel
theorem dX3_trades_131 : decode cX3_trades 131 = .ok (.iadd, 1) := by decide +kernel
theorem dX3_trades_132 : decode cX3_trades 132 = .ok (.putfield 110, 3) := by decide +kernel
theorem dX3_trades_135 : decode cX3_trades 135 = .ok (.iconst 1, 1) := by decide +kernel
theorem dX3_trades_136 : decode cX3_trades 136 = .ok (.ireturn, 1) := by decide +kernel
theorem dX3_turns_0 : decode cX3_turns 0 = .ok (.aload_n 0, 1) := by decide +kernel
theorem dX3_turns_1 : decode cX3_turns 1 = .ok (.getfield 21, 3) := by decide +kernel
theorem dX3_turns_4 : decode cX3_turns 4 = .ok (.getfield 136, 3) := by decide +kernel
theorem dX3_turns_7 : decode cX3_turns 7 = .ok (.bipush 12, 2) := by decide +kernel
theorem dX3_turns_9 : decode cX3_turns 9 = .ok (.if_icmp .lt 9, 3) := by decide +kernel
theorem dX3_turns_12 : decode cX3_turns 12 = .ok (.aload_n 0, 1) := by decide +kernel
theorem dX3_turns_13 : decode cX3_turns 13 = .ok (.iconst 2, 1) := by decide +kernel
theorem dX3_turns_14 : decode cX3_turns 14 = .ok (.invokevirtual 69, 3) := by decide +kernel
theorem dX3_turns_17 : decode cX3_turns 17 = .ok (.ireturn, 1) := by decide +kernel
theorem dX3_turns_18 : decode cX3_turns 18 = .ok (.aload_n 0, 1) := by decide +kernel
theorem dX3_turns_19 : decode cX3_turns 19 = .ok (.getfield 12, 3) := by decide +kernel
theorem dX3_turns_22 : decode cX3_turns 22 = .ok (.invokevirtual 100, 3) := by decide +kernel
theorem dX3_turns_25 : decode cX3_turns 25 = .ok (.aload_n 0, 1) := by decide +kernel
theorem dX3_turns_26 : decode cX3_turns 26 = .ok (.invokevirtual 138, 3) := by decide +kernel
theorem dX3_turns_29 : decode cX3_turns 29 = .ok (.ifCond .ne 5, 3) := by decide +kernel
theorem dX3_turns_32 : decode cX3_turns 32 = .ok (.iconst 0, 1) := by decide +kernel
theorem dX3_turns_33 : decode cX3_turns 33 = .ok (.ireturn, 1) := by decide +kernel
theorem dX3_turns_34 : decode cX3_turns 34 = .ok (.aload_n 0, 1) := by decide +kernel
theorem dX3_turns_35 : decode cX3_turns 35 = .ok (.getfield 21, 3) := by decide +kernel
theorem dX3_turns_38 : decode cX3_turns 38 = .ok (.getfield 141, 3) := by decide +kernel
theorem dX3_turns_41 : decode cX3_turns 41 = .ok (.aload_n 0, 1) := by decide +kernel
theorem dX3_turns_42 : decode cX3_turns 42 = .ok (.getfield 21, 3) := by decide +kernel
theorem dX3_turns_45 : decode cX3_turns 45 = .ok (.getfield 136, 3) := by decide +kernel
theorem dX3_turns_48 : decode cX3_turns 48 = .ok (.aload_n 0, 1) := by decide +kernel
theorem dX3_turns_49 : decode cX3_turns 49 = .ok (.getfield 21, 3) := by decide +kernel
theorem dX3_turns_52 : decode cX3_turns 52 = .ok (.aload_n 0, 1) := by decide +kernel
theorem dX3_turns_53 : decode cX3_turns 53 = .ok (.invokevirtual 118, 3) := by decide +kernel
theorem dX3_turns_56 : decode cX3_turns 56 = .ok (.invokevirtual 103, 3) := by decide +kernel
theorem dX3_turns_59 : decode cX3_turns 59 = .ok (.invokevirtual 122, 3) := by decide +kernel
theorem dX3_turns_62 : decode cX3_turns 62 = .ok (.aload_n 0, 1) := by decide +kernel
theorem dX3_turns_63 : decode cX3_turns 63 = .ok (.getfield 21, 3) := by decide +kernel
theorem dX3_turns_66 : decode cX3_turns 66 = .ok (.dup, 1) := by decide +kernel
theorem dX3_turns_67 : decode cX3_turns 67 = .ok (.getfield 136, 3) := by decide +kernel
theorem dX3_turns_70 : decode cX3_turns 70 = .ok (.iconst 1, 1) := by decide +kernel
theorem dX3_turns_71 : decode cX3_turns 71 = .ok (.iadd, 1) := by decide +kernel
theorem dX3_turns_72 : decode cX3_turns 72 = .ok (.putfield 136, 3) := by decide +kernel
theorem dX3_turns_75 : decode cX3_turns 75 = .ok (.iconst 1, 1) := by decide +kernel
theorem dX3_turns_76 : decode cX3_turns 76 = .ok (.ireturn, 1) := by decide +kernel
theorem dX3_claims_0 : decode cX3_claims 0 = .ok (.aload_n 0, 1) := by decide +kernel
theorem dX3_claims_1 : decode cX3_claims 1 = .ok (.getfield 21, 3) := by decide +kernel
theorem dX3_claims_4 : decode cX3_claims 4 = .ok (.getfield 144, 3) := by decide +kernel
theorem dX3_claims_7 : decode cX3_claims 7 = .ok (.bipush 10, 2) := by decide +kernel
theorem dX3_claims_9 : decode cX3_claims 9 = .ok (.if_icmp .lt 9, 3) := by decide +kernel
theorem dX3_claims_12 : decode cX3_claims 12 = .ok (.aload_n 0, 1) := by decide +kernel
theorem dX3_claims_13 : decode cX3_claims 13 = .ok (.iconst 2, 1) := by decide +kernel
theorem dX3_claims_14 : decode cX3_claims 14 = .ok (.invokevirtual 69, 3) := by decide +kernel
theorem dX3_claims_17 : decode cX3_claims 17 = .ok (.ireturn, 1) := by decide +kernel
theorem dX3_claims_18 : decode cX3_claims 18 = .ok (.aload_n 0, 1) := by decide +kernel
theorem dX3_claims_19 : decode cX3_claims 19 = .ok (.getfield 12, 3) := by decide +kernel
theorem dX3_claims_22 : decode cX3_claims 22 = .ok (.invokevirtual 100, 3) := by decide +kernel
theorem dX3_claims_25 : decode cX3_claims 25 = .ok (.aload_n 0, 1) := by decide +kernel
theorem dX3_claims_26 : decode cX3_claims 26 = .ok (.invokevirtual 138, 3) := by decide +kernel
theorem dX3_claims_29 : decode cX3_claims 29 = .ok (.ifCond .ne 5, 3) := by decide +kernel
theorem dX3_claims_32 : decode cX3_claims 32 = .ok (.iconst 0, 1) := by decide +kernel
theorem dX3_claims_33 : decode cX3_claims 33 = .ok (.ireturn, 1) := by decide +kernel
theorem dX3_claims_34 : decode cX3_claims 34 = .ok (.aload_n 0, 1) := by decide +kernel
theorem dX3_claims_35 : decode cX3_claims 35 = .ok (.getfield 21, 3) := by decide +kernel
theorem dX3_claims_38 : decode cX3_claims 38 = .ok (.getfield 146, 3) := by decide +kernel
theorem dX3_claims_41 : decode cX3_claims 41 = .ok (.aload_n 0, 1) := by decide +kernel
theorem dX3_claims_42 : decode cX3_claims 42 = .ok (.getfield 21, 3) := by decide +kernel
theorem dX3_claims_45 : decode cX3_claims 45 = .ok (.getfield 144, 3) := by decide +kernel
theorem dX3_claims_48 : decode cX3_claims 48 = .ok (.aload_n 0, 1) := by decide +kernel
theorem dX3_claims_49 : decode cX3_claims 49 = .ok (.getfield 21, 3) := by decide +kernel
theorem dX3_claims_52 : decode cX3_claims 52 = .ok (.aload_n 0, 1) := by decide +kernel
theorem dX3_claims_53 : decode cX3_claims 53 = .ok (.invokevirtual 118, 3) := by decide +kernel
theorem dX3_claims_56 : decode cX3_claims 56 = .ok (.invokevirtual 103, 3) := by decide +kernel
theorem dX3_claims_59 : decode cX3_claims 59 = .ok (.invokevirtual 122, 3) := by decide +kernel
theorem dX3_claims_62 : decode cX3_claims 62 = .ok (.aload_n 0, 1) := by decide +kernel
theorem dX3_claims_63 : decode cX3_claims 63 = .ok (.iconst 0, 1) := by decide +kernel
theorem dX3_claims_64 : decode cX3_claims 64 = .ok (.bipush 99, 2) := by decide +kernel
theorem dX3_claims_66 : decode cX3_claims 66 = .ok (.invokevirtual 126, 3) := by decide +kernel
theorem dX3_claims_69 : decode cX3_claims 69 = .ok (.ifCond .ne 5, 3) := by decide +kernel
theorem dX3_claims_72 : decode cX3_claims 72 = .ok (.iconst 0, 1) := by decide +kernel
theorem dX3_claims_73 : decode cX3_claims 73 = .ok (.ireturn, 1) := by decide +kernel
theorem dX3_claims_74 : decode cX3_claims 74 = .ok (.aload_n 0, 1) := by decide +kernel
theorem dX3_claims_75 : decode cX3_claims 75 = .ok (.getfield 21, 3) := by decide +kernel
theorem dX3_claims_78 : decode cX3_claims 78 = .ok (.aload_n 0, 1) := by decide +kernel
theorem dX3_claims_79 : decode cX3_claims 79 = .ok (.getfield 12, 3) := by decide +kernel
theorem dX3_claims_82 : decode cX3_claims 82 = .ok (.getfield 73, 3) := by decide +kernel
theorem dX3_claims_85 : decode cX3_claims 85 = .ok (.invokevirtual 149, 3) := by decide +kernel
theorem dX3_claims_88 : decode cX3_claims 88 = .ok (.iconst (-1), 1) := by decide +kernel
theorem dX3_claims_89 : decode cX3_claims 89 = .ok (.if_icmp .eq 9, 3) := by decide +kernel
theorem dX3_claims_92 : decode cX3_claims 92 = .ok (.aload_n 0, 1) := by decide +kernel
theorem dX3_claims_93 : decode cX3_claims 93 = .ok (.iconst 3, 1) := by decide +kernel
theorem dX3_claims_94 : decode cX3_claims 94 = .ok (.invokevirtual 69, 3) := by decide +kernel
theorem dX3_claims_97 : decode cX3_claims 97 = .ok (.ireturn, 1) := by decide +kernel
theorem dX3_claims_98 : decode cX3_claims 98 = .ok (.aload_n 0, 1) := by decide +kernel
theorem dX3_claims_99 : decode cX3_claims 99 = .ok (.getfield 21, 3) := by decide +kernel
theorem dX3_claims_102 : decode cX3_claims 102 = .ok (.getfield 152, 3) := by decide +kernel
theorem dX3_claims_105 : decode cX3_claims 105 = .ok (.aload_n 0, 1) := by decide +kernel
theorem dX3_claims_106 : decode cX3_claims 106 = .ok (.getfield 21, 3) := by decide +kernel
theorem dX3_claims_109 : decode cX3_claims 109 = .ok (.getfield 144, 3) := by decide +kernel
theorem dX3_claims_112 : decode cX3_claims 112 = .ok (.aload_n 0, 1) := by decide +kernel
theorem dX3_claims_113 : decode cX3_claims 113 = .ok (.invokevirtual 118, 3) := by decide +kernel
theorem dX3_claims_116 : decode cX3_claims 116 = .ok (.invokevirtual 122, 3) := by decide +kernel
theorem dX3_claims_119 : decode cX3_claims 119 = .ok (.aload_n 0, 1) := by decide +kernel
theorem dX3_claims_120 : decode cX3_claims 120 = .ok (.getfield 21, 3) := by decide +kernel
theorem dX3_claims_123 : decode cX3_claims 123 = .ok (.dup, 1) := by decide +kernel
theorem dX3_claims_124 : decode cX3_claims 124 = .ok (.getfield 144, 3) := by decide +kernel
theorem dX3_claims_127 : decode cX3_claims 127 = .ok (.iconst 1, 1) := by decide +kernel
theorem dX3_claims_128 : decode cX3_claims 128 = .ok (.iadd, 1) := by decide +kernel
theorem dX3_claims_129 : decode cX3_claims 129 = .ok (.putfield 144, 3) := by decide +kernel
theorem dX3_claims_132 : decode cX3_claims 132 = .ok (.iconst 1, 1) := by decide +kernel
theorem dX3_claims_133 : decode cX3_claims 133 = .ok (.ireturn, 1) := by decide +kernel
theorem dX3_works_0 : decode cX3_works 0 = .ok (.aload_n 0, 1) := by decide +kernel
theorem dX3_works_1 : decode cX3_works 1 = .ok (.getfield 21, 3) := by decide +kernel
theorem dX3_works_4 : decode cX3_works 4 = .ok (.getfield 155, 3) := by decide +kernel
theorem dX3_works_7 : decode cX3_works 7 = .ok (.iconst 5, 1) := by decide +kernel
theorem dX3_works_8 : decode cX3_works 8 = .ok (.if_icmp .lt 9, 3) := by decide +kernel
theorem dX3_works_11 : decode cX3_works 11 = .ok (.aload_n 0, 1) := by decide +kernel
theorem dX3_works_12 : decode cX3_works 12 = .ok (.iconst 2, 1) := by decide +kernel
theorem dX3_works_13 : decode cX3_works 13 = .ok (.invokevirtual 69, 3) := by decide +kernel
theorem dX3_works_16 : decode cX3_works 16 = .ok (.ireturn, 1) := by decide +kernel
theorem dX3_works_17 : decode cX3_works 17 = .ok (.aload_n 0, 1) := by decide +kernel
theorem dX3_works_18 : decode cX3_works 18 = .ok (.getfield 12, 3) := by decide +kernel
theorem dX3_works_21 : decode cX3_works 21 = .ok (.invokevirtual 100, 3) := by decide +kernel
theorem dX3_works_24 : decode cX3_works 24 = .ok (.aload_n 0, 1) := by decide +kernel
theorem dX3_works_25 : decode cX3_works 25 = .ok (.iconst 3, 1) := by decide +kernel
theorem dX3_works_26 : decode cX3_works 26 = .ok (.invokevirtual 112, 3) := by decide +kernel
theorem dX3_works_29 : decode cX3_works 29 = .ok (.ifCond .ne 5, 3) := by decide +kernel
theorem dX3_works_32 : decode cX3_works 32 = .ok (.iconst 0, 1) := by decide +kernel
theorem dX3_works_33 : decode cX3_works 33 = .ok (.ireturn, 1) := by decide +kernel
theorem dX3_works_34 : decode cX3_works 34 = .ok (.aload_n 0, 1) := by decide +kernel
theorem dX3_works_35 : decode cX3_works 35 = .ok (.getfield 21, 3) := by decide +kernel
theorem dX3_works_38 : decode cX3_works 38 = .ok (.getfield 157, 3) := by decide +kernel
theorem dX3_works_41 : decode cX3_works 41 = .ok (.aload_n 0, 1) := by decide +kernel
theorem dX3_works_42 : decode cX3_works 42 = .ok (.getfield 21, 3) := by decide +kernel
theorem dX3_works_45 : decode cX3_works 45 = .ok (.getfield 155, 3) := by decide +kernel
theorem dX3_works_48 : decode cX3_works 48 = .ok (.aload_n 0, 1) := by decide +kernel
theorem dX3_works_49 : decode cX3_works 49 = .ok (.invokevirtual 118, 3) := by decide +kernel
theorem dX3_works_52 : decode cX3_works 52 = .ok (.invokevirtual 122, 3) := by decide +kernel
theorem dX3_works_55 : decode cX3_works 55 = .ok (.aload_n 0, 1) := by decide +kernel
theorem dX3_works_56 : decode cX3_works 56 = .ok (.iconst 0, 1) := by decide +kernel
theorem dX3_works_57 : decode cX3_works 57 = .ok (.bipush 24, 2) := by decide +kernel
theorem dX3_works_59 : decode cX3_works 59 = .ok (.invokevirtual 126, 3) := by decide +kernel
theorem dX3_works_62 : decode cX3_works 62 = .ok (.ifCond .ne 5, 3) := by decide +kernel
theorem dX3_works_65 : decode cX3_works 65 = .ok (.iconst 0, 1) := by decide +kernel
theorem dX3_works_66 : decode cX3_works 66 = .ok (.ireturn, 1) := by decide +kernel
theorem dX3_works_67 : decode cX3_works 67 = .ok (.aload_n 0, 1) := by decide +kernel
theorem dX3_works_68 : decode cX3_works 68 = .ok (.getfield 21, 3) := by decide +kernel
theorem dX3_works_71 : decode cX3_works 71 = .ok (.getfield 160, 3) := by decide +kernel
theorem dX3_works_74 : decode cX3_works 74 = .ok (.aload_n 0, 1) := by decide +kernel
theorem dX3_works_75 : decode cX3_works 75 = .ok (.getfield 21, 3) := by decide +kernel
theorem dX3_works_78 : decode cX3_works 78 = .ok (.getfield 155, 3) := by decide +kernel
theorem dX3_works_81 : decode cX3_works 81 = .ok (.aload_n 0, 1) := by decide +kernel
theorem dX3_works_82 : decode cX3_works 82 = .ok (.invokevirtual 118, 3) := by decide +kernel
theorem dX3_works_85 : decode cX3_works 85 = .ok (.invokevirtual 122, 3) := by decide +kernel
theorem dX3_works_88 : decode cX3_works 88 = .ok (.aload_n 0, 1) := by decide +kernel
theorem dX3_works_89 : decode cX3_works 89 = .ok (.iconst 0, 1) := by decide +kernel
theorem dX3_works_90 : decode cX3_works 90 = .ok (.bipush 24, 2) := by decide +kernel
theorem dX3_works_92 : decode cX3_works 92 = .ok (.invokevirtual 126, 3) := by decide +kernel
theorem dX3_works_95 : decode cX3_works 95 = .ok (.ifCond .ne 5, 3) := by decide +kernel
theorem dX3_works_98 : decode cX3_works 98 = .ok (.iconst 0, 1) := by decide +kernel
theorem dX3_works_99 : decode cX3_works 99 = .ok (.ireturn, 1) := by decide +kernel
theorem dX3_works_100 : decode cX3_works 100 = .ok (.aload_n 0, 1) := by decide +kernel
theorem dX3_works_101 : decode cX3_works 101 = .ok (.getfield 21, 3) := by decide +kernel
theorem dX3_works_104 : decode cX3_works 104 = .ok (.getfield 163, 3) := by decide +kernel
theorem dX3_works_107 : decode cX3_works 107 = .ok (.aload_n 0, 1) := by decide +kernel
theorem dX3_works_108 : decode cX3_works 108 = .ok (.getfield 21, 3) := by decide +kernel
theorem dX3_works_111 : decode cX3_works 111 = .ok (.getfield 155, 3) := by decide +kernel
theorem dX3_works_114 : decode cX3_works 114 = .ok (.aload_n 0, 1) := by decide +kernel
theorem dX3_works_115 : decode cX3_works 115 = .ok (.invokevirtual 118, 3) := by decide +kernel
theorem dX3_works_118 : decode cX3_works 118 = .ok (.invokevirtual 122, 3) := by decide +kernel
theorem dX3_works_121 : decode cX3_works 121 = .ok (.aload_n 0, 1) := by decide +kernel
theorem dX3_works_122 : decode cX3_works 122 = .ok (.iconst 1, 1) := by decide +kernel
theorem dX3_works_123 : decode cX3_works 123 = .ok (.bipush 9, 2) := by decide +kernel
theorem dX3_works_125 : decode cX3_works 125 = .ok (.invokevirtual 126, 3) := by decide +kernel
theorem dX3_works_128 : decode cX3_works 128 = .ok (.ifCond .ne 5, 3) := by decide +kernel
theorem dX3_works_131 : decode cX3_works 131 = .ok (.iconst 0, 1) := by decide +kernel
theorem dX3_works_132 : decode cX3_works 132 = .ok (.ireturn, 1) := by decide +kernel
theorem dX3_works_133 : decode cX3_works 133 = .ok (.aload_n 0, 1) := by decide +kernel
theorem dX3_works_134 : decode cX3_works 134 = .ok (.getfield 21, 3) := by decide +kernel
theorem dX3_works_137 : decode cX3_works 137 = .ok (.getfield 166, 3) := by decide +kernel
theorem dX3_works_140 : decode cX3_works 140 = .ok (.aload_n 0, 1) := by decide +kernel
theorem dX3_works_141 : decode cX3_works 141 = .ok (.getfield 21, 3) := by decide +kernel
theorem dX3_works_144 : decode cX3_works 144 = .ok (.getfield 155, 3) := by decide +kernel
theorem dX3_works_147 : decode cX3_works 147 = .ok (.aload_n 0, 1) := by decide +kernel
theorem dX3_works_148 : decode cX3_works 148 = .ok (.invokevirtual 118, 3) := by decide +kernel
theorem dX3_works_151 : decode cX3_works 151 = .ok (.invokevirtual 122, 3) := by decide +kernel
theorem dX3_works_154 : decode cX3_works 154 = .ok (.aload_n 0, 1) := by decide +kernel
theorem dX3_works_155 : decode cX3_works 155 = .ok (.getfield 21, 3) := by decide +kernel
theorem dX3_works_158 : decode cX3_works 158 = .ok (.dup, 1) := by decide +kernel
theorem dX3_works_159 : decode cX3_works 159 = .ok (.getfield 155, 3) := by decide +kernel
theorem dX3_works_162 : decode cX3_works 162 = .ok (.iconst 1, 1) := by decide +kernel
theorem dX3_works_163 : decode cX3_works 163 = .ok (.iadd, 1) := by decide +kernel
theorem dX3_works_164 : decode cX3_works 164 = .ok (.putfield 155, 3) := by decide +kernel
theorem dX3_works_167 : decode cX3_works 167 = .ok (.iconst 1, 1) := by decide +kernel
theorem dX3_works_168 : decode cX3_works 168 = .ok (.ireturn, 1) := by decide +kernel
theorem dX3_slips_0 : decode cX3_slips 0 = .ok (.aload_n 0, 1) := by decide +kernel
theorem dX3_slips_1 : decode cX3_slips 1 = .ok (.getfield 41, 3) := by decide +kernel
theorem dX3_slips_4 : decode cX3_slips 4 = .ok (.ifCond .eq 9, 3) := by decide +kernel
theorem dX3_slips_7 : decode cX3_slips 7 = .ok (.aload_n 0, 1) := by decide +kernel
theorem dX3_slips_8 : decode cX3_slips 8 = .ok (.iconst 3, 1) := by decide +kernel
theorem dX3_slips_9 : decode cX3_slips 9 = .ok (.invokevirtual 69, 3) := by decide +kernel
theorem dX3_slips_12 : decode cX3_slips 12 = .ok (.ireturn, 1) := by decide +kernel
theorem dX3_slips_13 : decode cX3_slips 13 = .ok (.aload_n 0, 1) := by decide +kernel
theorem dX3_slips_14 : decode cX3_slips 14 = .ok (.iconst 1, 1) := by decide +kernel
theorem dX3_slips_15 : decode cX3_slips 15 = .ok (.putfield 41, 3) := by decide +kernel
theorem dX3_slips_18 : decode cX3_slips 18 = .ok (.aload_n 0, 1) := by decide +kernel
theorem dX3_slips_19 : decode cX3_slips 19 = .ok (.getfield 12, 3) := by decide +kernel
theorem dX3_slips_22 : decode cX3_slips 22 = .ok (.invokevirtual 100, 3) := by decide +kernel
theorem dX3_slips_25 : decode cX3_slips 25 = .ok (.aload_n 0, 1) := by decide +kernel
theorem dX3_slips_26 : decode cX3_slips 26 = .ok (.iconst 0, 1) := by decide +kernel
theorem dX3_slips_27 : decode cX3_slips 27 = .ok (.bipush 100, 2) := by decide +kernel
theorem dX3_slips_29 : decode cX3_slips 29 = .ok (.invokevirtual 126, 3) := by decide +kernel
theorem dX3_slips_32 : decode cX3_slips 32 = .ok (.ifCond .ne 5, 3) := by decide +kernel
theorem dX3_slips_35 : decode cX3_slips 35 = .ok (.iconst 0, 1) := by decide +kernel
theorem dX3_slips_36 : decode cX3_slips 36 = .ok (.ireturn, 1) := by decide +kernel
theorem dX3_slips_37 : decode cX3_slips 37 = .ok (.aload_n 0, 1) := by decide +kernel
theorem dX3_slips_38 : decode cX3_slips 38 = .ok (.getfield 21, 3) := by decide +kernel
theorem dX3_slips_41 : decode cX3_slips 41 = .ok (.aload_n 0, 1) := by decide +kernel
theorem dX3_slips_42 : decode cX3_slips 42 = .ok (.invokevirtual 118, 3) := by decide +kernel
theorem dX3_slips_45 : decode cX3_slips 45 = .ok (.putfield 169, 3) := by decide +kernel
theorem dX3_slips_48 : decode cX3_slips 48 = .ok (.iconst 1, 1) := by decide +kernel
theorem dX3_slips_49 : decode cX3_slips 49 = .ok (.ireturn, 1) := by decide +kernel
theorem dX3_seeds_0 : decode cX3_seeds 0 = .ok (.aload_n 0, 1) := by decide +kernel
theorem dX3_seeds_1 : decode cX3_seeds 1 = .ok (.getfield 45, 3) := by decide +kernel
theorem dX3_seeds_4 : decode cX3_seeds 4 = .ok (.ifCond .eq 9, 3) := by decide +kernel
theorem dX3_seeds_7 : decode cX3_seeds 7 = .ok (.aload_n 0, 1) := by decide +kernel
theorem dX3_seeds_8 : decode cX3_seeds 8 = .ok (.iconst 3, 1) := by decide +kernel
theorem dX3_seeds_9 : decode cX3_seeds 9 = .ok (.invokevirtual 69, 3) := by decide +kernel
theorem dX3_seeds_12 : decode cX3_seeds 12 = .ok (.ireturn, 1) := by decide +kernel
theorem dX3_seeds_13 : decode cX3_seeds 13 = .ok (.aload_n 0, 1) := by decide +kernel
theorem dX3_seeds_14 : decode cX3_seeds 14 = .ok (.iconst 1, 1) := by decide +kernel
theorem dX3_seeds_15 : decode cX3_seeds 15 = .ok (.putfield 45, 3) := by decide +kernel
theorem dX3_seeds_18 : decode cX3_seeds 18 = .ok (.aload_n 0, 1) := by decide +kernel
theorem dX3_seeds_19 : decode cX3_seeds 19 = .ok (.getfield 12, 3) := by decide +kernel
theorem dX3_seeds_22 : decode cX3_seeds 22 = .ok (.invokevirtual 100, 3) := by decide +kernel
theorem dX3_seeds_25 : decode cX3_seeds 25 = .ok (.aload_n 0, 1) := by decide +kernel
theorem dX3_seeds_26 : decode cX3_seeds 26 = .ok (.iconst 0, 1) := by decide +kernel
theorem dX3_seeds_27 : decode cX3_seeds 27 = .ok (.ldc 172, 2) := by decide +kernel
theorem dX3_seeds_29 : decode cX3_seeds 29 = .ok (.invokevirtual 126, 3) := by decide +kernel
theorem dX3_seeds_32 : decode cX3_seeds 32 = .ok (.ifCond .ne 5, 3) := by decide +kernel
theorem dX3_seeds_35 : decode cX3_seeds 35 = .ok (.iconst 0, 1) := by decide +kernel
theorem dX3_seeds_36 : decode cX3_seeds 36 = .ok (.ireturn, 1) := by decide +kernel
theorem dX3_seeds_37 : decode cX3_seeds 37 = .ok (.aload_n 0, 1) := by decide +kernel
theorem dX3_seeds_38 : decode cX3_seeds 38 = .ok (.getfield 21, 3) := by decide +kernel
theorem dX3_seeds_41 : decode cX3_seeds 41 = .ok (.aload_n 0, 1) := by decide +kernel
theorem dX3_seeds_42 : decode cX3_seeds 42 = .ok (.invokevirtual 118, 3) := by decide +kernel
theorem dX3_seeds_45 : decode cX3_seeds 45 = .ok (.putfield 173, 3) := by decide +kernel
theorem dX3_seeds_48 : decode cX3_seeds 48 = .ok (.iconst 1, 1) := by decide +kernel
theorem dX3_seeds_49 : decode cX3_seeds 49 = .ok (.ireturn, 1) := by decide +kernel
theorem dX3_laws_0 : decode cX3_laws 0 = .ok (.aload_n 0, 1) := by decide +kernel
theorem dX3_laws_1 : decode cX3_laws 1 = .ok (.getfield 12, 3) := by decide +kernel
theorem dX3_laws_4 : decode cX3_laws 4 = .ok (.invokevirtual 100, 3) := by decide +kernel
theorem dX3_laws_7 : decode cX3_laws 7 = .ok (.aload_n 0, 1) := by decide +kernel
theorem dX3_laws_8 : decode cX3_laws 8 = .ok (.getfield 12, 3) := by decide +kernel
theorem dX3_laws_11 : decode cX3_laws 11 = .ok (.getfield 73, 3) := by decide +kernel
theorem dX3_laws_14 : decode cX3_laws 14 = .ok (.bipush 7, 2) := by decide +kernel
theorem dX3_laws_16 : decode cX3_laws 16 = .ok (.isub, 1) := by decide +kernel
theorem dX3_laws_17 : decode cX3_laws 17 = .ok (.istore_n 1, 1) := by decide +kernel
theorem dX3_laws_18 : decode cX3_laws 18 = .ok (.aload_n 0, 1) := by decide +kernel
theorem dX3_laws_19 : decode cX3_laws 19 = .ok (.getfield 12, 3) := by decide +kernel
theorem dX3_laws_22 : decode cX3_laws 22 = .ok (.getfield 55, 3) := by decide +kernel
theorem dX3_laws_25 : decode cX3_laws 25 = .ok (.iconst 3, 1) := by decide +kernel
theorem dX3_laws_26 : decode cX3_laws 26 = .ok (.if_icmp .ne 12, 3) := by decide +kernel
theorem dX3_laws_29 : decode cX3_laws 29 = .ok (.iload_n 1, 1) := by decide +kernel
theorem dX3_laws_30 : decode cX3_laws 30 = .ok (.ifCond .lt 8, 3) := by decide +kernel
theorem dX3_laws_33 : decode cX3_laws 33 = .ok (.iload_n 1, 1) := by decide +kernel
theorem dX3_laws_34 : decode cX3_laws 34 = .ok (.iconst 3, 1) := by decide +kernel
theorem dX3_laws_35 : decode cX3_laws 35 = .ok (.if_icmp .lt 9, 3) := by decide +kernel
theorem dX3_laws_38 : decode cX3_laws 38 = .ok (.aload_n 0, 1) := by decide +kernel
theorem dX3_laws_39 : decode cX3_laws 39 = .ok (.iconst 1, 1) := by decide +kernel
theorem dX3_laws_40 : decode cX3_laws 40 = .ok (.invokevirtual 69, 3) := by decide +kernel
theorem dX3_laws_43 : decode cX3_laws 43 = .ok (.ireturn, 1) := by decide +kernel
theorem dX3_laws_44 : decode cX3_laws 44 = .ok (.aload_n 0, 1) := by decide +kernel
theorem dX3_laws_45 : decode cX3_laws 45 = .ok (.getfield 21, 3) := by decide +kernel
theorem dX3_laws_48 : decode cX3_laws 48 = .ok (.getfield 176, 3) := by decide +kernel
theorem dX3_laws_51 : decode cX3_laws 51 = .ok (.iload_n 1, 1) := by decide +kernel
theorem dX3_laws_52 : decode cX3_laws 52 = .ok (.invokevirtual 179, 3) := by decide +kernel
theorem dX3_laws_55 : decode cX3_laws 55 = .ok (.ifCond .eq 9, 3) := by decide +kernel
theorem dX3_laws_58 : decode cX3_laws 58 = .ok (.aload_n 0, 1) := by decide +kernel
theorem dX3_laws_59 : decode cX3_laws 59 = .ok (.iconst 3, 1) := by decide +kernel
theorem dX3_laws_60 : decode cX3_laws 60 = .ok (.invokevirtual 69, 3) := by decide +kernel
theorem dX3_laws_63 : decode cX3_laws 63 = .ok (.ireturn, 1) := by decide +kernel
theorem dX3_laws_64 : decode cX3_laws 64 = .ok (.aload_n 0, 1) := by decide +kernel
theorem dX3_laws_65 : decode cX3_laws 65 = .ok (.getfield 21, 3) := by decide +kernel
theorem dX3_laws_68 : decode cX3_laws 68 = .ok (.getfield 176, 3) := by decide +kernel
theorem dX3_laws_71 : decode cX3_laws 71 = .ok (.iload_n 1, 1) := by decide +kernel
theorem dX3_laws_72 : decode cX3_laws 72 = .ok (.invokevirtual 184, 3) := by decide +kernel
theorem dX3_laws_75 : decode cX3_laws 75 = .ok (.aload_n 0, 1) := by decide +kernel
theorem dX3_laws_76 : decode cX3_laws 76 = .ok (.iconst 0, 1) := by decide +kernel
theorem dX3_laws_77 : decode cX3_laws 77 = .ok (.putfield 186, 3) := by decide +kernel
theorem dX3_laws_80 : decode cX3_laws 80 = .ok (.aload_n 0, 1) := by decide +kernel
theorem dX3_laws_81 : decode cX3_laws 81 = .ok (.iconst 0, 1) := by decide +kernel
theorem dX3_laws_82 : decode cX3_laws 82 = .ok (.putfield 189, 3) := by decide +kernel
theorem dX3_laws_85 : decode cX3_laws 85 = .ok (.iconst 1, 1) := by decide +kernel
theorem dX3_laws_86 : decode cX3_laws 86 = .ok (.istore_n 2, 1) := by decide +kernel
theorem dX3_laws_87 : decode cX3_laws 87 = .ok (.iconst 0, 1) := by decide +kernel
theorem dX3_laws_88 : decode cX3_laws 88 = .ok (.istore_n 3, 1) := by decide +kernel
theorem dX3_laws_89 : decode cX3_laws 89 = .ok (.iload_n 3, 1) := by decide +kernel
theorem dX3_laws_90 : decode cX3_laws 90 = .ok (.sipush 700, 3) := by decide +kernel
theorem dX3_laws_93 : decode cX3_laws 93 = .ok (.if_icmp .ge 143, 3) := by decide +kernel
theorem dX3_laws_96 : decode cX3_laws 96 = .ok (.aload_n 0, 1) := by decide +kernel
theorem dX3_laws_97 : decode cX3_laws 97 = .ok (.getfield 12, 3) := by decide +kernel
theorem dX3_laws_100 : decode cX3_laws 100 = .ok (.invokevirtual 100, 3) := by decide +kernel
theorem dX3_laws_103 : decode cX3_laws 103 = .ok (.iload_n 2, 1) := by decide +kernel
theorem dX3_laws_104 : decode cX3_laws 104 = .ok (.ifCond .ne 24, 3) := by decide +kernel
theorem dX3_laws_107 : decode cX3_laws 107 = .ok (.aload_n 0, 1) := by decide +kernel
theorem dX3_laws_108 : decode cX3_laws 108 = .ok (.getfield 189, 3) := by decide +kernel
theorem dX3_laws_111 : decode cX3_laws 111 = .ok (.ifCond .ne 17, 3) := by decide +kernel
theorem dX3_laws_114 : decode cX3_laws 114 = .ok (.aload_n 0, 1) := by decide +kernel
theorem dX3_laws_115 : decode cX3_laws 115 = .ok (.getfield 12, 3) := by decide +kernel
theorem dX3_laws_118 : decode cX3_laws 118 = .ok (.getfield 55, 3) := by decide +kernel
theorem dX3_laws_121 : decode cX3_laws 121 = .ok (.iconst 5, 1) := by decide +kernel
theorem dX3_laws_122 : decode cX3_laws 122 = .ok (.if_icmp .ne 6, 3) := by decide +kernel
theorem dX3_laws_125 : decode cX3_laws 125 = .ok (.goto 111, 3) := by decide +kernel
theorem dX3_laws_128 : decode cX3_laws 128 = .ok (.aload_n 0, 1) := by decide +kernel
theorem dX3_laws_129 : decode cX3_laws 129 = .ok (.getfield 12, 3) := by decide +kernel
theorem dX3_laws_132 : decode cX3_laws 132 = .ok (.getfield 55, 3) := by decide +kernel
theorem dX3_laws_135 : decode cX3_laws 135 = .ok (.iconst 4, 1) := by decide +kernel
theorem dX3_laws_136 : decode cX3_laws 136 = .ok (.if_icmp .eq 14, 3) := by decide +kernel
theorem dX3_laws_139 : decode cX3_laws 139 = .ok (.aload_n 0, 1) := by decide +kernel
theorem dX3_laws_140 : decode cX3_laws 140 = .ok (.getfield 12, 3) := by decide +kernel
theorem dX3_laws_143 : decode cX3_laws 143 = .ok (.getfield 55, 3) := by decide +kernel
theorem dX3_laws_146 : decode cX3_laws 146 = .ok (.iconst 3, 1) := by decide +kernel
theorem dX3_laws_147 : decode cX3_laws 147 = .ok (.if_icmp .ne 7, 3) := by decide +kernel
theorem dX3_laws_150 : decode cX3_laws 150 = .ok (.iconst 1, 1) := by decide +kernel
theorem dX3_laws_151 : decode cX3_laws 151 = .ok (.goto 4, 3) := by decide +kernel
theorem dX3_laws_154 : decode cX3_laws 154 = .ok (.iconst 0, 1) := by decide +kernel
theorem dX3_laws_155 : decode cX3_laws 155 = .ok (.istore 4, 2) := by decide +kernel
theorem dX3_laws_157 : decode cX3_laws 157 = .ok (.aload_n 0, 1) := by decide +kernel
theorem dX3_laws_158 : decode cX3_laws 158 = .ok (.getfield 12, 3) := by decide +kernel
theorem dX3_laws_161 : decode cX3_laws 161 = .ok (.getfield 55, 3) := by decide +kernel
theorem dX3_laws_164 : decode cX3_laws 164 = .ok (.bipush 8, 2) := by decide +kernel
theorem dX3_laws_166 : decode cX3_laws 166 = .ok (.if_icmp .ne 18, 3) := by decide +kernel
theorem dX3_laws_169 : decode cX3_laws 169 = .ok (.aload_n 0, 1) := by decide +kernel
theorem dX3_laws_170 : decode cX3_laws 170 = .ok (.getfield 12, 3) := by decide +kernel
theorem dX3_laws_173 : decode cX3_laws 173 = .ok (.getfield 73, 3) := by decide +kernel
theorem dX3_laws_176 : decode cX3_laws 176 = .ok (.iconst 5, 1) := by decide +kernel
theorem dX3_laws_177 : decode cX3_laws 177 = .ok (.if_icmp .eq 7, 3) := by decide +kernel
theorem dX3_laws_180 : decode cX3_laws 180 = .ok (.iconst 1, 1) := by decide +kernel
theorem dX3_laws_181 : decode cX3_laws 181 = .ok (.goto 4, 3) := by decide +kernel
theorem dX3_laws_184 : decode cX3_laws 184 = .ok (.iconst 0, 1) := by decide +kernel
theorem dX3_laws_185 : decode cX3_laws 185 = .ok (.istore 5, 2) := by decide +kernel
theorem dX3_laws_187 : decode cX3_laws 187 = .ok (.iload_n 2, 1) := by decide +kernel
theorem dX3_laws_188 : decode cX3_laws 188 = .ok (.ifCond .eq 13, 3) := by decide +kernel
theorem dX3_laws_191 : decode cX3_laws 191 = .ok (.aload_n 0, 1) := by decide +kernel
theorem dX3_laws_192 : decode cX3_laws 192 = .ok (.invokevirtual 192, 3) := by decide +kernel
theorem dX3_laws_195 : decode cX3_laws 195 = .ok (.ifCond .eq 13, 3) := by decide +kernel
theorem dX3_laws_198 : decode cX3_laws 198 = .ok (.goto 12, 3) := by decide +kernel
theorem dX3_laws_201 : decode cX3_laws 201 = .ok (.aload_n 0, 1) := by decide +kernel
theorem dX3_laws_202 : decode cX3_laws 202 = .ok (.invokevirtual 195, 3) := by decide +kernel
theorem dX3_laws_205 : decode cX3_laws 205 = .ok (.ifCond .ne 5, 3) := by decide +kernel
theorem dX3_laws_208 : decode cX3_laws 208 = .ok (.iconst 0, 1) := by decide +kernel
theorem dX3_laws_209 : decode cX3_laws 209 = .ok (.ireturn, 1) := by decide +kernel
theorem dX3_laws_210 : decode cX3_laws 210 = .ok (.iload_n 2, 1) := by decide +kernel
theorem dX3_laws_211 : decode cX3_laws 211 = .ok (.ifCond .eq 16, 3) := by decide +kernel
theorem dX3_laws_214 : decode cX3_laws 214 = .ok (.iload 4, 2) := by decide +kernel
theorem dX3_laws_216 : decode cX3_laws 216 = .ok (.ifCond .ne 7, 3) := by decide +kernel
theorem dX3_laws_219 : decode cX3_laws 219 = .ok (.iconst 1, 1) := by decide +kernel
theorem dX3_laws_220 : decode cX3_laws 220 = .ok (.goto 9, 3) := by decide +kernel
theorem dX3_laws_223 : decode cX3_laws 223 = .ok (.iconst 0, 1) := by decide +kernel
theorem dX3_laws_224 : decode cX3_laws 224 = .ok (.goto 5, 3) := by decide +kernel
theorem dX3_laws_227 : decode cX3_laws 227 = .ok (.iload 5, 2) := by decide +kernel
theorem dX3_laws_229 : decode cX3_laws 229 = .ok (.istore_n 2, 1) := by decide +kernel
theorem dX3_laws_230 : decode cX3_laws 230 = .ok (.iinc 3 1, 3) := by decide +kernel
theorem dX3_laws_233 : decode cX3_laws 233 = .ok (.goto (-144), 3) := by decide +kernel
theorem dX3_laws_236 : decode cX3_laws 236 = .ok (.aload_n 0, 1) := by decide +kernel
theorem dX3_laws_237 : decode cX3_laws 237 = .ok (.iconst 0, 1) := by decide +kernel
theorem dX3_laws_238 : decode cX3_laws 238 = .ok (.invokevirtual 198, 3) := by decide +kernel
theorem dX3_laws_241 : decode cX3_laws 241 = .ok (.aload_n 0, 1) := by decide +kernel
theorem dX3_laws_242 : decode cX3_laws 242 = .ok (.getfield 21, 3) := by decide +kernel
theorem dX3_laws_245 : decode cX3_laws 245 = .ok (.getfield 176, 3) := by decide +kernel
theorem dX3_laws_248 : decode cX3_laws 248 = .ok (.iload_n 1, 1) := by decide +kernel
theorem dX3_laws_249 : decode cX3_laws 249 = .ok (.invokevirtual 201, 3) := by decide +kernel
theorem dX3_laws_252 : decode cX3_laws 252 = .ok (.iconst 1, 1) := by decide +kernel
theorem dX3_laws_253 : decode cX3_laws 253 = .ok (.ireturn, 1) := by decide +kernel
theorem dX3_beginsPart_0 : decode cX3_beginsPart 0 = .ok (.aload_n 0, 1) := by decide +kernel
theorem dX3_beginsPart_1 : decode cX3_beginsPart 1 = .ok (.getfield 12, 3) := by decide +kernel
theorem dX3_beginsPart_4 : decode cX3_beginsPart 4 = .ok (.getfield 73, 3) := by decide +kernel
theorem dX3_beginsPart_7 : decode cX3_beginsPart 7 = .ok (.istore_n 1, 1) := by decide +kernel
theorem dX3_beginsPart_8 : decode cX3_beginsPart 8 = .ok (.aload_n 0, 1) := by decide +kernel
theorem dX3_beginsPart_9 : decode cX3_beginsPart 9 = .ok (.getfield 12, 3) := by decide +kernel
theorem dX3_beginsPart_12 : decode cX3_beginsPart 12 = .ok (.getfield 55, 3) := by decide +kernel
theorem dX3_beginsPart_15 : decode cX3_beginsPart 15 = .ok (.iconst 4, 1) := by decide +kernel
theorem dX3_beginsPart_16 : decode cX3_beginsPart 16 = .ok (.if_icmp .ne 36, 3) := by decide +kernel
theorem dX3_beginsPart_19 : decode cX3_beginsPart 19 = .ok (.aload_n 0, 1) := by decide +kernel
theorem dX3_beginsPart_20 : decode cX3_beginsPart 20 = .ok (.iconst 0, 1) := by decide +kernel
theorem dX3_beginsPart_21 : decode cX3_beginsPart 21 = .ok (.sipush 9999, 3) := by decide +kernel
theorem dX3_beginsPart_24 : decode cX3_beginsPart 24 = .ok (.invokevirtual 126, 3) := by decide +kernel
theorem dX3_beginsPart_27 : decode cX3_beginsPart 27 = .ok (.ifCond .eq 23, 3) := by decide +kernel
theorem dX3_beginsPart_30 : decode cX3_beginsPart 30 = .ok (.aload_n 0, 1) := by decide +kernel
theorem dX3_beginsPart_31 : decode cX3_beginsPart 31 = .ok (.invokevirtual 204, 3) := by decide +kernel
theorem dX3_beginsPart_34 : decode cX3_beginsPart 34 = .ok (.ifCond .eq 16, 3) := by decide +kernel
theorem dX3_beginsPart_37 : decode cX3_beginsPart 37 = .ok (.aload_n 0, 1) := by decide +kernel
theorem dX3_beginsPart_38 : decode cX3_beginsPart 38 = .ok (.iconst 0, 1) := by decide +kernel
theorem dX3_beginsPart_39 : decode cX3_beginsPart 39 = .ok (.iload_n 1, 1) := by decide +kernel
theorem dX3_beginsPart_40 : decode cX3_beginsPart 40 = .ok (.invokevirtual 207, 3) := by decide +kernel
theorem dX3_beginsPart_43 : decode cX3_beginsPart 43 = .ok (.ifCond .eq 7, 3) := by decide +kernel
theorem dX3_beginsPart_46 : decode cX3_beginsPart 46 = .ok (.iconst 1, 1) := by decide +kernel
theorem dX3_beginsPart_47 : decode cX3_beginsPart 47 = .ok (.goto 4, 3) := by decide +kernel
theorem dX3_beginsPart_50 : decode cX3_beginsPart 50 = .ok (.iconst 0, 1) := by decide +kernel
theorem dX3_beginsPart_51 : decode cX3_beginsPart 51 = .ok (.ireturn, 1) := by decide +kernel
theorem dX3_beginsPart_52 : decode cX3_beginsPart 52 = .ok (.aload_n 0, 1) := by decide +kernel
theorem dX3_beginsPart_53 : decode cX3_beginsPart 53 = .ok (.getfield 12, 3) := by decide +kernel
theorem dX3_beginsPart_56 : decode cX3_beginsPart 56 = .ok (.getfield 55, 3) := by decide +kernel
theorem dX3_beginsPart_59 : decode cX3_beginsPart 59 = .ok (.iconst 3, 1) := by decide +kernel
theorem dX3_beginsPart_60 : decode cX3_beginsPart 60 = .ok (.if_icmp .ne 34, 3) := by decide +kernel
theorem dX3_beginsPart_63 : decode cX3_beginsPart 63 = .ok (.iload_n 1, 1) := by decide +kernel
theorem dX3_beginsPart_64 : decode cX3_beginsPart 64 = .ok (.bipush 13, 2) := by decide +kernel
theorem dX3_beginsPart_66 : decode cX3_beginsPart 66 = .ok (.if_icmp .lt 28, 3) := by decide +kernel
theorem dX3_beginsPart_69 : decode cX3_beginsPart 69 = .ok (.aload_n 0, 1) := by decide +kernel
theorem dX3_beginsPart_70 : decode cX3_beginsPart 70 = .ok (.invokevirtual 204, 3) := by decide +kernel
theorem dX3_beginsPart_73 : decode cX3_beginsPart 73 = .ok (.ifCond .eq 19, 3) := by decide +kernel
theorem dX3_beginsPart_76 : decode cX3_beginsPart 76 = .ok (.aload_n 0, 1) := by decide +kernel
theorem dX3_beginsPart_77 : decode cX3_beginsPart 77 = .ok (.iconst 1, 1) := by decide +kernel
theorem dX3_beginsPart_78 : decode cX3_beginsPart 78 = .ok (.iload_n 1, 1) := by decide +kernel
theorem dX3_beginsPart_79 : decode cX3_beginsPart 79 = .ok (.bipush 13, 2) := by decide +kernel
theorem dX3_beginsPart_81 : decode cX3_beginsPart 81 = .ok (.isub, 1) := by decide +kernel
theorem dX3_beginsPart_82 : decode cX3_beginsPart 82 = .ok (.invokevirtual 207, 3) := by decide +kernel
theorem dX3_beginsPart_85 : decode cX3_beginsPart 85 = .ok (.ifCond .eq 7, 3) := by decide +kernel
theorem dX3_beginsPart_88 : decode cX3_beginsPart 88 = .ok (.iconst 1, 1) := by decide +kernel
theorem dX3_beginsPart_89 : decode cX3_beginsPart 89 = .ok (.goto 4, 3) := by decide +kernel
theorem dX3_beginsPart_92 : decode cX3_beginsPart 92 = .ok (.iconst 0, 1) := by decide +kernel
theorem dX3_beginsPart_93 : decode cX3_beginsPart 93 = .ok (.ireturn, 1) := by decide +kernel
theorem dX3_beginsPart_94 : decode cX3_beginsPart 94 = .ok (.aload_n 0, 1) := by decide +kernel
theorem dX3_beginsPart_95 : decode cX3_beginsPart 95 = .ok (.getfield 12, 3) := by decide +kernel
theorem dX3_beginsPart_98 : decode cX3_beginsPart 98 = .ok (.getfield 55, 3) := by decide +kernel
