/-! what stands at each place of a code (printed rows of NAMES) -/
theorem dX12_planned_39 : decode cX12_planned 39 = .ok (.iconst 0, 1) := by decide +kernel
theorem dX12_planned_40 : decode cX12_planned 40 = .ok (.iload_n 1, 1) := by decide +kernel
theorem dX12_planned_41 : decode cX12_planned 41 = .ok (.invokevirtual 440, 3) := by decide +kernel
theorem dX12_planned_44 : decode cX12_planned 44 = .ok (.ifCond .eq 5, 3) := by decide +kernel
theorem dX12_planned_47 : decode cX12_planned 47 = .ok (.iload_n 1, 1) := by decide +kernel
theorem dX12_planned_48 : decode cX12_planned 48 = .ok (.ireturn, 1) := by decide +kernel
theorem dX12_planned_49 : decode cX12_planned 49 = .ok (.iinc 1 1, 3) := by decide +kernel
theorem dX12_planned_52 : decode cX12_planned 52 = .ok (.goto (-20), 3) := by decide +kernel
theorem dX12_planned_55 : decode cX12_planned 55 = .ok (.bipush (-2), 2) := by decide +kernel
theorem dX12_planned_57 : decode cX12_planned 57 = .ok (.ireturn, 1) := by decide +kernel
theorem dX12_plan_0 : decode cX12_plan 0 = .ok (.aload_n 0, 1) := by decide +kernel
theorem dX12_plan_1 : decode cX12_plan 1 = .ok (.iconst 0, 1) := by decide +kernel
theorem dX12_plan_2 : decode cX12_plan 2 = .ok (.putfield 151, 3) := by decide +kernel
theorem dX12_plan_5 : decode cX12_plan 5 = .ok (.iload_n 1, 1) := by decide +kernel
theorem dX12_plan_6 : decode cX12_plan 6 = .ok (.ifCond .lt 9, 3) := by decide +kernel
theorem dX12_plan_9 : decode cX12_plan 9 = .ok (.iload_n 1, 1) := by decide +kernel
theorem dX12_plan_10 : decode cX12_plan 10 = .ok (.bipush 6, 2) := by decide +kernel
theorem dX12_plan_12 : decode cX12_plan 12 = .ok (.if_icmp .le 5, 3) := by decide +kernel
theorem dX12_plan_15 : decode cX12_plan 15 = .ok (.iconst (-1), 1) := by decide +kernel
theorem dX12_plan_16 : decode cX12_plan 16 = .ok (.ireturn, 1) := by decide +kernel
theorem dX12_plan_17 : decode cX12_plan 17 = .ok (.aload_n 0, 1) := by decide +kernel
theorem dX12_plan_18 : decode cX12_plan 18 = .ok (.invokevirtual 443, 3) := by decide +kernel
theorem dX12_plan_21 : decode cX12_plan 21 = .ok (.istore_n 2, 1) := by decide +kernel
theorem dX12_plan_22 : decode cX12_plan 22 = .ok (.iload_n 2, 1) := by decide +kernel
theorem dX12_plan_23 : decode cX12_plan 23 = .ok (.ifCond .lt 9, 3) := by decide +kernel
theorem dX12_plan_26 : decode cX12_plan 26 = .ok (.iload_n 1, 1) := by decide +kernel
theorem dX12_plan_27 : decode cX12_plan 27 = .ok (.bipush 6, 2) := by decide +kernel
theorem dX12_plan_29 : decode cX12_plan 29 = .ok (.if_icmp .ne 5, 3) := by decide +kernel
theorem dX12_plan_32 : decode cX12_plan 32 = .ok (.iload_n 2, 1) := by decide +kernel
theorem dX12_plan_33 : decode cX12_plan 33 = .ok (.ireturn, 1) := by decide +kernel
theorem dX12_plan_34 : decode cX12_plan 34 = .ok (.iload_n 1, 1) := by decide +kernel
theorem dX12_plan_35 : decode cX12_plan 35 = .ok (.aload_n 0, 1) := by decide +kernel
theorem dX12_plan_36 : decode cX12_plan 36 = .ok (.getfield 13, 3) := by decide +kernel
theorem dX12_plan_39 : decode cX12_plan 39 = .ok (.iconst 0, 1) := by decide +kernel
theorem dX12_plan_40 : decode cX12_plan 40 = .ok (.iaload, 1) := by decide +kernel
theorem dX12_plan_41 : decode cX12_plan 41 = .ok (.if_icmp .ge 12, 3) := by decide +kernel
theorem dX12_plan_44 : decode cX12_plan 44 = .ok (.aload_n 0, 1) := by decide +kernel
theorem dX12_plan_45 : decode cX12_plan 45 = .ok (.getfield 111, 3) := by decide +kernel
theorem dX12_plan_48 : decode cX12_plan 48 = .ok (.iload_n 1, 1) := by decide +kernel
theorem dX12_plan_49 : decode cX12_plan 49 = .ok (.iaload, 1) := by decide +kernel
theorem dX12_plan_50 : decode cX12_plan 50 = .ok (.goto 5, 3) := by decide +kernel
theorem dX12_plan_53 : decode cX12_plan 53 = .ok (.bipush (-2), 2) := by decide +kernel
theorem dX12_plan_55 : decode cX12_plan 55 = .ok (.ireturn, 1) := by decide +kernel
theorem dX12_lays_0 : decode cX12_lays 0 = .ok (.iload_n 1, 1) := by decide +kernel
theorem dX12_lays_1 : decode cX12_lays 1 = .ok (.iload_n 2, 1) := by decide +kernel
theorem dX12_lays_2 : decode cX12_lays 2 = .ok (.if_icmp .ne 56, 3) := by decide +kernel
theorem dX12_lays_5 : decode cX12_lays 5 = .ok (.aload_n 0, 1) := by decide +kernel
theorem dX12_lays_6 : decode cX12_lays 6 = .ok (.bipush 23, 2) := by decide +kernel
theorem dX12_lays_8 : decode cX12_lays 8 = .ok (.iload_n 2, 1) := by decide +kernel
theorem dX12_lays_9 : decode cX12_lays 9 = .ok (.iadd, 1) := by decide +kernel
theorem dX12_lays_10 : decode cX12_lays 10 = .ok (.invokevirtual 350, 3) := by decide +kernel
theorem dX12_lays_13 : decode cX12_lays 13 = .ok (.istore_n 3, 1) := by decide +kernel
theorem dX12_lays_14 : decode cX12_lays 14 = .ok (.iload_n 3, 1) := by decide +kernel
theorem dX12_lays_15 : decode cX12_lays 15 = .ok (.aload_n 0, 1) := by decide +kernel
theorem dX12_lays_16 : decode cX12_lays 16 = .ok (.getfield 446, 3) := by decide +kernel
theorem dX12_lays_19 : decode cX12_lays 19 = .ok (.if_icmp .gt 4, 3) := by decide +kernel
theorem dX12_lays_22 : decode cX12_lays 22 = .ok (.return_, 1) := by decide +kernel
theorem dX12_lays_23 : decode cX12_lays 23 = .ok (.aload_n 0, 1) := by decide +kernel
theorem dX12_lays_24 : decode cX12_lays 24 = .ok (.iload_n 3, 1) := by decide +kernel
theorem dX12_lays_25 : decode cX12_lays 25 = .ok (.putfield 446, 3) := by decide +kernel
theorem dX12_lays_28 : decode cX12_lays 28 = .ok (.iconst 0, 1) := by decide +kernel
theorem dX12_lays_29 : decode cX12_lays 29 = .ok (.istore 4, 2) := by decide +kernel
theorem dX12_lays_31 : decode cX12_lays 31 = .ok (.iload 4, 2) := by decide +kernel
theorem dX12_lays_33 : decode cX12_lays 33 = .ok (.iload_n 2, 1) := by decide +kernel
theorem dX12_lays_34 : decode cX12_lays 34 = .ok (.if_icmp .ge 23, 3) := by decide +kernel
theorem dX12_lays_37 : decode cX12_lays 37 = .ok (.aload_n 0, 1) := by decide +kernel
theorem dX12_lays_38 : decode cX12_lays 38 = .ok (.getfield 117, 3) := by decide +kernel
theorem dX12_lays_41 : decode cX12_lays 41 = .ok (.iload 4, 2) := by decide +kernel
theorem dX12_lays_43 : decode cX12_lays 43 = .ok (.aload_n 0, 1) := by decide +kernel
theorem dX12_lays_44 : decode cX12_lays 44 = .ok (.getfield 114, 3) := by decide +kernel
theorem dX12_lays_47 : decode cX12_lays 47 = .ok (.iload 4, 2) := by decide +kernel
theorem dX12_lays_49 : decode cX12_lays 49 = .ok (.iaload, 1) := by decide +kernel
theorem dX12_lays_50 : decode cX12_lays 50 = .ok (.iastore, 1) := by decide +kernel
theorem dX12_lays_51 : decode cX12_lays 51 = .ok (.iinc 4 1, 3) := by decide +kernel
theorem dX12_lays_54 : decode cX12_lays 54 = .ok (.goto (-23), 3) := by decide +kernel
theorem dX12_lays_57 : decode cX12_lays 57 = .ok (.return_, 1) := by decide +kernel
theorem dX12_lays_58 : decode cX12_lays 58 = .ok (.iconst 0, 1) := by decide +kernel
theorem dX12_lays_59 : decode cX12_lays 59 = .ok (.istore_n 3, 1) := by decide +kernel
theorem dX12_lays_60 : decode cX12_lays 60 = .ok (.iload_n 3, 1) := by decide +kernel
theorem dX12_lays_61 : decode cX12_lays 61 = .ok (.aload_n 0, 1) := by decide +kernel
theorem dX12_lays_62 : decode cX12_lays 62 = .ok (.getfield 13, 3) := by decide +kernel
theorem dX12_lays_65 : decode cX12_lays 65 = .ok (.iconst 0, 1) := by decide +kernel
theorem dX12_lays_66 : decode cX12_lays 66 = .ok (.iaload, 1) := by decide +kernel
theorem dX12_lays_67 : decode cX12_lays 67 = .ok (.if_icmp .ge 61, 3) := by decide +kernel
theorem dX12_lays_70 : decode cX12_lays 70 = .ok (.aload_n 0, 1) := by decide +kernel
theorem dX12_lays_71 : decode cX12_lays 71 = .ok (.getfield 114, 3) := by decide +kernel
theorem dX12_lays_74 : decode cX12_lays 74 = .ok (.iload_n 1, 1) := by decide +kernel
theorem dX12_lays_75 : decode cX12_lays 75 = .ok (.iload_n 3, 1) := by decide +kernel
theorem dX12_lays_76 : decode cX12_lays 76 = .ok (.iastore, 1) := by decide +kernel
theorem dX12_lays_77 : decode cX12_lays 77 = .ok (.aload_n 0, 1) := by decide +kernel
theorem dX12_lays_78 : decode cX12_lays 78 = .ok (.bipush 23, 2) := by decide +kernel
theorem dX12_lays_80 : decode cX12_lays 80 = .ok (.iload_n 1, 1) := by decide +kernel
theorem dX12_lays_81 : decode cX12_lays 81 = .ok (.iadd, 1) := by decide +kernel
theorem dX12_lays_82 : decode cX12_lays 82 = .ok (.iconst 1, 1) := by decide +kernel
theorem dX12_lays_83 : decode cX12_lays 83 = .ok (.iadd, 1) := by decide +kernel
theorem dX12_lays_84 : decode cX12_lays 84 = .ok (.bipush 23, 2) := by decide +kernel
theorem dX12_lays_86 : decode cX12_lays 86 = .ok (.iload_n 1, 1) := by decide +kernel
theorem dX12_lays_87 : decode cX12_lays 87 = .ok (.iadd, 1) := by decide +kernel
theorem dX12_lays_88 : decode cX12_lays 88 = .ok (.invokevirtual 421, 3) := by decide +kernel
theorem dX12_lays_91 : decode cX12_lays 91 = .ok (.aload_n 0, 1) := by decide +kernel
theorem dX12_lays_92 : decode cX12_lays 92 = .ok (.getfield 75, 3) := by decide +kernel
theorem dX12_lays_95 : decode cX12_lays 95 = .ok (.bipush 23, 2) := by decide +kernel
theorem dX12_lays_97 : decode cX12_lays 97 = .ok (.iload_n 1, 1) := by decide +kernel
theorem dX12_lays_98 : decode cX12_lays 98 = .ok (.iadd, 1) := by decide +kernel
theorem dX12_lays_99 : decode cX12_lays 99 = .ok (.iconst 1, 1) := by decide +kernel
theorem dX12_lays_100 : decode cX12_lays 100 = .ok (.iadd, 1) := by decide +kernel
theorem dX12_lays_101 : decode cX12_lays 101 = .ok (.iload_n 3, 1) := by decide +kernel
theorem dX12_lays_102 : decode cX12_lays 102 = .ok (.iastore, 1) := by decide +kernel
theorem dX12_lays_103 : decode cX12_lays 103 = .ok (.aload_n 0, 1) := by decide +kernel
theorem dX12_lays_104 : decode cX12_lays 104 = .ok (.bipush 23, 2) := by decide +kernel
theorem dX12_lays_106 : decode cX12_lays 106 = .ok (.iload_n 1, 1) := by decide +kernel
theorem dX12_lays_107 : decode cX12_lays 107 = .ok (.iadd, 1) := by decide +kernel
theorem dX12_lays_108 : decode cX12_lays 108 = .ok (.iconst 1, 1) := by decide +kernel
theorem dX12_lays_109 : decode cX12_lays 109 = .ok (.iadd, 1) := by decide +kernel
theorem dX12_lays_110 : decode cX12_lays 110 = .ok (.iconst 0, 1) := by decide +kernel
theorem dX12_lays_111 : decode cX12_lays 111 = .ok (.invokevirtual 401, 3) := by decide +kernel
theorem dX12_lays_114 : decode cX12_lays 114 = .ok (.aload_n 0, 1) := by decide +kernel
theorem dX12_lays_115 : decode cX12_lays 115 = .ok (.iload_n 1, 1) := by decide +kernel
theorem dX12_lays_116 : decode cX12_lays 116 = .ok (.iconst 1, 1) := by decide +kernel
theorem dX12_lays_117 : decode cX12_lays 117 = .ok (.iadd, 1) := by decide +kernel
theorem dX12_lays_118 : decode cX12_lays 118 = .ok (.iload_n 2, 1) := by decide +kernel
theorem dX12_lays_119 : decode cX12_lays 119 = .ok (.invokevirtual 449, 3) := by decide +kernel
theorem dX12_lays_122 : decode cX12_lays 122 = .ok (.iinc 3 1, 3) := by decide +kernel
theorem dX12_lays_125 : decode cX12_lays 125 = .ok (.goto (-65), 3) := by decide +kernel
theorem dX12_lays_128 : decode cX12_lays 128 = .ok (.return_, 1) := by decide +kernel
theorem dX12_best_0 : decode cX12_best 0 = .ok (.aload_n 0, 1) := by decide +kernel
theorem dX12_best_1 : decode cX12_best 1 = .ok (.iconst 0, 1) := by decide +kernel
theorem dX12_best_2 : decode cX12_best 2 = .ok (.putfield 151, 3) := by decide +kernel
theorem dX12_best_5 : decode cX12_best 5 = .ok (.iload_n 1, 1) := by decide +kernel
theorem dX12_best_6 : decode cX12_best 6 = .ok (.iconst 1, 1) := by decide +kernel
theorem dX12_best_7 : decode cX12_best 7 = .ok (.if_icmp .lt 19, 3) := by decide +kernel
theorem dX12_best_10 : decode cX12_best 10 = .ok (.iload_n 1, 1) := by decide +kernel
theorem dX12_best_11 : decode cX12_best 11 = .ok (.bipush 6, 2) := by decide +kernel
theorem dX12_best_13 : decode cX12_best 13 = .ok (.if_icmp .gt 13, 3) := by decide +kernel
theorem dX12_best_16 : decode cX12_best 16 = .ok (.iload_n 2, 1) := by decide +kernel
theorem dX12_best_17 : decode cX12_best 17 = .ok (.ifCond .lt 9, 3) := by decide +kernel
theorem dX12_best_20 : decode cX12_best 20 = .ok (.iload_n 2, 1) := by decide +kernel
theorem dX12_best_21 : decode cX12_best 21 = .ok (.bipush 6, 2) := by decide +kernel
theorem dX12_best_23 : decode cX12_best 23 = .ok (.if_icmp .le 5, 3) := by decide +kernel
theorem dX12_best_26 : decode cX12_best 26 = .ok (.iconst (-1), 1) := by decide +kernel
theorem dX12_best_27 : decode cX12_best 27 = .ok (.ireturn, 1) := by decide +kernel
theorem dX12_best_28 : decode cX12_best 28 = .ok (.aload_n 0, 1) := by decide +kernel
theorem dX12_best_29 : decode cX12_best 29 = .ok (.getfield 13, 3) := by decide +kernel
theorem dX12_best_32 : decode cX12_best 32 = .ok (.iconst 0, 1) := by decide +kernel
theorem dX12_best_33 : decode cX12_best 33 = .ok (.iaload, 1) := by decide +kernel
theorem dX12_best_34 : decode cX12_best 34 = .ok (.ifCond .ne 6, 3) := by decide +kernel
theorem dX12_best_37 : decode cX12_best 37 = .ok (.bipush (-2), 2) := by decide +kernel
theorem dX12_best_39 : decode cX12_best 39 = .ok (.ireturn, 1) := by decide +kernel
theorem dX12_best_40 : decode cX12_best 40 = .ok (.aload_n 0, 1) := by decide +kernel
theorem dX12_best_41 : decode cX12_best 41 = .ok (.bipush 23, 2) := by decide +kernel
theorem dX12_best_43 : decode cX12_best 43 = .ok (.iconst 0, 1) := by decide +kernel
theorem dX12_best_44 : decode cX12_best 44 = .ok (.invokevirtual 421, 3) := by decide +kernel
theorem dX12_best_47 : decode cX12_best 47 = .ok (.aload_n 0, 1) := by decide +kernel
theorem dX12_best_48 : decode cX12_best 48 = .ok (.iconst (-1), 1) := by decide +kernel
theorem dX12_best_49 : decode cX12_best 49 = .ok (.putfield 446, 3) := by decide +kernel
theorem dX12_best_52 : decode cX12_best 52 = .ok (.aload_n 0, 1) := by decide +kernel
theorem dX12_best_53 : decode cX12_best 53 = .ok (.iconst 0, 1) := by decide +kernel
theorem dX12_best_54 : decode cX12_best 54 = .ok (.iload_n 1, 1) := by decide +kernel
theorem dX12_best_55 : decode cX12_best 55 = .ok (.invokevirtual 449, 3) := by decide +kernel
theorem dX12_best_58 : decode cX12_best 58 = .ok (.iload_n 2, 1) := by decide +kernel
theorem dX12_best_59 : decode cX12_best 59 = .ok (.bipush 6, 2) := by decide +kernel
theorem dX12_best_61 : decode cX12_best 61 = .ok (.if_icmp .ne 10, 3) := by decide +kernel
theorem dX12_best_64 : decode cX12_best 64 = .ok (.aload_n 0, 1) := by decide +kernel
theorem dX12_best_65 : decode cX12_best 65 = .ok (.getfield 446, 3) := by decide +kernel
theorem dX12_best_68 : decode cX12_best 68 = .ok (.goto 19, 3) := by decide +kernel
theorem dX12_best_71 : decode cX12_best 71 = .ok (.iload_n 2, 1) := by decide +kernel
theorem dX12_best_72 : decode cX12_best 72 = .ok (.iload_n 1, 1) := by decide +kernel
theorem dX12_best_73 : decode cX12_best 73 = .ok (.if_icmp .ge 12, 3) := by decide +kernel
theorem dX12_best_76 : decode cX12_best 76 = .ok (.aload_n 0, 1) := by decide +kernel
theorem dX12_best_77 : decode cX12_best 77 = .ok (.getfield 117, 3) := by decide +kernel
theorem dX12_best_80 : decode cX12_best 80 = .ok (.iload_n 2, 1) := by decide +kernel
theorem dX12_best_81 : decode cX12_best 81 = .ok (.iaload, 1) := by decide +kernel
theorem dX12_best_82 : decode cX12_best 82 = .ok (.goto 5, 3) := by decide +kernel
theorem dX12_best_85 : decode cX12_best 85 = .ok (.bipush (-2), 2) := by decide +kernel
theorem dX12_best_87 : decode cX12_best 87 = .ok (.ireturn, 1) := by decide +kernel
theorem dX12_apart_0 : decode cX12_apart 0 = .ok (.iload_n 0, 1) := by decide +kernel
theorem dX12_apart_1 : decode cX12_apart 1 = .ok (.iload_n 1, 1) := by decide +kernel
theorem dX12_apart_2 : decode cX12_apart 2 = .ok (.if_icmp .ge 9, 3) := by decide +kernel
theorem dX12_apart_5 : decode cX12_apart 5 = .ok (.iload_n 1, 1) := by decide +kernel
theorem dX12_apart_6 : decode cX12_apart 6 = .ok (.iload_n 0, 1) := by decide +kernel
theorem dX12_apart_7 : decode cX12_apart 7 = .ok (.isub, 1) := by decide +kernel
theorem dX12_apart_8 : decode cX12_apart 8 = .ok (.goto 6, 3) := by decide +kernel
theorem dX12_apart_11 : decode cX12_apart 11 = .ok (.iload_n 0, 1) := by decide +kernel
theorem dX12_apart_12 : decode cX12_apart 12 = .ok (.iload_n 1, 1) := by decide +kernel
theorem dX12_apart_13 : decode cX12_apart 13 = .ok (.isub, 1) := by decide +kernel
theorem dX12_apart_14 : decode cX12_apart 14 = .ok (.ireturn, 1) := by decide +kernel
theorem dX12_mannerAt_0 : decode cX12_mannerAt 0 = .ok (.aload_n 0, 1) := by decide +kernel
theorem dX12_mannerAt_1 : decode cX12_mannerAt 1 = .ok (.getfield 22, 3) := by decide +kernel
theorem dX12_mannerAt_4 : decode cX12_mannerAt 4 = .ok (.aload_n 0, 1) := by decide +kernel
theorem dX12_mannerAt_5 : decode cX12_mannerAt 5 = .ok (.getfield 96, 3) := by decide +kernel
theorem dX12_mannerAt_8 : decode cX12_mannerAt 8 = .ok (.iload_n 1, 1) := by decide +kernel
theorem dX12_mannerAt_9 : decode cX12_mannerAt 9 = .ok (.iaload, 1) := by decide +kernel
theorem dX12_mannerAt_10 : decode cX12_mannerAt 10 = .ok (.iaload, 1) := by decide +kernel
theorem dX12_mannerAt_11 : decode cX12_mannerAt 11 = .ok (.ireturn, 1) := by decide +kernel
theorem dX12_wantAt_0 : decode cX12_wantAt 0 = .ok (.iconst (-1), 1) := by decide +kernel
theorem dX12_wantAt_1 : decode cX12_wantAt 1 = .ok (.istore_n 2, 1) := by decide +kernel
theorem dX12_wantAt_2 : decode cX12_wantAt 2 = .ok (.iconst 0, 1) := by decide +kernel
theorem dX12_wantAt_3 : decode cX12_wantAt 3 = .ok (.istore_n 3, 1) := by decide +kernel
theorem dX12_wantAt_4 : decode cX12_wantAt 4 = .ok (.iload_n 3, 1) := by decide +kernel
theorem dX12_wantAt_5 : decode cX12_wantAt 5 = .ok (.aload_n 0, 1) := by decide +kernel
theorem dX12_wantAt_6 : decode cX12_wantAt 6 = .ok (.getfield 13, 3) := by decide +kernel
theorem dX12_wantAt_9 : decode cX12_wantAt 9 = .ok (.iconst 1, 1) := by decide +kernel
theorem dX12_wantAt_10 : decode cX12_wantAt 10 = .ok (.iaload, 1) := by decide +kernel
theorem dX12_wantAt_11 : decode cX12_wantAt 11 = .ok (.if_icmp .ge 50, 3) := by decide +kernel
theorem dX12_wantAt_14 : decode cX12_wantAt 14 = .ok (.aload_n 0, 1) := by decide +kernel
theorem dX12_wantAt_15 : decode cX12_wantAt 15 = .ok (.getfield 120, 3) := by decide +kernel
theorem dX12_wantAt_18 : decode cX12_wantAt 18 = .ok (.iload_n 3, 1) := by decide +kernel
theorem dX12_wantAt_19 : decode cX12_wantAt 19 = .ok (.iaload, 1) := by decide +kernel
theorem dX12_wantAt_20 : decode cX12_wantAt 20 = .ok (.iconst (-1), 1) := by decide +kernel
theorem dX12_wantAt_21 : decode cX12_wantAt 21 = .ok (.if_icmp .eq 6, 3) := by decide +kernel
theorem dX12_wantAt_24 : decode cX12_wantAt 24 = .ok (.goto 31, 3) := by decide +kernel
theorem dX12_wantAt_27 : decode cX12_wantAt 27 = .ok (.iload_n 2, 1) := by decide +kernel
theorem dX12_wantAt_28 : decode cX12_wantAt 28 = .ok (.iconst (-1), 1) := by decide +kernel
theorem dX12_wantAt_29 : decode cX12_wantAt 29 = .ok (.if_icmp .eq 24, 3) := by decide +kernel
theorem dX12_wantAt_32 : decode cX12_wantAt 32 = .ok (.iload_n 3, 1) := by decide +kernel
theorem dX12_wantAt_33 : decode cX12_wantAt 33 = .ok (.aload_n 0, 1) := by decide +kernel
theorem dX12_wantAt_34 : decode cX12_wantAt 34 = .ok (.iload_n 1, 1) := by decide +kernel
theorem dX12_wantAt_35 : decode cX12_wantAt 35 = .ok (.invokevirtual 452, 3) := by decide +kernel
theorem dX12_wantAt_38 : decode cX12_wantAt 38 = .ok (.invokestatic 455, 3) := by decide +kernel
theorem dX12_wantAt_41 : decode cX12_wantAt 41 = .ok (.iload_n 2, 1) := by decide +kernel
theorem dX12_wantAt_42 : decode cX12_wantAt 42 = .ok (.aload_n 0, 1) := by decide +kernel
theorem dX12_wantAt_43 : decode cX12_wantAt 43 = .ok (.iload_n 1, 1) := by decide +kernel
theorem dX12_wantAt_44 : decode cX12_wantAt 44 = .ok (.invokevirtual 452, 3) := by decide +kernel
theorem dX12_wantAt_47 : decode cX12_wantAt 47 = .ok (.invokestatic 455, 3) := by decide +kernel
theorem dX12_wantAt_50 : decode cX12_wantAt 50 = .ok (.if_icmp .ge 5, 3) := by decide +kernel
theorem dX12_wantAt_53 : decode cX12_wantAt 53 = .ok (.iload_n 3, 1) := by decide +kernel
theorem dX12_wantAt_54 : decode cX12_wantAt 54 = .ok (.istore_n 2, 1) := by decide +kernel
theorem dX12_wantAt_55 : decode cX12_wantAt 55 = .ok (.iinc 3 1, 3) := by decide +kernel
theorem dX12_wantAt_58 : decode cX12_wantAt 58 = .ok (.goto (-54), 3) := by decide +kernel
theorem dX12_wantAt_61 : decode cX12_wantAt 61 = .ok (.iload_n 2, 1) := by decide +kernel
theorem dX12_wantAt_62 : decode cX12_wantAt 62 = .ok (.ireturn, 1) := by decide +kernel
theorem dX12_closes_0 : decode cX12_closes 0 = .ok (.iconst 0, 1) := by decide +kernel
theorem dX12_closes_1 : decode cX12_closes 1 = .ok (.istore_n 2, 1) := by decide +kernel
theorem dX12_closes_2 : decode cX12_closes 2 = .ok (.iload_n 1, 1) := by decide +kernel
theorem dX12_closes_3 : decode cX12_closes 3 = .ok (.istore_n 3, 1) := by decide +kernel
theorem dX12_closes_4 : decode cX12_closes 4 = .ok (.iconst 0, 1) := by decide +kernel
theorem dX12_closes_5 : decode cX12_closes 5 = .ok (.istore 4, 2) := by decide +kernel
theorem dX12_closes_7 : decode cX12_closes 7 = .ok (.iload 4, 2) := by decide +kernel
theorem dX12_closes_9 : decode cX12_closes 9 = .ok (.aload_n 0, 1) := by decide +kernel
theorem dX12_closes_10 : decode cX12_closes 10 = .ok (.getfield 13, 3) := by decide +kernel
theorem dX12_closes_13 : decode cX12_closes 13 = .ok (.iconst 1, 1) := by decide +kernel
theorem dX12_closes_14 : decode cX12_closes 14 = .ok (.iaload, 1) := by decide +kernel
theorem dX12_closes_15 : decode cX12_closes 15 = .ok (.if_icmp .ge 37, 3) := by decide +kernel
theorem dX12_closes_18 : decode cX12_closes 18 = .ok (.aload_n 0, 1) := by decide +kernel
theorem dX12_closes_19 : decode cX12_closes 19 = .ok (.getfield 123, 3) := by decide +kernel
theorem dX12_closes_22 : decode cX12_closes 22 = .ok (.iload 4, 2) := by decide +kernel
theorem dX12_closes_24 : decode cX12_closes 24 = .ok (.aload_n 0, 1) := by decide +kernel
theorem dX12_closes_25 : decode cX12_closes 25 = .ok (.getfield 120, 3) := by decide +kernel
theorem dX12_closes_28 : decode cX12_closes 28 = .ok (.iload 4, 2) := by decide +kernel
theorem dX12_closes_30 : decode cX12_closes 30 = .ok (.iaload, 1) := by decide +kernel
theorem dX12_closes_31 : decode cX12_closes 31 = .ok (.iconst (-1), 1) := by decide +kernel
theorem dX12_closes_32 : decode cX12_closes 32 = .ok (.if_icmp .ne 12, 3) := by decide +kernel
theorem dX12_closes_35 : decode cX12_closes 35 = .ok (.aload_n 0, 1) := by decide +kernel
theorem dX12_closes_36 : decode cX12_closes 36 = .ok (.iload 4, 2) := by decide +kernel
theorem dX12_closes_38 : decode cX12_closes 38 = .ok (.invokevirtual 458, 3) := by decide +kernel
theorem dX12_closes_41 : decode cX12_closes 41 = .ok (.goto 4, 3) := by decide +kernel
theorem dX12_closes_44 : decode cX12_closes 44 = .ok (.iconst (-1), 1) := by decide +kernel
theorem dX12_closes_45 : decode cX12_closes 45 = .ok (.iastore, 1) := by decide +kernel
theorem dX12_closes_46 : decode cX12_closes 46 = .ok (.iinc 4 1, 3) := by decide +kernel
theorem dX12_closes_49 : decode cX12_closes 49 = .ok (.goto (-42), 3) := by decide +kernel
theorem dX12_closes_52 : decode cX12_closes 52 = .ok (.iload_n 2, 1) := by decide +kernel
theorem dX12_closes_53 : decode cX12_closes 53 = .ok (.iload_n 3, 1) := by decide +kernel
theorem dX12_closes_54 : decode cX12_closes 54 = .ok (.ishr, 1) := by decide +kernel
theorem dX12_closes_55 : decode cX12_closes 55 = .ok (.iconst 1, 1) := by decide +kernel
theorem dX12_closes_56 : decode cX12_closes 56 = .ok (.iand, 1) := by decide +kernel
theorem dX12_closes_57 : decode cX12_closes 57 = .ok (.ifCond .ne 19, 3) := by decide +kernel
theorem dX12_closes_60 : decode cX12_closes 60 = .ok (.iload_n 2, 1) := by decide +kernel
theorem dX12_closes_61 : decode cX12_closes 61 = .ok (.iconst 1, 1) := by decide +kernel
theorem dX12_closes_62 : decode cX12_closes 62 = .ok (.iload_n 3, 1) := by decide +kernel
theorem dX12_closes_63 : decode cX12_closes 63 = .ok (.ishl, 1) := by decide +kernel
theorem dX12_closes_64 : decode cX12_closes 64 = .ok (.ior, 1) := by decide +kernel
theorem dX12_closes_65 : decode cX12_closes 65 = .ok (.istore_n 2, 1) := by decide +kernel
theorem dX12_closes_66 : decode cX12_closes 66 = .ok (.aload_n 0, 1) := by decide +kernel
theorem dX12_closes_67 : decode cX12_closes 67 = .ok (.getfield 123, 3) := by decide +kernel
theorem dX12_closes_70 : decode cX12_closes 70 = .ok (.iload_n 3, 1) := by decide +kernel
theorem dX12_closes_71 : decode cX12_closes 71 = .ok (.iaload, 1) := by decide +kernel
theorem dX12_closes_72 : decode cX12_closes 72 = .ok (.istore_n 3, 1) := by decide +kernel
theorem dX12_closes_73 : decode cX12_closes 73 = .ok (.goto (-21), 3) := by decide +kernel
theorem dX12_closes_76 : decode cX12_closes 76 = .ok (.iload_n 3, 1) := by decide +kernel
theorem dX12_closes_77 : decode cX12_closes 77 = .ok (.istore 4, 2) := by decide +kernel
theorem dX12_closes_79 : decode cX12_closes 79 = .ok (.iconst 1, 1) := by decide +kernel
theorem dX12_closes_80 : decode cX12_closes 80 = .ok (.istore 5, 2) := by decide +kernel
theorem dX12_closes_82 : decode cX12_closes 82 = .ok (.iload 5, 2) := by decide +kernel
theorem dX12_closes_84 : decode cX12_closes 84 = .ok (.ifCond .eq 43, 3) := by decide +kernel
theorem dX12_closes_87 : decode cX12_closes 87 = .ok (.aload_n 0, 1) := by decide +kernel
theorem dX12_closes_88 : decode cX12_closes 88 = .ok (.getfield 120, 3) := by decide +kernel
theorem dX12_closes_91 : decode cX12_closes 91 = .ok (.aload_n 0, 1) := by decide +kernel
theorem dX12_closes_92 : decode cX12_closes 92 = .ok (.getfield 123, 3) := by decide +kernel
theorem dX12_closes_95 : decode cX12_closes 95 = .ok (.iload_n 3, 1) := by decide +kernel
theorem dX12_closes_96 : decode cX12_closes 96 = .ok (.iaload, 1) := by decide +kernel
theorem dX12_closes_97 : decode cX12_closes 97 = .ok (.aload_n 0, 1) := by decide +kernel
theorem dX12_closes_98 : decode cX12_closes 98 = .ok (.getfield 96, 3) := by decide +kernel
theorem dX12_closes_101 : decode cX12_closes 101 = .ok (.iload_n 3, 1) := by decide +kernel
theorem dX12_closes_102 : decode cX12_closes 102 = .ok (.iaload, 1) := by decide +kernel
theorem dX12_closes_103 : decode cX12_closes 103 = .ok (.iastore, 1) := by decide +kernel
theorem dX12_closes_104 : decode cX12_closes 104 = .ok (.aload_n 0, 1) := by decide +kernel
theorem dX12_closes_105 : decode cX12_closes 105 = .ok (.getfield 123, 3) := by decide +kernel
theorem dX12_closes_108 : decode cX12_closes 108 = .ok (.iload_n 3, 1) := by decide +kernel
theorem dX12_closes_109 : decode cX12_closes 109 = .ok (.iaload, 1) := by decide +kernel
theorem dX12_closes_110 : decode cX12_closes 110 = .ok (.istore_n 3, 1) := by decide +kernel
theorem dX12_closes_111 : decode cX12_closes 111 = .ok (.iload_n 3, 1) := by decide +kernel
theorem dX12_closes_112 : decode cX12_closes 112 = .ok (.iload 4, 2) := by decide +kernel
theorem dX12_closes_114 : decode cX12_closes 114 = .ok (.if_icmp .eq 7, 3) := by decide +kernel
theorem dX12_closes_117 : decode cX12_closes 117 = .ok (.iconst 1, 1) := by decide +kernel
theorem dX12_closes_118 : decode cX12_closes 118 = .ok (.goto 4, 3) := by decide +kernel
theorem dX12_closes_121 : decode cX12_closes 121 = .ok (.iconst 0, 1) := by decide +kernel
theorem dX12_closes_122 : decode cX12_closes 122 = .ok (.istore 5, 2) := by decide +kernel
theorem dX12_closes_124 : decode cX12_closes 124 = .ok (.goto (-42), 3) := by decide +kernel
theorem dX12_closes_127 : decode cX12_closes 127 = .ok (.return_, 1) := by decide +kernel
theorem dX12_fair_0 : decode cX12_fair 0 = .ok (.aload_n 0, 1) := by decide +kernel
theorem dX12_fair_1 : decode cX12_fair 1 = .ok (.iconst 0, 1) := by decide +kernel
theorem dX12_fair_2 : decode cX12_fair 2 = .ok (.putfield 151, 3) := by decide +kernel
theorem dX12_fair_5 : decode cX12_fair 5 = .ok (.aload_n 0, 1) := by decide +kernel
theorem dX12_fair_6 : decode cX12_fair 6 = .ok (.iload_n 1, 1) := by decide +kernel
theorem dX12_fair_7 : decode cX12_fair 7 = .ok (.invokevirtual 411, 3) := by decide +kernel
theorem dX12_fair_10 : decode cX12_fair 10 = .ok (.ifCond .ne 5, 3) := by decide +kernel
theorem dX12_fair_13 : decode cX12_fair 13 = .ok (.iconst (-1), 1) := by decide +kernel
theorem dX12_fair_14 : decode cX12_fair 14 = .ok (.ireturn, 1) := by decide +kernel
theorem dX12_fair_15 : decode cX12_fair 15 = .ok (.iconst 0, 1) := by decide +kernel
theorem dX12_fair_16 : decode cX12_fair 16 = .ok (.istore_n 2, 1) := by decide +kernel
theorem dX12_fair_17 : decode cX12_fair 17 = .ok (.iload_n 2, 1) := by decide +kernel
theorem dX12_fair_18 : decode cX12_fair 18 = .ok (.bipush 12, 2) := by decide +kernel
theorem dX12_fair_20 : decode cX12_fair 20 = .ok (.if_icmp .ge 16, 3) := by decide +kernel
theorem dX12_fair_23 : decode cX12_fair 23 = .ok (.aload_n 0, 1) := by decide +kernel
theorem dX12_fair_24 : decode cX12_fair 24 = .ok (.getfield 120, 3) := by decide +kernel
theorem dX12_fair_27 : decode cX12_fair 27 = .ok (.iload_n 2, 1) := by decide +kernel
theorem dX12_fair_28 : decode cX12_fair 28 = .ok (.iconst (-1), 1) := by decide +kernel
theorem dX12_fair_29 : decode cX12_fair 29 = .ok (.iastore, 1) := by decide +kernel
theorem dX12_fair_30 : decode cX12_fair 30 = .ok (.iinc 2 1, 3) := by decide +kernel
theorem dX12_fair_33 : decode cX12_fair 33 = .ok (.goto (-16), 3) := by decide +kernel
theorem dX12_fair_36 : decode cX12_fair 36 = .ok (.iconst 0, 1) := by decide +kernel
theorem dX12_fair_37 : decode cX12_fair 37 = .ok (.istore_n 2, 1) := by decide +kernel
theorem dX12_fair_38 : decode cX12_fair 38 = .ok (.iload_n 2, 1) := by decide +kernel
theorem dX12_fair_39 : decode cX12_fair 39 = .ok (.aload_n 0, 1) := by decide +kernel
theorem dX12_fair_40 : decode cX12_fair 40 = .ok (.getfield 13, 3) := by decide +kernel
theorem dX12_fair_43 : decode cX12_fair 43 = .ok (.iconst 1, 1) := by decide +kernel
theorem dX12_fair_44 : decode cX12_fair 44 = .ok (.iaload, 1) := by decide +kernel
theorem dX12_fair_45 : decode cX12_fair 45 = .ok (.if_icmp .ge 27, 3) := by decide +kernel
theorem dX12_fair_48 : decode cX12_fair 48 = .ok (.aload_n 0, 1) := by decide +kernel
theorem dX12_fair_49 : decode cX12_fair 49 = .ok (.getfield 120, 3) := by decide +kernel
theorem dX12_fair_52 : decode cX12_fair 52 = .ok (.iload_n 2, 1) := by decide +kernel
theorem dX12_fair_53 : decode cX12_fair 53 = .ok (.iaload, 1) := by decide +kernel
theorem dX12_fair_54 : decode cX12_fair 54 = .ok (.iconst (-1), 1) := by decide +kernel
theorem dX12_fair_55 : decode cX12_fair 55 = .ok (.if_icmp .ne 11, 3) := by decide +kernel
theorem dX12_fair_58 : decode cX12_fair 58 = .ok (.aload_n 0, 1) := by decide +kernel
theorem dX12_fair_59 : decode cX12_fair 59 = .ok (.iload_n 2, 1) := by decide +kernel
theorem dX12_fair_60 : decode cX12_fair 60 = .ok (.invokevirtual 461, 3) := by decide +kernel
theorem dX12_fair_63 : decode cX12_fair 63 = .ok (.goto (-15), 3) := by decide +kernel
theorem dX12_fair_66 : decode cX12_fair 66 = .ok (.iinc 2 1, 3) := by decide +kernel
theorem dX12_fair_69 : decode cX12_fair 69 = .ok (.goto (-31), 3) := by decide +kernel
theorem dX12_fair_72 : decode cX12_fair 72 = .ok (.aload_n 0, 1) := by decide +kernel
theorem dX12_fair_73 : decode cX12_fair 73 = .ok (.getfield 120, 3) := by decide +kernel
theorem dX12_fair_76 : decode cX12_fair 76 = .ok (.iload_n 1, 1) := by decide +kernel
theorem dX12_fair_77 : decode cX12_fair 77 = .ok (.iaload, 1) := by decide +kernel
theorem dX12_fair_78 : decode cX12_fair 78 = .ok (.ireturn, 1) := by decide +kernel
theorem dX12_pairs_0 : decode cX12_pairs 0 = .ok (.aload_n 0, 1) := by decide +kernel
theorem dX12_pairs_1 : decode cX12_pairs 1 = .ok (.iconst 0, 1) := by decide +kernel
theorem dX12_pairs_2 : decode cX12_pairs 2 = .ok (.putfield 151, 3) := by decide +kernel
theorem dX12_pairs_5 : decode cX12_pairs 5 = .ok (.iconst 0, 1) := by decide +kernel
theorem dX12_pairs_6 : decode cX12_pairs 6 = .ok (.istore_n 1, 1) := by decide +kernel
theorem dX12_pairs_7 : decode cX12_pairs 7 = .ok (.iconst 0, 1) := by decide +kernel
theorem dX12_pairs_8 : decode cX12_pairs 8 = .ok (.istore_n 2, 1) := by decide +kernel
theorem dX12_pairs_9 : decode cX12_pairs 9 = .ok (.iload_n 2, 1) := by decide +kernel
theorem dX12_pairs_10 : decode cX12_pairs 10 = .ok (.aload_n 0, 1) := by decide +kernel
theorem dX12_pairs_11 : decode cX12_pairs 11 = .ok (.getfield 13, 3) := by decide +kernel
theorem dX12_pairs_14 : decode cX12_pairs 14 = .ok (.iconst 1, 1) := by decide +kernel
theorem dX12_pairs_15 : decode cX12_pairs 15 = .ok (.iaload, 1) := by decide +kernel
theorem dX12_pairs_16 : decode cX12_pairs 16 = .ok (.if_icmp .ge 72, 3) := by decide +kernel
theorem dX12_pairs_19 : decode cX12_pairs 19 = .ok (.iconst 0, 1) := by decide +kernel
theorem dX12_pairs_20 : decode cX12_pairs 20 = .ok (.istore_n 3, 1) := by decide +kernel
theorem dX12_pairs_21 : decode cX12_pairs 21 = .ok (.iload_n 3, 1) := by decide +kernel
theorem dX12_pairs_22 : decode cX12_pairs 22 = .ok (.iload_n 2, 1) := by decide +kernel
theorem dX12_pairs_23 : decode cX12_pairs 23 = .ok (.if_icmp .ge 59, 3) := by decide +kernel
theorem dX12_pairs_26 : decode cX12_pairs 26 = .ok (.iload_n 1, 1) := by decide +kernel
theorem dX12_pairs_27 : decode cX12_pairs 27 = .ok (.iload_n 3, 1) := by decide +kernel
theorem dX12_pairs_28 : decode cX12_pairs 28 = .ok (.aload_n 0, 1) := by decide +kernel
theorem dX12_pairs_29 : decode cX12_pairs 29 = .ok (.iload_n 2, 1) := by decide +kernel
theorem dX12_pairs_30 : decode cX12_pairs 30 = .ok (.invokevirtual 452, 3) := by decide +kernel
theorem dX12_pairs_33 : decode cX12_pairs 33 = .ok (.invokestatic 455, 3) := by decide +kernel
theorem dX12_pairs_36 : decode cX12_pairs 36 = .ok (.iload_n 2, 1) := by decide +kernel
theorem dX12_pairs_37 : decode cX12_pairs 37 = .ok (.aload_n 0, 1) := by decide +kernel
theorem dX12_pairs_38 : decode cX12_pairs 38 = .ok (.iload_n 2, 1) := by decide +kernel
theorem dX12_pairs_39 : decode cX12_pairs 39 = .ok (.invokevirtual 452, 3) := by decide +kernel
theorem dX12_pairs_42 : decode cX12_pairs 42 = .ok (.invokestatic 455, 3) := by decide +kernel
theorem dX12_pairs_45 : decode cX12_pairs 45 = .ok (.if_icmp .ge 28, 3) := by decide +kernel
theorem dX12_pairs_48 : decode cX12_pairs 48 = .ok (.iload_n 2, 1) := by decide +kernel
theorem dX12_pairs_49 : decode cX12_pairs 49 = .ok (.aload_n 0, 1) := by decide +kernel
theorem dX12_pairs_50 : decode cX12_pairs 50 = .ok (.iload_n 3, 1) := by decide +kernel
theorem dX12_pairs_51 : decode cX12_pairs 51 = .ok (.invokevirtual 452, 3) := by decide +kernel
theorem dX12_pairs_54 : decode cX12_pairs 54 = .ok (.invokestatic 455, 3) := by decide +kernel
theorem dX12_pairs_57 : decode cX12_pairs 57 = .ok (.iload_n 3, 1) := by decide +kernel
theorem dX12_pairs_58 : decode cX12_pairs 58 = .ok (.aload_n 0, 1) := by decide +kernel
theorem dX12_pairs_59 : decode cX12_pairs 59 = .ok (.iload_n 3, 1) := by decide +kernel
theorem dX12_pairs_60 : decode cX12_pairs 60 = .ok (.invokevirtual 452, 3) := by decide +kernel
theorem dX12_pairs_63 : decode cX12_pairs 63 = .ok (.invokestatic 455, 3) := by decide +kernel
theorem dX12_pairs_66 : decode cX12_pairs 66 = .ok (.if_icmp .ge 7, 3) := by decide +kernel
theorem dX12_pairs_69 : decode cX12_pairs 69 = .ok (.iconst 1, 1) := by decide +kernel
theorem dX12_pairs_70 : decode cX12_pairs 70 = .ok (.goto 4, 3) := by decide +kernel
theorem dX12_pairs_73 : decode cX12_pairs 73 = .ok (.iconst 0, 1) := by decide +kernel
theorem dX12_pairs_74 : decode cX12_pairs 74 = .ok (.iadd, 1) := by decide +kernel
theorem dX12_pairs_75 : decode cX12_pairs 75 = .ok (.istore_n 1, 1) := by decide +kernel
theorem dX12_pairs_76 : decode cX12_pairs 76 = .ok (.iinc 3 1, 3) := by decide +kernel
theorem dX12_pairs_79 : decode cX12_pairs 79 = .ok (.goto (-58), 3) := by decide +kernel
theorem dX12_pairs_82 : decode cX12_pairs 82 = .ok (.iinc 2 1, 3) := by decide +kernel
theorem dX12_pairs_85 : decode cX12_pairs 85 = .ok (.goto (-76), 3) := by decide +kernel
theorem dX12_pairs_88 : decode cX12_pairs 88 = .ok (.iload_n 1, 1) := by decide +kernel
theorem dX12_pairs_89 : decode cX12_pairs 89 = .ok (.ireturn, 1) := by decide +kernel
theorem dX12_placesIn_0 : decode cX12_placesIn 0 = .ok (.iconst 0, 1) := by decide +kernel
theorem dX12_placesIn_1 : decode cX12_placesIn 1 = .ok (.istore_n 2, 1) := by decide +kernel
theorem dX12_placesIn_2 : decode cX12_placesIn 2 = .ok (.iconst 0, 1) := by decide +kernel
theorem dX12_placesIn_3 : decode cX12_placesIn 3 = .ok (.istore_n 3, 1) := by decide +kernel
theorem dX12_placesIn_4 : decode cX12_placesIn 4 = .ok (.iload_n 3, 1) := by decide +kernel
theorem dX12_placesIn_5 : decode cX12_placesIn 5 = .ok (.aload_n 0, 1) := by decide +kernel
theorem dX12_placesIn_6 : decode cX12_placesIn 6 = .ok (.getfield 13, 3) := by decide +kernel
theorem dX12_placesIn_9 : decode cX12_placesIn 9 = .ok (.iconst 0, 1) := by decide +kernel
theorem dX12_placesIn_10 : decode cX12_placesIn 10 = .ok (.iaload, 1) := by decide +kernel
theorem dX12_placesIn_11 : decode cX12_placesIn 11 = .ok (.if_icmp .ge 30, 3) := by decide +kernel
theorem dX12_placesIn_14 : decode cX12_placesIn 14 = .ok (.iload_n 2, 1) := by decide +kernel
theorem dX12_placesIn_15 : decode cX12_placesIn 15 = .ok (.iload_n 1, 1) := by decide +kernel
theorem dX12_placesIn_16 : decode cX12_placesIn 16 = .ok (.iload_n 3, 1) := by decide +kernel
theorem dX12_placesIn_17 : decode cX12_placesIn 17 = .ok (.ishr, 1) := by decide +kernel
theorem dX12_placesIn_18 : decode cX12_placesIn 18 = .ok (.iconst 1, 1) := by decide +kernel
theorem dX12_placesIn_19 : decode cX12_placesIn 19 = .ok (.iand, 1) := by decide +kernel
theorem dX12_placesIn_20 : decode cX12_placesIn 20 = .ok (.iconst 1, 1) := by decide +kernel
theorem dX12_placesIn_21 : decode cX12_placesIn 21 = .ok (.if_icmp .ne 11, 3) := by decide +kernel
theorem dX12_placesIn_24 : decode cX12_placesIn 24 = .ok (.aload_n 0, 1) := by decide +kernel
theorem dX12_placesIn_25 : decode cX12_placesIn 25 = .ok (.iload_n 3, 1) := by decide +kernel
theorem dX12_placesIn_26 : decode cX12_placesIn 26 = .ok (.invokevirtual 408, 3) := by decide +kernel
theorem dX12_placesIn_29 : decode cX12_placesIn 29 = .ok (.goto 4, 3) := by decide +kernel
theorem dX12_placesIn_32 : decode cX12_placesIn 32 = .ok (.iconst 0, 1) := by decide +kernel
theorem dX12_placesIn_33 : decode cX12_placesIn 33 = .ok (.iadd, 1) := by decide +kernel
theorem dX12_placesIn_34 : decode cX12_placesIn 34 = .ok (.istore_n 2, 1) := by decide +kernel
theorem dX12_placesIn_35 : decode cX12_placesIn 35 = .ok (.iinc 3 1, 3) := by decide +kernel
theorem dX12_placesIn_38 : decode cX12_placesIn 38 = .ok (.goto (-34), 3) := by decide +kernel
theorem dX12_placesIn_41 : decode cX12_placesIn 41 = .ok (.iload_n 2, 1) := by decide +kernel
theorem dX12_placesIn_42 : decode cX12_placesIn 42 = .ok (.ireturn, 1) := by decide +kernel
theorem dX12_power_0 : decode cX12_power 0 = .ok (.aload_n 0, 1) := by decide +kernel
theorem dX12_power_1 : decode cX12_power 1 = .ok (.iconst 0, 1) := by decide +kernel
theorem dX12_power_2 : decode cX12_power 2 = .ok (.putfield 151, 3) := by decide +kernel
theorem dX12_power_5 : decode cX12_power 5 = .ok (.aload_n 0, 1) := by decide +kernel
theorem dX12_power_6 : decode cX12_power 6 = .ok (.iload_n 1, 1) := by decide +kernel
theorem dX12_power_7 : decode cX12_power 7 = .ok (.invokevirtual 405, 3) := by decide +kernel
theorem dX12_power_10 : decode cX12_power 10 = .ok (.ifCond .ne 5, 3) := by decide +kernel
theorem dX12_power_13 : decode cX12_power 13 = .ok (.iconst (-1), 1) := by decide +kernel
theorem dX12_power_14 : decode cX12_power 14 = .ok (.ireturn, 1) := by decide +kernel
theorem dX12_power_15 : decode cX12_power 15 = .ok (.iconst 0, 1) := by decide +kernel
theorem dX12_power_16 : decode cX12_power 16 = .ok (.istore_n 2, 1) := by decide +kernel
theorem dX12_power_17 : decode cX12_power 17 = .ok (.aload_n 0, 1) := by decide +kernel
theorem dX12_power_18 : decode cX12_power 18 = .ok (.iload_n 1, 1) := by decide +kernel
theorem dX12_power_19 : decode cX12_power 19 = .ok (.invokevirtual 408, 3) := by decide +kernel
theorem dX12_power_22 : decode cX12_power 22 = .ok (.istore_n 3, 1) := by decide +kernel
theorem dX12_power_23 : decode cX12_power 23 = .ok (.iconst 0, 1) := by decide +kernel
theorem dX12_power_24 : decode cX12_power 24 = .ok (.istore 4, 2) := by decide +kernel
theorem dX12_power_26 : decode cX12_power 26 = .ok (.iload 4, 2) := by decide +kernel
theorem dX12_power_28 : decode cX12_power 28 = .ok (.iconst 1, 1) := by decide +kernel
theorem dX12_power_29 : decode cX12_power 29 = .ok (.aload_n 0, 1) := by decide +kernel
theorem dX12_power_30 : decode cX12_power 30 = .ok (.getfield 13, 3) := by decide +kernel
theorem dX12_power_33 : decode cX12_power 33 = .ok (.iconst 0, 1) := by decide +kernel
theorem dX12_power_34 : decode cX12_power 34 = .ok (.iaload, 1) := by decide +kernel
theorem dX12_power_35 : decode cX12_power 35 = .ok (.ishl, 1) := by decide +kernel
theorem dX12_power_36 : decode cX12_power 36 = .ok (.if_icmp .ge 65, 3) := by decide +kernel
theorem dX12_power_39 : decode cX12_power 39 = .ok (.iload 4, 2) := by decide +kernel
theorem dX12_power_41 : decode cX12_power 41 = .ok (.iload_n 1, 1) := by decide +kernel
theorem dX12_power_42 : decode cX12_power 42 = .ok (.ishr, 1) := by decide +kernel
theorem dX12_power_43 : decode cX12_power 43 = .ok (.iconst 1, 1) := by decide +kernel
theorem dX12_power_44 : decode cX12_power 44 = .ok (.iand, 1) := by decide +kernel
theorem dX12_power_45 : decode cX12_power 45 = .ok (.ifCond .ne 6, 3) := by decide +kernel
theorem dX12_power_48 : decode cX12_power 48 = .ok (.goto 47, 3) := by decide +kernel
theorem dX12_power_51 : decode cX12_power 51 = .ok (.aload_n 0, 1) := by decide +kernel
theorem dX12_power_52 : decode cX12_power 52 = .ok (.iload 4, 2) := by decide +kernel
theorem dX12_power_54 : decode cX12_power 54 = .ok (.invokevirtual 464, 3) := by decide +kernel
theorem dX12_power_57 : decode cX12_power 57 = .ok (.istore 5, 2) := by decide +kernel
theorem dX12_power_59 : decode cX12_power 59 = .ok (.iload_n 2, 1) := by decide +kernel
theorem dX12_power_60 : decode cX12_power 60 = .ok (.iconst 2, 1) := by decide +kernel
theorem dX12_power_61 : decode cX12_power 61 = .ok (.iload 5, 2) := by decide +kernel
theorem dX12_power_63 : decode cX12_power 63 = .ok (.imul, 1) := by decide +kernel
theorem dX12_power_64 : decode cX12_power 64 = .ok (.aload_n 0, 1) := by decide +kernel
theorem dX12_power_65 : decode cX12_power 65 = .ok (.getfield 13, 3) := by decide +kernel
theorem dX12_power_68 : decode cX12_power 68 = .ok (.iconst 1, 1) := by decide +kernel
theorem dX12_power_69 : decode cX12_power 69 = .ok (.iaload, 1) := by decide +kernel
theorem dX12_power_70 : decode cX12_power 70 = .ok (.if_icmp .le 22, 3) := by decide +kernel
theorem dX12_power_73 : decode cX12_power 73 = .ok (.iconst 2, 1) := by decide +kernel
theorem dX12_power_74 : decode cX12_power 74 = .ok (.iload 5, 2) := by decide +kernel
theorem dX12_power_76 : decode cX12_power 76 = .ok (.iload_n 3, 1) := by decide +kernel
theorem dX12_power_77 : decode cX12_power 77 = .ok (.isub, 1) := by decide +kernel
theorem dX12_power_78 : decode cX12_power 78 = .ok (.imul, 1) := by decide +kernel
theorem dX12_power_79 : decode cX12_power 79 = .ok (.aload_n 0, 1) := by decide +kernel
theorem dX12_power_80 : decode cX12_power 80 = .ok (.getfield 13, 3) := by decide +kernel
theorem dX12_power_83 : decode cX12_power 83 = .ok (.iconst 1, 1) := by decide +kernel
theorem dX12_power_84 : decode cX12_power 84 = .ok (.iaload, 1) := by decide +kernel
theorem dX12_power_85 : decode cX12_power 85 = .ok (.if_icmp .gt 7, 3) := by decide +kernel
theorem dX12_power_88 : decode cX12_power 88 = .ok (.iconst 1, 1) := by decide +kernel
theorem dX12_power_89 : decode cX12_power 89 = .ok (.goto 4, 3) := by decide +kernel
theorem dX12_power_92 : decode cX12_power 92 = .ok (.iconst 0, 1) := by decide +kernel
theorem dX12_power_93 : decode cX12_power 93 = .ok (.iadd, 1) := by decide +kernel
theorem dX12_power_94 : decode cX12_power 94 = .ok (.istore_n 2, 1) := by decide +kernel
theorem dX12_power_95 : decode cX12_power 95 = .ok (.iinc 4 1, 3) := by decide +kernel
theorem dX12_power_98 : decode cX12_power 98 = .ok (.goto (-72), 3) := by decide +kernel
theorem dX12_power_101 : decode cX12_power 101 = .ok (.iload_n 2, 1) := by decide +kernel
theorem dX12_power_102 : decode cX12_power 102 = .ok (.ireturn, 1) := by decide +kernel
theorem dX12_even_0 : decode cX12_even 0 = .ok (.aload_n 0, 1) := by decide +kernel
theorem dX12_even_1 : decode cX12_even 1 = .ok (.iconst 0, 1) := by decide +kernel
theorem dX12_even_2 : decode cX12_even 2 = .ok (.putfield 151, 3) := by decide +kernel
theorem dX12_even_5 : decode cX12_even 5 = .ok (.iload_n 1, 1) := by decide +kernel
theorem dX12_even_6 : decode cX12_even 6 = .ok (.ifCond .lt 15, 3) := by decide +kernel
theorem dX12_even_9 : decode cX12_even 9 = .ok (.iload_n 1, 1) := by decide +kernel
theorem dX12_even_10 : decode cX12_even 10 = .ok (.iconst 1, 1) := by decide +kernel
theorem dX12_even_11 : decode cX12_even 11 = .ok (.aload_n 0, 1) := by decide +kernel
theorem dX12_even_12 : decode cX12_even 12 = .ok (.getfield 13, 3) := by decide +kernel
theorem dX12_even_15 : decode cX12_even 15 = .ok (.iconst 0, 1) := by decide +kernel
theorem dX12_even_16 : decode cX12_even 16 = .ok (.iaload, 1) := by decide +kernel
theorem dX12_even_17 : decode cX12_even 17 = .ok (.ishl, 1) := by decide +kernel
theorem dX12_even_18 : decode cX12_even 18 = .ok (.if_icmp .lt 5, 3) := by decide +kernel
theorem dX12_even_21 : decode cX12_even 21 = .ok (.iconst (-1), 1) := by decide +kernel
theorem dX12_even_22 : decode cX12_even 22 = .ok (.ireturn, 1) := by decide +kernel
theorem dX12_even_23 : decode cX12_even 23 = .ok (.aload_n 0, 1) := by decide +kernel
theorem dX12_even_24 : decode cX12_even 24 = .ok (.iload_n 1, 1) := by decide +kernel
theorem dX12_even_25 : decode cX12_even 25 = .ok (.invokevirtual 464, 3) := by decide +kernel
theorem dX12_even_28 : decode cX12_even 28 = .ok (.istore_n 2, 1) := by decide +kernel
theorem dX12_even_29 : decode cX12_even 29 = .ok (.iconst 0, 1) := by decide +kernel
theorem dX12_even_30 : decode cX12_even 30 = .ok (.istore_n 3, 1) := by decide +kernel
theorem dX12_even_31 : decode cX12_even 31 = .ok (.iload_n 3, 1) := by decide +kernel
theorem dX12_even_32 : decode cX12_even 32 = .ok (.iload_n 1, 1) := by decide +kernel
theorem dX12_even_33 : decode cX12_even 33 = .ok (.if_icmp .gt 30, 3) := by decide +kernel
theorem dX12_even_36 : decode cX12_even 36 = .ok (.iload_n 3, 1) := by decide +kernel
theorem dX12_even_37 : decode cX12_even 37 = .ok (.iload_n 1, 1) := by decide +kernel
theorem dX12_even_38 : decode cX12_even 38 = .ok (.iconst (-1), 1) := by decide +kernel
theorem dX12_even_39 : decode cX12_even 39 = .ok (.ixor, 1) := by decide +kernel
theorem dX12_even_40 : decode cX12_even 40 = .ok (.iand, 1) := by decide +kernel
theorem dX12_even_41 : decode cX12_even 41 = .ok (.ifCond .ne 16, 3) := by decide +kernel
theorem dX12_even_44 : decode cX12_even 44 = .ok (.iconst 2, 1) := by decide +kernel
theorem dX12_even_45 : decode cX12_even 45 = .ok (.aload_n 0, 1) := by decide +kernel
theorem dX12_even_46 : decode cX12_even 46 = .ok (.iload_n 3, 1) := by decide +kernel
theorem dX12_even_47 : decode cX12_even 47 = .ok (.invokevirtual 464, 3) := by decide +kernel
theorem dX12_even_50 : decode cX12_even 50 = .ok (.imul, 1) := by decide +kernel
theorem dX12_even_51 : decode cX12_even 51 = .ok (.iload_n 2, 1) := by decide +kernel
theorem dX12_even_52 : decode cX12_even 52 = .ok (.if_icmp .ne 5, 3) := by decide +kernel
theorem dX12_even_55 : decode cX12_even 55 = .ok (.iconst 1, 1) := by decide +kernel
theorem dX12_even_56 : decode cX12_even 56 = .ok (.ireturn, 1) := by decide +kernel
theorem dX12_even_57 : decode cX12_even 57 = .ok (.iinc 3 1, 3) := by decide +kernel
theorem dX12_even_60 : decode cX12_even 60 = .ok (.goto (-29), 3) := by decide +kernel
theorem dX12_even_63 : decode cX12_even 63 = .ok (.iconst 0, 1) := by decide +kernel
theorem dX12_even_64 : decode cX12_even 64 = .ok (.ireturn, 1) := by decide +kernel
theorem dX12_rare_0 : decode cX12_rare 0 = .ok (.aload_n 0, 1) := by decide +kernel
theorem dX12_rare_1 : decode cX12_rare 1 = .ok (.iconst 0, 1) := by decide +kernel
theorem dX12_rare_2 : decode cX12_rare 2 = .ok (.putfield 151, 3) := by decide +kernel
theorem dX12_rare_5 : decode cX12_rare 5 = .ok (.bipush (-2), 2) := by decide +kernel
theorem dX12_rare_7 : decode cX12_rare 7 = .ok (.istore_n 1, 1) := by decide +kernel
theorem dX12_rare_8 : decode cX12_rare 8 = .ok (.iconst 0, 1) := by decide +kernel
theorem dX12_rare_9 : decode cX12_rare 9 = .ok (.istore_n 2, 1) := by decide +kernel
theorem dX12_rare_10 : decode cX12_rare 10 = .ok (.iload_n 2, 1) := by decide +kernel
theorem dX12_rare_11 : decode cX12_rare 11 = .ok (.aload_n 0, 1) := by decide +kernel
theorem dX12_rare_12 : decode cX12_rare 12 = .ok (.getfield 13, 3) := by decide +kernel
theorem dX12_rare_15 : decode cX12_rare 15 = .ok (.iconst 0, 1) := by decide +kernel
theorem dX12_rare_16 : decode cX12_rare 16 = .ok (.iaload, 1) := by decide +kernel
theorem dX12_rare_17 : decode cX12_rare 17 = .ok (.if_icmp .ge 38, 3) := by decide +kernel
theorem dX12_rare_20 : decode cX12_rare 20 = .ok (.aload_n 0, 1) := by decide +kernel
theorem dX12_rare_21 : decode cX12_rare 21 = .ok (.iload_n 2, 1) := by decide +kernel
theorem dX12_rare_22 : decode cX12_rare 22 = .ok (.invokevirtual 408, 3) := by decide +kernel
theorem dX12_rare_25 : decode cX12_rare 25 = .ok (.ifCond .le 24, 3) := by decide +kernel
theorem dX12_rare_28 : decode cX12_rare 28 = .ok (.iload_n 1, 1) := by decide +kernel
theorem dX12_rare_29 : decode cX12_rare 29 = .ok (.ifCond .lt 18, 3) := by decide +kernel
theorem dX12_rare_32 : decode cX12_rare 32 = .ok (.aload_n 0, 1) := by decide +kernel
theorem dX12_rare_33 : decode cX12_rare 33 = .ok (.getfield 93, 3) := by decide +kernel
theorem dX12_rare_36 : decode cX12_rare 36 = .ok (.iload_n 2, 1) := by decide +kernel
theorem dX12_rare_37 : decode cX12_rare 37 = .ok (.iaload, 1) := by decide +kernel
theorem dX12_rare_38 : decode cX12_rare 38 = .ok (.aload_n 0, 1) := by decide +kernel
theorem dX12_rare_39 : decode cX12_rare 39 = .ok (.getfield 93, 3) := by decide +kernel
theorem dX12_rare_42 : decode cX12_rare 42 = .ok (.iload_n 1, 1) := by decide +kernel
theorem dX12_rare_43 : decode cX12_rare 43 = .ok (.iaload, 1) := by decide +kernel
theorem dX12_rare_44 : decode cX12_rare 44 = .ok (.if_icmp .ge 5, 3) := by decide +kernel
theorem dX12_rare_47 : decode cX12_rare 47 = .ok (.iload_n 2, 1) := by decide +kernel
theorem dX12_rare_48 : decode cX12_rare 48 = .ok (.istore_n 1, 1) := by decide +kernel
theorem dX12_rare_49 : decode cX12_rare 49 = .ok (.iinc 2 1, 3) := by decide +kernel
theorem dX12_rare_52 : decode cX12_rare 52 = .ok (.goto (-42), 3) := by decide +kernel
theorem dX12_rare_55 : decode cX12_rare 55 = .ok (.iload_n 1, 1) := by decide +kernel
theorem dX12_rare_56 : decode cX12_rare 56 = .ok (.ireturn, 1) := by decide +kernel
theorem dX12_hasOf_0 : decode cX12_hasOf 0 = .ok (.iload_n 3, 1) := by decide +kernel
theorem dX12_hasOf_1 : decode cX12_hasOf 1 = .ok (.iconst 1, 1) := by decide +kernel
theorem dX12_hasOf_2 : decode cX12_hasOf 2 = .ok (.if_icmp .ne 14, 3) := by decide +kernel
theorem dX12_hasOf_5 : decode cX12_hasOf 5 = .ok (.iload 4, 2) := by decide +kernel
theorem dX12_hasOf_7 : decode cX12_hasOf 7 = .ok (.ifCond .ne 7, 3) := by decide +kernel
theorem dX12_hasOf_10 : decode cX12_hasOf 10 = .ok (.iconst 2, 1) := by decide +kernel
theorem dX12_hasOf_11 : decode cX12_hasOf 11 = .ok (.goto 4, 3) := by decide +kernel
theorem dX12_hasOf_14 : decode cX12_hasOf 14 = .ok (.iconst 1, 1) := by decide +kernel
theorem dX12_hasOf_15 : decode cX12_hasOf 15 = .ok (.ireturn, 1) := by decide +kernel
theorem dX12_hasOf_16 : decode cX12_hasOf 16 = .ok (.iload 4, 2) := by decide +kernel
theorem dX12_hasOf_18 : decode cX12_hasOf 18 = .ok (.ifCond .ne 30, 3) := by decide +kernel
theorem dX12_hasOf_21 : decode cX12_hasOf 21 = .ok (.aload_n 0, 1) := by decide +kernel
theorem dX12_hasOf_22 : decode cX12_hasOf 22 = .ok (.getfield 22, 3) := by decide +kernel
theorem dX12_hasOf_25 : decode cX12_hasOf 25 = .ok (.iload_n 1, 1) := by decide +kernel
theorem dX12_hasOf_26 : decode cX12_hasOf 26 = .ok (.iaload, 1) := by decide +kernel
theorem dX12_hasOf_27 : decode cX12_hasOf 27 = .ok (.aload_n 0, 1) := by decide +kernel
theorem dX12_hasOf_28 : decode cX12_hasOf 28 = .ok (.getfield 19, 3) := by decide +kernel
theorem dX12_hasOf_31 : decode cX12_hasOf 31 = .ok (.iload_n 1, 1) := by decide +kernel
theorem dX12_hasOf_32 : decode cX12_hasOf 32 = .ok (.iaload, 1) := by decide +kernel
theorem dX12_hasOf_33 : decode cX12_hasOf 33 = .ok (.aload_n 0, 1) := by decide +kernel
theorem dX12_hasOf_34 : decode cX12_hasOf 34 = .ok (.getfield 19, 3) := by decide +kernel
theorem dX12_hasOf_37 : decode cX12_hasOf 37 = .ok (.iload_n 2, 1) := by decide +kernel
theorem dX12_hasOf_38 : decode cX12_hasOf 38 = .ok (.iaload, 1) := by decide +kernel
theorem dX12_hasOf_39 : decode cX12_hasOf 39 = .ok (.invokestatic 455, 3) := by decide +kernel
theorem dX12_hasOf_42 : decode cX12_hasOf 42 = .ok (.iconst 3, 1) := by decide +kernel
theorem dX12_hasOf_43 : decode cX12_hasOf 43 = .ok (.idiv, 1) := by decide +kernel
theorem dX12_hasOf_44 : decode cX12_hasOf 44 = .ok (.isub, 1) := by decide +kernel
theorem dX12_hasOf_45 : decode cX12_hasOf 45 = .ok (.goto 19, 3) := by decide +kernel
theorem dX12_hasOf_48 : decode cX12_hasOf 48 = .ok (.aload_n 0, 1) := by decide +kernel
theorem dX12_hasOf_49 : decode cX12_hasOf 49 = .ok (.getfield 22, 3) := by decide +kernel
theorem dX12_hasOf_52 : decode cX12_hasOf 52 = .ok (.iload_n 1, 1) := by decide +kernel
theorem dX12_hasOf_53 : decode cX12_hasOf 53 = .ok (.iaload, 1) := by decide +kernel
theorem dX12_hasOf_54 : decode cX12_hasOf 54 = .ok (.aload_n 0, 1) := by decide +kernel
theorem dX12_hasOf_55 : decode cX12_hasOf 55 = .ok (.getfield 90, 3) := by decide +kernel
theorem dX12_hasOf_58 : decode cX12_hasOf 58 = .ok (.iload_n 1, 1) := by decide +kernel
theorem dX12_hasOf_59 : decode cX12_hasOf 59 = .ok (.iaload, 1) := by decide +kernel
theorem dX12_hasOf_60 : decode cX12_hasOf 60 = .ok (.bipush 20, 2) := by decide +kernel
theorem dX12_hasOf_62 : decode cX12_hasOf 62 = .ok (.idiv, 1) := by decide +kernel
theorem dX12_hasOf_63 : decode cX12_hasOf 63 = .ok (.iadd, 1) := by decide +kernel
theorem dX12_hasOf_64 : decode cX12_hasOf 64 = .ok (.ireturn, 1) := by decide +kernel
theorem dX12_isRest_0 : decode cX12_isRest 0 = .ok (.iload_n 3, 1) := by decide +kernel
theorem dX12_isRest_1 : decode cX12_isRest 1 = .ok (.iconst 2, 1) := by decide +kernel
theorem dX12_isRest_2 : decode cX12_isRest 2 = .ok (.idiv, 1) := by decide +kernel
theorem dX12_isRest_3 : decode cX12_isRest 3 = .ok (.istore 4, 2) := by decide +kernel
theorem dX12_isRest_5 : decode cX12_isRest 5 = .ok (.iload_n 3, 1) := by decide +kernel
theorem dX12_isRest_6 : decode cX12_isRest 6 = .ok (.iconst 2, 1) := by decide +kernel
theorem dX12_isRest_7 : decode cX12_isRest 7 = .ok (.irem, 1) := by decide +kernel
theorem dX12_isRest_8 : decode cX12_isRest 8 = .ok (.istore 5, 2) := by decide +kernel
theorem dX12_isRest_10 : decode cX12_isRest 10 = .ok (.aload_n 0, 1) := by decide +kernel
theorem dX12_isRest_11 : decode cX12_isRest 11 = .ok (.iload_n 1, 1) := by decide +kernel
theorem dX12_isRest_12 : decode cX12_isRest 12 = .ok (.iload_n 2, 1) := by decide +kernel
theorem dX12_isRest_13 : decode cX12_isRest 13 = .ok (.iconst 1, 1) := by decide +kernel
theorem dX12_isRest_14 : decode cX12_isRest 14 = .ok (.iload 4, 2) := by decide +kernel
theorem dX12_isRest_16 : decode cX12_isRest 16 = .ok (.isub, 1) := by decide +kernel
theorem dX12_isRest_17 : decode cX12_isRest 17 = .ok (.iload 5, 2) := by decide +kernel
theorem dX12_isRest_19 : decode cX12_isRest 19 = .ok (.invokevirtual 467, 3) := by decide +kernel
theorem dX12_isRest_22 : decode cX12_isRest 22 = .ok (.aload_n 0, 1) := by decide +kernel
theorem dX12_isRest_23 : decode cX12_isRest 23 = .ok (.iload_n 1, 1) := by decide +kernel
theorem dX12_isRest_24 : decode cX12_isRest 24 = .ok (.iload_n 2, 1) := by decide +kernel
theorem dX12_isRest_25 : decode cX12_isRest 25 = .ok (.iload 4, 2) := by decide +kernel
theorem dX12_isRest_27 : decode cX12_isRest 27 = .ok (.iload 5, 2) := by decide +kernel
theorem dX12_isRest_29 : decode cX12_isRest 29 = .ok (.invokevirtual 467, 3) := by decide +kernel
theorem dX12_isRest_32 : decode cX12_isRest 32 = .ok (.if_icmp .gt 32, 3) := by decide +kernel
theorem dX12_isRest_35 : decode cX12_isRest 35 = .ok (.aload_n 0, 1) := by decide +kernel
theorem dX12_isRest_36 : decode cX12_isRest 36 = .ok (.iload_n 2, 1) := by decide +kernel
theorem dX12_isRest_37 : decode cX12_isRest 37 = .ok (.iload_n 1, 1) := by decide +kernel
theorem dX12_isRest_38 : decode cX12_isRest 38 = .ok (.iconst 1, 1) := by decide +kernel
theorem dX12_isRest_39 : decode cX12_isRest 39 = .ok (.iload 5, 2) := by decide +kernel
theorem dX12_isRest_41 : decode cX12_isRest 41 = .ok (.isub, 1) := by decide +kernel
theorem dX12_isRest_42 : decode cX12_isRest 42 = .ok (.iload 4, 2) := by decide +kernel
theorem dX12_isRest_44 : decode cX12_isRest 44 = .ok (.invokevirtual 467, 3) := by decide +kernel
theorem dX12_isRest_47 : decode cX12_isRest 47 = .ok (.aload_n 0, 1) := by decide +kernel
theorem dX12_isRest_48 : decode cX12_isRest 48 = .ok (.iload_n 2, 1) := by decide +kernel
theorem dX12_isRest_49 : decode cX12_isRest 49 = .ok (.iload_n 1, 1) := by decide +kernel
theorem dX12_isRest_50 : decode cX12_isRest 50 = .ok (.iload 5, 2) := by decide +kernel
theorem dX12_isRest_52 : decode cX12_isRest 52 = .ok (.iload 4, 2) := by decide +kernel
theorem dX12_isRest_54 : decode cX12_isRest 54 = .ok (.invokevirtual 467, 3) := by decide +kernel
theorem dX12_isRest_57 : decode cX12_isRest 57 = .ok (.if_icmp .gt 7, 3) := by decide +kernel
theorem dX12_isRest_60 : decode cX12_isRest 60 = .ok (.iconst 1, 1) := by decide +kernel
theorem dX12_isRest_61 : decode cX12_isRest 61 = .ok (.goto 4, 3) := by decide +kernel
theorem dX12_isRest_64 : decode cX12_isRest 64 = .ok (.iconst 0, 1) := by decide +kernel
theorem dX12_isRest_65 : decode cX12_isRest 65 = .ok (.ireturn, 1) := by decide +kernel
theorem dX12_restOf_0 : decode cX12_restOf 0 = .ok (.iconst 0, 1) := by decide +kernel
theorem dX12_restOf_1 : decode cX12_restOf 1 = .ok (.istore 4, 2) := by decide +kernel
theorem dX12_restOf_3 : decode cX12_restOf 3 = .ok (.iconst 0, 1) := by decide +kernel
theorem dX12_restOf_4 : decode cX12_restOf 4 = .ok (.istore 5, 2) := by decide +kernel
theorem dX12_restOf_6 : decode cX12_restOf 6 = .ok (.iload 5, 2) := by decide +kernel
theorem dX12_restOf_8 : decode cX12_restOf 8 = .ok (.iconst 4, 1) := by decide +kernel
theorem dX12_restOf_9 : decode cX12_restOf 9 = .ok (.if_icmp .ge 45, 3) := by decide +kernel
theorem dX12_restOf_12 : decode cX12_restOf 12 = .ok (.aload_n 0, 1) := by decide +kernel
theorem dX12_restOf_13 : decode cX12_restOf 13 = .ok (.iload_n 1, 1) := by decide +kernel
theorem dX12_restOf_14 : decode cX12_restOf 14 = .ok (.iload_n 2, 1) := by decide +kernel
theorem dX12_restOf_15 : decode cX12_restOf 15 = .ok (.iload 5, 2) := by decide +kernel
theorem dX12_restOf_17 : decode cX12_restOf 17 = .ok (.invokevirtual 470, 3) := by decide +kernel
theorem dX12_restOf_20 : decode cX12_restOf 20 = .ok (.ifCond .ne 6, 3) := by decide +kernel
theorem dX12_restOf_23 : decode cX12_restOf 23 = .ok (.goto 25, 3) := by decide +kernel
theorem dX12_restOf_26 : decode cX12_restOf 26 = .ok (.iload 4, 2) := by decide +kernel
theorem dX12_restOf_28 : decode cX12_restOf 28 = .ok (.iload_n 3, 1) := by decide +kernel
theorem dX12_restOf_29 : decode cX12_restOf 29 = .ok (.if_icmp .ne 16, 3) := by decide +kernel
theorem dX12_restOf_32 : decode cX12_restOf 32 = .ok (.bipush 10, 2) := by decide +kernel
theorem dX12_restOf_34 : decode cX12_restOf 34 = .ok (.iload 5, 2) := by decide +kernel
theorem dX12_restOf_36 : decode cX12_restOf 36 = .ok (.iconst 2, 1) := by decide +kernel
theorem dX12_restOf_37 : decode cX12_restOf 37 = .ok (.idiv, 1) := by decide +kernel
theorem dX12_restOf_38 : decode cX12_restOf 38 = .ok (.imul, 1) := by decide +kernel
theorem dX12_restOf_39 : decode cX12_restOf 39 = .ok (.iload 5, 2) := by decide +kernel
theorem dX12_restOf_41 : decode cX12_restOf 41 = .ok (.iconst 2, 1) := by decide +kernel
theorem dX12_restOf_42 : decode cX12_restOf 42 = .ok (.irem, 1) := by decide +kernel
theorem dX12_restOf_43 : decode cX12_restOf 43 = .ok (.iadd, 1) := by decide +kernel
theorem dX12_restOf_44 : decode cX12_restOf 44 = .ok (.ireturn, 1) := by decide +kernel
theorem dX12_restOf_45 : decode cX12_restOf 45 = .ok (.iinc 4 1, 3) := by decide +kernel
theorem dX12_restOf_48 : decode cX12_restOf 48 = .ok (.iinc 5 1, 3) := by decide +kernel
theorem dX12_restOf_51 : decode cX12_restOf 51 = .ok (.goto (-45), 3) := by decide +kernel
theorem dX12_restOf_54 : decode cX12_restOf 54 = .ok (.iload_n 3, 1) := by decide +kernel
theorem dX12_restOf_55 : decode cX12_restOf 55 = .ok (.iconst (-1), 1) := by decide +kernel
theorem dX12_restOf_56 : decode cX12_restOf 56 = .ok (.if_icmp .ne 8, 3) := by decide +kernel
theorem dX12_restOf_59 : decode cX12_restOf 59 = .ok (.iload 4, 2) := by decide +kernel
theorem dX12_restOf_61 : decode cX12_restOf 61 = .ok (.goto 5, 3) := by decide +kernel
theorem dX12_restOf_64 : decode cX12_restOf 64 = .ok (.bipush (-2), 2) := by decide +kernel
theorem dX12_restOf_66 : decode cX12_restOf 66 = .ok (.ireturn, 1) := by decide +kernel
theorem dX12_areTwo_0 : decode cX12_areTwo 0 = .ok (.aload_n 0, 1) := by decide +kernel
theorem dX12_areTwo_1 : decode cX12_areTwo 1 = .ok (.iload_n 1, 1) := by decide +kernel
theorem dX12_areTwo_2 : decode cX12_areTwo 2 = .ok (.invokevirtual 405, 3) := by decide +kernel
theorem dX12_areTwo_5 : decode cX12_areTwo 5 = .ok (.ifCond .eq 20, 3) := by decide +kernel
theorem dX12_areTwo_8 : decode cX12_areTwo 8 = .ok (.aload_n 0, 1) := by decide +kernel
theorem dX12_areTwo_9 : decode cX12_areTwo 9 = .ok (.iload_n 2, 1) := by decide +kernel
theorem dX12_areTwo_10 : decode cX12_areTwo 10 = .ok (.invokevirtual 405, 3) := by decide +kernel
theorem dX12_areTwo_13 : decode cX12_areTwo 13 = .ok (.ifCond .eq 12, 3) := by decide +kernel
theorem dX12_areTwo_16 : decode cX12_areTwo 16 = .ok (.iload_n 1, 1) := by decide +kernel
theorem dX12_areTwo_17 : decode cX12_areTwo 17 = .ok (.iload_n 2, 1) := by decide +kernel
theorem dX12_areTwo_18 : decode cX12_areTwo 18 = .ok (.if_icmp .eq 7, 3) := by decide +kernel
theorem dX12_areTwo_21 : decode cX12_areTwo 21 = .ok (.iconst 1, 1) := by decide +kernel
theorem dX12_areTwo_22 : decode cX12_areTwo 22 = .ok (.goto 4, 3) := by decide +kernel
theorem dX12_areTwo_25 : decode cX12_areTwo 25 = .ok (.iconst 0, 1) := by decide +kernel
theorem dX12_areTwo_26 : decode cX12_areTwo 26 = .ok (.ireturn, 1) := by decide +kernel
theorem dX12_rests_0 : decode cX12_rests 0 = .ok (.aload_n 0, 1) := by decide +kernel
theorem dX12_rests_1 : decode cX12_rests 1 = .ok (.iconst 0, 1) := by decide +kernel
theorem dX12_rests_2 : decode cX12_rests 2 = .ok (.putfield 151, 3) := by decide +kernel
theorem dX12_rests_5 : decode cX12_rests 5 = .ok (.aload_n 0, 1) := by decide +kernel
theorem dX12_rests_6 : decode cX12_rests 6 = .ok (.iload_n 1, 1) := by decide +kernel
theorem dX12_rests_7 : decode cX12_rests 7 = .ok (.iload_n 2, 1) := by decide +kernel
theorem dX12_rests_8 : decode cX12_rests 8 = .ok (.invokevirtual 474, 3) := by decide +kernel
theorem dX12_rests_11 : decode cX12_rests 11 = .ok (.ifCond .eq 13, 3) := by decide +kernel
theorem dX12_rests_14 : decode cX12_rests 14 = .ok (.aload_n 0, 1) := by decide +kernel
theorem dX12_rests_15 : decode cX12_rests 15 = .ok (.iload_n 1, 1) := by decide +kernel
theorem dX12_rests_16 : decode cX12_rests 16 = .ok (.iload_n 2, 1) := by decide +kernel
theorem dX12_rests_17 : decode cX12_rests 17 = .ok (.iconst (-1), 1) := by decide +kernel
theorem dX12_rests_18 : decode cX12_rests 18 = .ok (.invokevirtual 477, 3) := by decide +kernel
theorem dX12_rests_21 : decode cX12_rests 21 = .ok (.goto 4, 3) := by decide +kernel
theorem dX12_rests_24 : decode cX12_rests 24 = .ok (.iconst (-1), 1) := by decide +kernel
theorem dX12_rests_25 : decode cX12_rests 25 = .ok (.ireturn, 1) := by decide +kernel
theorem dX12_rest_0 : decode cX12_rest 0 = .ok (.aload_n 0, 1) := by decide +kernel
theorem dX12_rest_1 : decode cX12_rest 1 = .ok (.iconst 0, 1) := by decide +kernel
theorem dX12_rest_2 : decode cX12_rest 2 = .ok (.putfield 151, 3) := by decide +kernel
theorem dX12_rest_5 : decode cX12_rest 5 = .ok (.aload_n 0, 1) := by decide +kernel
theorem dX12_rest_6 : decode cX12_rest 6 = .ok (.iload_n 1, 1) := by decide +kernel
theorem dX12_rest_7 : decode cX12_rest 7 = .ok (.iload_n 2, 1) := by decide +kernel
theorem dX12_rest_8 : decode cX12_rest 8 = .ok (.invokevirtual 474, 3) := by decide +kernel
theorem dX12_rest_11 : decode cX12_rest 11 = .ok (.ifCond .eq 17, 3) := by decide +kernel
theorem dX12_rest_14 : decode cX12_rest 14 = .ok (.iload_n 3, 1) := by decide +kernel
theorem dX12_rest_15 : decode cX12_rest 15 = .ok (.ifCond .lt 13, 3) := by decide +kernel
theorem dX12_rest_18 : decode cX12_rest 18 = .ok (.aload_n 0, 1) := by decide +kernel
theorem dX12_rest_19 : decode cX12_rest 19 = .ok (.iload_n 1, 1) := by decide +kernel
theorem dX12_rest_20 : decode cX12_rest 20 = .ok (.iload_n 2, 1) := by decide +kernel
theorem dX12_rest_21 : decode cX12_rest 21 = .ok (.iload_n 3, 1) := by decide +kernel
theorem dX12_rest_22 : decode cX12_rest 22 = .ok (.invokevirtual 477, 3) := by decide +kernel
theorem dX12_rest_25 : decode cX12_rest 25 = .ok (.goto 4, 3) := by decide +kernel
theorem dX12_rest_28 : decode cX12_rest 28 = .ok (.iconst (-1), 1) := by decide +kernel
theorem dX12_rest_29 : decode cX12_rest 29 = .ok (.ireturn, 1) := by decide +kernel
theorem dX12_sure_0 : decode cX12_sure 0 = .ok (.aload_n 0, 1) := by decide +kernel
theorem dX12_sure_1 : decode cX12_sure 1 = .ok (.iconst 0, 1) := by decide +kernel
theorem dX12_sure_2 : decode cX12_sure 2 = .ok (.putfield 151, 3) := by decide +kernel
theorem dX12_sure_5 : decode cX12_sure 5 = .ok (.iload_n 1, 1) := by decide +kernel
theorem dX12_sure_6 : decode cX12_sure 6 = .ok (.ifCond .lt 18, 3) := by decide +kernel
theorem dX12_sure_9 : decode cX12_sure 9 = .ok (.iload_n 1, 1) := by decide +kernel
theorem dX12_sure_10 : decode cX12_sure 10 = .ok (.bipush 6, 2) := by decide +kernel
theorem dX12_sure_12 : decode cX12_sure 12 = .ok (.if_icmp .gt 12, 3) := by decide +kernel
theorem dX12_sure_15 : decode cX12_sure 15 = .ok (.iload_n 2, 1) := by decide +kernel
theorem dX12_sure_16 : decode cX12_sure 16 = .ok (.ifCond .lt 8, 3) := by decide +kernel
theorem dX12_sure_19 : decode cX12_sure 19 = .ok (.iload_n 2, 1) := by decide +kernel
theorem dX12_sure_20 : decode cX12_sure 20 = .ok (.iconst 1, 1) := by decide +kernel
theorem dX12_sure_21 : decode cX12_sure 21 = .ok (.if_icmp .le 7, 3) := by decide +kernel
theorem dX12_sure_24 : decode cX12_sure 24 = .ok (.ldc2_w 481, 3) := by decide +kernel
theorem dX12_sure_27 : decode cX12_sure 27 = .ok (.lreturn, 1) := by decide +kernel
theorem dX12_sure_28 : decode cX12_sure 28 = .ok (.lconst 1, 1) := by decide +kernel
theorem dX12_sure_29 : decode cX12_sure 29 = .ok (.lstore_n 3, 1) := by decide +kernel
theorem dX12_sure_30 : decode cX12_sure 30 = .ok (.lconst 1, 1) := by decide +kernel
theorem dX12_sure_31 : decode cX12_sure 31 = .ok (.lstore 5, 2) := by decide +kernel
theorem dX12_sure_33 : decode cX12_sure 33 = .ok (.iconst 0, 1) := by decide +kernel
theorem dX12_sure_34 : decode cX12_sure 34 = .ok (.istore 7, 2) := by decide +kernel
theorem dX12_sure_36 : decode cX12_sure 36 = .ok (.iload 7, 2) := by decide +kernel
theorem dX12_sure_38 : decode cX12_sure 38 = .ok (.iload_n 1, 1) := by decide +kernel
theorem dX12_sure_39 : decode cX12_sure 39 = .ok (.if_icmp .ge 31, 3) := by decide +kernel
theorem dX12_sure_42 : decode cX12_sure 42 = .ok (.lload_n 3, 1) := by decide +kernel
theorem dX12_sure_43 : decode cX12_sure 43 = .ok (.ldc2_w 483, 3) := by decide +kernel
theorem dX12_sure_46 : decode cX12_sure 46 = .ok (.aload_n 0, 1) := by decide +kernel
theorem dX12_sure_47 : decode cX12_sure 47 = .ok (.getfield 13, 3) := by decide +kernel
theorem dX12_sure_50 : decode cX12_sure 50 = .ok (.iconst 4, 1) := by decide +kernel
theorem dX12_sure_51 : decode cX12_sure 51 = .ok (.iaload, 1) := by decide +kernel
theorem dX12_sure_52 : decode cX12_sure 52 = .ok (.i2l, 1) := by decide +kernel
theorem dX12_sure_53 : decode cX12_sure 53 = .ok (.lsub, 1) := by decide +kernel
theorem dX12_sure_54 : decode cX12_sure 54 = .ok (.lmul, 1) := by decide +kernel
theorem dX12_sure_55 : decode cX12_sure 55 = .ok (.lstore_n 3, 1) := by decide +kernel
theorem dX12_sure_56 : decode cX12_sure 56 = .ok (.lload 5, 2) := by decide +kernel
theorem dX12_sure_58 : decode cX12_sure 58 = .ok (.ldc2_w 483, 3) := by decide +kernel
theorem dX12_sure_61 : decode cX12_sure 61 = .ok (.lmul, 1) := by decide +kernel
theorem dX12_sure_62 : decode cX12_sure 62 = .ok (.lstore 5, 2) := by decide +kernel
theorem dX12_sure_64 : decode cX12_sure 64 = .ok (.iinc 7 1, 3) := by decide +kernel
theorem dX12_sure_67 : decode cX12_sure 67 = .ok (.goto (-31), 3) := by decide +kernel
theorem dX12_sure_70 : decode cX12_sure 70 = .ok (.lload_n 3, 1) := by decide +kernel
theorem dX12_sure_71 : decode cX12_sure 71 = .ok (.lstore 7, 2) := by decide +kernel
theorem dX12_sure_73 : decode cX12_sure 73 = .ok (.lload 5, 2) := by decide +kernel
theorem dX12_sure_75 : decode cX12_sure 75 = .ok (.lstore 9, 2) := by decide +kernel
theorem dX12_sure_77 : decode cX12_sure 77 = .ok (.lload 9, 2) := by decide +kernel
theorem dX12_sure_79 : decode cX12_sure 79 = .ok (.lconst 0, 1) := by decide +kernel
theorem dX12_sure_80 : decode cX12_sure 80 = .ok (.lcmp, 1) := by decide +kernel
theorem dX12_sure_81 : decode cX12_sure 81 = .ok (.ifCond .eq 21, 3) := by decide +kernel
theorem dX12_sure_84 : decode cX12_sure 84 = .ok (.lload 7, 2) := by decide +kernel
theorem dX12_sure_86 : decode cX12_sure 86 = .ok (.lload 9, 2) := by decide +kernel
theorem dX12_sure_88 : decode cX12_sure 88 = .ok (.lrem, 1) := by decide +kernel
theorem dX12_sure_89 : decode cX12_sure 89 = .ok (.lstore 11, 2) := by decide +kernel
theorem dX12_sure_91 : decode cX12_sure 91 = .ok (.lload 9, 2) := by decide +kernel
theorem dX12_sure_93 : decode cX12_sure 93 = .ok (.lstore 7, 2) := by decide +kernel
theorem dX12_sure_95 : decode cX12_sure 95 = .ok (.lload 11, 2) := by decide +kernel
theorem dX12_sure_97 : decode cX12_sure 97 = .ok (.lstore 9, 2) := by decide +kernel
theorem dX12_sure_99 : decode cX12_sure 99 = .ok (.goto (-22), 3) := by decide +kernel
theorem dX12_sure_102 : decode cX12_sure 102 = .ok (.iload_n 2, 1) := by decide +kernel
theorem dX12_sure_103 : decode cX12_sure 103 = .ok (.ifCond .ne 10, 3) := by decide +kernel
theorem dX12_sure_106 : decode cX12_sure 106 = .ok (.lload_n 3, 1) := by decide +kernel
theorem dX12_sure_107 : decode cX12_sure 107 = .ok (.lload 7, 2) := by decide +kernel
theorem dX12_sure_109 : decode cX12_sure 109 = .ok (.ldiv, 1) := by decide +kernel
theorem dX12_sure_110 : decode cX12_sure 110 = .ok (.goto 8, 3) := by decide +kernel
theorem dX12_sure_113 : decode cX12_sure 113 = .ok (.lload 5, 2) := by decide +kernel
theorem dX12_sure_115 : decode cX12_sure 115 = .ok (.lload 7, 2) := by decide +kernel
theorem dX12_sure_117 : decode cX12_sure 117 = .ok (.ldiv, 1) := by decide +kernel
theorem dX12_sure_118 : decode cX12_sure 118 = .ok (.lreturn, 1) := by decide +kernel
theorem dX12_note_0 : decode cX12_note 0 = .ok (.aload_n 0, 1) := by decide +kernel
theorem dX12_note_1 : decode cX12_note 1 = .ok (.iconst 0, 1) := by decide +kernel
theorem dX12_note_2 : decode cX12_note 2 = .ok (.putfield 151, 3) := by decide +kernel
theorem dX12_note_5 : decode cX12_note 5 = .ok (.iload_n 1, 1) := by decide +kernel
theorem dX12_note_6 : decode cX12_note 6 = .ok (.iconst 1, 1) := by decide +kernel
theorem dX12_note_7 : decode cX12_note 7 = .ok (.if_icmp .lt 28, 3) := by decide +kernel
theorem dX12_note_10 : decode cX12_note 10 = .ok (.iload_n 1, 1) := by decide +kernel
theorem dX12_note_11 : decode cX12_note 11 = .ok (.bipush 60, 2) := by decide +kernel
theorem dX12_note_13 : decode cX12_note 13 = .ok (.if_icmp .gt 22, 3) := by decide +kernel
theorem dX12_note_16 : decode cX12_note 16 = .ok (.iload_n 2, 1) := by decide +kernel
theorem dX12_note_17 : decode cX12_note 17 = .ok (.ifCond .lt 18, 3) := by decide +kernel
theorem dX12_note_20 : decode cX12_note 20 = .ok (.iload_n 2, 1) := by decide +kernel
theorem dX12_note_21 : decode cX12_note 21 = .ok (.bipush 24, 2) := by decide +kernel
theorem dX12_note_23 : decode cX12_note 23 = .ok (.if_icmp .gt 12, 3) := by decide +kernel
theorem dX12_note_26 : decode cX12_note 26 = .ok (.aload_n 0, 1) := by decide +kernel
theorem dX12_note_27 : decode cX12_note 27 = .ok (.getfield 304, 3) := by decide +kernel
theorem dX12_note_30 : decode cX12_note 30 = .ok (.bipush 24, 2) := by decide +kernel
theorem dX12_note_32 : decode cX12_note 32 = .ok (.if_icmp .ne 5, 3) := by decide +kernel
theorem dX12_note_35 : decode cX12_note 35 = .ok (.iconst (-1), 1) := by decide +kernel
theorem dX12_note_36 : decode cX12_note 36 = .ok (.ireturn, 1) := by decide +kernel
theorem dX12_note_37 : decode cX12_note 37 = .ok (.aload_n 0, 1) := by decide +kernel
theorem dX12_note_38 : decode cX12_note 38 = .ok (.getfield 129, 3) := by decide +kernel
theorem dX12_note_41 : decode cX12_note 41 = .ok (.aload_n 0, 1) := by decide +kernel
theorem dX12_note_42 : decode cX12_note 42 = .ok (.getfield 304, 3) := by decide +kernel
theorem dX12_note_45 : decode cX12_note 45 = .ok (.iload_n 1, 1) := by decide +kernel
theorem dX12_note_46 : decode cX12_note 46 = .ok (.iastore, 1) := by decide +kernel
theorem dX12_note_47 : decode cX12_note 47 = .ok (.aload_n 0, 1) := by decide +kernel
theorem dX12_note_48 : decode cX12_note 48 = .ok (.getfield 132, 3) := by decide +kernel
theorem dX12_note_51 : decode cX12_note 51 = .ok (.aload_n 0, 1) := by decide +kernel
theorem dX12_note_52 : decode cX12_note 52 = .ok (.getfield 304, 3) := by decide +kernel
theorem dX12_note_55 : decode cX12_note 55 = .ok (.iload_n 2, 1) := by decide +kernel
theorem dX12_note_56 : decode cX12_note 56 = .ok (.iastore, 1) := by decide +kernel
theorem dX12_note_57 : decode cX12_note 57 = .ok (.aload_n 0, 1) := by decide +kernel
theorem dX12_note_58 : decode cX12_note 58 = .ok (.getfield 135, 3) := by decide +kernel
theorem dX12_note_61 : decode cX12_note 61 = .ok (.aload_n 0, 1) := by decide +kernel
theorem dX12_note_62 : decode cX12_note 62 = .ok (.getfield 304, 3) := by decide +kernel
theorem dX12_note_65 : decode cX12_note 65 = .ok (.iload_n 3, 1) := by decide +kernel
theorem dX12_note_66 : decode cX12_note 66 = .ok (.bastore, 1) := by decide +kernel
theorem dX12_note_67 : decode cX12_note 67 = .ok (.aload_n 0, 1) := by decide +kernel
theorem dX12_note_68 : decode cX12_note 68 = .ok (.getfield 139, 3) := by decide +kernel
theorem dX12_note_71 : decode cX12_note 71 = .ok (.aload_n 0, 1) := by decide +kernel
theorem dX12_note_72 : decode cX12_note 72 = .ok (.getfield 304, 3) := by decide +kernel
theorem dX12_note_75 : decode cX12_note 75 = .ok (.iconst (-1), 1) := by decide +kernel
theorem dX12_note_76 : decode cX12_note 76 = .ok (.iastore, 1) := by decide +kernel
theorem dX12_note_77 : decode cX12_note 77 = .ok (.aload_n 0, 1) := by decide +kernel
theorem dX12_note_78 : decode cX12_note 78 = .ok (.dup, 1) := by decide +kernel
theorem dX12_note_79 : decode cX12_note 79 = .ok (.getfield 304, 3) := by decide +kernel
theorem dX12_note_82 : decode cX12_note 82 = .ok (.iconst 1, 1) := by decide +kernel
theorem dX12_note_83 : decode cX12_note 83 = .ok (.iadd, 1) := by decide +kernel
theorem dX12_note_84 : decode cX12_note 84 = .ok (.putfield 304, 3) := by decide +kernel
theorem dX12_note_87 : decode cX12_note 87 = .ok (.aload_n 0, 1) := by decide +kernel
theorem dX12_note_88 : decode cX12_note 88 = .ok (.getfield 304, 3) := by decide +kernel
theorem dX12_note_91 : decode cX12_note 91 = .ok (.iconst 1, 1) := by decide +kernel
theorem dX12_note_92 : decode cX12_note 92 = .ok (.isub, 1) := by decide +kernel
theorem dX12_note_93 : decode cX12_note 93 = .ok (.ireturn, 1) := by decide +kernel
theorem dX12_strike_0 : decode cX12_strike 0 = .ok (.aload_n 0, 1) := by decide +kernel
theorem dX12_strike_1 : decode cX12_strike 1 = .ok (.iconst 0, 1) := by decide +kernel
theorem dX12_strike_2 : decode cX12_strike 2 = .ok (.putfield 151, 3) := by decide +kernel
theorem dX12_strike_5 : decode cX12_strike 5 = .ok (.iload_n 1, 1) := by decide +kernel
theorem dX12_strike_6 : decode cX12_strike 6 = .ok (.ifCond .lt 20, 3) := by decide +kernel
theorem dX12_strike_9 : decode cX12_strike 9 = .ok (.iload_n 1, 1) := by decide +kernel
theorem dX12_strike_10 : decode cX12_strike 10 = .ok (.aload_n 0, 1) := by decide +kernel
theorem dX12_strike_11 : decode cX12_strike 11 = .ok (.getfield 304, 3) := by decide +kernel
theorem dX12_strike_14 : decode cX12_strike 14 = .ok (.if_icmp .ge 12, 3) := by decide +kernel
theorem dX12_strike_17 : decode cX12_strike 17 = .ok (.aload_n 0, 1) := by decide +kernel
theorem dX12_strike_18 : decode cX12_strike 18 = .ok (.getfield 304, 3) := by decide +kernel
theorem dX12_strike_21 : decode cX12_strike 21 = .ok (.bipush 24, 2) := by decide +kernel
theorem dX12_strike_23 : decode cX12_strike 23 = .ok (.if_icmp .ne 5, 3) := by decide +kernel
theorem dX12_strike_26 : decode cX12_strike 26 = .ok (.iconst (-1), 1) := by decide +kernel
theorem dX12_strike_27 : decode cX12_strike 27 = .ok (.ireturn, 1) := by decide +kernel
theorem dX12_strike_28 : decode cX12_strike 28 = .ok (.aload_n 0, 1) := by decide +kernel
theorem dX12_strike_29 : decode cX12_strike 29 = .ok (.getfield 139, 3) := by decide +kernel
theorem dX12_strike_32 : decode cX12_strike 32 = .ok (.aload_n 0, 1) := by decide +kernel
theorem dX12_strike_33 : decode cX12_strike 33 = .ok (.getfield 304, 3) := by decide +kernel
theorem dX12_strike_36 : decode cX12_strike 36 = .ok (.iload_n 1, 1) := by decide +kernel
theorem dX12_strike_37 : decode cX12_strike 37 = .ok (.iastore, 1) := by decide +kernel
theorem dX12_strike_38 : decode cX12_strike 38 = .ok (.aload_n 0, 1) := by decide +kernel
theorem dX12_strike_39 : decode cX12_strike 39 = .ok (.dup, 1) := by decide +kernel
theorem dX12_strike_40 : decode cX12_strike 40 = .ok (.getfield 304, 3) := by decide +kernel
theorem dX12_strike_43 : decode cX12_strike 43 = .ok (.iconst 1, 1) := by decide +kernel
theorem dX12_strike_44 : decode cX12_strike 44 = .ok (.iadd, 1) := by decide +kernel
theorem dX12_strike_45 : decode cX12_strike 45 = .ok (.putfield 304, 3) := by decide +kernel
theorem dX12_strike_48 : decode cX12_strike 48 = .ok (.aload_n 0, 1) := by decide +kernel
theorem dX12_strike_49 : decode cX12_strike 49 = .ok (.getfield 304, 3) := by decide +kernel
theorem dX12_strike_52 : decode cX12_strike 52 = .ok (.iconst 1, 1) := by decide +kernel
theorem dX12_strike_53 : decode cX12_strike 53 = .ok (.isub, 1) := by decide +kernel
theorem dX12_strike_54 : decode cX12_strike 54 = .ok (.ireturn, 1) := by decide +kernel
theorem dX12_toldBy_0 : decode cX12_toldBy 0 = .ok (.aload_n 0, 1) := by decide +kernel
theorem dX12_toldBy_1 : decode cX12_toldBy 1 = .ok (.iconst 0, 1) := by decide +kernel
theorem dX12_toldBy_2 : decode cX12_toldBy 2 = .ok (.putfield 151, 3) := by decide +kernel
theorem dX12_toldBy_5 : decode cX12_toldBy 5 = .ok (.iload_n 1, 1) := by decide +kernel
theorem dX12_toldBy_6 : decode cX12_toldBy 6 = .ok (.iconst (-1), 1) := by decide +kernel
theorem dX12_toldBy_7 : decode cX12_toldBy 7 = .ok (.if_icmp .lt 11, 3) := by decide +kernel
theorem dX12_toldBy_10 : decode cX12_toldBy 10 = .ok (.iload_n 1, 1) := by decide +kernel
theorem dX12_toldBy_11 : decode cX12_toldBy 11 = .ok (.aload_n 0, 1) := by decide +kernel
theorem dX12_toldBy_12 : decode cX12_toldBy 12 = .ok (.getfield 304, 3) := by decide +kernel
theorem dX12_toldBy_15 : decode cX12_toldBy 15 = .ok (.if_icmp .le 5, 3) := by decide +kernel
theorem dX12_toldBy_18 : decode cX12_toldBy 18 = .ok (.iconst 0, 1) := by decide +kernel
theorem dX12_toldBy_19 : decode cX12_toldBy 19 = .ok (.ireturn, 1) := by decide +kernel
theorem dX12_toldBy_20 : decode cX12_toldBy 20 = .ok (.aload_n 0, 1) := by decide +kernel
theorem dX12_toldBy_21 : decode cX12_toldBy 21 = .ok (.iload_n 1, 1) := by decide +kernel
theorem dX12_toldBy_22 : decode cX12_toldBy 22 = .ok (.putfield 126, 3) := by decide +kernel
theorem dX12_toldBy_25 : decode cX12_toldBy 25 = .ok (.iconst 1, 1) := by decide +kernel
theorem dX12_toldBy_26 : decode cX12_toldBy 26 = .ok (.ireturn, 1) := by decide +kernel
theorem dX12_knownMany_0 : decode cX12_knownMany 0 = .ok (.aload_n 0, 1) := by decide +kernel
theorem dX12_knownMany_1 : decode cX12_knownMany 1 = .ok (.getfield 126, 3) := by decide +kernel
theorem dX12_knownMany_4 : decode cX12_knownMany 4 = .ok (.iconst (-1), 1) := by decide +kernel
theorem dX12_knownMany_5 : decode cX12_knownMany 5 = .ok (.if_icmp .ne 10, 3) := by decide +kernel
theorem dX12_knownMany_8 : decode cX12_knownMany 8 = .ok (.aload_n 0, 1) := by decide +kernel
theorem dX12_knownMany_9 : decode cX12_knownMany 9 = .ok (.getfield 304, 3) := by decide +kernel
theorem dX12_knownMany_12 : decode cX12_knownMany 12 = .ok (.goto 7, 3) := by decide +kernel
theorem dX12_knownMany_15 : decode cX12_knownMany 15 = .ok (.aload_n 0, 1) := by decide +kernel
theorem dX12_knownMany_16 : decode cX12_knownMany 16 = .ok (.getfield 126, 3) := by decide +kernel
theorem dX12_knownMany_19 : decode cX12_knownMany 19 = .ok (.ireturn, 1) := by decide +kernel
theorem dX12_isSo_0 : decode cX12_isSo 0 = .ok (.iconst 0, 1) := by decide +kernel
theorem dX12_isSo_1 : decode cX12_isSo 1 = .ok (.istore_n 2, 1) := by decide +kernel
theorem dX12_isSo_2 : decode cX12_isSo 2 = .ok (.iload_n 2, 1) := by decide +kernel
theorem dX12_isSo_3 : decode cX12_isSo 3 = .ok (.aload_n 0, 1) := by decide +kernel
theorem dX12_isSo_4 : decode cX12_isSo 4 = .ok (.invokevirtual 485, 3) := by decide +kernel
theorem dX12_isSo_7 : decode cX12_isSo 7 = .ok (.if_icmp .ge 72, 3) := by decide +kernel
theorem dX12_isSo_10 : decode cX12_isSo 10 = .ok (.aload_n 0, 1) := by decide +kernel
theorem dX12_isSo_11 : decode cX12_isSo 11 = .ok (.getfield 142, 3) := by decide +kernel
theorem dX12_isSo_14 : decode cX12_isSo 14 = .ok (.iload_n 2, 1) := by decide +kernel
theorem dX12_isSo_15 : decode cX12_isSo 15 = .ok (.baload, 1) := by decide +kernel
theorem dX12_isSo_16 : decode cX12_isSo 16 = .ok (.ifCond .ne 57, 3) := by decide +kernel
theorem dX12_isSo_19 : decode cX12_isSo 19 = .ok (.aload_n 0, 1) := by decide +kernel
theorem dX12_isSo_20 : decode cX12_isSo 20 = .ok (.getfield 139, 3) := by decide +kernel
theorem dX12_isSo_23 : decode cX12_isSo 23 = .ok (.iload_n 2, 1) := by decide +kernel
theorem dX12_isSo_24 : decode cX12_isSo 24 = .ok (.iaload, 1) := by decide +kernel
theorem dX12_isSo_25 : decode cX12_isSo 25 = .ok (.iconst (-1), 1) := by decide +kernel
theorem dX12_isSo_26 : decode cX12_isSo 26 = .ok (.if_icmp .ne 47, 3) := by decide +kernel
theorem dX12_isSo_29 : decode cX12_isSo 29 = .ok (.aload_n 0, 1) := by decide +kernel
theorem dX12_isSo_30 : decode cX12_isSo 30 = .ok (.getfield 129, 3) := by decide +kernel
theorem dX12_isSo_33 : decode cX12_isSo 33 = .ok (.iload_n 2, 1) := by decide +kernel
theorem dX12_isSo_34 : decode cX12_isSo 34 = .ok (.iaload, 1) := by decide +kernel
theorem dX12_isSo_35 : decode cX12_isSo 35 = .ok (.iload_n 1, 1) := by decide +kernel
theorem dX12_isSo_36 : decode cX12_isSo 36 = .ok (.if_icmp .eq 6, 3) := by decide +kernel
theorem dX12_isSo_39 : decode cX12_isSo 39 = .ok (.goto 34, 3) := by decide +kernel
theorem dX12_isSo_42 : decode cX12_isSo 42 = .ok (.aload_n 0, 1) := by decide +kernel
theorem dX12_isSo_43 : decode cX12_isSo 43 = .ok (.getfield 84, 3) := by decide +kernel
theorem dX12_isSo_46 : decode cX12_isSo 46 = .ok (.iconst 1, 1) := by decide +kernel
theorem dX12_isSo_47 : decode cX12_isSo 47 = .ok (.iaload, 1) := by decide +kernel
theorem dX12_isSo_48 : decode cX12_isSo 48 = .ok (.aload_n 0, 1) := by decide +kernel
theorem dX12_isSo_49 : decode cX12_isSo 49 = .ok (.getfield 132, 3) := by decide +kernel
theorem dX12_isSo_52 : decode cX12_isSo 52 = .ok (.iload_n 2, 1) := by decide +kernel
theorem dX12_isSo_53 : decode cX12_isSo 53 = .ok (.iaload, 1) := by decide +kernel
theorem dX12_isSo_54 : decode cX12_isSo 54 = .ok (.if_icmp .lt 7, 3) := by decide +kernel
theorem dX12_isSo_57 : decode cX12_isSo 57 = .ok (.iconst 1, 1) := by decide +kernel
theorem dX12_isSo_58 : decode cX12_isSo 58 = .ok (.goto 4, 3) := by decide +kernel
theorem dX12_isSo_61 : decode cX12_isSo 61 = .ok (.iconst 0, 1) := by decide +kernel
theorem dX12_isSo_62 : decode cX12_isSo 62 = .ok (.aload_n 0, 1) := by decide +kernel
theorem dX12_isSo_63 : decode cX12_isSo 63 = .ok (.getfield 135, 3) := by decide +kernel
theorem dX12_isSo_66 : decode cX12_isSo 66 = .ok (.iload_n 2, 1) := by decide +kernel
theorem dX12_isSo_67 : decode cX12_isSo 67 = .ok (.baload, 1) := by decide +kernel
theorem dX12_isSo_68 : decode cX12_isSo 68 = .ok (.if_icmp .eq 5, 3) := by decide +kernel
theorem dX12_isSo_71 : decode cX12_isSo 71 = .ok (.iconst 0, 1) := by decide +kernel
theorem dX12_isSo_72 : decode cX12_isSo 72 = .ok (.ireturn, 1) := by decide +kernel
theorem dX12_isSo_73 : decode cX12_isSo 73 = .ok (.iinc 2 1, 3) := by decide +kernel
theorem dX12_isSo_76 : decode cX12_isSo 76 = .ok (.goto (-74), 3) := by decide +kernel
theorem dX12_isSo_79 : decode cX12_isSo 79 = .ok (.iconst 1, 1) := by decide +kernel
theorem dX12_isSo_80 : decode cX12_isSo 80 = .ok (.ireturn, 1) := by decide +kernel
theorem dX12_fitsHour_0 : decode cX12_fitsHour 0 = .ok (.aload_n 0, 1) := by decide +kernel
theorem dX12_fitsHour_1 : decode cX12_fitsHour 1 = .ok (.iconst 1, 1) := by decide +kernel
theorem dX12_fitsHour_2 : decode cX12_fitsHour 2 = .ok (.invokevirtual 334, 3) := by decide +kernel
theorem dX12_fitsHour_5 : decode cX12_fitsHour 5 = .ok (.iconst 1, 1) := by decide +kernel
theorem dX12_fitsHour_6 : decode cX12_fitsHour 6 = .ok (.istore_n 2, 1) := by decide +kernel
theorem dX12_fitsHour_7 : decode cX12_fitsHour 7 = .ok (.iload_n 2, 1) := by decide +kernel
theorem dX12_fitsHour_8 : decode cX12_fitsHour 8 = .ok (.iload_n 1, 1) := by decide +kernel
theorem dX12_fitsHour_9 : decode cX12_fitsHour 9 = .ok (.if_icmp .gt 25, 3) := by decide +kernel
theorem dX12_fitsHour_12 : decode cX12_fitsHour 12 = .ok (.aload_n 0, 1) := by decide +kernel
theorem dX12_fitsHour_13 : decode cX12_fitsHour 13 = .ok (.iconst 1, 1) := by decide +kernel
theorem dX12_fitsHour_14 : decode cX12_fitsHour 14 = .ok (.iconst 0, 1) := by decide +kernel
theorem dX12_fitsHour_15 : decode cX12_fitsHour 15 = .ok (.invokevirtual 401, 3) := by decide +kernel
theorem dX12_fitsHour_18 : decode cX12_fitsHour 18 = .ok (.aload_n 0, 1) := by decide +kernel
theorem dX12_fitsHour_19 : decode cX12_fitsHour 19 = .ok (.iload_n 2, 1) := by decide +kernel
theorem dX12_fitsHour_20 : decode cX12_fitsHour 20 = .ok (.invokevirtual 488, 3) := by decide +kernel
theorem dX12_fitsHour_23 : decode cX12_fitsHour 23 = .ok (.ifCond .ne 5, 3) := by decide +kernel
theorem dX12_fitsHour_26 : decode cX12_fitsHour 26 = .ok (.iconst 0, 1) := by decide +kernel
theorem dX12_fitsHour_27 : decode cX12_fitsHour 27 = .ok (.ireturn, 1) := by decide +kernel
theorem dX12_fitsHour_28 : decode cX12_fitsHour 28 = .ok (.iinc 2 1, 3) := by decide +kernel
theorem dX12_fitsHour_31 : decode cX12_fitsHour 31 = .ok (.goto (-24), 3) := by decide +kernel
theorem dX12_fitsHour_34 : decode cX12_fitsHour 34 = .ok (.iconst 1, 1) := by decide +kernel
theorem dX12_fitsHour_35 : decode cX12_fitsHour 35 = .ok (.ireturn, 1) := by decide +kernel
theorem dX12_hoursOf_0 : decode cX12_hoursOf 0 = .ok (.iconst 0, 1) := by decide +kernel
theorem dX12_hoursOf_1 : decode cX12_hoursOf 1 = .ok (.istore_n 2, 1) := by decide +kernel
theorem dX12_hoursOf_2 : decode cX12_hoursOf 2 = .ok (.iconst 0, 1) := by decide +kernel
theorem dX12_hoursOf_3 : decode cX12_hoursOf 3 = .ok (.istore_n 3, 1) := by decide +kernel
theorem dX12_hoursOf_4 : decode cX12_hoursOf 4 = .ok (.iload_n 3, 1) := by decide +kernel
theorem dX12_hoursOf_5 : decode cX12_hoursOf 5 = .ok (.aload_n 0, 1) := by decide +kernel
theorem dX12_hoursOf_6 : decode cX12_hoursOf 6 = .ok (.invokevirtual 485, 3) := by decide +kernel
theorem dX12_hoursOf_9 : decode cX12_hoursOf 9 = .ok (.if_icmp .ge 16, 3) := by decide +kernel
theorem dX12_hoursOf_12 : decode cX12_hoursOf 12 = .ok (.aload_n 0, 1) := by decide +kernel
theorem dX12_hoursOf_13 : decode cX12_hoursOf 13 = .ok (.getfield 142, 3) := by decide +kernel
theorem dX12_hoursOf_16 : decode cX12_hoursOf 16 = .ok (.iload_n 3, 1) := by decide +kernel
theorem dX12_hoursOf_17 : decode cX12_hoursOf 17 = .ok (.iconst 0, 1) := by decide +kernel
theorem dX12_hoursOf_18 : decode cX12_hoursOf 18 = .ok (.bastore, 1) := by decide +kernel
theorem dX12_hoursOf_19 : decode cX12_hoursOf 19 = .ok (.iinc 3 1, 3) := by decide +kernel
theorem dX12_hoursOf_22 : decode cX12_hoursOf 22 = .ok (.goto (-18), 3) := by decide +kernel
theorem dX12_hoursOf_25 : decode cX12_hoursOf 25 = .ok (.aload_n 0, 1) := by decide +kernel
theorem dX12_hoursOf_26 : decode cX12_hoursOf 26 = .ok (.invokevirtual 485, 3) := by decide +kernel
theorem dX12_hoursOf_29 : decode cX12_hoursOf 29 = .ok (.iconst 1, 1) := by decide +kernel
theorem dX12_hoursOf_30 : decode cX12_hoursOf 30 = .ok (.isub, 1) := by decide +kernel
theorem dX12_hoursOf_31 : decode cX12_hoursOf 31 = .ok (.istore_n 3, 1) := by decide +kernel
theorem dX12_hoursOf_32 : decode cX12_hoursOf 32 = .ok (.iload_n 3, 1) := by decide +kernel
theorem dX12_hoursOf_33 : decode cX12_hoursOf 33 = .ok (.ifCond .lt 40, 3) := by decide +kernel
theorem dX12_hoursOf_36 : decode cX12_hoursOf 36 = .ok (.aload_n 0, 1) := by decide +kernel
theorem dX12_hoursOf_37 : decode cX12_hoursOf 37 = .ok (.getfield 142, 3) := by decide +kernel
theorem dX12_hoursOf_40 : decode cX12_hoursOf 40 = .ok (.iload_n 3, 1) := by decide +kernel
theorem dX12_hoursOf_41 : decode cX12_hoursOf 41 = .ok (.baload, 1) := by decide +kernel
theorem dX12_hoursOf_42 : decode cX12_hoursOf 42 = .ok (.ifCond .ne 25, 3) := by decide +kernel
theorem dX12_hoursOf_45 : decode cX12_hoursOf 45 = .ok (.aload_n 0, 1) := by decide +kernel
theorem dX12_hoursOf_46 : decode cX12_hoursOf 46 = .ok (.getfield 139, 3) := by decide +kernel
theorem dX12_hoursOf_49 : decode cX12_hoursOf 49 = .ok (.iload_n 3, 1) := by decide +kernel
theorem dX12_hoursOf_50 : decode cX12_hoursOf 50 = .ok (.iaload, 1) := by decide +kernel
theorem dX12_hoursOf_51 : decode cX12_hoursOf 51 = .ok (.iconst (-1), 1) := by decide +kernel
theorem dX12_hoursOf_52 : decode cX12_hoursOf 52 = .ok (.if_icmp .eq 15, 3) := by decide +kernel
theorem dX12_hoursOf_55 : decode cX12_hoursOf 55 = .ok (.aload_n 0, 1) := by decide +kernel
theorem dX12_hoursOf_56 : decode cX12_hoursOf 56 = .ok (.getfield 142, 3) := by decide +kernel
theorem dX12_hoursOf_59 : decode cX12_hoursOf 59 = .ok (.aload_n 0, 1) := by decide +kernel
theorem dX12_hoursOf_60 : decode cX12_hoursOf 60 = .ok (.getfield 139, 3) := by decide +kernel
theorem dX12_hoursOf_63 : decode cX12_hoursOf 63 = .ok (.iload_n 3, 1) := by decide +kernel
theorem dX12_hoursOf_64 : decode cX12_hoursOf 64 = .ok (.iaload, 1) := by decide +kernel
theorem dX12_hoursOf_65 : decode cX12_hoursOf 65 = .ok (.iconst 1, 1) := by decide +kernel
theorem dX12_hoursOf_66 : decode cX12_hoursOf 66 = .ok (.bastore, 1) := by decide +kernel
theorem dX12_hoursOf_67 : decode cX12_hoursOf 67 = .ok (.iinc 3 (-1), 3) := by decide +kernel
theorem dX12_hoursOf_70 : decode cX12_hoursOf 70 = .ok (.goto (-38), 3) := by decide +kernel
theorem dX12_hoursOf_73 : decode cX12_hoursOf 73 = .ok (.iconst 0, 1) := by decide +kernel
theorem dX12_hoursOf_74 : decode cX12_hoursOf 74 = .ok (.istore_n 3, 1) := by decide +kernel
theorem dX12_hoursOf_75 : decode cX12_hoursOf 75 = .ok (.iload_n 3, 1) := by decide +kernel
theorem dX12_hoursOf_76 : decode cX12_hoursOf 76 = .ok (.aload_n 0, 1) := by decide +kernel
theorem dX12_hoursOf_77 : decode cX12_hoursOf 77 = .ok (.invokevirtual 485, 3) := by decide +kernel
theorem dX12_hoursOf_80 : decode cX12_hoursOf 80 = .ok (.if_icmp .ge 39, 3) := by decide +kernel
theorem dX12_hoursOf_83 : decode cX12_hoursOf 83 = .ok (.aload_n 0, 1) := by decide +kernel
theorem dX12_hoursOf_84 : decode cX12_hoursOf 84 = .ok (.getfield 142, 3) := by decide +kernel
theorem dX12_hoursOf_87 : decode cX12_hoursOf 87 = .ok (.iload_n 3, 1) := by decide +kernel
theorem dX12_hoursOf_88 : decode cX12_hoursOf 88 = .ok (.baload, 1) := by decide +kernel
theorem dX12_hoursOf_89 : decode cX12_hoursOf 89 = .ok (.ifCond .ne 24, 3) := by decide +kernel
theorem dX12_hoursOf_92 : decode cX12_hoursOf 92 = .ok (.aload_n 0, 1) := by decide +kernel
theorem dX12_hoursOf_93 : decode cX12_hoursOf 93 = .ok (.getfield 139, 3) := by decide +kernel
theorem dX12_hoursOf_96 : decode cX12_hoursOf 96 = .ok (.iload_n 3, 1) := by decide +kernel
theorem dX12_hoursOf_97 : decode cX12_hoursOf 97 = .ok (.iaload, 1) := by decide +kernel
theorem dX12_hoursOf_98 : decode cX12_hoursOf 98 = .ok (.iconst (-1), 1) := by decide +kernel
theorem dX12_hoursOf_99 : decode cX12_hoursOf 99 = .ok (.if_icmp .ne 14, 3) := by decide +kernel
theorem dX12_hoursOf_102 : decode cX12_hoursOf 102 = .ok (.iload_n 2, 1) := by decide +kernel
theorem dX12_hoursOf_103 : decode cX12_hoursOf 103 = .ok (.aload_n 0, 1) := by decide +kernel
theorem dX12_hoursOf_104 : decode cX12_hoursOf 104 = .ok (.getfield 129, 3) := by decide +kernel
theorem dX12_hoursOf_107 : decode cX12_hoursOf 107 = .ok (.iload_n 3, 1) := by decide +kernel
theorem dX12_hoursOf_108 : decode cX12_hoursOf 108 = .ok (.iaload, 1) := by decide +kernel
theorem dX12_hoursOf_109 : decode cX12_hoursOf 109 = .ok (.invokestatic 393, 3) := by decide +kernel
theorem dX12_hoursOf_112 : decode cX12_hoursOf 112 = .ok (.istore_n 2, 1) := by decide +kernel
theorem dX12_hoursOf_113 : decode cX12_hoursOf 113 = .ok (.iinc 3 1, 3) := by decide +kernel
theorem dX12_hoursOf_116 : decode cX12_hoursOf 116 = .ok (.goto (-41), 3) := by decide +kernel
theorem dX12_hoursOf_119 : decode cX12_hoursOf 119 = .ok (.iconst 0, 1) := by decide +kernel
theorem dX12_hoursOf_120 : decode cX12_hoursOf 120 = .ok (.istore_n 3, 1) := by decide +kernel
theorem dX12_hoursOf_121 : decode cX12_hoursOf 121 = .ok (.aload_n 0, 1) := by decide +kernel
theorem dX12_hoursOf_122 : decode cX12_hoursOf 122 = .ok (.iload_n 1, 1) := by decide +kernel
theorem dX12_hoursOf_123 : decode cX12_hoursOf 123 = .ok (.putfield 105, 3) := by decide +kernel
theorem dX12_hoursOf_126 : decode cX12_hoursOf 126 = .ok (.iconst 0, 1) := by decide +kernel
theorem dX12_hoursOf_127 : decode cX12_hoursOf 127 = .ok (.istore 4, 2) := by decide +kernel
theorem dX12_hoursOf_129 : decode cX12_hoursOf 129 = .ok (.iload 4, 2) := by decide +kernel
theorem dX12_hoursOf_131 : decode cX12_hoursOf 131 = .ok (.bipush 24, 2) := by decide +kernel
theorem dX12_hoursOf_133 : decode cX12_hoursOf 133 = .ok (.if_icmp .ge 34, 3) := by decide +kernel
theorem dX12_hoursOf_136 : decode cX12_hoursOf 136 = .ok (.aload_n 0, 1) := by decide +kernel
theorem dX12_hoursOf_137 : decode cX12_hoursOf 137 = .ok (.iload 4, 2) := by decide +kernel
theorem dX12_hoursOf_139 : decode cX12_hoursOf 139 = .ok (.putfield 344, 3) := by decide +kernel
theorem dX12_hoursOf_142 : decode cX12_hoursOf 142 = .ok (.iload_n 3, 1) := by decide +kernel
theorem dX12_hoursOf_143 : decode cX12_hoursOf 143 = .ok (.aload_n 0, 1) := by decide +kernel
theorem dX12_hoursOf_144 : decode cX12_hoursOf 144 = .ok (.iload_n 2, 1) := by decide +kernel
theorem dX12_hoursOf_145 : decode cX12_hoursOf 145 = .ok (.invokevirtual 491, 3) := by decide +kernel
theorem dX12_hoursOf_148 : decode cX12_hoursOf 148 = .ok (.ifCond .eq 10, 3) := by decide +kernel
theorem dX12_hoursOf_151 : decode cX12_hoursOf 151 = .ok (.iconst 1, 1) := by decide +kernel
theorem dX12_hoursOf_152 : decode cX12_hoursOf 152 = .ok (.iload 4, 2) := by decide +kernel
theorem dX12_hoursOf_154 : decode cX12_hoursOf 154 = .ok (.ishl, 1) := by decide +kernel
theorem dX12_hoursOf_155 : decode cX12_hoursOf 155 = .ok (.goto 4, 3) := by decide +kernel
theorem dX12_hoursOf_158 : decode cX12_hoursOf 158 = .ok (.iconst 0, 1) := by decide +kernel
theorem dX12_hoursOf_159 : decode cX12_hoursOf 159 = .ok (.ior, 1) := by decide +kernel
theorem dX12_hoursOf_160 : decode cX12_hoursOf 160 = .ok (.istore_n 3, 1) := by decide +kernel
theorem dX12_hoursOf_161 : decode cX12_hoursOf 161 = .ok (.iinc 4 1, 3) := by decide +kernel
theorem dX12_hoursOf_164 : decode cX12_hoursOf 164 = .ok (.goto (-35), 3) := by decide +kernel
theorem dX12_hoursOf_167 : decode cX12_hoursOf 167 = .ok (.aload_n 0, 1) := by decide +kernel
theorem dX12_hoursOf_168 : decode cX12_hoursOf 168 = .ok (.iconst (-1), 1) := by decide +kernel
theorem dX12_hoursOf_169 : decode cX12_hoursOf 169 = .ok (.putfield 105, 3) := by decide +kernel
theorem dX12_hoursOf_172 : decode cX12_hoursOf 172 = .ok (.iload_n 3, 1) := by decide +kernel
theorem dX12_hoursOf_173 : decode cX12_hoursOf 173 = .ok (.ireturn, 1) := by decide +kernel
theorem dX12_hours_0 : decode cX12_hours 0 = .ok (.aload_n 0, 1) := by decide +kernel
theorem dX12_hours_1 : decode cX12_hours 1 = .ok (.iconst 0, 1) := by decide +kernel
theorem dX12_hours_2 : decode cX12_hours 2 = .ok (.putfield 151, 3) := by decide +kernel
theorem dX12_hours_5 : decode cX12_hours 5 = .ok (.aload_n 0, 1) := by decide +kernel
theorem dX12_hours_6 : decode cX12_hours 6 = .ok (.iload_n 1, 1) := by decide +kernel
theorem dX12_hours_7 : decode cX12_hours 7 = .ok (.invokevirtual 405, 3) := by decide +kernel
theorem dX12_hours_10 : decode cX12_hours 10 = .ok (.ifCond .eq 11, 3) := by decide +kernel
theorem dX12_hours_13 : decode cX12_hours 13 = .ok (.aload_n 0, 1) := by decide +kernel
theorem dX12_hours_14 : decode cX12_hours 14 = .ok (.iload_n 1, 1) := by decide +kernel
theorem dX12_hours_15 : decode cX12_hours 15 = .ok (.invokevirtual 494, 3) := by decide +kernel
theorem dX12_hours_18 : decode cX12_hours 18 = .ok (.goto 4, 3) := by decide +kernel
theorem dX12_hours_21 : decode cX12_hours 21 = .ok (.iconst (-1), 1) := by decide +kernel
theorem dX12_hours_22 : decode cX12_hours 22 = .ok (.ireturn, 1) := by decide +kernel
theorem dX12_worstAt_0 : decode cX12_worstAt 0 = .ok (.iconst 0, 1) := by decide +kernel
theorem dX12_worstAt_1 : decode cX12_worstAt 1 = .ok (.istore_n 3, 1) := by decide +kernel
theorem dX12_worstAt_2 : decode cX12_worstAt 2 = .ok (.iconst 0, 1) := by decide +kernel
theorem dX12_worstAt_3 : decode cX12_worstAt 3 = .ok (.istore 4, 2) := by decide +kernel
theorem dX12_worstAt_5 : decode cX12_worstAt 5 = .ok (.iload 4, 2) := by decide +kernel
theorem dX12_worstAt_7 : decode cX12_worstAt 7 = .ok (.bipush 24, 2) := by decide +kernel
theorem dX12_worstAt_9 : decode cX12_worstAt 9 = .ok (.if_icmp .ge 92, 3) := by decide +kernel
theorem dX12_worstAt_12 : decode cX12_worstAt 12 = .ok (.iconst 0, 1) := by decide +kernel
theorem dX12_worstAt_13 : decode cX12_worstAt 13 = .ok (.istore 5, 2) := by decide +kernel
theorem dX12_worstAt_15 : decode cX12_worstAt 15 = .ok (.iconst 0, 1) := by decide +kernel
theorem dX12_worstAt_16 : decode cX12_worstAt 16 = .ok (.istore 6, 2) := by decide +kernel
theorem dX12_worstAt_18 : decode cX12_worstAt 18 = .ok (.iload 6, 2) := by decide +kernel
theorem dX12_worstAt_20 : decode cX12_worstAt 20 = .ok (.bipush 24, 2) := by decide +kernel
theorem dX12_worstAt_22 : decode cX12_worstAt 22 = .ok (.if_icmp .ge 56, 3) := by decide +kernel
theorem dX12_worstAt_25 : decode cX12_worstAt 25 = .ok (.iload 5, 2) := by decide +kernel
theorem dX12_worstAt_27 : decode cX12_worstAt 27 = .ok (.iload_n 1, 1) := by decide +kernel
theorem dX12_worstAt_28 : decode cX12_worstAt 28 = .ok (.iload 6, 2) := by decide +kernel
theorem dX12_worstAt_30 : decode cX12_worstAt 30 = .ok (.ishr, 1) := by decide +kernel
theorem dX12_worstAt_31 : decode cX12_worstAt 31 = .ok (.iconst 1, 1) := by decide +kernel
theorem dX12_worstAt_32 : decode cX12_worstAt 32 = .ok (.iand, 1) := by decide +kernel
theorem dX12_worstAt_33 : decode cX12_worstAt 33 = .ok (.iconst 1, 1) := by decide +kernel
theorem dX12_worstAt_34 : decode cX12_worstAt 34 = .ok (.if_icmp .ne 34, 3) := by decide +kernel
theorem dX12_worstAt_37 : decode cX12_worstAt 37 = .ok (.aload_n 0, 1) := by decide +kernel
theorem dX12_worstAt_38 : decode cX12_worstAt 38 = .ok (.getfield 145, 3) := by decide +kernel
theorem dX12_worstAt_41 : decode cX12_worstAt 41 = .ok (.bipush 61, 2) := by decide +kernel
theorem dX12_worstAt_43 : decode cX12_worstAt 43 = .ok (.iload 6, 2) := by decide +kernel
theorem dX12_worstAt_45 : decode cX12_worstAt 45 = .ok (.imul, 1) := by decide +kernel
theorem dX12_worstAt_46 : decode cX12_worstAt 46 = .ok (.iload_n 2, 1) := by decide +kernel
theorem dX12_worstAt_47 : decode cX12_worstAt 47 = .ok (.iadd, 1) := by decide +kernel
theorem dX12_worstAt_48 : decode cX12_worstAt 48 = .ok (.iaload, 1) := by decide +kernel
theorem dX12_worstAt_49 : decode cX12_worstAt 49 = .ok (.aload_n 0, 1) := by decide +kernel
theorem dX12_worstAt_50 : decode cX12_worstAt 50 = .ok (.getfield 145, 3) := by decide +kernel
theorem dX12_worstAt_53 : decode cX12_worstAt 53 = .ok (.bipush 61, 2) := by decide +kernel
theorem dX12_worstAt_55 : decode cX12_worstAt 55 = .ok (.iload 4, 2) := by decide +kernel
theorem dX12_worstAt_57 : decode cX12_worstAt 57 = .ok (.imul, 1) := by decide +kernel
theorem dX12_worstAt_58 : decode cX12_worstAt 58 = .ok (.iload_n 2, 1) := by decide +kernel
theorem dX12_worstAt_59 : decode cX12_worstAt 59 = .ok (.iadd, 1) := by decide +kernel
theorem dX12_worstAt_60 : decode cX12_worstAt 60 = .ok (.iaload, 1) := by decide +kernel
theorem dX12_worstAt_61 : decode cX12_worstAt 61 = .ok (.if_icmp .ne 7, 3) := by decide +kernel
theorem dX12_worstAt_64 : decode cX12_worstAt 64 = .ok (.iconst 1, 1) := by decide +kernel
theorem dX12_worstAt_65 : decode cX12_worstAt 65 = .ok (.goto 4, 3) := by decide +kernel
theorem dX12_worstAt_68 : decode cX12_worstAt 68 = .ok (.iconst 0, 1) := by decide +kernel
theorem dX12_worstAt_69 : decode cX12_worstAt 69 = .ok (.iadd, 1) := by decide +kernel
theorem dX12_worstAt_70 : decode cX12_worstAt 70 = .ok (.istore 5, 2) := by decide +kernel
theorem dX12_worstAt_72 : decode cX12_worstAt 72 = .ok (.iinc 6 1, 3) := by decide +kernel
theorem dX12_worstAt_75 : decode cX12_worstAt 75 = .ok (.goto (-57), 3) := by decide +kernel
theorem dX12_worstAt_78 : decode cX12_worstAt 78 = .ok (.iload_n 1, 1) := by decide +kernel
theorem dX12_worstAt_79 : decode cX12_worstAt 79 = .ok (.iload 4, 2) := by decide +kernel
theorem dX12_worstAt_81 : decode cX12_worstAt 81 = .ok (.ishr, 1) := by decide +kernel
theorem dX12_worstAt_82 : decode cX12_worstAt 82 = .ok (.iconst 1, 1) := by decide +kernel
theorem dX12_worstAt_83 : decode cX12_worstAt 83 = .ok (.iand, 1) := by decide +kernel
theorem dX12_worstAt_84 : decode cX12_worstAt 84 = .ok (.iconst 1, 1) := by decide +kernel
theorem dX12_worstAt_85 : decode cX12_worstAt 85 = .ok (.if_icmp .ne 10, 3) := by decide +kernel
theorem dX12_worstAt_88 : decode cX12_worstAt 88 = .ok (.iload_n 3, 1) := by decide +kernel
theorem dX12_worstAt_89 : decode cX12_worstAt 89 = .ok (.iload 5, 2) := by decide +kernel
theorem dX12_worstAt_91 : decode cX12_worstAt 91 = .ok (.invokestatic 393, 3) := by decide +kernel
theorem dX12_worstAt_94 : decode cX12_worstAt 94 = .ok (.istore_n 3, 1) := by decide +kernel
theorem dX12_worstAt_95 : decode cX12_worstAt 95 = .ok (.iinc 4 1, 3) := by decide +kernel
theorem dX12_worstAt_98 : decode cX12_worstAt 98 = .ok (.goto (-93), 3) := by decide +kernel
theorem dX12_worstAt_101 : decode cX12_worstAt 101 = .ok (.iload_n 3, 1) := by decide +kernel
theorem dX12_worstAt_102 : decode cX12_worstAt 102 = .ok (.ireturn, 1) := by decide +kernel
theorem dX12_ask_0 : decode cX12_ask 0 = .ok (.aload_n 0, 1) := by decide +kernel
theorem dX12_ask_1 : decode cX12_ask 1 = .ok (.iconst 0, 1) := by decide +kernel
theorem dX12_ask_2 : decode cX12_ask 2 = .ok (.putfield 151, 3) := by decide +kernel
theorem dX12_ask_5 : decode cX12_ask 5 = .ok (.aload_n 0, 1) := by decide +kernel
theorem dX12_ask_6 : decode cX12_ask 6 = .ok (.iload_n 1, 1) := by decide +kernel
theorem dX12_ask_7 : decode cX12_ask 7 = .ok (.invokevirtual 405, 3) := by decide +kernel
theorem dX12_ask_10 : decode cX12_ask 10 = .ok (.ifCond .eq 12, 3) := by decide +kernel
theorem dX12_ask_13 : decode cX12_ask 13 = .ok (.iload_n 2, 1) := by decide +kernel
theorem dX12_ask_14 : decode cX12_ask 14 = .ok (.ifCond .lt 8, 3) := by decide +kernel
theorem dX12_ask_17 : decode cX12_ask 17 = .ok (.iload_n 2, 1) := by decide +kernel
theorem dX12_ask_18 : decode cX12_ask 18 = .ok (.iconst 1, 1) := by decide +kernel
theorem dX12_ask_19 : decode cX12_ask 19 = .ok (.if_icmp .le 5, 3) := by decide +kernel
theorem dX12_ask_22 : decode cX12_ask 22 = .ok (.iconst (-1), 1) := by decide +kernel
theorem dX12_ask_23 : decode cX12_ask 23 = .ok (.ireturn, 1) := by decide +kernel
theorem dX12_ask_24 : decode cX12_ask 24 = .ok (.aload_n 0, 1) := by decide +kernel
theorem dX12_ask_25 : decode cX12_ask 25 = .ok (.iload_n 1, 1) := by decide +kernel
theorem dX12_ask_26 : decode cX12_ask 26 = .ok (.invokevirtual 494, 3) := by decide +kernel
theorem dX12_ask_29 : decode cX12_ask 29 = .ok (.istore_n 3, 1) := by decide +kernel
theorem dX12_ask_30 : decode cX12_ask 30 = .ok (.aload_n 0, 1) := by decide +kernel
theorem dX12_ask_31 : decode cX12_ask 31 = .ok (.iload_n 1, 1) := by decide +kernel
theorem dX12_ask_32 : decode cX12_ask 32 = .ok (.putfield 105, 3) := by decide +kernel
theorem dX12_ask_35 : decode cX12_ask 35 = .ok (.iconst 0, 1) := by decide +kernel
theorem dX12_ask_36 : decode cX12_ask 36 = .ok (.istore 4, 2) := by decide +kernel
theorem dX12_ask_38 : decode cX12_ask 38 = .ok (.iload 4, 2) := by decide +kernel
theorem dX12_ask_40 : decode cX12_ask 40 = .ok (.bipush 24, 2) := by decide +kernel
theorem dX12_ask_42 : decode cX12_ask 42 = .ok (.if_icmp .ge 61, 3) := by decide +kernel
theorem dX12_ask_45 : decode cX12_ask 45 = .ok (.aload_n 0, 1) := by decide +kernel
theorem dX12_ask_46 : decode cX12_ask 46 = .ok (.iload 4, 2) := by decide +kernel
theorem dX12_ask_48 : decode cX12_ask 48 = .ok (.putfield 344, 3) := by decide +kernel
theorem dX12_ask_51 : decode cX12_ask 51 = .ok (.aload_n 0, 1) := by decide +kernel
theorem dX12_ask_52 : decode cX12_ask 52 = .ok (.iconst 1, 1) := by decide +kernel
theorem dX12_ask_53 : decode cX12_ask 53 = .ok (.invokevirtual 334, 3) := by decide +kernel
theorem dX12_ask_56 : decode cX12_ask 56 = .ok (.iconst 1, 1) := by decide +kernel
theorem dX12_ask_57 : decode cX12_ask 57 = .ok (.istore 5, 2) := by decide +kernel
theorem dX12_ask_59 : decode cX12_ask 59 = .ok (.iload 5, 2) := by decide +kernel
theorem dX12_ask_61 : decode cX12_ask 61 = .ok (.bipush 60, 2) := by decide +kernel
theorem dX12_ask_63 : decode cX12_ask 63 = .ok (.if_icmp .gt 34, 3) := by decide +kernel
theorem dX12_ask_66 : decode cX12_ask 66 = .ok (.aload_n 0, 1) := by decide +kernel
theorem dX12_ask_67 : decode cX12_ask 67 = .ok (.iconst 1, 1) := by decide +kernel
theorem dX12_ask_68 : decode cX12_ask 68 = .ok (.iconst 0, 1) := by decide +kernel
theorem dX12_ask_69 : decode cX12_ask 69 = .ok (.invokevirtual 401, 3) := by decide +kernel
theorem dX12_ask_72 : decode cX12_ask 72 = .ok (.aload_n 0, 1) := by decide +kernel
theorem dX12_ask_73 : decode cX12_ask 73 = .ok (.getfield 145, 3) := by decide +kernel
theorem dX12_ask_76 : decode cX12_ask 76 = .ok (.bipush 61, 2) := by decide +kernel
theorem dX12_ask_78 : decode cX12_ask 78 = .ok (.iload 4, 2) := by decide +kernel
theorem dX12_ask_80 : decode cX12_ask 80 = .ok (.imul, 1) := by decide +kernel
theorem dX12_ask_81 : decode cX12_ask 81 = .ok (.iload 5, 2) := by decide +kernel
theorem dX12_ask_83 : decode cX12_ask 83 = .ok (.iadd, 1) := by decide +kernel
theorem dX12_ask_84 : decode cX12_ask 84 = .ok (.aload_n 0, 1) := by decide +kernel
theorem dX12_ask_85 : decode cX12_ask 85 = .ok (.getfield 84, 3) := by decide +kernel
theorem dX12_ask_88 : decode cX12_ask 88 = .ok (.iconst 1, 1) := by decide +kernel
theorem dX12_ask_89 : decode cX12_ask 89 = .ok (.iaload, 1) := by decide +kernel
theorem dX12_ask_90 : decode cX12_ask 90 = .ok (.iastore, 1) := by decide +kernel
theorem dX12_ask_91 : decode cX12_ask 91 = .ok (.iinc 5 1, 3) := by decide +kernel
theorem dX12_ask_94 : decode cX12_ask 94 = .ok (.goto (-35), 3) := by decide +kernel
theorem dX12_ask_97 : decode cX12_ask 97 = .ok (.iinc 4 1, 3) := by decide +kernel
theorem dX12_ask_100 : decode cX12_ask 100 = .ok (.goto (-62), 3) := by decide +kernel
theorem dX12_ask_103 : decode cX12_ask 103 = .ok (.aload_n 0, 1) := by decide +kernel
theorem dX12_ask_104 : decode cX12_ask 104 = .ok (.iconst (-1), 1) := by decide +kernel
theorem dX12_ask_105 : decode cX12_ask 105 = .ok (.putfield 105, 3) := by decide +kernel
theorem dX12_ask_108 : decode cX12_ask 108 = .ok (.iconst 1, 1) := by decide +kernel
theorem dX12_ask_109 : decode cX12_ask 109 = .ok (.istore 4, 2) := by decide +kernel
theorem dX12_ask_111 : decode cX12_ask 111 = .ok (.iconst 2, 1) := by decide +kernel
theorem dX12_ask_112 : decode cX12_ask 112 = .ok (.istore 5, 2) := by decide +kernel
theorem dX12_ask_114 : decode cX12_ask 114 = .ok (.iload 5, 2) := by decide +kernel
theorem dX12_ask_116 : decode cX12_ask 116 = .ok (.bipush 60, 2) := by decide +kernel
theorem dX12_ask_118 : decode cX12_ask 118 = .ok (.if_icmp .gt 30, 3) := by decide +kernel
theorem dX12_ask_121 : decode cX12_ask 121 = .ok (.aload_n 0, 1) := by decide +kernel
theorem dX12_ask_122 : decode cX12_ask 122 = .ok (.iload_n 3, 1) := by decide +kernel
theorem dX12_ask_123 : decode cX12_ask 123 = .ok (.iload 5, 2) := by decide +kernel
theorem dX12_ask_125 : decode cX12_ask 125 = .ok (.invokevirtual 497, 3) := by decide +kernel
theorem dX12_ask_128 : decode cX12_ask 128 = .ok (.aload_n 0, 1) := by decide +kernel
theorem dX12_ask_129 : decode cX12_ask 129 = .ok (.iload_n 3, 1) := by decide +kernel
theorem dX12_ask_130 : decode cX12_ask 130 = .ok (.iload 4, 2) := by decide +kernel
theorem dX12_ask_132 : decode cX12_ask 132 = .ok (.invokevirtual 497, 3) := by decide +kernel
theorem dX12_ask_135 : decode cX12_ask 135 = .ok (.if_icmp .ge 7, 3) := by decide +kernel
theorem dX12_ask_138 : decode cX12_ask 138 = .ok (.iload 5, 2) := by decide +kernel
theorem dX12_ask_140 : decode cX12_ask 140 = .ok (.istore 4, 2) := by decide +kernel
theorem dX12_ask_142 : decode cX12_ask 142 = .ok (.iinc 5 1, 3) := by decide +kernel
theorem dX12_ask_145 : decode cX12_ask 145 = .ok (.goto (-31), 3) := by decide +kernel
theorem dX12_ask_148 : decode cX12_ask 148 = .ok (.iload_n 2, 1) := by decide +kernel
theorem dX12_ask_149 : decode cX12_ask 149 = .ok (.ifCond .ne 8, 3) := by decide +kernel
theorem dX12_ask_152 : decode cX12_ask 152 = .ok (.iload 4, 2) := by decide +kernel
theorem dX12_ask_154 : decode cX12_ask 154 = .ok (.goto 10, 3) := by decide +kernel
theorem dX12_ask_157 : decode cX12_ask 157 = .ok (.aload_n 0, 1) := by decide +kernel
theorem dX12_ask_158 : decode cX12_ask 158 = .ok (.iload_n 3, 1) := by decide +kernel
theorem dX12_ask_159 : decode cX12_ask 159 = .ok (.iload 4, 2) := by decide +kernel
theorem dX12_ask_161 : decode cX12_ask 161 = .ok (.invokevirtual 497, 3) := by decide +kernel
theorem dX12_ask_164 : decode cX12_ask 164 = .ok (.ireturn, 1) := by decide +kernel
theorem dX12_chance_0 : decode cX12_chance 0 = .ok (.aload_n 0, 1) := by decide +kernel
theorem dX12_chance_1 : decode cX12_chance 1 = .ok (.iconst 0, 1) := by decide +kernel
theorem dX12_chance_2 : decode cX12_chance 2 = .ok (.putfield 151, 3) := by decide +kernel
theorem dX12_chance_5 : decode cX12_chance 5 = .ok (.iload_n 1, 1) := by decide +kernel
theorem dX12_chance_6 : decode cX12_chance 6 = .ok (.ifCond .lt 22, 3) := by decide +kernel
theorem dX12_chance_9 : decode cX12_chance 9 = .ok (.iload_n 2, 1) := by decide +kernel
theorem dX12_chance_10 : decode cX12_chance 10 = .ok (.iconst 1, 1) := by decide +kernel
theorem dX12_chance_11 : decode cX12_chance 11 = .ok (.if_icmp .lt 17, 3) := by decide +kernel
theorem dX12_chance_14 : decode cX12_chance 14 = .ok (.iload_n 2, 1) := by decide +kernel
theorem dX12_chance_15 : decode cX12_chance 15 = .ok (.bipush 99, 2) := by decide +kernel
theorem dX12_chance_17 : decode cX12_chance 17 = .ok (.if_icmp .gt 11, 3) := by decide +kernel
theorem dX12_chance_20 : decode cX12_chance 20 = .ok (.aload_n 0, 1) := by decide +kernel
theorem dX12_chance_21 : decode cX12_chance 21 = .ok (.iload_n 3, 1) := by decide +kernel
theorem dX12_chance_22 : decode cX12_chance 22 = .ok (.invokevirtual 414, 3) := by decide +kernel
theorem dX12_chance_25 : decode cX12_chance 25 = .ok (.ifCond .ne 5, 3) := by decide +kernel
theorem dX12_chance_28 : decode cX12_chance 28 = .ok (.iconst (-1), 1) := by decide +kernel
theorem dX12_chance_29 : decode cX12_chance 29 = .ok (.ireturn, 1) := by decide +kernel
theorem dX12_chance_30 : decode cX12_chance 30 = .ok (.iload_n 1, 1) := by decide +kernel
theorem dX12_chance_31 : decode cX12_chance 31 = .ok (.istore 4, 2) := by decide +kernel
theorem dX12_chance_33 : decode cX12_chance 33 = .ok (.iconst 0, 1) := by decide +kernel
theorem dX12_chance_34 : decode cX12_chance 34 = .ok (.istore 5, 2) := by decide +kernel
theorem dX12_chance_36 : decode cX12_chance 36 = .ok (.iconst 0, 1) := by decide +kernel
theorem dX12_chance_37 : decode cX12_chance 37 = .ok (.istore 6, 2) := by decide +kernel
theorem dX12_chance_39 : decode cX12_chance 39 = .ok (.iload 6, 2) := by decide +kernel
theorem dX12_chance_41 : decode cX12_chance 41 = .ok (.bipush 10, 2) := by decide +kernel
theorem dX12_chance_43 : decode cX12_chance 43 = .ok (.if_icmp .ge 71, 3) := by decide +kernel
theorem dX12_chance_46 : decode cX12_chance 46 = .ok (.aload_n 0, 1) := by decide +kernel
theorem dX12_chance_47 : decode cX12_chance 47 = .ok (.iconst 1, 1) := by decide +kernel
theorem dX12_chance_48 : decode cX12_chance 48 = .ok (.iconst 0, 1) := by decide +kernel
theorem dX12_chance_49 : decode cX12_chance 49 = .ok (.invokevirtual 421, 3) := by decide +kernel
theorem dX12_chance_52 : decode cX12_chance 52 = .ok (.aload_n 0, 1) := by decide +kernel
theorem dX12_chance_53 : decode cX12_chance 53 = .ok (.getfield 69, 3) := by decide +kernel
theorem dX12_chance_56 : decode cX12_chance 56 = .ok (.iconst 1, 1) := by decide +kernel
theorem dX12_chance_57 : decode cX12_chance 57 = .ok (.iload 4, 2) := by decide +kernel
theorem dX12_chance_59 : decode cX12_chance 59 = .ok (.iastore, 1) := by decide +kernel
theorem dX12_chance_60 : decode cX12_chance 60 = .ok (.iconst 0, 1) := by decide +kernel
theorem dX12_chance_61 : decode cX12_chance 61 = .ok (.istore 7, 2) := by decide +kernel
theorem dX12_chance_63 : decode cX12_chance 63 = .ok (.iload 7, 2) := by decide +kernel
theorem dX12_chance_65 : decode cX12_chance 65 = .ok (.iload_n 2, 1) := by decide +kernel
theorem dX12_chance_66 : decode cX12_chance 66 = .ok (.if_icmp .ge 15, 3) := by decide +kernel
theorem dX12_chance_69 : decode cX12_chance 69 = .ok (.aload_n 0, 1) := by decide +kernel
theorem dX12_chance_70 : decode cX12_chance 70 = .ok (.iconst 1, 1) := by decide +kernel
theorem dX12_chance_71 : decode cX12_chance 71 = .ok (.iconst 1, 1) := by decide +kernel
theorem dX12_chance_72 : decode cX12_chance 72 = .ok (.invokevirtual 401, 3) := by decide +kernel
theorem dX12_chance_75 : decode cX12_chance 75 = .ok (.iinc 7 1, 3) := by decide +kernel
theorem dX12_chance_78 : decode cX12_chance 78 = .ok (.goto (-15), 3) := by decide +kernel
theorem dX12_chance_81 : decode cX12_chance 81 = .ok (.aload_n 0, 1) := by decide +kernel
theorem dX12_chance_82 : decode cX12_chance 82 = .ok (.getfield 69, 3) := by decide +kernel
theorem dX12_chance_85 : decode cX12_chance 85 = .ok (.iconst 1, 1) := by decide +kernel
theorem dX12_chance_86 : decode cX12_chance 86 = .ok (.iaload, 1) := by decide +kernel
theorem dX12_chance_87 : decode cX12_chance 87 = .ok (.istore 4, 2) := by decide +kernel
theorem dX12_chance_89 : decode cX12_chance 89 = .ok (.iload 5, 2) := by decide +kernel
theorem dX12_chance_91 : decode cX12_chance 91 = .ok (.aload_n 0, 1) := by decide +kernel
theorem dX12_chance_92 : decode cX12_chance 92 = .ok (.iconst 1, 1) := by decide +kernel
theorem dX12_chance_93 : decode cX12_chance 93 = .ok (.iload_n 3, 1) := by decide +kernel
theorem dX12_chance_94 : decode cX12_chance 94 = .ok (.invokevirtual 337, 3) := by decide +kernel
theorem dX12_chance_97 : decode cX12_chance 97 = .ok (.ifCond .eq 7, 3) := by decide +kernel
theorem dX12_chance_100 : decode cX12_chance 100 = .ok (.iconst 1, 1) := by decide +kernel
theorem dX12_chance_101 : decode cX12_chance 101 = .ok (.goto 4, 3) := by decide +kernel
theorem dX12_chance_104 : decode cX12_chance 104 = .ok (.iconst 0, 1) := by decide +kernel
theorem dX12_chance_105 : decode cX12_chance 105 = .ok (.iadd, 1) := by decide +kernel
theorem dX12_chance_106 : decode cX12_chance 106 = .ok (.istore 5, 2) := by decide +kernel
theorem dX12_chance_108 : decode cX12_chance 108 = .ok (.iinc 6 1, 3) := by decide +kernel
theorem dX12_chance_111 : decode cX12_chance 111 = .ok (.goto (-72), 3) := by decide +kernel
theorem dX12_chance_114 : decode cX12_chance 114 = .ok (.iload 5, 2) := by decide +kernel
theorem dX12_chance_116 : decode cX12_chance 116 = .ok (.ireturn, 1) := by decide +kernel
theorem dX12_tried_0 : decode cX12_tried 0 = .ok (.aload_n 0, 1) := by decide +kernel
theorem dX12_tried_1 : decode cX12_tried 1 = .ok (.iconst 0, 1) := by decide +kernel
theorem dX12_tried_2 : decode cX12_tried 2 = .ok (.putfield 151, 3) := by decide +kernel
theorem dX12_tried_5 : decode cX12_tried 5 = .ok (.iload_n 1, 1) := by decide +kernel
theorem dX12_tried_6 : decode cX12_tried 6 = .ok (.iconst 2, 1) := by decide +kernel
theorem dX12_tried_7 : decode cX12_tried 7 = .ok (.if_icmp .ne 11, 3) := by decide +kernel
theorem dX12_tried_10 : decode cX12_tried 10 = .ok (.aload_n 0, 1) := by decide +kernel
theorem dX12_tried_11 : decode cX12_tried 11 = .ok (.iload_n 2, 1) := by decide +kernel
theorem dX12_tried_12 : decode cX12_tried 12 = .ok (.invokevirtual 405, 3) := by decide +kernel
theorem dX12_tried_15 : decode cX12_tried 15 = .ok (.goto 21, 3) := by decide +kernel
theorem dX12_tried_18 : decode cX12_tried 18 = .ok (.iload_n 1, 1) := by decide +kernel
theorem dX12_tried_19 : decode cX12_tried 19 = .ok (.ifCond .lt 16, 3) := by decide +kernel
theorem dX12_tried_22 : decode cX12_tried 22 = .ok (.iload_n 1, 1) := by decide +kernel
theorem dX12_tried_23 : decode cX12_tried 23 = .ok (.iconst 4, 1) := by decide +kernel
theorem dX12_tried_24 : decode cX12_tried 24 = .ok (.if_icmp .gt 11, 3) := by decide +kernel
theorem dX12_tried_27 : decode cX12_tried 27 = .ok (.iload_n 2, 1) := by decide +kernel
theorem dX12_tried_28 : decode cX12_tried 28 = .ok (.ifCond .ne 7, 3) := by decide +kernel
theorem dX12_tried_31 : decode cX12_tried 31 = .ok (.iconst 1, 1) := by decide +kernel
theorem dX12_tried_32 : decode cX12_tried 32 = .ok (.goto 4, 3) := by decide +kernel
theorem dX12_tried_35 : decode cX12_tried 35 = .ok (.iconst 0, 1) := by decide +kernel
theorem dX12_tried_36 : decode cX12_tried 36 = .ok (.istore 4, 2) := by decide +kernel
theorem dX12_tried_38 : decode cX12_tried 38 = .ok (.iload 4, 2) := by decide +kernel
theorem dX12_tried_40 : decode cX12_tried 40 = .ok (.ifCond .eq 10, 3) := by decide +kernel
theorem dX12_tried_43 : decode cX12_tried 43 = .ok (.iload_n 3, 1) := by decide +kernel
theorem dX12_tried_44 : decode cX12_tried 44 = .ok (.invokestatic 427, 3) := by decide +kernel
theorem dX12_tried_47 : decode cX12_tried 47 = .ok (.ifCond .ne 5, 3) := by decide +kernel
theorem dX12_tried_50 : decode cX12_tried 50 = .ok (.iconst (-1), 1) := by decide +kernel
theorem dX12_tried_51 : decode cX12_tried 51 = .ok (.ireturn, 1) := by decide +kernel
theorem dX12_tried_52 : decode cX12_tried 52 = .ok (.aload_n 0, 1) := by decide +kernel
theorem dX12_tried_53 : decode cX12_tried 53 = .ok (.iconst 1, 1) := by decide +kernel
theorem dX12_tried_54 : decode cX12_tried 54 = .ok (.iconst 0, 1) := by decide +kernel
theorem dX12_tried_55 : decode cX12_tried 55 = .ok (.invokevirtual 421, 3) := by decide +kernel
theorem dX12_tried_58 : decode cX12_tried 58 = .ok (.aload_n 0, 1) := by decide +kernel
theorem dX12_tried_59 : decode cX12_tried 59 = .ok (.iload_n 1, 1) := by decide +kernel
theorem dX12_tried_60 : decode cX12_tried 60 = .ok (.ifCond .ne 7, 3) := by decide +kernel
theorem dX12_tried_63 : decode cX12_tried 63 = .ok (.iconst 5, 1) := by decide +kernel
theorem dX12_tried_64 : decode cX12_tried 64 = .ok (.goto 4, 3) := by decide +kernel
theorem dX12_tried_67 : decode cX12_tried 67 = .ok (.iload_n 1, 1) := by decide +kernel
theorem dX12_tried_68 : decode cX12_tried 68 = .ok (.putfield 341, 3) := by decide +kernel
theorem dX12_tried_71 : decode cX12_tried 71 = .ok (.aload_n 0, 1) := by decide +kernel
theorem dX12_tried_72 : decode cX12_tried 72 = .ok (.iload_n 2, 1) := by decide +kernel
theorem dX12_tried_73 : decode cX12_tried 73 = .ok (.putfield 102, 3) := by decide +kernel
theorem dX12_tried_76 : decode cX12_tried 76 = .ok (.aload_n 0, 1) := by decide +kernel
theorem dX12_tried_77 : decode cX12_tried 77 = .ok (.iload_n 3, 1) := by decide +kernel
theorem dX12_tried_78 : decode cX12_tried 78 = .ok (.invokevirtual 433, 3) := by decide +kernel
theorem dX12_tried_81 : decode cX12_tried 81 = .ok (.aload_n 0, 1) := by decide +kernel
theorem dX12_tried_82 : decode cX12_tried 82 = .ok (.iconst 0, 1) := by decide +kernel
theorem dX12_tried_83 : decode cX12_tried 83 = .ok (.putfield 341, 3) := by decide +kernel
theorem dX12_tried_86 : decode cX12_tried 86 = .ok (.aload_n 0, 1) := by decide +kernel
theorem dX12_tried_87 : decode cX12_tried 87 = .ok (.iconst (-1), 1) := by decide +kernel
theorem dX12_tried_88 : decode cX12_tried 88 = .ok (.putfield 102, 3) := by decide +kernel
theorem dX12_tried_91 : decode cX12_tried 91 = .ok (.aload_n 0, 1) := by decide +kernel
theorem dX12_tried_92 : decode cX12_tried 92 = .ok (.iconst 1, 1) := by decide +kernel
theorem dX12_tried_93 : decode cX12_tried 93 = .ok (.invokevirtual 350, 3) := by decide +kernel
theorem dX12_tried_96 : decode cX12_tried 96 = .ok (.ireturn, 1) := by decide +kernel
theorem dX12_undo_0 : decode cX12_undo 0 = .ok (.aload_n 0, 1) := by decide +kernel
theorem dX12_undo_1 : decode cX12_undo 1 = .ok (.iconst 0, 1) := by decide +kernel
theorem dX12_undo_2 : decode cX12_undo 2 = .ok (.putfield 151, 3) := by decide +kernel
theorem dX12_undo_5 : decode cX12_undo 5 = .ok (.aload_n 0, 1) := by decide +kernel
theorem dX12_undo_6 : decode cX12_undo 6 = .ok (.getfield 311, 3) := by decide +kernel
theorem dX12_undo_9 : decode cX12_undo 9 = .ok (.ifCond .ne 5, 3) := by decide +kernel
theorem dX12_undo_12 : decode cX12_undo 12 = .ok (.iconst (-1), 1) := by decide +kernel
theorem dX12_undo_13 : decode cX12_undo 13 = .ok (.ireturn, 1) := by decide +kernel
theorem dX12_undo_14 : decode cX12_undo 14 = .ok (.aload_n 0, 1) := by decide +kernel
theorem dX12_undo_15 : decode cX12_undo 15 = .ok (.dup, 1) := by decide +kernel
theorem dX12_undo_16 : decode cX12_undo 16 = .ok (.getfield 311, 3) := by decide +kernel
theorem dX12_undo_19 : decode cX12_undo 19 = .ok (.iconst 1, 1) := by decide +kernel
theorem dX12_undo_20 : decode cX12_undo 20 = .ok (.isub, 1) := by decide +kernel
theorem dX12_undo_21 : decode cX12_undo 21 = .ok (.putfield 311, 3) := by decide +kernel
theorem dX12_undo_24 : decode cX12_undo 24 = .ok (.aload_n 0, 1) := by decide +kernel
theorem dX12_undo_25 : decode cX12_undo 25 = .ok (.iconst 0, 1) := by decide +kernel
theorem dX12_undo_26 : decode cX12_undo 26 = .ok (.iconst 3, 1) := by decide +kernel
theorem dX12_undo_27 : decode cX12_undo 27 = .ok (.aload_n 0, 1) := by decide +kernel
theorem dX12_undo_28 : decode cX12_undo 28 = .ok (.getfield 311, 3) := by decide +kernel
theorem dX12_undo_31 : decode cX12_undo 31 = .ok (.iadd, 1) := by decide +kernel
theorem dX12_undo_32 : decode cX12_undo 32 = .ok (.invokevirtual 421, 3) := by decide +kernel
theorem dX12_undo_35 : decode cX12_undo 35 = .ok (.aload_n 0, 1) := by decide +kernel
theorem dX12_undo_36 : decode cX12_undo 36 = .ok (.getfield 311, 3) := by decide +kernel
theorem dX12_undo_39 : decode cX12_undo 39 = .ok (.ireturn, 1) := by decide +kernel
theorem dX12_keep_0 : decode cX12_keep 0 = .ok (.aload_n 0, 1) := by decide +kernel
theorem dX12_keep_1 : decode cX12_keep 1 = .ok (.iconst 0, 1) := by decide +kernel
theorem dX12_keep_2 : decode cX12_keep 2 = .ok (.putfield 151, 3) := by decide +kernel
theorem dX12_keep_5 : decode cX12_keep 5 = .ok (.aload_n 0, 1) := by decide +kernel
theorem dX12_keep_6 : decode cX12_keep 6 = .ok (.iconst 2, 1) := by decide +kernel
theorem dX12_keep_7 : decode cX12_keep 7 = .ok (.iconst 0, 1) := by decide +kernel
theorem dX12_keep_8 : decode cX12_keep 8 = .ok (.invokevirtual 421, 3) := by decide +kernel
theorem dX12_keep_11 : decode cX12_keep 11 = .ok (.aload_n 0, 1) := by decide +kernel
theorem dX12_keep_12 : decode cX12_keep 12 = .ok (.iconst 1, 1) := by decide +kernel
theorem dX12_keep_13 : decode cX12_keep 13 = .ok (.putfield 307, 3) := by decide +kernel
theorem dX12_keep_16 : decode cX12_keep 16 = .ok (.aload_n 0, 1) := by decide +kernel
theorem dX12_keep_17 : decode cX12_keep 17 = .ok (.getfield 66, 3) := by decide +kernel
theorem dX12_keep_20 : decode cX12_keep 20 = .ok (.iconst 0, 1) := by decide +kernel
theorem dX12_keep_21 : decode cX12_keep 21 = .ok (.iaload, 1) := by decide +kernel
theorem dX12_keep_22 : decode cX12_keep 22 = .ok (.ireturn, 1) := by decide +kernel
theorem dX12_back_0 : decode cX12_back 0 = .ok (.aload_n 0, 1) := by decide +kernel
theorem dX12_back_1 : decode cX12_back 1 = .ok (.iconst 0, 1) := by decide +kernel
theorem dX12_back_2 : decode cX12_back 2 = .ok (.putfield 151, 3) := by decide +kernel
theorem dX12_back_5 : decode cX12_back 5 = .ok (.aload_n 0, 1) := by decide +kernel
theorem dX12_back_6 : decode cX12_back 6 = .ok (.getfield 307, 3) := by decide +kernel
theorem dX12_back_9 : decode cX12_back 9 = .ok (.ifCond .ne 5, 3) := by decide +kernel
theorem dX12_back_12 : decode cX12_back 12 = .ok (.iconst (-1), 1) := by decide +kernel
theorem dX12_back_13 : decode cX12_back 13 = .ok (.ireturn, 1) := by decide +kernel
theorem dX12_back_14 : decode cX12_back 14 = .ok (.aload_n 0, 1) := by decide +kernel
theorem dX12_back_15 : decode cX12_back 15 = .ok (.iconst 0, 1) := by decide +kernel
theorem dX12_back_16 : decode cX12_back 16 = .ok (.iconst 2, 1) := by decide +kernel
theorem dX12_back_17 : decode cX12_back 17 = .ok (.invokevirtual 421, 3) := by decide +kernel
theorem dX12_back_20 : decode cX12_back 20 = .ok (.aload_n 0, 1) := by decide +kernel
theorem dX12_back_21 : decode cX12_back 21 = .ok (.iconst 0, 1) := by decide +kernel
theorem dX12_back_22 : decode cX12_back 22 = .ok (.putfield 311, 3) := by decide +kernel
theorem dX12_back_25 : decode cX12_back 25 = .ok (.aload_n 0, 1) := by decide +kernel
theorem dX12_back_26 : decode cX12_back 26 = .ok (.getfield 66, 3) := by decide +kernel
theorem dX12_back_29 : decode cX12_back 29 = .ok (.iconst 0, 1) := by decide +kernel
theorem dX12_back_30 : decode cX12_back 30 = .ok (.iaload, 1) := by decide +kernel
theorem dX12_back_31 : decode cX12_back 31 = .ok (.ireturn, 1) := by decide +kernel
theorem dX12_knownAll_0 : decode cX12_knownAll 0 = .ok (.iconst 0, 1) := by decide +kernel
theorem dX12_knownAll_1 : decode cX12_knownAll 1 = .ok (.istore_n 1, 1) := by decide +kernel
theorem dX12_knownAll_2 : decode cX12_knownAll 2 = .ok (.iconst 0, 1) := by decide +kernel
theorem dX12_knownAll_3 : decode cX12_knownAll 3 = .ok (.istore_n 2, 1) := by decide +kernel
theorem dX12_knownAll_4 : decode cX12_knownAll 4 = .ok (.iload_n 2, 1) := by decide +kernel
theorem dX12_knownAll_5 : decode cX12_knownAll 5 = .ok (.aload_n 0, 1) := by decide +kernel
theorem dX12_knownAll_6 : decode cX12_knownAll 6 = .ok (.getfield 13, 3) := by decide +kernel
theorem dX12_knownAll_9 : decode cX12_knownAll 9 = .ok (.iconst 0, 1) := by decide +kernel
theorem dX12_knownAll_10 : decode cX12_knownAll 10 = .ok (.iaload, 1) := by decide +kernel
theorem dX12_knownAll_11 : decode cX12_knownAll 11 = .ok (.if_icmp .ge 18, 3) := by decide +kernel
theorem dX12_knownAll_14 : decode cX12_knownAll 14 = .ok (.iload_n 1, 1) := by decide +kernel
theorem dX12_knownAll_15 : decode cX12_knownAll 15 = .ok (.aload_n 0, 1) := by decide +kernel
theorem dX12_knownAll_16 : decode cX12_knownAll 16 = .ok (.getfield 90, 3) := by decide +kernel
theorem dX12_knownAll_19 : decode cX12_knownAll 19 = .ok (.iload_n 2, 1) := by decide +kernel
theorem dX12_knownAll_20 : decode cX12_knownAll 20 = .ok (.iaload, 1) := by decide +kernel
theorem dX12_knownAll_21 : decode cX12_knownAll 21 = .ok (.iadd, 1) := by decide +kernel
theorem dX12_knownAll_22 : decode cX12_knownAll 22 = .ok (.istore_n 1, 1) := by decide +kernel
theorem dX12_knownAll_23 : decode cX12_knownAll 23 = .ok (.iinc 2 1, 3) := by decide +kernel
theorem dX12_knownAll_26 : decode cX12_knownAll 26 = .ok (.goto (-22), 3) := by decide +kernel
theorem dX12_knownAll_29 : decode cX12_knownAll 29 = .ok (.iload_n 1, 1) := by decide +kernel
theorem dX12_knownAll_30 : decode cX12_knownAll 30 = .ok (.ireturn, 1) := by decide +kernel
theorem dX12_count_0 : decode cX12_count 0 = .ok (.aload_n 0, 1) := by decide +kernel
theorem dX12_count_1 : decode cX12_count 1 = .ok (.iconst 0, 1) := by decide +kernel
theorem dX12_count_2 : decode cX12_count 2 = .ok (.putfield 151, 3) := by decide +kernel
theorem dX12_count_5 : decode cX12_count 5 = .ok (.iload_n 1, 1) := by decide +kernel
theorem dX12_count_6 : decode cX12_count 6 = .ok (.tableswitch 160 0 13 #[70, 77, 84, 91, 98, 106, 113, 120, 126, 133, 140, 145, 150, 155], 70) := by decide +kernel
theorem dX12_count_76 : decode cX12_count 76 = .ok (.aload_n 0, 1) := by decide +kernel
theorem dX12_count_77 : decode cX12_count 77 = .ok (.getfield 13, 3) := by decide +kernel
theorem dX12_count_80 : decode cX12_count 80 = .ok (.iconst 0, 1) := by decide +kernel
theorem dX12_count_81 : decode cX12_count 81 = .ok (.iaload, 1) := by decide +kernel
theorem dX12_count_82 : decode cX12_count 82 = .ok (.ireturn, 1) := by decide +kernel
theorem dX12_count_83 : decode cX12_count 83 = .ok (.aload_n 0, 1) := by decide +kernel
theorem dX12_count_84 : decode cX12_count 84 = .ok (.getfield 13, 3) := by decide +kernel
theorem dX12_count_87 : decode cX12_count 87 = .ok (.iconst 1, 1) := by decide +kernel
theorem dX12_count_88 : decode cX12_count 88 = .ok (.iaload, 1) := by decide +kernel
theorem dX12_count_89 : decode cX12_count 89 = .ok (.ireturn, 1) := by decide +kernel
theorem dX12_count_90 : decode cX12_count 90 = .ok (.aload_n 0, 1) := by decide +kernel
theorem dX12_count_91 : decode cX12_count 91 = .ok (.getfield 13, 3) := by decide +kernel
theorem dX12_count_94 : decode cX12_count 94 = .ok (.iconst 2, 1) := by decide +kernel
theorem dX12_count_95 : decode cX12_count 95 = .ok (.iaload, 1) := by decide +kernel
theorem dX12_count_96 : decode cX12_count 96 = .ok (.ireturn, 1) := by decide +kernel
theorem dX12_count_97 : decode cX12_count 97 = .ok (.aload_n 0, 1) := by decide +kernel
theorem dX12_count_98 : decode cX12_count 98 = .ok (.getfield 13, 3) := by decide +kernel
theorem dX12_count_101 : decode cX12_count 101 = .ok (.iconst 3, 1) := by decide +kernel
theorem dX12_count_102 : decode cX12_count 102 = .ok (.iaload, 1) := by decide +kernel
theorem dX12_count_103 : decode cX12_count 103 = .ok (.ireturn, 1) := by decide +kernel
theorem dX12_count_104 : decode cX12_count 104 = .ok (.aload_n 0, 1) := by decide +kernel
theorem dX12_count_105 : decode cX12_count 105 = .ok (.getfield 13, 3) := by decide +kernel
theorem dX12_count_108 : decode cX12_count 108 = .ok (.bipush 6, 2) := by decide +kernel
theorem dX12_count_110 : decode cX12_count 110 = .ok (.iaload, 1) := by decide +kernel
theorem dX12_count_111 : decode cX12_count 111 = .ok (.ireturn, 1) := by decide +kernel
theorem dX12_count_112 : decode cX12_count 112 = .ok (.aload_n 0, 1) := by decide +kernel
theorem dX12_count_113 : decode cX12_count 113 = .ok (.getfield 66, 3) := by decide +kernel
theorem dX12_count_116 : decode cX12_count 116 = .ok (.iconst 0, 1) := by decide +kernel
theorem dX12_count_117 : decode cX12_count 117 = .ok (.iaload, 1) := by decide +kernel
theorem dX12_count_118 : decode cX12_count 118 = .ok (.ireturn, 1) := by decide +kernel
theorem dX12_count_119 : decode cX12_count 119 = .ok (.aload_n 0, 1) := by decide +kernel
theorem dX12_count_120 : decode cX12_count 120 = .ok (.getfield 72, 3) := by decide +kernel
theorem dX12_count_123 : decode cX12_count 123 = .ok (.iconst 0, 1) := by decide +kernel
theorem dX12_count_124 : decode cX12_count 124 = .ok (.iaload, 1) := by decide +kernel
theorem dX12_count_125 : decode cX12_count 125 = .ok (.ireturn, 1) := by decide +kernel
theorem dX12_count_126 : decode cX12_count 126 = .ok (.aload_n 0, 1) := by decide +kernel
theorem dX12_count_127 : decode cX12_count 127 = .ok (.iconst 0, 1) := by decide +kernel
theorem dX12_count_128 : decode cX12_count 128 = .ok (.invokevirtual 350, 3) := by decide +kernel
theorem dX12_count_131 : decode cX12_count 131 = .ok (.ireturn, 1) := by decide +kernel
theorem dX12_count_132 : decode cX12_count 132 = .ok (.aload_n 0, 1) := by decide +kernel
theorem dX12_count_133 : decode cX12_count 133 = .ok (.getfield 78, 3) := by decide +kernel
theorem dX12_count_136 : decode cX12_count 136 = .ok (.iconst 0, 1) := by decide +kernel
theorem dX12_count_137 : decode cX12_count 137 = .ok (.iaload, 1) := by decide +kernel
theorem dX12_count_138 : decode cX12_count 138 = .ok (.ireturn, 1) := by decide +kernel
theorem dX12_count_139 : decode cX12_count 139 = .ok (.aload_n 0, 1) := by decide +kernel
theorem dX12_count_140 : decode cX12_count 140 = .ok (.getfield 81, 3) := by decide +kernel
theorem dX12_count_143 : decode cX12_count 143 = .ok (.iconst 0, 1) := by decide +kernel
theorem dX12_count_144 : decode cX12_count 144 = .ok (.iaload, 1) := by decide +kernel
theorem dX12_count_145 : decode cX12_count 145 = .ok (.ireturn, 1) := by decide +kernel
theorem dX12_count_146 : decode cX12_count 146 = .ok (.aload_n 0, 1) := by decide +kernel
theorem dX12_count_147 : decode cX12_count 147 = .ok (.invokevirtual 500, 3) := by decide +kernel
theorem dX12_count_150 : decode cX12_count 150 = .ok (.ireturn, 1) := by decide +kernel
theorem dX12_count_151 : decode cX12_count 151 = .ok (.aload_n 0, 1) := by decide +kernel
theorem dX12_count_152 : decode cX12_count 152 = .ok (.getfield 304, 3) := by decide +kernel
theorem dX12_count_155 : decode cX12_count 155 = .ok (.ireturn, 1) := by decide +kernel
theorem dX12_count_156 : decode cX12_count 156 = .ok (.aload_n 0, 1) := by decide +kernel
theorem dX12_count_157 : decode cX12_count 157 = .ok (.invokevirtual 485, 3) := by decide +kernel
theorem dX12_count_160 : decode cX12_count 160 = .ok (.ireturn, 1) := by decide +kernel
theorem dX12_count_161 : decode cX12_count 161 = .ok (.aload_n 0, 1) := by decide +kernel
theorem dX12_count_162 : decode cX12_count 162 = .ok (.getfield 311, 3) := by decide +kernel
theorem dX12_count_165 : decode cX12_count 165 = .ok (.ireturn, 1) := by decide +kernel
theorem dX12_count_166 : decode cX12_count 166 = .ok (.iconst (-1), 1) := by decide +kernel
theorem dX12_count_167 : decode cX12_count 167 = .ok (.ireturn, 1) := by decide +kernel
theorem dL_trade_0 : decode cL_trade 0 = .ok (.aload_n 3, 1) := by decide +kernel
theorem dL_trade_1 : decode cL_trade 1 = .ok (.iconst 0, 1) := by decide +kernel
theorem dL_trade_2 : decode cL_trade 2 = .ok (.aload_n 0, 1) := by decide +kernel
theorem dL_trade_3 : decode cL_trade 3 = .ok (.iload_n 1, 1) := by decide +kernel
theorem dL_trade_4 : decode cL_trade 4 = .ok (.iload_n 2, 1) := by decide +kernel
theorem dL_trade_5 : decode cL_trade 5 = .ok (.invokevirtual 7, 3) := by decide +kernel
theorem dL_trade_8 : decode cL_trade 8 = .ok (.i2l, 1) := by decide +kernel
theorem dL_trade_9 : decode cL_trade 9 = .ok (.lastore, 1) := by decide +kernel
theorem dL_trade_10 : decode cL_trade 10 = .ok (.goto 11, 3) := by decide +kernel
theorem dL_trade_13 : decode cL_trade 13 = .ok (.astore 4, 2) := by decide +kernel
theorem dL_trade_15 : decode cL_trade 15 = .ok (.iconst 1, 1) := by decide +kernel
theorem dL_trade_16 : decode cL_trade 16 = .ok (.ireturn, 1) := by decide +kernel
theorem dL_trade_17 : decode cL_trade 17 = .ok (.astore 4, 2) := by decide +kernel
theorem dL_trade_19 : decode cL_trade 19 = .ok (.iconst 2, 1) := by decide +kernel
theorem dL_trade_20 : decode cL_trade 20 = .ok (.ireturn, 1) := by decide +kernel
theorem dL_trade_21 : decode cL_trade 21 = .ok (.iconst 0, 1) := by decide +kernel
theorem dL_trade_22 : decode cL_trade 22 = .ok (.ireturn, 1) := by decide +kernel
theorem dL_law_0 : decode cL_law 0 = .ok (.new 8, 3) := by decide +kernel
theorem dL_law_3 : decode cL_law 3 = .ok (.dup, 1) := by decide +kernel
theorem dL_law_4 : decode cL_law 4 = .ok (.invokespecial 17, 3) := by decide +kernel
theorem dL_law_7 : decode cL_law 7 = .ok (.astore_n 1, 1) := by decide +kernel
theorem dL_law_8 : decode cL_law 8 = .ok (.new 18, 3) := by decide +kernel
theorem dL_law_11 : decode cL_law 11 = .ok (.dup, 1) := by decide +kernel
theorem dL_law_12 : decode cL_law 12 = .ok (.invokespecial 20, 3) := by decide +kernel
theorem dL_law_15 : decode cL_law 15 = .ok (.astore_n 2, 1) := by decide +kernel
theorem dL_law_16 : decode cL_law 16 = .ok (.iconst 1, 1) := by decide +kernel
theorem dL_law_17 : decode cL_law 17 = .ok (.newarray .long, 2) := by decide +kernel
theorem dL_law_19 : decode cL_law 19 = .ok (.astore_n 3, 1) := by decide +kernel
theorem dL_law_20 : decode cL_law 20 = .ok (.iconst 0, 1) := by decide +kernel
theorem dL_law_21 : decode cL_law 21 = .ok (.istore 4, 2) := by decide +kernel
theorem dL_law_23 : decode cL_law 23 = .ok (.iload 4, 2) := by decide +kernel
theorem dL_law_25 : decode cL_law 25 = .ok (.aload_n 0, 1) := by decide +kernel
theorem dL_law_26 : decode cL_law 26 = .ok (.arraylength, 1) := by decide +kernel
theorem dL_law_27 : decode cL_law 27 = .ok (.bipush 6, 2) := by decide +kernel
theorem dL_law_29 : decode cL_law 29 = .ok (.isub, 1) := by decide +kernel
theorem dL_law_30 : decode cL_law 30 = .ok (.if_icmp .gt 1498, 3) := by decide +kernel
theorem dL_law_33 : decode cL_law 33 = .ok (.aload_n 0, 1) := by decide +kernel
theorem dL_law_34 : decode cL_law 34 = .ok (.iload 4, 2) := by decide +kernel
theorem dL_law_36 : decode cL_law 36 = .ok (.iaload, 1) := by decide +kernel
theorem dL_law_37 : decode cL_law 37 = .ok (.bipush 63, 2) := by decide +kernel
theorem dL_law_39 : decode cL_law 39 = .ok (.iand, 1) := by decide +kernel
theorem dL_law_40 : decode cL_law 40 = .ok (.tableswitch 1482 0 40 #[180, 253, 278, 303, 340, 408, 433, 470, 508, 533, 558, 595, 632, 657, 706, 731, 756, 781, 806, 831, 856, 881, 918, 943, 956, 981, 1006, 1019, 1056, 1105, 1143, 1208, 1233, 1258, 1283, 1320, 1369, 1418, 1431, 1444, 1457], 180) := by decide +kernel
theorem dL_law_220 : decode cL_law 220 = .ok (.aload_n 1, 1) := by decide +kernel
theorem dL_law_221 : decode cL_law 221 = .ok (.aload_n 0, 1) := by decide +kernel
theorem dL_law_222 : decode cL_law 222 = .ok (.iload 4, 2) := by decide +kernel
theorem dL_law_224 : decode cL_law 224 = .ok (.iconst 1, 1) := by decide +kernel
theorem dL_law_225 : decode cL_law 225 = .ok (.iadd, 1) := by decide +kernel
theorem dL_law_226 : decode cL_law 226 = .ok (.iaload, 1) := by decide +kernel
theorem dL_law_227 : decode cL_law 227 = .ok (.aload_n 0, 1) := by decide +kernel
theorem dL_law_228 : decode cL_law 228 = .ok (.iload 4, 2) := by decide +kernel
theorem dL_law_230 : decode cL_law 230 = .ok (.iconst 2, 1) := by decide +kernel
theorem dL_law_231 : decode cL_law 231 = .ok (.iadd, 1) := by decide +kernel
theorem dL_law_232 : decode cL_law 232 = .ok (.iaload, 1) := by decide +kernel
theorem dL_law_233 : decode cL_law 233 = .ok (.aload_n 0, 1) := by decide +kernel
theorem dL_law_234 : decode cL_law 234 = .ok (.iload 4, 2) := by decide +kernel
theorem dL_law_236 : decode cL_law 236 = .ok (.iconst 3, 1) := by decide +kernel
theorem dL_law_237 : decode cL_law 237 = .ok (.iadd, 1) := by decide +kernel
theorem dL_law_238 : decode cL_law 238 = .ok (.iaload, 1) := by decide +kernel
theorem dL_law_239 : decode cL_law 239 = .ok (.aload_n 0, 1) := by decide +kernel
theorem dL_law_240 : decode cL_law 240 = .ok (.iload 4, 2) := by decide +kernel
theorem dL_law_242 : decode cL_law 242 = .ok (.iconst 4, 1) := by decide +kernel
theorem dL_law_243 : decode cL_law 243 = .ok (.iadd, 1) := by decide +kernel
theorem dL_law_244 : decode cL_law 244 = .ok (.iaload, 1) := by decide +kernel
theorem dL_law_245 : decode cL_law 245 = .ok (.aload_n 0, 1) := by decide +kernel
theorem dL_law_246 : decode cL_law 246 = .ok (.iload 4, 2) := by decide +kernel
theorem dL_law_248 : decode cL_law 248 = .ok (.iconst 5, 1) := by decide +kernel
theorem dL_law_249 : decode cL_law 249 = .ok (.iadd, 1) := by decide +kernel
theorem dL_law_250 : decode cL_law 250 = .ok (.iaload, 1) := by decide +kernel
theorem dL_law_251 : decode cL_law 251 = .ok (.invokevirtual 21, 3) := by decide +kernel
theorem dL_law_254 : decode cL_law 254 = .ok (.aload_n 2, 1) := by decide +kernel
theorem dL_law_255 : decode cL_law 255 = .ok (.aload_n 0, 1) := by decide +kernel
theorem dL_law_256 : decode cL_law 256 = .ok (.iload 4, 2) := by decide +kernel
theorem dL_law_258 : decode cL_law 258 = .ok (.iconst 1, 1) := by decide +kernel
theorem dL_law_259 : decode cL_law 259 = .ok (.iadd, 1) := by decide +kernel
theorem dL_law_260 : decode cL_law 260 = .ok (.iaload, 1) := by decide +kernel
theorem dL_law_261 : decode cL_law 261 = .ok (.aload_n 0, 1) := by decide +kernel
theorem dL_law_262 : decode cL_law 262 = .ok (.iload 4, 2) := by decide +kernel
theorem dL_law_264 : decode cL_law 264 = .ok (.iconst 2, 1) := by decide +kernel
theorem dL_law_265 : decode cL_law 265 = .ok (.iadd, 1) := by decide +kernel
theorem dL_law_266 : decode cL_law 266 = .ok (.iaload, 1) := by decide +kernel
theorem dL_law_267 : decode cL_law 267 = .ok (.aload_n 0, 1) := by decide +kernel
theorem dL_law_268 : decode cL_law 268 = .ok (.iload 4, 2) := by decide +kernel
theorem dL_law_270 : decode cL_law 270 = .ok (.iconst 3, 1) := by decide +kernel
theorem dL_law_271 : decode cL_law 271 = .ok (.iadd, 1) := by decide +kernel
theorem dL_law_272 : decode cL_law 272 = .ok (.iaload, 1) := by decide +kernel
theorem dL_law_273 : decode cL_law 273 = .ok (.aload_n 0, 1) := by decide +kernel
theorem dL_law_274 : decode cL_law 274 = .ok (.iload 4, 2) := by decide +kernel
theorem dL_law_276 : decode cL_law 276 = .ok (.iconst 4, 1) := by decide +kernel
theorem dL_law_277 : decode cL_law 277 = .ok (.iadd, 1) := by decide +kernel
theorem dL_law_278 : decode cL_law 278 = .ok (.iaload, 1) := by decide +kernel
theorem dL_law_279 : decode cL_law 279 = .ok (.aload_n 0, 1) := by decide +kernel
theorem dL_law_280 : decode cL_law 280 = .ok (.iload 4, 2) := by decide +kernel
theorem dL_law_282 : decode cL_law 282 = .ok (.iconst 5, 1) := by decide +kernel
theorem dL_law_283 : decode cL_law 283 = .ok (.iadd, 1) := by decide +kernel
theorem dL_law_284 : decode cL_law 284 = .ok (.iaload, 1) := by decide +kernel
theorem dL_law_285 : decode cL_law 285 = .ok (.invokevirtual 25, 3) := by decide +kernel
theorem dL_law_288 : decode cL_law 288 = .ok (.if_icmp .eq 1234, 3) := by decide +kernel
theorem dL_law_291 : decode cL_law 291 = .ok (.iconst 0, 1) := by decide +kernel
theorem dL_law_292 : decode cL_law 292 = .ok (.ireturn, 1) := by decide +kernel
theorem dL_law_293 : decode cL_law 293 = .ok (.aload_n 1, 1) := by decide +kernel
theorem dL_law_294 : decode cL_law 294 = .ok (.aload_n 0, 1) := by decide +kernel
theorem dL_law_295 : decode cL_law 295 = .ok (.iload 4, 2) := by decide +kernel
theorem dL_law_297 : decode cL_law 297 = .ok (.iconst 1, 1) := by decide +kernel
theorem dL_law_298 : decode cL_law 298 = .ok (.iadd, 1) := by decide +kernel
theorem dL_law_299 : decode cL_law 299 = .ok (.iaload, 1) := by decide +kernel
theorem dL_law_300 : decode cL_law 300 = .ok (.invokevirtual 26, 3) := by decide +kernel
theorem dL_law_303 : decode cL_law 303 = .ok (.aload_n 2, 1) := by decide +kernel
theorem dL_law_304 : decode cL_law 304 = .ok (.aload_n 0, 1) := by decide +kernel
theorem dL_law_305 : decode cL_law 305 = .ok (.iload 4, 2) := by decide +kernel
theorem dL_law_307 : decode cL_law 307 = .ok (.iconst 1, 1) := by decide +kernel
theorem dL_law_308 : decode cL_law 308 = .ok (.iadd, 1) := by decide +kernel
theorem dL_law_309 : decode cL_law 309 = .ok (.iaload, 1) := by decide +kernel
theorem dL_law_310 : decode cL_law 310 = .ok (.invokevirtual 30, 3) := by decide +kernel
theorem dL_law_313 : decode cL_law 313 = .ok (.if_icmp .eq 1209, 3) := by decide +kernel
theorem dL_law_316 : decode cL_law 316 = .ok (.iconst 0, 1) := by decide +kernel
theorem dL_law_317 : decode cL_law 317 = .ok (.ireturn, 1) := by decide +kernel
theorem dL_law_318 : decode cL_law 318 = .ok (.aload_n 1, 1) := by decide +kernel
theorem dL_law_319 : decode cL_law 319 = .ok (.aload_n 0, 1) := by decide +kernel
theorem dL_law_320 : decode cL_law 320 = .ok (.iload 4, 2) := by decide +kernel
theorem dL_law_322 : decode cL_law 322 = .ok (.iconst 1, 1) := by decide +kernel
theorem dL_law_323 : decode cL_law 323 = .ok (.iadd, 1) := by decide +kernel
theorem dL_law_324 : decode cL_law 324 = .ok (.iaload, 1) := by decide +kernel
theorem dL_law_325 : decode cL_law 325 = .ok (.invokevirtual 31, 3) := by decide +kernel
theorem dL_law_328 : decode cL_law 328 = .ok (.aload_n 2, 1) := by decide +kernel
theorem dL_law_329 : decode cL_law 329 = .ok (.aload_n 0, 1) := by decide +kernel
theorem dL_law_330 : decode cL_law 330 = .ok (.iload 4, 2) := by decide +kernel
theorem dL_law_332 : decode cL_law 332 = .ok (.iconst 1, 1) := by decide +kernel
theorem dL_law_333 : decode cL_law 333 = .ok (.iadd, 1) := by decide +kernel
theorem dL_law_334 : decode cL_law 334 = .ok (.iaload, 1) := by decide +kernel
theorem dL_law_335 : decode cL_law 335 = .ok (.invokevirtual 34, 3) := by decide +kernel
theorem dL_law_338 : decode cL_law 338 = .ok (.if_icmp .eq 1184, 3) := by decide +kernel
theorem dL_law_341 : decode cL_law 341 = .ok (.iconst 0, 1) := by decide +kernel
theorem dL_law_342 : decode cL_law 342 = .ok (.ireturn, 1) := by decide +kernel
theorem dL_law_343 : decode cL_law 343 = .ok (.aload_n 1, 1) := by decide +kernel
theorem dL_law_344 : decode cL_law 344 = .ok (.aload_n 0, 1) := by decide +kernel
theorem dL_law_345 : decode cL_law 345 = .ok (.iload 4, 2) := by decide +kernel
theorem dL_law_347 : decode cL_law 347 = .ok (.iconst 1, 1) := by decide +kernel
theorem dL_law_348 : decode cL_law 348 = .ok (.iadd, 1) := by decide +kernel
theorem dL_law_349 : decode cL_law 349 = .ok (.iaload, 1) := by decide +kernel
theorem dL_law_350 : decode cL_law 350 = .ok (.aload_n 0, 1) := by decide +kernel
theorem dL_law_351 : decode cL_law 351 = .ok (.iload 4, 2) := by decide +kernel
theorem dL_law_353 : decode cL_law 353 = .ok (.iconst 2, 1) := by decide +kernel
theorem dL_law_354 : decode cL_law 354 = .ok (.iadd, 1) := by decide +kernel
theorem dL_law_355 : decode cL_law 355 = .ok (.iaload, 1) := by decide +kernel
theorem dL_law_356 : decode cL_law 356 = .ok (.invokevirtual 35, 3) := by decide +kernel
theorem dL_law_359 : decode cL_law 359 = .ok (.aload_n 2, 1) := by decide +kernel
theorem dL_law_360 : decode cL_law 360 = .ok (.aload_n 0, 1) := by decide +kernel
theorem dL_law_361 : decode cL_law 361 = .ok (.iload 4, 2) := by decide +kernel
theorem dL_law_363 : decode cL_law 363 = .ok (.iconst 1, 1) := by decide +kernel
theorem dL_law_364 : decode cL_law 364 = .ok (.iadd, 1) := by decide +kernel
theorem dL_law_365 : decode cL_law 365 = .ok (.iaload, 1) := by decide +kernel
theorem dL_law_366 : decode cL_law 366 = .ok (.aload_n 0, 1) := by decide +kernel
theorem dL_law_367 : decode cL_law 367 = .ok (.iload 4, 2) := by decide +kernel
theorem dL_law_369 : decode cL_law 369 = .ok (.iconst 2, 1) := by decide +kernel
theorem dL_law_370 : decode cL_law 370 = .ok (.iadd, 1) := by decide +kernel
theorem dL_law_371 : decode cL_law 371 = .ok (.iaload, 1) := by decide +kernel
theorem dL_law_372 : decode cL_law 372 = .ok (.invokevirtual 38, 3) := by decide +kernel
theorem dL_law_375 : decode cL_law 375 = .ok (.if_icmp .eq 1147, 3) := by decide +kernel
theorem dL_law_378 : decode cL_law 378 = .ok (.iconst 0, 1) := by decide +kernel
theorem dL_law_379 : decode cL_law 379 = .ok (.ireturn, 1) := by decide +kernel
theorem dL_law_380 : decode cL_law 380 = .ok (.aload_n 1, 1) := by decide +kernel
theorem dL_law_381 : decode cL_law 381 = .ok (.aload_n 0, 1) := by decide +kernel
theorem dL_law_382 : decode cL_law 382 = .ok (.iload 4, 2) := by decide +kernel
theorem dL_law_384 : decode cL_law 384 = .ok (.iconst 1, 1) := by decide +kernel
theorem dL_law_385 : decode cL_law 385 = .ok (.iadd, 1) := by decide +kernel
theorem dL_law_386 : decode cL_law 386 = .ok (.iaload, 1) := by decide +kernel
theorem dL_law_387 : decode cL_law 387 = .ok (.aload_n 0, 1) := by decide +kernel
theorem dL_law_388 : decode cL_law 388 = .ok (.iload 4, 2) := by decide +kernel
theorem dL_law_390 : decode cL_law 390 = .ok (.iconst 2, 1) := by decide +kernel
theorem dL_law_391 : decode cL_law 391 = .ok (.iadd, 1) := by decide +kernel
theorem dL_law_392 : decode cL_law 392 = .ok (.iaload, 1) := by decide +kernel
theorem dL_law_393 : decode cL_law 393 = .ok (.aload_n 3, 1) := by decide +kernel
theorem dL_law_394 : decode cL_law 394 = .ok (.invokestatic 39, 3) := by decide +kernel
theorem dL_law_397 : decode cL_law 397 = .ok (.istore 5, 2) := by decide +kernel
theorem dL_law_399 : decode cL_law 399 = .ok (.aload_n 2, 1) := by decide +kernel
theorem dL_law_400 : decode cL_law 400 = .ok (.aload_n 0, 1) := by decide +kernel
theorem dL_law_401 : decode cL_law 401 = .ok (.iload 4, 2) := by decide +kernel
theorem dL_law_403 : decode cL_law 403 = .ok (.iconst 1, 1) := by decide +kernel
theorem dL_law_404 : decode cL_law 404 = .ok (.iadd, 1) := by decide +kernel
theorem dL_law_405 : decode cL_law 405 = .ok (.iaload, 1) := by decide +kernel
theorem dL_law_406 : decode cL_law 406 = .ok (.aload_n 0, 1) := by decide +kernel
theorem dL_law_407 : decode cL_law 407 = .ok (.iload 4, 2) := by decide +kernel
theorem dL_law_409 : decode cL_law 409 = .ok (.iconst 2, 1) := by decide +kernel
theorem dL_law_410 : decode cL_law 410 = .ok (.iadd, 1) := by decide +kernel
theorem dL_law_411 : decode cL_law 411 = .ok (.iaload, 1) := by decide +kernel
theorem dL_law_412 : decode cL_law 412 = .ok (.invokevirtual 44, 3) := by decide +kernel
theorem dL_law_415 : decode cL_law 415 = .ok (.istore 6, 2) := by decide +kernel
theorem dL_law_417 : decode cL_law 417 = .ok (.aload_n 2, 1) := by decide +kernel
theorem dL_law_418 : decode cL_law 418 = .ok (.invokevirtual 45, 3) := by decide +kernel
theorem dL_law_421 : decode cL_law 421 = .ok (.iload 5, 2) := by decide +kernel
theorem dL_law_423 : decode cL_law 423 = .ok (.if_icmp .eq 5, 3) := by decide +kernel
theorem dL_law_426 : decode cL_law 426 = .ok (.iconst 0, 1) := by decide +kernel
theorem dL_law_427 : decode cL_law 427 = .ok (.ireturn, 1) := by decide +kernel
theorem dL_law_428 : decode cL_law 428 = .ok (.iload 5, 2) := by decide +kernel
theorem dL_law_430 : decode cL_law 430 = .ok (.ifCond .ne 15, 3) := by decide +kernel
theorem dL_law_433 : decode cL_law 433 = .ok (.aload_n 3, 1) := by decide +kernel
theorem dL_law_434 : decode cL_law 434 = .ok (.iconst 0, 1) := by decide +kernel
theorem dL_law_435 : decode cL_law 435 = .ok (.laload, 1) := by decide +kernel
theorem dL_law_436 : decode cL_law 436 = .ok (.iload 6, 2) := by decide +kernel
theorem dL_law_438 : decode cL_law 438 = .ok (.i2l, 1) := by decide +kernel
theorem dL_law_439 : decode cL_law 439 = .ok (.lcmp, 1) := by decide +kernel
theorem dL_law_440 : decode cL_law 440 = .ok (.ifCond .eq 5, 3) := by decide +kernel
theorem dL_law_443 : decode cL_law 443 = .ok (.iconst 0, 1) := by decide +kernel
theorem dL_law_444 : decode cL_law 444 = .ok (.ireturn, 1) := by decide +kernel
theorem dL_law_445 : decode cL_law 445 = .ok (.goto 1077, 3) := by decide +kernel
theorem dL_law_448 : decode cL_law 448 = .ok (.aload_n 1, 1) := by decide +kernel
theorem dL_law_449 : decode cL_law 449 = .ok (.aload_n 0, 1) := by decide +kernel
theorem dL_law_450 : decode cL_law 450 = .ok (.iload 4, 2) := by decide +kernel
theorem dL_law_452 : decode cL_law 452 = .ok (.iconst 1, 1) := by decide +kernel
theorem dL_law_453 : decode cL_law 453 = .ok (.iadd, 1) := by decide +kernel
theorem dL_law_454 : decode cL_law 454 = .ok (.iaload, 1) := by decide +kernel
theorem dL_law_455 : decode cL_law 455 = .ok (.invokevirtual 49, 3) := by decide +kernel
theorem dL_law_458 : decode cL_law 458 = .ok (.aload_n 2, 1) := by decide +kernel
theorem dL_law_459 : decode cL_law 459 = .ok (.aload_n 0, 1) := by decide +kernel
theorem dL_law_460 : decode cL_law 460 = .ok (.iload 4, 2) := by decide +kernel
theorem dL_law_462 : decode cL_law 462 = .ok (.iconst 1, 1) := by decide +kernel
theorem dL_law_463 : decode cL_law 463 = .ok (.iadd, 1) := by decide +kernel
theorem dL_law_464 : decode cL_law 464 = .ok (.iaload, 1) := by decide +kernel
theorem dL_law_465 : decode cL_law 465 = .ok (.invokevirtual 52, 3) := by decide +kernel
theorem dL_law_468 : decode cL_law 468 = .ok (.if_icmp .eq 1054, 3) := by decide +kernel
theorem dL_law_471 : decode cL_law 471 = .ok (.iconst 0, 1) := by decide +kernel
theorem dL_law_472 : decode cL_law 472 = .ok (.ireturn, 1) := by decide +kernel
theorem dL_law_473 : decode cL_law 473 = .ok (.aload_n 1, 1) := by decide +kernel
theorem dL_law_474 : decode cL_law 474 = .ok (.aload_n 0, 1) := by decide +kernel
theorem dL_law_475 : decode cL_law 475 = .ok (.iload 4, 2) := by decide +kernel
theorem dL_law_477 : decode cL_law 477 = .ok (.iconst 1, 1) := by decide +kernel
theorem dL_law_478 : decode cL_law 478 = .ok (.iadd, 1) := by decide +kernel
theorem dL_law_479 : decode cL_law 479 = .ok (.iaload, 1) := by decide +kernel
theorem dL_law_480 : decode cL_law 480 = .ok (.aload_n 0, 1) := by decide +kernel
theorem dL_law_481 : decode cL_law 481 = .ok (.iload 4, 2) := by decide +kernel
theorem dL_law_483 : decode cL_law 483 = .ok (.iconst 2, 1) := by decide +kernel
theorem dL_law_484 : decode cL_law 484 = .ok (.iadd, 1) := by decide +kernel
theorem dL_law_485 : decode cL_law 485 = .ok (.iaload, 1) := by decide +kernel
theorem dL_law_486 : decode cL_law 486 = .ok (.invokevirtual 53, 3) := by decide +kernel
theorem dL_law_489 : decode cL_law 489 = .ok (.aload_n 2, 1) := by decide +kernel
theorem dL_law_490 : decode cL_law 490 = .ok (.aload_n 0, 1) := by decide +kernel
theorem dL_law_491 : decode cL_law 491 = .ok (.iload 4, 2) := by decide +kernel
theorem dL_law_493 : decode cL_law 493 = .ok (.iconst 1, 1) := by decide +kernel
theorem dL_law_494 : decode cL_law 494 = .ok (.iadd, 1) := by decide +kernel
theorem dL_law_495 : decode cL_law 495 = .ok (.iaload, 1) := by decide +kernel
theorem dL_law_496 : decode cL_law 496 = .ok (.aload_n 0, 1) := by decide +kernel
theorem dL_law_497 : decode cL_law 497 = .ok (.iload 4, 2) := by decide +kernel
theorem dL_law_499 : decode cL_law 499 = .ok (.iconst 2, 1) := by decide +kernel
theorem dL_law_500 : decode cL_law 500 = .ok (.iadd, 1) := by decide +kernel
theorem dL_law_501 : decode cL_law 501 = .ok (.iaload, 1) := by decide +kernel
theorem dL_law_502 : decode cL_law 502 = .ok (.invokevirtual 56, 3) := by decide +kernel
theorem dL_law_505 : decode cL_law 505 = .ok (.if_icmp .eq 1017, 3) := by decide +kernel
theorem dL_law_508 : decode cL_law 508 = .ok (.iconst 0, 1) := by decide +kernel
theorem dL_law_509 : decode cL_law 509 = .ok (.ireturn, 1) := by decide +kernel
theorem dL_law_510 : decode cL_law 510 = .ok (.aload_n 1, 1) := by decide +kernel
theorem dL_law_511 : decode cL_law 511 = .ok (.aload_n 0, 1) := by decide +kernel
theorem dL_law_512 : decode cL_law 512 = .ok (.iload 4, 2) := by decide +kernel
theorem dL_law_514 : decode cL_law 514 = .ok (.iconst 1, 1) := by decide +kernel
theorem dL_law_515 : decode cL_law 515 = .ok (.iadd, 1) := by decide +kernel
theorem dL_law_516 : decode cL_law 516 = .ok (.iaload, 1) := by decide +kernel
theorem dL_law_517 : decode cL_law 517 = .ok (.aload_n 0, 1) := by decide +kernel
theorem dL_law_518 : decode cL_law 518 = .ok (.iload 4, 2) := by decide +kernel
theorem dL_law_520 : decode cL_law 520 = .ok (.iconst 2, 1) := by decide +kernel
theorem dL_law_521 : decode cL_law 521 = .ok (.iadd, 1) := by decide +kernel
theorem dL_law_522 : decode cL_law 522 = .ok (.iaload, 1) := by decide +kernel
theorem dL_law_523 : decode cL_law 523 = .ok (.invokevirtual 57, 3) := by decide +kernel
theorem dL_law_526 : decode cL_law 526 = .ok (.aload_n 2, 1) := by decide +kernel
theorem dL_law_527 : decode cL_law 527 = .ok (.aload_n 0, 1) := by decide +kernel
theorem dL_law_528 : decode cL_law 528 = .ok (.iload 4, 2) := by decide +kernel
theorem dL_law_530 : decode cL_law 530 = .ok (.iconst 1, 1) := by decide +kernel
theorem dL_law_531 : decode cL_law 531 = .ok (.iadd, 1) := by decide +kernel
theorem dL_law_532 : decode cL_law 532 = .ok (.iaload, 1) := by decide +kernel
theorem dL_law_533 : decode cL_law 533 = .ok (.aload_n 0, 1) := by decide +kernel
theorem dL_law_534 : decode cL_law 534 = .ok (.iload 4, 2) := by decide +kernel
theorem dL_law_536 : decode cL_law 536 = .ok (.iconst 2, 1) := by decide +kernel
theorem dL_law_537 : decode cL_law 537 = .ok (.iadd, 1) := by decide +kernel
theorem dL_law_538 : decode cL_law 538 = .ok (.iaload, 1) := by decide +kernel
