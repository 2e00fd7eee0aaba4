theorem dX4_fillByNext_1 : decode cX4_fillByNext 1 = .ok (.istore_n 3, 1) := by decide +kernel
theorem dX4_fillByNext_2 : decode cX4_fillByNext 2 = .ok (.aload_n 0, 1) := by decide +kernel
theorem dX4_fillByNext_3 : decode cX4_fillByNext 3 = .ok (.iconst 0, 1) := by decide +kernel
theorem dX4_fillByNext_4 : decode cX4_fillByNext 4 = .ok (.invokevirtual 42, 3) := by decide +kernel
theorem dX4_fillByNext_7 : decode cX4_fillByNext 7 = .ok (.ifCond .eq 7, 3) := by decide +kernel
theorem dX4_fillByNext_10 : decode cX4_fillByNext 10 = .ok (.iconst 0, 1) := by decide +kernel
theorem dX4_fillByNext_11 : decode cX4_fillByNext 11 = .ok (.goto 4, 3) := by decide +kernel
theorem dX4_fillByNext_14 : decode cX4_fillByNext 14 = .ok (.iconst (-1), 1) := by decide +kernel
theorem dX4_fillByNext_15 : decode cX4_fillByNext 15 = .ok (.istore 4, 2) := by decide +kernel
theorem dX4_fillByNext_17 : decode cX4_fillByNext 17 = .ok (.iload_n 3, 1) := by decide +kernel
theorem dX4_fillByNext_18 : decode cX4_fillByNext 18 = .ok (.iload_n 2, 1) := by decide +kernel
theorem dX4_fillByNext_19 : decode cX4_fillByNext 19 = .ok (.if_icmp .ge 38, 3) := by decide +kernel
theorem dX4_fillByNext_22 : decode cX4_fillByNext 22 = .ok (.iload_n 3, 1) := by decide +kernel
theorem dX4_fillByNext_23 : decode cX4_fillByNext 23 = .ok (.aload_n 1, 1) := by decide +kernel
theorem dX4_fillByNext_24 : decode cX4_fillByNext 24 = .ok (.arraylength, 1) := by decide +kernel
theorem dX4_fillByNext_25 : decode cX4_fillByNext 25 = .ok (.if_icmp .ge 32, 3) := by decide +kernel
theorem dX4_fillByNext_28 : decode cX4_fillByNext 28 = .ok (.iload 4, 2) := by decide +kernel
theorem dX4_fillByNext_30 : decode cX4_fillByNext 30 = .ok (.iconst (-1), 1) := by decide +kernel
theorem dX4_fillByNext_31 : decode cX4_fillByNext 31 = .ok (.if_icmp .eq 26, 3) := by decide +kernel
theorem dX4_fillByNext_34 : decode cX4_fillByNext 34 = .ok (.aload_n 1, 1) := by decide +kernel
theorem dX4_fillByNext_35 : decode cX4_fillByNext 35 = .ok (.iload_n 3, 1) := by decide +kernel
theorem dX4_fillByNext_36 : decode cX4_fillByNext 36 = .ok (.aload_n 0, 1) := by decide +kernel
theorem dX4_fillByNext_37 : decode cX4_fillByNext 37 = .ok (.iload 4, 2) := by decide +kernel
theorem dX4_fillByNext_39 : decode cX4_fillByNext 39 = .ok (.invokevirtual 48, 3) := by decide +kernel
theorem dX4_fillByNext_42 : decode cX4_fillByNext 42 = .ok (.iastore, 1) := by decide +kernel
theorem dX4_fillByNext_43 : decode cX4_fillByNext 43 = .ok (.iinc 3 1, 3) := by decide +kernel
theorem dX4_fillByNext_46 : decode cX4_fillByNext 46 = .ok (.aload_n 0, 1) := by decide +kernel
theorem dX4_fillByNext_47 : decode cX4_fillByNext 47 = .ok (.iload 4, 2) := by decide +kernel
theorem dX4_fillByNext_49 : decode cX4_fillByNext 49 = .ok (.invokevirtual 52, 3) := by decide +kernel
theorem dX4_fillByNext_52 : decode cX4_fillByNext 52 = .ok (.istore 4, 2) := by decide +kernel
theorem dX4_fillByNext_54 : decode cX4_fillByNext 54 = .ok (.goto (-37), 3) := by decide +kernel
theorem dX4_fillByNext_57 : decode cX4_fillByNext 57 = .ok (.iload_n 3, 1) := by decide +kernel
theorem dX4_fillByNext_58 : decode cX4_fillByNext 58 = .ok (.ireturn, 1) := by decide +kernel
theorem dX4_shortestAt_0 : decode cX4_shortestAt 0 = .ok (.iload_n 1, 1) := by decide +kernel
theorem dX4_shortestAt_1 : decode cX4_shortestAt 1 = .ok (.ifCond .lt 37, 3) := by decide +kernel
theorem dX4_shortestAt_4 : decode cX4_shortestAt 4 = .ok (.iload_n 1, 1) := by decide +kernel
theorem dX4_shortestAt_5 : decode cX4_shortestAt 5 = .ok (.aload_n 0, 1) := by decide +kernel
theorem dX4_shortestAt_6 : decode cX4_shortestAt 6 = .ok (.getfield 28, 3) := by decide +kernel
theorem dX4_shortestAt_9 : decode cX4_shortestAt 9 = .ok (.if_icmp .gt 29, 3) := by decide +kernel
theorem dX4_shortestAt_12 : decode cX4_shortestAt 12 = .ok (.iload_n 2, 1) := by decide +kernel
theorem dX4_shortestAt_13 : decode cX4_shortestAt 13 = .ok (.ifCond .lt 25, 3) := by decide +kernel
theorem dX4_shortestAt_16 : decode cX4_shortestAt 16 = .ok (.iload_n 2, 1) := by decide +kernel
theorem dX4_shortestAt_17 : decode cX4_shortestAt 17 = .ok (.aload_n 0, 1) := by decide +kernel
theorem dX4_shortestAt_18 : decode cX4_shortestAt 18 = .ok (.getfield 32, 3) := by decide +kernel
theorem dX4_shortestAt_21 : decode cX4_shortestAt 21 = .ok (.if_icmp .gt 17, 3) := by decide +kernel
theorem dX4_shortestAt_24 : decode cX4_shortestAt 24 = .ok (.aload_n 0, 1) := by decide +kernel
theorem dX4_shortestAt_25 : decode cX4_shortestAt 25 = .ok (.getfield 18, 3) := by decide +kernel
theorem dX4_shortestAt_28 : decode cX4_shortestAt 28 = .ok (.iload_n 1, 1) := by decide +kernel
theorem dX4_shortestAt_29 : decode cX4_shortestAt 29 = .ok (.bipush 13, 2) := by decide +kernel
theorem dX4_shortestAt_31 : decode cX4_shortestAt 31 = .ok (.imul, 1) := by decide +kernel
theorem dX4_shortestAt_32 : decode cX4_shortestAt 32 = .ok (.iload_n 2, 1) := by decide +kernel
theorem dX4_shortestAt_33 : decode cX4_shortestAt 33 = .ok (.iadd, 1) := by decide +kernel
theorem dX4_shortestAt_34 : decode cX4_shortestAt 34 = .ok (.iaload, 1) := by decide +kernel
theorem dX4_shortestAt_35 : decode cX4_shortestAt 35 = .ok (.goto 5, 3) := by decide +kernel
theorem dX4_shortestAt_38 : decode cX4_shortestAt 38 = .ok (.ldc 55, 2) := by decide +kernel
theorem dX4_shortestAt_40 : decode cX4_shortestAt 40 = .ok (.ireturn, 1) := by decide +kernel
theorem dX4_isShared_0 : decode cX4_isShared 0 = .ok (.iload_n 1, 1) := by decide +kernel
theorem dX4_isShared_1 : decode cX4_isShared 1 = .ok (.aload_n 0, 1) := by decide +kernel
theorem dX4_isShared_2 : decode cX4_isShared 2 = .ok (.getfield 28, 3) := by decide +kernel
theorem dX4_isShared_5 : decode cX4_isShared 5 = .ok (.if_icmp .ge 30, 3) := by decide +kernel
theorem dX4_isShared_8 : decode cX4_isShared 8 = .ok (.iload_n 2, 1) := by decide +kernel
theorem dX4_isShared_9 : decode cX4_isShared 9 = .ok (.aload_n 0, 1) := by decide +kernel
theorem dX4_isShared_10 : decode cX4_isShared 10 = .ok (.getfield 32, 3) := by decide +kernel
theorem dX4_isShared_13 : decode cX4_isShared 13 = .ok (.if_icmp .ge 22, 3) := by decide +kernel
theorem dX4_isShared_16 : decode cX4_isShared 16 = .ok (.aload_n 0, 1) := by decide +kernel
theorem dX4_isShared_17 : decode cX4_isShared 17 = .ok (.getfield 11, 3) := by decide +kernel
theorem dX4_isShared_20 : decode cX4_isShared 20 = .ok (.iload_n 1, 1) := by decide +kernel
theorem dX4_isShared_21 : decode cX4_isShared 21 = .ok (.iaload, 1) := by decide +kernel
theorem dX4_isShared_22 : decode cX4_isShared 22 = .ok (.aload_n 0, 1) := by decide +kernel
theorem dX4_isShared_23 : decode cX4_isShared 23 = .ok (.getfield 15, 3) := by decide +kernel
theorem dX4_isShared_26 : decode cX4_isShared 26 = .ok (.iload_n 2, 1) := by decide +kernel
theorem dX4_isShared_27 : decode cX4_isShared 27 = .ok (.iaload, 1) := by decide +kernel
theorem dX4_isShared_28 : decode cX4_isShared 28 = .ok (.if_icmp .ne 7, 3) := by decide +kernel
theorem dX4_isShared_31 : decode cX4_isShared 31 = .ok (.iconst 1, 1) := by decide +kernel
theorem dX4_isShared_32 : decode cX4_isShared 32 = .ok (.goto 4, 3) := by decide +kernel
theorem dX4_isShared_35 : decode cX4_isShared 35 = .ok (.iconst 0, 1) := by decide +kernel
theorem dX4_isShared_36 : decode cX4_isShared 36 = .ok (.ireturn, 1) := by decide +kernel
theorem dX4_shortestFrom_0 : decode cX4_shortestFrom 0 = .ok (.iload_n 1, 1) := by decide +kernel
theorem dX4_shortestFrom_1 : decode cX4_shortestFrom 1 = .ok (.aload_n 0, 1) := by decide +kernel
theorem dX4_shortestFrom_2 : decode cX4_shortestFrom 2 = .ok (.getfield 28, 3) := by decide +kernel
theorem dX4_shortestFrom_5 : decode cX4_shortestFrom 5 = .ok (.if_icmp .lt 10, 3) := by decide +kernel
theorem dX4_shortestFrom_8 : decode cX4_shortestFrom 8 = .ok (.aload_n 0, 1) := by decide +kernel
theorem dX4_shortestFrom_9 : decode cX4_shortestFrom 9 = .ok (.getfield 32, 3) := by decide +kernel
theorem dX4_shortestFrom_12 : decode cX4_shortestFrom 12 = .ok (.iload_n 2, 1) := by decide +kernel
theorem dX4_shortestFrom_13 : decode cX4_shortestFrom 13 = .ok (.isub, 1) := by decide +kernel
theorem dX4_shortestFrom_14 : decode cX4_shortestFrom 14 = .ok (.ireturn, 1) := by decide +kernel
theorem dX4_shortestFrom_15 : decode cX4_shortestFrom 15 = .ok (.iload_n 2, 1) := by decide +kernel
theorem dX4_shortestFrom_16 : decode cX4_shortestFrom 16 = .ok (.aload_n 0, 1) := by decide +kernel
theorem dX4_shortestFrom_17 : decode cX4_shortestFrom 17 = .ok (.getfield 32, 3) := by decide +kernel
theorem dX4_shortestFrom_20 : decode cX4_shortestFrom 20 = .ok (.if_icmp .lt 10, 3) := by decide +kernel
theorem dX4_shortestFrom_23 : decode cX4_shortestFrom 23 = .ok (.aload_n 0, 1) := by decide +kernel
theorem dX4_shortestFrom_24 : decode cX4_shortestFrom 24 = .ok (.getfield 28, 3) := by decide +kernel
theorem dX4_shortestFrom_27 : decode cX4_shortestFrom 27 = .ok (.iload_n 1, 1) := by decide +kernel
theorem dX4_shortestFrom_28 : decode cX4_shortestFrom 28 = .ok (.isub, 1) := by decide +kernel
theorem dX4_shortestFrom_29 : decode cX4_shortestFrom 29 = .ok (.ireturn, 1) := by decide +kernel
theorem dX4_shortestFrom_30 : decode cX4_shortestFrom 30 = .ok (.aload_n 0, 1) := by decide +kernel
theorem dX4_shortestFrom_31 : decode cX4_shortestFrom 31 = .ok (.iload_n 1, 1) := by decide +kernel
theorem dX4_shortestFrom_32 : decode cX4_shortestFrom 32 = .ok (.iload_n 2, 1) := by decide +kernel
theorem dX4_shortestFrom_33 : decode cX4_shortestFrom 33 = .ok (.invokevirtual 56, 3) := by decide +kernel
theorem dX4_shortestFrom_36 : decode cX4_shortestFrom 36 = .ok (.ifCond .eq 16, 3) := by decide +kernel
theorem dX4_shortestFrom_39 : decode cX4_shortestFrom 39 = .ok (.iconst 1, 1) := by decide +kernel
theorem dX4_shortestFrom_40 : decode cX4_shortestFrom 40 = .ok (.aload_n 0, 1) := by decide +kernel
theorem dX4_shortestFrom_41 : decode cX4_shortestFrom 41 = .ok (.iload_n 1, 1) := by decide +kernel
theorem dX4_shortestFrom_42 : decode cX4_shortestFrom 42 = .ok (.iconst 1, 1) := by decide +kernel
theorem dX4_shortestFrom_43 : decode cX4_shortestFrom 43 = .ok (.iadd, 1) := by decide +kernel
theorem dX4_shortestFrom_44 : decode cX4_shortestFrom 44 = .ok (.iload_n 2, 1) := by decide +kernel
theorem dX4_shortestFrom_45 : decode cX4_shortestFrom 45 = .ok (.iconst 1, 1) := by decide +kernel
theorem dX4_shortestFrom_46 : decode cX4_shortestFrom 46 = .ok (.iadd, 1) := by decide +kernel
theorem dX4_shortestFrom_47 : decode cX4_shortestFrom 47 = .ok (.invokevirtual 60, 3) := by decide +kernel
theorem dX4_shortestFrom_50 : decode cX4_shortestFrom 50 = .ok (.iadd, 1) := by decide +kernel
theorem dX4_shortestFrom_51 : decode cX4_shortestFrom 51 = .ok (.ireturn, 1) := by decide +kernel
theorem dX4_shortestFrom_52 : decode cX4_shortestFrom 52 = .ok (.iconst 1, 1) := by decide +kernel
theorem dX4_shortestFrom_53 : decode cX4_shortestFrom 53 = .ok (.aload_n 0, 1) := by decide +kernel
theorem dX4_shortestFrom_54 : decode cX4_shortestFrom 54 = .ok (.iload_n 1, 1) := by decide +kernel
theorem dX4_shortestFrom_55 : decode cX4_shortestFrom 55 = .ok (.iconst 1, 1) := by decide +kernel
theorem dX4_shortestFrom_56 : decode cX4_shortestFrom 56 = .ok (.iadd, 1) := by decide +kernel
theorem dX4_shortestFrom_57 : decode cX4_shortestFrom 57 = .ok (.iload_n 2, 1) := by decide +kernel
theorem dX4_shortestFrom_58 : decode cX4_shortestFrom 58 = .ok (.invokevirtual 60, 3) := by decide +kernel
theorem dX4_shortestFrom_61 : decode cX4_shortestFrom 61 = .ok (.aload_n 0, 1) := by decide +kernel
theorem dX4_shortestFrom_62 : decode cX4_shortestFrom 62 = .ok (.iload_n 1, 1) := by decide +kernel
theorem dX4_shortestFrom_63 : decode cX4_shortestFrom 63 = .ok (.iload_n 2, 1) := by decide +kernel
theorem dX4_shortestFrom_64 : decode cX4_shortestFrom 64 = .ok (.iconst 1, 1) := by decide +kernel
theorem dX4_shortestFrom_65 : decode cX4_shortestFrom 65 = .ok (.iadd, 1) := by decide +kernel
theorem dX4_shortestFrom_66 : decode cX4_shortestFrom 66 = .ok (.invokevirtual 60, 3) := by decide +kernel
theorem dX4_shortestFrom_69 : decode cX4_shortestFrom 69 = .ok (.invokestatic 63, 3) := by decide +kernel
theorem dX4_shortestFrom_72 : decode cX4_shortestFrom 72 = .ok (.iadd, 1) := by decide +kernel
theorem dX4_shortestFrom_73 : decode cX4_shortestFrom 73 = .ok (.ireturn, 1) := by decide +kernel
theorem dX4_fillRow_0 : decode cX4_fillRow 0 = .ok (.iconst 0, 1) := by decide +kernel
theorem dX4_fillRow_1 : decode cX4_fillRow 1 = .ok (.istore_n 1, 1) := by decide +kernel
theorem dX4_fillRow_2 : decode cX4_fillRow 2 = .ok (.iconst 0, 1) := by decide +kernel
theorem dX4_fillRow_3 : decode cX4_fillRow 3 = .ok (.istore_n 2, 1) := by decide +kernel
theorem dX4_fillRow_4 : decode cX4_fillRow 4 = .ok (.aload_n 0, 1) := by decide +kernel
theorem dX4_fillRow_5 : decode cX4_fillRow 5 = .ok (.iconst 0, 1) := by decide +kernel
theorem dX4_fillRow_6 : decode cX4_fillRow 6 = .ok (.putfield 68, 3) := by decide +kernel
theorem dX4_fillRow_9 : decode cX4_fillRow 9 = .ok (.aload_n 0, 1) := by decide +kernel
theorem dX4_fillRow_10 : decode cX4_fillRow 10 = .ok (.getfield 68, 3) := by decide +kernel
theorem dX4_fillRow_13 : decode cX4_fillRow 13 = .ok (.aload_n 0, 1) := by decide +kernel
theorem dX4_fillRow_14 : decode cX4_fillRow 14 = .ok (.getfield 21, 3) := by decide +kernel
theorem dX4_fillRow_17 : decode cX4_fillRow 17 = .ok (.arraylength, 1) := by decide +kernel
theorem dX4_fillRow_18 : decode cX4_fillRow 18 = .ok (.if_icmp .ge 138, 3) := by decide +kernel
theorem dX4_fillRow_21 : decode cX4_fillRow 21 = .ok (.iload_n 1, 1) := by decide +kernel
theorem dX4_fillRow_22 : decode cX4_fillRow 22 = .ok (.aload_n 0, 1) := by decide +kernel
theorem dX4_fillRow_23 : decode cX4_fillRow 23 = .ok (.getfield 28, 3) := by decide +kernel
theorem dX4_fillRow_26 : decode cX4_fillRow 26 = .ok (.if_icmp .lt 11, 3) := by decide +kernel
theorem dX4_fillRow_29 : decode cX4_fillRow 29 = .ok (.iload_n 2, 1) := by decide +kernel
theorem dX4_fillRow_30 : decode cX4_fillRow 30 = .ok (.aload_n 0, 1) := by decide +kernel
theorem dX4_fillRow_31 : decode cX4_fillRow 31 = .ok (.getfield 32, 3) := by decide +kernel
theorem dX4_fillRow_34 : decode cX4_fillRow 34 = .ok (.if_icmp .ge 122, 3) := by decide +kernel
theorem dX4_fillRow_37 : decode cX4_fillRow 37 = .ok (.aload_n 0, 1) := by decide +kernel
theorem dX4_fillRow_38 : decode cX4_fillRow 38 = .ok (.iload_n 1, 1) := by decide +kernel
theorem dX4_fillRow_39 : decode cX4_fillRow 39 = .ok (.iload_n 2, 1) := by decide +kernel
theorem dX4_fillRow_40 : decode cX4_fillRow 40 = .ok (.invokevirtual 56, 3) := by decide +kernel
theorem dX4_fillRow_43 : decode cX4_fillRow 43 = .ok (.istore_n 3, 1) := by decide +kernel
theorem dX4_fillRow_44 : decode cX4_fillRow 44 = .ok (.iload_n 3, 1) := by decide +kernel
theorem dX4_fillRow_45 : decode cX4_fillRow 45 = .ok (.ifCond .ne 12, 3) := by decide +kernel
theorem dX4_fillRow_48 : decode cX4_fillRow 48 = .ok (.aload_n 0, 1) := by decide +kernel
theorem dX4_fillRow_49 : decode cX4_fillRow 49 = .ok (.iload_n 1, 1) := by decide +kernel
theorem dX4_fillRow_50 : decode cX4_fillRow 50 = .ok (.iload_n 2, 1) := by decide +kernel
theorem dX4_fillRow_51 : decode cX4_fillRow 51 = .ok (.invokevirtual 71, 3) := by decide +kernel
theorem dX4_fillRow_54 : decode cX4_fillRow 54 = .ok (.ifCond .eq 7, 3) := by decide +kernel
theorem dX4_fillRow_57 : decode cX4_fillRow 57 = .ok (.iconst 1, 1) := by decide +kernel
theorem dX4_fillRow_58 : decode cX4_fillRow 58 = .ok (.goto 4, 3) := by decide +kernel
theorem dX4_fillRow_61 : decode cX4_fillRow 61 = .ok (.iconst 0, 1) := by decide +kernel
theorem dX4_fillRow_62 : decode cX4_fillRow 62 = .ok (.istore 4, 2) := by decide +kernel
theorem dX4_fillRow_64 : decode cX4_fillRow 64 = .ok (.aload_n 0, 1) := by decide +kernel
theorem dX4_fillRow_65 : decode cX4_fillRow 65 = .ok (.getfield 21, 3) := by decide +kernel
theorem dX4_fillRow_68 : decode cX4_fillRow 68 = .ok (.aload_n 0, 1) := by decide +kernel
theorem dX4_fillRow_69 : decode cX4_fillRow 69 = .ok (.getfield 68, 3) := by decide +kernel
theorem dX4_fillRow_72 : decode cX4_fillRow 72 = .ok (.iload 4, 2) := by decide +kernel
theorem dX4_fillRow_74 : decode cX4_fillRow 74 = .ok (.ifCond .eq 20, 3) := by decide +kernel
theorem dX4_fillRow_77 : decode cX4_fillRow 77 = .ok (.iload_n 1, 1) := by decide +kernel
theorem dX4_fillRow_78 : decode cX4_fillRow 78 = .ok (.aload_n 0, 1) := by decide +kernel
theorem dX4_fillRow_79 : decode cX4_fillRow 79 = .ok (.getfield 28, 3) := by decide +kernel
theorem dX4_fillRow_82 : decode cX4_fillRow 82 = .ok (.if_icmp .ge 12, 3) := by decide +kernel
theorem dX4_fillRow_85 : decode cX4_fillRow 85 = .ok (.aload_n 0, 1) := by decide +kernel
theorem dX4_fillRow_86 : decode cX4_fillRow 86 = .ok (.getfield 11, 3) := by decide +kernel
theorem dX4_fillRow_89 : decode cX4_fillRow 89 = .ok (.iload_n 1, 1) := by decide +kernel
theorem dX4_fillRow_90 : decode cX4_fillRow 90 = .ok (.iaload, 1) := by decide +kernel
theorem dX4_fillRow_91 : decode cX4_fillRow 91 = .ok (.goto 21, 3) := by decide +kernel
theorem dX4_fillRow_94 : decode cX4_fillRow 94 = .ok (.iload_n 2, 1) := by decide +kernel
theorem dX4_fillRow_95 : decode cX4_fillRow 95 = .ok (.aload_n 0, 1) := by decide +kernel
theorem dX4_fillRow_96 : decode cX4_fillRow 96 = .ok (.getfield 32, 3) := by decide +kernel
theorem dX4_fillRow_99 : decode cX4_fillRow 99 = .ok (.if_icmp .ge 12, 3) := by decide +kernel
theorem dX4_fillRow_102 : decode cX4_fillRow 102 = .ok (.aload_n 0, 1) := by decide +kernel
theorem dX4_fillRow_103 : decode cX4_fillRow 103 = .ok (.getfield 15, 3) := by decide +kernel
theorem dX4_fillRow_106 : decode cX4_fillRow 106 = .ok (.iload_n 2, 1) := by decide +kernel
theorem dX4_fillRow_107 : decode cX4_fillRow 107 = .ok (.iaload, 1) := by decide +kernel
theorem dX4_fillRow_108 : decode cX4_fillRow 108 = .ok (.goto 4, 3) := by decide +kernel
theorem dX4_fillRow_111 : decode cX4_fillRow 111 = .ok (.iconst (-1), 1) := by decide +kernel
theorem dX4_fillRow_112 : decode cX4_fillRow 112 = .ok (.iastore, 1) := by decide +kernel
theorem dX4_fillRow_113 : decode cX4_fillRow 113 = .ok (.aload_n 0, 1) := by decide +kernel
theorem dX4_fillRow_114 : decode cX4_fillRow 114 = .ok (.dup, 1) := by decide +kernel
theorem dX4_fillRow_115 : decode cX4_fillRow 115 = .ok (.getfield 68, 3) := by decide +kernel
theorem dX4_fillRow_118 : decode cX4_fillRow 118 = .ok (.iconst 1, 1) := by decide +kernel
theorem dX4_fillRow_119 : decode cX4_fillRow 119 = .ok (.iadd, 1) := by decide +kernel
theorem dX4_fillRow_120 : decode cX4_fillRow 120 = .ok (.putfield 68, 3) := by decide +kernel
theorem dX4_fillRow_123 : decode cX4_fillRow 123 = .ok (.iload_n 1, 1) := by decide +kernel
theorem dX4_fillRow_124 : decode cX4_fillRow 124 = .ok (.iload 4, 2) := by decide +kernel
theorem dX4_fillRow_126 : decode cX4_fillRow 126 = .ok (.ifCond .eq 7, 3) := by decide +kernel
theorem dX4_fillRow_129 : decode cX4_fillRow 129 = .ok (.iconst 1, 1) := by decide +kernel
theorem dX4_fillRow_130 : decode cX4_fillRow 130 = .ok (.goto 4, 3) := by decide +kernel
theorem dX4_fillRow_133 : decode cX4_fillRow 133 = .ok (.iconst 0, 1) := by decide +kernel
theorem dX4_fillRow_134 : decode cX4_fillRow 134 = .ok (.iadd, 1) := by decide +kernel
theorem dX4_fillRow_135 : decode cX4_fillRow 135 = .ok (.istore_n 1, 1) := by decide +kernel
theorem dX4_fillRow_136 : decode cX4_fillRow 136 = .ok (.iload_n 2, 1) := by decide +kernel
theorem dX4_fillRow_137 : decode cX4_fillRow 137 = .ok (.iload_n 3, 1) := by decide +kernel
theorem dX4_fillRow_138 : decode cX4_fillRow 138 = .ok (.ifCond .ne 8, 3) := by decide +kernel
theorem dX4_fillRow_141 : decode cX4_fillRow 141 = .ok (.iload 4, 2) := by decide +kernel
theorem dX4_fillRow_143 : decode cX4_fillRow 143 = .ok (.ifCond .ne 7, 3) := by decide +kernel
theorem dX4_fillRow_146 : decode cX4_fillRow 146 = .ok (.iconst 1, 1) := by decide +kernel
theorem dX4_fillRow_147 : decode cX4_fillRow 147 = .ok (.goto 4, 3) := by decide +kernel
theorem dX4_fillRow_150 : decode cX4_fillRow 150 = .ok (.iconst 0, 1) := by decide +kernel
theorem dX4_fillRow_151 : decode cX4_fillRow 151 = .ok (.iadd, 1) := by decide +kernel
theorem dX4_fillRow_152 : decode cX4_fillRow 152 = .ok (.istore_n 2, 1) := by decide +kernel
theorem dX4_fillRow_153 : decode cX4_fillRow 153 = .ok (.goto (-144), 3) := by decide +kernel
theorem dX4_fillRow_156 : decode cX4_fillRow 156 = .ok (.return_, 1) := by decide +kernel
theorem dX4_takesOne_0 : decode cX4_takesOne 0 = .ok (.iload_n 1, 1) := by decide +kernel
theorem dX4_takesOne_1 : decode cX4_takesOne 1 = .ok (.aload_n 0, 1) := by decide +kernel
theorem dX4_takesOne_2 : decode cX4_takesOne 2 = .ok (.getfield 28, 3) := by decide +kernel
theorem dX4_takesOne_5 : decode cX4_takesOne 5 = .ok (.if_icmp .ge 11, 3) := by decide +kernel
theorem dX4_takesOne_8 : decode cX4_takesOne 8 = .ok (.iload_n 2, 1) := by decide +kernel
theorem dX4_takesOne_9 : decode cX4_takesOne 9 = .ok (.aload_n 0, 1) := by decide +kernel
theorem dX4_takesOne_10 : decode cX4_takesOne 10 = .ok (.getfield 32, 3) := by decide +kernel
theorem dX4_takesOne_13 : decode cX4_takesOne 13 = .ok (.if_icmp .lt 17, 3) := by decide +kernel
theorem dX4_takesOne_16 : decode cX4_takesOne 16 = .ok (.iload_n 1, 1) := by decide +kernel
theorem dX4_takesOne_17 : decode cX4_takesOne 17 = .ok (.aload_n 0, 1) := by decide +kernel
theorem dX4_takesOne_18 : decode cX4_takesOne 18 = .ok (.getfield 28, 3) := by decide +kernel
theorem dX4_takesOne_21 : decode cX4_takesOne 21 = .ok (.if_icmp .ge 7, 3) := by decide +kernel
theorem dX4_takesOne_24 : decode cX4_takesOne 24 = .ok (.iconst 1, 1) := by decide +kernel
theorem dX4_takesOne_25 : decode cX4_takesOne 25 = .ok (.goto 4, 3) := by decide +kernel
theorem dX4_takesOne_28 : decode cX4_takesOne 28 = .ok (.iconst 0, 1) := by decide +kernel
theorem dX4_takesOne_29 : decode cX4_takesOne 29 = .ok (.ireturn, 1) := by decide +kernel
theorem dX4_takesOne_30 : decode cX4_takesOne 30 = .ok (.aload_n 0, 1) := by decide +kernel
theorem dX4_takesOne_31 : decode cX4_takesOne 31 = .ok (.iload_n 1, 1) := by decide +kernel
theorem dX4_takesOne_32 : decode cX4_takesOne 32 = .ok (.iconst 1, 1) := by decide +kernel
theorem dX4_takesOne_33 : decode cX4_takesOne 33 = .ok (.iadd, 1) := by decide +kernel
theorem dX4_takesOne_34 : decode cX4_takesOne 34 = .ok (.iload_n 2, 1) := by decide +kernel
theorem dX4_takesOne_35 : decode cX4_takesOne 35 = .ok (.invokevirtual 60, 3) := by decide +kernel
theorem dX4_takesOne_38 : decode cX4_takesOne 38 = .ok (.istore_n 3, 1) := by decide +kernel
theorem dX4_takesOne_39 : decode cX4_takesOne 39 = .ok (.aload_n 0, 1) := by decide +kernel
theorem dX4_takesOne_40 : decode cX4_takesOne 40 = .ok (.iload_n 1, 1) := by decide +kernel
theorem dX4_takesOne_41 : decode cX4_takesOne 41 = .ok (.iload_n 2, 1) := by decide +kernel
theorem dX4_takesOne_42 : decode cX4_takesOne 42 = .ok (.iconst 1, 1) := by decide +kernel
theorem dX4_takesOne_43 : decode cX4_takesOne 43 = .ok (.iadd, 1) := by decide +kernel
theorem dX4_takesOne_44 : decode cX4_takesOne 44 = .ok (.invokevirtual 60, 3) := by decide +kernel
theorem dX4_takesOne_47 : decode cX4_takesOne 47 = .ok (.istore 4, 2) := by decide +kernel
theorem dX4_takesOne_49 : decode cX4_takesOne 49 = .ok (.iload_n 3, 1) := by decide +kernel
theorem dX4_takesOne_50 : decode cX4_takesOne 50 = .ok (.iload 4, 2) := by decide +kernel
theorem dX4_takesOne_52 : decode cX4_takesOne 52 = .ok (.if_icmp .lt 24, 3) := by decide +kernel
theorem dX4_takesOne_55 : decode cX4_takesOne 55 = .ok (.iload_n 3, 1) := by decide +kernel
theorem dX4_takesOne_56 : decode cX4_takesOne 56 = .ok (.iload 4, 2) := by decide +kernel
theorem dX4_takesOne_58 : decode cX4_takesOne 58 = .ok (.if_icmp .ne 22, 3) := by decide +kernel
theorem dX4_takesOne_61 : decode cX4_takesOne 61 = .ok (.aload_n 0, 1) := by decide +kernel
theorem dX4_takesOne_62 : decode cX4_takesOne 62 = .ok (.getfield 11, 3) := by decide +kernel
theorem dX4_takesOne_65 : decode cX4_takesOne 65 = .ok (.iload_n 1, 1) := by decide +kernel
theorem dX4_takesOne_66 : decode cX4_takesOne 66 = .ok (.iaload, 1) := by decide +kernel
theorem dX4_takesOne_67 : decode cX4_takesOne 67 = .ok (.aload_n 0, 1) := by decide +kernel
theorem dX4_takesOne_68 : decode cX4_takesOne 68 = .ok (.getfield 15, 3) := by decide +kernel
theorem dX4_takesOne_71 : decode cX4_takesOne 71 = .ok (.iload_n 2, 1) := by decide +kernel
theorem dX4_takesOne_72 : decode cX4_takesOne 72 = .ok (.iaload, 1) := by decide +kernel
theorem dX4_takesOne_73 : decode cX4_takesOne 73 = .ok (.if_icmp .ge 7, 3) := by decide +kernel
theorem dX4_takesOne_76 : decode cX4_takesOne 76 = .ok (.iconst 1, 1) := by decide +kernel
theorem dX4_takesOne_77 : decode cX4_takesOne 77 = .ok (.goto 4, 3) := by decide +kernel
theorem dX4_takesOne_80 : decode cX4_takesOne 80 = .ok (.iconst 0, 1) := by decide +kernel
theorem dX4_takesOne_81 : decode cX4_takesOne 81 = .ok (.ireturn, 1) := by decide +kernel
theorem dX4_common_0 : decode cX4_common 0 = .ok (.aload_n 0, 1) := by decide +kernel
theorem dX4_common_1 : decode cX4_common 1 = .ok (.getfield 28, 3) := by decide +kernel
theorem dX4_common_4 : decode cX4_common 4 = .ok (.aload_n 0, 1) := by decide +kernel
theorem dX4_common_5 : decode cX4_common 5 = .ok (.getfield 32, 3) := by decide +kernel
theorem dX4_common_8 : decode cX4_common 8 = .ok (.iadd, 1) := by decide +kernel
theorem dX4_common_9 : decode cX4_common 9 = .ok (.aload_n 0, 1) := by decide +kernel
theorem dX4_common_10 : decode cX4_common 10 = .ok (.getfield 68, 3) := by decide +kernel
theorem dX4_common_13 : decode cX4_common 13 = .ok (.isub, 1) := by decide +kernel
theorem dX4_common_14 : decode cX4_common 14 = .ok (.ireturn, 1) := by decide +kernel
theorem dX4_person_0 : decode cX4_person 0 = .ok (.iload_n 1, 1) := by decide +kernel
theorem dX4_person_1 : decode cX4_person 1 = .ok (.ifCond .lt 29, 3) := by decide +kernel
theorem dX4_person_4 : decode cX4_person 4 = .ok (.iload_n 1, 1) := by decide +kernel
theorem dX4_person_5 : decode cX4_person 5 = .ok (.aload_n 0, 1) := by decide +kernel
theorem dX4_person_6 : decode cX4_person 6 = .ok (.getfield 68, 3) := by decide +kernel
theorem dX4_person_9 : decode cX4_person 9 = .ok (.if_icmp .ge 21, 3) := by decide +kernel
theorem dX4_person_12 : decode cX4_person 12 = .ok (.iload_n 1, 1) := by decide +kernel
theorem dX4_person_13 : decode cX4_person 13 = .ok (.aload_n 0, 1) := by decide +kernel
theorem dX4_person_14 : decode cX4_person 14 = .ok (.getfield 21, 3) := by decide +kernel
theorem dX4_person_17 : decode cX4_person 17 = .ok (.arraylength, 1) := by decide +kernel
theorem dX4_person_18 : decode cX4_person 18 = .ok (.if_icmp .ge 12, 3) := by decide +kernel
theorem dX4_person_21 : decode cX4_person 21 = .ok (.aload_n 0, 1) := by decide +kernel
theorem dX4_person_22 : decode cX4_person 22 = .ok (.getfield 21, 3) := by decide +kernel
theorem dX4_person_25 : decode cX4_person 25 = .ok (.iload_n 1, 1) := by decide +kernel
theorem dX4_person_26 : decode cX4_person 26 = .ok (.iaload, 1) := by decide +kernel
theorem dX4_person_27 : decode cX4_person 27 = .ok (.goto 4, 3) := by decide +kernel
theorem dX4_person_30 : decode cX4_person 30 = .ok (.iconst (-1), 1) := by decide +kernel
theorem dX4_person_31 : decode cX4_person 31 = .ok (.ireturn, 1) := by decide +kernel
theorem dX4_firstUnlike_0 : decode cX4_firstUnlike 0 = .ok (.aload_n 1, 1) := by decide +kernel
theorem dX4_firstUnlike_1 : decode cX4_firstUnlike 1 = .ok (.iconst 0, 1) := by decide +kernel
theorem dX4_firstUnlike_2 : decode cX4_firstUnlike 2 = .ok (.invokevirtual 42, 3) := by decide +kernel
theorem dX4_firstUnlike_5 : decode cX4_firstUnlike 5 = .ok (.ifCond .eq 7, 3) := by decide +kernel
theorem dX4_firstUnlike_8 : decode cX4_firstUnlike 8 = .ok (.iconst 0, 1) := by decide +kernel
theorem dX4_firstUnlike_9 : decode cX4_firstUnlike 9 = .ok (.goto 4, 3) := by decide +kernel
theorem dX4_firstUnlike_12 : decode cX4_firstUnlike 12 = .ok (.iconst (-1), 1) := by decide +kernel
theorem dX4_firstUnlike_13 : decode cX4_firstUnlike 13 = .ok (.istore_n 3, 1) := by decide +kernel
theorem dX4_firstUnlike_14 : decode cX4_firstUnlike 14 = .ok (.aload_n 2, 1) := by decide +kernel
theorem dX4_firstUnlike_15 : decode cX4_firstUnlike 15 = .ok (.iconst 0, 1) := by decide +kernel
theorem dX4_firstUnlike_16 : decode cX4_firstUnlike 16 = .ok (.invokevirtual 42, 3) := by decide +kernel
theorem dX4_firstUnlike_19 : decode cX4_firstUnlike 19 = .ok (.ifCond .eq 7, 3) := by decide +kernel
theorem dX4_firstUnlike_22 : decode cX4_firstUnlike 22 = .ok (.iconst 0, 1) := by decide +kernel
theorem dX4_firstUnlike_23 : decode cX4_firstUnlike 23 = .ok (.goto 4, 3) := by decide +kernel
theorem dX4_firstUnlike_26 : decode cX4_firstUnlike 26 = .ok (.iconst (-1), 1) := by decide +kernel
theorem dX4_firstUnlike_27 : decode cX4_firstUnlike 27 = .ok (.istore 4, 2) := by decide +kernel
theorem dX4_firstUnlike_29 : decode cX4_firstUnlike 29 = .ok (.iconst 0, 1) := by decide +kernel
theorem dX4_firstUnlike_30 : decode cX4_firstUnlike 30 = .ok (.istore 5, 2) := by decide +kernel
theorem dX4_firstUnlike_32 : decode cX4_firstUnlike 32 = .ok (.iload 5, 2) := by decide +kernel
theorem dX4_firstUnlike_34 : decode cX4_firstUnlike 34 = .ok (.bipush 20, 2) := by decide +kernel
theorem dX4_firstUnlike_36 : decode cX4_firstUnlike 36 = .ok (.if_icmp .ge 40, 3) := by decide +kernel
theorem dX4_firstUnlike_39 : decode cX4_firstUnlike 39 = .ok (.aload_n 1, 1) := by decide +kernel
theorem dX4_firstUnlike_40 : decode cX4_firstUnlike 40 = .ok (.iload_n 3, 1) := by decide +kernel
theorem dX4_firstUnlike_41 : decode cX4_firstUnlike 41 = .ok (.invokevirtual 48, 3) := by decide +kernel
theorem dX4_firstUnlike_44 : decode cX4_firstUnlike 44 = .ok (.aload_n 2, 1) := by decide +kernel
theorem dX4_firstUnlike_45 : decode cX4_firstUnlike 45 = .ok (.iload 4, 2) := by decide +kernel
theorem dX4_firstUnlike_47 : decode cX4_firstUnlike 47 = .ok (.invokevirtual 48, 3) := by decide +kernel
theorem dX4_firstUnlike_50 : decode cX4_firstUnlike 50 = .ok (.if_icmp .eq 6, 3) := by decide +kernel
theorem dX4_firstUnlike_53 : decode cX4_firstUnlike 53 = .ok (.iload 5, 2) := by decide +kernel
theorem dX4_firstUnlike_55 : decode cX4_firstUnlike 55 = .ok (.ireturn, 1) := by decide +kernel
theorem dX4_firstUnlike_56 : decode cX4_firstUnlike 56 = .ok (.aload_n 1, 1) := by decide +kernel
theorem dX4_firstUnlike_57 : decode cX4_firstUnlike 57 = .ok (.iload_n 3, 1) := by decide +kernel
theorem dX4_firstUnlike_58 : decode cX4_firstUnlike 58 = .ok (.invokevirtual 52, 3) := by decide +kernel
theorem dX4_firstUnlike_61 : decode cX4_firstUnlike 61 = .ok (.istore_n 3, 1) := by decide +kernel
theorem dX4_firstUnlike_62 : decode cX4_firstUnlike 62 = .ok (.aload_n 2, 1) := by decide +kernel
theorem dX4_firstUnlike_63 : decode cX4_firstUnlike 63 = .ok (.iload 4, 2) := by decide +kernel
theorem dX4_firstUnlike_65 : decode cX4_firstUnlike 65 = .ok (.invokevirtual 52, 3) := by decide +kernel
theorem dX4_firstUnlike_68 : decode cX4_firstUnlike 68 = .ok (.istore 4, 2) := by decide +kernel
theorem dX4_firstUnlike_70 : decode cX4_firstUnlike 70 = .ok (.iinc 5 1, 3) := by decide +kernel
theorem dX4_firstUnlike_73 : decode cX4_firstUnlike 73 = .ok (.goto (-41), 3) := by decide +kernel
theorem dX4_firstUnlike_76 : decode cX4_firstUnlike 76 = .ok (.iconst (-1), 1) := by decide +kernel
theorem dX4_firstUnlike_77 : decode cX4_firstUnlike 77 = .ok (.ireturn, 1) := by decide +kernel
theorem dX5_init_0 : decode cX5_init 0 = .ok (.aload_n 0, 1) := by decide +kernel
theorem dX5_init_1 : decode cX5_init 1 = .ok (.invokespecial 3, 3) := by decide +kernel
theorem dX5_init_4 : decode cX5_init 4 = .ok (.aload_n 0, 1) := by decide +kernel
theorem dX5_init_5 : decode cX5_init 5 = .ok (.bipush 20, 2) := by decide +kernel
theorem dX5_init_7 : decode cX5_init 7 = .ok (.newarray .long, 2) := by decide +kernel
theorem dX5_init_9 : decode cX5_init 9 = .ok (.putfield 11, 3) := by decide +kernel
theorem dX5_init_12 : decode cX5_init 12 = .ok (.aload_n 0, 1) := by decide +kernel
theorem dX5_init_13 : decode cX5_init 13 = .ok (.bipush 20, 2) := by decide +kernel
theorem dX5_init_15 : decode cX5_init 15 = .ok (.newarray .long, 2) := by decide +kernel
theorem dX5_init_17 : decode cX5_init 17 = .ok (.putfield 17, 3) := by decide +kernel
theorem dX5_init_20 : decode cX5_init 20 = .ok (.aload_n 0, 1) := by decide +kernel
theorem dX5_init_21 : decode cX5_init 21 = .ok (.lconst 1, 1) := by decide +kernel
theorem dX5_init_22 : decode cX5_init 22 = .ok (.putfield 20, 3) := by decide +kernel
theorem dX5_init_25 : decode cX5_init 25 = .ok (.return_, 1) := by decide +kernel
theorem dX5_gather_0 : decode cX5_gather 0 = .ok (.iconst 0, 1) := by decide +kernel
theorem dX5_gather_1 : decode cX5_gather 1 = .ok (.istore 5, 2) := by decide +kernel
theorem dX5_gather_3 : decode cX5_gather 3 = .ok (.iload 5, 2) := by decide +kernel
theorem dX5_gather_5 : decode cX5_gather 5 = .ok (.bipush 20, 2) := by decide +kernel
theorem dX5_gather_7 : decode cX5_gather 7 = .ok (.if_icmp .ge 17, 3) := by decide +kernel
theorem dX5_gather_10 : decode cX5_gather 10 = .ok (.aload_n 0, 1) := by decide +kernel
theorem dX5_gather_11 : decode cX5_gather 11 = .ok (.getfield 11, 3) := by decide +kernel
theorem dX5_gather_14 : decode cX5_gather 14 = .ok (.iload 5, 2) := by decide +kernel
theorem dX5_gather_16 : decode cX5_gather 16 = .ok (.lconst 0, 1) := by decide +kernel
theorem dX5_gather_17 : decode cX5_gather 17 = .ok (.lastore, 1) := by decide +kernel
theorem dX5_gather_18 : decode cX5_gather 18 = .ok (.iinc 5 1, 3) := by decide +kernel
theorem dX5_gather_21 : decode cX5_gather 21 = .ok (.goto (-18), 3) := by decide +kernel
theorem dX5_gather_24 : decode cX5_gather 24 = .ok (.aload_n 1, 1) := by decide +kernel
theorem dX5_gather_25 : decode cX5_gather 25 = .ok (.iconst 0, 1) := by decide +kernel
theorem dX5_gather_26 : decode cX5_gather 26 = .ok (.invokevirtual 24, 3) := by decide +kernel
theorem dX5_gather_29 : decode cX5_gather 29 = .ok (.ifCond .eq 20, 3) := by decide +kernel
theorem dX5_gather_32 : decode cX5_gather 32 = .ok (.aload_n 0, 1) := by decide +kernel
theorem dX5_gather_33 : decode cX5_gather 33 = .ok (.getfield 11, 3) := by decide +kernel
theorem dX5_gather_36 : decode cX5_gather 36 = .ok (.iconst 0, 1) := by decide +kernel
theorem dX5_gather_37 : decode cX5_gather 37 = .ok (.bipush 10, 2) := by decide +kernel
theorem dX5_gather_39 : decode cX5_gather 39 = .ok (.aload_n 1, 1) := by decide +kernel
theorem dX5_gather_40 : decode cX5_gather 40 = .ok (.iconst 0, 1) := by decide +kernel
theorem dX5_gather_41 : decode cX5_gather 41 = .ok (.iload 4, 2) := by decide +kernel
theorem dX5_gather_43 : decode cX5_gather 43 = .ok (.invokestatic 28, 3) := by decide +kernel
theorem dX5_gather_46 : decode cX5_gather 46 = .ok (.isub, 1) := by decide +kernel
theorem dX5_gather_47 : decode cX5_gather 47 = .ok (.i2l, 1) := by decide +kernel
theorem dX5_gather_48 : decode cX5_gather 48 = .ok (.lastore, 1) := by decide +kernel
theorem dX5_gather_49 : decode cX5_gather 49 = .ok (.lconst 0, 1) := by decide +kernel
theorem dX5_gather_50 : decode cX5_gather 50 = .ok (.lstore 5, 2) := by decide +kernel
theorem dX5_gather_52 : decode cX5_gather 52 = .ok (.lconst 1, 1) := by decide +kernel
theorem dX5_gather_53 : decode cX5_gather 53 = .ok (.lstore 7, 2) := by decide +kernel
theorem dX5_gather_55 : decode cX5_gather 55 = .ok (.iconst 0, 1) := by decide +kernel
theorem dX5_gather_56 : decode cX5_gather 56 = .ok (.istore 9, 2) := by decide +kernel
theorem dX5_gather_58 : decode cX5_gather 58 = .ok (.iload 9, 2) := by decide +kernel
theorem dX5_gather_60 : decode cX5_gather 60 = .ok (.iload_n 3, 1) := by decide +kernel
theorem dX5_gather_61 : decode cX5_gather 61 = .ok (.if_icmp .ge 52, 3) := by decide +kernel
theorem dX5_gather_64 : decode cX5_gather 64 = .ok (.lload 5, 2) := by decide +kernel
theorem dX5_gather_66 : decode cX5_gather 66 = .ok (.ldc2_w 32, 3) := by decide +kernel
theorem dX5_gather_69 : decode cX5_gather 69 = .ok (.lmul, 1) := by decide +kernel
theorem dX5_gather_70 : decode cX5_gather 70 = .ok (.iload_n 2, 1) := by decide +kernel
theorem dX5_gather_71 : decode cX5_gather 71 = .ok (.iconst (-1), 1) := by decide +kernel
theorem dX5_gather_72 : decode cX5_gather 72 = .ok (.if_icmp .ne 11, 3) := by decide +kernel
theorem dX5_gather_75 : decode cX5_gather 75 = .ok (.aload_n 0, 1) := by decide +kernel
theorem dX5_gather_76 : decode cX5_gather 76 = .ok (.aload_n 1, 1) := by decide +kernel
theorem dX5_gather_77 : decode cX5_gather 77 = .ok (.invokevirtual 34, 3) := by decide +kernel
theorem dX5_gather_80 : decode cX5_gather 80 = .ok (.goto 9, 3) := by decide +kernel
theorem dX5_gather_83 : decode cX5_gather 83 = .ok (.aload_n 0, 1) := by decide +kernel
theorem dX5_gather_84 : decode cX5_gather 84 = .ok (.aload_n 1, 1) := by decide +kernel
theorem dX5_gather_85 : decode cX5_gather 85 = .ok (.iload_n 2, 1) := by decide +kernel
theorem dX5_gather_86 : decode cX5_gather 86 = .ok (.invokevirtual 38, 3) := by decide +kernel
theorem dX5_gather_89 : decode cX5_gather 89 = .ok (.ladd, 1) := by decide +kernel
theorem dX5_gather_90 : decode cX5_gather 90 = .ok (.lstore 5, 2) := by decide +kernel
theorem dX5_gather_92 : decode cX5_gather 92 = .ok (.lload 7, 2) := by decide +kernel
theorem dX5_gather_94 : decode cX5_gather 94 = .ok (.ldc2_w 32, 3) := by decide +kernel
theorem dX5_gather_97 : decode cX5_gather 97 = .ok (.lmul, 1) := by decide +kernel
theorem dX5_gather_98 : decode cX5_gather 98 = .ok (.lstore 7, 2) := by decide +kernel
theorem dX5_gather_100 : decode cX5_gather 100 = .ok (.aload_n 0, 1) := by decide +kernel
theorem dX5_gather_101 : decode cX5_gather 101 = .ok (.aload_n 1, 1) := by decide +kernel
theorem dX5_gather_102 : decode cX5_gather 102 = .ok (.iload 4, 2) := by decide +kernel
theorem dX5_gather_104 : decode cX5_gather 104 = .ok (.invokevirtual 42, 3) := by decide +kernel
theorem dX5_gather_107 : decode cX5_gather 107 = .ok (.iinc 9 1, 3) := by decide +kernel
theorem dX5_gather_110 : decode cX5_gather 110 = .ok (.goto (-52), 3) := by decide +kernel
theorem dX5_gather_113 : decode cX5_gather 113 = .ok (.aload_n 0, 1) := by decide +kernel
theorem dX5_gather_114 : decode cX5_gather 114 = .ok (.lload 5, 2) := by decide +kernel
theorem dX5_gather_116 : decode cX5_gather 116 = .ok (.lload 7, 2) := by decide +kernel
theorem dX5_gather_118 : decode cX5_gather 118 = .ok (.invokevirtual 46, 3) := by decide +kernel
theorem dX5_gather_121 : decode cX5_gather 121 = .ok (.return_, 1) := by decide +kernel
theorem dX5_tenths_0 : decode cX5_tenths 0 = .ok (.iload_n 2, 1) := by decide +kernel
theorem dX5_tenths_1 : decode cX5_tenths 1 = .ok (.ifCond .eq 7, 3) := by decide +kernel
theorem dX5_tenths_4 : decode cX5_tenths 4 = .ok (.iconst 0, 1) := by decide +kernel
theorem dX5_tenths_5 : decode cX5_tenths 5 = .ok (.goto 12, 3) := by decide +kernel
theorem dX5_tenths_8 : decode cX5_tenths 8 = .ok (.aload_n 0, 1) := by decide +kernel
theorem dX5_tenths_9 : decode cX5_tenths 9 = .ok (.aload_n 0, 1) := by decide +kernel
theorem dX5_tenths_10 : decode cX5_tenths 10 = .ok (.iload_n 1, 1) := by decide +kernel
theorem dX5_tenths_11 : decode cX5_tenths 11 = .ok (.invokevirtual 50, 3) := by decide +kernel
theorem dX5_tenths_14 : decode cX5_tenths 14 = .ok (.invokevirtual 54, 3) := by decide +kernel
theorem dX5_tenths_17 : decode cX5_tenths 17 = .ok (.ireturn, 1) := by decide +kernel
theorem dX5_takeHarm_0 : decode cX5_takeHarm 0 = .ok (.lconst 0, 1) := by decide +kernel
theorem dX5_takeHarm_1 : decode cX5_takeHarm 1 = .ok (.lstore_n 2, 1) := by decide +kernel
theorem dX5_takeHarm_2 : decode cX5_takeHarm 2 = .ok (.iconst 0, 1) := by decide +kernel
theorem dX5_takeHarm_3 : decode cX5_takeHarm 3 = .ok (.istore 4, 2) := by decide +kernel
theorem dX5_takeHarm_5 : decode cX5_takeHarm 5 = .ok (.iload 4, 2) := by decide +kernel
theorem dX5_takeHarm_7 : decode cX5_takeHarm 7 = .ok (.aload_n 1, 1) := by decide +kernel
theorem dX5_takeHarm_8 : decode cX5_takeHarm 8 = .ok (.getfield 57, 3) := by decide +kernel
theorem dX5_takeHarm_11 : decode cX5_takeHarm 11 = .ok (.if_icmp .ge 34, 3) := by decide +kernel
theorem dX5_takeHarm_14 : decode cX5_takeHarm 14 = .ok (.iload 4, 2) := by decide +kernel
theorem dX5_takeHarm_16 : decode cX5_takeHarm 16 = .ok (.bipush 20, 2) := by decide +kernel
theorem dX5_takeHarm_18 : decode cX5_takeHarm 18 = .ok (.if_icmp .ge 27, 3) := by decide +kernel
theorem dX5_takeHarm_21 : decode cX5_takeHarm 21 = .ok (.lload_n 2, 1) := by decide +kernel
theorem dX5_takeHarm_22 : decode cX5_takeHarm 22 = .ok (.aload_n 0, 1) := by decide +kernel
theorem dX5_takeHarm_23 : decode cX5_takeHarm 23 = .ok (.getfield 11, 3) := by decide +kernel
theorem dX5_takeHarm_26 : decode cX5_takeHarm 26 = .ok (.iload 4, 2) := by decide +kernel
theorem dX5_takeHarm_28 : decode cX5_takeHarm 28 = .ok (.laload, 1) := by decide +kernel
theorem dX5_takeHarm_29 : decode cX5_takeHarm 29 = .ok (.aload_n 1, 1) := by decide +kernel
theorem dX5_takeHarm_30 : decode cX5_takeHarm 30 = .ok (.iload 4, 2) := by decide +kernel
theorem dX5_takeHarm_32 : decode cX5_takeHarm 32 = .ok (.invokevirtual 61, 3) := by decide +kernel
theorem dX5_takeHarm_35 : decode cX5_takeHarm 35 = .ok (.i2l, 1) := by decide +kernel
theorem dX5_takeHarm_36 : decode cX5_takeHarm 36 = .ok (.lmul, 1) := by decide +kernel
theorem dX5_takeHarm_37 : decode cX5_takeHarm 37 = .ok (.ladd, 1) := by decide +kernel
theorem dX5_takeHarm_38 : decode cX5_takeHarm 38 = .ok (.lstore_n 2, 1) := by decide +kernel
theorem dX5_takeHarm_39 : decode cX5_takeHarm 39 = .ok (.iinc 4 1, 3) := by decide +kernel
theorem dX5_takeHarm_42 : decode cX5_takeHarm 42 = .ok (.goto (-37), 3) := by decide +kernel
theorem dX5_takeHarm_45 : decode cX5_takeHarm 45 = .ok (.lload_n 2, 1) := by decide +kernel
theorem dX5_takeHarm_46 : decode cX5_takeHarm 46 = .ok (.lreturn, 1) := by decide +kernel
theorem dX5_takeScene_0 : decode cX5_takeScene 0 = .ok (.lconst 0, 1) := by decide +kernel
theorem dX5_takeScene_1 : decode cX5_takeScene 1 = .ok (.lstore_n 3, 1) := by decide +kernel
theorem dX5_takeScene_2 : decode cX5_takeScene 2 = .ok (.iconst 0, 1) := by decide +kernel
theorem dX5_takeScene_3 : decode cX5_takeScene 3 = .ok (.istore 5, 2) := by decide +kernel
theorem dX5_takeScene_5 : decode cX5_takeScene 5 = .ok (.iload 5, 2) := by decide +kernel
theorem dX5_takeScene_7 : decode cX5_takeScene 7 = .ok (.aload_n 1, 1) := by decide +kernel
theorem dX5_takeScene_8 : decode cX5_takeScene 8 = .ok (.getfield 57, 3) := by decide +kernel
theorem dX5_takeScene_11 : decode cX5_takeScene 11 = .ok (.if_icmp .ge 44, 3) := by decide +kernel
theorem dX5_takeScene_14 : decode cX5_takeScene 14 = .ok (.iload 5, 2) := by decide +kernel
theorem dX5_takeScene_16 : decode cX5_takeScene 16 = .ok (.bipush 20, 2) := by decide +kernel
theorem dX5_takeScene_18 : decode cX5_takeScene 18 = .ok (.if_icmp .ge 37, 3) := by decide +kernel
theorem dX5_takeScene_21 : decode cX5_takeScene 21 = .ok (.aload_n 1, 1) := by decide +kernel
theorem dX5_takeScene_22 : decode cX5_takeScene 22 = .ok (.iload 5, 2) := by decide +kernel
theorem dX5_takeScene_24 : decode cX5_takeScene 24 = .ok (.invokevirtual 64, 3) := by decide +kernel
theorem dX5_takeScene_27 : decode cX5_takeScene 27 = .ok (.iload_n 2, 1) := by decide +kernel
theorem dX5_takeScene_28 : decode cX5_takeScene 28 = .ok (.if_icmp .ne 21, 3) := by decide +kernel
theorem dX5_takeScene_31 : decode cX5_takeScene 31 = .ok (.lload_n 3, 1) := by decide +kernel
theorem dX5_takeScene_32 : decode cX5_takeScene 32 = .ok (.aload_n 0, 1) := by decide +kernel
theorem dX5_takeScene_33 : decode cX5_takeScene 33 = .ok (.getfield 11, 3) := by decide +kernel
theorem dX5_takeScene_36 : decode cX5_takeScene 36 = .ok (.iload 5, 2) := by decide +kernel
theorem dX5_takeScene_38 : decode cX5_takeScene 38 = .ok (.laload, 1) := by decide +kernel
theorem dX5_takeScene_39 : decode cX5_takeScene 39 = .ok (.ladd, 1) := by decide +kernel
theorem dX5_takeScene_40 : decode cX5_takeScene 40 = .ok (.lstore_n 3, 1) := by decide +kernel
theorem dX5_takeScene_41 : decode cX5_takeScene 41 = .ok (.aload_n 0, 1) := by decide +kernel
theorem dX5_takeScene_42 : decode cX5_takeScene 42 = .ok (.getfield 11, 3) := by decide +kernel
theorem dX5_takeScene_45 : decode cX5_takeScene 45 = .ok (.iload 5, 2) := by decide +kernel
theorem dX5_takeScene_47 : decode cX5_takeScene 47 = .ok (.lconst 0, 1) := by decide +kernel
theorem dX5_takeScene_48 : decode cX5_takeScene 48 = .ok (.lastore, 1) := by decide +kernel
theorem dX5_takeScene_49 : decode cX5_takeScene 49 = .ok (.iinc 5 1, 3) := by decide +kernel
theorem dX5_takeScene_52 : decode cX5_takeScene 52 = .ok (.goto (-47), 3) := by decide +kernel
theorem dX5_takeScene_55 : decode cX5_takeScene 55 = .ok (.lload_n 3, 1) := by decide +kernel
theorem dX5_takeScene_56 : decode cX5_takeScene 56 = .ok (.lreturn, 1) := by decide +kernel
theorem dX5_step_0 : decode cX5_step 0 = .ok (.iconst 0, 1) := by decide +kernel
theorem dX5_step_1 : decode cX5_step 1 = .ok (.istore_n 3, 1) := by decide +kernel
theorem dX5_step_2 : decode cX5_step 2 = .ok (.iload_n 3, 1) := by decide +kernel
theorem dX5_step_3 : decode cX5_step 3 = .ok (.bipush 20, 2) := by decide +kernel
theorem dX5_step_5 : decode cX5_step 5 = .ok (.if_icmp .ge 16, 3) := by decide +kernel
theorem dX5_step_8 : decode cX5_step 8 = .ok (.aload_n 0, 1) := by decide +kernel
theorem dX5_step_9 : decode cX5_step 9 = .ok (.getfield 17, 3) := by decide +kernel
theorem dX5_step_12 : decode cX5_step 12 = .ok (.iload_n 3, 1) := by decide +kernel
theorem dX5_step_13 : decode cX5_step 13 = .ok (.lconst 0, 1) := by decide +kernel
theorem dX5_step_14 : decode cX5_step 14 = .ok (.lastore, 1) := by decide +kernel
theorem dX5_step_15 : decode cX5_step 15 = .ok (.iinc 3 1, 3) := by decide +kernel
theorem dX5_step_18 : decode cX5_step 18 = .ok (.goto (-16), 3) := by decide +kernel
theorem dX5_step_21 : decode cX5_step 21 = .ok (.iconst 0, 1) := by decide +kernel
theorem dX5_step_22 : decode cX5_step 22 = .ok (.istore_n 3, 1) := by decide +kernel
theorem dX5_step_23 : decode cX5_step 23 = .ok (.iload_n 3, 1) := by decide +kernel
theorem dX5_step_24 : decode cX5_step 24 = .ok (.aload_n 1, 1) := by decide +kernel
theorem dX5_step_25 : decode cX5_step 25 = .ok (.getfield 57, 3) := by decide +kernel
theorem dX5_step_28 : decode cX5_step 28 = .ok (.if_icmp .ge 100, 3) := by decide +kernel
theorem dX5_step_31 : decode cX5_step 31 = .ok (.iload_n 3, 1) := by decide +kernel
theorem dX5_step_32 : decode cX5_step 32 = .ok (.bipush 20, 2) := by decide +kernel
theorem dX5_step_34 : decode cX5_step 34 = .ok (.if_icmp .ge 94, 3) := by decide +kernel
theorem dX5_step_37 : decode cX5_step 37 = .ok (.aload_n 1, 1) := by decide +kernel
theorem dX5_step_38 : decode cX5_step 38 = .ok (.iload_n 3, 1) := by decide +kernel
theorem dX5_step_39 : decode cX5_step 39 = .ok (.invokevirtual 67, 3) := by decide +kernel
theorem dX5_step_42 : decode cX5_step 42 = .ok (.istore 4, 2) := by decide +kernel
theorem dX5_step_44 : decode cX5_step 44 = .ok (.aload_n 1, 1) := by decide +kernel
theorem dX5_step_45 : decode cX5_step 45 = .ok (.iload_n 3, 1) := by decide +kernel
theorem dX5_step_46 : decode cX5_step 46 = .ok (.iconst 1, 1) := by decide +kernel
theorem dX5_step_47 : decode cX5_step 47 = .ok (.invokevirtual 70, 3) := by decide +kernel
theorem dX5_step_50 : decode cX5_step 50 = .ok (.istore 5, 2) := by decide +kernel
theorem dX5_step_52 : decode cX5_step 52 = .ok (.aload_n 1, 1) := by decide +kernel
theorem dX5_step_53 : decode cX5_step 53 = .ok (.iload 4, 2) := by decide +kernel
theorem dX5_step_55 : decode cX5_step 55 = .ok (.iload_n 2, 1) := by decide +kernel
theorem dX5_step_56 : decode cX5_step 56 = .ok (.invokestatic 28, 3) := by decide +kernel
theorem dX5_step_59 : decode cX5_step 59 = .ok (.istore 6, 2) := by decide +kernel
theorem dX5_step_61 : decode cX5_step 61 = .ok (.aload_n 1, 1) := by decide +kernel
theorem dX5_step_62 : decode cX5_step 62 = .ok (.iload 4, 2) := by decide +kernel
theorem dX5_step_64 : decode cX5_step 64 = .ok (.invokevirtual 24, 3) := by decide +kernel
theorem dX5_step_67 : decode cX5_step 67 = .ok (.ifCond .eq 26, 3) := by decide +kernel
theorem dX5_step_70 : decode cX5_step 70 = .ok (.aload_n 0, 1) := by decide +kernel
theorem dX5_step_71 : decode cX5_step 71 = .ok (.getfield 17, 3) := by decide +kernel
theorem dX5_step_74 : decode cX5_step 74 = .ok (.iload 4, 2) := by decide +kernel
theorem dX5_step_76 : decode cX5_step 76 = .ok (.dup2, 1) := by decide +kernel
theorem dX5_step_77 : decode cX5_step 77 = .ok (.laload, 1) := by decide +kernel
theorem dX5_step_78 : decode cX5_step 78 = .ok (.aload_n 0, 1) := by decide +kernel
theorem dX5_step_79 : decode cX5_step 79 = .ok (.getfield 11, 3) := by decide +kernel
theorem dX5_step_82 : decode cX5_step 82 = .ok (.iload_n 3, 1) := by decide +kernel
theorem dX5_step_83 : decode cX5_step 83 = .ok (.laload, 1) := by decide +kernel
theorem dX5_step_84 : decode cX5_step 84 = .ok (.bipush 10, 2) := by decide +kernel
theorem dX5_step_86 : decode cX5_step 86 = .ok (.iload 6, 2) := by decide +kernel
theorem dX5_step_88 : decode cX5_step 88 = .ok (.isub, 1) := by decide +kernel
theorem dX5_step_89 : decode cX5_step 89 = .ok (.i2l, 1) := by decide +kernel
theorem dX5_step_90 : decode cX5_step 90 = .ok (.lmul, 1) := by decide +kernel
theorem dX5_step_91 : decode cX5_step 91 = .ok (.ladd, 1) := by decide +kernel
theorem dX5_step_92 : decode cX5_step 92 = .ok (.lastore, 1) := by decide +kernel
theorem dX5_step_93 : decode cX5_step 93 = .ok (.aload_n 1, 1) := by decide +kernel
theorem dX5_step_94 : decode cX5_step 94 = .ok (.iload 5, 2) := by decide +kernel
theorem dX5_step_96 : decode cX5_step 96 = .ok (.invokevirtual 24, 3) := by decide +kernel
theorem dX5_step_99 : decode cX5_step 99 = .ok (.ifCond .eq 23, 3) := by decide +kernel
theorem dX5_step_102 : decode cX5_step 102 = .ok (.aload_n 0, 1) := by decide +kernel
theorem dX5_step_103 : decode cX5_step 103 = .ok (.getfield 17, 3) := by decide +kernel
theorem dX5_step_106 : decode cX5_step 106 = .ok (.iload 5, 2) := by decide +kernel
theorem dX5_step_108 : decode cX5_step 108 = .ok (.dup2, 1) := by decide +kernel
theorem dX5_step_109 : decode cX5_step 109 = .ok (.laload, 1) := by decide +kernel
theorem dX5_step_110 : decode cX5_step 110 = .ok (.aload_n 0, 1) := by decide +kernel
theorem dX5_step_111 : decode cX5_step 111 = .ok (.getfield 11, 3) := by decide +kernel
theorem dX5_step_114 : decode cX5_step 114 = .ok (.iload_n 3, 1) := by decide +kernel
theorem dX5_step_115 : decode cX5_step 115 = .ok (.laload, 1) := by decide +kernel
theorem dX5_step_116 : decode cX5_step 116 = .ok (.iload 6, 2) := by decide +kernel
theorem dX5_step_118 : decode cX5_step 118 = .ok (.i2l, 1) := by decide +kernel
theorem dX5_step_119 : decode cX5_step 119 = .ok (.lmul, 1) := by decide +kernel
theorem dX5_step_120 : decode cX5_step 120 = .ok (.ladd, 1) := by decide +kernel
theorem dX5_step_121 : decode cX5_step 121 = .ok (.lastore, 1) := by decide +kernel
theorem dX5_step_122 : decode cX5_step 122 = .ok (.iinc 3 1, 3) := by decide +kernel
theorem dX5_step_125 : decode cX5_step 125 = .ok (.goto (-102), 3) := by decide +kernel
theorem dX5_step_128 : decode cX5_step 128 = .ok (.aload_n 0, 1) := by decide +kernel
theorem dX5_step_129 : decode cX5_step 129 = .ok (.getfield 17, 3) := by decide +kernel
theorem dX5_step_132 : decode cX5_step 132 = .ok (.iconst 0, 1) := by decide +kernel
theorem dX5_step_133 : decode cX5_step 133 = .ok (.aload_n 0, 1) := by decide +kernel
theorem dX5_step_134 : decode cX5_step 134 = .ok (.getfield 11, 3) := by decide +kernel
theorem dX5_step_137 : decode cX5_step 137 = .ok (.iconst 0, 1) := by decide +kernel
theorem dX5_step_138 : decode cX5_step 138 = .ok (.bipush 20, 2) := by decide +kernel
theorem dX5_step_140 : decode cX5_step 140 = .ok (.invokestatic 74, 3) := by decide +kernel
theorem dX5_step_143 : decode cX5_step 143 = .ok (.return_, 1) := by decide +kernel
theorem dX5_driesByNext_0 : decode cX5_driesByNext 0 = .ok (.lconst 0, 1) := by decide +kernel
theorem dX5_driesByNext_1 : decode cX5_driesByNext 1 = .ok (.lstore_n 3, 1) := by decide +kernel
theorem dX5_driesByNext_2 : decode cX5_driesByNext 2 = .ok (.aload_n 1, 1) := by decide +kernel
theorem dX5_driesByNext_3 : decode cX5_driesByNext 3 = .ok (.iconst 0, 1) := by decide +kernel
theorem dX5_driesByNext_4 : decode cX5_driesByNext 4 = .ok (.invokevirtual 24, 3) := by decide +kernel
theorem dX5_driesByNext_7 : decode cX5_driesByNext 7 = .ok (.ifCond .eq 7, 3) := by decide +kernel
theorem dX5_driesByNext_10 : decode cX5_driesByNext 10 = .ok (.iconst 0, 1) := by decide +kernel
theorem dX5_driesByNext_11 : decode cX5_driesByNext 11 = .ok (.goto 4, 3) := by decide +kernel
theorem dX5_driesByNext_14 : decode cX5_driesByNext 14 = .ok (.iconst (-1), 1) := by decide +kernel
theorem dX5_driesByNext_15 : decode cX5_driesByNext 15 = .ok (.istore 5, 2) := by decide +kernel
theorem dX5_driesByNext_17 : decode cX5_driesByNext 17 = .ok (.iconst 0, 1) := by decide +kernel
theorem dX5_driesByNext_18 : decode cX5_driesByNext 18 = .ok (.istore 6, 2) := by decide +kernel
theorem dX5_driesByNext_20 : decode cX5_driesByNext 20 = .ok (.iload 6, 2) := by decide +kernel
theorem dX5_driesByNext_22 : decode cX5_driesByNext 22 = .ok (.iload_n 2, 1) := by decide +kernel
theorem dX5_driesByNext_23 : decode cX5_driesByNext 23 = .ok (.if_icmp .ge 37, 3) := by decide +kernel
theorem dX5_driesByNext_26 : decode cX5_driesByNext 26 = .ok (.iload 5, 2) := by decide +kernel
theorem dX5_driesByNext_28 : decode cX5_driesByNext 28 = .ok (.iconst (-1), 1) := by decide +kernel
theorem dX5_driesByNext_29 : decode cX5_driesByNext 29 = .ok (.if_icmp .eq 31, 3) := by decide +kernel
theorem dX5_driesByNext_32 : decode cX5_driesByNext 32 = .ok (.lload_n 3, 1) := by decide +kernel
theorem dX5_driesByNext_33 : decode cX5_driesByNext 33 = .ok (.aload_n 1, 1) := by decide +kernel
theorem dX5_driesByNext_34 : decode cX5_driesByNext 34 = .ok (.aload_n 1, 1) := by decide +kernel
theorem dX5_driesByNext_35 : decode cX5_driesByNext 35 = .ok (.iload 5, 2) := by decide +kernel
theorem dX5_driesByNext_37 : decode cX5_driesByNext 37 = .ok (.invokevirtual 50, 3) := by decide +kernel
theorem dX5_driesByNext_40 : decode cX5_driesByNext 40 = .ok (.invokevirtual 54, 3) := by decide +kernel
theorem dX5_driesByNext_43 : decode cX5_driesByNext 43 = .ok (.i2l, 1) := by decide +kernel
theorem dX5_driesByNext_44 : decode cX5_driesByNext 44 = .ok (.ladd, 1) := by decide +kernel
theorem dX5_driesByNext_45 : decode cX5_driesByNext 45 = .ok (.lstore_n 3, 1) := by decide +kernel
theorem dX5_driesByNext_46 : decode cX5_driesByNext 46 = .ok (.aload_n 1, 1) := by decide +kernel
theorem dX5_driesByNext_47 : decode cX5_driesByNext 47 = .ok (.iload 5, 2) := by decide +kernel
theorem dX5_driesByNext_49 : decode cX5_driesByNext 49 = .ok (.invokevirtual 67, 3) := by decide +kernel
theorem dX5_driesByNext_52 : decode cX5_driesByNext 52 = .ok (.istore 5, 2) := by decide +kernel
theorem dX5_driesByNext_54 : decode cX5_driesByNext 54 = .ok (.iinc 6 1, 3) := by decide +kernel
theorem dX5_driesByNext_57 : decode cX5_driesByNext 57 = .ok (.goto (-37), 3) := by decide +kernel
theorem dX5_driesByNext_60 : decode cX5_driesByNext 60 = .ok (.aload_n 0, 1) := by decide +kernel
theorem dX5_driesByNext_61 : decode cX5_driesByNext 61 = .ok (.lload_n 3, 1) := by decide +kernel
theorem dX5_driesByNext_62 : decode cX5_driesByNext 62 = .ok (.ldc2_w 32, 3) := by decide +kernel
theorem dX5_driesByNext_65 : decode cX5_driesByNext 65 = .ok (.invokevirtual 46, 3) := by decide +kernel
theorem dX5_driesByNext_68 : decode cX5_driesByNext 68 = .ok (.return_, 1) := by decide +kernel
theorem dX5_reduce_0 : decode cX5_reduce 0 = .ok (.lload_n 3, 1) := by decide +kernel
theorem dX5_reduce_1 : decode cX5_reduce 1 = .ok (.lstore 5, 2) := by decide +kernel
theorem dX5_reduce_3 : decode cX5_reduce 3 = .ok (.lload_n 1, 1) := by decide +kernel
theorem dX5_reduce_4 : decode cX5_reduce 4 = .ok (.lstore 7, 2) := by decide +kernel
theorem dX5_reduce_6 : decode cX5_reduce 6 = .ok (.iconst 0, 1) := by decide +kernel
theorem dX5_reduce_7 : decode cX5_reduce 7 = .ok (.istore 9, 2) := by decide +kernel
theorem dX5_reduce_9 : decode cX5_reduce 9 = .ok (.iload 9, 2) := by decide +kernel
theorem dX5_reduce_11 : decode cX5_reduce 11 = .ok (.bipush 100, 2) := by decide +kernel
theorem dX5_reduce_13 : decode cX5_reduce 13 = .ok (.if_icmp .ge 31, 3) := by decide +kernel
theorem dX5_reduce_16 : decode cX5_reduce 16 = .ok (.lload 7, 2) := by decide +kernel
theorem dX5_reduce_18 : decode cX5_reduce 18 = .ok (.lconst 0, 1) := by decide +kernel
theorem dX5_reduce_19 : decode cX5_reduce 19 = .ok (.lcmp, 1) := by decide +kernel
theorem dX5_reduce_20 : decode cX5_reduce 20 = .ok (.ifCond .eq 24, 3) := by decide +kernel
theorem dX5_reduce_23 : decode cX5_reduce 23 = .ok (.lload 5, 2) := by decide +kernel
theorem dX5_reduce_25 : decode cX5_reduce 25 = .ok (.lload 7, 2) := by decide +kernel
theorem dX5_reduce_27 : decode cX5_reduce 27 = .ok (.lrem, 1) := by decide +kernel
theorem dX5_reduce_28 : decode cX5_reduce 28 = .ok (.lstore 10, 2) := by decide +kernel
theorem dX5_reduce_30 : decode cX5_reduce 30 = .ok (.lload 7, 2) := by decide +kernel
theorem dX5_reduce_32 : decode cX5_reduce 32 = .ok (.lstore 5, 2) := by decide +kernel
theorem dX5_reduce_34 : decode cX5_reduce 34 = .ok (.lload 10, 2) := by decide +kernel
theorem dX5_reduce_36 : decode cX5_reduce 36 = .ok (.lstore 7, 2) := by decide +kernel
theorem dX5_reduce_38 : decode cX5_reduce 38 = .ok (.iinc 9 1, 3) := by decide +kernel
theorem dX5_reduce_41 : decode cX5_reduce 41 = .ok (.goto (-32), 3) := by decide +kernel
theorem dX5_reduce_44 : decode cX5_reduce 44 = .ok (.lload 5, 2) := by decide +kernel
theorem dX5_reduce_46 : decode cX5_reduce 46 = .ok (.lconst 0, 1) := by decide +kernel
theorem dX5_reduce_47 : decode cX5_reduce 47 = .ok (.lcmp, 1) := by decide +kernel
theorem dX5_reduce_48 : decode cX5_reduce 48 = .ok (.ifCond .le 19, 3) := by decide +kernel
theorem dX5_reduce_51 : decode cX5_reduce 51 = .ok (.aload_n 0, 1) := by decide +kernel
theorem dX5_reduce_52 : decode cX5_reduce 52 = .ok (.lload_n 1, 1) := by decide +kernel
theorem dX5_reduce_53 : decode cX5_reduce 53 = .ok (.lload 5, 2) := by decide +kernel
theorem dX5_reduce_55 : decode cX5_reduce 55 = .ok (.ldiv, 1) := by decide +kernel
theorem dX5_reduce_56 : decode cX5_reduce 56 = .ok (.putfield 80, 3) := by decide +kernel
theorem dX5_reduce_59 : decode cX5_reduce 59 = .ok (.aload_n 0, 1) := by decide +kernel
theorem dX5_reduce_60 : decode cX5_reduce 60 = .ok (.lload_n 3, 1) := by decide +kernel
theorem dX5_reduce_61 : decode cX5_reduce 61 = .ok (.lload 5, 2) := by decide +kernel
theorem dX5_reduce_63 : decode cX5_reduce 63 = .ok (.ldiv, 1) := by decide +kernel
theorem dX5_reduce_64 : decode cX5_reduce 64 = .ok (.putfield 20, 3) := by decide +kernel
theorem dX5_reduce_67 : decode cX5_reduce 67 = .ok (.return_, 1) := by decide +kernel
theorem dX6_init_0 : decode cX6_init 0 = .ok (.aload_n 0, 1) := by decide +kernel
theorem dX6_init_1 : decode cX6_init 1 = .ok (.invokespecial 5, 3) := by decide +kernel
theorem dX6_init_4 : decode cX6_init 4 = .ok (.aload_n 0, 1) := by decide +kernel
theorem dX6_init_5 : decode cX6_init 5 = .ok (.sipush 420, 3) := by decide +kernel
theorem dX6_init_8 : decode cX6_init 8 = .ok (.newarray .int, 2) := by decide +kernel
theorem dX6_init_10 : decode cX6_init 10 = .ok (.putfield 13, 3) := by decide +kernel
theorem dX6_init_13 : decode cX6_init 13 = .ok (.aload_n 0, 1) := by decide +kernel
theorem dX6_init_14 : decode cX6_init 14 = .ok (.sipush 200, 3) := by decide +kernel
theorem dX6_init_17 : decode cX6_init 17 = .ok (.newarray .int, 2) := by decide +kernel
theorem dX6_init_19 : decode cX6_init 19 = .ok (.putfield 17, 3) := by decide +kernel
theorem dX6_init_22 : decode cX6_init 22 = .ok (.aload_n 0, 1) := by decide +kernel
theorem dX6_init_23 : decode cX6_init 23 = .ok (.sipush 200, 3) := by decide +kernel
theorem dX6_init_26 : decode cX6_init 26 = .ok (.newarray .int, 2) := by decide +kernel
theorem dX6_init_28 : decode cX6_init 28 = .ok (.putfield 20, 3) := by decide +kernel
theorem dX6_init_31 : decode cX6_init 31 = .ok (.aload_n 0, 1) := by decide +kernel
theorem dX6_init_32 : decode cX6_init 32 = .ok (.bipush 20, 2) := by decide +kernel
theorem dX6_init_34 : decode cX6_init 34 = .ok (.newarray .long, 2) := by decide +kernel
theorem dX6_init_36 : decode cX6_init 36 = .ok (.putfield 23, 3) := by decide +kernel
theorem dX6_init_39 : decode cX6_init 39 = .ok (.aload_n 0, 1) := by decide +kernel
theorem dX6_init_40 : decode cX6_init 40 = .ok (.bipush 20, 2) := by decide +kernel
theorem dX6_init_42 : decode cX6_init 42 = .ok (.newarray .long, 2) := by decide +kernel
theorem dX6_init_44 : decode cX6_init 44 = .ok (.putfield 27, 3) := by decide +kernel
theorem dX6_init_47 : decode cX6_init 47 = .ok (.aload_n 0, 1) := by decide +kernel
theorem dX6_init_48 : decode cX6_init 48 = .ok (.iconst 4, 1) := by decide +kernel
theorem dX6_init_49 : decode cX6_init 49 = .ok (.newarray .int, 2) := by decide +kernel
theorem dX6_init_51 : decode cX6_init 51 = .ok (.putfield 30, 3) := by decide +kernel
theorem dX6_init_54 : decode cX6_init 54 = .ok (.aload_n 0, 1) := by decide +kernel
theorem dX6_init_55 : decode cX6_init 55 = .ok (.iconst 4, 1) := by decide +kernel
theorem dX6_init_56 : decode cX6_init 56 = .ok (.newarray .int, 2) := by decide +kernel
theorem dX6_init_58 : decode cX6_init 58 = .ok (.putfield 33, 3) := by decide +kernel
theorem dX6_init_61 : decode cX6_init 61 = .ok (.return_, 1) := by decide +kernel
theorem dX6_fewestWithout_0 : decode cX6_fewestWithout 0 = .ok (.aload_n 1, 1) := by decide +kernel
theorem dX6_fewestWithout_1 : decode cX6_fewestWithout 1 = .ok (.iconst 0, 1) := by decide +kernel
theorem dX6_fewestWithout_2 : decode cX6_fewestWithout 2 = .ok (.invokevirtual 36, 3) := by decide +kernel
theorem dX6_fewestWithout_5 : decode cX6_fewestWithout 5 = .ok (.ifCond .eq 14, 3) := by decide +kernel
theorem dX6_fewestWithout_8 : decode cX6_fewestWithout 8 = .ok (.iload_n 3, 1) := by decide +kernel
theorem dX6_fewestWithout_9 : decode cX6_fewestWithout 9 = .ok (.iconst 1, 1) := by decide +kernel
theorem dX6_fewestWithout_10 : decode cX6_fewestWithout 10 = .ok (.if_icmp .lt 9, 3) := by decide +kernel
theorem dX6_fewestWithout_13 : decode cX6_fewestWithout 13 = .ok (.iload_n 3, 1) := by decide +kernel
theorem dX6_fewestWithout_14 : decode cX6_fewestWithout 14 = .ok (.bipush 20, 2) := by decide +kernel
theorem dX6_fewestWithout_16 : decode cX6_fewestWithout 16 = .ok (.if_icmp .le 5, 3) := by decide +kernel
theorem dX6_fewestWithout_19 : decode cX6_fewestWithout 19 = .ok (.iconst (-1), 1) := by decide +kernel
theorem dX6_fewestWithout_20 : decode cX6_fewestWithout 20 = .ok (.ireturn, 1) := by decide +kernel
theorem dX6_fewestWithout_21 : decode cX6_fewestWithout 21 = .ok (.iconst 1, 1) := by decide +kernel
theorem dX6_fewestWithout_22 : decode cX6_fewestWithout 22 = .ok (.istore 4, 2) := by decide +kernel
theorem dX6_fewestWithout_24 : decode cX6_fewestWithout 24 = .ok (.iload 4, 2) := by decide +kernel
theorem dX6_fewestWithout_26 : decode cX6_fewestWithout 26 = .ok (.iload_n 3, 1) := by decide +kernel
theorem dX6_fewestWithout_27 : decode cX6_fewestWithout 27 = .ok (.if_icmp .gt 71, 3) := by decide +kernel
theorem dX6_fewestWithout_30 : decode cX6_fewestWithout 30 = .ok (.iconst 0, 1) := by decide +kernel
theorem dX6_fewestWithout_31 : decode cX6_fewestWithout 31 = .ok (.istore 5, 2) := by decide +kernel
theorem dX6_fewestWithout_33 : decode cX6_fewestWithout 33 = .ok (.iload 5, 2) := by decide +kernel
theorem dX6_fewestWithout_35 : decode cX6_fewestWithout 35 = .ok (.aload_n 1, 1) := by decide +kernel
theorem dX6_fewestWithout_36 : decode cX6_fewestWithout 36 = .ok (.getfield 40, 3) := by decide +kernel
theorem dX6_fewestWithout_39 : decode cX6_fewestWithout 39 = .ok (.if_icmp .ge 53, 3) := by decide +kernel
theorem dX6_fewestWithout_42 : decode cX6_fewestWithout 42 = .ok (.iload 5, 2) := by decide +kernel
theorem dX6_fewestWithout_44 : decode cX6_fewestWithout 44 = .ok (.bipush 20, 2) := by decide +kernel
theorem dX6_fewestWithout_46 : decode cX6_fewestWithout 46 = .ok (.if_icmp .ge 46, 3) := by decide +kernel
theorem dX6_fewestWithout_49 : decode cX6_fewestWithout 49 = .ok (.aload_n 0, 1) := by decide +kernel
theorem dX6_fewestWithout_50 : decode cX6_fewestWithout 50 = .ok (.getfield 13, 3) := by decide +kernel
theorem dX6_fewestWithout_53 : decode cX6_fewestWithout 53 = .ok (.iload 4, 2) := by decide +kernel
theorem dX6_fewestWithout_55 : decode cX6_fewestWithout 55 = .ok (.bipush 20, 2) := by decide +kernel
theorem dX6_fewestWithout_57 : decode cX6_fewestWithout 57 = .ok (.imul, 1) := by decide +kernel
theorem dX6_fewestWithout_58 : decode cX6_fewestWithout 58 = .ok (.iload 5, 2) := by decide +kernel
theorem dX6_fewestWithout_60 : decode cX6_fewestWithout 60 = .ok (.iadd, 1) := by decide +kernel
theorem dX6_fewestWithout_61 : decode cX6_fewestWithout 61 = .ok (.aload_n 1, 1) := by decide +kernel
theorem dX6_fewestWithout_62 : decode cX6_fewestWithout 62 = .ok (.iload 5, 2) := by decide +kernel
theorem dX6_fewestWithout_64 : decode cX6_fewestWithout 64 = .ok (.invokevirtual 44, 3) := by decide +kernel
theorem dX6_fewestWithout_67 : decode cX6_fewestWithout 67 = .ok (.iload_n 2, 1) := by decide +kernel
theorem dX6_fewestWithout_68 : decode cX6_fewestWithout 68 = .ok (.if_icmp .ne 8, 3) := by decide +kernel
theorem dX6_fewestWithout_71 : decode cX6_fewestWithout 71 = .ok (.ldc 48, 2) := by decide +kernel
theorem dX6_fewestWithout_73 : decode cX6_fewestWithout 73 = .ok (.goto 12, 3) := by decide +kernel
theorem dX6_fewestWithout_76 : decode cX6_fewestWithout 76 = .ok (.aload_n 0, 1) := by decide +kernel
theorem dX6_fewestWithout_77 : decode cX6_fewestWithout 77 = .ok (.aload_n 1, 1) := by decide +kernel
theorem dX6_fewestWithout_78 : decode cX6_fewestWithout 78 = .ok (.iload 4, 2) := by decide +kernel
theorem dX6_fewestWithout_80 : decode cX6_fewestWithout 80 = .ok (.iload 5, 2) := by decide +kernel
theorem dX6_fewestWithout_82 : decode cX6_fewestWithout 82 = .ok (.invokevirtual 49, 3) := by decide +kernel
theorem dX6_fewestWithout_85 : decode cX6_fewestWithout 85 = .ok (.iastore, 1) := by decide +kernel
theorem dX6_fewestWithout_86 : decode cX6_fewestWithout 86 = .ok (.iinc 5 1, 3) := by decide +kernel
theorem dX6_fewestWithout_89 : decode cX6_fewestWithout 89 = .ok (.goto (-56), 3) := by decide +kernel
theorem dX6_fewestWithout_92 : decode cX6_fewestWithout 92 = .ok (.iinc 4 1, 3) := by decide +kernel
theorem dX6_fewestWithout_95 : decode cX6_fewestWithout 95 = .ok (.goto (-71), 3) := by decide +kernel
theorem dX6_fewestWithout_98 : decode cX6_fewestWithout 98 = .ok (.aload_n 0, 1) := by decide +kernel
theorem dX6_fewestWithout_99 : decode cX6_fewestWithout 99 = .ok (.getfield 13, 3) := by decide +kernel
theorem dX6_fewestWithout_102 : decode cX6_fewestWithout 102 = .ok (.iload_n 3, 1) := by decide +kernel
theorem dX6_fewestWithout_103 : decode cX6_fewestWithout 103 = .ok (.bipush 20, 2) := by decide +kernel
theorem dX6_fewestWithout_105 : decode cX6_fewestWithout 105 = .ok (.imul, 1) := by decide +kernel
theorem dX6_fewestWithout_106 : decode cX6_fewestWithout 106 = .ok (.iaload, 1) := by decide +kernel
theorem dX6_fewestWithout_107 : decode cX6_fewestWithout 107 = .ok (.ldc 48, 2) := by decide +kernel
theorem dX6_fewestWithout_109 : decode cX6_fewestWithout 109 = .ok (.if_icmp .lt 7, 3) := by decide +kernel
theorem dX6_fewestWithout_112 : decode cX6_fewestWithout 112 = .ok (.iconst (-1), 1) := by decide +kernel
theorem dX6_fewestWithout_113 : decode cX6_fewestWithout 113 = .ok (.goto 12, 3) := by decide +kernel
theorem dX6_fewestWithout_116 : decode cX6_fewestWithout 116 = .ok (.aload_n 0, 1) := by decide +kernel
theorem dX6_fewestWithout_117 : decode cX6_fewestWithout 117 = .ok (.getfield 13, 3) := by decide +kernel
theorem dX6_fewestWithout_120 : decode cX6_fewestWithout 120 = .ok (.iload_n 3, 1) := by decide +kernel
theorem dX6_fewestWithout_121 : decode cX6_fewestWithout 121 = .ok (.bipush 20, 2) := by decide +kernel
theorem dX6_fewestWithout_123 : decode cX6_fewestWithout 123 = .ok (.imul, 1) := by decide +kernel
theorem dX6_fewestWithout_124 : decode cX6_fewestWithout 124 = .ok (.iaload, 1) := by decide +kernel
theorem dX6_fewestWithout_125 : decode cX6_fewestWithout 125 = .ok (.ireturn, 1) := by decide +kernel
theorem dX6_fewestFrom_0 : decode cX6_fewestFrom 0 = .ok (.iload_n 2, 1) := by decide +kernel
theorem dX6_fewestFrom_1 : decode cX6_fewestFrom 1 = .ok (.iconst 1, 1) := by decide +kernel
theorem dX6_fewestFrom_2 : decode cX6_fewestFrom 2 = .ok (.if_icmp .le 11, 3) := by decide +kernel
theorem dX6_fewestFrom_5 : decode cX6_fewestFrom 5 = .ok (.aload_n 1, 1) := by decide +kernel
theorem dX6_fewestFrom_6 : decode cX6_fewestFrom 6 = .ok (.iload_n 3, 1) := by decide +kernel
theorem dX6_fewestFrom_7 : decode cX6_fewestFrom 7 = .ok (.invokevirtual 53, 3) := by decide +kernel
theorem dX6_fewestFrom_10 : decode cX6_fewestFrom 10 = .ok (.ifCond .ne 5, 3) := by decide +kernel
theorem dX6_fewestFrom_13 : decode cX6_fewestFrom 13 = .ok (.iconst 0, 1) := by decide +kernel
theorem dX6_fewestFrom_14 : decode cX6_fewestFrom 14 = .ok (.ireturn, 1) := by decide +kernel
theorem dX6_fewestFrom_15 : decode cX6_fewestFrom 15 = .ok (.ldc 48, 2) := by decide +kernel
theorem dX6_fewestFrom_17 : decode cX6_fewestFrom 17 = .ok (.istore 4, 2) := by decide +kernel
theorem dX6_fewestFrom_19 : decode cX6_fewestFrom 19 = .ok (.iconst 0, 1) := by decide +kernel
theorem dX6_fewestFrom_20 : decode cX6_fewestFrom 20 = .ok (.istore 5, 2) := by decide +kernel
theorem dX6_fewestFrom_22 : decode cX6_fewestFrom 22 = .ok (.iload 5, 2) := by decide +kernel
theorem dX6_fewestFrom_24 : decode cX6_fewestFrom 24 = .ok (.aload_n 1, 1) := by decide +kernel
theorem dX6_fewestFrom_25 : decode cX6_fewestFrom 25 = .ok (.iload_n 3, 1) := by decide +kernel
theorem dX6_fewestFrom_26 : decode cX6_fewestFrom 26 = .ok (.invokevirtual 53, 3) := by decide +kernel
theorem dX6_fewestFrom_29 : decode cX6_fewestFrom 29 = .ok (.if_icmp .ge 42, 3) := by decide +kernel
theorem dX6_fewestFrom_32 : decode cX6_fewestFrom 32 = .ok (.aload_n 1, 1) := by decide +kernel
theorem dX6_fewestFrom_33 : decode cX6_fewestFrom 33 = .ok (.iload_n 3, 1) := by decide +kernel
theorem dX6_fewestFrom_34 : decode cX6_fewestFrom 34 = .ok (.iload 5, 2) := by decide +kernel
theorem dX6_fewestFrom_36 : decode cX6_fewestFrom 36 = .ok (.invokevirtual 56, 3) := by decide +kernel
theorem dX6_fewestFrom_39 : decode cX6_fewestFrom 39 = .ok (.istore 6, 2) := by decide +kernel
theorem dX6_fewestFrom_41 : decode cX6_fewestFrom 41 = .ok (.iload 4, 2) := by decide +kernel
theorem dX6_fewestFrom_43 : decode cX6_fewestFrom 43 = .ok (.aload_n 0, 1) := by decide +kernel
theorem dX6_fewestFrom_44 : decode cX6_fewestFrom 44 = .ok (.iload_n 2, 1) := by decide +kernel
theorem dX6_fewestFrom_45 : decode cX6_fewestFrom 45 = .ok (.iconst 1, 1) := by decide +kernel
theorem dX6_fewestFrom_46 : decode cX6_fewestFrom 46 = .ok (.isub, 1) := by decide +kernel
theorem dX6_fewestFrom_47 : decode cX6_fewestFrom 47 = .ok (.iload 6, 2) := by decide +kernel
theorem dX6_fewestFrom_49 : decode cX6_fewestFrom 49 = .ok (.invokevirtual 60, 3) := by decide +kernel
theorem dX6_fewestFrom_52 : decode cX6_fewestFrom 52 = .ok (.aload_n 1, 1) := by decide +kernel
theorem dX6_fewestFrom_53 : decode cX6_fewestFrom 53 = .ok (.iload_n 3, 1) := by decide +kernel
theorem dX6_fewestFrom_54 : decode cX6_fewestFrom 54 = .ok (.iload 6, 2) := by decide +kernel
theorem dX6_fewestFrom_56 : decode cX6_fewestFrom 56 = .ok (.invokevirtual 63, 3) := by decide +kernel
theorem dX6_fewestFrom_59 : decode cX6_fewestFrom 59 = .ok (.iadd, 1) := by decide +kernel
theorem dX6_fewestFrom_60 : decode cX6_fewestFrom 60 = .ok (.invokestatic 66, 3) := by decide +kernel
theorem dX6_fewestFrom_63 : decode cX6_fewestFrom 63 = .ok (.istore 4, 2) := by decide +kernel
theorem dX6_fewestFrom_65 : decode cX6_fewestFrom 65 = .ok (.iinc 5 1, 3) := by decide +kernel
theorem dX6_fewestFrom_68 : decode cX6_fewestFrom 68 = .ok (.goto (-46), 3) := by decide +kernel
theorem dX6_fewestFrom_71 : decode cX6_fewestFrom 71 = .ok (.iload 4, 2) := by decide +kernel
theorem dX6_fewestFrom_73 : decode cX6_fewestFrom 73 = .ok (.ireturn, 1) := by decide +kernel
theorem dX6_fewestAt_0 : decode cX6_fewestAt 0 = .ok (.iload_n 1, 1) := by decide +kernel
theorem dX6_fewestAt_1 : decode cX6_fewestAt 1 = .ok (.ifCond .lt 33, 3) := by decide +kernel
theorem dX6_fewestAt_4 : decode cX6_fewestAt 4 = .ok (.iload_n 1, 1) := by decide +kernel
theorem dX6_fewestAt_5 : decode cX6_fewestAt 5 = .ok (.bipush 20, 2) := by decide +kernel
theorem dX6_fewestAt_7 : decode cX6_fewestAt 7 = .ok (.if_icmp .gt 27, 3) := by decide +kernel
theorem dX6_fewestAt_10 : decode cX6_fewestAt 10 = .ok (.iload_n 2, 1) := by decide +kernel
theorem dX6_fewestAt_11 : decode cX6_fewestAt 11 = .ok (.ifCond .lt 23, 3) := by decide +kernel
theorem dX6_fewestAt_14 : decode cX6_fewestAt 14 = .ok (.iload_n 2, 1) := by decide +kernel
theorem dX6_fewestAt_15 : decode cX6_fewestAt 15 = .ok (.bipush 20, 2) := by decide +kernel
theorem dX6_fewestAt_17 : decode cX6_fewestAt 17 = .ok (.if_icmp .ge 17, 3) := by decide +kernel
theorem dX6_fewestAt_20 : decode cX6_fewestAt 20 = .ok (.aload_n 0, 1) := by decide +kernel
theorem dX6_fewestAt_21 : decode cX6_fewestAt 21 = .ok (.getfield 13, 3) := by decide +kernel
theorem dX6_fewestAt_24 : decode cX6_fewestAt 24 = .ok (.iload_n 1, 1) := by decide +kernel
theorem dX6_fewestAt_25 : decode cX6_fewestAt 25 = .ok (.bipush 20, 2) := by decide +kernel
theorem dX6_fewestAt_27 : decode cX6_fewestAt 27 = .ok (.imul, 1) := by decide +kernel
theorem dX6_fewestAt_28 : decode cX6_fewestAt 28 = .ok (.iload_n 2, 1) := by decide +kernel
theorem dX6_fewestAt_29 : decode cX6_fewestAt 29 = .ok (.iadd, 1) := by decide +kernel
theorem dX6_fewestAt_30 : decode cX6_fewestAt 30 = .ok (.iaload, 1) := by decide +kernel
theorem dX6_fewestAt_31 : decode cX6_fewestAt 31 = .ok (.goto 5, 3) := by decide +kernel
theorem dX6_fewestAt_34 : decode cX6_fewestAt 34 = .ok (.ldc 48, 2) := by decide +kernel
theorem dX6_fewestAt_36 : decode cX6_fewestAt 36 = .ok (.ireturn, 1) := by decide +kernel
theorem dX6_lineWithout_0 : decode cX6_lineWithout 0 = .ok (.iload_n 3, 1) := by decide +kernel
theorem dX6_lineWithout_1 : decode cX6_lineWithout 1 = .ok (.ifCond .lt 8, 3) := by decide +kernel
theorem dX6_lineWithout_4 : decode cX6_lineWithout 4 = .ok (.iload_n 3, 1) := by decide +kernel
theorem dX6_lineWithout_5 : decode cX6_lineWithout 5 = .ok (.iload_n 2, 1) := by decide +kernel
theorem dX6_lineWithout_6 : decode cX6_lineWithout 6 = .ok (.if_icmp .lt 5, 3) := by decide +kernel
theorem dX6_lineWithout_9 : decode cX6_lineWithout 9 = .ok (.iconst (-1), 1) := by decide +kernel
theorem dX6_lineWithout_10 : decode cX6_lineWithout 10 = .ok (.ireturn, 1) := by decide +kernel
theorem dX6_lineWithout_11 : decode cX6_lineWithout 11 = .ok (.iconst 0, 1) := by decide +kernel
theorem dX6_lineWithout_12 : decode cX6_lineWithout 12 = .ok (.istore 4, 2) := by decide +kernel
theorem dX6_lineWithout_14 : decode cX6_lineWithout 14 = .ok (.iconst 0, 1) := by decide +kernel
theorem dX6_lineWithout_15 : decode cX6_lineWithout 15 = .ok (.istore 5, 2) := by decide +kernel
theorem dX6_lineWithout_17 : decode cX6_lineWithout 17 = .ok (.iload 5, 2) := by decide +kernel
theorem dX6_lineWithout_19 : decode cX6_lineWithout 19 = .ok (.iload_n 3, 1) := by decide +kernel
theorem dX6_lineWithout_20 : decode cX6_lineWithout 20 = .ok (.if_icmp .ge 109, 3) := by decide +kernel
theorem dX6_lineWithout_23 : decode cX6_lineWithout 23 = .ok (.iconst (-1), 1) := by decide +kernel
theorem dX6_lineWithout_24 : decode cX6_lineWithout 24 = .ok (.istore 6, 2) := by decide +kernel
theorem dX6_lineWithout_26 : decode cX6_lineWithout 26 = .ok (.iconst 0, 1) := by decide +kernel
theorem dX6_lineWithout_27 : decode cX6_lineWithout 27 = .ok (.istore 7, 2) := by decide +kernel
theorem dX6_lineWithout_29 : decode cX6_lineWithout 29 = .ok (.iload 7, 2) := by decide +kernel
theorem dX6_lineWithout_31 : decode cX6_lineWithout 31 = .ok (.aload_n 1, 1) := by decide +kernel
theorem dX6_lineWithout_32 : decode cX6_lineWithout 32 = .ok (.iload 4, 2) := by decide +kernel
theorem dX6_lineWithout_34 : decode cX6_lineWithout 34 = .ok (.invokevirtual 53, 3) := by decide +kernel
theorem dX6_lineWithout_37 : decode cX6_lineWithout 37 = .ok (.if_icmp .ge 74, 3) := by decide +kernel
theorem dX6_lineWithout_40 : decode cX6_lineWithout 40 = .ok (.aload_n 1, 1) := by decide +kernel
theorem dX6_lineWithout_41 : decode cX6_lineWithout 41 = .ok (.iload 4, 2) := by decide +kernel
theorem dX6_lineWithout_43 : decode cX6_lineWithout 43 = .ok (.iload 7, 2) := by decide +kernel
theorem dX6_lineWithout_45 : decode cX6_lineWithout 45 = .ok (.invokevirtual 56, 3) := by decide +kernel
theorem dX6_lineWithout_48 : decode cX6_lineWithout 48 = .ok (.istore 8, 2) := by decide +kernel
theorem dX6_lineWithout_50 : decode cX6_lineWithout 50 = .ok (.aload_n 0, 1) := by decide +kernel
theorem dX6_lineWithout_51 : decode cX6_lineWithout 51 = .ok (.iload_n 2, 1) := by decide +kernel
theorem dX6_lineWithout_52 : decode cX6_lineWithout 52 = .ok (.iload 5, 2) := by decide +kernel
theorem dX6_lineWithout_54 : decode cX6_lineWithout 54 = .ok (.isub, 1) := by decide +kernel
theorem dX6_lineWithout_55 : decode cX6_lineWithout 55 = .ok (.iconst 1, 1) := by decide +kernel
theorem dX6_lineWithout_56 : decode cX6_lineWithout 56 = .ok (.isub, 1) := by decide +kernel
theorem dX6_lineWithout_57 : decode cX6_lineWithout 57 = .ok (.iload 8, 2) := by decide +kernel
theorem dX6_lineWithout_59 : decode cX6_lineWithout 59 = .ok (.invokevirtual 60, 3) := by decide +kernel
theorem dX6_lineWithout_62 : decode cX6_lineWithout 62 = .ok (.aload_n 1, 1) := by decide +kernel
theorem dX6_lineWithout_63 : decode cX6_lineWithout 63 = .ok (.iload 4, 2) := by decide +kernel
theorem dX6_lineWithout_65 : decode cX6_lineWithout 65 = .ok (.iload 8, 2) := by decide +kernel
theorem dX6_lineWithout_67 : decode cX6_lineWithout 67 = .ok (.invokevirtual 63, 3) := by decide +kernel
theorem dX6_lineWithout_70 : decode cX6_lineWithout 70 = .ok (.iadd, 1) := by decide +kernel
theorem dX6_lineWithout_71 : decode cX6_lineWithout 71 = .ok (.istore 9, 2) := by decide +kernel
theorem dX6_lineWithout_73 : decode cX6_lineWithout 73 = .ok (.iload 9, 2) := by decide +kernel
theorem dX6_lineWithout_75 : decode cX6_lineWithout 75 = .ok (.aload_n 0, 1) := by decide +kernel
theorem dX6_lineWithout_76 : decode cX6_lineWithout 76 = .ok (.iload_n 2, 1) := by decide +kernel
theorem dX6_lineWithout_77 : decode cX6_lineWithout 77 = .ok (.iload 5, 2) := by decide +kernel
theorem dX6_lineWithout_79 : decode cX6_lineWithout 79 = .ok (.isub, 1) := by decide +kernel
theorem dX6_lineWithout_80 : decode cX6_lineWithout 80 = .ok (.iload 4, 2) := by decide +kernel
theorem dX6_lineWithout_82 : decode cX6_lineWithout 82 = .ok (.invokevirtual 60, 3) := by decide +kernel
theorem dX6_lineWithout_85 : decode cX6_lineWithout 85 = .ok (.if_icmp .ne 20, 3) := by decide +kernel
theorem dX6_lineWithout_88 : decode cX6_lineWithout 88 = .ok (.iload 6, 2) := by decide +kernel
theorem dX6_lineWithout_90 : decode cX6_lineWithout 90 = .ok (.iconst (-1), 1) := by decide +kernel
theorem dX6_lineWithout_91 : decode cX6_lineWithout 91 = .ok (.if_icmp .eq 10, 3) := by decide +kernel
theorem dX6_lineWithout_94 : decode cX6_lineWithout 94 = .ok (.iload 8, 2) := by decide +kernel
theorem dX6_lineWithout_96 : decode cX6_lineWithout 96 = .ok (.iload 6, 2) := by decide +kernel
theorem dX6_lineWithout_98 : decode cX6_lineWithout 98 = .ok (.if_icmp .ge 7, 3) := by decide +kernel
theorem dX6_lineWithout_101 : decode cX6_lineWithout 101 = .ok (.iload 8, 2) := by decide +kernel
theorem dX6_lineWithout_103 : decode cX6_lineWithout 103 = .ok (.istore 6, 2) := by decide +kernel
theorem dX6_lineWithout_105 : decode cX6_lineWithout 105 = .ok (.iinc 7 1, 3) := by decide +kernel
theorem dX6_lineWithout_108 : decode cX6_lineWithout 108 = .ok (.goto (-79), 3) := by decide +kernel
theorem dX6_lineWithout_111 : decode cX6_lineWithout 111 = .ok (.iload 6, 2) := by decide +kernel
theorem dX6_lineWithout_113 : decode cX6_lineWithout 113 = .ok (.iconst (-1), 1) := by decide +kernel
theorem dX6_lineWithout_114 : decode cX6_lineWithout 114 = .ok (.if_icmp .ne 5, 3) := by decide +kernel
theorem dX6_lineWithout_117 : decode cX6_lineWithout 117 = .ok (.iconst (-1), 1) := by decide +kernel
theorem dX6_lineWithout_118 : decode cX6_lineWithout 118 = .ok (.ireturn, 1) := by decide +kernel
theorem dX6_lineWithout_119 : decode cX6_lineWithout 119 = .ok (.iload 6, 2) := by decide +kernel
theorem dX6_lineWithout_121 : decode cX6_lineWithout 121 = .ok (.istore 4, 2) := by decide +kernel
theorem dX6_lineWithout_123 : decode cX6_lineWithout 123 = .ok (.iinc 5 1, 3) := by decide +kernel
theorem dX6_lineWithout_126 : decode cX6_lineWithout 126 = .ok (.goto (-109), 3) := by decide +kernel
theorem dX6_lineWithout_129 : decode cX6_lineWithout 129 = .ok (.iload 4, 2) := by decide +kernel
theorem dX6_lineWithout_131 : decode cX6_lineWithout 131 = .ok (.ireturn, 1) := by decide +kernel
theorem dX6_linesUpTo_0 : decode cX6_linesUpTo 0 = .ok (.iconst 0, 1) := by decide +kernel
theorem dX6_linesUpTo_1 : decode cX6_linesUpTo 1 = .ok (.istore 4, 2) := by decide +kernel
theorem dX6_linesUpTo_3 : decode cX6_linesUpTo 3 = .ok (.iload 4, 2) := by decide +kernel
theorem dX6_linesUpTo_5 : decode cX6_linesUpTo 5 = .ok (.bipush 20, 2) := by decide +kernel
theorem dX6_linesUpTo_7 : decode cX6_linesUpTo 7 = .ok (.if_icmp .ge 35, 3) := by decide +kernel
theorem dX6_linesUpTo_10 : decode cX6_linesUpTo 10 = .ok (.aload_n 0, 1) := by decide +kernel
theorem dX6_linesUpTo_11 : decode cX6_linesUpTo 11 = .ok (.getfield 17, 3) := by decide +kernel
theorem dX6_linesUpTo_14 : decode cX6_linesUpTo 14 = .ok (.iload 4, 2) := by decide +kernel
theorem dX6_linesUpTo_16 : decode cX6_linesUpTo 16 = .ok (.iload 4, 2) := by decide +kernel
theorem dX6_linesUpTo_18 : decode cX6_linesUpTo 18 = .ok (.ifCond .ne 15, 3) := by decide +kernel
theorem dX6_linesUpTo_21 : decode cX6_linesUpTo 21 = .ok (.aload_n 1, 1) := by decide +kernel
theorem dX6_linesUpTo_22 : decode cX6_linesUpTo 22 = .ok (.iconst 0, 1) := by decide +kernel
theorem dX6_linesUpTo_23 : decode cX6_linesUpTo 23 = .ok (.invokevirtual 36, 3) := by decide +kernel
theorem dX6_linesUpTo_26 : decode cX6_linesUpTo 26 = .ok (.ifCond .eq 7, 3) := by decide +kernel
theorem dX6_linesUpTo_29 : decode cX6_linesUpTo 29 = .ok (.iconst 0, 1) := by decide +kernel
theorem dX6_linesUpTo_30 : decode cX6_linesUpTo 30 = .ok (.goto 5, 3) := by decide +kernel
theorem dX6_linesUpTo_33 : decode cX6_linesUpTo 33 = .ok (.ldc 48, 2) := by decide +kernel
theorem dX6_linesUpTo_35 : decode cX6_linesUpTo 35 = .ok (.iastore, 1) := by decide +kernel
theorem dX6_linesUpTo_36 : decode cX6_linesUpTo 36 = .ok (.iinc 4 1, 3) := by decide +kernel
theorem dX6_linesUpTo_39 : decode cX6_linesUpTo 39 = .ok (.goto (-36), 3) := by decide +kernel
theorem dX6_linesUpTo_42 : decode cX6_linesUpTo 42 = .ok (.iconst 1, 1) := by decide +kernel
theorem dX6_linesUpTo_43 : decode cX6_linesUpTo 43 = .ok (.istore 4, 2) := by decide +kernel
theorem dX6_linesUpTo_45 : decode cX6_linesUpTo 45 = .ok (.iload 4, 2) := by decide +kernel
theorem dX6_linesUpTo_47 : decode cX6_linesUpTo 47 = .ok (.bipush 20, 2) := by decide +kernel
theorem dX6_linesUpTo_49 : decode cX6_linesUpTo 49 = .ok (.if_icmp .gt 63, 3) := by decide +kernel
theorem dX6_linesUpTo_52 : decode cX6_linesUpTo 52 = .ok (.iconst 0, 1) := by decide +kernel
theorem dX6_linesUpTo_53 : decode cX6_linesUpTo 53 = .ok (.istore 5, 2) := by decide +kernel
theorem dX6_linesUpTo_55 : decode cX6_linesUpTo 55 = .ok (.iload 5, 2) := by decide +kernel
theorem dX6_linesUpTo_57 : decode cX6_linesUpTo 57 = .ok (.aload_n 1, 1) := by decide +kernel
theorem dX6_linesUpTo_58 : decode cX6_linesUpTo 58 = .ok (.getfield 40, 3) := by decide +kernel
theorem dX6_linesUpTo_61 : decode cX6_linesUpTo 61 = .ok (.if_icmp .ge 40, 3) := by decide +kernel
theorem dX6_linesUpTo_64 : decode cX6_linesUpTo 64 = .ok (.iload 5, 2) := by decide +kernel
theorem dX6_linesUpTo_66 : decode cX6_linesUpTo 66 = .ok (.bipush 20, 2) := by decide +kernel
theorem dX6_linesUpTo_68 : decode cX6_linesUpTo 68 = .ok (.if_icmp .ge 33, 3) := by decide +kernel
theorem dX6_linesUpTo_71 : decode cX6_linesUpTo 71 = .ok (.aload_n 0, 1) := by decide +kernel
theorem dX6_linesUpTo_72 : decode cX6_linesUpTo 72 = .ok (.getfield 17, 3) := by decide +kernel
theorem dX6_linesUpTo_75 : decode cX6_linesUpTo 75 = .ok (.iload 5, 2) := by decide +kernel
theorem dX6_linesUpTo_77 : decode cX6_linesUpTo 77 = .ok (.iaload, 1) := by decide +kernel
theorem dX6_linesUpTo_78 : decode cX6_linesUpTo 78 = .ok (.iload_n 3, 1) := by decide +kernel
theorem dX6_linesUpTo_79 : decode cX6_linesUpTo 79 = .ok (.if_icmp .gt 16, 3) := by decide +kernel
theorem dX6_linesUpTo_82 : decode cX6_linesUpTo 82 = .ok (.aload_n 1, 1) := by decide +kernel
theorem dX6_linesUpTo_83 : decode cX6_linesUpTo 83 = .ok (.iload 5, 2) := by decide +kernel
theorem dX6_linesUpTo_85 : decode cX6_linesUpTo 85 = .ok (.invokevirtual 44, 3) := by decide +kernel
theorem dX6_linesUpTo_88 : decode cX6_linesUpTo 88 = .ok (.iload_n 2, 1) := by decide +kernel
theorem dX6_linesUpTo_89 : decode cX6_linesUpTo 89 = .ok (.if_icmp .ne 6, 3) := by decide +kernel
theorem dX6_linesUpTo_92 : decode cX6_linesUpTo 92 = .ok (.iload 4, 2) := by decide +kernel
theorem dX6_linesUpTo_94 : decode cX6_linesUpTo 94 = .ok (.ireturn, 1) := by decide +kernel
theorem dX6_linesUpTo_95 : decode cX6_linesUpTo 95 = .ok (.iinc 5 1, 3) := by decide +kernel
theorem dX6_linesUpTo_98 : decode cX6_linesUpTo 98 = .ok (.goto (-43), 3) := by decide +kernel
theorem dX6_linesUpTo_101 : decode cX6_linesUpTo 101 = .ok (.aload_n 0, 1) := by decide +kernel
theorem dX6_linesUpTo_102 : decode cX6_linesUpTo 102 = .ok (.aload_n 1, 1) := by decide +kernel
theorem dX6_linesUpTo_103 : decode cX6_linesUpTo 103 = .ok (.invokevirtual 71, 3) := by decide +kernel
theorem dX6_linesUpTo_106 : decode cX6_linesUpTo 106 = .ok (.iinc 4 1, 3) := by decide +kernel
theorem dX6_linesUpTo_109 : decode cX6_linesUpTo 109 = .ok (.goto (-64), 3) := by decide +kernel
theorem dX6_linesUpTo_112 : decode cX6_linesUpTo 112 = .ok (.iconst (-1), 1) := by decide +kernel
theorem dX6_linesUpTo_113 : decode cX6_linesUpTo 113 = .ok (.ireturn, 1) := by decide +kernel
theorem dX6_stepStrayings_0 : decode cX6_stepStrayings 0 = .ok (.iconst 0, 1) := by decide +kernel
theorem dX6_stepStrayings_1 : decode cX6_stepStrayings 1 = .ok (.istore_n 2, 1) := by decide +kernel
theorem dX6_stepStrayings_2 : decode cX6_stepStrayings 2 = .ok (.iload_n 2, 1) := by decide +kernel
theorem dX6_stepStrayings_3 : decode cX6_stepStrayings 3 = .ok (.bipush 20, 2) := by decide +kernel
theorem dX6_stepStrayings_5 : decode cX6_stepStrayings 5 = .ok (.if_icmp .ge 17, 3) := by decide +kernel
theorem dX6_stepStrayings_8 : decode cX6_stepStrayings 8 = .ok (.aload_n 0, 1) := by decide +kernel
theorem dX6_stepStrayings_9 : decode cX6_stepStrayings 9 = .ok (.getfield 20, 3) := by decide +kernel
theorem dX6_stepStrayings_12 : decode cX6_stepStrayings 12 = .ok (.iload_n 2, 1) := by decide +kernel
theorem dX6_stepStrayings_13 : decode cX6_stepStrayings 13 = .ok (.ldc 48, 2) := by decide +kernel
theorem dX6_stepStrayings_15 : decode cX6_stepStrayings 15 = .ok (.iastore, 1) := by decide +kernel
theorem dX6_stepStrayings_16 : decode cX6_stepStrayings 16 = .ok (.iinc 2 1, 3) := by decide +kernel
theorem dX6_stepStrayings_19 : decode cX6_stepStrayings 19 = .ok (.goto (-17), 3) := by decide +kernel
theorem dX6_stepStrayings_22 : decode cX6_stepStrayings 22 = .ok (.iconst 0, 1) := by decide +kernel
theorem dX6_stepStrayings_23 : decode cX6_stepStrayings 23 = .ok (.istore_n 2, 1) := by decide +kernel
theorem dX6_stepStrayings_24 : decode cX6_stepStrayings 24 = .ok (.iload_n 2, 1) := by decide +kernel
theorem dX6_stepStrayings_25 : decode cX6_stepStrayings 25 = .ok (.aload_n 1, 1) := by decide +kernel
theorem dX6_stepStrayings_26 : decode cX6_stepStrayings 26 = .ok (.getfield 40, 3) := by decide +kernel
theorem dX6_stepStrayings_29 : decode cX6_stepStrayings 29 = .ok (.if_icmp .ge 80, 3) := by decide +kernel
theorem dX6_stepStrayings_32 : decode cX6_stepStrayings 32 = .ok (.iload_n 2, 1) := by decide +kernel
theorem dX6_stepStrayings_33 : decode cX6_stepStrayings 33 = .ok (.bipush 20, 2) := by decide +kernel
theorem dX6_stepStrayings_35 : decode cX6_stepStrayings 35 = .ok (.if_icmp .ge 74, 3) := by decide +kernel
theorem dX6_stepStrayings_38 : decode cX6_stepStrayings 38 = .ok (.iconst 0, 1) := by decide +kernel
theorem dX6_stepStrayings_39 : decode cX6_stepStrayings 39 = .ok (.istore_n 3, 1) := by decide +kernel
theorem dX6_stepStrayings_40 : decode cX6_stepStrayings 40 = .ok (.iload_n 3, 1) := by decide +kernel
theorem dX6_stepStrayings_41 : decode cX6_stepStrayings 41 = .ok (.aload_n 1, 1) := by decide +kernel
theorem dX6_stepStrayings_42 : decode cX6_stepStrayings 42 = .ok (.iload_n 2, 1) := by decide +kernel
theorem dX6_stepStrayings_43 : decode cX6_stepStrayings 43 = .ok (.invokevirtual 53, 3) := by decide +kernel
theorem dX6_stepStrayings_46 : decode cX6_stepStrayings 46 = .ok (.if_icmp .ge 57, 3) := by decide +kernel
theorem dX6_stepStrayings_49 : decode cX6_stepStrayings 49 = .ok (.aload_n 1, 1) := by decide +kernel
theorem dX6_stepStrayings_50 : decode cX6_stepStrayings 50 = .ok (.iload_n 2, 1) := by decide +kernel
theorem dX6_stepStrayings_51 : decode cX6_stepStrayings 51 = .ok (.iload_n 3, 1) := by decide +kernel
theorem dX6_stepStrayings_52 : decode cX6_stepStrayings 52 = .ok (.invokevirtual 56, 3) := by decide +kernel
theorem dX6_stepStrayings_55 : decode cX6_stepStrayings 55 = .ok (.istore 4, 2) := by decide +kernel
theorem dX6_stepStrayings_57 : decode cX6_stepStrayings 57 = .ok (.aload_n 1, 1) := by decide +kernel
theorem dX6_stepStrayings_58 : decode cX6_stepStrayings 58 = .ok (.iload 4, 2) := by decide +kernel
theorem dX6_stepStrayings_60 : decode cX6_stepStrayings 60 = .ok (.invokevirtual 36, 3) := by decide +kernel
theorem dX6_stepStrayings_63 : decode cX6_stepStrayings 63 = .ok (.ifCond .eq 34, 3) := by decide +kernel
theorem dX6_stepStrayings_66 : decode cX6_stepStrayings 66 = .ok (.aload_n 0, 1) := by decide +kernel
theorem dX6_stepStrayings_67 : decode cX6_stepStrayings 67 = .ok (.getfield 20, 3) := by decide +kernel
theorem dX6_stepStrayings_70 : decode cX6_stepStrayings 70 = .ok (.iload 4, 2) := by decide +kernel
theorem dX6_stepStrayings_72 : decode cX6_stepStrayings 72 = .ok (.aload_n 0, 1) := by decide +kernel
theorem dX6_stepStrayings_73 : decode cX6_stepStrayings 73 = .ok (.getfield 20, 3) := by decide +kernel
theorem dX6_stepStrayings_76 : decode cX6_stepStrayings 76 = .ok (.iload 4, 2) := by decide +kernel
theorem dX6_stepStrayings_78 : decode cX6_stepStrayings 78 = .ok (.iaload, 1) := by decide +kernel
theorem dX6_stepStrayings_79 : decode cX6_stepStrayings 79 = .ok (.aload_n 0, 1) := by decide +kernel
theorem dX6_stepStrayings_80 : decode cX6_stepStrayings 80 = .ok (.getfield 17, 3) := by decide +kernel
theorem dX6_stepStrayings_83 : decode cX6_stepStrayings 83 = .ok (.iload_n 2, 1) := by decide +kernel
theorem dX6_stepStrayings_84 : decode cX6_stepStrayings 84 = .ok (.iaload, 1) := by decide +kernel
theorem dX6_stepStrayings_85 : decode cX6_stepStrayings 85 = .ok (.aload_n 1, 1) := by decide +kernel
theorem dX6_stepStrayings_86 : decode cX6_stepStrayings 86 = .ok (.iload_n 2, 1) := by decide +kernel
theorem dX6_stepStrayings_87 : decode cX6_stepStrayings 87 = .ok (.iload 4, 2) := by decide +kernel
theorem dX6_stepStrayings_89 : decode cX6_stepStrayings 89 = .ok (.invokevirtual 63, 3) := by decide +kernel
theorem dX6_stepStrayings_92 : decode cX6_stepStrayings 92 = .ok (.iadd, 1) := by decide +kernel
theorem dX6_stepStrayings_93 : decode cX6_stepStrayings 93 = .ok (.invokestatic 66, 3) := by decide +kernel
theorem dX6_stepStrayings_96 : decode cX6_stepStrayings 96 = .ok (.iastore, 1) := by decide +kernel
theorem dX6_stepStrayings_97 : decode cX6_stepStrayings 97 = .ok (.iinc 3 1, 3) := by decide +kernel
theorem dX6_stepStrayings_100 : decode cX6_stepStrayings 100 = .ok (.goto (-60), 3) := by decide +kernel
theorem dX6_stepStrayings_103 : decode cX6_stepStrayings 103 = .ok (.iinc 2 1, 3) := by decide +kernel
theorem dX6_stepStrayings_106 : decode cX6_stepStrayings 106 = .ok (.goto (-82), 3) := by decide +kernel
theorem dX6_stepStrayings_109 : decode cX6_stepStrayings 109 = .ok (.aload_n 0, 1) := by decide +kernel
theorem dX6_stepStrayings_110 : decode cX6_stepStrayings 110 = .ok (.getfield 20, 3) := by decide +kernel
theorem dX6_stepStrayings_113 : decode cX6_stepStrayings 113 = .ok (.iconst 0, 1) := by decide +kernel
theorem dX6_stepStrayings_114 : decode cX6_stepStrayings 114 = .ok (.aload_n 0, 1) := by decide +kernel
theorem dX6_stepStrayings_115 : decode cX6_stepStrayings 115 = .ok (.getfield 17, 3) := by decide +kernel
theorem dX6_stepStrayings_118 : decode cX6_stepStrayings 118 = .ok (.iconst 0, 1) := by decide +kernel
theorem dX6_stepStrayings_119 : decode cX6_stepStrayings 119 = .ok (.bipush 20, 2) := by decide +kernel
theorem dX6_stepStrayings_121 : decode cX6_stepStrayings 121 = .ok (.invokestatic 75, 3) := by decide +kernel
theorem dX6_stepStrayings_124 : decode cX6_stepStrayings 124 = .ok (.return_, 1) := by decide +kernel
theorem dX6_linesUntilBoth_0 : decode cX6_linesUntilBoth 0 = .ok (.iconst 0, 1) := by decide +kernel
theorem dX6_linesUntilBoth_1 : decode cX6_linesUntilBoth 1 = .ok (.istore 4, 2) := by decide +kernel
theorem dX6_linesUntilBoth_3 : decode cX6_linesUntilBoth 3 = .ok (.iload 4, 2) := by decide +kernel
theorem dX6_linesUntilBoth_5 : decode cX6_linesUntilBoth 5 = .ok (.iconst 4, 1) := by decide +kernel
theorem dX6_linesUntilBoth_6 : decode cX6_linesUntilBoth 6 = .ok (.if_icmp .ge 17, 3) := by decide +kernel
theorem dX6_linesUntilBoth_9 : decode cX6_linesUntilBoth 9 = .ok (.aload_n 0, 1) := by decide +kernel
theorem dX6_linesUntilBoth_10 : decode cX6_linesUntilBoth 10 = .ok (.getfield 30, 3) := by decide +kernel
theorem dX6_linesUntilBoth_13 : decode cX6_linesUntilBoth 13 = .ok (.iload 4, 2) := by decide +kernel
theorem dX6_linesUntilBoth_15 : decode cX6_linesUntilBoth 15 = .ok (.iconst 0, 1) := by decide +kernel
theorem dX6_linesUntilBoth_16 : decode cX6_linesUntilBoth 16 = .ok (.iastore, 1) := by decide +kernel
theorem dX6_linesUntilBoth_17 : decode cX6_linesUntilBoth 17 = .ok (.iinc 4 1, 3) := by decide +kernel
theorem dX6_linesUntilBoth_20 : decode cX6_linesUntilBoth 20 = .ok (.goto (-17), 3) := by decide +kernel
theorem dX6_linesUntilBoth_23 : decode cX6_linesUntilBoth 23 = .ok (.aload_n 1, 1) := by decide +kernel
theorem dX6_linesUntilBoth_24 : decode cX6_linesUntilBoth 24 = .ok (.iconst 0, 1) := by decide +kernel
theorem dX6_linesUntilBoth_25 : decode cX6_linesUntilBoth 25 = .ok (.invokevirtual 36, 3) := by decide +kernel
theorem dX6_linesUntilBoth_28 : decode cX6_linesUntilBoth 28 = .ok (.ifCond .eq 16, 3) := by decide +kernel
theorem dX6_linesUntilBoth_31 : decode cX6_linesUntilBoth 31 = .ok (.aload_n 0, 1) := by decide +kernel
theorem dX6_linesUntilBoth_32 : decode cX6_linesUntilBoth 32 = .ok (.getfield 30, 3) := by decide +kernel
theorem dX6_linesUntilBoth_35 : decode cX6_linesUntilBoth 35 = .ok (.aload_n 1, 1) := by decide +kernel
theorem dX6_linesUntilBoth_36 : decode cX6_linesUntilBoth 36 = .ok (.iconst 0, 1) := by decide +kernel
theorem dX6_linesUntilBoth_37 : decode cX6_linesUntilBoth 37 = .ok (.iload_n 2, 1) := by decide +kernel
theorem dX6_linesUntilBoth_38 : decode cX6_linesUntilBoth 38 = .ok (.iload_n 3, 1) := by decide +kernel
theorem dX6_linesUntilBoth_39 : decode cX6_linesUntilBoth 39 = .ok (.invokestatic 81, 3) := by decide +kernel
theorem dX6_linesUntilBoth_42 : decode cX6_linesUntilBoth 42 = .ok (.iconst 1, 1) := by decide +kernel
theorem dX6_linesUntilBoth_43 : decode cX6_linesUntilBoth 43 = .ok (.iastore, 1) := by decide +kernel
theorem dX6_linesUntilBoth_44 : decode cX6_linesUntilBoth 44 = .ok (.iconst 1, 1) := by decide +kernel
theorem dX6_linesUntilBoth_45 : decode cX6_linesUntilBoth 45 = .ok (.istore 4, 2) := by decide +kernel
theorem dX6_linesUntilBoth_47 : decode cX6_linesUntilBoth 47 = .ok (.iload 4, 2) := by decide +kernel
theorem dX6_linesUntilBoth_49 : decode cX6_linesUntilBoth 49 = .ok (.bipush 80, 2) := by decide +kernel
theorem dX6_linesUntilBoth_51 : decode cX6_linesUntilBoth 51 = .ok (.if_icmp .gt 28, 3) := by decide +kernel
theorem dX6_linesUntilBoth_54 : decode cX6_linesUntilBoth 54 = .ok (.aload_n 0, 1) := by decide +kernel
theorem dX6_linesUntilBoth_55 : decode cX6_linesUntilBoth 55 = .ok (.getfield 30, 3) := by decide +kernel
theorem dX6_linesUntilBoth_58 : decode cX6_linesUntilBoth 58 = .ok (.iconst 3, 1) := by decide +kernel
theorem dX6_linesUntilBoth_59 : decode cX6_linesUntilBoth 59 = .ok (.iaload, 1) := by decide +kernel
theorem dX6_linesUntilBoth_60 : decode cX6_linesUntilBoth 60 = .ok (.ifCond .eq 6, 3) := by decide +kernel
theorem dX6_linesUntilBoth_63 : decode cX6_linesUntilBoth 63 = .ok (.iload 4, 2) := by decide +kernel
theorem dX6_linesUntilBoth_65 : decode cX6_linesUntilBoth 65 = .ok (.ireturn, 1) := by decide +kernel
theorem dX6_linesUntilBoth_66 : decode cX6_linesUntilBoth 66 = .ok (.aload_n 0, 1) := by decide +kernel
theorem dX6_linesUntilBoth_67 : decode cX6_linesUntilBoth 67 = .ok (.aload_n 1, 1) := by decide +kernel
theorem dX6_linesUntilBoth_68 : decode cX6_linesUntilBoth 68 = .ok (.iload_n 2, 1) := by decide +kernel
theorem dX6_linesUntilBoth_69 : decode cX6_linesUntilBoth 69 = .ok (.iload_n 3, 1) := by decide +kernel
theorem dX6_linesUntilBoth_70 : decode cX6_linesUntilBoth 70 = .ok (.invokevirtual 85, 3) := by decide +kernel
theorem dX6_linesUntilBoth_73 : decode cX6_linesUntilBoth 73 = .ok (.iinc 4 1, 3) := by decide +kernel
theorem dX6_linesUntilBoth_76 : decode cX6_linesUntilBoth 76 = .ok (.goto (-29), 3) := by decide +kernel
theorem dX6_linesUntilBoth_79 : decode cX6_linesUntilBoth 79 = .ok (.iconst (-1), 1) := by decide +kernel
theorem dX6_linesUntilBoth_80 : decode cX6_linesUntilBoth 80 = .ok (.ireturn, 1) := by decide +kernel
theorem dX6_saidBy_0 : decode cX6_saidBy 0 = .ok (.aload_n 0, 1) := by decide +kernel
theorem dX6_saidBy_1 : decode cX6_saidBy 1 = .ok (.iload_n 1, 1) := by decide +kernel
theorem dX6_saidBy_2 : decode cX6_saidBy 2 = .ok (.invokevirtual 89, 3) := by decide +kernel
theorem dX6_saidBy_5 : decode cX6_saidBy 5 = .ok (.istore 4, 2) := by decide +kernel
theorem dX6_saidBy_7 : decode cX6_saidBy 7 = .ok (.iload 4, 2) := by decide +kernel
theorem dX6_saidBy_9 : decode cX6_saidBy 9 = .ok (.iload_n 2, 1) := by decide +kernel
theorem dX6_saidBy_10 : decode cX6_saidBy 10 = .ok (.if_icmp .ne 7, 3) := by decide +kernel
theorem dX6_saidBy_13 : decode cX6_saidBy 13 = .ok (.iconst 1, 1) := by decide +kernel
theorem dX6_saidBy_14 : decode cX6_saidBy 14 = .ok (.goto 4, 3) := by decide +kernel
theorem dX6_saidBy_17 : decode cX6_saidBy 17 = .ok (.iconst 0, 1) := by decide +kernel
theorem dX6_saidBy_18 : decode cX6_saidBy 18 = .ok (.iload 4, 2) := by decide +kernel
theorem dX6_saidBy_20 : decode cX6_saidBy 20 = .ok (.iload_n 3, 1) := by decide +kernel
theorem dX6_saidBy_21 : decode cX6_saidBy 21 = .ok (.if_icmp .ne 7, 3) := by decide +kernel
theorem dX6_saidBy_24 : decode cX6_saidBy 24 = .ok (.iconst 2, 1) := by decide +kernel
theorem dX6_saidBy_25 : decode cX6_saidBy 25 = .ok (.goto 4, 3) := by decide +kernel
theorem dX6_saidBy_28 : decode cX6_saidBy 28 = .ok (.iconst 0, 1) := by decide +kernel
theorem dX6_saidBy_29 : decode cX6_saidBy 29 = .ok (.ior, 1) := by decide +kernel
theorem dX6_saidBy_30 : decode cX6_saidBy 30 = .ok (.ireturn, 1) := by decide +kernel
theorem dX6_stepTogether_0 : decode cX6_stepTogether 0 = .ok (.iconst 0, 1) := by decide +kernel
theorem dX6_stepTogether_1 : decode cX6_stepTogether 1 = .ok (.istore 4, 2) := by decide +kernel
theorem dX6_stepTogether_3 : decode cX6_stepTogether 3 = .ok (.iload 4, 2) := by decide +kernel
theorem dX6_stepTogether_5 : decode cX6_stepTogether 5 = .ok (.iconst 4, 1) := by decide +kernel
theorem dX6_stepTogether_6 : decode cX6_stepTogether 6 = .ok (.if_icmp .ge 17, 3) := by decide +kernel
theorem dX6_stepTogether_9 : decode cX6_stepTogether 9 = .ok (.aload_n 0, 1) := by decide +kernel
theorem dX6_stepTogether_10 : decode cX6_stepTogether 10 = .ok (.getfield 33, 3) := by decide +kernel
theorem dX6_stepTogether_13 : decode cX6_stepTogether 13 = .ok (.iload 4, 2) := by decide +kernel
theorem dX6_stepTogether_15 : decode cX6_stepTogether 15 = .ok (.iconst 0, 1) := by decide +kernel
theorem dX6_stepTogether_16 : decode cX6_stepTogether 16 = .ok (.iastore, 1) := by decide +kernel
theorem dX6_stepTogether_17 : decode cX6_stepTogether 17 = .ok (.iinc 4 1, 3) := by decide +kernel
theorem dX6_stepTogether_20 : decode cX6_stepTogether 20 = .ok (.goto (-17), 3) := by decide +kernel
theorem dX6_stepTogether_23 : decode cX6_stepTogether 23 = .ok (.iconst 0, 1) := by decide +kernel
theorem dX6_stepTogether_24 : decode cX6_stepTogether 24 = .ok (.istore 4, 2) := by decide +kernel
theorem dX6_stepTogether_26 : decode cX6_stepTogether 26 = .ok (.iload 4, 2) := by decide +kernel
theorem dX6_stepTogether_28 : decode cX6_stepTogether 28 = .ok (.iconst 4, 1) := by decide +kernel
theorem dX6_stepTogether_29 : decode cX6_stepTogether 29 = .ok (.if_icmp .ge 107, 3) := by decide +kernel
theorem dX6_stepTogether_32 : decode cX6_stepTogether 32 = .ok (.iconst 0, 1) := by decide +kernel
theorem dX6_stepTogether_33 : decode cX6_stepTogether 33 = .ok (.istore 5, 2) := by decide +kernel
theorem dX6_stepTogether_35 : decode cX6_stepTogether 35 = .ok (.iload 5, 2) := by decide +kernel
theorem dX6_stepTogether_37 : decode cX6_stepTogether 37 = .ok (.aload_n 1, 1) := by decide +kernel
theorem dX6_stepTogether_38 : decode cX6_stepTogether 38 = .ok (.getfield 40, 3) := by decide +kernel
theorem dX6_stepTogether_41 : decode cX6_stepTogether 41 = .ok (.if_icmp .ge 89, 3) := by decide +kernel
theorem dX6_stepTogether_44 : decode cX6_stepTogether 44 = .ok (.aload_n 0, 1) := by decide +kernel
theorem dX6_stepTogether_45 : decode cX6_stepTogether 45 = .ok (.getfield 30, 3) := by decide +kernel
theorem dX6_stepTogether_48 : decode cX6_stepTogether 48 = .ok (.iload 4, 2) := by decide +kernel
theorem dX6_stepTogether_50 : decode cX6_stepTogether 50 = .ok (.iaload, 1) := by decide +kernel
theorem dX6_stepTogether_51 : decode cX6_stepTogether 51 = .ok (.iload 5, 2) := by decide +kernel
theorem dX6_stepTogether_53 : decode cX6_stepTogether 53 = .ok (.ishr, 1) := by decide +kernel
theorem dX6_stepTogether_54 : decode cX6_stepTogether 54 = .ok (.iconst 1, 1) := by decide +kernel
theorem dX6_stepTogether_55 : decode cX6_stepTogether 55 = .ok (.iand, 1) := by decide +kernel
theorem dX6_stepTogether_56 : decode cX6_stepTogether 56 = .ok (.ifCond .ne 6, 3) := by decide +kernel
theorem dX6_stepTogether_59 : decode cX6_stepTogether 59 = .ok (.goto 65, 3) := by decide +kernel
theorem dX6_stepTogether_62 : decode cX6_stepTogether 62 = .ok (.iconst 0, 1) := by decide +kernel
theorem dX6_stepTogether_63 : decode cX6_stepTogether 63 = .ok (.istore 6, 2) := by decide +kernel
theorem dX6_stepTogether_65 : decode cX6_stepTogether 65 = .ok (.iload 6, 2) := by decide +kernel
theorem dX6_stepTogether_67 : decode cX6_stepTogether 67 = .ok (.aload_n 1, 1) := by decide +kernel
theorem dX6_stepTogether_68 : decode cX6_stepTogether 68 = .ok (.iload 5, 2) := by decide +kernel
theorem dX6_stepTogether_70 : decode cX6_stepTogether 70 = .ok (.invokevirtual 53, 3) := by decide +kernel
theorem dX6_stepTogether_73 : decode cX6_stepTogether 73 = .ok (.if_icmp .ge 51, 3) := by decide +kernel
theorem dX6_stepTogether_76 : decode cX6_stepTogether 76 = .ok (.aload_n 1, 1) := by decide +kernel
theorem dX6_stepTogether_77 : decode cX6_stepTogether 77 = .ok (.iload 5, 2) := by decide +kernel
theorem dX6_stepTogether_79 : decode cX6_stepTogether 79 = .ok (.iload 6, 2) := by decide +kernel
theorem dX6_stepTogether_81 : decode cX6_stepTogether 81 = .ok (.invokevirtual 56, 3) := by decide +kernel
theorem dX6_stepTogether_84 : decode cX6_stepTogether 84 = .ok (.istore 7, 2) := by decide +kernel
theorem dX6_stepTogether_86 : decode cX6_stepTogether 86 = .ok (.aload_n 1, 1) := by decide +kernel
theorem dX6_stepTogether_87 : decode cX6_stepTogether 87 = .ok (.iload 7, 2) := by decide +kernel
theorem dX6_stepTogether_89 : decode cX6_stepTogether 89 = .ok (.invokevirtual 36, 3) := by decide +kernel
theorem dX6_stepTogether_92 : decode cX6_stepTogether 92 = .ok (.ifCond .eq 26, 3) := by decide +kernel
theorem dX6_stepTogether_95 : decode cX6_stepTogether 95 = .ok (.aload_n 0, 1) := by decide +kernel
theorem dX6_stepTogether_96 : decode cX6_stepTogether 96 = .ok (.getfield 33, 3) := by decide +kernel
theorem dX6_stepTogether_99 : decode cX6_stepTogether 99 = .ok (.iload 4, 2) := by decide +kernel
theorem dX6_stepTogether_101 : decode cX6_stepTogether 101 = .ok (.aload_n 1, 1) := by decide +kernel
theorem dX6_stepTogether_102 : decode cX6_stepTogether 102 = .ok (.iload 7, 2) := by decide +kernel
theorem dX6_stepTogether_104 : decode cX6_stepTogether 104 = .ok (.iload_n 2, 1) := by decide +kernel
theorem dX6_stepTogether_105 : decode cX6_stepTogether 105 = .ok (.iload_n 3, 1) := by decide +kernel
theorem dX6_stepTogether_106 : decode cX6_stepTogether 106 = .ok (.invokestatic 81, 3) := by decide +kernel
theorem dX6_stepTogether_109 : decode cX6_stepTogether 109 = .ok (.ior, 1) := by decide +kernel
theorem dX6_stepTogether_110 : decode cX6_stepTogether 110 = .ok (.dup2, 1) := by decide +kernel
theorem dX6_stepTogether_111 : decode cX6_stepTogether 111 = .ok (.iaload, 1) := by decide +kernel
theorem dX6_stepTogether_112 : decode cX6_stepTogether 112 = .ok (.iconst 1, 1) := by decide +kernel
theorem dX6_stepTogether_113 : decode cX6_stepTogether 113 = .ok (.iload 7, 2) := by decide +kernel
theorem dX6_stepTogether_115 : decode cX6_stepTogether 115 = .ok (.ishl, 1) := by decide +kernel
theorem dX6_stepTogether_116 : decode cX6_stepTogether 116 = .ok (.ior, 1) := by decide +kernel
theorem dX6_stepTogether_117 : decode cX6_stepTogether 117 = .ok (.iastore, 1) := by decide +kernel
theorem dX6_stepTogether_118 : decode cX6_stepTogether 118 = .ok (.iinc 6 1, 3) := by decide +kernel
theorem dX6_stepTogether_121 : decode cX6_stepTogether 121 = .ok (.goto (-56), 3) := by decide +kernel
theorem dX6_stepTogether_124 : decode cX6_stepTogether 124 = .ok (.iinc 5 1, 3) := by decide +kernel
theorem dX6_stepTogether_127 : decode cX6_stepTogether 127 = .ok (.goto (-92), 3) := by decide +kernel
theorem dX6_stepTogether_130 : decode cX6_stepTogether 130 = .ok (.iinc 4 1, 3) := by decide +kernel
theorem dX6_stepTogether_133 : decode cX6_stepTogether 133 = .ok (.goto (-107), 3) := by decide +kernel
theorem dX6_stepTogether_136 : decode cX6_stepTogether 136 = .ok (.aload_n 0, 1) := by decide +kernel
theorem dX6_stepTogether_137 : decode cX6_stepTogether 137 = .ok (.getfield 33, 3) := by decide +kernel
theorem dX6_stepTogether_140 : decode cX6_stepTogether 140 = .ok (.iconst 0, 1) := by decide +kernel
theorem dX6_stepTogether_141 : decode cX6_stepTogether 141 = .ok (.aload_n 0, 1) := by decide +kernel
theorem dX6_stepTogether_142 : decode cX6_stepTogether 142 = .ok (.getfield 30, 3) := by decide +kernel
theorem dX6_stepTogether_145 : decode cX6_stepTogether 145 = .ok (.iconst 0, 1) := by decide +kernel
theorem dX6_stepTogether_146 : decode cX6_stepTogether 146 = .ok (.iconst 4, 1) := by decide +kernel
theorem dX6_stepTogether_147 : decode cX6_stepTogether 147 = .ok (.invokestatic 75, 3) := by decide +kernel
theorem dX6_stepTogether_150 : decode cX6_stepTogether 150 = .ok (.return_, 1) := by decide +kernel
theorem dX6_howManyWays_0 : decode cX6_howManyWays 0 = .ok (.aload_n 1, 1) := by decide +kernel
theorem dX6_howManyWays_1 : decode cX6_howManyWays 1 = .ok (.iconst 0, 1) := by decide +kernel
theorem dX6_howManyWays_2 : decode cX6_howManyWays 2 = .ok (.invokevirtual 36, 3) := by decide +kernel
theorem dX6_howManyWays_5 : decode cX6_howManyWays 5 = .ok (.ifCond .ne 5, 3) := by decide +kernel
theorem dX6_howManyWays_8 : decode cX6_howManyWays 8 = .ok (.lconst 0, 1) := by decide +kernel
theorem dX6_howManyWays_9 : decode cX6_howManyWays 9 = .ok (.lreturn, 1) := by decide +kernel
theorem dX6_howManyWays_10 : decode cX6_howManyWays 10 = .ok (.iconst 0, 1) := by decide +kernel
theorem dX6_howManyWays_11 : decode cX6_howManyWays 11 = .ok (.istore_n 3, 1) := by decide +kernel
theorem dX6_howManyWays_12 : decode cX6_howManyWays 12 = .ok (.iload_n 3, 1) := by decide +kernel
theorem dX6_howManyWays_13 : decode cX6_howManyWays 13 = .ok (.bipush 20, 2) := by decide +kernel
theorem dX6_howManyWays_15 : decode cX6_howManyWays 15 = .ok (.if_icmp .ge 16, 3) := by decide +kernel
theorem dX6_howManyWays_18 : decode cX6_howManyWays 18 = .ok (.aload_n 0, 1) := by decide +kernel
theorem dX6_howManyWays_19 : decode cX6_howManyWays 19 = .ok (.getfield 23, 3) := by decide +kernel
theorem dX6_howManyWays_22 : decode cX6_howManyWays 22 = .ok (.iload_n 3, 1) := by decide +kernel
theorem dX6_howManyWays_23 : decode cX6_howManyWays 23 = .ok (.lconst 1, 1) := by decide +kernel
theorem dX6_howManyWays_24 : decode cX6_howManyWays 24 = .ok (.lastore, 1) := by decide +kernel
theorem dX6_howManyWays_25 : decode cX6_howManyWays 25 = .ok (.iinc 3 1, 3) := by decide +kernel
theorem dX6_howManyWays_28 : decode cX6_howManyWays 28 = .ok (.goto (-16), 3) := by decide +kernel
theorem dX6_howManyWays_31 : decode cX6_howManyWays 31 = .ok (.iconst 2, 1) := by decide +kernel
theorem dX6_howManyWays_32 : decode cX6_howManyWays 32 = .ok (.istore_n 3, 1) := by decide +kernel
theorem dX6_howManyWays_33 : decode cX6_howManyWays 33 = .ok (.iload_n 3, 1) := by decide +kernel
theorem dX6_howManyWays_34 : decode cX6_howManyWays 34 = .ok (.iload_n 2, 1) := by decide +kernel
theorem dX6_howManyWays_35 : decode cX6_howManyWays 35 = .ok (.if_icmp .gt 76, 3) := by decide +kernel
theorem dX6_howManyWays_38 : decode cX6_howManyWays 38 = .ok (.iconst 0, 1) := by decide +kernel
theorem dX6_howManyWays_39 : decode cX6_howManyWays 39 = .ok (.istore 4, 2) := by decide +kernel
theorem dX6_howManyWays_41 : decode cX6_howManyWays 41 = .ok (.iload 4, 2) := by decide +kernel
theorem dX6_howManyWays_43 : decode cX6_howManyWays 43 = .ok (.aload_n 1, 1) := by decide +kernel
theorem dX6_howManyWays_44 : decode cX6_howManyWays 44 = .ok (.getfield 40, 3) := by decide +kernel
theorem dX6_howManyWays_47 : decode cX6_howManyWays 47 = .ok (.if_icmp .ge 43, 3) := by decide +kernel
theorem dX6_howManyWays_50 : decode cX6_howManyWays 50 = .ok (.iload 4, 2) := by decide +kernel
theorem dX6_howManyWays_52 : decode cX6_howManyWays 52 = .ok (.bipush 20, 2) := by decide +kernel
theorem dX6_howManyWays_54 : decode cX6_howManyWays 54 = .ok (.if_icmp .ge 36, 3) := by decide +kernel
theorem dX6_howManyWays_57 : decode cX6_howManyWays 57 = .ok (.aload_n 0, 1) := by decide +kernel
theorem dX6_howManyWays_58 : decode cX6_howManyWays 58 = .ok (.getfield 27, 3) := by decide +kernel
theorem dX6_howManyWays_61 : decode cX6_howManyWays 61 = .ok (.iload 4, 2) := by decide +kernel
theorem dX6_howManyWays_63 : decode cX6_howManyWays 63 = .ok (.aload_n 1, 1) := by decide +kernel
theorem dX6_howManyWays_64 : decode cX6_howManyWays 64 = .ok (.iload 4, 2) := by decide +kernel
theorem dX6_howManyWays_66 : decode cX6_howManyWays 66 = .ok (.invokevirtual 53, 3) := by decide +kernel
theorem dX6_howManyWays_69 : decode cX6_howManyWays 69 = .ok (.ifCond .ne 7, 3) := by decide +kernel
theorem dX6_howManyWays_72 : decode cX6_howManyWays 72 = .ok (.lconst 1, 1) := by decide +kernel
theorem dX6_howManyWays_73 : decode cX6_howManyWays 73 = .ok (.goto 10, 3) := by decide +kernel
theorem dX6_howManyWays_76 : decode cX6_howManyWays 76 = .ok (.aload_n 0, 1) := by decide +kernel
theorem dX6_howManyWays_77 : decode cX6_howManyWays 77 = .ok (.aload_n 1, 1) := by decide +kernel
theorem dX6_howManyWays_78 : decode cX6_howManyWays 78 = .ok (.iload 4, 2) := by decide +kernel
theorem dX6_howManyWays_80 : decode cX6_howManyWays 80 = .ok (.invokevirtual 92, 3) := by decide +kernel
theorem dX6_howManyWays_83 : decode cX6_howManyWays 83 = .ok (.lastore, 1) := by decide +kernel
theorem dX6_howManyWays_84 : decode cX6_howManyWays 84 = .ok (.iinc 4 1, 3) := by decide +kernel
theorem dX6_howManyWays_87 : decode cX6_howManyWays 87 = .ok (.goto (-46), 3) := by decide +kernel
theorem dX6_howManyWays_90 : decode cX6_howManyWays 90 = .ok (.aload_n 0, 1) := by decide +kernel
theorem dX6_howManyWays_91 : decode cX6_howManyWays 91 = .ok (.getfield 27, 3) := by decide +kernel
theorem dX6_howManyWays_94 : decode cX6_howManyWays 94 = .ok (.iconst 0, 1) := by decide +kernel
theorem dX6_howManyWays_95 : decode cX6_howManyWays 95 = .ok (.aload_n 0, 1) := by decide +kernel
theorem dX6_howManyWays_96 : decode cX6_howManyWays 96 = .ok (.getfield 23, 3) := by decide +kernel
theorem dX6_howManyWays_99 : decode cX6_howManyWays 99 = .ok (.iconst 0, 1) := by decide +kernel
theorem dX6_howManyWays_100 : decode cX6_howManyWays 100 = .ok (.bipush 20, 2) := by decide +kernel
theorem dX6_howManyWays_102 : decode cX6_howManyWays 102 = .ok (.invokestatic 75, 3) := by decide +kernel
theorem dX6_howManyWays_105 : decode cX6_howManyWays 105 = .ok (.iinc 3 1, 3) := by decide +kernel
theorem dX6_howManyWays_108 : decode cX6_howManyWays 108 = .ok (.goto (-75), 3) := by decide +kernel
theorem dX6_howManyWays_111 : decode cX6_howManyWays 111 = .ok (.aload_n 0, 1) := by decide +kernel
theorem dX6_howManyWays_112 : decode cX6_howManyWays 112 = .ok (.getfield 23, 3) := by decide +kernel
theorem dX6_howManyWays_115 : decode cX6_howManyWays 115 = .ok (.iconst 0, 1) := by decide +kernel
theorem dX6_howManyWays_116 : decode cX6_howManyWays 116 = .ok (.laload, 1) := by decide +kernel
theorem dX6_howManyWays_117 : decode cX6_howManyWays 117 = .ok (.lreturn, 1) := by decide +kernel
theorem dX6_sumOfFollowers_0 : decode cX6_sumOfFollowers 0 = .ok (.lconst 0, 1) := by decide +kernel
theorem dX6_sumOfFollowers_1 : decode cX6_sumOfFollowers 1 = .ok (.lstore_n 3, 1) := by decide +kernel
theorem dX6_sumOfFollowers_2 : decode cX6_sumOfFollowers 2 = .ok (.iconst 0, 1) := by decide +kernel
theorem dX6_sumOfFollowers_3 : decode cX6_sumOfFollowers 3 = .ok (.istore 5, 2) := by decide +kernel
theorem dX6_sumOfFollowers_5 : decode cX6_sumOfFollowers 5 = .ok (.iload 5, 2) := by decide +kernel
theorem dX6_sumOfFollowers_7 : decode cX6_sumOfFollowers 7 = .ok (.aload_n 1, 1) := by decide +kernel
theorem dX6_sumOfFollowers_8 : decode cX6_sumOfFollowers 8 = .ok (.iload_n 2, 1) := by decide +kernel
theorem dX6_sumOfFollowers_9 : decode cX6_sumOfFollowers 9 = .ok (.invokevirtual 53, 3) := by decide +kernel
theorem dX6_sumOfFollowers_12 : decode cX6_sumOfFollowers 12 = .ok (.if_icmp .ge 41, 3) := by decide +kernel
theorem dX6_sumOfFollowers_15 : decode cX6_sumOfFollowers 15 = .ok (.aload_n 1, 1) := by decide +kernel
theorem dX6_sumOfFollowers_16 : decode cX6_sumOfFollowers 16 = .ok (.iload_n 2, 1) := by decide +kernel
theorem dX6_sumOfFollowers_17 : decode cX6_sumOfFollowers 17 = .ok (.iload 5, 2) := by decide +kernel
theorem dX6_sumOfFollowers_19 : decode cX6_sumOfFollowers 19 = .ok (.invokevirtual 56, 3) := by decide +kernel
theorem dX6_sumOfFollowers_22 : decode cX6_sumOfFollowers 22 = .ok (.istore 6, 2) := by decide +kernel
theorem dX6_sumOfFollowers_24 : decode cX6_sumOfFollowers 24 = .ok (.lload_n 3, 1) := by decide +kernel
theorem dX6_sumOfFollowers_25 : decode cX6_sumOfFollowers 25 = .ok (.aload_n 1, 1) := by decide +kernel
theorem dX6_sumOfFollowers_26 : decode cX6_sumOfFollowers 26 = .ok (.iload 6, 2) := by decide +kernel
theorem dX6_sumOfFollowers_28 : decode cX6_sumOfFollowers 28 = .ok (.invokevirtual 36, 3) := by decide +kernel
theorem dX6_sumOfFollowers_31 : decode cX6_sumOfFollowers 31 = .ok (.ifCond .eq 13, 3) := by decide +kernel
theorem dX6_sumOfFollowers_34 : decode cX6_sumOfFollowers 34 = .ok (.aload_n 0, 1) := by decide +kernel
theorem dX6_sumOfFollowers_35 : decode cX6_sumOfFollowers 35 = .ok (.getfield 23, 3) := by decide +kernel
theorem dX6_sumOfFollowers_38 : decode cX6_sumOfFollowers 38 = .ok (.iload 6, 2) := by decide +kernel
theorem dX6_sumOfFollowers_40 : decode cX6_sumOfFollowers 40 = .ok (.laload, 1) := by decide +kernel
theorem dX6_sumOfFollowers_41 : decode cX6_sumOfFollowers 41 = .ok (.goto 4, 3) := by decide +kernel
theorem dX6_sumOfFollowers_44 : decode cX6_sumOfFollowers 44 = .ok (.lconst 0, 1) := by decide +kernel
theorem dX6_sumOfFollowers_45 : decode cX6_sumOfFollowers 45 = .ok (.ladd, 1) := by decide +kernel
theorem dX6_sumOfFollowers_46 : decode cX6_sumOfFollowers 46 = .ok (.lstore_n 3, 1) := by decide +kernel
theorem dX6_sumOfFollowers_47 : decode cX6_sumOfFollowers 47 = .ok (.iinc 5 1, 3) := by decide +kernel
theorem dX6_sumOfFollowers_50 : decode cX6_sumOfFollowers 50 = .ok (.goto (-45), 3) := by decide +kernel
theorem dX6_sumOfFollowers_53 : decode cX6_sumOfFollowers 53 = .ok (.lload_n 3, 1) := by decide +kernel
theorem dX6_sumOfFollowers_54 : decode cX6_sumOfFollowers 54 = .ok (.lreturn, 1) := by decide +kernel
theorem dX6_harmOfWay_0 : decode cX6_harmOfWay 0 = .ok (.iconst 0, 1) := by decide +kernel
theorem dX6_harmOfWay_1 : decode cX6_harmOfWay 1 = .ok (.istore 5, 2) := by decide +kernel
theorem dX6_harmOfWay_3 : decode cX6_harmOfWay 3 = .ok (.iload 5, 2) := by decide +kernel
theorem dX6_harmOfWay_5 : decode cX6_harmOfWay 5 = .ok (.sipush 200, 3) := by decide +kernel
theorem dX6_harmOfWay_8 : decode cX6_harmOfWay 8 = .ok (.if_icmp .ge 25, 3) := by decide +kernel
theorem dX6_harmOfWay_11 : decode cX6_harmOfWay 11 = .ok (.aload_n 0, 1) := by decide +kernel
theorem dX6_harmOfWay_12 : decode cX6_harmOfWay 12 = .ok (.getfield 17, 3) := by decide +kernel
theorem dX6_harmOfWay_15 : decode cX6_harmOfWay 15 = .ok (.iload 5, 2) := by decide +kernel
theorem dX6_harmOfWay_17 : decode cX6_harmOfWay 17 = .ok (.aload_n 1, 1) := by decide +kernel
theorem dX6_harmOfWay_18 : decode cX6_harmOfWay 18 = .ok (.iload 5, 2) := by decide +kernel
theorem dX6_harmOfWay_20 : decode cX6_harmOfWay 20 = .ok (.bipush 10, 2) := by decide +kernel
theorem dX6_harmOfWay_22 : decode cX6_harmOfWay 22 = .ok (.idiv, 1) := by decide +kernel
theorem dX6_harmOfWay_23 : decode cX6_harmOfWay 23 = .ok (.invokevirtual 96, 3) := by decide +kernel
theorem dX6_harmOfWay_26 : decode cX6_harmOfWay 26 = .ok (.iastore, 1) := by decide +kernel
theorem dX6_harmOfWay_27 : decode cX6_harmOfWay 27 = .ok (.iinc 5 1, 3) := by decide +kernel
theorem dX6_harmOfWay_30 : decode cX6_harmOfWay 30 = .ok (.goto (-27), 3) := by decide +kernel
theorem dX6_harmOfWay_33 : decode cX6_harmOfWay 33 = .ok (.iconst 2, 1) := by decide +kernel
theorem dX6_harmOfWay_34 : decode cX6_harmOfWay 34 = .ok (.istore 5, 2) := by decide +kernel
theorem dX6_harmOfWay_36 : decode cX6_harmOfWay 36 = .ok (.iload 5, 2) := by decide +kernel
theorem dX6_harmOfWay_38 : decode cX6_harmOfWay 38 = .ok (.iload_n 2, 1) := by decide +kernel
theorem dX6_harmOfWay_39 : decode cX6_harmOfWay 39 = .ok (.if_icmp .gt 89, 3) := by decide +kernel
theorem dX6_harmOfWay_42 : decode cX6_harmOfWay 42 = .ok (.iconst 0, 1) := by decide +kernel
theorem dX6_harmOfWay_43 : decode cX6_harmOfWay 43 = .ok (.istore 6, 2) := by decide +kernel
theorem dX6_harmOfWay_45 : decode cX6_harmOfWay 45 = .ok (.iload 6, 2) := by decide +kernel
theorem dX6_harmOfWay_47 : decode cX6_harmOfWay 47 = .ok (.aload_n 1, 1) := by decide +kernel
theorem dX6_harmOfWay_48 : decode cX6_harmOfWay 48 = .ok (.getfield 40, 3) := by decide +kernel
theorem dX6_harmOfWay_51 : decode cX6_harmOfWay 51 = .ok (.bipush 10, 2) := by decide +kernel
theorem dX6_harmOfWay_53 : decode cX6_harmOfWay 53 = .ok (.imul, 1) := by decide +kernel
theorem dX6_harmOfWay_54 : decode cX6_harmOfWay 54 = .ok (.if_icmp .ge 52, 3) := by decide +kernel
theorem dX6_harmOfWay_57 : decode cX6_harmOfWay 57 = .ok (.iload 6, 2) := by decide +kernel
theorem dX6_harmOfWay_59 : decode cX6_harmOfWay 59 = .ok (.sipush 200, 3) := by decide +kernel
theorem dX6_harmOfWay_62 : decode cX6_harmOfWay 62 = .ok (.if_icmp .ge 44, 3) := by decide +kernel
theorem dX6_harmOfWay_65 : decode cX6_harmOfWay 65 = .ok (.iload 6, 2) := by decide +kernel
theorem dX6_harmOfWay_67 : decode cX6_harmOfWay 67 = .ok (.bipush 10, 2) := by decide +kernel
theorem dX6_harmOfWay_69 : decode cX6_harmOfWay 69 = .ok (.idiv, 1) := by decide +kernel
theorem dX6_harmOfWay_70 : decode cX6_harmOfWay 70 = .ok (.istore 7, 2) := by decide +kernel
theorem dX6_harmOfWay_72 : decode cX6_harmOfWay 72 = .ok (.aload_n 0, 1) := by decide +kernel
theorem dX6_harmOfWay_73 : decode cX6_harmOfWay 73 = .ok (.getfield 20, 3) := by decide +kernel
theorem dX6_harmOfWay_76 : decode cX6_harmOfWay 76 = .ok (.iload 6, 2) := by decide +kernel
theorem dX6_harmOfWay_78 : decode cX6_harmOfWay 78 = .ok (.aload_n 1, 1) := by decide +kernel
theorem dX6_harmOfWay_79 : decode cX6_harmOfWay 79 = .ok (.iload 7, 2) := by decide +kernel
theorem dX6_harmOfWay_81 : decode cX6_harmOfWay 81 = .ok (.invokevirtual 96, 3) := by decide +kernel
theorem dX6_harmOfWay_84 : decode cX6_harmOfWay 84 = .ok (.aload_n 0, 1) := by decide +kernel
theorem dX6_harmOfWay_85 : decode cX6_harmOfWay 85 = .ok (.aload_n 1, 1) := by decide +kernel
theorem dX6_harmOfWay_86 : decode cX6_harmOfWay 86 = .ok (.iload 7, 2) := by decide +kernel
theorem dX6_harmOfWay_88 : decode cX6_harmOfWay 88 = .ok (.iload 6, 2) := by decide +kernel
theorem dX6_harmOfWay_90 : decode cX6_harmOfWay 90 = .ok (.bipush 10, 2) := by decide +kernel
theorem dX6_harmOfWay_92 : decode cX6_harmOfWay 92 = .ok (.irem, 1) := by decide +kernel
theorem dX6_harmOfWay_93 : decode cX6_harmOfWay 93 = .ok (.iload 4, 2) := by decide +kernel
theorem dX6_harmOfWay_95 : decode cX6_harmOfWay 95 = .ok (.invokevirtual 99, 3) := by decide +kernel
theorem dX6_harmOfWay_98 : decode cX6_harmOfWay 98 = .ok (.iadd, 1) := by decide +kernel
theorem dX6_harmOfWay_99 : decode cX6_harmOfWay 99 = .ok (.iastore, 1) := by decide +kernel
theorem dX6_harmOfWay_100 : decode cX6_harmOfWay 100 = .ok (.iinc 6 1, 3) := by decide +kernel
theorem dX6_harmOfWay_103 : decode cX6_harmOfWay 103 = .ok (.goto (-58), 3) := by decide +kernel
theorem dX6_harmOfWay_106 : decode cX6_harmOfWay 106 = .ok (.aload_n 0, 1) := by decide +kernel
theorem dX6_harmOfWay_107 : decode cX6_harmOfWay 107 = .ok (.getfield 20, 3) := by decide +kernel
theorem dX6_harmOfWay_110 : decode cX6_harmOfWay 110 = .ok (.iconst 0, 1) := by decide +kernel
theorem dX6_harmOfWay_111 : decode cX6_harmOfWay 111 = .ok (.aload_n 0, 1) := by decide +kernel
theorem dX6_harmOfWay_112 : decode cX6_harmOfWay 112 = .ok (.getfield 17, 3) := by decide +kernel
theorem dX6_harmOfWay_115 : decode cX6_harmOfWay 115 = .ok (.iconst 0, 1) := by decide +kernel
theorem dX6_harmOfWay_116 : decode cX6_harmOfWay 116 = .ok (.sipush 200, 3) := by decide +kernel
theorem dX6_harmOfWay_119 : decode cX6_harmOfWay 119 = .ok (.invokestatic 75, 3) := by decide +kernel
theorem dX6_harmOfWay_122 : decode cX6_harmOfWay 122 = .ok (.iinc 5 1, 3) := by decide +kernel
theorem dX6_harmOfWay_125 : decode cX6_harmOfWay 125 = .ok (.goto (-89), 3) := by decide +kernel
theorem dX6_harmOfWay_128 : decode cX6_harmOfWay 128 = .ok (.iload_n 3, 1) := by decide +kernel
theorem dX6_harmOfWay_129 : decode cX6_harmOfWay 129 = .ok (.ifCond .lt 18, 3) := by decide +kernel
theorem dX6_harmOfWay_132 : decode cX6_harmOfWay 132 = .ok (.iload_n 3, 1) := by decide +kernel
theorem dX6_harmOfWay_133 : decode cX6_harmOfWay 133 = .ok (.bipush 10, 2) := by decide +kernel
theorem dX6_harmOfWay_135 : decode cX6_harmOfWay 135 = .ok (.if_icmp .ge 12, 3) := by decide +kernel
theorem dX6_harmOfWay_138 : decode cX6_harmOfWay 138 = .ok (.aload_n 0, 1) := by decide +kernel
theorem dX6_harmOfWay_139 : decode cX6_harmOfWay 139 = .ok (.getfield 17, 3) := by decide +kernel
theorem dX6_harmOfWay_142 : decode cX6_harmOfWay 142 = .ok (.iload_n 3, 1) := by decide +kernel
theorem dX6_harmOfWay_143 : decode cX6_harmOfWay 143 = .ok (.iaload, 1) := by decide +kernel
theorem dX6_harmOfWay_144 : decode cX6_harmOfWay 144 = .ok (.goto 4, 3) := by decide +kernel
theorem dX6_harmOfWay_147 : decode cX6_harmOfWay 147 = .ok (.iconst (-1), 1) := by decide +kernel
theorem dX6_harmOfWay_148 : decode cX6_harmOfWay 148 = .ok (.ireturn, 1) := by decide +kernel
theorem dX6_harmBehind_0 : decode cX6_harmBehind 0 = .ok (.iconst (-1), 1) := by decide +kernel
theorem dX6_harmBehind_1 : decode cX6_harmBehind 1 = .ok (.istore 5, 2) := by decide +kernel
theorem dX6_harmBehind_3 : decode cX6_harmBehind 3 = .ok (.iconst 0, 1) := by decide +kernel
theorem dX6_harmBehind_4 : decode cX6_harmBehind 4 = .ok (.istore 6, 2) := by decide +kernel
theorem dX6_harmBehind_6 : decode cX6_harmBehind 6 = .ok (.iload 6, 2) := by decide +kernel
theorem dX6_harmBehind_8 : decode cX6_harmBehind 8 = .ok (.aload_n 1, 1) := by decide +kernel
theorem dX6_harmBehind_9 : decode cX6_harmBehind 9 = .ok (.iload_n 2, 1) := by decide +kernel
theorem dX6_harmBehind_10 : decode cX6_harmBehind 10 = .ok (.invokevirtual 53, 3) := by decide +kernel
theorem dX6_harmBehind_13 : decode cX6_harmBehind 13 = .ok (.if_icmp .ge 100, 3) := by decide +kernel
theorem dX6_harmBehind_16 : decode cX6_harmBehind 16 = .ok (.aload_n 1, 1) := by decide +kernel
theorem dX6_harmBehind_17 : decode cX6_harmBehind 17 = .ok (.iload_n 2, 1) := by decide +kernel
theorem dX6_harmBehind_18 : decode cX6_harmBehind 18 = .ok (.iload 6, 2) := by decide +kernel
theorem dX6_harmBehind_20 : decode cX6_harmBehind 20 = .ok (.invokevirtual 56, 3) := by decide +kernel
theorem dX6_harmBehind_23 : decode cX6_harmBehind 23 = .ok (.istore 7, 2) := by decide +kernel
theorem dX6_harmBehind_25 : decode cX6_harmBehind 25 = .ok (.iload_n 3, 1) := by decide +kernel
theorem dX6_harmBehind_26 : decode cX6_harmBehind 26 = .ok (.aload_n 1, 1) := by decide +kernel
theorem dX6_harmBehind_27 : decode cX6_harmBehind 27 = .ok (.iload_n 2, 1) := by decide +kernel
theorem dX6_harmBehind_28 : decode cX6_harmBehind 28 = .ok (.iload 7, 2) := by decide +kernel
theorem dX6_harmBehind_30 : decode cX6_harmBehind 30 = .ok (.invokevirtual 63, 3) := by decide +kernel
theorem dX6_harmBehind_33 : decode cX6_harmBehind 33 = .ok (.isub, 1) := by decide +kernel
theorem dX6_harmBehind_34 : decode cX6_harmBehind 34 = .ok (.istore 8, 2) := by decide +kernel
theorem dX6_harmBehind_36 : decode cX6_harmBehind 36 = .ok (.iload 8, 2) := by decide +kernel
theorem dX6_harmBehind_38 : decode cX6_harmBehind 38 = .ok (.ifCond .lt 69, 3) := by decide +kernel
theorem dX6_harmBehind_41 : decode cX6_harmBehind 41 = .ok (.iload 8, 2) := by decide +kernel
theorem dX6_harmBehind_43 : decode cX6_harmBehind 43 = .ok (.bipush 10, 2) := by decide +kernel
theorem dX6_harmBehind_45 : decode cX6_harmBehind 45 = .ok (.if_icmp .ge 62, 3) := by decide +kernel
theorem dX6_harmBehind_48 : decode cX6_harmBehind 48 = .ok (.aload_n 1, 1) := by decide +kernel
theorem dX6_harmBehind_49 : decode cX6_harmBehind 49 = .ok (.iload 7, 2) := by decide +kernel
theorem dX6_harmBehind_51 : decode cX6_harmBehind 51 = .ok (.invokevirtual 36, 3) := by decide +kernel
theorem dX6_harmBehind_54 : decode cX6_harmBehind 54 = .ok (.ifCond .ne 6, 3) := by decide +kernel
theorem dX6_harmBehind_57 : decode cX6_harmBehind 57 = .ok (.goto 50, 3) := by decide +kernel
theorem dX6_harmBehind_60 : decode cX6_harmBehind 60 = .ok (.aload_n 0, 1) := by decide +kernel
theorem dX6_harmBehind_61 : decode cX6_harmBehind 61 = .ok (.getfield 17, 3) := by decide +kernel
theorem dX6_harmBehind_64 : decode cX6_harmBehind 64 = .ok (.iload 7, 2) := by decide +kernel
theorem dX6_harmBehind_66 : decode cX6_harmBehind 66 = .ok (.bipush 10, 2) := by decide +kernel
theorem dX6_harmBehind_68 : decode cX6_harmBehind 68 = .ok (.imul, 1) := by decide +kernel
theorem dX6_harmBehind_69 : decode cX6_harmBehind 69 = .ok (.iload 8, 2) := by decide +kernel
theorem dX6_harmBehind_71 : decode cX6_harmBehind 71 = .ok (.iadd, 1) := by decide +kernel
theorem dX6_harmBehind_72 : decode cX6_harmBehind 72 = .ok (.iaload, 1) := by decide +kernel
theorem dX6_harmBehind_73 : decode cX6_harmBehind 73 = .ok (.istore 9, 2) := by decide +kernel
theorem dX6_harmBehind_75 : decode cX6_harmBehind 75 = .ok (.iload 5, 2) := by decide +kernel
theorem dX6_harmBehind_77 : decode cX6_harmBehind 77 = .ok (.iconst (-1), 1) := by decide +kernel
theorem dX6_harmBehind_78 : decode cX6_harmBehind 78 = .ok (.if_icmp .eq 25, 3) := by decide +kernel
theorem dX6_harmBehind_81 : decode cX6_harmBehind 81 = .ok (.iload 4, 2) := by decide +kernel
theorem dX6_harmBehind_83 : decode cX6_harmBehind 83 = .ok (.ifCond .eq 13, 3) := by decide +kernel
theorem dX6_harmBehind_86 : decode cX6_harmBehind 86 = .ok (.iload 9, 2) := by decide +kernel
theorem dX6_harmBehind_88 : decode cX6_harmBehind 88 = .ok (.iload 5, 2) := by decide +kernel
theorem dX6_harmBehind_90 : decode cX6_harmBehind 90 = .ok (.if_icmp .ge 17, 3) := by decide +kernel
theorem dX6_harmBehind_93 : decode cX6_harmBehind 93 = .ok (.goto 10, 3) := by decide +kernel
theorem dX6_harmBehind_96 : decode cX6_harmBehind 96 = .ok (.iload 9, 2) := by decide +kernel
theorem dX6_harmBehind_98 : decode cX6_harmBehind 98 = .ok (.iload 5, 2) := by decide +kernel
theorem dX6_harmBehind_100 : decode cX6_harmBehind 100 = .ok (.if_icmp .le 7, 3) := by decide +kernel
theorem dX6_harmBehind_103 : decode cX6_harmBehind 103 = .ok (.iload 9, 2) := by decide +kernel
theorem dX6_harmBehind_105 : decode cX6_harmBehind 105 = .ok (.istore 5, 2) := by decide +kernel
theorem dX6_harmBehind_107 : decode cX6_harmBehind 107 = .ok (.iinc 6 1, 3) := by decide +kernel
theorem dX6_harmBehind_110 : decode cX6_harmBehind 110 = .ok (.goto (-104), 3) := by decide +kernel
theorem dX6_harmBehind_113 : decode cX6_harmBehind 113 = .ok (.iload 5, 2) := by decide +kernel
theorem dX6_harmBehind_115 : decode cX6_harmBehind 115 = .ok (.iconst (-1), 1) := by decide +kernel
theorem dX6_harmBehind_116 : decode cX6_harmBehind 116 = .ok (.if_icmp .ne 7, 3) := by decide +kernel
theorem dX6_harmBehind_119 : decode cX6_harmBehind 119 = .ok (.iconst 0, 1) := by decide +kernel
theorem dX6_harmBehind_120 : decode cX6_harmBehind 120 = .ok (.goto 5, 3) := by decide +kernel
theorem dX6_harmBehind_123 : decode cX6_harmBehind 123 = .ok (.iload 5, 2) := by decide +kernel
theorem dX6_harmBehind_125 : decode cX6_harmBehind 125 = .ok (.ireturn, 1) := by decide +kernel
theorem dX6_canBeSaid_0 : decode cX6_canBeSaid 0 = .ok (.aload_n 1, 1) := by decide +kernel
theorem dX6_canBeSaid_1 : decode cX6_canBeSaid 1 = .ok (.iconst 0, 1) := by decide +kernel
theorem dX6_canBeSaid_2 : decode cX6_canBeSaid 2 = .ok (.iload_n 2, 1) := by decide +kernel
theorem dX6_canBeSaid_3 : decode cX6_canBeSaid 3 = .ok (.iload_n 3, 1) := by decide +kernel
theorem dX6_canBeSaid_4 : decode cX6_canBeSaid 4 = .ok (.invokestatic 103, 3) := by decide +kernel
theorem dX6_canBeSaid_7 : decode cX6_canBeSaid 7 = .ok (.ifCond .eq 7, 3) := by decide +kernel
theorem dX6_canBeSaid_10 : decode cX6_canBeSaid 10 = .ok (.iconst 1, 1) := by decide +kernel
theorem dX6_canBeSaid_11 : decode cX6_canBeSaid 11 = .ok (.goto 4, 3) := by decide +kernel
theorem dX6_canBeSaid_14 : decode cX6_canBeSaid 14 = .ok (.iconst 0, 1) := by decide +kernel
theorem dX6_canBeSaid_15 : decode cX6_canBeSaid 15 = .ok (.istore 4, 2) := by decide +kernel
theorem dX6_canBeSaid_17 : decode cX6_canBeSaid 17 = .ok (.iconst 0, 1) := by decide +kernel
theorem dX6_canBeSaid_18 : decode cX6_canBeSaid 18 = .ok (.istore 5, 2) := by decide +kernel
theorem dX6_canBeSaid_20 : decode cX6_canBeSaid 20 = .ok (.iconst 0, 1) := by decide +kernel
theorem dX6_canBeSaid_21 : decode cX6_canBeSaid 21 = .ok (.istore 6, 2) := by decide +kernel
theorem dX6_canBeSaid_23 : decode cX6_canBeSaid 23 = .ok (.iload 6, 2) := by decide +kernel
theorem dX6_canBeSaid_25 : decode cX6_canBeSaid 25 = .ok (.aload_n 1, 1) := by decide +kernel
theorem dX6_canBeSaid_26 : decode cX6_canBeSaid 26 = .ok (.getfield 40, 3) := by decide +kernel
theorem dX6_canBeSaid_29 : decode cX6_canBeSaid 29 = .ok (.if_icmp .ge 112, 3) := by decide +kernel
theorem dX6_canBeSaid_32 : decode cX6_canBeSaid 32 = .ok (.iload 5, 2) := by decide +kernel
theorem dX6_canBeSaid_34 : decode cX6_canBeSaid 34 = .ok (.iload 4, 2) := by decide +kernel
theorem dX6_canBeSaid_36 : decode cX6_canBeSaid 36 = .ok (.if_icmp .eq 105, 3) := by decide +kernel
theorem dX6_canBeSaid_39 : decode cX6_canBeSaid 39 = .ok (.iload 4, 2) := by decide +kernel
theorem dX6_canBeSaid_41 : decode cX6_canBeSaid 41 = .ok (.iload 5, 2) := by decide +kernel
theorem dX6_canBeSaid_43 : decode cX6_canBeSaid 43 = .ok (.iconst (-1), 1) := by decide +kernel
theorem dX6_canBeSaid_44 : decode cX6_canBeSaid 44 = .ok (.ixor, 1) := by decide +kernel
theorem dX6_canBeSaid_45 : decode cX6_canBeSaid 45 = .ok (.iand, 1) := by decide +kernel
theorem dX6_canBeSaid_46 : decode cX6_canBeSaid 46 = .ok (.istore 7, 2) := by decide +kernel
theorem dX6_canBeSaid_48 : decode cX6_canBeSaid 48 = .ok (.iload 4, 2) := by decide +kernel
theorem dX6_canBeSaid_50 : decode cX6_canBeSaid 50 = .ok (.istore 5, 2) := by decide +kernel
theorem dX6_canBeSaid_52 : decode cX6_canBeSaid 52 = .ok (.iconst 0, 1) := by decide +kernel
theorem dX6_canBeSaid_53 : decode cX6_canBeSaid 53 = .ok (.istore 8, 2) := by decide +kernel
theorem dX6_canBeSaid_55 : decode cX6_canBeSaid 55 = .ok (.iload 8, 2) := by decide +kernel
theorem dX6_canBeSaid_57 : decode cX6_canBeSaid 57 = .ok (.aload_n 1, 1) := by decide +kernel
theorem dX6_canBeSaid_58 : decode cX6_canBeSaid 58 = .ok (.getfield 40, 3) := by decide +kernel
theorem dX6_canBeSaid_61 : decode cX6_canBeSaid 61 = .ok (.if_icmp .ge 74, 3) := by decide +kernel
theorem dX6_canBeSaid_64 : decode cX6_canBeSaid 64 = .ok (.iconst 0, 1) := by decide +kernel
theorem dX6_canBeSaid_65 : decode cX6_canBeSaid 65 = .ok (.istore 9, 2) := by decide +kernel
theorem dX6_canBeSaid_67 : decode cX6_canBeSaid 67 = .ok (.iload 7, 2) := by decide +kernel
theorem dX6_canBeSaid_69 : decode cX6_canBeSaid 69 = .ok (.iload 8, 2) := by decide +kernel
theorem dX6_canBeSaid_71 : decode cX6_canBeSaid 71 = .ok (.ishr, 1) := by decide +kernel
theorem dX6_canBeSaid_72 : decode cX6_canBeSaid 72 = .ok (.iconst 1, 1) := by decide +kernel
theorem dX6_canBeSaid_73 : decode cX6_canBeSaid 73 = .ok (.iand, 1) := by decide +kernel
theorem dX6_canBeSaid_74 : decode cX6_canBeSaid 74 = .ok (.iconst 1, 1) := by decide +kernel
theorem dX6_canBeSaid_75 : decode cX6_canBeSaid 75 = .ok (.if_icmp .ne 54, 3) := by decide +kernel
theorem dX6_canBeSaid_78 : decode cX6_canBeSaid 78 = .ok (.iload 9, 2) := by decide +kernel
theorem dX6_canBeSaid_80 : decode cX6_canBeSaid 80 = .ok (.aload_n 1, 1) := by decide +kernel
theorem dX6_canBeSaid_81 : decode cX6_canBeSaid 81 = .ok (.iload 8, 2) := by decide +kernel
theorem dX6_canBeSaid_83 : decode cX6_canBeSaid 83 = .ok (.invokevirtual 53, 3) := by decide +kernel
theorem dX6_canBeSaid_86 : decode cX6_canBeSaid 86 = .ok (.if_icmp .ge 43, 3) := by decide +kernel
theorem dX6_canBeSaid_89 : decode cX6_canBeSaid 89 = .ok (.aload_n 1, 1) := by decide +kernel
theorem dX6_canBeSaid_90 : decode cX6_canBeSaid 90 = .ok (.iload 8, 2) := by decide +kernel
theorem dX6_canBeSaid_92 : decode cX6_canBeSaid 92 = .ok (.iload 9, 2) := by decide +kernel
theorem dX6_canBeSaid_94 : decode cX6_canBeSaid 94 = .ok (.invokevirtual 56, 3) := by decide +kernel
theorem dX6_canBeSaid_97 : decode cX6_canBeSaid 97 = .ok (.istore 10, 2) := by decide +kernel
theorem dX6_canBeSaid_99 : decode cX6_canBeSaid 99 = .ok (.iload 4, 2) := by decide +kernel
theorem dX6_canBeSaid_101 : decode cX6_canBeSaid 101 = .ok (.aload_n 1, 1) := by decide +kernel
theorem dX6_canBeSaid_102 : decode cX6_canBeSaid 102 = .ok (.iload 10, 2) := by decide +kernel
theorem dX6_canBeSaid_104 : decode cX6_canBeSaid 104 = .ok (.iload_n 2, 1) := by decide +kernel
theorem dX6_canBeSaid_105 : decode cX6_canBeSaid 105 = .ok (.iload_n 3, 1) := by decide +kernel
theorem dX6_canBeSaid_106 : decode cX6_canBeSaid 106 = .ok (.invokestatic 103, 3) := by decide +kernel
theorem dX6_canBeSaid_109 : decode cX6_canBeSaid 109 = .ok (.ifCond .eq 10, 3) := by decide +kernel
theorem dX6_canBeSaid_112 : decode cX6_canBeSaid 112 = .ok (.iconst 1, 1) := by decide +kernel
theorem dX6_canBeSaid_113 : decode cX6_canBeSaid 113 = .ok (.iload 10, 2) := by decide +kernel
theorem dX6_canBeSaid_115 : decode cX6_canBeSaid 115 = .ok (.ishl, 1) := by decide +kernel
theorem dX6_canBeSaid_116 : decode cX6_canBeSaid 116 = .ok (.goto 4, 3) := by decide +kernel
theorem dX6_canBeSaid_119 : decode cX6_canBeSaid 119 = .ok (.iconst 0, 1) := by decide +kernel
theorem dX6_canBeSaid_120 : decode cX6_canBeSaid 120 = .ok (.ior, 1) := by decide +kernel
theorem dX6_canBeSaid_121 : decode cX6_canBeSaid 121 = .ok (.istore 4, 2) := by decide +kernel
theorem dX6_canBeSaid_123 : decode cX6_canBeSaid 123 = .ok (.iinc 9 1, 3) := by decide +kernel
theorem dX6_canBeSaid_126 : decode cX6_canBeSaid 126 = .ok (.goto (-59), 3) := by decide +kernel
theorem dX6_canBeSaid_129 : decode cX6_canBeSaid 129 = .ok (.iinc 8 1, 3) := by decide +kernel
theorem dX6_canBeSaid_132 : decode cX6_canBeSaid 132 = .ok (.goto (-77), 3) := by decide +kernel
theorem dX6_canBeSaid_135 : decode cX6_canBeSaid 135 = .ok (.iinc 6 1, 3) := by decide +kernel
theorem dX6_canBeSaid_138 : decode cX6_canBeSaid 138 = .ok (.goto (-115), 3) := by decide +kernel
theorem dX6_canBeSaid_141 : decode cX6_canBeSaid 141 = .ok (.iload 4, 2) := by decide +kernel
theorem dX6_canBeSaid_143 : decode cX6_canBeSaid 143 = .ok (.ireturn, 1) := by decide +kernel
theorem dX6_mayBeSaid_0 : decode cX6_mayBeSaid 0 = .ok (.aload_n 0, 1) := by decide +kernel
theorem dX6_mayBeSaid_1 : decode cX6_mayBeSaid 1 = .ok (.iload_n 1, 1) := by decide +kernel
theorem dX6_mayBeSaid_2 : decode cX6_mayBeSaid 2 = .ok (.invokevirtual 36, 3) := by decide +kernel
theorem dX6_mayBeSaid_5 : decode cX6_mayBeSaid 5 = .ok (.ifCond .eq 24, 3) := by decide +kernel
theorem dX6_mayBeSaid_8 : decode cX6_mayBeSaid 8 = .ok (.iload_n 1, 1) := by decide +kernel
theorem dX6_mayBeSaid_9 : decode cX6_mayBeSaid 9 = .ok (.iload_n 3, 1) := by decide +kernel
theorem dX6_mayBeSaid_10 : decode cX6_mayBeSaid 10 = .ok (.if_icmp .eq 19, 3) := by decide +kernel
theorem dX6_mayBeSaid_13 : decode cX6_mayBeSaid 13 = .ok (.iload_n 2, 1) := by decide +kernel
theorem dX6_mayBeSaid_14 : decode cX6_mayBeSaid 14 = .ok (.aload_n 0, 1) := by decide +kernel
theorem dX6_mayBeSaid_15 : decode cX6_mayBeSaid 15 = .ok (.iload_n 1, 1) := by decide +kernel
theorem dX6_mayBeSaid_16 : decode cX6_mayBeSaid 16 = .ok (.invokevirtual 89, 3) := by decide +kernel
theorem dX6_mayBeSaid_19 : decode cX6_mayBeSaid 19 = .ok (.ishr, 1) := by decide +kernel
theorem dX6_mayBeSaid_20 : decode cX6_mayBeSaid 20 = .ok (.iconst 1, 1) := by decide +kernel
theorem dX6_mayBeSaid_21 : decode cX6_mayBeSaid 21 = .ok (.iand, 1) := by decide +kernel
theorem dX6_mayBeSaid_22 : decode cX6_mayBeSaid 22 = .ok (.ifCond .ne 7, 3) := by decide +kernel
theorem dX6_mayBeSaid_25 : decode cX6_mayBeSaid 25 = .ok (.iconst 1, 1) := by decide +kernel
theorem dX6_mayBeSaid_26 : decode cX6_mayBeSaid 26 = .ok (.goto 4, 3) := by decide +kernel
theorem dX6_mayBeSaid_29 : decode cX6_mayBeSaid 29 = .ok (.iconst 0, 1) := by decide +kernel
theorem dX6_mayBeSaid_30 : decode cX6_mayBeSaid 30 = .ok (.ireturn, 1) := by decide +kernel
theorem dX6_linesOf_0 : decode cX6_linesOf 0 = .ok (.iconst 0, 1) := by decide +kernel
theorem dX6_linesOf_1 : decode cX6_linesOf 1 = .ok (.istore_n 2, 1) := by decide +kernel
theorem dX6_linesOf_2 : decode cX6_linesOf 2 = .ok (.iconst 0, 1) := by decide +kernel
theorem dX6_linesOf_3 : decode cX6_linesOf 3 = .ok (.istore_n 3, 1) := by decide +kernel
theorem dX6_linesOf_4 : decode cX6_linesOf 4 = .ok (.iload_n 3, 1) := by decide +kernel
theorem dX6_linesOf_5 : decode cX6_linesOf 5 = .ok (.aload_n 0, 1) := by decide +kernel
theorem dX6_linesOf_6 : decode cX6_linesOf 6 = .ok (.getfield 40, 3) := by decide +kernel
theorem dX6_linesOf_9 : decode cX6_linesOf 9 = .ok (.if_icmp .ge 28, 3) := by decide +kernel
theorem dX6_linesOf_12 : decode cX6_linesOf 12 = .ok (.iload_n 2, 1) := by decide +kernel
theorem dX6_linesOf_13 : decode cX6_linesOf 13 = .ok (.aload_n 0, 1) := by decide +kernel
theorem dX6_linesOf_14 : decode cX6_linesOf 14 = .ok (.iload_n 3, 1) := by decide +kernel
theorem dX6_linesOf_15 : decode cX6_linesOf 15 = .ok (.invokevirtual 44, 3) := by decide +kernel
theorem dX6_linesOf_18 : decode cX6_linesOf 18 = .ok (.iload_n 1, 1) := by decide +kernel
theorem dX6_linesOf_19 : decode cX6_linesOf 19 = .ok (.if_icmp .ne 9, 3) := by decide +kernel
theorem dX6_linesOf_22 : decode cX6_linesOf 22 = .ok (.iconst 1, 1) := by decide +kernel
theorem dX6_linesOf_23 : decode cX6_linesOf 23 = .ok (.iload_n 3, 1) := by decide +kernel
theorem dX6_linesOf_24 : decode cX6_linesOf 24 = .ok (.ishl, 1) := by decide +kernel
theorem dX6_linesOf_25 : decode cX6_linesOf 25 = .ok (.goto 4, 3) := by decide +kernel
theorem dX6_linesOf_28 : decode cX6_linesOf 28 = .ok (.iconst 0, 1) := by decide +kernel
theorem dX6_linesOf_29 : decode cX6_linesOf 29 = .ok (.ior, 1) := by decide +kernel
theorem dX6_linesOf_30 : decode cX6_linesOf 30 = .ok (.istore_n 2, 1) := by decide +kernel
theorem dX6_linesOf_31 : decode cX6_linesOf 31 = .ok (.iinc 3 1, 3) := by decide +kernel
theorem dX6_linesOf_34 : decode cX6_linesOf 34 = .ok (.goto (-30), 3) := by decide +kernel
theorem dX6_linesOf_37 : decode cX6_linesOf 37 = .ok (.iload_n 2, 1) := by decide +kernel
theorem dX6_linesOf_38 : decode cX6_linesOf 38 = .ok (.ireturn, 1) := by decide +kernel
theorem dX6_fewestOut_0 : decode cX6_fewestOut 0 = .ok (.aload_n 1, 1) := by decide +kernel
theorem dX6_fewestOut_1 : decode cX6_fewestOut 1 = .ok (.iload_n 2, 1) := by decide +kernel
theorem dX6_fewestOut_2 : decode cX6_fewestOut 2 = .ok (.invokestatic 107, 3) := by decide +kernel
theorem dX6_fewestOut_5 : decode cX6_fewestOut 5 = .ok (.istore_n 3, 1) := by decide +kernel
theorem dX6_fewestOut_6 : decode cX6_fewestOut 6 = .ok (.bipush 63, 2) := by decide +kernel
theorem dX6_fewestOut_8 : decode cX6_fewestOut 8 = .ok (.istore 4, 2) := by decide +kernel
theorem dX6_fewestOut_10 : decode cX6_fewestOut 10 = .ok (.iconst 0, 1) := by decide +kernel
theorem dX6_fewestOut_11 : decode cX6_fewestOut 11 = .ok (.istore 5, 2) := by decide +kernel
theorem dX6_fewestOut_13 : decode cX6_fewestOut 13 = .ok (.iload 5, 2) := by decide +kernel
theorem dX6_fewestOut_15 : decode cX6_fewestOut 15 = .ok (.bipush 64, 2) := by decide +kernel
theorem dX6_fewestOut_17 : decode cX6_fewestOut 17 = .ok (.if_icmp .ge 39, 3) := by decide +kernel
theorem dX6_fewestOut_20 : decode cX6_fewestOut 20 = .ok (.iload 5, 2) := by decide +kernel
theorem dX6_fewestOut_22 : decode cX6_fewestOut 22 = .ok (.invokestatic 111, 3) := by decide +kernel
theorem dX6_fewestOut_25 : decode cX6_fewestOut 25 = .ok (.iload 4, 2) := by decide +kernel
theorem dX6_fewestOut_27 : decode cX6_fewestOut 27 = .ok (.invokestatic 111, 3) := by decide +kernel
theorem dX6_fewestOut_30 : decode cX6_fewestOut 30 = .ok (.if_icmp .ge 20, 3) := by decide +kernel
theorem dX6_fewestOut_33 : decode cX6_fewestOut 33 = .ok (.aload_n 0, 1) := by decide +kernel
theorem dX6_fewestOut_34 : decode cX6_fewestOut 34 = .ok (.aload_n 1, 1) := by decide +kernel
theorem dX6_fewestOut_35 : decode cX6_fewestOut 35 = .ok (.iload 5, 2) := by decide +kernel
theorem dX6_fewestOut_37 : decode cX6_fewestOut 37 = .ok (.iconst (-1), 1) := by decide +kernel
theorem dX6_fewestOut_38 : decode cX6_fewestOut 38 = .ok (.invokevirtual 116, 3) := by decide +kernel
theorem dX6_fewestOut_41 : decode cX6_fewestOut 41 = .ok (.iload_n 3, 1) := by decide +kernel
theorem dX6_fewestOut_42 : decode cX6_fewestOut 42 = .ok (.iand, 1) := by decide +kernel
theorem dX6_fewestOut_43 : decode cX6_fewestOut 43 = .ok (.ifCond .ne 7, 3) := by decide +kernel
theorem dX6_fewestOut_46 : decode cX6_fewestOut 46 = .ok (.iload 5, 2) := by decide +kernel
theorem dX6_fewestOut_48 : decode cX6_fewestOut 48 = .ok (.istore 4, 2) := by decide +kernel
theorem dX6_fewestOut_50 : decode cX6_fewestOut 50 = .ok (.iinc 5 1, 3) := by decide +kernel
theorem dX6_fewestOut_53 : decode cX6_fewestOut 53 = .ok (.goto (-40), 3) := by decide +kernel
theorem dX6_fewestOut_56 : decode cX6_fewestOut 56 = .ok (.iload 4, 2) := by decide +kernel
theorem dX6_fewestOut_58 : decode cX6_fewestOut 58 = .ok (.ireturn, 1) := by decide +kernel
theorem dX6_neededFor_0 : decode cX6_neededFor 0 = .ok (.aload_n 1, 1) := by decide +kernel
theorem dX6_neededFor_1 : decode cX6_neededFor 1 = .ok (.iload_n 2, 1) := by decide +kernel
theorem dX6_neededFor_2 : decode cX6_neededFor 2 = .ok (.invokestatic 107, 3) := by decide +kernel
theorem dX6_neededFor_5 : decode cX6_neededFor 5 = .ok (.istore_n 3, 1) := by decide +kernel
theorem dX6_neededFor_6 : decode cX6_neededFor 6 = .ok (.aload_n 0, 1) := by decide +kernel
theorem dX6_neededFor_7 : decode cX6_neededFor 7 = .ok (.aload_n 1, 1) := by decide +kernel
theorem dX6_neededFor_8 : decode cX6_neededFor 8 = .ok (.iconst 0, 1) := by decide +kernel
theorem dX6_neededFor_9 : decode cX6_neededFor 9 = .ok (.iconst (-1), 1) := by decide +kernel
theorem dX6_neededFor_10 : decode cX6_neededFor 10 = .ok (.invokevirtual 116, 3) := by decide +kernel
theorem dX6_neededFor_13 : decode cX6_neededFor 13 = .ok (.iload_n 3, 1) := by decide +kernel
theorem dX6_neededFor_14 : decode cX6_neededFor 14 = .ok (.iand, 1) := by decide +kernel
theorem dX6_neededFor_15 : decode cX6_neededFor 15 = .ok (.ifCond .ne 5, 3) := by decide +kernel
theorem dX6_neededFor_18 : decode cX6_neededFor 18 = .ok (.iconst (-1), 1) := by decide +kernel
theorem dX6_neededFor_19 : decode cX6_neededFor 19 = .ok (.ireturn, 1) := by decide +kernel
theorem dX6_neededFor_20 : decode cX6_neededFor 20 = .ok (.iconst 0, 1) := by decide +kernel
theorem dX6_neededFor_21 : decode cX6_neededFor 21 = .ok (.istore 4, 2) := by decide +kernel
theorem dX6_neededFor_23 : decode cX6_neededFor 23 = .ok (.iconst 0, 1) := by decide +kernel
theorem dX6_neededFor_24 : decode cX6_neededFor 24 = .ok (.istore 5, 2) := by decide +kernel
theorem dX6_neededFor_26 : decode cX6_neededFor 26 = .ok (.iload 5, 2) := by decide +kernel
theorem dX6_neededFor_28 : decode cX6_neededFor 28 = .ok (.aload_n 1, 1) := by decide +kernel
theorem dX6_neededFor_29 : decode cX6_neededFor 29 = .ok (.getfield 40, 3) := by decide +kernel
theorem dX6_neededFor_32 : decode cX6_neededFor 32 = .ok (.if_icmp .ge 41, 3) := by decide +kernel
theorem dX6_neededFor_35 : decode cX6_neededFor 35 = .ok (.aload_n 1, 1) := by decide +kernel
theorem dX6_neededFor_36 : decode cX6_neededFor 36 = .ok (.iload 5, 2) := by decide +kernel
theorem dX6_neededFor_38 : decode cX6_neededFor 38 = .ok (.invokevirtual 44, 3) := by decide +kernel
theorem dX6_neededFor_41 : decode cX6_neededFor 41 = .ok (.iload_n 2, 1) := by decide +kernel
theorem dX6_neededFor_42 : decode cX6_neededFor 42 = .ok (.if_icmp .eq 25, 3) := by decide +kernel
theorem dX6_neededFor_45 : decode cX6_neededFor 45 = .ok (.aload_n 0, 1) := by decide +kernel
theorem dX6_neededFor_46 : decode cX6_neededFor 46 = .ok (.aload_n 1, 1) := by decide +kernel
theorem dX6_neededFor_47 : decode cX6_neededFor 47 = .ok (.iconst 0, 1) := by decide +kernel
theorem dX6_neededFor_48 : decode cX6_neededFor 48 = .ok (.iload 5, 2) := by decide +kernel
theorem dX6_neededFor_50 : decode cX6_neededFor 50 = .ok (.invokevirtual 116, 3) := by decide +kernel
theorem dX6_neededFor_53 : decode cX6_neededFor 53 = .ok (.iload_n 3, 1) := by decide +kernel
theorem dX6_neededFor_54 : decode cX6_neededFor 54 = .ok (.iand, 1) := by decide +kernel
theorem dX6_neededFor_55 : decode cX6_neededFor 55 = .ok (.ifCond .ne 12, 3) := by decide +kernel
theorem dX6_neededFor_58 : decode cX6_neededFor 58 = .ok (.iload 4, 2) := by decide +kernel
theorem dX6_neededFor_60 : decode cX6_neededFor 60 = .ok (.iconst 1, 1) := by decide +kernel
theorem dX6_neededFor_61 : decode cX6_neededFor 61 = .ok (.iload 5, 2) := by decide +kernel
theorem dX6_neededFor_63 : decode cX6_neededFor 63 = .ok (.ishl, 1) := by decide +kernel
theorem dX6_neededFor_64 : decode cX6_neededFor 64 = .ok (.ior, 1) := by decide +kernel
theorem dX6_neededFor_65 : decode cX6_neededFor 65 = .ok (.istore 4, 2) := by decide +kernel
theorem dX6_neededFor_67 : decode cX6_neededFor 67 = .ok (.iinc 5 1, 3) := by decide +kernel
theorem dX6_neededFor_70 : decode cX6_neededFor 70 = .ok (.goto (-44), 3) := by decide +kernel
theorem dX6_neededFor_73 : decode cX6_neededFor 73 = .ok (.iload 4, 2) := by decide +kernel
theorem dX6_neededFor_75 : decode cX6_neededFor 75 = .ok (.ireturn, 1) := by decide +kernel
theorem dX6_linesForSure_0 : decode cX6_linesForSure 0 = .ok (.aload_n 1, 1) := by decide +kernel
theorem dX6_linesForSure_1 : decode cX6_linesForSure 1 = .ok (.iconst 0, 1) := by decide +kernel
theorem dX6_linesForSure_2 : decode cX6_linesForSure 2 = .ok (.invokevirtual 36, 3) := by decide +kernel
theorem dX6_linesForSure_5 : decode cX6_linesForSure 5 = .ok (.ifCond .ne 5, 3) := by decide +kernel
theorem dX6_linesForSure_8 : decode cX6_linesForSure 8 = .ok (.iconst (-1), 1) := by decide +kernel
theorem dX6_linesForSure_9 : decode cX6_linesForSure 9 = .ok (.ireturn, 1) := by decide +kernel
theorem dX6_linesForSure_10 : decode cX6_linesForSure 10 = .ok (.iconst 0, 1) := by decide +kernel
theorem dX6_linesForSure_11 : decode cX6_linesForSure 11 = .ok (.istore 4, 2) := by decide +kernel
theorem dX6_linesForSure_13 : decode cX6_linesForSure 13 = .ok (.iload 4, 2) := by decide +kernel
theorem dX6_linesForSure_15 : decode cX6_linesForSure 15 = .ok (.bipush 20, 2) := by decide +kernel
theorem dX6_linesForSure_17 : decode cX6_linesForSure 17 = .ok (.if_icmp .ge 18, 3) := by decide +kernel
theorem dX6_linesForSure_20 : decode cX6_linesForSure 20 = .ok (.aload_n 0, 1) := by decide +kernel
theorem dX6_linesForSure_21 : decode cX6_linesForSure 21 = .ok (.getfield 17, 3) := by decide +kernel
theorem dX6_linesForSure_24 : decode cX6_linesForSure 24 = .ok (.iload 4, 2) := by decide +kernel
theorem dX6_linesForSure_26 : decode cX6_linesForSure 26 = .ok (.ldc 48, 2) := by decide +kernel
theorem dX6_linesForSure_28 : decode cX6_linesForSure 28 = .ok (.iastore, 1) := by decide +kernel
theorem dX6_linesForSure_29 : decode cX6_linesForSure 29 = .ok (.iinc 4 1, 3) := by decide +kernel
theorem dX6_linesForSure_32 : decode cX6_linesForSure 32 = .ok (.goto (-19), 3) := by decide +kernel
theorem dX6_linesForSure_35 : decode cX6_linesForSure 35 = .ok (.iconst 0, 1) := by decide +kernel
theorem dX6_linesForSure_36 : decode cX6_linesForSure 36 = .ok (.istore 4, 2) := by decide +kernel
theorem dX6_linesForSure_38 : decode cX6_linesForSure 38 = .ok (.iload 4, 2) := by decide +kernel
theorem dX6_linesForSure_40 : decode cX6_linesForSure 40 = .ok (.bipush 20, 2) := by decide +kernel
theorem dX6_linesForSure_42 : decode cX6_linesForSure 42 = .ok (.if_icmp .ge 85, 3) := by decide +kernel
theorem dX6_linesForSure_45 : decode cX6_linesForSure 45 = .ok (.iconst 0, 1) := by decide +kernel
theorem dX6_linesForSure_46 : decode cX6_linesForSure 46 = .ok (.istore 5, 2) := by decide +kernel
theorem dX6_linesForSure_48 : decode cX6_linesForSure 48 = .ok (.iload 5, 2) := by decide +kernel
theorem dX6_linesForSure_50 : decode cX6_linesForSure 50 = .ok (.aload_n 1, 1) := by decide +kernel
theorem dX6_linesForSure_51 : decode cX6_linesForSure 51 = .ok (.getfield 40, 3) := by decide +kernel
theorem dX6_linesForSure_54 : decode cX6_linesForSure 54 = .ok (.if_icmp .ge 52, 3) := by decide +kernel
