theorem dX6_linesForSure_57 : decode cX6_linesForSure 57 = .ok (.iload 5, 2) := by decide +kernel
theorem dX6_linesForSure_59 : decode cX6_linesForSure 59 = .ok (.bipush 20, 2) := by decide +kernel
theorem dX6_linesForSure_61 : decode cX6_linesForSure 61 = .ok (.if_icmp .ge 45, 3) := by decide +kernel
theorem dX6_linesForSure_64 : decode cX6_linesForSure 64 = .ok (.aload_n 0, 1) := by decide +kernel
theorem dX6_linesForSure_65 : decode cX6_linesForSure 65 = .ok (.getfield 20, 3) := by decide +kernel
theorem dX6_linesForSure_68 : decode cX6_linesForSure 68 = .ok (.iload 5, 2) := by decide +kernel
theorem dX6_linesForSure_70 : decode cX6_linesForSure 70 = .ok (.aload_n 1, 1) := by decide +kernel
theorem dX6_linesForSure_71 : decode cX6_linesForSure 71 = .ok (.iload 5, 2) := by decide +kernel
theorem dX6_linesForSure_73 : decode cX6_linesForSure 73 = .ok (.invokevirtual 44, 3) := by decide +kernel
theorem dX6_linesForSure_76 : decode cX6_linesForSure 76 = .ok (.iload_n 2, 1) := by decide +kernel
theorem dX6_linesForSure_77 : decode cX6_linesForSure 77 = .ok (.if_icmp .ne 7, 3) := by decide +kernel
theorem dX6_linesForSure_80 : decode cX6_linesForSure 80 = .ok (.iconst 1, 1) := by decide +kernel
theorem dX6_linesForSure_81 : decode cX6_linesForSure 81 = .ok (.goto 18, 3) := by decide +kernel
theorem dX6_linesForSure_84 : decode cX6_linesForSure 84 = .ok (.ldc 48, 2) := by decide +kernel
theorem dX6_linesForSure_86 : decode cX6_linesForSure 86 = .ok (.iconst 1, 1) := by decide +kernel
theorem dX6_linesForSure_87 : decode cX6_linesForSure 87 = .ok (.aload_n 0, 1) := by decide +kernel
theorem dX6_linesForSure_88 : decode cX6_linesForSure 88 = .ok (.aload_n 1, 1) := by decide +kernel
theorem dX6_linesForSure_89 : decode cX6_linesForSure 89 = .ok (.iload 5, 2) := by decide +kernel
theorem dX6_linesForSure_91 : decode cX6_linesForSure 91 = .ok (.iload_n 3, 1) := by decide +kernel
theorem dX6_linesForSure_92 : decode cX6_linesForSure 92 = .ok (.invokevirtual 119, 3) := by decide +kernel
theorem dX6_linesForSure_95 : decode cX6_linesForSure 95 = .ok (.iadd, 1) := by decide +kernel
theorem dX6_linesForSure_96 : decode cX6_linesForSure 96 = .ok (.invokestatic 66, 3) := by decide +kernel
theorem dX6_linesForSure_99 : decode cX6_linesForSure 99 = .ok (.iastore, 1) := by decide +kernel
theorem dX6_linesForSure_100 : decode cX6_linesForSure 100 = .ok (.iinc 5 1, 3) := by decide +kernel
theorem dX6_linesForSure_103 : decode cX6_linesForSure 103 = .ok (.goto (-55), 3) := by decide +kernel
theorem dX6_linesForSure_106 : decode cX6_linesForSure 106 = .ok (.aload_n 0, 1) := by decide +kernel
theorem dX6_linesForSure_107 : decode cX6_linesForSure 107 = .ok (.getfield 20, 3) := by decide +kernel
theorem dX6_linesForSure_110 : decode cX6_linesForSure 110 = .ok (.iconst 0, 1) := by decide +kernel
theorem dX6_linesForSure_111 : decode cX6_linesForSure 111 = .ok (.aload_n 0, 1) := by decide +kernel
theorem dX6_linesForSure_112 : decode cX6_linesForSure 112 = .ok (.getfield 17, 3) := by decide +kernel
theorem dX6_linesForSure_115 : decode cX6_linesForSure 115 = .ok (.iconst 0, 1) := by decide +kernel
theorem dX6_linesForSure_116 : decode cX6_linesForSure 116 = .ok (.bipush 20, 2) := by decide +kernel
theorem dX6_linesForSure_118 : decode cX6_linesForSure 118 = .ok (.invokestatic 75, 3) := by decide +kernel
theorem dX6_linesForSure_121 : decode cX6_linesForSure 121 = .ok (.iinc 4 1, 3) := by decide +kernel
theorem dX6_linesForSure_124 : decode cX6_linesForSure 124 = .ok (.goto (-86), 3) := by decide +kernel
theorem dX6_linesForSure_127 : decode cX6_linesForSure 127 = .ok (.aload_n 0, 1) := by decide +kernel
theorem dX6_linesForSure_128 : decode cX6_linesForSure 128 = .ok (.getfield 17, 3) := by decide +kernel
theorem dX6_linesForSure_131 : decode cX6_linesForSure 131 = .ok (.iconst 0, 1) := by decide +kernel
theorem dX6_linesForSure_132 : decode cX6_linesForSure 132 = .ok (.iaload, 1) := by decide +kernel
theorem dX6_linesForSure_133 : decode cX6_linesForSure 133 = .ok (.ldc 48, 2) := by decide +kernel
theorem dX6_linesForSure_135 : decode cX6_linesForSure 135 = .ok (.if_icmp .lt 7, 3) := by decide +kernel
theorem dX6_linesForSure_138 : decode cX6_linesForSure 138 = .ok (.iconst (-1), 1) := by decide +kernel
theorem dX6_linesForSure_139 : decode cX6_linesForSure 139 = .ok (.goto 9, 3) := by decide +kernel
theorem dX6_linesForSure_142 : decode cX6_linesForSure 142 = .ok (.aload_n 0, 1) := by decide +kernel
theorem dX6_linesForSure_143 : decode cX6_linesForSure 143 = .ok (.getfield 17, 3) := by decide +kernel
theorem dX6_linesForSure_146 : decode cX6_linesForSure 146 = .ok (.iconst 0, 1) := by decide +kernel
theorem dX6_linesForSure_147 : decode cX6_linesForSure 147 = .ok (.iaload, 1) := by decide +kernel
theorem dX6_linesForSure_148 : decode cX6_linesForSure 148 = .ok (.ireturn, 1) := by decide +kernel
theorem dX6_sureBehind_0 : decode cX6_sureBehind 0 = .ok (.iload_n 3, 1) := by decide +kernel
theorem dX6_sureBehind_1 : decode cX6_sureBehind 1 = .ok (.aload_n 1, 1) := by decide +kernel
theorem dX6_sureBehind_2 : decode cX6_sureBehind 2 = .ok (.iload_n 2, 1) := by decide +kernel
theorem dX6_sureBehind_3 : decode cX6_sureBehind 3 = .ok (.invokevirtual 89, 3) := by decide +kernel
theorem dX6_sureBehind_6 : decode cX6_sureBehind 6 = .ok (.ishr, 1) := by decide +kernel
theorem dX6_sureBehind_7 : decode cX6_sureBehind 7 = .ok (.iconst 1, 1) := by decide +kernel
theorem dX6_sureBehind_8 : decode cX6_sureBehind 8 = .ok (.iand, 1) := by decide +kernel
theorem dX6_sureBehind_9 : decode cX6_sureBehind 9 = .ok (.iconst 1, 1) := by decide +kernel
theorem dX6_sureBehind_10 : decode cX6_sureBehind 10 = .ok (.if_icmp .ne 7, 3) := by decide +kernel
theorem dX6_sureBehind_13 : decode cX6_sureBehind 13 = .ok (.iconst 1, 1) := by decide +kernel
theorem dX6_sureBehind_14 : decode cX6_sureBehind 14 = .ok (.goto 4, 3) := by decide +kernel
theorem dX6_sureBehind_17 : decode cX6_sureBehind 17 = .ok (.iconst 0, 1) := by decide +kernel
theorem dX6_sureBehind_18 : decode cX6_sureBehind 18 = .ok (.istore 4, 2) := by decide +kernel
theorem dX6_sureBehind_20 : decode cX6_sureBehind 20 = .ok (.iconst (-1), 1) := by decide +kernel
theorem dX6_sureBehind_21 : decode cX6_sureBehind 21 = .ok (.istore 5, 2) := by decide +kernel
theorem dX6_sureBehind_23 : decode cX6_sureBehind 23 = .ok (.iconst 0, 1) := by decide +kernel
theorem dX6_sureBehind_24 : decode cX6_sureBehind 24 = .ok (.istore 6, 2) := by decide +kernel
theorem dX6_sureBehind_26 : decode cX6_sureBehind 26 = .ok (.iload 6, 2) := by decide +kernel
theorem dX6_sureBehind_28 : decode cX6_sureBehind 28 = .ok (.aload_n 1, 1) := by decide +kernel
theorem dX6_sureBehind_29 : decode cX6_sureBehind 29 = .ok (.iload_n 2, 1) := by decide +kernel
theorem dX6_sureBehind_30 : decode cX6_sureBehind 30 = .ok (.invokevirtual 53, 3) := by decide +kernel
theorem dX6_sureBehind_33 : decode cX6_sureBehind 33 = .ok (.if_icmp .ge 73, 3) := by decide +kernel
theorem dX6_sureBehind_36 : decode cX6_sureBehind 36 = .ok (.aload_n 1, 1) := by decide +kernel
theorem dX6_sureBehind_37 : decode cX6_sureBehind 37 = .ok (.iload_n 2, 1) := by decide +kernel
theorem dX6_sureBehind_38 : decode cX6_sureBehind 38 = .ok (.iload 6, 2) := by decide +kernel
theorem dX6_sureBehind_40 : decode cX6_sureBehind 40 = .ok (.invokevirtual 56, 3) := by decide +kernel
theorem dX6_sureBehind_43 : decode cX6_sureBehind 43 = .ok (.istore 7, 2) := by decide +kernel
theorem dX6_sureBehind_45 : decode cX6_sureBehind 45 = .ok (.aload_n 1, 1) := by decide +kernel
theorem dX6_sureBehind_46 : decode cX6_sureBehind 46 = .ok (.iload 7, 2) := by decide +kernel
theorem dX6_sureBehind_48 : decode cX6_sureBehind 48 = .ok (.invokevirtual 36, 3) := by decide +kernel
theorem dX6_sureBehind_51 : decode cX6_sureBehind 51 = .ok (.ifCond .eq 13, 3) := by decide +kernel
theorem dX6_sureBehind_54 : decode cX6_sureBehind 54 = .ok (.aload_n 0, 1) := by decide +kernel
theorem dX6_sureBehind_55 : decode cX6_sureBehind 55 = .ok (.getfield 17, 3) := by decide +kernel
theorem dX6_sureBehind_58 : decode cX6_sureBehind 58 = .ok (.iload 7, 2) := by decide +kernel
theorem dX6_sureBehind_60 : decode cX6_sureBehind 60 = .ok (.iaload, 1) := by decide +kernel
theorem dX6_sureBehind_61 : decode cX6_sureBehind 61 = .ok (.goto 5, 3) := by decide +kernel
theorem dX6_sureBehind_64 : decode cX6_sureBehind 64 = .ok (.ldc 48, 2) := by decide +kernel
theorem dX6_sureBehind_66 : decode cX6_sureBehind 66 = .ok (.istore 8, 2) := by decide +kernel
theorem dX6_sureBehind_68 : decode cX6_sureBehind 68 = .ok (.iload 5, 2) := by decide +kernel
theorem dX6_sureBehind_70 : decode cX6_sureBehind 70 = .ok (.iconst (-1), 1) := by decide +kernel
theorem dX6_sureBehind_71 : decode cX6_sureBehind 71 = .ok (.if_icmp .eq 25, 3) := by decide +kernel
theorem dX6_sureBehind_74 : decode cX6_sureBehind 74 = .ok (.iload 4, 2) := by decide +kernel
theorem dX6_sureBehind_76 : decode cX6_sureBehind 76 = .ok (.ifCond .eq 13, 3) := by decide +kernel
theorem dX6_sureBehind_79 : decode cX6_sureBehind 79 = .ok (.iload 8, 2) := by decide +kernel
theorem dX6_sureBehind_81 : decode cX6_sureBehind 81 = .ok (.iload 5, 2) := by decide +kernel
theorem dX6_sureBehind_83 : decode cX6_sureBehind 83 = .ok (.if_icmp .ge 17, 3) := by decide +kernel
theorem dX6_sureBehind_86 : decode cX6_sureBehind 86 = .ok (.goto 10, 3) := by decide +kernel
theorem dX6_sureBehind_89 : decode cX6_sureBehind 89 = .ok (.iload 8, 2) := by decide +kernel
theorem dX6_sureBehind_91 : decode cX6_sureBehind 91 = .ok (.iload 5, 2) := by decide +kernel
theorem dX6_sureBehind_93 : decode cX6_sureBehind 93 = .ok (.if_icmp .le 7, 3) := by decide +kernel
theorem dX6_sureBehind_96 : decode cX6_sureBehind 96 = .ok (.iload 8, 2) := by decide +kernel
theorem dX6_sureBehind_98 : decode cX6_sureBehind 98 = .ok (.istore 5, 2) := by decide +kernel
theorem dX6_sureBehind_100 : decode cX6_sureBehind 100 = .ok (.iinc 6 1, 3) := by decide +kernel
theorem dX6_sureBehind_103 : decode cX6_sureBehind 103 = .ok (.goto (-77), 3) := by decide +kernel
theorem dX6_sureBehind_106 : decode cX6_sureBehind 106 = .ok (.iload 5, 2) := by decide +kernel
theorem dX6_sureBehind_108 : decode cX6_sureBehind 108 = .ok (.iconst (-1), 1) := by decide +kernel
theorem dX6_sureBehind_109 : decode cX6_sureBehind 109 = .ok (.if_icmp .ne 8, 3) := by decide +kernel
theorem dX6_sureBehind_112 : decode cX6_sureBehind 112 = .ok (.ldc 48, 2) := by decide +kernel
theorem dX6_sureBehind_114 : decode cX6_sureBehind 114 = .ok (.goto 5, 3) := by decide +kernel
theorem dX6_sureBehind_117 : decode cX6_sureBehind 117 = .ok (.iload 5, 2) := by decide +kernel
theorem dX6_sureBehind_119 : decode cX6_sureBehind 119 = .ok (.ireturn, 1) := by decide +kernel
theorem dX7_init_0 : decode cX7_init 0 = .ok (.aload_n 0, 1) := by decide +kernel
theorem dX7_init_1 : decode cX7_init 1 = .ok (.invokespecial 3, 3) := by decide +kernel
theorem dX7_init_4 : decode cX7_init 4 = .ok (.aload_n 0, 1) := by decide +kernel
theorem dX7_init_5 : decode cX7_init 5 = .ok (.sipush 601, 3) := by decide +kernel
theorem dX7_init_8 : decode cX7_init 8 = .ok (.newarray .int, 2) := by decide +kernel
theorem dX7_init_10 : decode cX7_init 10 = .ok (.putfield 11, 3) := by decide +kernel
theorem dX7_init_13 : decode cX7_init 13 = .ok (.aload_n 0, 1) := by decide +kernel
theorem dX7_init_14 : decode cX7_init 14 = .ok (.sipush 601, 3) := by decide +kernel
theorem dX7_init_17 : decode cX7_init 17 = .ok (.newarray .int, 2) := by decide +kernel
theorem dX7_init_19 : decode cX7_init 19 = .ok (.putfield 17, 3) := by decide +kernel
theorem dX7_init_22 : decode cX7_init 22 = .ok (.aload_n 0, 1) := by decide +kernel
theorem dX7_init_23 : decode cX7_init 23 = .ok (.sipush 601, 3) := by decide +kernel
theorem dX7_init_26 : decode cX7_init 26 = .ok (.newarray .int, 2) := by decide +kernel
theorem dX7_init_28 : decode cX7_init 28 = .ok (.putfield 20, 3) := by decide +kernel
theorem dX7_init_31 : decode cX7_init 31 = .ok (.return_, 1) := by decide +kernel
theorem dX7_read_0 : decode cX7_read 0 = .ok (.aload_n 0, 1) := by decide +kernel
theorem dX7_read_1 : decode cX7_read 1 = .ok (.iconst 0, 1) := by decide +kernel
theorem dX7_read_2 : decode cX7_read 2 = .ok (.putfield 23, 3) := by decide +kernel
theorem dX7_read_5 : decode cX7_read 5 = .ok (.aload_n 0, 1) := by decide +kernel
theorem dX7_read_6 : decode cX7_read 6 = .ok (.iconst (-1), 1) := by decide +kernel
theorem dX7_read_7 : decode cX7_read 7 = .ok (.putfield 27, 3) := by decide +kernel
theorem dX7_read_10 : decode cX7_read 10 = .ok (.aload_n 0, 1) := by decide +kernel
theorem dX7_read_11 : decode cX7_read 11 = .ok (.aload_n 1, 1) := by decide +kernel
theorem dX7_read_12 : decode cX7_read 12 = .ok (.iload_n 2, 1) := by decide +kernel
theorem dX7_read_13 : decode cX7_read 13 = .ok (.invokevirtual 30, 3) := by decide +kernel
theorem dX7_read_16 : decode cX7_read 16 = .ok (.aload_n 0, 1) := by decide +kernel
theorem dX7_read_17 : decode cX7_read 17 = .ok (.invokevirtual 34, 3) := by decide +kernel
theorem dX7_read_20 : decode cX7_read 20 = .ok (.istore_n 3, 1) := by decide +kernel
theorem dX7_read_21 : decode cX7_read 21 = .ok (.iload_n 3, 1) := by decide +kernel
theorem dX7_read_22 : decode cX7_read 22 = .ok (.iconst (-1), 1) := by decide +kernel
theorem dX7_read_23 : decode cX7_read 23 = .ok (.if_icmp .eq 14, 3) := by decide +kernel
theorem dX7_read_26 : decode cX7_read 26 = .ok (.aload_n 0, 1) := by decide +kernel
theorem dX7_read_27 : decode cX7_read 27 = .ok (.iconst 1, 1) := by decide +kernel
theorem dX7_read_28 : decode cX7_read 28 = .ok (.aload_n 0, 1) := by decide +kernel
theorem dX7_read_29 : decode cX7_read 29 = .ok (.iload_n 3, 1) := by decide +kernel
theorem dX7_read_30 : decode cX7_read 30 = .ok (.invokevirtual 38, 3) := by decide +kernel
theorem dX7_read_33 : decode cX7_read 33 = .ok (.invokevirtual 42, 3) := by decide +kernel
theorem dX7_read_36 : decode cX7_read 36 = .ok (.return_, 1) := by decide +kernel
theorem dX7_read_37 : decode cX7_read 37 = .ok (.aload_n 0, 1) := by decide +kernel
theorem dX7_read_38 : decode cX7_read 38 = .ok (.invokevirtual 46, 3) := by decide +kernel
theorem dX7_read_41 : decode cX7_read 41 = .ok (.aload_n 0, 1) := by decide +kernel
theorem dX7_read_42 : decode cX7_read 42 = .ok (.getfield 23, 3) := by decide +kernel
theorem dX7_read_45 : decode cX7_read 45 = .ok (.ifCond .ne 20, 3) := by decide +kernel
theorem dX7_read_48 : decode cX7_read 48 = .ok (.aload_n 0, 1) := by decide +kernel
theorem dX7_read_49 : decode cX7_read 49 = .ok (.iload_n 2, 1) := by decide +kernel
theorem dX7_read_50 : decode cX7_read 50 = .ok (.invokevirtual 49, 3) := by decide +kernel
theorem dX7_read_53 : decode cX7_read 53 = .ok (.ifCond .eq 12, 3) := by decide +kernel
theorem dX7_read_56 : decode cX7_read 56 = .ok (.aload_n 0, 1) := by decide +kernel
theorem dX7_read_57 : decode cX7_read 57 = .ok (.iconst 4, 1) := by decide +kernel
theorem dX7_read_58 : decode cX7_read 58 = .ok (.aload_n 1, 1) := by decide +kernel
theorem dX7_read_59 : decode cX7_read 59 = .ok (.getfield 53, 3) := by decide +kernel
theorem dX7_read_62 : decode cX7_read 62 = .ok (.invokevirtual 42, 3) := by decide +kernel
theorem dX7_read_65 : decode cX7_read 65 = .ok (.return_, 1) := by decide +kernel
theorem dX7_fill_0 : decode cX7_fill 0 = .ok (.iload_n 2, 1) := by decide +kernel
theorem dX7_fill_1 : decode cX7_fill 1 = .ok (.tableswitch 63 0 2 #[27, 39, 51], 27) := by decide +kernel
theorem dX7_fill_28 : decode cX7_fill 28 = .ok (.aload_n 0, 1) := by decide +kernel
theorem dX7_fill_29 : decode cX7_fill 29 = .ok (.aload_n 1, 1) := by decide +kernel
theorem dX7_fill_30 : decode cX7_fill 30 = .ok (.iload_n 3, 1) := by decide +kernel
theorem dX7_fill_31 : decode cX7_fill 31 = .ok (.invokevirtual 56, 3) := by decide +kernel
theorem dX7_fill_34 : decode cX7_fill 34 = .ok (.invokevirtual 60, 3) := by decide +kernel
theorem dX7_fill_37 : decode cX7_fill 37 = .ok (.goto 36, 3) := by decide +kernel
theorem dX7_fill_40 : decode cX7_fill 40 = .ok (.aload_n 0, 1) := by decide +kernel
theorem dX7_fill_41 : decode cX7_fill 41 = .ok (.aload_n 1, 1) := by decide +kernel
theorem dX7_fill_42 : decode cX7_fill 42 = .ok (.iload_n 3, 1) := by decide +kernel
theorem dX7_fill_43 : decode cX7_fill 43 = .ok (.invokevirtual 64, 3) := by decide +kernel
theorem dX7_fill_46 : decode cX7_fill 46 = .ok (.invokevirtual 68, 3) := by decide +kernel
theorem dX7_fill_49 : decode cX7_fill 49 = .ok (.goto 24, 3) := by decide +kernel
theorem dX7_fill_52 : decode cX7_fill 52 = .ok (.aload_n 0, 1) := by decide +kernel
theorem dX7_fill_53 : decode cX7_fill 53 = .ok (.aload_n 1, 1) := by decide +kernel
theorem dX7_fill_54 : decode cX7_fill 54 = .ok (.iload_n 3, 1) := by decide +kernel
theorem dX7_fill_55 : decode cX7_fill 55 = .ok (.invokevirtual 72, 3) := by decide +kernel
theorem dX7_fill_58 : decode cX7_fill 58 = .ok (.invokevirtual 76, 3) := by decide +kernel
theorem dX7_fill_61 : decode cX7_fill 61 = .ok (.goto 12, 3) := by decide +kernel
theorem dX7_fill_64 : decode cX7_fill 64 = .ok (.aload_n 0, 1) := by decide +kernel
theorem dX7_fill_65 : decode cX7_fill 65 = .ok (.aload_n 1, 1) := by decide +kernel
theorem dX7_fill_66 : decode cX7_fill 66 = .ok (.iload_n 3, 1) := by decide +kernel
theorem dX7_fill_67 : decode cX7_fill 67 = .ok (.invokevirtual 80, 3) := by decide +kernel
theorem dX7_fill_70 : decode cX7_fill 70 = .ok (.invokevirtual 84, 3) := by decide +kernel
theorem dX7_fill_73 : decode cX7_fill 73 = .ok (.return_, 1) := by decide +kernel
theorem dX7_blame_0 : decode cX7_blame 0 = .ok (.aload_n 0, 1) := by decide +kernel
theorem dX7_blame_1 : decode cX7_blame 1 = .ok (.iload_n 1, 1) := by decide +kernel
theorem dX7_blame_2 : decode cX7_blame 2 = .ok (.putfield 23, 3) := by decide +kernel
theorem dX7_blame_5 : decode cX7_blame 5 = .ok (.aload_n 0, 1) := by decide +kernel
theorem dX7_blame_6 : decode cX7_blame 6 = .ok (.iload_n 2, 1) := by decide +kernel
theorem dX7_blame_7 : decode cX7_blame 7 = .ok (.putfield 27, 3) := by decide +kernel
theorem dX7_blame_10 : decode cX7_blame 10 = .ok (.return_, 1) := by decide +kernel
theorem dX7_nameOf_0 : decode cX7_nameOf 0 = .ok (.iload_n 0, 1) := by decide +kernel
theorem dX7_nameOf_1 : decode cX7_nameOf 1 = .ok (.tableswitch 141 0 17 #[87, 90, 93, 96, 99, 102, 105, 108, 111, 114, 117, 120, 123, 126, 129, 132, 135, 138], 87) := by decide +kernel
theorem dX7_nameOf_88 : decode cX7_nameOf 88 = .ok (.ldc 88, 2) := by decide +kernel
theorem dX7_nameOf_90 : decode cX7_nameOf 90 = .ok (.areturn, 1) := by decide +kernel
theorem dX7_nameOf_91 : decode cX7_nameOf 91 = .ok (.ldc 90, 2) := by decide +kernel
theorem dX7_nameOf_93 : decode cX7_nameOf 93 = .ok (.areturn, 1) := by decide +kernel
theorem dX7_nameOf_94 : decode cX7_nameOf 94 = .ok (.ldc 92, 2) := by decide +kernel
theorem dX7_nameOf_96 : decode cX7_nameOf 96 = .ok (.areturn, 1) := by decide +kernel
theorem dX7_nameOf_97 : decode cX7_nameOf 97 = .ok (.ldc 94, 2) := by decide +kernel
theorem dX7_nameOf_99 : decode cX7_nameOf 99 = .ok (.areturn, 1) := by decide +kernel
theorem dX7_nameOf_100 : decode cX7_nameOf 100 = .ok (.ldc 96, 2) := by decide +kernel
theorem dX7_nameOf_102 : decode cX7_nameOf 102 = .ok (.areturn, 1) := by decide +kernel
theorem dX7_nameOf_103 : decode cX7_nameOf 103 = .ok (.ldc 98, 2) := by decide +kernel
theorem dX7_nameOf_105 : decode cX7_nameOf 105 = .ok (.areturn, 1) := by decide +kernel
theorem dX7_nameOf_106 : decode cX7_nameOf 106 = .ok (.ldc 100, 2) := by decide +kernel
theorem dX7_nameOf_108 : decode cX7_nameOf 108 = .ok (.areturn, 1) := by decide +kernel
theorem dX7_nameOf_109 : decode cX7_nameOf 109 = .ok (.ldc 102, 2) := by decide +kernel
theorem dX7_nameOf_111 : decode cX7_nameOf 111 = .ok (.areturn, 1) := by decide +kernel
theorem dX7_nameOf_112 : decode cX7_nameOf 112 = .ok (.ldc 104, 2) := by decide +kernel
theorem dX7_nameOf_114 : decode cX7_nameOf 114 = .ok (.areturn, 1) := by decide +kernel
theorem dX7_nameOf_115 : decode cX7_nameOf 115 = .ok (.ldc 90, 2) := by decide +kernel
theorem dX7_nameOf_117 : decode cX7_nameOf 117 = .ok (.areturn, 1) := by decide +kernel
theorem dX7_nameOf_118 : decode cX7_nameOf 118 = .ok (.ldc 106, 2) := by decide +kernel
theorem dX7_nameOf_120 : decode cX7_nameOf 120 = .ok (.areturn, 1) := by decide +kernel
theorem dX7_nameOf_121 : decode cX7_nameOf 121 = .ok (.ldc 108, 2) := by decide +kernel
theorem dX7_nameOf_123 : decode cX7_nameOf 123 = .ok (.areturn, 1) := by decide +kernel
theorem dX7_nameOf_124 : decode cX7_nameOf 124 = .ok (.ldc 110, 2) := by decide +kernel
theorem dX7_nameOf_126 : decode cX7_nameOf 126 = .ok (.areturn, 1) := by decide +kernel
theorem dX7_nameOf_127 : decode cX7_nameOf 127 = .ok (.ldc 112, 2) := by decide +kernel
theorem dX7_nameOf_129 : decode cX7_nameOf 129 = .ok (.areturn, 1) := by decide +kernel
theorem dX7_nameOf_130 : decode cX7_nameOf 130 = .ok (.ldc 114, 2) := by decide +kernel
theorem dX7_nameOf_132 : decode cX7_nameOf 132 = .ok (.areturn, 1) := by decide +kernel
theorem dX7_nameOf_133 : decode cX7_nameOf 133 = .ok (.ldc 116, 2) := by decide +kernel
theorem dX7_nameOf_135 : decode cX7_nameOf 135 = .ok (.areturn, 1) := by decide +kernel
theorem dX7_nameOf_136 : decode cX7_nameOf 136 = .ok (.ldc 118, 2) := by decide +kernel
theorem dX7_nameOf_138 : decode cX7_nameOf 138 = .ok (.areturn, 1) := by decide +kernel
theorem dX7_nameOf_139 : decode cX7_nameOf 139 = .ok (.ldc 120, 2) := by decide +kernel
theorem dX7_nameOf_141 : decode cX7_nameOf 141 = .ok (.areturn, 1) := by decide +kernel
theorem dX7_nameOf_142 : decode cX7_nameOf 142 = .ok (.ldc 122, 2) := by decide +kernel
theorem dX7_nameOf_144 : decode cX7_nameOf 144 = .ok (.areturn, 1) := by decide +kernel
theorem dX7_isLetter_0 : decode cX7_isLetter 0 = .ok (.iload_n 0, 1) := by decide +kernel
theorem dX7_isLetter_1 : decode cX7_isLetter 1 = .ok (.bipush 97, 2) := by decide +kernel
theorem dX7_isLetter_3 : decode cX7_isLetter 3 = .ok (.if_icmp .lt 13, 3) := by decide +kernel
theorem dX7_isLetter_6 : decode cX7_isLetter 6 = .ok (.iload_n 0, 1) := by decide +kernel
theorem dX7_isLetter_7 : decode cX7_isLetter 7 = .ok (.bipush 122, 2) := by decide +kernel
theorem dX7_isLetter_9 : decode cX7_isLetter 9 = .ok (.if_icmp .gt 7, 3) := by decide +kernel
theorem dX7_isLetter_12 : decode cX7_isLetter 12 = .ok (.iconst 1, 1) := by decide +kernel
theorem dX7_isLetter_13 : decode cX7_isLetter 13 = .ok (.goto 4, 3) := by decide +kernel
theorem dX7_isLetter_16 : decode cX7_isLetter 16 = .ok (.iconst 0, 1) := by decide +kernel
theorem dX7_isLetter_17 : decode cX7_isLetter 17 = .ok (.ireturn, 1) := by decide +kernel
theorem dX7_isDigit_0 : decode cX7_isDigit 0 = .ok (.iload_n 0, 1) := by decide +kernel
theorem dX7_isDigit_1 : decode cX7_isDigit 1 = .ok (.bipush 48, 2) := by decide +kernel
theorem dX7_isDigit_3 : decode cX7_isDigit 3 = .ok (.if_icmp .lt 13, 3) := by decide +kernel
theorem dX7_isDigit_6 : decode cX7_isDigit 6 = .ok (.iload_n 0, 1) := by decide +kernel
theorem dX7_isDigit_7 : decode cX7_isDigit 7 = .ok (.bipush 57, 2) := by decide +kernel
theorem dX7_isDigit_9 : decode cX7_isDigit 9 = .ok (.if_icmp .gt 7, 3) := by decide +kernel
theorem dX7_isDigit_12 : decode cX7_isDigit 12 = .ok (.iconst 1, 1) := by decide +kernel
theorem dX7_isDigit_13 : decode cX7_isDigit 13 = .ok (.goto 4, 3) := by decide +kernel
theorem dX7_isDigit_16 : decode cX7_isDigit 16 = .ok (.iconst 0, 1) := by decide +kernel
theorem dX7_isDigit_17 : decode cX7_isDigit 17 = .ok (.ireturn, 1) := by decide +kernel
theorem dX7_split_0 : decode cX7_split 0 = .ok (.aload_n 0, 1) := by decide +kernel
theorem dX7_split_1 : decode cX7_split 1 = .ok (.iconst 0, 1) := by decide +kernel
theorem dX7_split_2 : decode cX7_split 2 = .ok (.putfield 124, 3) := by decide +kernel
theorem dX7_split_5 : decode cX7_split 5 = .ok (.iconst 0, 1) := by decide +kernel
theorem dX7_split_6 : decode cX7_split 6 = .ok (.istore_n 3, 1) := by decide +kernel
theorem dX7_split_7 : decode cX7_split 7 = .ok (.iload_n 3, 1) := by decide +kernel
theorem dX7_split_8 : decode cX7_split 8 = .ok (.aload_n 1, 1) := by decide +kernel
theorem dX7_split_9 : decode cX7_split 9 = .ok (.getfield 53, 3) := by decide +kernel
theorem dX7_split_12 : decode cX7_split 12 = .ok (.if_icmp .ge 67, 3) := by decide +kernel
theorem dX7_split_15 : decode cX7_split 15 = .ok (.aload_n 1, 1) := by decide +kernel
theorem dX7_split_16 : decode cX7_split 16 = .ok (.iload_n 3, 1) := by decide +kernel
theorem dX7_split_17 : decode cX7_split 17 = .ok (.invokevirtual 127, 3) := by decide +kernel
theorem dX7_split_20 : decode cX7_split 20 = .ok (.istore 4, 2) := by decide +kernel
theorem dX7_split_22 : decode cX7_split 22 = .ok (.iload 4, 2) := by decide +kernel
theorem dX7_split_24 : decode cX7_split 24 = .ok (.bipush 10, 2) := by decide +kernel
theorem dX7_split_26 : decode cX7_split 26 = .ok (.if_icmp .eq 10, 3) := by decide +kernel
theorem dX7_split_29 : decode cX7_split 29 = .ok (.iload 4, 2) := by decide +kernel
theorem dX7_split_31 : decode cX7_split 31 = .ok (.bipush 32, 2) := by decide +kernel
theorem dX7_split_33 : decode cX7_split 33 = .ok (.if_icmp .ne 9, 3) := by decide +kernel
theorem dX7_split_36 : decode cX7_split 36 = .ok (.iinc 3 1, 3) := by decide +kernel
theorem dX7_split_39 : decode cX7_split 39 = .ok (.goto (-32), 3) := by decide +kernel
theorem dX7_split_42 : decode cX7_split 42 = .ok (.aload_n 1, 1) := by decide +kernel
theorem dX7_split_43 : decode cX7_split 43 = .ok (.iload_n 3, 1) := by decide +kernel
theorem dX7_split_44 : decode cX7_split 44 = .ok (.invokestatic 130, 3) := by decide +kernel
theorem dX7_split_47 : decode cX7_split 47 = .ok (.istore 5, 2) := by decide +kernel
theorem dX7_split_49 : decode cX7_split 49 = .ok (.aload_n 0, 1) := by decide +kernel
theorem dX7_split_50 : decode cX7_split 50 = .ok (.aload_n 1, 1) := by decide +kernel
theorem dX7_split_51 : decode cX7_split 51 = .ok (.iload_n 2, 1) := by decide +kernel
theorem dX7_split_52 : decode cX7_split 52 = .ok (.iload_n 3, 1) := by decide +kernel
theorem dX7_split_53 : decode cX7_split 53 = .ok (.iload 5, 2) := by decide +kernel
theorem dX7_split_55 : decode cX7_split 55 = .ok (.invokevirtual 134, 3) := by decide +kernel
theorem dX7_split_58 : decode cX7_split 58 = .ok (.aload_n 0, 1) := by decide +kernel
theorem dX7_split_59 : decode cX7_split 59 = .ok (.aload_n 0, 1) := by decide +kernel
theorem dX7_split_60 : decode cX7_split 60 = .ok (.getfield 124, 3) := by decide +kernel
theorem dX7_split_63 : decode cX7_split 63 = .ok (.iconst 1, 1) := by decide +kernel
theorem dX7_split_64 : decode cX7_split 64 = .ok (.isub, 1) := by decide +kernel
theorem dX7_split_65 : decode cX7_split 65 = .ok (.invokevirtual 138, 3) := by decide +kernel
theorem dX7_split_68 : decode cX7_split 68 = .ok (.iconst 3, 1) := by decide +kernel
theorem dX7_split_69 : decode cX7_split 69 = .ok (.if_icmp .ne 4, 3) := by decide +kernel
theorem dX7_split_72 : decode cX7_split 72 = .ok (.return_, 1) := by decide +kernel
theorem dX7_split_73 : decode cX7_split 73 = .ok (.iload 5, 2) := by decide +kernel
theorem dX7_split_75 : decode cX7_split 75 = .ok (.istore_n 3, 1) := by decide +kernel
theorem dX7_split_76 : decode cX7_split 76 = .ok (.goto (-69), 3) := by decide +kernel
theorem dX7_split_79 : decode cX7_split 79 = .ok (.aload_n 0, 1) := by decide +kernel
theorem dX7_split_80 : decode cX7_split 80 = .ok (.iconst 4, 1) := by decide +kernel
theorem dX7_split_81 : decode cX7_split 81 = .ok (.iconst 0, 1) := by decide +kernel
theorem dX7_split_82 : decode cX7_split 82 = .ok (.aload_n 1, 1) := by decide +kernel
theorem dX7_split_83 : decode cX7_split 83 = .ok (.getfield 53, 3) := by decide +kernel
theorem dX7_split_86 : decode cX7_split 86 = .ok (.invokevirtual 141, 3) := by decide +kernel
theorem dX7_split_89 : decode cX7_split 89 = .ok (.return_, 1) := by decide +kernel
theorem dX7_endOfRow_0 : decode cX7_endOfRow 0 = .ok (.iload_n 1, 1) := by decide +kernel
theorem dX7_endOfRow_1 : decode cX7_endOfRow 1 = .ok (.iconst 1, 1) := by decide +kernel
theorem dX7_endOfRow_2 : decode cX7_endOfRow 2 = .ok (.iadd, 1) := by decide +kernel
theorem dX7_endOfRow_3 : decode cX7_endOfRow 3 = .ok (.istore_n 2, 1) := by decide +kernel
theorem dX7_endOfRow_4 : decode cX7_endOfRow 4 = .ok (.aload_n 0, 1) := by decide +kernel
theorem dX7_endOfRow_5 : decode cX7_endOfRow 5 = .ok (.iload_n 1, 1) := by decide +kernel
theorem dX7_endOfRow_6 : decode cX7_endOfRow 6 = .ok (.invokevirtual 127, 3) := by decide +kernel
theorem dX7_endOfRow_9 : decode cX7_endOfRow 9 = .ok (.invokestatic 145, 3) := by decide +kernel
theorem dX7_endOfRow_12 : decode cX7_endOfRow 12 = .ok (.ifCond .eq 28, 3) := by decide +kernel
theorem dX7_endOfRow_15 : decode cX7_endOfRow 15 = .ok (.iload_n 2, 1) := by decide +kernel
theorem dX7_endOfRow_16 : decode cX7_endOfRow 16 = .ok (.aload_n 0, 1) := by decide +kernel
theorem dX7_endOfRow_17 : decode cX7_endOfRow 17 = .ok (.getfield 53, 3) := by decide +kernel
theorem dX7_endOfRow_20 : decode cX7_endOfRow 20 = .ok (.if_icmp .ge 56, 3) := by decide +kernel
theorem dX7_endOfRow_23 : decode cX7_endOfRow 23 = .ok (.aload_n 0, 1) := by decide +kernel
theorem dX7_endOfRow_24 : decode cX7_endOfRow 24 = .ok (.iload_n 2, 1) := by decide +kernel
theorem dX7_endOfRow_25 : decode cX7_endOfRow 25 = .ok (.invokevirtual 127, 3) := by decide +kernel
theorem dX7_endOfRow_28 : decode cX7_endOfRow 28 = .ok (.invokestatic 145, 3) := by decide +kernel
theorem dX7_endOfRow_31 : decode cX7_endOfRow 31 = .ok (.ifCond .eq 45, 3) := by decide +kernel
theorem dX7_endOfRow_34 : decode cX7_endOfRow 34 = .ok (.iinc 2 1, 3) := by decide +kernel
theorem dX7_endOfRow_37 : decode cX7_endOfRow 37 = .ok (.goto (-22), 3) := by decide +kernel
theorem dX7_endOfRow_40 : decode cX7_endOfRow 40 = .ok (.aload_n 0, 1) := by decide +kernel
theorem dX7_endOfRow_41 : decode cX7_endOfRow 41 = .ok (.iload_n 1, 1) := by decide +kernel
theorem dX7_endOfRow_42 : decode cX7_endOfRow 42 = .ok (.invokevirtual 127, 3) := by decide +kernel
theorem dX7_endOfRow_45 : decode cX7_endOfRow 45 = .ok (.invokestatic 148, 3) := by decide +kernel
theorem dX7_endOfRow_48 : decode cX7_endOfRow 48 = .ok (.ifCond .eq 28, 3) := by decide +kernel
theorem dX7_endOfRow_51 : decode cX7_endOfRow 51 = .ok (.iload_n 2, 1) := by decide +kernel
theorem dX7_endOfRow_52 : decode cX7_endOfRow 52 = .ok (.aload_n 0, 1) := by decide +kernel
theorem dX7_endOfRow_53 : decode cX7_endOfRow 53 = .ok (.getfield 53, 3) := by decide +kernel
theorem dX7_endOfRow_56 : decode cX7_endOfRow 56 = .ok (.if_icmp .ge 20, 3) := by decide +kernel
theorem dX7_endOfRow_59 : decode cX7_endOfRow 59 = .ok (.aload_n 0, 1) := by decide +kernel
theorem dX7_endOfRow_60 : decode cX7_endOfRow 60 = .ok (.iload_n 2, 1) := by decide +kernel
theorem dX7_endOfRow_61 : decode cX7_endOfRow 61 = .ok (.invokevirtual 127, 3) := by decide +kernel
theorem dX7_endOfRow_64 : decode cX7_endOfRow 64 = .ok (.invokestatic 148, 3) := by decide +kernel
theorem dX7_endOfRow_67 : decode cX7_endOfRow 67 = .ok (.ifCond .eq 9, 3) := by decide +kernel
theorem dX7_endOfRow_70 : decode cX7_endOfRow 70 = .ok (.iinc 2 1, 3) := by decide +kernel
theorem dX7_endOfRow_73 : decode cX7_endOfRow 73 = .ok (.goto (-22), 3) := by decide +kernel
theorem dX7_endOfRow_76 : decode cX7_endOfRow 76 = .ok (.iload_n 2, 1) := by decide +kernel
theorem dX7_endOfRow_77 : decode cX7_endOfRow 77 = .ok (.ireturn, 1) := by decide +kernel
theorem dX7_addToken_0 : decode cX7_addToken 0 = .ok (.aload_n 1, 1) := by decide +kernel
theorem dX7_addToken_1 : decode cX7_addToken 1 = .ok (.iload_n 3, 1) := by decide +kernel
theorem dX7_addToken_2 : decode cX7_addToken 2 = .ok (.invokevirtual 127, 3) := by decide +kernel
theorem dX7_addToken_5 : decode cX7_addToken 5 = .ok (.istore 5, 2) := by decide +kernel
theorem dX7_addToken_7 : decode cX7_addToken 7 = .ok (.iload 5, 2) := by decide +kernel
theorem dX7_addToken_9 : decode cX7_addToken 9 = .ok (.invokestatic 145, 3) := by decide +kernel
theorem dX7_addToken_12 : decode cX7_addToken 12 = .ok (.ifCond .eq 34, 3) := by decide +kernel
theorem dX7_addToken_15 : decode cX7_addToken 15 = .ok (.aload_n 1, 1) := by decide +kernel
theorem dX7_addToken_16 : decode cX7_addToken 16 = .ok (.iload_n 2, 1) := by decide +kernel
theorem dX7_addToken_17 : decode cX7_addToken 17 = .ok (.iload_n 3, 1) := by decide +kernel
theorem dX7_addToken_18 : decode cX7_addToken 18 = .ok (.iload 4, 2) := by decide +kernel
theorem dX7_addToken_20 : decode cX7_addToken 20 = .ok (.invokestatic 151, 3) := by decide +kernel
theorem dX7_addToken_23 : decode cX7_addToken 23 = .ok (.istore 6, 2) := by decide +kernel
theorem dX7_addToken_25 : decode cX7_addToken 25 = .ok (.aload_n 0, 1) := by decide +kernel
theorem dX7_addToken_26 : decode cX7_addToken 26 = .ok (.iload 6, 2) := by decide +kernel
theorem dX7_addToken_28 : decode cX7_addToken 28 = .ok (.iconst (-1), 1) := by decide +kernel
theorem dX7_addToken_29 : decode cX7_addToken 29 = .ok (.if_icmp .ne 7, 3) := by decide +kernel
theorem dX7_addToken_32 : decode cX7_addToken 32 = .ok (.iconst 3, 1) := by decide +kernel
theorem dX7_addToken_33 : decode cX7_addToken 33 = .ok (.goto 4, 3) := by decide +kernel
theorem dX7_addToken_36 : decode cX7_addToken 36 = .ok (.iconst 0, 1) := by decide +kernel
theorem dX7_addToken_37 : decode cX7_addToken 37 = .ok (.iload 6, 2) := by decide +kernel
theorem dX7_addToken_39 : decode cX7_addToken 39 = .ok (.iload_n 3, 1) := by decide +kernel
theorem dX7_addToken_40 : decode cX7_addToken 40 = .ok (.invokevirtual 141, 3) := by decide +kernel
theorem dX7_addToken_43 : decode cX7_addToken 43 = .ok (.goto 87, 3) := by decide +kernel
theorem dX7_addToken_46 : decode cX7_addToken 46 = .ok (.iload 5, 2) := by decide +kernel
theorem dX7_addToken_48 : decode cX7_addToken 48 = .ok (.invokestatic 148, 3) := by decide +kernel
theorem dX7_addToken_51 : decode cX7_addToken 51 = .ok (.ifCond .eq 55, 3) := by decide +kernel
theorem dX7_addToken_54 : decode cX7_addToken 54 = .ok (.iload 4, 2) := by decide +kernel
theorem dX7_addToken_56 : decode cX7_addToken 56 = .ok (.iload_n 3, 1) := by decide +kernel
theorem dX7_addToken_57 : decode cX7_addToken 57 = .ok (.isub, 1) := by decide +kernel
theorem dX7_addToken_58 : decode cX7_addToken 58 = .ok (.iconst 2, 1) := by decide +kernel
theorem dX7_addToken_59 : decode cX7_addToken 59 = .ok (.if_icmp .gt 47, 3) := by decide +kernel
theorem dX7_addToken_62 : decode cX7_addToken 62 = .ok (.iload 5, 2) := by decide +kernel
theorem dX7_addToken_64 : decode cX7_addToken 64 = .ok (.bipush 48, 2) := by decide +kernel
theorem dX7_addToken_66 : decode cX7_addToken 66 = .ok (.isub, 1) := by decide +kernel
theorem dX7_addToken_67 : decode cX7_addToken 67 = .ok (.istore 6, 2) := by decide +kernel
theorem dX7_addToken_69 : decode cX7_addToken 69 = .ok (.iload 4, 2) := by decide +kernel
theorem dX7_addToken_71 : decode cX7_addToken 71 = .ok (.iload_n 3, 1) := by decide +kernel
theorem dX7_addToken_72 : decode cX7_addToken 72 = .ok (.isub, 1) := by decide +kernel
theorem dX7_addToken_73 : decode cX7_addToken 73 = .ok (.iconst 2, 1) := by decide +kernel
theorem dX7_addToken_74 : decode cX7_addToken 74 = .ok (.if_icmp .ne 21, 3) := by decide +kernel
theorem dX7_addToken_77 : decode cX7_addToken 77 = .ok (.iload 6, 2) := by decide +kernel
theorem dX7_addToken_79 : decode cX7_addToken 79 = .ok (.bipush 10, 2) := by decide +kernel
theorem dX7_addToken_81 : decode cX7_addToken 81 = .ok (.imul, 1) := by decide +kernel
theorem dX7_addToken_82 : decode cX7_addToken 82 = .ok (.aload_n 1, 1) := by decide +kernel
theorem dX7_addToken_83 : decode cX7_addToken 83 = .ok (.iload_n 3, 1) := by decide +kernel
theorem dX7_addToken_84 : decode cX7_addToken 84 = .ok (.iconst 1, 1) := by decide +kernel
theorem dX7_addToken_85 : decode cX7_addToken 85 = .ok (.iadd, 1) := by decide +kernel
theorem dX7_addToken_86 : decode cX7_addToken 86 = .ok (.invokevirtual 127, 3) := by decide +kernel
theorem dX7_addToken_89 : decode cX7_addToken 89 = .ok (.iadd, 1) := by decide +kernel
theorem dX7_addToken_90 : decode cX7_addToken 90 = .ok (.bipush 48, 2) := by decide +kernel
theorem dX7_addToken_92 : decode cX7_addToken 92 = .ok (.isub, 1) := by decide +kernel
theorem dX7_addToken_93 : decode cX7_addToken 93 = .ok (.istore 6, 2) := by decide +kernel
theorem dX7_addToken_95 : decode cX7_addToken 95 = .ok (.aload_n 0, 1) := by decide +kernel
theorem dX7_addToken_96 : decode cX7_addToken 96 = .ok (.iconst 1, 1) := by decide +kernel
theorem dX7_addToken_97 : decode cX7_addToken 97 = .ok (.iload 6, 2) := by decide +kernel
theorem dX7_addToken_99 : decode cX7_addToken 99 = .ok (.iload_n 3, 1) := by decide +kernel
theorem dX7_addToken_100 : decode cX7_addToken 100 = .ok (.invokevirtual 141, 3) := by decide +kernel
theorem dX7_addToken_103 : decode cX7_addToken 103 = .ok (.goto 27, 3) := by decide +kernel
theorem dX7_addToken_106 : decode cX7_addToken 106 = .ok (.iload 5, 2) := by decide +kernel
theorem dX7_addToken_108 : decode cX7_addToken 108 = .ok (.bipush 59, 2) := by decide +kernel
theorem dX7_addToken_110 : decode cX7_addToken 110 = .ok (.if_icmp .ne 13, 3) := by decide +kernel
theorem dX7_addToken_113 : decode cX7_addToken 113 = .ok (.aload_n 0, 1) := by decide +kernel
theorem dX7_addToken_114 : decode cX7_addToken 114 = .ok (.iconst 2, 1) := by decide +kernel
theorem dX7_addToken_115 : decode cX7_addToken 115 = .ok (.iconst 0, 1) := by decide +kernel
theorem dX7_addToken_116 : decode cX7_addToken 116 = .ok (.iload_n 3, 1) := by decide +kernel
theorem dX7_addToken_117 : decode cX7_addToken 117 = .ok (.invokevirtual 141, 3) := by decide +kernel
theorem dX7_addToken_120 : decode cX7_addToken 120 = .ok (.goto 10, 3) := by decide +kernel
theorem dX7_addToken_123 : decode cX7_addToken 123 = .ok (.aload_n 0, 1) := by decide +kernel
theorem dX7_addToken_124 : decode cX7_addToken 124 = .ok (.iconst 3, 1) := by decide +kernel
theorem dX7_addToken_125 : decode cX7_addToken 125 = .ok (.iconst 0, 1) := by decide +kernel
theorem dX7_addToken_126 : decode cX7_addToken 126 = .ok (.iload_n 3, 1) := by decide +kernel
theorem dX7_addToken_127 : decode cX7_addToken 127 = .ok (.invokevirtual 141, 3) := by decide +kernel
theorem dX7_addToken_130 : decode cX7_addToken 130 = .ok (.return_, 1) := by decide +kernel
theorem dX7_put_0 : decode cX7_put 0 = .ok (.aload_n 0, 1) := by decide +kernel
theorem dX7_put_1 : decode cX7_put 1 = .ok (.getfield 124, 3) := by decide +kernel
theorem dX7_put_4 : decode cX7_put 4 = .ok (.aload_n 0, 1) := by decide +kernel
theorem dX7_put_5 : decode cX7_put 5 = .ok (.getfield 11, 3) := by decide +kernel
theorem dX7_put_8 : decode cX7_put 8 = .ok (.arraylength, 1) := by decide +kernel
theorem dX7_put_9 : decode cX7_put 9 = .ok (.if_icmp .ge 43, 3) := by decide +kernel
theorem dX7_put_12 : decode cX7_put 12 = .ok (.aload_n 0, 1) := by decide +kernel
theorem dX7_put_13 : decode cX7_put 13 = .ok (.getfield 11, 3) := by decide +kernel
theorem dX7_put_16 : decode cX7_put 16 = .ok (.aload_n 0, 1) := by decide +kernel
theorem dX7_put_17 : decode cX7_put 17 = .ok (.getfield 124, 3) := by decide +kernel
theorem dX7_put_20 : decode cX7_put 20 = .ok (.iload_n 1, 1) := by decide +kernel
theorem dX7_put_21 : decode cX7_put 21 = .ok (.iastore, 1) := by decide +kernel
theorem dX7_put_22 : decode cX7_put 22 = .ok (.aload_n 0, 1) := by decide +kernel
theorem dX7_put_23 : decode cX7_put 23 = .ok (.getfield 17, 3) := by decide +kernel
theorem dX7_put_26 : decode cX7_put 26 = .ok (.aload_n 0, 1) := by decide +kernel
theorem dX7_put_27 : decode cX7_put 27 = .ok (.getfield 124, 3) := by decide +kernel
theorem dX7_put_30 : decode cX7_put 30 = .ok (.iload_n 2, 1) := by decide +kernel
theorem dX7_put_31 : decode cX7_put 31 = .ok (.iastore, 1) := by decide +kernel
theorem dX7_put_32 : decode cX7_put 32 = .ok (.aload_n 0, 1) := by decide +kernel
theorem dX7_put_33 : decode cX7_put 33 = .ok (.getfield 20, 3) := by decide +kernel
theorem dX7_put_36 : decode cX7_put 36 = .ok (.aload_n 0, 1) := by decide +kernel
theorem dX7_put_37 : decode cX7_put 37 = .ok (.getfield 124, 3) := by decide +kernel
theorem dX7_put_40 : decode cX7_put 40 = .ok (.iload_n 3, 1) := by decide +kernel
theorem dX7_put_41 : decode cX7_put 41 = .ok (.iastore, 1) := by decide +kernel
theorem dX7_put_42 : decode cX7_put 42 = .ok (.aload_n 0, 1) := by decide +kernel
theorem dX7_put_43 : decode cX7_put 43 = .ok (.dup, 1) := by decide +kernel
theorem dX7_put_44 : decode cX7_put 44 = .ok (.getfield 124, 3) := by decide +kernel
theorem dX7_put_47 : decode cX7_put 47 = .ok (.iconst 1, 1) := by decide +kernel
theorem dX7_put_48 : decode cX7_put 48 = .ok (.iadd, 1) := by decide +kernel
theorem dX7_put_49 : decode cX7_put 49 = .ok (.putfield 124, 3) := by decide +kernel
theorem dX7_put_52 : decode cX7_put 52 = .ok (.return_, 1) := by decide +kernel
theorem dX7_wordOf_0 : decode cX7_wordOf 0 = .ok (.iload_n 1, 1) := by decide +kernel
theorem dX7_wordOf_1 : decode cX7_wordOf 1 = .ok (.ifCond .lt 8, 3) := by decide +kernel
theorem dX7_wordOf_4 : decode cX7_wordOf 4 = .ok (.iload_n 1, 1) := by decide +kernel
theorem dX7_wordOf_5 : decode cX7_wordOf 5 = .ok (.iconst 4, 1) := by decide +kernel
theorem dX7_wordOf_6 : decode cX7_wordOf 6 = .ok (.if_icmp .lt 5, 3) := by decide +kernel
theorem dX7_wordOf_9 : decode cX7_wordOf 9 = .ok (.iconst (-1), 1) := by decide +kernel
theorem dX7_wordOf_10 : decode cX7_wordOf 10 = .ok (.ireturn, 1) := by decide +kernel
theorem dX7_wordOf_11 : decode cX7_wordOf 11 = .ok (.getstatic 155, 3) := by decide +kernel
theorem dX7_wordOf_14 : decode cX7_wordOf 14 = .ok (.iload_n 1, 1) := by decide +kernel
theorem dX7_wordOf_15 : decode cX7_wordOf 15 = .ok (.iaload, 1) := by decide +kernel
theorem dX7_wordOf_16 : decode cX7_wordOf 16 = .ok (.istore 4, 2) := by decide +kernel
theorem dX7_wordOf_18 : decode cX7_wordOf 18 = .ok (.iload 4, 2) := by decide +kernel
theorem dX7_wordOf_20 : decode cX7_wordOf 20 = .ok (.getstatic 155, 3) := by decide +kernel
theorem dX7_wordOf_23 : decode cX7_wordOf 23 = .ok (.iload_n 1, 1) := by decide +kernel
theorem dX7_wordOf_24 : decode cX7_wordOf 24 = .ok (.iconst 1, 1) := by decide +kernel
theorem dX7_wordOf_25 : decode cX7_wordOf 25 = .ok (.iadd, 1) := by decide +kernel
theorem dX7_wordOf_26 : decode cX7_wordOf 26 = .ok (.iaload, 1) := by decide +kernel
theorem dX7_wordOf_27 : decode cX7_wordOf 27 = .ok (.if_icmp .ge 26, 3) := by decide +kernel
theorem dX7_wordOf_30 : decode cX7_wordOf 30 = .ok (.aload_n 0, 1) := by decide +kernel
theorem dX7_wordOf_31 : decode cX7_wordOf 31 = .ok (.iload_n 2, 1) := by decide +kernel
theorem dX7_wordOf_32 : decode cX7_wordOf 32 = .ok (.iload_n 3, 1) := by decide +kernel
theorem dX7_wordOf_33 : decode cX7_wordOf 33 = .ok (.iload 4, 2) := by decide +kernel
theorem dX7_wordOf_35 : decode cX7_wordOf 35 = .ok (.invokestatic 158, 3) := by decide +kernel
theorem dX7_wordOf_38 : decode cX7_wordOf 38 = .ok (.invokestatic 162, 3) := by decide +kernel
theorem dX7_wordOf_41 : decode cX7_wordOf 41 = .ok (.ifCond .eq 6, 3) := by decide +kernel
theorem dX7_wordOf_44 : decode cX7_wordOf 44 = .ok (.iload 4, 2) := by decide +kernel
theorem dX7_wordOf_46 : decode cX7_wordOf 46 = .ok (.ireturn, 1) := by decide +kernel
theorem dX7_wordOf_47 : decode cX7_wordOf 47 = .ok (.iinc 4 1, 3) := by decide +kernel
theorem dX7_wordOf_50 : decode cX7_wordOf 50 = .ok (.goto (-32), 3) := by decide +kernel
theorem dX7_wordOf_53 : decode cX7_wordOf 53 = .ok (.iconst (-1), 1) := by decide +kernel
theorem dX7_wordOf_54 : decode cX7_wordOf 54 = .ok (.ireturn, 1) := by decide +kernel
theorem dX7_isName_0 : decode cX7_isName 0 = .ok (.aload_n 3, 1) := by decide +kernel
theorem dX7_isName_1 : decode cX7_isName 1 = .ok (.invokevirtual 166, 3) := by decide +kernel
theorem dX7_isName_4 : decode cX7_isName 4 = .ok (.iload_n 2, 1) := by decide +kernel
theorem dX7_isName_5 : decode cX7_isName 5 = .ok (.iload_n 1, 1) := by decide +kernel
theorem dX7_isName_6 : decode cX7_isName 6 = .ok (.isub, 1) := by decide +kernel
theorem dX7_isName_7 : decode cX7_isName 7 = .ok (.if_icmp .eq 5, 3) := by decide +kernel
theorem dX7_isName_10 : decode cX7_isName 10 = .ok (.iconst 0, 1) := by decide +kernel
theorem dX7_isName_11 : decode cX7_isName 11 = .ok (.ireturn, 1) := by decide +kernel
theorem dX7_isName_12 : decode cX7_isName 12 = .ok (.iconst 0, 1) := by decide +kernel
theorem dX7_isName_13 : decode cX7_isName 13 = .ok (.istore 4, 2) := by decide +kernel
theorem dX7_isName_15 : decode cX7_isName 15 = .ok (.iload 4, 2) := by decide +kernel
theorem dX7_isName_17 : decode cX7_isName 17 = .ok (.aload_n 3, 1) := by decide +kernel
theorem dX7_isName_18 : decode cX7_isName 18 = .ok (.invokevirtual 166, 3) := by decide +kernel
theorem dX7_isName_21 : decode cX7_isName 21 = .ok (.if_icmp .ge 28, 3) := by decide +kernel
theorem dX7_isName_24 : decode cX7_isName 24 = .ok (.aload_n 0, 1) := by decide +kernel
theorem dX7_isName_25 : decode cX7_isName 25 = .ok (.iload_n 1, 1) := by decide +kernel
theorem dX7_isName_26 : decode cX7_isName 26 = .ok (.iload 4, 2) := by decide +kernel
theorem dX7_isName_28 : decode cX7_isName 28 = .ok (.iadd, 1) := by decide +kernel
theorem dX7_isName_29 : decode cX7_isName 29 = .ok (.invokevirtual 127, 3) := by decide +kernel
theorem dX7_isName_32 : decode cX7_isName 32 = .ok (.aload_n 3, 1) := by decide +kernel
theorem dX7_isName_33 : decode cX7_isName 33 = .ok (.iload 4, 2) := by decide +kernel
theorem dX7_isName_35 : decode cX7_isName 35 = .ok (.invokevirtual 171, 3) := by decide +kernel
theorem dX7_isName_38 : decode cX7_isName 38 = .ok (.if_icmp .eq 5, 3) := by decide +kernel
theorem dX7_isName_41 : decode cX7_isName 41 = .ok (.iconst 0, 1) := by decide +kernel
theorem dX7_isName_42 : decode cX7_isName 42 = .ok (.ireturn, 1) := by decide +kernel
theorem dX7_isName_43 : decode cX7_isName 43 = .ok (.iinc 4 1, 3) := by decide +kernel
theorem dX7_isName_46 : decode cX7_isName 46 = .ok (.goto (-31), 3) := by decide +kernel
theorem dX7_isName_49 : decode cX7_isName 49 = .ok (.iconst 1, 1) := by decide +kernel
theorem dX7_isName_50 : decode cX7_isName 50 = .ok (.ireturn, 1) := by decide +kernel
theorem dX7_kindAt_0 : decode cX7_kindAt 0 = .ok (.iload_n 1, 1) := by decide +kernel
theorem dX7_kindAt_1 : decode cX7_kindAt 1 = .ok (.ifCond .lt 20, 3) := by decide +kernel
theorem dX7_kindAt_4 : decode cX7_kindAt 4 = .ok (.iload_n 1, 1) := by decide +kernel
theorem dX7_kindAt_5 : decode cX7_kindAt 5 = .ok (.aload_n 0, 1) := by decide +kernel
theorem dX7_kindAt_6 : decode cX7_kindAt 6 = .ok (.getfield 124, 3) := by decide +kernel
theorem dX7_kindAt_9 : decode cX7_kindAt 9 = .ok (.if_icmp .ge 12, 3) := by decide +kernel
theorem dX7_kindAt_12 : decode cX7_kindAt 12 = .ok (.aload_n 0, 1) := by decide +kernel
theorem dX7_kindAt_13 : decode cX7_kindAt 13 = .ok (.getfield 11, 3) := by decide +kernel
theorem dX7_kindAt_16 : decode cX7_kindAt 16 = .ok (.iload_n 1, 1) := by decide +kernel
theorem dX7_kindAt_17 : decode cX7_kindAt 17 = .ok (.iaload, 1) := by decide +kernel
theorem dX7_kindAt_18 : decode cX7_kindAt 18 = .ok (.goto 4, 3) := by decide +kernel
theorem dX7_kindAt_21 : decode cX7_kindAt 21 = .ok (.iconst 4, 1) := by decide +kernel
theorem dX7_kindAt_22 : decode cX7_kindAt 22 = .ok (.ireturn, 1) := by decide +kernel
theorem dX7_startAt_0 : decode cX7_startAt 0 = .ok (.iload_n 1, 1) := by decide +kernel
theorem dX7_startAt_1 : decode cX7_startAt 1 = .ok (.ifCond .lt 20, 3) := by decide +kernel
theorem dX7_startAt_4 : decode cX7_startAt 4 = .ok (.iload_n 1, 1) := by decide +kernel
theorem dX7_startAt_5 : decode cX7_startAt 5 = .ok (.aload_n 0, 1) := by decide +kernel
theorem dX7_startAt_6 : decode cX7_startAt 6 = .ok (.getfield 124, 3) := by decide +kernel
theorem dX7_startAt_9 : decode cX7_startAt 9 = .ok (.if_icmp .ge 12, 3) := by decide +kernel
theorem dX7_startAt_12 : decode cX7_startAt 12 = .ok (.aload_n 0, 1) := by decide +kernel
theorem dX7_startAt_13 : decode cX7_startAt 13 = .ok (.getfield 20, 3) := by decide +kernel
theorem dX7_startAt_16 : decode cX7_startAt 16 = .ok (.iload_n 1, 1) := by decide +kernel
theorem dX7_startAt_17 : decode cX7_startAt 17 = .ok (.iaload, 1) := by decide +kernel
theorem dX7_startAt_18 : decode cX7_startAt 18 = .ok (.goto 4, 3) := by decide +kernel
theorem dX7_startAt_21 : decode cX7_startAt 21 = .ok (.iconst (-1), 1) := by decide +kernel
theorem dX7_startAt_22 : decode cX7_startAt 22 = .ok (.ireturn, 1) := by decide +kernel
theorem dX7_valueAt_0 : decode cX7_valueAt 0 = .ok (.iload_n 1, 1) := by decide +kernel
theorem dX7_valueAt_1 : decode cX7_valueAt 1 = .ok (.ifCond .lt 20, 3) := by decide +kernel
theorem dX7_valueAt_4 : decode cX7_valueAt 4 = .ok (.iload_n 1, 1) := by decide +kernel
theorem dX7_valueAt_5 : decode cX7_valueAt 5 = .ok (.aload_n 0, 1) := by decide +kernel
theorem dX7_valueAt_6 : decode cX7_valueAt 6 = .ok (.getfield 124, 3) := by decide +kernel
theorem dX7_valueAt_9 : decode cX7_valueAt 9 = .ok (.if_icmp .ge 12, 3) := by decide +kernel
theorem dX7_valueAt_12 : decode cX7_valueAt 12 = .ok (.aload_n 0, 1) := by decide +kernel
theorem dX7_valueAt_13 : decode cX7_valueAt 13 = .ok (.getfield 17, 3) := by decide +kernel
theorem dX7_valueAt_16 : decode cX7_valueAt 16 = .ok (.iload_n 1, 1) := by decide +kernel
theorem dX7_valueAt_17 : decode cX7_valueAt 17 = .ok (.iaload, 1) := by decide +kernel
theorem dX7_valueAt_18 : decode cX7_valueAt 18 = .ok (.goto 4, 3) := by decide +kernel
theorem dX7_valueAt_21 : decode cX7_valueAt 21 = .ok (.iconst 0, 1) := by decide +kernel
theorem dX7_valueAt_22 : decode cX7_valueAt 22 = .ok (.ireturn, 1) := by decide +kernel
theorem dX7_numbersOf_0 : decode cX7_numbersOf 0 = .ok (.iload_n 0, 1) := by decide +kernel
theorem dX7_numbersOf_1 : decode cX7_numbersOf 1 = .ok (.ifCond .lt 19, 3) := by decide +kernel
theorem dX7_numbersOf_4 : decode cX7_numbersOf 4 = .ok (.iload_n 0, 1) := by decide +kernel
theorem dX7_numbersOf_5 : decode cX7_numbersOf 5 = .ok (.getstatic 175, 3) := by decide +kernel
theorem dX7_numbersOf_8 : decode cX7_numbersOf 8 = .ok (.arraylength, 1) := by decide +kernel
theorem dX7_numbersOf_9 : decode cX7_numbersOf 9 = .ok (.if_icmp .ge 11, 3) := by decide +kernel
theorem dX7_numbersOf_12 : decode cX7_numbersOf 12 = .ok (.getstatic 175, 3) := by decide +kernel
theorem dX7_numbersOf_15 : decode cX7_numbersOf 15 = .ok (.iload_n 0, 1) := by decide +kernel
theorem dX7_numbersOf_16 : decode cX7_numbersOf 16 = .ok (.iaload, 1) := by decide +kernel
theorem dX7_numbersOf_17 : decode cX7_numbersOf 17 = .ok (.goto 4, 3) := by decide +kernel
theorem dX7_numbersOf_20 : decode cX7_numbersOf 20 = .ok (.iconst 0, 1) := by decide +kernel
theorem dX7_numbersOf_21 : decode cX7_numbersOf 21 = .ok (.ireturn, 1) := by decide +kernel
theorem dX7_lastToken_0 : decode cX7_lastToken 0 = .ok (.aload_n 0, 1) := by decide +kernel
theorem dX7_lastToken_1 : decode cX7_lastToken 1 = .ok (.getfield 124, 3) := by decide +kernel
theorem dX7_lastToken_4 : decode cX7_lastToken 4 = .ok (.iconst 1, 1) := by decide +kernel
theorem dX7_lastToken_5 : decode cX7_lastToken 5 = .ok (.isub, 1) := by decide +kernel
theorem dX7_lastToken_6 : decode cX7_lastToken 6 = .ok (.ireturn, 1) := by decide +kernel
theorem dX7_behindStatement_0 : decode cX7_behindStatement 0 = .ok (.iload_n 1, 1) := by decide +kernel
theorem dX7_behindStatement_1 : decode cX7_behindStatement 1 = .ok (.aload_n 0, 1) := by decide +kernel
theorem dX7_behindStatement_2 : decode cX7_behindStatement 2 = .ok (.iload_n 1, 1) := by decide +kernel
theorem dX7_behindStatement_3 : decode cX7_behindStatement 3 = .ok (.invokevirtual 178, 3) := by decide +kernel
theorem dX7_behindStatement_6 : decode cX7_behindStatement 6 = .ok (.invokestatic 181, 3) := by decide +kernel
theorem dX7_behindStatement_9 : decode cX7_behindStatement 9 = .ok (.iadd, 1) := by decide +kernel
theorem dX7_behindStatement_10 : decode cX7_behindStatement 10 = .ok (.iconst 2, 1) := by decide +kernel
theorem dX7_behindStatement_11 : decode cX7_behindStatement 11 = .ok (.iadd, 1) := by decide +kernel
theorem dX7_behindStatement_12 : decode cX7_behindStatement 12 = .ok (.ireturn, 1) := by decide +kernel
theorem dX7_firstUnfit_0 : decode cX7_firstUnfit 0 = .ok (.iconst 0, 1) := by decide +kernel
theorem dX7_firstUnfit_1 : decode cX7_firstUnfit 1 = .ok (.istore_n 1, 1) := by decide +kernel
theorem dX7_firstUnfit_2 : decode cX7_firstUnfit 2 = .ok (.iload_n 1, 1) := by decide +kernel
theorem dX7_firstUnfit_3 : decode cX7_firstUnfit 3 = .ok (.aload_n 0, 1) := by decide +kernel
theorem dX7_firstUnfit_4 : decode cX7_firstUnfit 4 = .ok (.getfield 124, 3) := by decide +kernel
theorem dX7_firstUnfit_7 : decode cX7_firstUnfit 7 = .ok (.if_icmp .ge 78, 3) := by decide +kernel
theorem dX7_firstUnfit_10 : decode cX7_firstUnfit 10 = .ok (.aload_n 0, 1) := by decide +kernel
theorem dX7_firstUnfit_11 : decode cX7_firstUnfit 11 = .ok (.iload_n 1, 1) := by decide +kernel
theorem dX7_firstUnfit_12 : decode cX7_firstUnfit 12 = .ok (.invokevirtual 138, 3) := by decide +kernel
theorem dX7_firstUnfit_15 : decode cX7_firstUnfit 15 = .ok (.ifCond .eq 18, 3) := by decide +kernel
theorem dX7_firstUnfit_18 : decode cX7_firstUnfit 18 = .ok (.aload_n 0, 1) := by decide +kernel
theorem dX7_firstUnfit_19 : decode cX7_firstUnfit 19 = .ok (.iload_n 1, 1) := by decide +kernel
theorem dX7_firstUnfit_20 : decode cX7_firstUnfit 20 = .ok (.invokevirtual 138, 3) := by decide +kernel
theorem dX7_firstUnfit_23 : decode cX7_firstUnfit 23 = .ok (.iconst 4, 1) := by decide +kernel
theorem dX7_firstUnfit_24 : decode cX7_firstUnfit 24 = .ok (.if_icmp .ne 7, 3) := by decide +kernel
theorem dX7_firstUnfit_27 : decode cX7_firstUnfit 27 = .ok (.iconst (-1), 1) := by decide +kernel
theorem dX7_firstUnfit_28 : decode cX7_firstUnfit 28 = .ok (.goto 4, 3) := by decide +kernel
theorem dX7_firstUnfit_31 : decode cX7_firstUnfit 31 = .ok (.iload_n 1, 1) := by decide +kernel
theorem dX7_firstUnfit_32 : decode cX7_firstUnfit 32 = .ok (.ireturn, 1) := by decide +kernel
theorem dX7_firstUnfit_33 : decode cX7_firstUnfit 33 = .ok (.aload_n 0, 1) := by decide +kernel
theorem dX7_firstUnfit_34 : decode cX7_firstUnfit 34 = .ok (.iload_n 1, 1) := by decide +kernel
theorem dX7_firstUnfit_35 : decode cX7_firstUnfit 35 = .ok (.invokevirtual 184, 3) := by decide +kernel
theorem dX7_firstUnfit_38 : decode cX7_firstUnfit 38 = .ok (.iconst 1, 1) := by decide +kernel
theorem dX7_firstUnfit_39 : decode cX7_firstUnfit 39 = .ok (.isub, 1) := by decide +kernel
theorem dX7_firstUnfit_40 : decode cX7_firstUnfit 40 = .ok (.istore_n 2, 1) := by decide +kernel
theorem dX7_firstUnfit_41 : decode cX7_firstUnfit 41 = .ok (.iload_n 1, 1) := by decide +kernel
theorem dX7_firstUnfit_42 : decode cX7_firstUnfit 42 = .ok (.iconst 1, 1) := by decide +kernel
theorem dX7_firstUnfit_43 : decode cX7_firstUnfit 43 = .ok (.iadd, 1) := by decide +kernel
theorem dX7_firstUnfit_44 : decode cX7_firstUnfit 44 = .ok (.istore_n 3, 1) := by decide +kernel
theorem dX7_firstUnfit_45 : decode cX7_firstUnfit 45 = .ok (.iload_n 3, 1) := by decide +kernel
theorem dX7_firstUnfit_46 : decode cX7_firstUnfit 46 = .ok (.iload_n 2, 1) := by decide +kernel
theorem dX7_firstUnfit_47 : decode cX7_firstUnfit 47 = .ok (.if_icmp .gt 29, 3) := by decide +kernel
theorem dX7_firstUnfit_50 : decode cX7_firstUnfit 50 = .ok (.aload_n 0, 1) := by decide +kernel
theorem dX7_firstUnfit_51 : decode cX7_firstUnfit 51 = .ok (.iload_n 3, 1) := by decide +kernel
theorem dX7_firstUnfit_52 : decode cX7_firstUnfit 52 = .ok (.invokevirtual 138, 3) := by decide +kernel
theorem dX7_firstUnfit_55 : decode cX7_firstUnfit 55 = .ok (.iload_n 3, 1) := by decide +kernel
theorem dX7_firstUnfit_56 : decode cX7_firstUnfit 56 = .ok (.iload_n 2, 1) := by decide +kernel
theorem dX7_firstUnfit_57 : decode cX7_firstUnfit 57 = .ok (.if_icmp .ne 7, 3) := by decide +kernel
theorem dX7_firstUnfit_60 : decode cX7_firstUnfit 60 = .ok (.iconst 2, 1) := by decide +kernel
theorem dX7_firstUnfit_61 : decode cX7_firstUnfit 61 = .ok (.goto 4, 3) := by decide +kernel
theorem dX7_firstUnfit_64 : decode cX7_firstUnfit 64 = .ok (.iconst 1, 1) := by decide +kernel
theorem dX7_firstUnfit_65 : decode cX7_firstUnfit 65 = .ok (.if_icmp .eq 5, 3) := by decide +kernel
theorem dX7_firstUnfit_68 : decode cX7_firstUnfit 68 = .ok (.iload_n 3, 1) := by decide +kernel
theorem dX7_firstUnfit_69 : decode cX7_firstUnfit 69 = .ok (.ireturn, 1) := by decide +kernel
theorem dX7_firstUnfit_70 : decode cX7_firstUnfit 70 = .ok (.iinc 3 1, 3) := by decide +kernel
theorem dX7_firstUnfit_73 : decode cX7_firstUnfit 73 = .ok (.goto (-28), 3) := by decide +kernel
theorem dX7_firstUnfit_76 : decode cX7_firstUnfit 76 = .ok (.aload_n 0, 1) := by decide +kernel
theorem dX7_firstUnfit_77 : decode cX7_firstUnfit 77 = .ok (.iload_n 1, 1) := by decide +kernel
theorem dX7_firstUnfit_78 : decode cX7_firstUnfit 78 = .ok (.invokevirtual 184, 3) := by decide +kernel
theorem dX7_firstUnfit_81 : decode cX7_firstUnfit 81 = .ok (.istore_n 1, 1) := by decide +kernel
theorem dX7_firstUnfit_82 : decode cX7_firstUnfit 82 = .ok (.goto (-80), 3) := by decide +kernel
theorem dX7_firstUnfit_85 : decode cX7_firstUnfit 85 = .ok (.iconst (-1), 1) := by decide +kernel
theorem dX7_firstUnfit_86 : decode cX7_firstUnfit 86 = .ok (.ireturn, 1) := by decide +kernel
theorem dX7_findWrongNumber_0 : decode cX7_findWrongNumber 0 = .ok (.iconst 0, 1) := by decide +kernel
theorem dX7_findWrongNumber_1 : decode cX7_findWrongNumber 1 = .ok (.istore_n 1, 1) := by decide +kernel
theorem dX7_findWrongNumber_2 : decode cX7_findWrongNumber 2 = .ok (.iconst 0, 1) := by decide +kernel
theorem dX7_findWrongNumber_3 : decode cX7_findWrongNumber 3 = .ok (.istore_n 2, 1) := by decide +kernel
theorem dX7_findWrongNumber_4 : decode cX7_findWrongNumber 4 = .ok (.iconst 0, 1) := by decide +kernel
theorem dX7_findWrongNumber_5 : decode cX7_findWrongNumber 5 = .ok (.istore_n 3, 1) := by decide +kernel
theorem dX7_findWrongNumber_6 : decode cX7_findWrongNumber 6 = .ok (.iconst 0, 1) := by decide +kernel
theorem dX7_findWrongNumber_7 : decode cX7_findWrongNumber 7 = .ok (.istore 4, 2) := by decide +kernel
theorem dX7_findWrongNumber_9 : decode cX7_findWrongNumber 9 = .ok (.iconst 0, 1) := by decide +kernel
theorem dX7_findWrongNumber_10 : decode cX7_findWrongNumber 10 = .ok (.istore 5, 2) := by decide +kernel
theorem dX7_findWrongNumber_12 : decode cX7_findWrongNumber 12 = .ok (.iload 5, 2) := by decide +kernel
theorem dX7_findWrongNumber_14 : decode cX7_findWrongNumber 14 = .ok (.aload_n 0, 1) := by decide +kernel
theorem dX7_findWrongNumber_15 : decode cX7_findWrongNumber 15 = .ok (.invokevirtual 187, 3) := by decide +kernel
theorem dX7_findWrongNumber_18 : decode cX7_findWrongNumber 18 = .ok (.if_icmp .ge 147, 3) := by decide +kernel
theorem dX7_findWrongNumber_21 : decode cX7_findWrongNumber 21 = .ok (.aload_n 0, 1) := by decide +kernel
theorem dX7_findWrongNumber_22 : decode cX7_findWrongNumber 22 = .ok (.getfield 23, 3) := by decide +kernel
theorem dX7_findWrongNumber_25 : decode cX7_findWrongNumber 25 = .ok (.ifCond .ne 140, 3) := by decide +kernel
theorem dX7_findWrongNumber_28 : decode cX7_findWrongNumber 28 = .ok (.aload_n 0, 1) := by decide +kernel
theorem dX7_findWrongNumber_29 : decode cX7_findWrongNumber 29 = .ok (.iload 5, 2) := by decide +kernel
theorem dX7_findWrongNumber_31 : decode cX7_findWrongNumber 31 = .ok (.invokevirtual 178, 3) := by decide +kernel
theorem dX7_findWrongNumber_34 : decode cX7_findWrongNumber 34 = .ok (.istore 6, 2) := by decide +kernel
theorem dX7_findWrongNumber_36 : decode cX7_findWrongNumber 36 = .ok (.iload_n 1, 1) := by decide +kernel
theorem dX7_findWrongNumber_37 : decode cX7_findWrongNumber 37 = .ok (.iload 6, 2) := by decide +kernel
theorem dX7_findWrongNumber_39 : decode cX7_findWrongNumber 39 = .ok (.ifCond .ne 7, 3) := by decide +kernel
theorem dX7_findWrongNumber_42 : decode cX7_findWrongNumber 42 = .ok (.iconst 1, 1) := by decide +kernel
theorem dX7_findWrongNumber_43 : decode cX7_findWrongNumber 43 = .ok (.goto 4, 3) := by decide +kernel
theorem dX7_findWrongNumber_46 : decode cX7_findWrongNumber 46 = .ok (.iconst 0, 1) := by decide +kernel
theorem dX7_findWrongNumber_47 : decode cX7_findWrongNumber 47 = .ok (.iadd, 1) := by decide +kernel
theorem dX7_findWrongNumber_48 : decode cX7_findWrongNumber 48 = .ok (.istore_n 1, 1) := by decide +kernel
theorem dX7_findWrongNumber_49 : decode cX7_findWrongNumber 49 = .ok (.iload_n 2, 1) := by decide +kernel
theorem dX7_findWrongNumber_50 : decode cX7_findWrongNumber 50 = .ok (.iload 6, 2) := by decide +kernel
theorem dX7_findWrongNumber_52 : decode cX7_findWrongNumber 52 = .ok (.iconst 2, 1) := by decide +kernel
theorem dX7_findWrongNumber_53 : decode cX7_findWrongNumber 53 = .ok (.if_icmp .ne 7, 3) := by decide +kernel
theorem dX7_findWrongNumber_56 : decode cX7_findWrongNumber 56 = .ok (.iconst 1, 1) := by decide +kernel
theorem dX7_findWrongNumber_57 : decode cX7_findWrongNumber 57 = .ok (.goto 4, 3) := by decide +kernel
theorem dX7_findWrongNumber_60 : decode cX7_findWrongNumber 60 = .ok (.iconst 0, 1) := by decide +kernel
theorem dX7_findWrongNumber_61 : decode cX7_findWrongNumber 61 = .ok (.iadd, 1) := by decide +kernel
theorem dX7_findWrongNumber_62 : decode cX7_findWrongNumber 62 = .ok (.istore_n 2, 1) := by decide +kernel
theorem dX7_findWrongNumber_63 : decode cX7_findWrongNumber 63 = .ok (.iload_n 3, 1) := by decide +kernel
theorem dX7_findWrongNumber_64 : decode cX7_findWrongNumber 64 = .ok (.iload 6, 2) := by decide +kernel
theorem dX7_findWrongNumber_66 : decode cX7_findWrongNumber 66 = .ok (.bipush 6, 2) := by decide +kernel
theorem dX7_findWrongNumber_68 : decode cX7_findWrongNumber 68 = .ok (.if_icmp .lt 14, 3) := by decide +kernel
theorem dX7_findWrongNumber_71 : decode cX7_findWrongNumber 71 = .ok (.iload 6, 2) := by decide +kernel
theorem dX7_findWrongNumber_73 : decode cX7_findWrongNumber 73 = .ok (.bipush 13, 2) := by decide +kernel
theorem dX7_findWrongNumber_75 : decode cX7_findWrongNumber 75 = .ok (.if_icmp .ge 7, 3) := by decide +kernel
theorem dX7_findWrongNumber_78 : decode cX7_findWrongNumber 78 = .ok (.iconst 1, 1) := by decide +kernel
theorem dX7_findWrongNumber_79 : decode cX7_findWrongNumber 79 = .ok (.goto 4, 3) := by decide +kernel
theorem dX7_findWrongNumber_82 : decode cX7_findWrongNumber 82 = .ok (.iconst 0, 1) := by decide +kernel
theorem dX7_findWrongNumber_83 : decode cX7_findWrongNumber 83 = .ok (.iadd, 1) := by decide +kernel
theorem dX7_findWrongNumber_84 : decode cX7_findWrongNumber 84 = .ok (.istore_n 3, 1) := by decide +kernel
theorem dX7_findWrongNumber_85 : decode cX7_findWrongNumber 85 = .ok (.iload 4, 2) := by decide +kernel
theorem dX7_findWrongNumber_87 : decode cX7_findWrongNumber 87 = .ok (.iload 6, 2) := by decide +kernel
theorem dX7_findWrongNumber_89 : decode cX7_findWrongNumber 89 = .ok (.bipush 13, 2) := by decide +kernel
theorem dX7_findWrongNumber_91 : decode cX7_findWrongNumber 91 = .ok (.if_icmp .lt 14, 3) := by decide +kernel
theorem dX7_findWrongNumber_94 : decode cX7_findWrongNumber 94 = .ok (.iload 6, 2) := by decide +kernel
theorem dX7_findWrongNumber_96 : decode cX7_findWrongNumber 96 = .ok (.bipush 15, 2) := by decide +kernel
theorem dX7_findWrongNumber_98 : decode cX7_findWrongNumber 98 = .ok (.if_icmp .ge 7, 3) := by decide +kernel
theorem dX7_findWrongNumber_101 : decode cX7_findWrongNumber 101 = .ok (.iconst 1, 1) := by decide +kernel
theorem dX7_findWrongNumber_102 : decode cX7_findWrongNumber 102 = .ok (.goto 4, 3) := by decide +kernel
theorem dX7_findWrongNumber_105 : decode cX7_findWrongNumber 105 = .ok (.iconst 0, 1) := by decide +kernel
theorem dX7_findWrongNumber_106 : decode cX7_findWrongNumber 106 = .ok (.iadd, 1) := by decide +kernel
theorem dX7_findWrongNumber_107 : decode cX7_findWrongNumber 107 = .ok (.istore 4, 2) := by decide +kernel
theorem dX7_findWrongNumber_109 : decode cX7_findWrongNumber 109 = .ok (.iload_n 1, 1) := by decide +kernel
theorem dX7_findWrongNumber_110 : decode cX7_findWrongNumber 110 = .ok (.bipush 20, 2) := by decide +kernel
theorem dX7_findWrongNumber_112 : decode cX7_findWrongNumber 112 = .ok (.if_icmp .gt 22, 3) := by decide +kernel
theorem dX7_findWrongNumber_115 : decode cX7_findWrongNumber 115 = .ok (.iload_n 2, 1) := by decide +kernel
theorem dX7_findWrongNumber_116 : decode cX7_findWrongNumber 116 = .ok (.bipush 8, 2) := by decide +kernel
theorem dX7_findWrongNumber_118 : decode cX7_findWrongNumber 118 = .ok (.if_icmp .gt 16, 3) := by decide +kernel
theorem dX7_findWrongNumber_121 : decode cX7_findWrongNumber 121 = .ok (.iload_n 3, 1) := by decide +kernel
theorem dX7_findWrongNumber_122 : decode cX7_findWrongNumber 122 = .ok (.bipush 40, 2) := by decide +kernel
theorem dX7_findWrongNumber_124 : decode cX7_findWrongNumber 124 = .ok (.if_icmp .gt 10, 3) := by decide +kernel
theorem dX7_findWrongNumber_127 : decode cX7_findWrongNumber 127 = .ok (.iload 4, 2) := by decide +kernel
theorem dX7_findWrongNumber_129 : decode cX7_findWrongNumber 129 = .ok (.bipush 12, 2) := by decide +kernel
theorem dX7_findWrongNumber_131 : decode cX7_findWrongNumber 131 = .ok (.if_icmp .le 17, 3) := by decide +kernel
theorem dX7_findWrongNumber_134 : decode cX7_findWrongNumber 134 = .ok (.aload_n 0, 1) := by decide +kernel
theorem dX7_findWrongNumber_135 : decode cX7_findWrongNumber 135 = .ok (.iconst 3, 1) := by decide +kernel
theorem dX7_findWrongNumber_136 : decode cX7_findWrongNumber 136 = .ok (.aload_n 0, 1) := by decide +kernel
theorem dX7_findWrongNumber_137 : decode cX7_findWrongNumber 137 = .ok (.iload 5, 2) := by decide +kernel
theorem dX7_findWrongNumber_139 : decode cX7_findWrongNumber 139 = .ok (.invokevirtual 38, 3) := by decide +kernel
theorem dX7_findWrongNumber_142 : decode cX7_findWrongNumber 142 = .ok (.invokevirtual 42, 3) := by decide +kernel
theorem dX7_findWrongNumber_145 : decode cX7_findWrongNumber 145 = .ok (.goto 9, 3) := by decide +kernel
theorem dX7_findWrongNumber_148 : decode cX7_findWrongNumber 148 = .ok (.aload_n 0, 1) := by decide +kernel
theorem dX7_findWrongNumber_149 : decode cX7_findWrongNumber 149 = .ok (.iload 5, 2) := by decide +kernel
theorem dX7_findWrongNumber_151 : decode cX7_findWrongNumber 151 = .ok (.invokevirtual 196, 3) := by decide +kernel
theorem dX7_findWrongNumber_154 : decode cX7_findWrongNumber 154 = .ok (.aload_n 0, 1) := by decide +kernel
theorem dX7_findWrongNumber_155 : decode cX7_findWrongNumber 155 = .ok (.iload 5, 2) := by decide +kernel
theorem dX7_findWrongNumber_157 : decode cX7_findWrongNumber 157 = .ok (.invokevirtual 184, 3) := by decide +kernel
theorem dX7_findWrongNumber_160 : decode cX7_findWrongNumber 160 = .ok (.istore 5, 2) := by decide +kernel
theorem dX7_findWrongNumber_162 : decode cX7_findWrongNumber 162 = .ok (.goto (-150), 3) := by decide +kernel
theorem dX7_findWrongNumber_165 : decode cX7_findWrongNumber 165 = .ok (.return_, 1) := by decide +kernel
theorem dX7_checkNumbers_0 : decode cX7_checkNumbers 0 = .ok (.aload_n 0, 1) := by decide +kernel
theorem dX7_checkNumbers_1 : decode cX7_checkNumbers 1 = .ok (.iload_n 1, 1) := by decide +kernel
theorem dX7_checkNumbers_2 : decode cX7_checkNumbers 2 = .ok (.invokevirtual 178, 3) := by decide +kernel
theorem dX7_checkNumbers_5 : decode cX7_checkNumbers 5 = .ok (.istore_n 2, 1) := by decide +kernel
theorem dX7_checkNumbers_6 : decode cX7_checkNumbers 6 = .ok (.iconst 0, 1) := by decide +kernel
theorem dX7_checkNumbers_7 : decode cX7_checkNumbers 7 = .ok (.istore_n 3, 1) := by decide +kernel
theorem dX7_checkNumbers_8 : decode cX7_checkNumbers 8 = .ok (.iload_n 3, 1) := by decide +kernel
theorem dX7_checkNumbers_9 : decode cX7_checkNumbers 9 = .ok (.iload_n 2, 1) := by decide +kernel
theorem dX7_checkNumbers_10 : decode cX7_checkNumbers 10 = .ok (.invokestatic 181, 3) := by decide +kernel
theorem dX7_checkNumbers_13 : decode cX7_checkNumbers 13 = .ok (.if_icmp .ge 93, 3) := by decide +kernel
theorem dX7_checkNumbers_16 : decode cX7_checkNumbers 16 = .ok (.aload_n 0, 1) := by decide +kernel
theorem dX7_checkNumbers_17 : decode cX7_checkNumbers 17 = .ok (.getfield 23, 3) := by decide +kernel
theorem dX7_checkNumbers_20 : decode cX7_checkNumbers 20 = .ok (.ifCond .ne 86, 3) := by decide +kernel
theorem dX7_checkNumbers_23 : decode cX7_checkNumbers 23 = .ok (.aload_n 0, 1) := by decide +kernel
theorem dX7_checkNumbers_24 : decode cX7_checkNumbers 24 = .ok (.iload_n 1, 1) := by decide +kernel
theorem dX7_checkNumbers_25 : decode cX7_checkNumbers 25 = .ok (.iconst 1, 1) := by decide +kernel
theorem dX7_checkNumbers_26 : decode cX7_checkNumbers 26 = .ok (.iadd, 1) := by decide +kernel
theorem dX7_checkNumbers_27 : decode cX7_checkNumbers 27 = .ok (.iload_n 3, 1) := by decide +kernel
theorem dX7_checkNumbers_28 : decode cX7_checkNumbers 28 = .ok (.iadd, 1) := by decide +kernel
theorem dX7_checkNumbers_29 : decode cX7_checkNumbers 29 = .ok (.invokevirtual 178, 3) := by decide +kernel
theorem dX7_checkNumbers_32 : decode cX7_checkNumbers 32 = .ok (.istore 4, 2) := by decide +kernel
theorem dX7_checkNumbers_34 : decode cX7_checkNumbers 34 = .ok (.iload_n 2, 1) := by decide +kernel
theorem dX7_checkNumbers_35 : decode cX7_checkNumbers 35 = .ok (.iconst 4, 1) := by decide +kernel
theorem dX7_checkNumbers_36 : decode cX7_checkNumbers 36 = .ok (.imul, 1) := by decide +kernel
theorem dX7_checkNumbers_37 : decode cX7_checkNumbers 37 = .ok (.iload_n 3, 1) := by decide +kernel
theorem dX7_checkNumbers_38 : decode cX7_checkNumbers 38 = .ok (.iadd, 1) := by decide +kernel
theorem dX7_checkNumbers_39 : decode cX7_checkNumbers 39 = .ok (.istore 5, 2) := by decide +kernel
theorem dX7_checkNumbers_41 : decode cX7_checkNumbers 41 = .ok (.iload 5, 2) := by decide +kernel
theorem dX7_checkNumbers_43 : decode cX7_checkNumbers 43 = .ok (.ifCond .lt 57, 3) := by decide +kernel
theorem dX7_checkNumbers_46 : decode cX7_checkNumbers 46 = .ok (.iload 5, 2) := by decide +kernel
theorem dX7_checkNumbers_48 : decode cX7_checkNumbers 48 = .ok (.getstatic 200, 3) := by decide +kernel
theorem dX7_checkNumbers_51 : decode cX7_checkNumbers 51 = .ok (.arraylength, 1) := by decide +kernel
theorem dX7_checkNumbers_52 : decode cX7_checkNumbers 52 = .ok (.if_icmp .ge 48, 3) := by decide +kernel
theorem dX7_checkNumbers_55 : decode cX7_checkNumbers 55 = .ok (.iload 5, 2) := by decide +kernel
theorem dX7_checkNumbers_57 : decode cX7_checkNumbers 57 = .ok (.getstatic 203, 3) := by decide +kernel
theorem dX7_checkNumbers_60 : decode cX7_checkNumbers 60 = .ok (.arraylength, 1) := by decide +kernel
theorem dX7_checkNumbers_61 : decode cX7_checkNumbers 61 = .ok (.if_icmp .ge 39, 3) := by decide +kernel
theorem dX7_checkNumbers_64 : decode cX7_checkNumbers 64 = .ok (.iload 4, 2) := by decide +kernel
theorem dX7_checkNumbers_66 : decode cX7_checkNumbers 66 = .ok (.getstatic 200, 3) := by decide +kernel
theorem dX7_checkNumbers_69 : decode cX7_checkNumbers 69 = .ok (.iload 5, 2) := by decide +kernel
theorem dX7_checkNumbers_71 : decode cX7_checkNumbers 71 = .ok (.iaload, 1) := by decide +kernel
theorem dX7_checkNumbers_72 : decode cX7_checkNumbers 72 = .ok (.if_icmp .lt 14, 3) := by decide +kernel
theorem dX7_checkNumbers_75 : decode cX7_checkNumbers 75 = .ok (.iload 4, 2) := by decide +kernel
theorem dX7_checkNumbers_77 : decode cX7_checkNumbers 77 = .ok (.getstatic 203, 3) := by decide +kernel
theorem dX7_checkNumbers_80 : decode cX7_checkNumbers 80 = .ok (.iload 5, 2) := by decide +kernel
theorem dX7_checkNumbers_82 : decode cX7_checkNumbers 82 = .ok (.iaload, 1) := by decide +kernel
theorem dX7_checkNumbers_83 : decode cX7_checkNumbers 83 = .ok (.if_icmp .le 17, 3) := by decide +kernel
theorem dX7_checkNumbers_86 : decode cX7_checkNumbers 86 = .ok (.aload_n 0, 1) := by decide +kernel
theorem dX7_checkNumbers_87 : decode cX7_checkNumbers 87 = .ok (.iconst 2, 1) := by decide +kernel
theorem dX7_checkNumbers_88 : decode cX7_checkNumbers 88 = .ok (.aload_n 0, 1) := by decide +kernel
theorem dX7_checkNumbers_89 : decode cX7_checkNumbers 89 = .ok (.iload_n 1, 1) := by decide +kernel
theorem dX7_checkNumbers_90 : decode cX7_checkNumbers 90 = .ok (.iconst 1, 1) := by decide +kernel
theorem dX7_checkNumbers_91 : decode cX7_checkNumbers 91 = .ok (.iadd, 1) := by decide +kernel
theorem dX7_checkNumbers_92 : decode cX7_checkNumbers 92 = .ok (.iload_n 3, 1) := by decide +kernel
theorem dX7_checkNumbers_93 : decode cX7_checkNumbers 93 = .ok (.iadd, 1) := by decide +kernel
theorem dX7_checkNumbers_94 : decode cX7_checkNumbers 94 = .ok (.invokevirtual 38, 3) := by decide +kernel
theorem dX7_checkNumbers_97 : decode cX7_checkNumbers 97 = .ok (.invokevirtual 42, 3) := by decide +kernel
theorem dX7_checkNumbers_100 : decode cX7_checkNumbers 100 = .ok (.iinc 3 1, 3) := by decide +kernel
theorem dX7_checkNumbers_103 : decode cX7_checkNumbers 103 = .ok (.goto (-95), 3) := by decide +kernel
theorem dX7_checkNumbers_106 : decode cX7_checkNumbers 106 = .ok (.return_, 1) := by decide +kernel
theorem dX7_tellsOfMissing_0 : decode cX7_tellsOfMissing 0 = .ok (.iload_n 1, 1) := by decide +kernel
theorem dX7_tellsOfMissing_1 : decode cX7_tellsOfMissing 1 = .ok (.ifCond .ne 8, 3) := by decide +kernel
theorem dX7_tellsOfMissing_4 : decode cX7_tellsOfMissing 4 = .ok (.aload_n 0, 1) := by decide +kernel
theorem dX7_tellsOfMissing_5 : decode cX7_tellsOfMissing 5 = .ok (.invokevirtual 206, 3) := by decide +kernel
theorem dX7_tellsOfMissing_8 : decode cX7_tellsOfMissing 8 = .ok (.ireturn, 1) := by decide +kernel
theorem dX7_tellsOfMissing_9 : decode cX7_tellsOfMissing 9 = .ok (.iload_n 1, 1) := by decide +kernel
theorem dX7_tellsOfMissing_10 : decode cX7_tellsOfMissing 10 = .ok (.iconst 3, 1) := by decide +kernel
theorem dX7_tellsOfMissing_11 : decode cX7_tellsOfMissing 11 = .ok (.if_icmp .ne 14, 3) := by decide +kernel
theorem dX7_tellsOfMissing_14 : decode cX7_tellsOfMissing 14 = .ok (.aload_n 0, 1) := by decide +kernel
theorem dX7_tellsOfMissing_15 : decode cX7_tellsOfMissing 15 = .ok (.invokevirtual 210, 3) := by decide +kernel
theorem dX7_tellsOfMissing_18 : decode cX7_tellsOfMissing 18 = .ok (.ifCond .eq 7, 3) := by decide +kernel
theorem dX7_tellsOfMissing_21 : decode cX7_tellsOfMissing 21 = .ok (.iconst 1, 1) := by decide +kernel
theorem dX7_tellsOfMissing_22 : decode cX7_tellsOfMissing 22 = .ok (.goto 4, 3) := by decide +kernel
theorem dX7_tellsOfMissing_25 : decode cX7_tellsOfMissing 25 = .ok (.iconst 0, 1) := by decide +kernel
theorem dX7_tellsOfMissing_26 : decode cX7_tellsOfMissing 26 = .ok (.ireturn, 1) := by decide +kernel
theorem dX7_bookTellsOfMissing_0 : decode cX7_bookTellsOfMissing 0 = .ok (.iconst 0, 1) := by decide +kernel
theorem dX7_bookTellsOfMissing_1 : decode cX7_bookTellsOfMissing 1 = .ok (.istore_n 1, 1) := by decide +kernel
theorem dX7_bookTellsOfMissing_2 : decode cX7_bookTellsOfMissing 2 = .ok (.iconst (-1), 1) := by decide +kernel
theorem dX7_bookTellsOfMissing_3 : decode cX7_bookTellsOfMissing 3 = .ok (.istore_n 2, 1) := by decide +kernel
theorem dX7_bookTellsOfMissing_4 : decode cX7_bookTellsOfMissing 4 = .ok (.iconst 0, 1) := by decide +kernel
theorem dX7_bookTellsOfMissing_5 : decode cX7_bookTellsOfMissing 5 = .ok (.istore_n 3, 1) := by decide +kernel
theorem dX7_bookTellsOfMissing_6 : decode cX7_bookTellsOfMissing 6 = .ok (.iload_n 3, 1) := by decide +kernel
theorem dX7_bookTellsOfMissing_7 : decode cX7_bookTellsOfMissing 7 = .ok (.aload_n 0, 1) := by decide +kernel
theorem dX7_bookTellsOfMissing_8 : decode cX7_bookTellsOfMissing 8 = .ok (.invokevirtual 187, 3) := by decide +kernel
theorem dX7_bookTellsOfMissing_11 : decode cX7_bookTellsOfMissing 11 = .ok (.if_icmp .ge 70, 3) := by decide +kernel
theorem dX7_bookTellsOfMissing_14 : decode cX7_bookTellsOfMissing 14 = .ok (.aload_n 0, 1) := by decide +kernel
theorem dX7_bookTellsOfMissing_15 : decode cX7_bookTellsOfMissing 15 = .ok (.iload_n 3, 1) := by decide +kernel
theorem dX7_bookTellsOfMissing_16 : decode cX7_bookTellsOfMissing 16 = .ok (.invokevirtual 178, 3) := by decide +kernel
theorem dX7_bookTellsOfMissing_19 : decode cX7_bookTellsOfMissing 19 = .ok (.istore 4, 2) := by decide +kernel
theorem dX7_bookTellsOfMissing_21 : decode cX7_bookTellsOfMissing 21 = .ok (.iload 4, 2) := by decide +kernel
theorem dX7_bookTellsOfMissing_23 : decode cX7_bookTellsOfMissing 23 = .ok (.ifCond .ne 21, 3) := by decide +kernel
theorem dX7_bookTellsOfMissing_26 : decode cX7_bookTellsOfMissing 26 = .ok (.iinc 1 1, 3) := by decide +kernel
theorem dX7_bookTellsOfMissing_29 : decode cX7_bookTellsOfMissing 29 = .ok (.iload_n 2, 1) := by decide +kernel
theorem dX7_bookTellsOfMissing_30 : decode cX7_bookTellsOfMissing 30 = .ok (.aload_n 0, 1) := by decide +kernel
theorem dX7_bookTellsOfMissing_31 : decode cX7_bookTellsOfMissing 31 = .ok (.iload_n 3, 1) := by decide +kernel
theorem dX7_bookTellsOfMissing_32 : decode cX7_bookTellsOfMissing 32 = .ok (.iconst 1, 1) := by decide +kernel
theorem dX7_bookTellsOfMissing_33 : decode cX7_bookTellsOfMissing 33 = .ok (.iadd, 1) := by decide +kernel
theorem dX7_bookTellsOfMissing_34 : decode cX7_bookTellsOfMissing 34 = .ok (.invokevirtual 178, 3) := by decide +kernel
theorem dX7_bookTellsOfMissing_37 : decode cX7_bookTellsOfMissing 37 = .ok (.invokestatic 213, 3) := by decide +kernel
theorem dX7_bookTellsOfMissing_40 : decode cX7_bookTellsOfMissing 40 = .ok (.istore_n 2, 1) := by decide +kernel
theorem dX7_bookTellsOfMissing_41 : decode cX7_bookTellsOfMissing 41 = .ok (.goto 31, 3) := by decide +kernel
theorem dX7_bookTellsOfMissing_44 : decode cX7_bookTellsOfMissing 44 = .ok (.iload 4, 2) := by decide +kernel
theorem dX7_bookTellsOfMissing_46 : decode cX7_bookTellsOfMissing 46 = .ok (.iconst 2, 1) := by decide +kernel
theorem dX7_bookTellsOfMissing_47 : decode cX7_bookTellsOfMissing 47 = .ok (.if_icmp .ne 25, 3) := by decide +kernel
theorem dX7_bookTellsOfMissing_50 : decode cX7_bookTellsOfMissing 50 = .ok (.iload_n 2, 1) := by decide +kernel
theorem dX7_bookTellsOfMissing_51 : decode cX7_bookTellsOfMissing 51 = .ok (.aload_n 0, 1) := by decide +kernel
theorem dX7_bookTellsOfMissing_52 : decode cX7_bookTellsOfMissing 52 = .ok (.iload_n 3, 1) := by decide +kernel
theorem dX7_bookTellsOfMissing_53 : decode cX7_bookTellsOfMissing 53 = .ok (.iconst 1, 1) := by decide +kernel
theorem dX7_bookTellsOfMissing_54 : decode cX7_bookTellsOfMissing 54 = .ok (.iadd, 1) := by decide +kernel
theorem dX7_bookTellsOfMissing_55 : decode cX7_bookTellsOfMissing 55 = .ok (.invokevirtual 178, 3) := by decide +kernel
theorem dX7_bookTellsOfMissing_58 : decode cX7_bookTellsOfMissing 58 = .ok (.aload_n 0, 1) := by decide +kernel
theorem dX7_bookTellsOfMissing_59 : decode cX7_bookTellsOfMissing 59 = .ok (.iload_n 3, 1) := by decide +kernel
theorem dX7_bookTellsOfMissing_60 : decode cX7_bookTellsOfMissing 60 = .ok (.iconst 2, 1) := by decide +kernel
theorem dX7_bookTellsOfMissing_61 : decode cX7_bookTellsOfMissing 61 = .ok (.iadd, 1) := by decide +kernel
theorem dX7_bookTellsOfMissing_62 : decode cX7_bookTellsOfMissing 62 = .ok (.invokevirtual 178, 3) := by decide +kernel
theorem dX7_bookTellsOfMissing_65 : decode cX7_bookTellsOfMissing 65 = .ok (.invokestatic 213, 3) := by decide +kernel
theorem dX7_bookTellsOfMissing_68 : decode cX7_bookTellsOfMissing 68 = .ok (.invokestatic 213, 3) := by decide +kernel
theorem dX7_bookTellsOfMissing_71 : decode cX7_bookTellsOfMissing 71 = .ok (.istore_n 2, 1) := by decide +kernel
theorem dX7_bookTellsOfMissing_72 : decode cX7_bookTellsOfMissing 72 = .ok (.aload_n 0, 1) := by decide +kernel
theorem dX7_bookTellsOfMissing_73 : decode cX7_bookTellsOfMissing 73 = .ok (.iload_n 3, 1) := by decide +kernel
theorem dX7_bookTellsOfMissing_74 : decode cX7_bookTellsOfMissing 74 = .ok (.invokevirtual 184, 3) := by decide +kernel
theorem dX7_bookTellsOfMissing_77 : decode cX7_bookTellsOfMissing 77 = .ok (.istore_n 3, 1) := by decide +kernel
theorem dX7_bookTellsOfMissing_78 : decode cX7_bookTellsOfMissing 78 = .ok (.goto (-72), 3) := by decide +kernel
theorem dX7_bookTellsOfMissing_81 : decode cX7_bookTellsOfMissing 81 = .ok (.iload_n 2, 1) := by decide +kernel
theorem dX7_bookTellsOfMissing_82 : decode cX7_bookTellsOfMissing 82 = .ok (.iload_n 1, 1) := by decide +kernel
theorem dX7_bookTellsOfMissing_83 : decode cX7_bookTellsOfMissing 83 = .ok (.if_icmp .lt 7, 3) := by decide +kernel
theorem dX7_bookTellsOfMissing_86 : decode cX7_bookTellsOfMissing 86 = .ok (.iconst 1, 1) := by decide +kernel
theorem dX7_bookTellsOfMissing_87 : decode cX7_bookTellsOfMissing 87 = .ok (.goto 4, 3) := by decide +kernel
theorem dX7_bookTellsOfMissing_90 : decode cX7_bookTellsOfMissing 90 = .ok (.iconst 0, 1) := by decide +kernel
theorem dX7_bookTellsOfMissing_91 : decode cX7_bookTellsOfMissing 91 = .ok (.ireturn, 1) := by decide +kernel
theorem dX7_townTellsOfMissing_0 : decode cX7_townTellsOfMissing 0 = .ok (.iconst 4, 1) := by decide +kernel
theorem dX7_townTellsOfMissing_1 : decode cX7_townTellsOfMissing 1 = .ok (.istore_n 1, 1) := by decide +kernel
theorem dX7_townTellsOfMissing_2 : decode cX7_townTellsOfMissing 2 = .ok (.iconst (-1), 1) := by decide +kernel
theorem dX7_townTellsOfMissing_3 : decode cX7_townTellsOfMissing 3 = .ok (.istore_n 2, 1) := by decide +kernel
theorem dX7_townTellsOfMissing_4 : decode cX7_townTellsOfMissing 4 = .ok (.iconst 0, 1) := by decide +kernel
theorem dX7_townTellsOfMissing_5 : decode cX7_townTellsOfMissing 5 = .ok (.istore_n 3, 1) := by decide +kernel
theorem dX7_townTellsOfMissing_6 : decode cX7_townTellsOfMissing 6 = .ok (.iload_n 3, 1) := by decide +kernel
theorem dX7_townTellsOfMissing_7 : decode cX7_townTellsOfMissing 7 = .ok (.aload_n 0, 1) := by decide +kernel
theorem dX7_townTellsOfMissing_8 : decode cX7_townTellsOfMissing 8 = .ok (.invokevirtual 187, 3) := by decide +kernel
theorem dX7_townTellsOfMissing_11 : decode cX7_townTellsOfMissing 11 = .ok (.if_icmp .ge 62, 3) := by decide +kernel
theorem dX7_townTellsOfMissing_14 : decode cX7_townTellsOfMissing 14 = .ok (.aload_n 0, 1) := by decide +kernel
theorem dX7_townTellsOfMissing_15 : decode cX7_townTellsOfMissing 15 = .ok (.iload_n 3, 1) := by decide +kernel
theorem dX7_townTellsOfMissing_16 : decode cX7_townTellsOfMissing 16 = .ok (.invokevirtual 178, 3) := by decide +kernel
theorem dX7_townTellsOfMissing_19 : decode cX7_townTellsOfMissing 19 = .ok (.istore 4, 2) := by decide +kernel
theorem dX7_townTellsOfMissing_21 : decode cX7_townTellsOfMissing 21 = .ok (.iload 4, 2) := by decide +kernel
theorem dX7_townTellsOfMissing_23 : decode cX7_townTellsOfMissing 23 = .ok (.bipush 15, 2) := by decide +kernel
theorem dX7_townTellsOfMissing_25 : decode cX7_townTellsOfMissing 25 = .ok (.if_icmp .ne 14, 3) := by decide +kernel
theorem dX7_townTellsOfMissing_28 : decode cX7_townTellsOfMissing 28 = .ok (.aload_n 0, 1) := by decide +kernel
theorem dX7_townTellsOfMissing_29 : decode cX7_townTellsOfMissing 29 = .ok (.iload_n 3, 1) := by decide +kernel
theorem dX7_townTellsOfMissing_30 : decode cX7_townTellsOfMissing 30 = .ok (.iconst 1, 1) := by decide +kernel
theorem dX7_townTellsOfMissing_31 : decode cX7_townTellsOfMissing 31 = .ok (.iadd, 1) := by decide +kernel
theorem dX7_townTellsOfMissing_32 : decode cX7_townTellsOfMissing 32 = .ok (.invokevirtual 178, 3) := by decide +kernel
theorem dX7_townTellsOfMissing_35 : decode cX7_townTellsOfMissing 35 = .ok (.istore_n 1, 1) := by decide +kernel
theorem dX7_townTellsOfMissing_36 : decode cX7_townTellsOfMissing 36 = .ok (.goto 28, 3) := by decide +kernel
theorem dX7_townTellsOfMissing_39 : decode cX7_townTellsOfMissing 39 = .ok (.iload_n 2, 1) := by decide +kernel
theorem dX7_townTellsOfMissing_40 : decode cX7_townTellsOfMissing 40 = .ok (.aload_n 0, 1) := by decide +kernel
theorem dX7_townTellsOfMissing_41 : decode cX7_townTellsOfMissing 41 = .ok (.iload_n 3, 1) := by decide +kernel
theorem dX7_townTellsOfMissing_42 : decode cX7_townTellsOfMissing 42 = .ok (.iconst 1, 1) := by decide +kernel
theorem dX7_townTellsOfMissing_43 : decode cX7_townTellsOfMissing 43 = .ok (.iadd, 1) := by decide +kernel
theorem dX7_townTellsOfMissing_44 : decode cX7_townTellsOfMissing 44 = .ok (.invokevirtual 178, 3) := by decide +kernel
theorem dX7_townTellsOfMissing_47 : decode cX7_townTellsOfMissing 47 = .ok (.iload 4, 2) := by decide +kernel
theorem dX7_townTellsOfMissing_49 : decode cX7_townTellsOfMissing 49 = .ok (.bipush 16, 2) := by decide +kernel
theorem dX7_townTellsOfMissing_51 : decode cX7_townTellsOfMissing 51 = .ok (.if_icmp .ne 7, 3) := by decide +kernel
theorem dX7_townTellsOfMissing_54 : decode cX7_townTellsOfMissing 54 = .ok (.iconst 1, 1) := by decide +kernel
theorem dX7_townTellsOfMissing_55 : decode cX7_townTellsOfMissing 55 = .ok (.goto 4, 3) := by decide +kernel
theorem dX7_townTellsOfMissing_58 : decode cX7_townTellsOfMissing 58 = .ok (.iconst 0, 1) := by decide +kernel
theorem dX7_townTellsOfMissing_59 : decode cX7_townTellsOfMissing 59 = .ok (.iadd, 1) := by decide +kernel
theorem dX7_townTellsOfMissing_60 : decode cX7_townTellsOfMissing 60 = .ok (.invokestatic 213, 3) := by decide +kernel
theorem dX7_townTellsOfMissing_63 : decode cX7_townTellsOfMissing 63 = .ok (.istore_n 2, 1) := by decide +kernel
theorem dX7_townTellsOfMissing_64 : decode cX7_townTellsOfMissing 64 = .ok (.aload_n 0, 1) := by decide +kernel
theorem dX7_townTellsOfMissing_65 : decode cX7_townTellsOfMissing 65 = .ok (.iload_n 3, 1) := by decide +kernel
theorem dX7_townTellsOfMissing_66 : decode cX7_townTellsOfMissing 66 = .ok (.invokevirtual 184, 3) := by decide +kernel
theorem dX7_townTellsOfMissing_69 : decode cX7_townTellsOfMissing 69 = .ok (.istore_n 3, 1) := by decide +kernel
theorem dX7_townTellsOfMissing_70 : decode cX7_townTellsOfMissing 70 = .ok (.goto (-64), 3) := by decide +kernel
theorem dX7_townTellsOfMissing_73 : decode cX7_townTellsOfMissing 73 = .ok (.iload_n 2, 1) := by decide +kernel
theorem dX7_townTellsOfMissing_74 : decode cX7_townTellsOfMissing 74 = .ok (.iload_n 1, 1) := by decide +kernel
theorem dX7_townTellsOfMissing_75 : decode cX7_townTellsOfMissing 75 = .ok (.if_icmp .lt 7, 3) := by decide +kernel
theorem dX7_townTellsOfMissing_78 : decode cX7_townTellsOfMissing 78 = .ok (.iconst 1, 1) := by decide +kernel
theorem dX7_townTellsOfMissing_79 : decode cX7_townTellsOfMissing 79 = .ok (.goto 4, 3) := by decide +kernel
theorem dX7_townTellsOfMissing_82 : decode cX7_townTellsOfMissing 82 = .ok (.iconst 0, 1) := by decide +kernel
theorem dX7_townTellsOfMissing_83 : decode cX7_townTellsOfMissing 83 = .ok (.ireturn, 1) := by decide +kernel
theorem dX7_fillBook_0 : decode cX7_fillBook 0 = .ok (.aload_n 1, 1) := by decide +kernel
theorem dX7_fillBook_1 : decode cX7_fillBook 1 = .ok (.ifnonnull 4, 3) := by decide +kernel
theorem dX7_fillBook_4 : decode cX7_fillBook 4 = .ok (.return_, 1) := by decide +kernel
theorem dX7_fillBook_5 : decode cX7_fillBook 5 = .ok (.aload_n 1, 1) := by decide +kernel
theorem dX7_fillBook_6 : decode cX7_fillBook 6 = .ok (.invokevirtual 221, 3) := by decide +kernel
theorem dX7_fillBook_9 : decode cX7_fillBook 9 = .ok (.iconst 0, 1) := by decide +kernel
theorem dX7_fillBook_10 : decode cX7_fillBook 10 = .ok (.istore_n 2, 1) := by decide +kernel
theorem dX7_fillBook_11 : decode cX7_fillBook 11 = .ok (.iload_n 2, 1) := by decide +kernel
theorem dX7_fillBook_12 : decode cX7_fillBook 12 = .ok (.aload_n 0, 1) := by decide +kernel
theorem dX7_fillBook_13 : decode cX7_fillBook 13 = .ok (.invokevirtual 187, 3) := by decide +kernel
theorem dX7_fillBook_16 : decode cX7_fillBook 16 = .ok (.if_icmp .ge 18, 3) := by decide +kernel
theorem dX7_fillBook_19 : decode cX7_fillBook 19 = .ok (.aload_n 0, 1) := by decide +kernel
theorem dX7_fillBook_20 : decode cX7_fillBook 20 = .ok (.aload_n 1, 1) := by decide +kernel
theorem dX7_fillBook_21 : decode cX7_fillBook 21 = .ok (.iload_n 2, 1) := by decide +kernel
theorem dX7_fillBook_22 : decode cX7_fillBook 22 = .ok (.invokevirtual 224, 3) := by decide +kernel
theorem dX7_fillBook_25 : decode cX7_fillBook 25 = .ok (.aload_n 0, 1) := by decide +kernel
theorem dX7_fillBook_26 : decode cX7_fillBook 26 = .ok (.iload_n 2, 1) := by decide +kernel
theorem dX7_fillBook_27 : decode cX7_fillBook 27 = .ok (.invokevirtual 184, 3) := by decide +kernel
theorem dX7_fillBook_30 : decode cX7_fillBook 30 = .ok (.istore_n 2, 1) := by decide +kernel
theorem dX7_fillBook_31 : decode cX7_fillBook 31 = .ok (.goto (-20), 3) := by decide +kernel
theorem dX7_fillBook_34 : decode cX7_fillBook 34 = .ok (.aload_n 1, 1) := by decide +kernel
theorem dX7_fillBook_35 : decode cX7_fillBook 35 = .ok (.invokevirtual 228, 3) := by decide +kernel
theorem dX7_fillBook_38 : decode cX7_fillBook 38 = .ok (.return_, 1) := by decide +kernel
theorem dX7_tellBook_0 : decode cX7_tellBook 0 = .ok (.aload_n 0, 1) := by decide +kernel
theorem dX7_tellBook_1 : decode cX7_tellBook 1 = .ok (.iload_n 2, 1) := by decide +kernel
theorem dX7_tellBook_2 : decode cX7_tellBook 2 = .ok (.iconst 1, 1) := by decide +kernel
theorem dX7_tellBook_3 : decode cX7_tellBook 3 = .ok (.iadd, 1) := by decide +kernel
theorem dX7_tellBook_4 : decode cX7_tellBook 4 = .ok (.invokevirtual 178, 3) := by decide +kernel
theorem dX7_tellBook_7 : decode cX7_tellBook 7 = .ok (.istore_n 3, 1) := by decide +kernel
theorem dX7_tellBook_8 : decode cX7_tellBook 8 = .ok (.aload_n 0, 1) := by decide +kernel
theorem dX7_tellBook_9 : decode cX7_tellBook 9 = .ok (.iload_n 2, 1) := by decide +kernel
theorem dX7_tellBook_10 : decode cX7_tellBook 10 = .ok (.iconst 2, 1) := by decide +kernel
theorem dX7_tellBook_11 : decode cX7_tellBook 11 = .ok (.iadd, 1) := by decide +kernel
theorem dX7_tellBook_12 : decode cX7_tellBook 12 = .ok (.invokevirtual 178, 3) := by decide +kernel
theorem dX7_tellBook_15 : decode cX7_tellBook 15 = .ok (.istore 4, 2) := by decide +kernel
theorem dX7_tellBook_17 : decode cX7_tellBook 17 = .ok (.aload_n 0, 1) := by decide +kernel
theorem dX7_tellBook_18 : decode cX7_tellBook 18 = .ok (.iload_n 2, 1) := by decide +kernel
theorem dX7_tellBook_19 : decode cX7_tellBook 19 = .ok (.invokevirtual 178, 3) := by decide +kernel
theorem dX7_tellBook_22 : decode cX7_tellBook 22 = .ok (.tableswitch 106 0 5 #[38, 62, 72, 82, 90, 98], 38) := by decide +kernel
theorem dX7_tellBook_60 : decode cX7_tellBook 60 = .ok (.aload_n 1, 1) := by decide +kernel
theorem dX7_tellBook_61 : decode cX7_tellBook 61 = .ok (.iload_n 3, 1) := by decide +kernel
theorem dX7_tellBook_62 : decode cX7_tellBook 62 = .ok (.iload 4, 2) := by decide +kernel
theorem dX7_tellBook_64 : decode cX7_tellBook 64 = .ok (.aload_n 0, 1) := by decide +kernel
theorem dX7_tellBook_65 : decode cX7_tellBook 65 = .ok (.iload_n 2, 1) := by decide +kernel
theorem dX7_tellBook_66 : decode cX7_tellBook 66 = .ok (.iconst 3, 1) := by decide +kernel
theorem dX7_tellBook_67 : decode cX7_tellBook 67 = .ok (.iadd, 1) := by decide +kernel
theorem dX7_tellBook_68 : decode cX7_tellBook 68 = .ok (.invokevirtual 178, 3) := by decide +kernel
theorem dX7_tellBook_71 : decode cX7_tellBook 71 = .ok (.aload_n 0, 1) := by decide +kernel
theorem dX7_tellBook_72 : decode cX7_tellBook 72 = .ok (.iload_n 2, 1) := by decide +kernel
theorem dX7_tellBook_73 : decode cX7_tellBook 73 = .ok (.iconst 4, 1) := by decide +kernel
theorem dX7_tellBook_74 : decode cX7_tellBook 74 = .ok (.iadd, 1) := by decide +kernel
theorem dX7_tellBook_75 : decode cX7_tellBook 75 = .ok (.invokevirtual 178, 3) := by decide +kernel
theorem dX7_tellBook_78 : decode cX7_tellBook 78 = .ok (.invokevirtual 231, 3) := by decide +kernel
theorem dX7_tellBook_81 : decode cX7_tellBook 81 = .ok (.goto 47, 3) := by decide +kernel
theorem dX7_tellBook_84 : decode cX7_tellBook 84 = .ok (.aload_n 1, 1) := by decide +kernel
theorem dX7_tellBook_85 : decode cX7_tellBook 85 = .ok (.iload_n 3, 1) := by decide +kernel
theorem dX7_tellBook_86 : decode cX7_tellBook 86 = .ok (.iload 4, 2) := by decide +kernel
theorem dX7_tellBook_88 : decode cX7_tellBook 88 = .ok (.invokevirtual 235, 3) := by decide +kernel
theorem dX7_tellBook_91 : decode cX7_tellBook 91 = .ok (.goto 37, 3) := by decide +kernel
theorem dX7_tellBook_94 : decode cX7_tellBook 94 = .ok (.aload_n 1, 1) := by decide +kernel
theorem dX7_tellBook_95 : decode cX7_tellBook 95 = .ok (.iload_n 3, 1) := by decide +kernel
theorem dX7_tellBook_96 : decode cX7_tellBook 96 = .ok (.iload 4, 2) := by decide +kernel
theorem dX7_tellBook_98 : decode cX7_tellBook 98 = .ok (.invokevirtual 238, 3) := by decide +kernel
theorem dX7_tellBook_101 : decode cX7_tellBook 101 = .ok (.goto 27, 3) := by decide +kernel
theorem dX7_tellBook_104 : decode cX7_tellBook 104 = .ok (.aload_n 1, 1) := by decide +kernel
theorem dX7_tellBook_105 : decode cX7_tellBook 105 = .ok (.iload_n 3, 1) := by decide +kernel
theorem dX7_tellBook_106 : decode cX7_tellBook 106 = .ok (.invokevirtual 241, 3) := by decide +kernel
theorem dX7_tellBook_109 : decode cX7_tellBook 109 = .ok (.goto 19, 3) := by decide +kernel
theorem dX7_tellBook_112 : decode cX7_tellBook 112 = .ok (.aload_n 1, 1) := by decide +kernel
theorem dX7_tellBook_113 : decode cX7_tellBook 113 = .ok (.iload_n 3, 1) := by decide +kernel
theorem dX7_tellBook_114 : decode cX7_tellBook 114 = .ok (.putfield 244, 3) := by decide +kernel
theorem dX7_tellBook_117 : decode cX7_tellBook 117 = .ok (.goto 11, 3) := by decide +kernel
theorem dX7_tellBook_120 : decode cX7_tellBook 120 = .ok (.aload_n 1, 1) := by decide +kernel
theorem dX7_tellBook_121 : decode cX7_tellBook 121 = .ok (.iload_n 3, 1) := by decide +kernel
theorem dX7_tellBook_122 : decode cX7_tellBook 122 = .ok (.putfield 246, 3) := by decide +kernel
theorem dX7_tellBook_125 : decode cX7_tellBook 125 = .ok (.goto 3, 3) := by decide +kernel
theorem dX7_tellBook_128 : decode cX7_tellBook 128 = .ok (.return_, 1) := by decide +kernel
theorem dX7_fillEvening_0 : decode cX7_fillEvening 0 = .ok (.aload_n 1, 1) := by decide +kernel
theorem dX7_fillEvening_1 : decode cX7_fillEvening 1 = .ok (.ifnonnull 4, 3) := by decide +kernel
theorem dX7_fillEvening_4 : decode cX7_fillEvening 4 = .ok (.return_, 1) := by decide +kernel
theorem dX7_fillEvening_5 : decode cX7_fillEvening 5 = .ok (.aload_n 1, 1) := by decide +kernel
theorem dX7_fillEvening_6 : decode cX7_fillEvening 6 = .ok (.iconst 0, 1) := by decide +kernel
theorem dX7_fillEvening_7 : decode cX7_fillEvening 7 = .ok (.putfield 248, 3) := by decide +kernel
theorem dX7_fillEvening_10 : decode cX7_fillEvening 10 = .ok (.iconst 0, 1) := by decide +kernel
theorem dX7_fillEvening_11 : decode cX7_fillEvening 11 = .ok (.istore_n 2, 1) := by decide +kernel
theorem dX7_fillEvening_12 : decode cX7_fillEvening 12 = .ok (.iload_n 2, 1) := by decide +kernel
theorem dX7_fillEvening_13 : decode cX7_fillEvening 13 = .ok (.aload_n 0, 1) := by decide +kernel
theorem dX7_fillEvening_14 : decode cX7_fillEvening 14 = .ok (.invokevirtual 187, 3) := by decide +kernel
theorem dX7_fillEvening_17 : decode cX7_fillEvening 17 = .ok (.if_icmp .ge 44, 3) := by decide +kernel
theorem dX7_fillEvening_20 : decode cX7_fillEvening 20 = .ok (.aload_n 0, 1) := by decide +kernel
theorem dX7_fillEvening_21 : decode cX7_fillEvening 21 = .ok (.iload_n 2, 1) := by decide +kernel
theorem dX7_fillEvening_22 : decode cX7_fillEvening 22 = .ok (.invokevirtual 178, 3) := by decide +kernel
theorem dX7_fillEvening_25 : decode cX7_fillEvening 25 = .ok (.istore_n 3, 1) := by decide +kernel
theorem dX7_fillEvening_26 : decode cX7_fillEvening 26 = .ok (.aload_n 1, 1) := by decide +kernel
theorem dX7_fillEvening_27 : decode cX7_fillEvening 27 = .ok (.iload_n 3, 1) := by decide +kernel
theorem dX7_fillEvening_28 : decode cX7_fillEvening 28 = .ok (.bipush 6, 2) := by decide +kernel
theorem dX7_fillEvening_30 : decode cX7_fillEvening 30 = .ok (.isub, 1) := by decide +kernel
theorem dX7_fillEvening_31 : decode cX7_fillEvening 31 = .ok (.iload_n 3, 1) := by decide +kernel
theorem dX7_fillEvening_32 : decode cX7_fillEvening 32 = .ok (.invokestatic 181, 3) := by decide +kernel
theorem dX7_fillEvening_35 : decode cX7_fillEvening 35 = .ok (.ifCond .ne 7, 3) := by decide +kernel
theorem dX7_fillEvening_38 : decode cX7_fillEvening 38 = .ok (.iconst (-1), 1) := by decide +kernel
theorem dX7_fillEvening_39 : decode cX7_fillEvening 39 = .ok (.goto 10, 3) := by decide +kernel
theorem dX7_fillEvening_42 : decode cX7_fillEvening 42 = .ok (.aload_n 0, 1) := by decide +kernel
theorem dX7_fillEvening_43 : decode cX7_fillEvening 43 = .ok (.iload_n 2, 1) := by decide +kernel
theorem dX7_fillEvening_44 : decode cX7_fillEvening 44 = .ok (.iconst 1, 1) := by decide +kernel
theorem dX7_fillEvening_45 : decode cX7_fillEvening 45 = .ok (.iadd, 1) := by decide +kernel
theorem dX7_fillEvening_46 : decode cX7_fillEvening 46 = .ok (.invokevirtual 178, 3) := by decide +kernel
theorem dX7_fillEvening_49 : decode cX7_fillEvening 49 = .ok (.invokevirtual 251, 3) := by decide +kernel
theorem dX7_fillEvening_52 : decode cX7_fillEvening 52 = .ok (.aload_n 0, 1) := by decide +kernel
theorem dX7_fillEvening_53 : decode cX7_fillEvening 53 = .ok (.iload_n 2, 1) := by decide +kernel
theorem dX7_fillEvening_54 : decode cX7_fillEvening 54 = .ok (.invokevirtual 184, 3) := by decide +kernel
theorem dX7_fillEvening_57 : decode cX7_fillEvening 57 = .ok (.istore_n 2, 1) := by decide +kernel
theorem dX7_fillEvening_58 : decode cX7_fillEvening 58 = .ok (.goto (-46), 3) := by decide +kernel
theorem dX7_fillEvening_61 : decode cX7_fillEvening 61 = .ok (.return_, 1) := by decide +kernel
theorem dX7_fillLog_0 : decode cX7_fillLog 0 = .ok (.aload_n 1, 1) := by decide +kernel
theorem dX7_fillLog_1 : decode cX7_fillLog 1 = .ok (.ifnonnull 4, 3) := by decide +kernel
theorem dX7_fillLog_4 : decode cX7_fillLog 4 = .ok (.return_, 1) := by decide +kernel
theorem dX7_fillLog_5 : decode cX7_fillLog 5 = .ok (.aload_n 1, 1) := by decide +kernel
theorem dX7_fillLog_6 : decode cX7_fillLog 6 = .ok (.iconst 0, 1) := by decide +kernel
theorem dX7_fillLog_7 : decode cX7_fillLog 7 = .ok (.putfield 254, 3) := by decide +kernel
theorem dX7_fillLog_10 : decode cX7_fillLog 10 = .ok (.iconst 0, 1) := by decide +kernel
theorem dX7_fillLog_11 : decode cX7_fillLog 11 = .ok (.istore_n 2, 1) := by decide +kernel
theorem dX7_fillLog_12 : decode cX7_fillLog 12 = .ok (.iload_n 2, 1) := by decide +kernel
theorem dX7_fillLog_13 : decode cX7_fillLog 13 = .ok (.aload_n 0, 1) := by decide +kernel
theorem dX7_fillLog_14 : decode cX7_fillLog 14 = .ok (.invokevirtual 187, 3) := by decide +kernel
theorem dX7_fillLog_17 : decode cX7_fillLog 17 = .ok (.if_icmp .ge 38, 3) := by decide +kernel
theorem dX7_fillLog_20 : decode cX7_fillLog 20 = .ok (.aload_n 1, 1) := by decide +kernel
theorem dX7_fillLog_21 : decode cX7_fillLog 21 = .ok (.aload_n 0, 1) := by decide +kernel
theorem dX7_fillLog_22 : decode cX7_fillLog 22 = .ok (.iload_n 2, 1) := by decide +kernel
theorem dX7_fillLog_23 : decode cX7_fillLog 23 = .ok (.invokevirtual 178, 3) := by decide +kernel
theorem dX7_fillLog_26 : decode cX7_fillLog 26 = .ok (.bipush 13, 2) := by decide +kernel
theorem dX7_fillLog_28 : decode cX7_fillLog 28 = .ok (.if_icmp .ne 13, 3) := by decide +kernel
theorem dX7_fillLog_31 : decode cX7_fillLog 31 = .ok (.aload_n 0, 1) := by decide +kernel
theorem dX7_fillLog_32 : decode cX7_fillLog 32 = .ok (.iload_n 2, 1) := by decide +kernel
theorem dX7_fillLog_33 : decode cX7_fillLog 33 = .ok (.iconst 1, 1) := by decide +kernel
theorem dX7_fillLog_34 : decode cX7_fillLog 34 = .ok (.iadd, 1) := by decide +kernel
theorem dX7_fillLog_35 : decode cX7_fillLog 35 = .ok (.invokevirtual 178, 3) := by decide +kernel
theorem dX7_fillLog_38 : decode cX7_fillLog 38 = .ok (.goto 5, 3) := by decide +kernel
theorem dX7_fillLog_41 : decode cX7_fillLog 41 = .ok (.bipush 6, 2) := by decide +kernel
theorem dX7_fillLog_43 : decode cX7_fillLog 43 = .ok (.invokevirtual 257, 3) := by decide +kernel
theorem dX7_fillLog_46 : decode cX7_fillLog 46 = .ok (.aload_n 0, 1) := by decide +kernel
theorem dX7_fillLog_47 : decode cX7_fillLog 47 = .ok (.iload_n 2, 1) := by decide +kernel
theorem dX7_fillLog_48 : decode cX7_fillLog 48 = .ok (.invokevirtual 184, 3) := by decide +kernel
theorem dX7_fillLog_51 : decode cX7_fillLog 51 = .ok (.istore_n 2, 1) := by decide +kernel
theorem dX7_fillLog_52 : decode cX7_fillLog 52 = .ok (.goto (-40), 3) := by decide +kernel
theorem dX7_fillLog_55 : decode cX7_fillLog 55 = .ok (.return_, 1) := by decide +kernel
theorem dX7_fillTown_0 : decode cX7_fillTown 0 = .ok (.aload_n 1, 1) := by decide +kernel
theorem dX7_fillTown_1 : decode cX7_fillTown 1 = .ok (.ifnonnull 4, 3) := by decide +kernel
theorem dX7_fillTown_4 : decode cX7_fillTown 4 = .ok (.return_, 1) := by decide +kernel
theorem dX7_fillTown_5 : decode cX7_fillTown 5 = .ok (.aload_n 1, 1) := by decide +kernel
theorem dX7_fillTown_6 : decode cX7_fillTown 6 = .ok (.invokevirtual 259, 3) := by decide +kernel
theorem dX7_fillTown_9 : decode cX7_fillTown 9 = .ok (.iconst 0, 1) := by decide +kernel
theorem dX7_fillTown_10 : decode cX7_fillTown 10 = .ok (.istore_n 2, 1) := by decide +kernel
theorem dX7_fillTown_11 : decode cX7_fillTown 11 = .ok (.iload_n 2, 1) := by decide +kernel
theorem dX7_fillTown_12 : decode cX7_fillTown 12 = .ok (.aload_n 0, 1) := by decide +kernel
theorem dX7_fillTown_13 : decode cX7_fillTown 13 = .ok (.invokevirtual 187, 3) := by decide +kernel
theorem dX7_fillTown_16 : decode cX7_fillTown 16 = .ok (.if_icmp .ge 18, 3) := by decide +kernel
theorem dX7_fillTown_19 : decode cX7_fillTown 19 = .ok (.aload_n 0, 1) := by decide +kernel
theorem dX7_fillTown_20 : decode cX7_fillTown 20 = .ok (.aload_n 1, 1) := by decide +kernel
theorem dX7_fillTown_21 : decode cX7_fillTown 21 = .ok (.iload_n 2, 1) := by decide +kernel
theorem dX7_fillTown_22 : decode cX7_fillTown 22 = .ok (.invokevirtual 260, 3) := by decide +kernel
theorem dX7_fillTown_25 : decode cX7_fillTown 25 = .ok (.aload_n 0, 1) := by decide +kernel
theorem dX7_fillTown_26 : decode cX7_fillTown 26 = .ok (.iload_n 2, 1) := by decide +kernel
theorem dX7_fillTown_27 : decode cX7_fillTown 27 = .ok (.invokevirtual 184, 3) := by decide +kernel
theorem dX7_fillTown_30 : decode cX7_fillTown 30 = .ok (.istore_n 2, 1) := by decide +kernel
theorem dX7_fillTown_31 : decode cX7_fillTown 31 = .ok (.goto (-20), 3) := by decide +kernel
theorem dX7_fillTown_34 : decode cX7_fillTown 34 = .ok (.return_, 1) := by decide +kernel
theorem dX7_tellTown_0 : decode cX7_tellTown 0 = .ok (.aload_n 0, 1) := by decide +kernel
theorem dX7_tellTown_1 : decode cX7_tellTown 1 = .ok (.iload_n 2, 1) := by decide +kernel
theorem dX7_tellTown_2 : decode cX7_tellTown 2 = .ok (.iconst 1, 1) := by decide +kernel
theorem dX7_tellTown_3 : decode cX7_tellTown 3 = .ok (.iadd, 1) := by decide +kernel
theorem dX7_tellTown_4 : decode cX7_tellTown 4 = .ok (.invokevirtual 178, 3) := by decide +kernel
theorem dX7_tellTown_7 : decode cX7_tellTown 7 = .ok (.istore_n 3, 1) := by decide +kernel
theorem dX7_tellTown_8 : decode cX7_tellTown 8 = .ok (.aload_n 0, 1) := by decide +kernel
theorem dX7_tellTown_9 : decode cX7_tellTown 9 = .ok (.iload_n 2, 1) := by decide +kernel
theorem dX7_tellTown_10 : decode cX7_tellTown 10 = .ok (.iconst 2, 1) := by decide +kernel
theorem dX7_tellTown_11 : decode cX7_tellTown 11 = .ok (.iadd, 1) := by decide +kernel
theorem dX7_tellTown_12 : decode cX7_tellTown 12 = .ok (.invokevirtual 178, 3) := by decide +kernel
theorem dX7_tellTown_15 : decode cX7_tellTown 15 = .ok (.istore 4, 2) := by decide +kernel
theorem dX7_tellTown_17 : decode cX7_tellTown 17 = .ok (.aload_n 0, 1) := by decide +kernel
theorem dX7_tellTown_18 : decode cX7_tellTown 18 = .ok (.iload_n 2, 1) := by decide +kernel
theorem dX7_tellTown_19 : decode cX7_tellTown 19 = .ok (.invokevirtual 178, 3) := by decide +kernel
theorem dX7_tellTown_22 : decode cX7_tellTown 22 = .ok (.tableswitch 68 15 18 #[30, 38, 48, 58], 30) := by decide +kernel
theorem dX7_tellTown_52 : decode cX7_tellTown 52 = .ok (.aload_n 1, 1) := by decide +kernel
theorem dX7_tellTown_53 : decode cX7_tellTown 53 = .ok (.iload_n 3, 1) := by decide +kernel
theorem dX7_tellTown_54 : decode cX7_tellTown 54 = .ok (.putfield 264, 3) := by decide +kernel
theorem dX7_tellTown_57 : decode cX7_tellTown 57 = .ok (.goto 33, 3) := by decide +kernel
theorem dX7_tellTown_60 : decode cX7_tellTown 60 = .ok (.aload_n 1, 1) := by decide +kernel
theorem dX7_tellTown_61 : decode cX7_tellTown 61 = .ok (.iload_n 3, 1) := by decide +kernel
theorem dX7_tellTown_62 : decode cX7_tellTown 62 = .ok (.iload 4, 2) := by decide +kernel
theorem dX7_tellTown_64 : decode cX7_tellTown 64 = .ok (.invokevirtual 266, 3) := by decide +kernel
theorem dX7_tellTown_67 : decode cX7_tellTown 67 = .ok (.goto 23, 3) := by decide +kernel
theorem dX7_tellTown_70 : decode cX7_tellTown 70 = .ok (.aload_n 1, 1) := by decide +kernel
theorem dX7_tellTown_71 : decode cX7_tellTown 71 = .ok (.iload_n 3, 1) := by decide +kernel
theorem dX7_tellTown_72 : decode cX7_tellTown 72 = .ok (.iload 4, 2) := by decide +kernel
theorem dX7_tellTown_74 : decode cX7_tellTown 74 = .ok (.invokevirtual 269, 3) := by decide +kernel
theorem dX7_tellTown_77 : decode cX7_tellTown 77 = .ok (.goto 13, 3) := by decide +kernel
theorem dX7_tellTown_80 : decode cX7_tellTown 80 = .ok (.aload_n 1, 1) := by decide +kernel
theorem dX7_tellTown_81 : decode cX7_tellTown 81 = .ok (.iload_n 3, 1) := by decide +kernel
theorem dX7_tellTown_82 : decode cX7_tellTown 82 = .ok (.iload 4, 2) := by decide +kernel
theorem dX7_tellTown_84 : decode cX7_tellTown 84 = .ok (.invokevirtual 272, 3) := by decide +kernel
theorem dX7_tellTown_87 : decode cX7_tellTown 87 = .ok (.goto 3, 3) := by decide +kernel
theorem dX7_tellTown_90 : decode cX7_tellTown 90 = .ok (.return_, 1) := by decide +kernel
theorem dX8_init_0 : decode cX8_init 0 = .ok (.aload_n 0, 1) := by decide +kernel
theorem dX8_init_1 : decode cX8_init 1 = .ok (.invokespecial 3, 3) := by decide +kernel
theorem dX8_init_4 : decode cX8_init 4 = .ok (.aload_n 0, 1) := by decide +kernel
theorem dX8_init_5 : decode cX8_init 5 = .ok (.bipush 6, 2) := by decide +kernel
theorem dX8_init_7 : decode cX8_init 7 = .ok (.newarray .int, 2) := by decide +kernel
theorem dX8_init_9 : decode cX8_init 9 = .ok (.putfield 9, 3) := by decide +kernel
theorem dX8_init_12 : decode cX8_init 12 = .ok (.aload_n 0, 1) := by decide +kernel
theorem dX8_init_13 : decode cX8_init 13 = .ok (.bipush 6, 2) := by decide +kernel
theorem dX8_init_15 : decode cX8_init 15 = .ok (.newarray .int, 2) := by decide +kernel
theorem dX8_init_17 : decode cX8_init 17 = .ok (.putfield 15, 3) := by decide +kernel
theorem dX8_init_20 : decode cX8_init 20 = .ok (.return_, 1) := by decide +kernel
theorem dX8_begin_0 : decode cX8_begin 0 = .ok (.aload_n 0, 1) := by decide +kernel
theorem dX8_begin_1 : decode cX8_begin 1 = .ok (.iconst 0, 1) := by decide +kernel
theorem dX8_begin_2 : decode cX8_begin 2 = .ok (.putfield 18, 3) := by decide +kernel
theorem dX8_begin_5 : decode cX8_begin 5 = .ok (.aload_n 0, 1) := by decide +kernel
theorem dX8_begin_6 : decode cX8_begin 6 = .ok (.iconst (-1), 1) := by decide +kernel
theorem dX8_begin_7 : decode cX8_begin 7 = .ok (.putfield 22, 3) := by decide +kernel
theorem dX8_begin_10 : decode cX8_begin 10 = .ok (.aload_n 0, 1) := by decide +kernel
theorem dX8_begin_11 : decode cX8_begin 11 = .ok (.iconst 0, 1) := by decide +kernel
theorem dX8_begin_12 : decode cX8_begin 12 = .ok (.putfield 25, 3) := by decide +kernel
theorem dX8_begin_15 : decode cX8_begin 15 = .ok (.aload_n 0, 1) := by decide +kernel
theorem dX8_begin_16 : decode cX8_begin 16 = .ok (.iconst 0, 1) := by decide +kernel
theorem dX8_begin_17 : decode cX8_begin 17 = .ok (.putfield 28, 3) := by decide +kernel
theorem dX8_begin_20 : decode cX8_begin 20 = .ok (.aload_n 0, 1) := by decide +kernel
theorem dX8_begin_21 : decode cX8_begin 21 = .ok (.iconst 0, 1) := by decide +kernel
theorem dX8_begin_22 : decode cX8_begin 22 = .ok (.putfield 31, 3) := by decide +kernel
theorem dX8_begin_25 : decode cX8_begin 25 = .ok (.aload_n 0, 1) := by decide +kernel
theorem dX8_begin_26 : decode cX8_begin 26 = .ok (.iconst 0, 1) := by decide +kernel
theorem dX8_begin_27 : decode cX8_begin 27 = .ok (.putfield 34, 3) := by decide +kernel
theorem dX8_begin_30 : decode cX8_begin 30 = .ok (.aload_n 0, 1) := by decide +kernel
theorem dX8_begin_31 : decode cX8_begin 31 = .ok (.iconst 0, 1) := by decide +kernel
theorem dX8_begin_32 : decode cX8_begin 32 = .ok (.putfield 37, 3) := by decide +kernel
theorem dX8_begin_35 : decode cX8_begin 35 = .ok (.aload_n 0, 1) := by decide +kernel
theorem dX8_begin_36 : decode cX8_begin 36 = .ok (.bipush 63, 2) := by decide +kernel
theorem dX8_begin_38 : decode cX8_begin 38 = .ok (.putfield 40, 3) := by decide +kernel
theorem dX8_begin_41 : decode cX8_begin 41 = .ok (.iconst 0, 1) := by decide +kernel
theorem dX8_begin_42 : decode cX8_begin 42 = .ok (.istore_n 1, 1) := by decide +kernel
theorem dX8_begin_43 : decode cX8_begin 43 = .ok (.iload_n 1, 1) := by decide +kernel
theorem dX8_begin_44 : decode cX8_begin 44 = .ok (.bipush 6, 2) := by decide +kernel
theorem dX8_begin_46 : decode cX8_begin 46 = .ok (.if_icmp .ge 23, 3) := by decide +kernel
theorem dX8_begin_49 : decode cX8_begin 49 = .ok (.aload_n 0, 1) := by decide +kernel
theorem dX8_begin_50 : decode cX8_begin 50 = .ok (.getfield 9, 3) := by decide +kernel
theorem dX8_begin_53 : decode cX8_begin 53 = .ok (.iload_n 1, 1) := by decide +kernel
theorem dX8_begin_54 : decode cX8_begin 54 = .ok (.iconst 0, 1) := by decide +kernel
theorem dX8_begin_55 : decode cX8_begin 55 = .ok (.iastore, 1) := by decide +kernel
theorem dX8_begin_56 : decode cX8_begin 56 = .ok (.aload_n 0, 1) := by decide +kernel
theorem dX8_begin_57 : decode cX8_begin 57 = .ok (.getfield 15, 3) := by decide +kernel
theorem dX8_begin_60 : decode cX8_begin 60 = .ok (.iload_n 1, 1) := by decide +kernel
theorem dX8_begin_61 : decode cX8_begin 61 = .ok (.iconst 0, 1) := by decide +kernel
theorem dX8_begin_62 : decode cX8_begin 62 = .ok (.iastore, 1) := by decide +kernel
theorem dX8_begin_63 : decode cX8_begin 63 = .ok (.iinc 1 1, 3) := by decide +kernel
theorem dX8_begin_66 : decode cX8_begin 66 = .ok (.goto (-23), 3) := by decide +kernel
theorem dX8_begin_69 : decode cX8_begin 69 = .ok (.return_, 1) := by decide +kernel
theorem dX8_play_0 : decode cX8_play 0 = .ok (.aload_n 0, 1) := by decide +kernel
theorem dX8_play_1 : decode cX8_play 1 = .ok (.invokevirtual 43, 3) := by decide +kernel
theorem dX8_play_4 : decode cX8_play 4 = .ok (.iconst 0, 1) := by decide +kernel
theorem dX8_play_5 : decode cX8_play 5 = .ok (.istore 4, 2) := by decide +kernel
theorem dX8_play_7 : decode cX8_play 7 = .ok (.iload 4, 2) := by decide +kernel
theorem dX8_play_9 : decode cX8_play 9 = .ok (.iload_n 3, 1) := by decide +kernel
theorem dX8_play_10 : decode cX8_play 10 = .ok (.if_icmp .ge 39, 3) := by decide +kernel
theorem dX8_play_13 : decode cX8_play 13 = .ok (.iload 4, 2) := by decide +kernel
theorem dX8_play_15 : decode cX8_play 15 = .ok (.bipush 40, 2) := by decide +kernel
theorem dX8_play_17 : decode cX8_play 17 = .ok (.if_icmp .ge 32, 3) := by decide +kernel
theorem dX8_play_20 : decode cX8_play 20 = .ok (.aload_n 0, 1) := by decide +kernel
theorem dX8_play_21 : decode cX8_play 21 = .ok (.aload_n 1, 1) := by decide +kernel
theorem dX8_play_22 : decode cX8_play 22 = .ok (.aload_n 2, 1) := by decide +kernel
theorem dX8_play_23 : decode cX8_play 23 = .ok (.iload 4, 2) := by decide +kernel
theorem dX8_play_25 : decode cX8_play 25 = .ok (.invokevirtual 48, 3) := by decide +kernel
theorem dX8_play_28 : decode cX8_play 28 = .ok (.aload_n 2, 1) := by decide +kernel
theorem dX8_play_29 : decode cX8_play 29 = .ok (.iload 4, 2) := by decide +kernel
theorem dX8_play_31 : decode cX8_play 31 = .ok (.invokevirtual 52, 3) := by decide +kernel
theorem dX8_play_34 : decode cX8_play 34 = .ok (.invokevirtual 55, 3) := by decide +kernel
theorem dX8_play_37 : decode cX8_play 37 = .ok (.ifCond .ne 6, 3) := by decide +kernel
theorem dX8_play_40 : decode cX8_play 40 = .ok (.iload 4, 2) := by decide +kernel
theorem dX8_play_42 : decode cX8_play 42 = .ok (.ireturn, 1) := by decide +kernel
theorem dX8_play_43 : decode cX8_play 43 = .ok (.iinc 4 1, 3) := by decide +kernel
theorem dX8_play_46 : decode cX8_play 46 = .ok (.goto (-39), 3) := by decide +kernel
theorem dX8_play_49 : decode cX8_play 49 = .ok (.iload_n 3, 1) := by decide +kernel
theorem dX8_play_50 : decode cX8_play 50 = .ok (.ireturn, 1) := by decide +kernel
theorem dX8_longestSilence_0 : decode cX8_longestSilence 0 = .ok (.aload_n 0, 1) := by decide +kernel
theorem dX8_longestSilence_1 : decode cX8_longestSilence 1 = .ok (.invokevirtual 43, 3) := by decide +kernel
theorem dX8_longestSilence_4 : decode cX8_longestSilence 4 = .ok (.iconst 0, 1) := by decide +kernel
theorem dX8_longestSilence_5 : decode cX8_longestSilence 5 = .ok (.istore_n 3, 1) := by decide +kernel
theorem dX8_longestSilence_6 : decode cX8_longestSilence 6 = .ok (.iconst 0, 1) := by decide +kernel
theorem dX8_longestSilence_7 : decode cX8_longestSilence 7 = .ok (.istore 4, 2) := by decide +kernel
theorem dX8_longestSilence_9 : decode cX8_longestSilence 9 = .ok (.iload 4, 2) := by decide +kernel
theorem dX8_longestSilence_11 : decode cX8_longestSilence 11 = .ok (.aload_n 2, 1) := by decide +kernel
theorem dX8_longestSilence_12 : decode cX8_longestSilence 12 = .ok (.getfield 59, 3) := by decide +kernel
theorem dX8_longestSilence_15 : decode cX8_longestSilence 15 = .ok (.if_icmp .ge 40, 3) := by decide +kernel
theorem dX8_longestSilence_18 : decode cX8_longestSilence 18 = .ok (.aload_n 0, 1) := by decide +kernel
theorem dX8_longestSilence_19 : decode cX8_longestSilence 19 = .ok (.aload_n 1, 1) := by decide +kernel
theorem dX8_longestSilence_20 : decode cX8_longestSilence 20 = .ok (.aload_n 2, 1) := by decide +kernel
theorem dX8_longestSilence_21 : decode cX8_longestSilence 21 = .ok (.iload 4, 2) := by decide +kernel
theorem dX8_longestSilence_23 : decode cX8_longestSilence 23 = .ok (.invokevirtual 48, 3) := by decide +kernel
theorem dX8_longestSilence_26 : decode cX8_longestSilence 26 = .ok (.aload_n 2, 1) := by decide +kernel
theorem dX8_longestSilence_27 : decode cX8_longestSilence 27 = .ok (.iload 4, 2) := by decide +kernel
theorem dX8_longestSilence_29 : decode cX8_longestSilence 29 = .ok (.invokevirtual 52, 3) := by decide +kernel
theorem dX8_longestSilence_32 : decode cX8_longestSilence 32 = .ok (.invokevirtual 55, 3) := by decide +kernel
theorem dX8_longestSilence_35 : decode cX8_longestSilence 35 = .ok (.ifCond .ne 5, 3) := by decide +kernel
theorem dX8_longestSilence_38 : decode cX8_longestSilence 38 = .ok (.iload_n 3, 1) := by decide +kernel
theorem dX8_longestSilence_39 : decode cX8_longestSilence 39 = .ok (.ireturn, 1) := by decide +kernel
theorem dX8_longestSilence_40 : decode cX8_longestSilence 40 = .ok (.iload_n 3, 1) := by decide +kernel
theorem dX8_longestSilence_41 : decode cX8_longestSilence 41 = .ok (.aload_n 0, 1) := by decide +kernel
theorem dX8_longestSilence_42 : decode cX8_longestSilence 42 = .ok (.getfield 25, 3) := by decide +kernel
theorem dX8_longestSilence_45 : decode cX8_longestSilence 45 = .ok (.invokestatic 62, 3) := by decide +kernel
theorem dX8_longestSilence_48 : decode cX8_longestSilence 48 = .ok (.istore_n 3, 1) := by decide +kernel
theorem dX8_longestSilence_49 : decode cX8_longestSilence 49 = .ok (.iinc 4 1, 3) := by decide +kernel
theorem dX8_longestSilence_52 : decode cX8_longestSilence 52 = .ok (.goto (-43), 3) := by decide +kernel
theorem dX8_longestSilence_55 : decode cX8_longestSilence 55 = .ok (.iload_n 3, 1) := by decide +kernel
theorem dX8_longestSilence_56 : decode cX8_longestSilence 56 = .ok (.ireturn, 1) := by decide +kernel
theorem dX8_loudest_0 : decode cX8_loudest 0 = .ok (.aload_n 0, 1) := by decide +kernel
theorem dX8_loudest_1 : decode cX8_loudest 1 = .ok (.aload_n 1, 1) := by decide +kernel
theorem dX8_loudest_2 : decode cX8_loudest 2 = .ok (.aload_n 2, 1) := by decide +kernel
theorem dX8_loudest_3 : decode cX8_loudest 3 = .ok (.aload_n 2, 1) := by decide +kernel
theorem dX8_loudest_4 : decode cX8_loudest 4 = .ok (.getfield 59, 3) := by decide +kernel
theorem dX8_loudest_7 : decode cX8_loudest 7 = .ok (.invokevirtual 68, 3) := by decide +kernel
theorem dX8_loudest_10 : decode cX8_loudest 10 = .ok (.pop, 1) := by decide +kernel
theorem dX8_loudest_11 : decode cX8_loudest 11 = .ok (.iconst (-1), 1) := by decide +kernel
theorem dX8_loudest_12 : decode cX8_loudest 12 = .ok (.istore_n 3, 1) := by decide +kernel
theorem dX8_loudest_13 : decode cX8_loudest 13 = .ok (.iconst 0, 1) := by decide +kernel
theorem dX8_loudest_14 : decode cX8_loudest 14 = .ok (.istore 4, 2) := by decide +kernel
theorem dX8_loudest_16 : decode cX8_loudest 16 = .ok (.iconst 0, 1) := by decide +kernel
theorem dX8_loudest_17 : decode cX8_loudest 17 = .ok (.istore 5, 2) := by decide +kernel
theorem dX8_loudest_19 : decode cX8_loudest 19 = .ok (.iload 5, 2) := by decide +kernel
theorem dX8_loudest_21 : decode cX8_loudest 21 = .ok (.bipush 6, 2) := by decide +kernel
theorem dX8_loudest_23 : decode cX8_loudest 23 = .ok (.if_icmp .ge 33, 3) := by decide +kernel
theorem dX8_loudest_26 : decode cX8_loudest 26 = .ok (.aload_n 0, 1) := by decide +kernel
theorem dX8_loudest_27 : decode cX8_loudest 27 = .ok (.getfield 9, 3) := by decide +kernel
theorem dX8_loudest_30 : decode cX8_loudest 30 = .ok (.iload 5, 2) := by decide +kernel
theorem dX8_loudest_32 : decode cX8_loudest 32 = .ok (.iaload, 1) := by decide +kernel
theorem dX8_loudest_33 : decode cX8_loudest 33 = .ok (.iload 4, 2) := by decide +kernel
theorem dX8_loudest_35 : decode cX8_loudest 35 = .ok (.if_icmp .le 15, 3) := by decide +kernel
theorem dX8_loudest_38 : decode cX8_loudest 38 = .ok (.aload_n 0, 1) := by decide +kernel
theorem dX8_loudest_39 : decode cX8_loudest 39 = .ok (.getfield 9, 3) := by decide +kernel
theorem dX8_loudest_42 : decode cX8_loudest 42 = .ok (.iload 5, 2) := by decide +kernel
theorem dX8_loudest_44 : decode cX8_loudest 44 = .ok (.iaload, 1) := by decide +kernel
theorem dX8_loudest_45 : decode cX8_loudest 45 = .ok (.istore 4, 2) := by decide +kernel
theorem dX8_loudest_47 : decode cX8_loudest 47 = .ok (.iload 5, 2) := by decide +kernel
theorem dX8_loudest_49 : decode cX8_loudest 49 = .ok (.istore_n 3, 1) := by decide +kernel
theorem dX8_loudest_50 : decode cX8_loudest 50 = .ok (.iinc 5 1, 3) := by decide +kernel
theorem dX8_loudest_53 : decode cX8_loudest 53 = .ok (.goto (-34), 3) := by decide +kernel
theorem dX8_loudest_56 : decode cX8_loudest 56 = .ok (.iload_n 3, 1) := by decide +kernel
theorem dX8_loudest_57 : decode cX8_loudest 57 = .ok (.ireturn, 1) := by decide +kernel
theorem dX8_firstFined_0 : decode cX8_firstFined 0 = .ok (.aload_n 0, 1) := by decide +kernel
theorem dX8_firstFined_1 : decode cX8_firstFined 1 = .ok (.invokevirtual 43, 3) := by decide +kernel
theorem dX8_firstFined_4 : decode cX8_firstFined 4 = .ok (.iconst 0, 1) := by decide +kernel
theorem dX8_firstFined_5 : decode cX8_firstFined 5 = .ok (.istore_n 3, 1) := by decide +kernel
theorem dX8_firstFined_6 : decode cX8_firstFined 6 = .ok (.iload_n 3, 1) := by decide +kernel
theorem dX8_firstFined_7 : decode cX8_firstFined 7 = .ok (.aload_n 2, 1) := by decide +kernel
theorem dX8_firstFined_8 : decode cX8_firstFined 8 = .ok (.getfield 59, 3) := by decide +kernel
theorem dX8_firstFined_11 : decode cX8_firstFined 11 = .ok (.if_icmp .ge 41, 3) := by decide +kernel
theorem dX8_firstFined_14 : decode cX8_firstFined 14 = .ok (.aload_n 0, 1) := by decide +kernel
theorem dX8_firstFined_15 : decode cX8_firstFined 15 = .ok (.aload_n 1, 1) := by decide +kernel
theorem dX8_firstFined_16 : decode cX8_firstFined 16 = .ok (.aload_n 2, 1) := by decide +kernel
theorem dX8_firstFined_17 : decode cX8_firstFined 17 = .ok (.iload_n 3, 1) := by decide +kernel
theorem dX8_firstFined_18 : decode cX8_firstFined 18 = .ok (.invokevirtual 48, 3) := by decide +kernel
theorem dX8_firstFined_21 : decode cX8_firstFined 21 = .ok (.aload_n 2, 1) := by decide +kernel
theorem dX8_firstFined_22 : decode cX8_firstFined 22 = .ok (.iload_n 3, 1) := by decide +kernel
theorem dX8_firstFined_23 : decode cX8_firstFined 23 = .ok (.invokevirtual 52, 3) := by decide +kernel
theorem dX8_firstFined_26 : decode cX8_firstFined 26 = .ok (.invokevirtual 55, 3) := by decide +kernel
theorem dX8_firstFined_29 : decode cX8_firstFined 29 = .ok (.ifCond .ne 5, 3) := by decide +kernel
theorem dX8_firstFined_32 : decode cX8_firstFined 32 = .ok (.iconst (-1), 1) := by decide +kernel
theorem dX8_firstFined_33 : decode cX8_firstFined 33 = .ok (.ireturn, 1) := by decide +kernel
theorem dX8_firstFined_34 : decode cX8_firstFined 34 = .ok (.aload_n 0, 1) := by decide +kernel
theorem dX8_firstFined_35 : decode cX8_firstFined 35 = .ok (.aload_n 1, 1) := by decide +kernel
theorem dX8_firstFined_36 : decode cX8_firstFined 36 = .ok (.invokevirtual 72, 3) := by decide +kernel
theorem dX8_firstFined_39 : decode cX8_firstFined 39 = .ok (.ifCond .le 7, 3) := by decide +kernel
theorem dX8_firstFined_42 : decode cX8_firstFined 42 = .ok (.iload_n 3, 1) := by decide +kernel
theorem dX8_firstFined_43 : decode cX8_firstFined 43 = .ok (.iconst 1, 1) := by decide +kernel
theorem dX8_firstFined_44 : decode cX8_firstFined 44 = .ok (.iadd, 1) := by decide +kernel
theorem dX8_firstFined_45 : decode cX8_firstFined 45 = .ok (.ireturn, 1) := by decide +kernel
theorem dX8_firstFined_46 : decode cX8_firstFined 46 = .ok (.iinc 3 1, 3) := by decide +kernel
theorem dX8_firstFined_49 : decode cX8_firstFined 49 = .ok (.goto (-43), 3) := by decide +kernel
theorem dX8_firstFined_52 : decode cX8_firstFined 52 = .ok (.iconst (-1), 1) := by decide +kernel
theorem dX8_firstFined_53 : decode cX8_firstFined 53 = .ok (.ireturn, 1) := by decide +kernel
theorem dX8_playDrawn_0 : decode cX8_playDrawn 0 = .ok (.aload_n 0, 1) := by decide +kernel
theorem dX8_playDrawn_1 : decode cX8_playDrawn 1 = .ok (.invokevirtual 43, 3) := by decide +kernel
theorem dX8_playDrawn_4 : decode cX8_playDrawn 4 = .ok (.aload_n 0, 1) := by decide +kernel
theorem dX8_playDrawn_5 : decode cX8_playDrawn 5 = .ok (.iload_n 2, 1) := by decide +kernel
theorem dX8_playDrawn_6 : decode cX8_playDrawn 6 = .ok (.putfield 76, 3) := by decide +kernel
theorem dX8_playDrawn_9 : decode cX8_playDrawn 9 = .ok (.iconst 0, 1) := by decide +kernel
theorem dX8_playDrawn_10 : decode cX8_playDrawn 10 = .ok (.istore 4, 2) := by decide +kernel
theorem dX8_playDrawn_12 : decode cX8_playDrawn 12 = .ok (.iload 4, 2) := by decide +kernel
theorem dX8_playDrawn_14 : decode cX8_playDrawn 14 = .ok (.iload_n 3, 1) := by decide +kernel
theorem dX8_playDrawn_15 : decode cX8_playDrawn 15 = .ok (.if_icmp .ge 14, 3) := by decide +kernel
theorem dX8_playDrawn_18 : decode cX8_playDrawn 18 = .ok (.aload_n 0, 1) := by decide +kernel
theorem dX8_playDrawn_19 : decode cX8_playDrawn 19 = .ok (.aload_n 1, 1) := by decide +kernel
theorem dX8_playDrawn_20 : decode cX8_playDrawn 20 = .ok (.invokevirtual 79, 3) := by decide +kernel
theorem dX8_playDrawn_23 : decode cX8_playDrawn 23 = .ok (.iinc 4 1, 3) := by decide +kernel
theorem dX8_playDrawn_26 : decode cX8_playDrawn 26 = .ok (.goto (-14), 3) := by decide +kernel
theorem dX8_playDrawn_29 : decode cX8_playDrawn 29 = .ok (.return_, 1) := by decide +kernel
theorem dX8_drawDeed_0 : decode cX8_drawDeed 0 = .ok (.aload_n 0, 1) := by decide +kernel
theorem dX8_drawDeed_1 : decode cX8_drawDeed 1 = .ok (.bipush 8, 2) := by decide +kernel
theorem dX8_drawDeed_3 : decode cX8_drawDeed 3 = .ok (.invokevirtual 83, 3) := by decide +kernel
theorem dX8_drawDeed_6 : decode cX8_drawDeed 6 = .ok (.istore_n 2, 1) := by decide +kernel
theorem dX8_drawDeed_7 : decode cX8_drawDeed 7 = .ok (.iload_n 2, 1) := by decide +kernel
theorem dX8_drawDeed_8 : decode cX8_drawDeed 8 = .ok (.bipush 7, 2) := by decide +kernel
theorem dX8_drawDeed_10 : decode cX8_drawDeed 10 = .ok (.if_icmp .ne 12, 3) := by decide +kernel
theorem dX8_drawDeed_13 : decode cX8_drawDeed 13 = .ok (.aload_n 0, 1) := by decide +kernel
theorem dX8_drawDeed_14 : decode cX8_drawDeed 14 = .ok (.bipush 6, 2) := by decide +kernel
theorem dX8_drawDeed_16 : decode cX8_drawDeed 16 = .ok (.invokevirtual 83, 3) := by decide +kernel
theorem dX8_drawDeed_19 : decode cX8_drawDeed 19 = .ok (.goto 4, 3) := by decide +kernel
theorem dX8_drawDeed_22 : decode cX8_drawDeed 22 = .ok (.iconst (-1), 1) := by decide +kernel
theorem dX8_drawDeed_23 : decode cX8_drawDeed 23 = .ok (.istore_n 3, 1) := by decide +kernel
theorem dX8_drawDeed_24 : decode cX8_drawDeed 24 = .ok (.iload_n 2, 1) := by decide +kernel
theorem dX8_drawDeed_25 : decode cX8_drawDeed 25 = .ok (.tableswitch 107 3 7 #[35, 50, 61, 72, 84], 35) := by decide +kernel
theorem dX8_drawDeed_60 : decode cX8_drawDeed 60 = .ok (.aload_n 0, 1) := by decide +kernel
theorem dX8_drawDeed_61 : decode cX8_drawDeed 61 = .ok (.aload_n 1, 1) := by decide +kernel
theorem dX8_drawDeed_62 : decode cX8_drawDeed 62 = .ok (.iconst 0, 1) := by decide +kernel
theorem dX8_drawDeed_63 : decode cX8_drawDeed 63 = .ok (.aload_n 0, 1) := by decide +kernel
theorem dX8_drawDeed_64 : decode cX8_drawDeed 64 = .ok (.aload_n 1, 1) := by decide +kernel
theorem dX8_drawDeed_65 : decode cX8_drawDeed 65 = .ok (.invokevirtual 86, 3) := by decide +kernel
theorem dX8_drawDeed_68 : decode cX8_drawDeed 68 = .ok (.invokevirtual 55, 3) := by decide +kernel
theorem dX8_drawDeed_71 : decode cX8_drawDeed 71 = .ok (.pop, 1) := by decide +kernel
theorem dX8_drawDeed_72 : decode cX8_drawDeed 72 = .ok (.goto 72, 3) := by decide +kernel
theorem dX8_drawDeed_75 : decode cX8_drawDeed 75 = .ok (.aload_n 0, 1) := by decide +kernel
theorem dX8_drawDeed_76 : decode cX8_drawDeed 76 = .ok (.aload_n 1, 1) := by decide +kernel
theorem dX8_drawDeed_77 : decode cX8_drawDeed 77 = .ok (.iconst 3, 1) := by decide +kernel
theorem dX8_drawDeed_78 : decode cX8_drawDeed 78 = .ok (.iconst (-1), 1) := by decide +kernel
theorem dX8_drawDeed_79 : decode cX8_drawDeed 79 = .ok (.invokevirtual 55, 3) := by decide +kernel
theorem dX8_drawDeed_82 : decode cX8_drawDeed 82 = .ok (.pop, 1) := by decide +kernel
theorem dX8_drawDeed_83 : decode cX8_drawDeed 83 = .ok (.goto 61, 3) := by decide +kernel
theorem dX8_drawDeed_86 : decode cX8_drawDeed 86 = .ok (.aload_n 0, 1) := by decide +kernel
theorem dX8_drawDeed_87 : decode cX8_drawDeed 87 = .ok (.aload_n 1, 1) := by decide +kernel
theorem dX8_drawDeed_88 : decode cX8_drawDeed 88 = .ok (.iconst 4, 1) := by decide +kernel
theorem dX8_drawDeed_89 : decode cX8_drawDeed 89 = .ok (.iconst (-1), 1) := by decide +kernel
theorem dX8_drawDeed_90 : decode cX8_drawDeed 90 = .ok (.invokevirtual 55, 3) := by decide +kernel
theorem dX8_drawDeed_93 : decode cX8_drawDeed 93 = .ok (.pop, 1) := by decide +kernel
theorem dX8_drawDeed_94 : decode cX8_drawDeed 94 = .ok (.goto 50, 3) := by decide +kernel
theorem dX8_drawDeed_97 : decode cX8_drawDeed 97 = .ok (.aload_n 0, 1) := by decide +kernel
theorem dX8_drawDeed_98 : decode cX8_drawDeed 98 = .ok (.aload_n 1, 1) := by decide +kernel
theorem dX8_drawDeed_99 : decode cX8_drawDeed 99 = .ok (.bipush 6, 2) := by decide +kernel
theorem dX8_drawDeed_101 : decode cX8_drawDeed 101 = .ok (.iconst (-1), 1) := by decide +kernel
theorem dX8_drawDeed_102 : decode cX8_drawDeed 102 = .ok (.invokevirtual 55, 3) := by decide +kernel
theorem dX8_drawDeed_105 : decode cX8_drawDeed 105 = .ok (.pop, 1) := by decide +kernel
theorem dX8_drawDeed_106 : decode cX8_drawDeed 106 = .ok (.goto 38, 3) := by decide +kernel
theorem dX8_drawDeed_109 : decode cX8_drawDeed 109 = .ok (.aload_n 0, 1) := by decide +kernel
theorem dX8_drawDeed_110 : decode cX8_drawDeed 110 = .ok (.aload_n 1, 1) := by decide +kernel
theorem dX8_drawDeed_111 : decode cX8_drawDeed 111 = .ok (.aload_n 0, 1) := by decide +kernel
theorem dX8_drawDeed_112 : decode cX8_drawDeed 112 = .ok (.iload_n 3, 1) := by decide +kernel
theorem dX8_drawDeed_113 : decode cX8_drawDeed 113 = .ok (.invokevirtual 89, 3) := by decide +kernel
theorem dX8_drawDeed_116 : decode cX8_drawDeed 116 = .ok (.ifCond .eq 7, 3) := by decide +kernel
theorem dX8_drawDeed_119 : decode cX8_drawDeed 119 = .ok (.iconst 1, 1) := by decide +kernel
theorem dX8_drawDeed_120 : decode cX8_drawDeed 120 = .ok (.goto 4, 3) := by decide +kernel
theorem dX8_drawDeed_123 : decode cX8_drawDeed 123 = .ok (.iconst 2, 1) := by decide +kernel
theorem dX8_drawDeed_124 : decode cX8_drawDeed 124 = .ok (.iload_n 3, 1) := by decide +kernel
theorem dX8_drawDeed_125 : decode cX8_drawDeed 125 = .ok (.invokevirtual 55, 3) := by decide +kernel
theorem dX8_drawDeed_128 : decode cX8_drawDeed 128 = .ok (.pop, 1) := by decide +kernel
theorem dX8_drawDeed_129 : decode cX8_drawDeed 129 = .ok (.goto 15, 3) := by decide +kernel
theorem dX8_drawDeed_132 : decode cX8_drawDeed 132 = .ok (.aload_n 0, 1) := by decide +kernel
theorem dX8_drawDeed_133 : decode cX8_drawDeed 133 = .ok (.aload_n 1, 1) := by decide +kernel
theorem dX8_drawDeed_134 : decode cX8_drawDeed 134 = .ok (.iconst 0, 1) := by decide +kernel
theorem dX8_drawDeed_135 : decode cX8_drawDeed 135 = .ok (.aload_n 0, 1) := by decide +kernel
theorem dX8_drawDeed_136 : decode cX8_drawDeed 136 = .ok (.aload_n 1, 1) := by decide +kernel
theorem dX8_drawDeed_137 : decode cX8_drawDeed 137 = .ok (.invokevirtual 93, 3) := by decide +kernel
theorem dX8_drawDeed_140 : decode cX8_drawDeed 140 = .ok (.invokevirtual 55, 3) := by decide +kernel
theorem dX8_drawDeed_143 : decode cX8_drawDeed 143 = .ok (.pop, 1) := by decide +kernel
theorem dX8_drawDeed_144 : decode cX8_drawDeed 144 = .ok (.return_, 1) := by decide +kernel
theorem dX8_drawFollower_0 : decode cX8_drawFollower 0 = .ok (.aload_n 1, 1) := by decide +kernel
theorem dX8_drawFollower_1 : decode cX8_drawFollower 1 = .ok (.aload_n 0, 1) := by decide +kernel
theorem dX8_drawFollower_2 : decode cX8_drawFollower 2 = .ok (.getfield 22, 3) := by decide +kernel
theorem dX8_drawFollower_5 : decode cX8_drawFollower 5 = .ok (.invokevirtual 96, 3) := by decide +kernel
theorem dX8_drawFollower_8 : decode cX8_drawFollower 8 = .ok (.istore_n 2, 1) := by decide +kernel
theorem dX8_drawFollower_9 : decode cX8_drawFollower 9 = .ok (.iload_n 2, 1) := by decide +kernel
theorem dX8_drawFollower_10 : decode cX8_drawFollower 10 = .ok (.ifCond .le 19, 3) := by decide +kernel
theorem dX8_drawFollower_13 : decode cX8_drawFollower 13 = .ok (.aload_n 1, 1) := by decide +kernel
theorem dX8_drawFollower_14 : decode cX8_drawFollower 14 = .ok (.aload_n 0, 1) := by decide +kernel
theorem dX8_drawFollower_15 : decode cX8_drawFollower 15 = .ok (.getfield 22, 3) := by decide +kernel
theorem dX8_drawFollower_18 : decode cX8_drawFollower 18 = .ok (.aload_n 0, 1) := by decide +kernel
theorem dX8_drawFollower_19 : decode cX8_drawFollower 19 = .ok (.iload_n 2, 1) := by decide +kernel
theorem dX8_drawFollower_20 : decode cX8_drawFollower 20 = .ok (.invokevirtual 83, 3) := by decide +kernel
theorem dX8_drawFollower_23 : decode cX8_drawFollower 23 = .ok (.invokevirtual 101, 3) := by decide +kernel
theorem dX8_drawFollower_26 : decode cX8_drawFollower 26 = .ok (.goto 4, 3) := by decide +kernel
theorem dX8_drawFollower_29 : decode cX8_drawFollower 29 = .ok (.iconst (-1), 1) := by decide +kernel
theorem dX8_drawFollower_30 : decode cX8_drawFollower 30 = .ok (.ireturn, 1) := by decide +kernel
theorem dX8_draw_0 : decode cX8_draw 0 = .ok (.aload_n 0, 1) := by decide +kernel
theorem dX8_draw_1 : decode cX8_draw 1 = .ok (.aload_n 0, 1) := by decide +kernel
theorem dX8_draw_2 : decode cX8_draw 2 = .ok (.getfield 76, 3) := by decide +kernel
theorem dX8_draw_5 : decode cX8_draw 5 = .ok (.ldc 104, 2) := by decide +kernel
theorem dX8_draw_7 : decode cX8_draw 7 = .ok (.imul, 1) := by decide +kernel
theorem dX8_draw_8 : decode cX8_draw 8 = .ok (.sipush 12345, 3) := by decide +kernel
theorem dX8_draw_11 : decode cX8_draw 11 = .ok (.iadd, 1) := by decide +kernel
theorem dX8_draw_12 : decode cX8_draw 12 = .ok (.putfield 76, 3) := by decide +kernel
theorem dX8_draw_15 : decode cX8_draw 15 = .ok (.iload_n 1, 1) := by decide +kernel
theorem dX8_draw_16 : decode cX8_draw 16 = .ok (.ifCond .le 15, 3) := by decide +kernel
theorem dX8_draw_19 : decode cX8_draw 19 = .ok (.aload_n 0, 1) := by decide +kernel
theorem dX8_draw_20 : decode cX8_draw 20 = .ok (.getfield 76, 3) := by decide +kernel
theorem dX8_draw_23 : decode cX8_draw 23 = .ok (.bipush 16, 2) := by decide +kernel
theorem dX8_draw_25 : decode cX8_draw 25 = .ok (.iushr, 1) := by decide +kernel
theorem dX8_draw_26 : decode cX8_draw 26 = .ok (.iload_n 1, 1) := by decide +kernel
theorem dX8_draw_27 : decode cX8_draw 27 = .ok (.irem, 1) := by decide +kernel
theorem dX8_draw_28 : decode cX8_draw 28 = .ok (.goto 4, 3) := by decide +kernel
theorem dX8_draw_31 : decode cX8_draw 31 = .ok (.iconst 0, 1) := by decide +kernel
theorem dX8_draw_32 : decode cX8_draw 32 = .ok (.ireturn, 1) := by decide +kernel
theorem dX8_due_0 : decode cX8_due 0 = .ok (.aload_n 0, 1) := by decide +kernel
theorem dX8_due_1 : decode cX8_due 1 = .ok (.getfield 22, 3) := by decide +kernel
theorem dX8_due_4 : decode cX8_due 4 = .ok (.iconst (-1), 1) := by decide +kernel
theorem dX8_due_5 : decode cX8_due 5 = .ok (.if_icmp .ne 17, 3) := by decide +kernel
theorem dX8_due_8 : decode cX8_due 8 = .ok (.aload_n 1, 1) := by decide +kernel
theorem dX8_due_9 : decode cX8_due 9 = .ok (.iconst 0, 1) := by decide +kernel
theorem dX8_due_10 : decode cX8_due 10 = .ok (.invokevirtual 105, 3) := by decide +kernel
theorem dX8_due_13 : decode cX8_due 13 = .ok (.ifCond .eq 7, 3) := by decide +kernel
theorem dX8_due_16 : decode cX8_due 16 = .ok (.iconst 0, 1) := by decide +kernel
theorem dX8_due_17 : decode cX8_due 17 = .ok (.goto 4, 3) := by decide +kernel
theorem dX8_due_20 : decode cX8_due 20 = .ok (.iconst (-1), 1) := by decide +kernel
theorem dX8_due_21 : decode cX8_due 21 = .ok (.ireturn, 1) := by decide +kernel
theorem dX8_due_22 : decode cX8_due 22 = .ok (.aload_n 1, 1) := by decide +kernel
theorem dX8_due_23 : decode cX8_due 23 = .ok (.aload_n 0, 1) := by decide +kernel
theorem dX8_due_24 : decode cX8_due 24 = .ok (.getfield 22, 3) := by decide +kernel
theorem dX8_due_27 : decode cX8_due 27 = .ok (.iconst 0, 1) := by decide +kernel
theorem dX8_due_28 : decode cX8_due 28 = .ok (.invokevirtual 101, 3) := by decide +kernel
theorem dX8_due_31 : decode cX8_due 31 = .ok (.ireturn, 1) := by decide +kernel
theorem dX8_isIn_0 : decode cX8_isIn 0 = .ok (.iload_n 1, 1) := by decide +kernel
theorem dX8_isIn_1 : decode cX8_isIn 1 = .ok (.invokestatic 108, 3) := by decide +kernel
theorem dX8_isIn_4 : decode cX8_isIn 4 = .ok (.ifCond .eq 19, 3) := by decide +kernel
theorem dX8_isIn_7 : decode cX8_isIn 7 = .ok (.aload_n 0, 1) := by decide +kernel
theorem dX8_isIn_8 : decode cX8_isIn 8 = .ok (.getfield 40, 3) := by decide +kernel
theorem dX8_isIn_11 : decode cX8_isIn 11 = .ok (.iload_n 1, 1) := by decide +kernel
theorem dX8_isIn_12 : decode cX8_isIn 12 = .ok (.ishr, 1) := by decide +kernel
theorem dX8_isIn_13 : decode cX8_isIn 13 = .ok (.iconst 1, 1) := by decide +kernel
theorem dX8_isIn_14 : decode cX8_isIn 14 = .ok (.iand, 1) := by decide +kernel
theorem dX8_isIn_15 : decode cX8_isIn 15 = .ok (.iconst 1, 1) := by decide +kernel
theorem dX8_isIn_16 : decode cX8_isIn 16 = .ok (.if_icmp .ne 7, 3) := by decide +kernel
theorem dX8_isIn_19 : decode cX8_isIn 19 = .ok (.iconst 1, 1) := by decide +kernel
theorem dX8_isIn_20 : decode cX8_isIn 20 = .ok (.goto 4, 3) := by decide +kernel
theorem dX8_isIn_23 : decode cX8_isIn 23 = .ok (.iconst 0, 1) := by decide +kernel
theorem dX8_isIn_24 : decode cX8_isIn 24 = .ok (.ireturn, 1) := by decide +kernel
theorem dX8_fines_0 : decode cX8_fines 0 = .ok (.iconst 0, 1) := by decide +kernel
theorem dX8_fines_1 : decode cX8_fines 1 = .ok (.aload_n 0, 1) := by decide +kernel
theorem dX8_fines_2 : decode cX8_fines 2 = .ok (.getfield 31, 3) := by decide +kernel
theorem dX8_fines_5 : decode cX8_fines 5 = .ok (.aload_n 1, 1) := by decide +kernel
theorem dX8_fines_6 : decode cX8_fines 6 = .ok (.getfield 111, 3) := by decide +kernel
theorem dX8_fines_9 : decode cX8_fines 9 = .ok (.isub, 1) := by decide +kernel
theorem dX8_fines_10 : decode cX8_fines 10 = .ok (.invokestatic 62, 3) := by decide +kernel
theorem dX8_fines_13 : decode cX8_fines 13 = .ok (.ireturn, 1) := by decide +kernel
theorem dX8_perform_0 : decode cX8_perform 0 = .ok (.iload_n 2, 1) := by decide +kernel
theorem dX8_perform_1 : decode cX8_perform 1 = .ok (.tableswitch 114 0 6 #[43, 54, 61, 68, 78, 88, 104], 43) := by decide +kernel
theorem dX8_perform_44 : decode cX8_perform 44 = .ok (.aload_n 0, 1) := by decide +kernel
theorem dX8_perform_45 : decode cX8_perform 45 = .ok (.aload_n 1, 1) := by decide +kernel
theorem dX8_perform_46 : decode cX8_perform 46 = .ok (.iload_n 3, 1) := by decide +kernel
theorem dX8_perform_47 : decode cX8_perform 47 = .ok (.invokevirtual 114, 3) := by decide +kernel
theorem dX8_perform_50 : decode cX8_perform 50 = .ok (.istore 4, 2) := by decide +kernel
theorem dX8_perform_52 : decode cX8_perform 52 = .ok (.goto 65, 3) := by decide +kernel
theorem dX8_perform_55 : decode cX8_perform 55 = .ok (.aload_n 0, 1) := by decide +kernel
theorem dX8_perform_56 : decode cX8_perform 56 = .ok (.iload_n 3, 1) := by decide +kernel
theorem dX8_perform_57 : decode cX8_perform 57 = .ok (.iconst 1, 1) := by decide +kernel
theorem dX8_perform_58 : decode cX8_perform 58 = .ok (.invokevirtual 118, 3) := by decide +kernel
theorem dX8_perform_61 : decode cX8_perform 61 = .ok (.ireturn, 1) := by decide +kernel
theorem dX8_perform_62 : decode cX8_perform 62 = .ok (.aload_n 0, 1) := by decide +kernel
theorem dX8_perform_63 : decode cX8_perform 63 = .ok (.iload_n 3, 1) := by decide +kernel
theorem dX8_perform_64 : decode cX8_perform 64 = .ok (.iconst 0, 1) := by decide +kernel
theorem dX8_perform_65 : decode cX8_perform 65 = .ok (.invokevirtual 118, 3) := by decide +kernel
theorem dX8_perform_68 : decode cX8_perform 68 = .ok (.ireturn, 1) := by decide +kernel
theorem dX8_perform_69 : decode cX8_perform 69 = .ok (.aload_n 0, 1) := by decide +kernel
theorem dX8_perform_70 : decode cX8_perform 70 = .ok (.aload_n 1, 1) := by decide +kernel
theorem dX8_perform_71 : decode cX8_perform 71 = .ok (.invokevirtual 122, 3) := by decide +kernel
theorem dX8_perform_74 : decode cX8_perform 74 = .ok (.istore 4, 2) := by decide +kernel
theorem dX8_perform_76 : decode cX8_perform 76 = .ok (.goto 41, 3) := by decide +kernel
theorem dX8_perform_79 : decode cX8_perform 79 = .ok (.aload_n 0, 1) := by decide +kernel
theorem dX8_perform_80 : decode cX8_perform 80 = .ok (.aload_n 1, 1) := by decide +kernel
theorem dX8_perform_81 : decode cX8_perform 81 = .ok (.invokevirtual 126, 3) := by decide +kernel
theorem dX8_perform_84 : decode cX8_perform 84 = .ok (.istore 4, 2) := by decide +kernel
theorem dX8_perform_86 : decode cX8_perform 86 = .ok (.goto 31, 3) := by decide +kernel
theorem dX8_perform_89 : decode cX8_perform 89 = .ok (.aload_n 0, 1) := by decide +kernel
theorem dX8_perform_90 : decode cX8_perform 90 = .ok (.dup, 1) := by decide +kernel
theorem dX8_perform_91 : decode cX8_perform 91 = .ok (.getfield 25, 3) := by decide +kernel
theorem dX8_perform_94 : decode cX8_perform 94 = .ok (.iconst 1, 1) := by decide +kernel
theorem dX8_perform_95 : decode cX8_perform 95 = .ok (.iadd, 1) := by decide +kernel
theorem dX8_perform_96 : decode cX8_perform 96 = .ok (.putfield 25, 3) := by decide +kernel
theorem dX8_perform_99 : decode cX8_perform 99 = .ok (.iconst 1, 1) := by decide +kernel
theorem dX8_perform_100 : decode cX8_perform 100 = .ok (.istore 4, 2) := by decide +kernel
theorem dX8_perform_102 : decode cX8_perform 102 = .ok (.goto 15, 3) := by decide +kernel
theorem dX8_perform_105 : decode cX8_perform 105 = .ok (.aload_n 0, 1) := by decide +kernel
theorem dX8_perform_106 : decode cX8_perform 106 = .ok (.aload_n 1, 1) := by decide +kernel
theorem dX8_perform_107 : decode cX8_perform 107 = .ok (.invokevirtual 129, 3) := by decide +kernel
theorem dX8_perform_110 : decode cX8_perform 110 = .ok (.istore 4, 2) := by decide +kernel
theorem dX8_perform_112 : decode cX8_perform 112 = .ok (.goto 5, 3) := by decide +kernel
theorem dX8_perform_115 : decode cX8_perform 115 = .ok (.iconst 0, 1) := by decide +kernel
theorem dX8_perform_116 : decode cX8_perform 116 = .ok (.ireturn, 1) := by decide +kernel
theorem dX8_perform_117 : decode cX8_perform 117 = .ok (.iload 4, 2) := by decide +kernel
theorem dX8_perform_119 : decode cX8_perform 119 = .ok (.ifCond .eq 13, 3) := by decide +kernel
theorem dX8_perform_122 : decode cX8_perform 122 = .ok (.aload_n 0, 1) := by decide +kernel
theorem dX8_perform_123 : decode cX8_perform 123 = .ok (.dup, 1) := by decide +kernel
theorem dX8_perform_124 : decode cX8_perform 124 = .ok (.getfield 18, 3) := by decide +kernel
theorem dX8_perform_127 : decode cX8_perform 127 = .ok (.iconst 1, 1) := by decide +kernel
theorem dX8_perform_128 : decode cX8_perform 128 = .ok (.iadd, 1) := by decide +kernel
theorem dX8_perform_129 : decode cX8_perform 129 = .ok (.putfield 18, 3) := by decide +kernel
theorem dX8_perform_132 : decode cX8_perform 132 = .ok (.iload 4, 2) := by decide +kernel
theorem dX8_perform_134 : decode cX8_perform 134 = .ok (.ireturn, 1) := by decide +kernel
theorem dX8_move_0 : decode cX8_move 0 = .ok (.iload_n 1, 1) := by decide +kernel
theorem dX8_move_1 : decode cX8_move 1 = .ok (.invokestatic 108, 3) := by decide +kernel
theorem dX8_move_4 : decode cX8_move 4 = .ok (.ifCond .eq 12, 3) := by decide +kernel
theorem dX8_move_7 : decode cX8_move 7 = .ok (.aload_n 0, 1) := by decide +kernel
theorem dX8_move_8 : decode cX8_move 8 = .ok (.iload_n 1, 1) := by decide +kernel
theorem dX8_move_9 : decode cX8_move 9 = .ok (.invokevirtual 89, 3) := by decide +kernel
theorem dX8_move_12 : decode cX8_move 12 = .ok (.iload_n 2, 1) := by decide +kernel
theorem dX8_move_13 : decode cX8_move 13 = .ok (.if_icmp .eq 5, 3) := by decide +kernel
theorem dX8_move_16 : decode cX8_move 16 = .ok (.iconst 0, 1) := by decide +kernel
theorem dX8_move_17 : decode cX8_move 17 = .ok (.ireturn, 1) := by decide +kernel
theorem dX8_move_18 : decode cX8_move 18 = .ok (.aload_n 0, 1) := by decide +kernel
theorem dX8_move_19 : decode cX8_move 19 = .ok (.dup, 1) := by decide +kernel
theorem dX8_move_20 : decode cX8_move 20 = .ok (.getfield 40, 3) := by decide +kernel
theorem dX8_move_23 : decode cX8_move 23 = .ok (.iconst 1, 1) := by decide +kernel
theorem dX8_move_24 : decode cX8_move 24 = .ok (.iload_n 1, 1) := by decide +kernel
theorem dX8_move_25 : decode cX8_move 25 = .ok (.ishl, 1) := by decide +kernel
theorem dX8_move_26 : decode cX8_move 26 = .ok (.ixor, 1) := by decide +kernel
theorem dX8_move_27 : decode cX8_move 27 = .ok (.putfield 40, 3) := by decide +kernel
theorem dX8_move_30 : decode cX8_move 30 = .ok (.iconst 1, 1) := by decide +kernel
theorem dX8_move_31 : decode cX8_move 31 = .ok (.ireturn, 1) := by decide +kernel
theorem dX8_sayLine_0 : decode cX8_sayLine 0 = .ok (.iload_n 2, 1) := by decide +kernel
theorem dX8_sayLine_1 : decode cX8_sayLine 1 = .ok (.iconst (-1), 1) := by decide +kernel
theorem dX8_sayLine_2 : decode cX8_sayLine 2 = .ok (.if_icmp .eq 16, 3) := by decide +kernel
theorem dX8_sayLine_5 : decode cX8_sayLine 5 = .ok (.iload_n 2, 1) := by decide +kernel
theorem dX8_sayLine_6 : decode cX8_sayLine 6 = .ok (.aload_n 0, 1) := by decide +kernel
theorem dX8_sayLine_7 : decode cX8_sayLine 7 = .ok (.aload_n 1, 1) := by decide +kernel
theorem dX8_sayLine_8 : decode cX8_sayLine 8 = .ok (.invokevirtual 93, 3) := by decide +kernel
theorem dX8_sayLine_11 : decode cX8_sayLine 11 = .ok (.if_icmp .ne 7, 3) := by decide +kernel
theorem dX8_sayLine_14 : decode cX8_sayLine 14 = .ok (.iconst 1, 1) := by decide +kernel
theorem dX8_sayLine_15 : decode cX8_sayLine 15 = .ok (.goto 4, 3) := by decide +kernel
theorem dX8_sayLine_18 : decode cX8_sayLine 18 = .ok (.iconst 0, 1) := by decide +kernel
theorem dX8_sayLine_19 : decode cX8_sayLine 19 = .ok (.istore_n 3, 1) := by decide +kernel
theorem dX8_sayLine_20 : decode cX8_sayLine 20 = .ok (.iload_n 3, 1) := by decide +kernel
theorem dX8_sayLine_21 : decode cX8_sayLine 21 = .ok (.ifCond .ne 15, 3) := by decide +kernel
theorem dX8_sayLine_24 : decode cX8_sayLine 24 = .ok (.aload_n 1, 1) := by decide +kernel
theorem dX8_sayLine_25 : decode cX8_sayLine 25 = .ok (.aload_n 0, 1) := by decide +kernel
theorem dX8_sayLine_26 : decode cX8_sayLine 26 = .ok (.getfield 22, 3) := by decide +kernel
theorem dX8_sayLine_29 : decode cX8_sayLine 29 = .ok (.iload_n 2, 1) := by decide +kernel
theorem dX8_sayLine_30 : decode cX8_sayLine 30 = .ok (.invokevirtual 132, 3) := by decide +kernel
theorem dX8_sayLine_33 : decode cX8_sayLine 33 = .ok (.ifCond .eq 15, 3) := by decide +kernel
theorem dX8_sayLine_36 : decode cX8_sayLine 36 = .ok (.aload_n 0, 1) := by decide +kernel
theorem dX8_sayLine_37 : decode cX8_sayLine 37 = .ok (.aload_n 1, 1) := by decide +kernel
theorem dX8_sayLine_38 : decode cX8_sayLine 38 = .ok (.iload_n 2, 1) := by decide +kernel
theorem dX8_sayLine_39 : decode cX8_sayLine 39 = .ok (.invokevirtual 136, 3) := by decide +kernel
theorem dX8_sayLine_42 : decode cX8_sayLine 42 = .ok (.invokevirtual 89, 3) := by decide +kernel
theorem dX8_sayLine_45 : decode cX8_sayLine 45 = .ok (.ifCond .ne 5, 3) := by decide +kernel
theorem dX8_sayLine_48 : decode cX8_sayLine 48 = .ok (.iconst 0, 1) := by decide +kernel
theorem dX8_sayLine_49 : decode cX8_sayLine 49 = .ok (.ireturn, 1) := by decide +kernel
theorem dX8_sayLine_50 : decode cX8_sayLine 50 = .ok (.iload_n 3, 1) := by decide +kernel
theorem dX8_sayLine_51 : decode cX8_sayLine 51 = .ok (.ifCond .ne 13, 3) := by decide +kernel
theorem dX8_sayLine_54 : decode cX8_sayLine 54 = .ok (.aload_n 0, 1) := by decide +kernel
theorem dX8_sayLine_55 : decode cX8_sayLine 55 = .ok (.dup, 1) := by decide +kernel
theorem dX8_sayLine_56 : decode cX8_sayLine 56 = .ok (.getfield 31, 3) := by decide +kernel
theorem dX8_sayLine_59 : decode cX8_sayLine 59 = .ok (.iconst 1, 1) := by decide +kernel
theorem dX8_sayLine_60 : decode cX8_sayLine 60 = .ok (.iadd, 1) := by decide +kernel
theorem dX8_sayLine_61 : decode cX8_sayLine 61 = .ok (.putfield 31, 3) := by decide +kernel
theorem dX8_sayLine_64 : decode cX8_sayLine 64 = .ok (.aload_n 0, 1) := by decide +kernel
theorem dX8_sayLine_65 : decode cX8_sayLine 65 = .ok (.aload_n 1, 1) := by decide +kernel
theorem dX8_sayLine_66 : decode cX8_sayLine 66 = .ok (.iload_n 2, 1) := by decide +kernel
theorem dX8_sayLine_67 : decode cX8_sayLine 67 = .ok (.invokevirtual 139, 3) := by decide +kernel
theorem dX8_sayLine_70 : decode cX8_sayLine 70 = .ok (.iconst 1, 1) := by decide +kernel
theorem dX8_sayLine_71 : decode cX8_sayLine 71 = .ok (.ireturn, 1) := by decide +kernel
theorem dX8_speak_0 : decode cX8_speak 0 = .ok (.aload_n 1, 1) := by decide +kernel
theorem dX8_speak_1 : decode cX8_speak 1 = .ok (.iload_n 2, 1) := by decide +kernel
theorem dX8_speak_2 : decode cX8_speak 2 = .ok (.invokevirtual 136, 3) := by decide +kernel
theorem dX8_speak_5 : decode cX8_speak 5 = .ok (.istore_n 3, 1) := by decide +kernel
theorem dX8_speak_6 : decode cX8_speak 6 = .ok (.iload_n 3, 1) := by decide +kernel
theorem dX8_speak_7 : decode cX8_speak 7 = .ok (.invokestatic 108, 3) := by decide +kernel
theorem dX8_speak_10 : decode cX8_speak 10 = .ok (.ifCond .eq 13, 3) := by decide +kernel
theorem dX8_speak_13 : decode cX8_speak 13 = .ok (.aload_n 0, 1) := by decide +kernel
theorem dX8_speak_14 : decode cX8_speak 14 = .ok (.getfield 9, 3) := by decide +kernel
theorem dX8_speak_17 : decode cX8_speak 17 = .ok (.iload_n 3, 1) := by decide +kernel
theorem dX8_speak_18 : decode cX8_speak 18 = .ok (.dup2, 1) := by decide +kernel
theorem dX8_speak_19 : decode cX8_speak 19 = .ok (.iaload, 1) := by decide +kernel
theorem dX8_speak_20 : decode cX8_speak 20 = .ok (.iconst 1, 1) := by decide +kernel
theorem dX8_speak_21 : decode cX8_speak 21 = .ok (.iadd, 1) := by decide +kernel
theorem dX8_speak_22 : decode cX8_speak 22 = .ok (.iastore, 1) := by decide +kernel
theorem dX8_speak_23 : decode cX8_speak 23 = .ok (.aload_n 0, 1) := by decide +kernel
theorem dX8_speak_24 : decode cX8_speak 24 = .ok (.dup, 1) := by decide +kernel
theorem dX8_speak_25 : decode cX8_speak 25 = .ok (.getfield 28, 3) := by decide +kernel
theorem dX8_speak_28 : decode cX8_speak 28 = .ok (.aload_n 1, 1) := by decide +kernel
theorem dX8_speak_29 : decode cX8_speak 29 = .ok (.iload_n 2, 1) := by decide +kernel
theorem dX8_speak_30 : decode cX8_speak 30 = .ok (.invokevirtual 143, 3) := by decide +kernel
theorem dX8_speak_33 : decode cX8_speak 33 = .ok (.iadd, 1) := by decide +kernel
theorem dX8_speak_34 : decode cX8_speak 34 = .ok (.putfield 28, 3) := by decide +kernel
theorem dX8_speak_37 : decode cX8_speak 37 = .ok (.aload_n 0, 1) := by decide +kernel
theorem dX8_speak_38 : decode cX8_speak 38 = .ok (.iload_n 2, 1) := by decide +kernel
theorem dX8_speak_39 : decode cX8_speak 39 = .ok (.putfield 22, 3) := by decide +kernel
theorem dX8_speak_42 : decode cX8_speak 42 = .ok (.aload_n 0, 1) := by decide +kernel
theorem dX8_speak_43 : decode cX8_speak 43 = .ok (.iconst 0, 1) := by decide +kernel
theorem dX8_speak_44 : decode cX8_speak 44 = .ok (.putfield 25, 3) := by decide +kernel
theorem dX8_speak_47 : decode cX8_speak 47 = .ok (.return_, 1) := by decide +kernel
theorem dX8_dryUp_0 : decode cX8_dryUp 0 = .ok (.aload_n 1, 1) := by decide +kernel
theorem dX8_dryUp_1 : decode cX8_dryUp 1 = .ok (.aload_n 0, 1) := by decide +kernel
theorem dX8_dryUp_2 : decode cX8_dryUp 2 = .ok (.aload_n 1, 1) := by decide +kernel
theorem dX8_dryUp_3 : decode cX8_dryUp 3 = .ok (.invokevirtual 93, 3) := by decide +kernel
theorem dX8_dryUp_6 : decode cX8_dryUp 6 = .ok (.invokevirtual 136, 3) := by decide +kernel
theorem dX8_dryUp_9 : decode cX8_dryUp 9 = .ok (.istore_n 2, 1) := by decide +kernel
theorem dX8_dryUp_10 : decode cX8_dryUp 10 = .ok (.iload_n 2, 1) := by decide +kernel
theorem dX8_dryUp_11 : decode cX8_dryUp 11 = .ok (.invokestatic 108, 3) := by decide +kernel
theorem dX8_dryUp_14 : decode cX8_dryUp 14 = .ok (.ifCond .eq 11, 3) := by decide +kernel
theorem dX8_dryUp_17 : decode cX8_dryUp 17 = .ok (.aload_n 0, 1) := by decide +kernel
theorem dX8_dryUp_18 : decode cX8_dryUp 18 = .ok (.iload_n 2, 1) := by decide +kernel
theorem dX8_dryUp_19 : decode cX8_dryUp 19 = .ok (.invokevirtual 89, 3) := by decide +kernel
theorem dX8_dryUp_22 : decode cX8_dryUp 22 = .ok (.ifCond .ne 5, 3) := by decide +kernel
theorem dX8_dryUp_25 : decode cX8_dryUp 25 = .ok (.iconst 0, 1) := by decide +kernel
theorem dX8_dryUp_26 : decode cX8_dryUp 26 = .ok (.ireturn, 1) := by decide +kernel
theorem dX8_dryUp_27 : decode cX8_dryUp 27 = .ok (.aload_n 0, 1) := by decide +kernel
theorem dX8_dryUp_28 : decode cX8_dryUp 28 = .ok (.getfield 15, 3) := by decide +kernel
theorem dX8_dryUp_31 : decode cX8_dryUp 31 = .ok (.iload_n 2, 1) := by decide +kernel
theorem dX8_dryUp_32 : decode cX8_dryUp 32 = .ok (.dup2, 1) := by decide +kernel
