theorem dX8_dryUp_33 : decode cX8_dryUp 33 = .ok (.iaload, 1) := by decide +kernel
theorem dX8_dryUp_34 : decode cX8_dryUp 34 = .ok (.iconst 1, 1) := by decide +kernel
theorem dX8_dryUp_35 : decode cX8_dryUp 35 = .ok (.iadd, 1) := by decide +kernel
theorem dX8_dryUp_36 : decode cX8_dryUp 36 = .ok (.iastore, 1) := by decide +kernel
theorem dX8_dryUp_37 : decode cX8_dryUp 37 = .ok (.aload_n 0, 1) := by decide +kernel
theorem dX8_dryUp_38 : decode cX8_dryUp 38 = .ok (.dup, 1) := by decide +kernel
theorem dX8_dryUp_39 : decode cX8_dryUp 39 = .ok (.getfield 25, 3) := by decide +kernel
theorem dX8_dryUp_42 : decode cX8_dryUp 42 = .ok (.iconst 1, 1) := by decide +kernel
theorem dX8_dryUp_43 : decode cX8_dryUp 43 = .ok (.iadd, 1) := by decide +kernel
theorem dX8_dryUp_44 : decode cX8_dryUp 44 = .ok (.putfield 25, 3) := by decide +kernel
theorem dX8_dryUp_47 : decode cX8_dryUp 47 = .ok (.iconst 1, 1) := by decide +kernel
theorem dX8_dryUp_48 : decode cX8_dryUp 48 = .ok (.ireturn, 1) := by decide +kernel
theorem dX8_promptDue_0 : decode cX8_promptDue 0 = .ok (.aload_n 0, 1) := by decide +kernel
theorem dX8_promptDue_1 : decode cX8_promptDue 1 = .ok (.aload_n 1, 1) := by decide +kernel
theorem dX8_promptDue_2 : decode cX8_promptDue 2 = .ok (.invokevirtual 93, 3) := by decide +kernel
theorem dX8_promptDue_5 : decode cX8_promptDue 5 = .ok (.istore_n 2, 1) := by decide +kernel
theorem dX8_promptDue_6 : decode cX8_promptDue 6 = .ok (.aload_n 0, 1) := by decide +kernel
theorem dX8_promptDue_7 : decode cX8_promptDue 7 = .ok (.getfield 25, 3) := by decide +kernel
theorem dX8_promptDue_10 : decode cX8_promptDue 10 = .ok (.ifCond .eq 15, 3) := by decide +kernel
theorem dX8_promptDue_13 : decode cX8_promptDue 13 = .ok (.aload_n 0, 1) := by decide +kernel
theorem dX8_promptDue_14 : decode cX8_promptDue 14 = .ok (.aload_n 1, 1) := by decide +kernel
theorem dX8_promptDue_15 : decode cX8_promptDue 15 = .ok (.iload_n 2, 1) := by decide +kernel
theorem dX8_promptDue_16 : decode cX8_promptDue 16 = .ok (.invokevirtual 136, 3) := by decide +kernel
theorem dX8_promptDue_19 : decode cX8_promptDue 19 = .ok (.invokevirtual 89, 3) := by decide +kernel
theorem dX8_promptDue_22 : decode cX8_promptDue 22 = .ok (.ifCond .ne 5, 3) := by decide +kernel
theorem dX8_promptDue_25 : decode cX8_promptDue 25 = .ok (.iconst 0, 1) := by decide +kernel
theorem dX8_promptDue_26 : decode cX8_promptDue 26 = .ok (.ireturn, 1) := by decide +kernel
theorem dX8_promptDue_27 : decode cX8_promptDue 27 = .ok (.aload_n 0, 1) := by decide +kernel
theorem dX8_promptDue_28 : decode cX8_promptDue 28 = .ok (.dup, 1) := by decide +kernel
theorem dX8_promptDue_29 : decode cX8_promptDue 29 = .ok (.getfield 34, 3) := by decide +kernel
theorem dX8_promptDue_32 : decode cX8_promptDue 32 = .ok (.iconst 1, 1) := by decide +kernel
theorem dX8_promptDue_33 : decode cX8_promptDue 33 = .ok (.iadd, 1) := by decide +kernel
theorem dX8_promptDue_34 : decode cX8_promptDue 34 = .ok (.putfield 34, 3) := by decide +kernel
theorem dX8_promptDue_37 : decode cX8_promptDue 37 = .ok (.aload_n 0, 1) := by decide +kernel
theorem dX8_promptDue_38 : decode cX8_promptDue 38 = .ok (.aload_n 1, 1) := by decide +kernel
theorem dX8_promptDue_39 : decode cX8_promptDue 39 = .ok (.iload_n 2, 1) := by decide +kernel
theorem dX8_promptDue_40 : decode cX8_promptDue 40 = .ok (.invokevirtual 139, 3) := by decide +kernel
theorem dX8_promptDue_43 : decode cX8_promptDue 43 = .ok (.iconst 1, 1) := by decide +kernel
theorem dX8_promptDue_44 : decode cX8_promptDue 44 = .ok (.ireturn, 1) := by decide +kernel
theorem dX8_cutDue_0 : decode cX8_cutDue 0 = .ok (.aload_n 0, 1) := by decide +kernel
theorem dX8_cutDue_1 : decode cX8_cutDue 1 = .ok (.aload_n 1, 1) := by decide +kernel
theorem dX8_cutDue_2 : decode cX8_cutDue 2 = .ok (.invokevirtual 93, 3) := by decide +kernel
theorem dX8_cutDue_5 : decode cX8_cutDue 5 = .ok (.istore_n 2, 1) := by decide +kernel
theorem dX8_cutDue_6 : decode cX8_cutDue 6 = .ok (.iload_n 2, 1) := by decide +kernel
theorem dX8_cutDue_7 : decode cX8_cutDue 7 = .ok (.iconst (-1), 1) := by decide +kernel
theorem dX8_cutDue_8 : decode cX8_cutDue 8 = .ok (.if_icmp .eq 26, 3) := by decide +kernel
theorem dX8_cutDue_11 : decode cX8_cutDue 11 = .ok (.aload_n 0, 1) := by decide +kernel
theorem dX8_cutDue_12 : decode cX8_cutDue 12 = .ok (.getfield 25, 3) := by decide +kernel
theorem dX8_cutDue_15 : decode cX8_cutDue 15 = .ok (.aload_n 1, 1) := by decide +kernel
theorem dX8_cutDue_16 : decode cX8_cutDue 16 = .ok (.getfield 145, 3) := by decide +kernel
theorem dX8_cutDue_19 : decode cX8_cutDue 19 = .ok (.if_icmp .ge 17, 3) := by decide +kernel
theorem dX8_cutDue_22 : decode cX8_cutDue 22 = .ok (.aload_n 0, 1) := by decide +kernel
theorem dX8_cutDue_23 : decode cX8_cutDue 23 = .ok (.aload_n 1, 1) := by decide +kernel
theorem dX8_cutDue_24 : decode cX8_cutDue 24 = .ok (.iload_n 2, 1) := by decide +kernel
theorem dX8_cutDue_25 : decode cX8_cutDue 25 = .ok (.invokevirtual 136, 3) := by decide +kernel
theorem dX8_cutDue_28 : decode cX8_cutDue 28 = .ok (.invokevirtual 89, 3) := by decide +kernel
theorem dX8_cutDue_31 : decode cX8_cutDue 31 = .ok (.ifCond .eq 5, 3) := by decide +kernel
theorem dX8_cutDue_34 : decode cX8_cutDue 34 = .ok (.iconst 0, 1) := by decide +kernel
theorem dX8_cutDue_35 : decode cX8_cutDue 35 = .ok (.ireturn, 1) := by decide +kernel
theorem dX8_cutDue_36 : decode cX8_cutDue 36 = .ok (.aload_n 0, 1) := by decide +kernel
theorem dX8_cutDue_37 : decode cX8_cutDue 37 = .ok (.dup, 1) := by decide +kernel
theorem dX8_cutDue_38 : decode cX8_cutDue 38 = .ok (.getfield 37, 3) := by decide +kernel
theorem dX8_cutDue_41 : decode cX8_cutDue 41 = .ok (.iconst 1, 1) := by decide +kernel
theorem dX8_cutDue_42 : decode cX8_cutDue 42 = .ok (.iadd, 1) := by decide +kernel
theorem dX8_cutDue_43 : decode cX8_cutDue 43 = .ok (.putfield 37, 3) := by decide +kernel
theorem dX8_cutDue_46 : decode cX8_cutDue 46 = .ok (.aload_n 0, 1) := by decide +kernel
theorem dX8_cutDue_47 : decode cX8_cutDue 47 = .ok (.iload_n 2, 1) := by decide +kernel
theorem dX8_cutDue_48 : decode cX8_cutDue 48 = .ok (.putfield 22, 3) := by decide +kernel
theorem dX8_cutDue_51 : decode cX8_cutDue 51 = .ok (.aload_n 0, 1) := by decide +kernel
theorem dX8_cutDue_52 : decode cX8_cutDue 52 = .ok (.iconst 0, 1) := by decide +kernel
theorem dX8_cutDue_53 : decode cX8_cutDue 53 = .ok (.putfield 25, 3) := by decide +kernel
theorem dX8_cutDue_56 : decode cX8_cutDue 56 = .ok (.iconst 1, 1) := by decide +kernel
theorem dX8_cutDue_57 : decode cX8_cutDue 57 = .ok (.ireturn, 1) := by decide +kernel
theorem dX8_show_0 : decode cX8_show 0 = .ok (.iload_n 2, 1) := by decide +kernel
theorem dX8_show_1 : decode cX8_show 1 = .ok (.bipush 10, 2) := by decide +kernel
theorem dX8_show_3 : decode cX8_show 3 = .ok (.if_icmp .lt 19, 3) := by decide +kernel
theorem dX8_show_6 : decode cX8_show 6 = .ok (.iload_n 2, 1) := by decide +kernel
theorem dX8_show_7 : decode cX8_show 7 = .ok (.bipush 16, 2) := by decide +kernel
theorem dX8_show_9 : decode cX8_show 9 = .ok (.if_icmp .ge 13, 3) := by decide +kernel
theorem dX8_show_12 : decode cX8_show 12 = .ok (.aload_n 0, 1) := by decide +kernel
theorem dX8_show_13 : decode cX8_show 13 = .ok (.getfield 9, 3) := by decide +kernel
theorem dX8_show_16 : decode cX8_show 16 = .ok (.iload_n 2, 1) := by decide +kernel
theorem dX8_show_17 : decode cX8_show 17 = .ok (.bipush 10, 2) := by decide +kernel
theorem dX8_show_19 : decode cX8_show 19 = .ok (.isub, 1) := by decide +kernel
theorem dX8_show_20 : decode cX8_show 20 = .ok (.iaload, 1) := by decide +kernel
theorem dX8_show_21 : decode cX8_show 21 = .ok (.ireturn, 1) := by decide +kernel
theorem dX8_show_22 : decode cX8_show 22 = .ok (.iload_n 2, 1) := by decide +kernel
theorem dX8_show_23 : decode cX8_show 23 = .ok (.bipush 20, 2) := by decide +kernel
theorem dX8_show_25 : decode cX8_show 25 = .ok (.if_icmp .lt 19, 3) := by decide +kernel
theorem dX8_show_28 : decode cX8_show 28 = .ok (.iload_n 2, 1) := by decide +kernel
theorem dX8_show_29 : decode cX8_show 29 = .ok (.bipush 26, 2) := by decide +kernel
theorem dX8_show_31 : decode cX8_show 31 = .ok (.if_icmp .ge 13, 3) := by decide +kernel
theorem dX8_show_34 : decode cX8_show 34 = .ok (.aload_n 0, 1) := by decide +kernel
theorem dX8_show_35 : decode cX8_show 35 = .ok (.getfield 15, 3) := by decide +kernel
theorem dX8_show_38 : decode cX8_show 38 = .ok (.iload_n 2, 1) := by decide +kernel
theorem dX8_show_39 : decode cX8_show 39 = .ok (.bipush 20, 2) := by decide +kernel
theorem dX8_show_41 : decode cX8_show 41 = .ok (.isub, 1) := by decide +kernel
theorem dX8_show_42 : decode cX8_show 42 = .ok (.iaload, 1) := by decide +kernel
theorem dX8_show_43 : decode cX8_show 43 = .ok (.ireturn, 1) := by decide +kernel
theorem dX8_show_44 : decode cX8_show 44 = .ok (.iload_n 2, 1) := by decide +kernel
theorem dX8_show_45 : decode cX8_show 45 = .ok (.tableswitch 107 0 9 #[55, 60, 65, 71, 76, 81, 86, 92, 97, 102], 55) := by decide +kernel
theorem dX8_show_100 : decode cX8_show 100 = .ok (.aload_n 0, 1) := by decide +kernel
theorem dX8_show_101 : decode cX8_show 101 = .ok (.getfield 18, 3) := by decide +kernel
theorem dX8_show_104 : decode cX8_show 104 = .ok (.ireturn, 1) := by decide +kernel
theorem dX8_show_105 : decode cX8_show 105 = .ok (.aload_n 0, 1) := by decide +kernel
theorem dX8_show_106 : decode cX8_show 106 = .ok (.getfield 22, 3) := by decide +kernel
theorem dX8_show_109 : decode cX8_show 109 = .ok (.ireturn, 1) := by decide +kernel
theorem dX8_show_110 : decode cX8_show 110 = .ok (.aload_n 0, 1) := by decide +kernel
theorem dX8_show_111 : decode cX8_show 111 = .ok (.aload_n 1, 1) := by decide +kernel
theorem dX8_show_112 : decode cX8_show 112 = .ok (.invokevirtual 93, 3) := by decide +kernel
theorem dX8_show_115 : decode cX8_show 115 = .ok (.ireturn, 1) := by decide +kernel
theorem dX8_show_116 : decode cX8_show 116 = .ok (.aload_n 0, 1) := by decide +kernel
theorem dX8_show_117 : decode cX8_show 117 = .ok (.getfield 25, 3) := by decide +kernel
theorem dX8_show_120 : decode cX8_show 120 = .ok (.ireturn, 1) := by decide +kernel
theorem dX8_show_121 : decode cX8_show 121 = .ok (.aload_n 0, 1) := by decide +kernel
theorem dX8_show_122 : decode cX8_show 122 = .ok (.getfield 28, 3) := by decide +kernel
theorem dX8_show_125 : decode cX8_show 125 = .ok (.ireturn, 1) := by decide +kernel
theorem dX8_show_126 : decode cX8_show 126 = .ok (.aload_n 0, 1) := by decide +kernel
theorem dX8_show_127 : decode cX8_show 127 = .ok (.getfield 31, 3) := by decide +kernel
theorem dX8_show_130 : decode cX8_show 130 = .ok (.ireturn, 1) := by decide +kernel
theorem dX8_show_131 : decode cX8_show 131 = .ok (.aload_n 0, 1) := by decide +kernel
theorem dX8_show_132 : decode cX8_show 132 = .ok (.aload_n 1, 1) := by decide +kernel
theorem dX8_show_133 : decode cX8_show 133 = .ok (.invokevirtual 72, 3) := by decide +kernel
theorem dX8_show_136 : decode cX8_show 136 = .ok (.ireturn, 1) := by decide +kernel
theorem dX8_show_137 : decode cX8_show 137 = .ok (.aload_n 0, 1) := by decide +kernel
theorem dX8_show_138 : decode cX8_show 138 = .ok (.getfield 34, 3) := by decide +kernel
theorem dX8_show_141 : decode cX8_show 141 = .ok (.ireturn, 1) := by decide +kernel
theorem dX8_show_142 : decode cX8_show 142 = .ok (.aload_n 0, 1) := by decide +kernel
theorem dX8_show_143 : decode cX8_show 143 = .ok (.getfield 37, 3) := by decide +kernel
theorem dX8_show_146 : decode cX8_show 146 = .ok (.ireturn, 1) := by decide +kernel
theorem dX8_show_147 : decode cX8_show 147 = .ok (.aload_n 0, 1) := by decide +kernel
theorem dX8_show_148 : decode cX8_show 148 = .ok (.getfield 40, 3) := by decide +kernel
theorem dX8_show_151 : decode cX8_show 151 = .ok (.ireturn, 1) := by decide +kernel
theorem dX8_show_152 : decode cX8_show 152 = .ok (.bipush (-2), 2) := by decide +kernel
theorem dX8_show_154 : decode cX8_show 154 = .ok (.ireturn, 1) := by decide +kernel
theorem dX9_init_0 : decode cX9_init 0 = .ok (.aload_n 0, 1) := by decide +kernel
theorem dX9_init_1 : decode cX9_init 1 = .ok (.invokespecial 3, 3) := by decide +kernel
theorem dX9_init_4 : decode cX9_init 4 = .ok (.aload_n 0, 1) := by decide +kernel
theorem dX9_init_5 : decode cX9_init 5 = .ok (.sipush 600, 3) := by decide +kernel
theorem dX9_init_8 : decode cX9_init 8 = .ok (.newarray .byte, 2) := by decide +kernel
theorem dX9_init_10 : decode cX9_init 10 = .ok (.putfield 11, 3) := by decide +kernel
theorem dX9_init_13 : decode cX9_init 13 = .ok (.aload_n 0, 1) := by decide +kernel
theorem dX9_init_14 : decode cX9_init 14 = .ok (.iconst 4, 1) := by decide +kernel
theorem dX9_init_15 : decode cX9_init 15 = .ok (.newarray .int, 2) := by decide +kernel
theorem dX9_init_17 : decode cX9_init 17 = .ok (.putfield 15, 3) := by decide +kernel
theorem dX9_init_20 : decode cX9_init 20 = .ok (.aload_n 0, 1) := by decide +kernel
theorem dX9_init_21 : decode cX9_init 21 = .ok (.iconst 2, 1) := by decide +kernel
theorem dX9_init_22 : decode cX9_init 22 = .ok (.anewarray 19, 3) := by decide +kernel
theorem dX9_init_25 : decode cX9_init 25 = .ok (.putfield 21, 3) := by decide +kernel
theorem dX9_init_28 : decode cX9_init 28 = .ok (.aload_n 0, 1) := by decide +kernel
theorem dX9_init_29 : decode cX9_init 29 = .ok (.iconst 2, 1) := by decide +kernel
theorem dX9_init_30 : decode cX9_init 30 = .ok (.anewarray 25, 3) := by decide +kernel
theorem dX9_init_33 : decode cX9_init 33 = .ok (.putfield 27, 3) := by decide +kernel
theorem dX9_init_36 : decode cX9_init 36 = .ok (.aload_n 0, 1) := by decide +kernel
theorem dX9_init_37 : decode cX9_init 37 = .ok (.iconst 2, 1) := by decide +kernel
theorem dX9_init_38 : decode cX9_init 38 = .ok (.anewarray 31, 3) := by decide +kernel
theorem dX9_init_41 : decode cX9_init 41 = .ok (.putfield 33, 3) := by decide +kernel
theorem dX9_init_44 : decode cX9_init 44 = .ok (.aload_n 0, 1) := by decide +kernel
theorem dX9_init_45 : decode cX9_init 45 = .ok (.iconst 2, 1) := by decide +kernel
theorem dX9_init_46 : decode cX9_init 46 = .ok (.anewarray 37, 3) := by decide +kernel
theorem dX9_init_49 : decode cX9_init 49 = .ok (.putfield 39, 3) := by decide +kernel
theorem dX9_init_52 : decode cX9_init 52 = .ok (.aload_n 0, 1) := by decide +kernel
theorem dX9_init_53 : decode cX9_init 53 = .ok (.iconst (-1), 1) := by decide +kernel
theorem dX9_init_54 : decode cX9_init 54 = .ok (.putfield 43, 3) := by decide +kernel
theorem dX9_init_57 : decode cX9_init 57 = .ok (.iconst 0, 1) := by decide +kernel
theorem dX9_init_58 : decode cX9_init 58 = .ok (.istore_n 1, 1) := by decide +kernel
theorem dX9_init_59 : decode cX9_init 59 = .ok (.iload_n 1, 1) := by decide +kernel
theorem dX9_init_60 : decode cX9_init 60 = .ok (.iconst 2, 1) := by decide +kernel
theorem dX9_init_61 : decode cX9_init 61 = .ok (.if_icmp .ge 61, 3) := by decide +kernel
theorem dX9_init_64 : decode cX9_init 64 = .ok (.aload_n 0, 1) := by decide +kernel
theorem dX9_init_65 : decode cX9_init 65 = .ok (.getfield 21, 3) := by decide +kernel
theorem dX9_init_68 : decode cX9_init 68 = .ok (.iload_n 1, 1) := by decide +kernel
theorem dX9_init_69 : decode cX9_init 69 = .ok (.new 19, 3) := by decide +kernel
theorem dX9_init_72 : decode cX9_init 72 = .ok (.dup, 1) := by decide +kernel
theorem dX9_init_73 : decode cX9_init 73 = .ok (.invokespecial 47, 3) := by decide +kernel
theorem dX9_init_76 : decode cX9_init 76 = .ok (.aastore, 1) := by decide +kernel
theorem dX9_init_77 : decode cX9_init 77 = .ok (.aload_n 0, 1) := by decide +kernel
theorem dX9_init_78 : decode cX9_init 78 = .ok (.getfield 27, 3) := by decide +kernel
theorem dX9_init_81 : decode cX9_init 81 = .ok (.iload_n 1, 1) := by decide +kernel
theorem dX9_init_82 : decode cX9_init 82 = .ok (.new 25, 3) := by decide +kernel
theorem dX9_init_85 : decode cX9_init 85 = .ok (.dup, 1) := by decide +kernel
theorem dX9_init_86 : decode cX9_init 86 = .ok (.invokespecial 48, 3) := by decide +kernel
theorem dX9_init_89 : decode cX9_init 89 = .ok (.aastore, 1) := by decide +kernel
theorem dX9_init_90 : decode cX9_init 90 = .ok (.aload_n 0, 1) := by decide +kernel
theorem dX9_init_91 : decode cX9_init 91 = .ok (.getfield 33, 3) := by decide +kernel
theorem dX9_init_94 : decode cX9_init 94 = .ok (.iload_n 1, 1) := by decide +kernel
theorem dX9_init_95 : decode cX9_init 95 = .ok (.new 31, 3) := by decide +kernel
theorem dX9_init_98 : decode cX9_init 98 = .ok (.dup, 1) := by decide +kernel
theorem dX9_init_99 : decode cX9_init 99 = .ok (.invokespecial 49, 3) := by decide +kernel
theorem dX9_init_102 : decode cX9_init 102 = .ok (.aastore, 1) := by decide +kernel
theorem dX9_init_103 : decode cX9_init 103 = .ok (.aload_n 0, 1) := by decide +kernel
theorem dX9_init_104 : decode cX9_init 104 = .ok (.getfield 39, 3) := by decide +kernel
theorem dX9_init_107 : decode cX9_init 107 = .ok (.iload_n 1, 1) := by decide +kernel
theorem dX9_init_108 : decode cX9_init 108 = .ok (.new 37, 3) := by decide +kernel
theorem dX9_init_111 : decode cX9_init 111 = .ok (.dup, 1) := by decide +kernel
theorem dX9_init_112 : decode cX9_init 112 = .ok (.invokespecial 50, 3) := by decide +kernel
theorem dX9_init_115 : decode cX9_init 115 = .ok (.aastore, 1) := by decide +kernel
theorem dX9_init_116 : decode cX9_init 116 = .ok (.iinc 1 1, 3) := by decide +kernel
theorem dX9_init_119 : decode cX9_init 119 = .ok (.goto (-60), 3) := by decide +kernel
theorem dX9_init_122 : decode cX9_init 122 = .ok (.return_, 1) := by decide +kernel
theorem dX9_addNumber_0 : decode cX9_addNumber 0 = .ok (.bipush 24, 2) := by decide +kernel
theorem dX9_addNumber_2 : decode cX9_addNumber 2 = .ok (.istore_n 2, 1) := by decide +kernel
theorem dX9_addNumber_3 : decode cX9_addNumber 3 = .ok (.iload_n 2, 1) := by decide +kernel
theorem dX9_addNumber_4 : decode cX9_addNumber 4 = .ok (.ifCond .lt 42, 3) := by decide +kernel
theorem dX9_addNumber_7 : decode cX9_addNumber 7 = .ok (.aload_n 0, 1) := by decide +kernel
theorem dX9_addNumber_8 : decode cX9_addNumber 8 = .ok (.getfield 51, 3) := by decide +kernel
theorem dX9_addNumber_11 : decode cX9_addNumber 11 = .ok (.sipush 600, 3) := by decide +kernel
theorem dX9_addNumber_14 : decode cX9_addNumber 14 = .ok (.if_icmp .ge 32, 3) := by decide +kernel
theorem dX9_addNumber_17 : decode cX9_addNumber 17 = .ok (.aload_n 0, 1) := by decide +kernel
theorem dX9_addNumber_18 : decode cX9_addNumber 18 = .ok (.getfield 11, 3) := by decide +kernel
theorem dX9_addNumber_21 : decode cX9_addNumber 21 = .ok (.aload_n 0, 1) := by decide +kernel
theorem dX9_addNumber_22 : decode cX9_addNumber 22 = .ok (.getfield 51, 3) := by decide +kernel
theorem dX9_addNumber_25 : decode cX9_addNumber 25 = .ok (.iload_n 1, 1) := by decide +kernel
theorem dX9_addNumber_26 : decode cX9_addNumber 26 = .ok (.iload_n 2, 1) := by decide +kernel
theorem dX9_addNumber_27 : decode cX9_addNumber 27 = .ok (.iushr, 1) := by decide +kernel
theorem dX9_addNumber_28 : decode cX9_addNumber 28 = .ok (.i2b, 1) := by decide +kernel
theorem dX9_addNumber_29 : decode cX9_addNumber 29 = .ok (.bastore, 1) := by decide +kernel
theorem dX9_addNumber_30 : decode cX9_addNumber 30 = .ok (.aload_n 0, 1) := by decide +kernel
theorem dX9_addNumber_31 : decode cX9_addNumber 31 = .ok (.dup, 1) := by decide +kernel
theorem dX9_addNumber_32 : decode cX9_addNumber 32 = .ok (.getfield 51, 3) := by decide +kernel
theorem dX9_addNumber_35 : decode cX9_addNumber 35 = .ok (.iconst 1, 1) := by decide +kernel
theorem dX9_addNumber_36 : decode cX9_addNumber 36 = .ok (.iadd, 1) := by decide +kernel
theorem dX9_addNumber_37 : decode cX9_addNumber 37 = .ok (.putfield 51, 3) := by decide +kernel
theorem dX9_addNumber_40 : decode cX9_addNumber 40 = .ok (.iinc 2 (-8), 3) := by decide +kernel
theorem dX9_addNumber_43 : decode cX9_addNumber 43 = .ok (.goto (-40), 3) := by decide +kernel
theorem dX9_addNumber_46 : decode cX9_addNumber 46 = .ok (.return_, 1) := by decide +kernel
theorem dX9_byteAt_0 : decode cX9_byteAt 0 = .ok (.iload_n 1, 1) := by decide +kernel
theorem dX9_byteAt_1 : decode cX9_byteAt 1 = .ok (.ifCond .lt 31, 3) := by decide +kernel
theorem dX9_byteAt_4 : decode cX9_byteAt 4 = .ok (.iload_n 1, 1) := by decide +kernel
theorem dX9_byteAt_5 : decode cX9_byteAt 5 = .ok (.aload_n 0, 1) := by decide +kernel
theorem dX9_byteAt_6 : decode cX9_byteAt 6 = .ok (.getfield 51, 3) := by decide +kernel
theorem dX9_byteAt_9 : decode cX9_byteAt 9 = .ok (.if_icmp .ge 23, 3) := by decide +kernel
theorem dX9_byteAt_12 : decode cX9_byteAt 12 = .ok (.iload_n 1, 1) := by decide +kernel
theorem dX9_byteAt_13 : decode cX9_byteAt 13 = .ok (.sipush 600, 3) := by decide +kernel
theorem dX9_byteAt_16 : decode cX9_byteAt 16 = .ok (.if_icmp .ge 16, 3) := by decide +kernel
theorem dX9_byteAt_19 : decode cX9_byteAt 19 = .ok (.aload_n 0, 1) := by decide +kernel
theorem dX9_byteAt_20 : decode cX9_byteAt 20 = .ok (.getfield 11, 3) := by decide +kernel
theorem dX9_byteAt_23 : decode cX9_byteAt 23 = .ok (.iload_n 1, 1) := by decide +kernel
theorem dX9_byteAt_24 : decode cX9_byteAt 24 = .ok (.baload, 1) := by decide +kernel
theorem dX9_byteAt_25 : decode cX9_byteAt 25 = .ok (.sipush 255, 3) := by decide +kernel
theorem dX9_byteAt_28 : decode cX9_byteAt 28 = .ok (.iand, 1) := by decide +kernel
theorem dX9_byteAt_29 : decode cX9_byteAt 29 = .ok (.goto 4, 3) := by decide +kernel
theorem dX9_byteAt_32 : decode cX9_byteAt 32 = .ok (.iconst (-1), 1) := by decide +kernel
theorem dX9_byteAt_33 : decode cX9_byteAt 33 = .ok (.ireturn, 1) := by decide +kernel
theorem dX9_howMany_0 : decode cX9_howMany 0 = .ok (.iload_n 1, 1) := by decide +kernel
theorem dX9_howMany_1 : decode cX9_howMany 1 = .ok (.ifCond .lt 17, 3) := by decide +kernel
theorem dX9_howMany_4 : decode cX9_howMany 4 = .ok (.iload_n 1, 1) := by decide +kernel
theorem dX9_howMany_5 : decode cX9_howMany 5 = .ok (.iconst 4, 1) := by decide +kernel
theorem dX9_howMany_6 : decode cX9_howMany 6 = .ok (.if_icmp .ge 12, 3) := by decide +kernel
theorem dX9_howMany_9 : decode cX9_howMany 9 = .ok (.aload_n 0, 1) := by decide +kernel
theorem dX9_howMany_10 : decode cX9_howMany 10 = .ok (.getfield 15, 3) := by decide +kernel
theorem dX9_howMany_13 : decode cX9_howMany 13 = .ok (.iload_n 1, 1) := by decide +kernel
theorem dX9_howMany_14 : decode cX9_howMany 14 = .ok (.iaload, 1) := by decide +kernel
theorem dX9_howMany_15 : decode cX9_howMany 15 = .ok (.goto 5, 3) := by decide +kernel
theorem dX9_howMany_18 : decode cX9_howMany 18 = .ok (.bipush (-2), 2) := by decide +kernel
theorem dX9_howMany_20 : decode cX9_howMany 20 = .ok (.ireturn, 1) := by decide +kernel
theorem dX9_addOne_0 : decode cX9_addOne 0 = .ok (.iload_n 1, 1) := by decide +kernel
theorem dX9_addOne_1 : decode cX9_addOne 1 = .ok (.ifCond .lt 28, 3) := by decide +kernel
theorem dX9_addOne_4 : decode cX9_addOne 4 = .ok (.iload_n 1, 1) := by decide +kernel
theorem dX9_addOne_5 : decode cX9_addOne 5 = .ok (.iconst 4, 1) := by decide +kernel
theorem dX9_addOne_6 : decode cX9_addOne 6 = .ok (.if_icmp .ge 23, 3) := by decide +kernel
theorem dX9_addOne_9 : decode cX9_addOne 9 = .ok (.aload_n 0, 1) := by decide +kernel
theorem dX9_addOne_10 : decode cX9_addOne 10 = .ok (.getfield 15, 3) := by decide +kernel
theorem dX9_addOne_13 : decode cX9_addOne 13 = .ok (.iload_n 1, 1) := by decide +kernel
theorem dX9_addOne_14 : decode cX9_addOne 14 = .ok (.iaload, 1) := by decide +kernel
theorem dX9_addOne_15 : decode cX9_addOne 15 = .ok (.iconst 2, 1) := by decide +kernel
theorem dX9_addOne_16 : decode cX9_addOne 16 = .ok (.if_icmp .ge 13, 3) := by decide +kernel
theorem dX9_addOne_19 : decode cX9_addOne 19 = .ok (.aload_n 0, 1) := by decide +kernel
theorem dX9_addOne_20 : decode cX9_addOne 20 = .ok (.getfield 15, 3) := by decide +kernel
theorem dX9_addOne_23 : decode cX9_addOne 23 = .ok (.iload_n 1, 1) := by decide +kernel
theorem dX9_addOne_24 : decode cX9_addOne 24 = .ok (.dup2, 1) := by decide +kernel
theorem dX9_addOne_25 : decode cX9_addOne 25 = .ok (.iaload, 1) := by decide +kernel
theorem dX9_addOne_26 : decode cX9_addOne 26 = .ok (.iconst 1, 1) := by decide +kernel
theorem dX9_addOne_27 : decode cX9_addOne 27 = .ok (.iadd, 1) := by decide +kernel
theorem dX9_addOne_28 : decode cX9_addOne 28 = .ok (.iastore, 1) := by decide +kernel
theorem dX9_addOne_29 : decode cX9_addOne 29 = .ok (.return_, 1) := by decide +kernel
theorem dX9_bookAt_0 : decode cX9_bookAt 0 = .ok (.iload_n 1, 1) := by decide +kernel
theorem dX9_bookAt_1 : decode cX9_bookAt 1 = .ok (.ifCond .lt 27, 3) := by decide +kernel
theorem dX9_bookAt_4 : decode cX9_bookAt 4 = .ok (.iload_n 1, 1) := by decide +kernel
theorem dX9_bookAt_5 : decode cX9_bookAt 5 = .ok (.aload_n 0, 1) := by decide +kernel
theorem dX9_bookAt_6 : decode cX9_bookAt 6 = .ok (.getfield 15, 3) := by decide +kernel
theorem dX9_bookAt_9 : decode cX9_bookAt 9 = .ok (.iconst 0, 1) := by decide +kernel
theorem dX9_bookAt_10 : decode cX9_bookAt 10 = .ok (.iaload, 1) := by decide +kernel
theorem dX9_bookAt_11 : decode cX9_bookAt 11 = .ok (.if_icmp .ge 17, 3) := by decide +kernel
theorem dX9_bookAt_14 : decode cX9_bookAt 14 = .ok (.iload_n 1, 1) := by decide +kernel
theorem dX9_bookAt_15 : decode cX9_bookAt 15 = .ok (.iconst 2, 1) := by decide +kernel
theorem dX9_bookAt_16 : decode cX9_bookAt 16 = .ok (.if_icmp .ge 12, 3) := by decide +kernel
theorem dX9_bookAt_19 : decode cX9_bookAt 19 = .ok (.aload_n 0, 1) := by decide +kernel
theorem dX9_bookAt_20 : decode cX9_bookAt 20 = .ok (.getfield 21, 3) := by decide +kernel
theorem dX9_bookAt_23 : decode cX9_bookAt 23 = .ok (.iload_n 1, 1) := by decide +kernel
theorem dX9_bookAt_24 : decode cX9_bookAt 24 = .ok (.aaload, 1) := by decide +kernel
theorem dX9_bookAt_25 : decode cX9_bookAt 25 = .ok (.goto 4, 3) := by decide +kernel
theorem dX9_bookAt_28 : decode cX9_bookAt 28 = .ok (.aconst_null, 1) := by decide +kernel
theorem dX9_bookAt_29 : decode cX9_bookAt 29 = .ok (.areturn, 1) := by decide +kernel
theorem dX9_eveningAt_0 : decode cX9_eveningAt 0 = .ok (.iload_n 1, 1) := by decide +kernel
theorem dX9_eveningAt_1 : decode cX9_eveningAt 1 = .ok (.ifCond .lt 27, 3) := by decide +kernel
theorem dX9_eveningAt_4 : decode cX9_eveningAt 4 = .ok (.iload_n 1, 1) := by decide +kernel
theorem dX9_eveningAt_5 : decode cX9_eveningAt 5 = .ok (.aload_n 0, 1) := by decide +kernel
theorem dX9_eveningAt_6 : decode cX9_eveningAt 6 = .ok (.getfield 15, 3) := by decide +kernel
theorem dX9_eveningAt_9 : decode cX9_eveningAt 9 = .ok (.iconst 1, 1) := by decide +kernel
theorem dX9_eveningAt_10 : decode cX9_eveningAt 10 = .ok (.iaload, 1) := by decide +kernel
theorem dX9_eveningAt_11 : decode cX9_eveningAt 11 = .ok (.if_icmp .ge 17, 3) := by decide +kernel
theorem dX9_eveningAt_14 : decode cX9_eveningAt 14 = .ok (.iload_n 1, 1) := by decide +kernel
theorem dX9_eveningAt_15 : decode cX9_eveningAt 15 = .ok (.iconst 2, 1) := by decide +kernel
theorem dX9_eveningAt_16 : decode cX9_eveningAt 16 = .ok (.if_icmp .ge 12, 3) := by decide +kernel
theorem dX9_eveningAt_19 : decode cX9_eveningAt 19 = .ok (.aload_n 0, 1) := by decide +kernel
theorem dX9_eveningAt_20 : decode cX9_eveningAt 20 = .ok (.getfield 27, 3) := by decide +kernel
theorem dX9_eveningAt_23 : decode cX9_eveningAt 23 = .ok (.iload_n 1, 1) := by decide +kernel
theorem dX9_eveningAt_24 : decode cX9_eveningAt 24 = .ok (.aaload, 1) := by decide +kernel
theorem dX9_eveningAt_25 : decode cX9_eveningAt 25 = .ok (.goto 4, 3) := by decide +kernel
theorem dX9_eveningAt_28 : decode cX9_eveningAt 28 = .ok (.aconst_null, 1) := by decide +kernel
theorem dX9_eveningAt_29 : decode cX9_eveningAt 29 = .ok (.areturn, 1) := by decide +kernel
theorem dX9_logAt_0 : decode cX9_logAt 0 = .ok (.iload_n 1, 1) := by decide +kernel
theorem dX9_logAt_1 : decode cX9_logAt 1 = .ok (.ifCond .lt 27, 3) := by decide +kernel
theorem dX9_logAt_4 : decode cX9_logAt 4 = .ok (.iload_n 1, 1) := by decide +kernel
theorem dX9_logAt_5 : decode cX9_logAt 5 = .ok (.aload_n 0, 1) := by decide +kernel
theorem dX9_logAt_6 : decode cX9_logAt 6 = .ok (.getfield 15, 3) := by decide +kernel
theorem dX9_logAt_9 : decode cX9_logAt 9 = .ok (.iconst 2, 1) := by decide +kernel
theorem dX9_logAt_10 : decode cX9_logAt 10 = .ok (.iaload, 1) := by decide +kernel
theorem dX9_logAt_11 : decode cX9_logAt 11 = .ok (.if_icmp .ge 17, 3) := by decide +kernel
theorem dX9_logAt_14 : decode cX9_logAt 14 = .ok (.iload_n 1, 1) := by decide +kernel
theorem dX9_logAt_15 : decode cX9_logAt 15 = .ok (.iconst 2, 1) := by decide +kernel
theorem dX9_logAt_16 : decode cX9_logAt 16 = .ok (.if_icmp .ge 12, 3) := by decide +kernel
theorem dX9_logAt_19 : decode cX9_logAt 19 = .ok (.aload_n 0, 1) := by decide +kernel
theorem dX9_logAt_20 : decode cX9_logAt 20 = .ok (.getfield 33, 3) := by decide +kernel
theorem dX9_logAt_23 : decode cX9_logAt 23 = .ok (.iload_n 1, 1) := by decide +kernel
theorem dX9_logAt_24 : decode cX9_logAt 24 = .ok (.aaload, 1) := by decide +kernel
theorem dX9_logAt_25 : decode cX9_logAt 25 = .ok (.goto 4, 3) := by decide +kernel
theorem dX9_logAt_28 : decode cX9_logAt 28 = .ok (.aconst_null, 1) := by decide +kernel
theorem dX9_logAt_29 : decode cX9_logAt 29 = .ok (.areturn, 1) := by decide +kernel
theorem dX9_townAt_0 : decode cX9_townAt 0 = .ok (.iload_n 1, 1) := by decide +kernel
theorem dX9_townAt_1 : decode cX9_townAt 1 = .ok (.ifCond .lt 27, 3) := by decide +kernel
theorem dX9_townAt_4 : decode cX9_townAt 4 = .ok (.iload_n 1, 1) := by decide +kernel
theorem dX9_townAt_5 : decode cX9_townAt 5 = .ok (.aload_n 0, 1) := by decide +kernel
theorem dX9_townAt_6 : decode cX9_townAt 6 = .ok (.getfield 15, 3) := by decide +kernel
theorem dX9_townAt_9 : decode cX9_townAt 9 = .ok (.iconst 3, 1) := by decide +kernel
theorem dX9_townAt_10 : decode cX9_townAt 10 = .ok (.iaload, 1) := by decide +kernel
theorem dX9_townAt_11 : decode cX9_townAt 11 = .ok (.if_icmp .ge 17, 3) := by decide +kernel
theorem dX9_townAt_14 : decode cX9_townAt 14 = .ok (.iload_n 1, 1) := by decide +kernel
theorem dX9_townAt_15 : decode cX9_townAt 15 = .ok (.iconst 2, 1) := by decide +kernel
theorem dX9_townAt_16 : decode cX9_townAt 16 = .ok (.if_icmp .ge 12, 3) := by decide +kernel
theorem dX9_townAt_19 : decode cX9_townAt 19 = .ok (.aload_n 0, 1) := by decide +kernel
theorem dX9_townAt_20 : decode cX9_townAt 20 = .ok (.getfield 39, 3) := by decide +kernel
theorem dX9_townAt_23 : decode cX9_townAt 23 = .ok (.iload_n 1, 1) := by decide +kernel
theorem dX9_townAt_24 : decode cX9_townAt 24 = .ok (.aaload, 1) := by decide +kernel
theorem dX9_townAt_25 : decode cX9_townAt 25 = .ok (.goto 4, 3) := by decide +kernel
theorem dX9_townAt_28 : decode cX9_townAt 28 = .ok (.aconst_null, 1) := by decide +kernel
theorem dX9_townAt_29 : decode cX9_townAt 29 = .ok (.areturn, 1) := by decide +kernel
theorem dX9_copy_0 : decode cX9_copy 0 = .ok (.aload_n 1, 1) := by decide +kernel
theorem dX9_copy_1 : decode cX9_copy 1 = .ok (.getfield 11, 3) := by decide +kernel
theorem dX9_copy_4 : decode cX9_copy 4 = .ok (.iconst 0, 1) := by decide +kernel
theorem dX9_copy_5 : decode cX9_copy 5 = .ok (.aload_n 0, 1) := by decide +kernel
theorem dX9_copy_6 : decode cX9_copy 6 = .ok (.getfield 11, 3) := by decide +kernel
theorem dX9_copy_9 : decode cX9_copy 9 = .ok (.iconst 0, 1) := by decide +kernel
theorem dX9_copy_10 : decode cX9_copy 10 = .ok (.sipush 600, 3) := by decide +kernel
theorem dX9_copy_13 : decode cX9_copy 13 = .ok (.invokestatic 54, 3) := by decide +kernel
theorem dX9_copy_16 : decode cX9_copy 16 = .ok (.aload_n 1, 1) := by decide +kernel
theorem dX9_copy_17 : decode cX9_copy 17 = .ok (.getfield 15, 3) := by decide +kernel
theorem dX9_copy_20 : decode cX9_copy 20 = .ok (.iconst 0, 1) := by decide +kernel
theorem dX9_copy_21 : decode cX9_copy 21 = .ok (.aload_n 0, 1) := by decide +kernel
theorem dX9_copy_22 : decode cX9_copy 22 = .ok (.getfield 15, 3) := by decide +kernel
theorem dX9_copy_25 : decode cX9_copy 25 = .ok (.iconst 0, 1) := by decide +kernel
theorem dX9_copy_26 : decode cX9_copy 26 = .ok (.iconst 4, 1) := by decide +kernel
theorem dX9_copy_27 : decode cX9_copy 27 = .ok (.invokestatic 54, 3) := by decide +kernel
theorem dX9_copy_30 : decode cX9_copy 30 = .ok (.aload_n 0, 1) := by decide +kernel
theorem dX9_copy_31 : decode cX9_copy 31 = .ok (.aload_n 1, 1) := by decide +kernel
theorem dX9_copy_32 : decode cX9_copy 32 = .ok (.getfield 51, 3) := by decide +kernel
theorem dX9_copy_35 : decode cX9_copy 35 = .ok (.putfield 51, 3) := by decide +kernel
theorem dX9_copy_38 : decode cX9_copy 38 = .ok (.aload_n 0, 1) := by decide +kernel
theorem dX9_copy_39 : decode cX9_copy 39 = .ok (.aload_n 1, 1) := by decide +kernel
theorem dX9_copy_40 : decode cX9_copy 40 = .ok (.getfield 60, 3) := by decide +kernel
theorem dX9_copy_43 : decode cX9_copy 43 = .ok (.putfield 60, 3) := by decide +kernel
theorem dX9_copy_46 : decode cX9_copy 46 = .ok (.aload_n 0, 1) := by decide +kernel
theorem dX9_copy_47 : decode cX9_copy 47 = .ok (.aload_n 1, 1) := by decide +kernel
theorem dX9_copy_48 : decode cX9_copy 48 = .ok (.getfield 43, 3) := by decide +kernel
theorem dX9_copy_51 : decode cX9_copy 51 = .ok (.putfield 43, 3) := by decide +kernel
theorem dX9_copy_54 : decode cX9_copy 54 = .ok (.iconst 0, 1) := by decide +kernel
theorem dX9_copy_55 : decode cX9_copy 55 = .ok (.istore_n 2, 1) := by decide +kernel
theorem dX9_copy_56 : decode cX9_copy 56 = .ok (.iload_n 2, 1) := by decide +kernel
theorem dX9_copy_57 : decode cX9_copy 57 = .ok (.iconst 2, 1) := by decide +kernel
theorem dX9_copy_58 : decode cX9_copy 58 = .ok (.if_icmp .ge 69, 3) := by decide +kernel
theorem dX9_copy_61 : decode cX9_copy 61 = .ok (.aload_n 0, 1) := by decide +kernel
theorem dX9_copy_62 : decode cX9_copy 62 = .ok (.getfield 21, 3) := by decide +kernel
theorem dX9_copy_65 : decode cX9_copy 65 = .ok (.iload_n 2, 1) := by decide +kernel
theorem dX9_copy_66 : decode cX9_copy 66 = .ok (.aaload, 1) := by decide +kernel
theorem dX9_copy_67 : decode cX9_copy 67 = .ok (.aload_n 1, 1) := by decide +kernel
theorem dX9_copy_68 : decode cX9_copy 68 = .ok (.getfield 21, 3) := by decide +kernel
theorem dX9_copy_71 : decode cX9_copy 71 = .ok (.iload_n 2, 1) := by decide +kernel
theorem dX9_copy_72 : decode cX9_copy 72 = .ok (.aaload, 1) := by decide +kernel
theorem dX9_copy_73 : decode cX9_copy 73 = .ok (.invokevirtual 63, 3) := by decide +kernel
theorem dX9_copy_76 : decode cX9_copy 76 = .ok (.aload_n 0, 1) := by decide +kernel
theorem dX9_copy_77 : decode cX9_copy 77 = .ok (.getfield 27, 3) := by decide +kernel
theorem dX9_copy_80 : decode cX9_copy 80 = .ok (.iload_n 2, 1) := by decide +kernel
theorem dX9_copy_81 : decode cX9_copy 81 = .ok (.aaload, 1) := by decide +kernel
theorem dX9_copy_82 : decode cX9_copy 82 = .ok (.aload_n 1, 1) := by decide +kernel
theorem dX9_copy_83 : decode cX9_copy 83 = .ok (.getfield 27, 3) := by decide +kernel
theorem dX9_copy_86 : decode cX9_copy 86 = .ok (.iload_n 2, 1) := by decide +kernel
theorem dX9_copy_87 : decode cX9_copy 87 = .ok (.aaload, 1) := by decide +kernel
theorem dX9_copy_88 : decode cX9_copy 88 = .ok (.invokevirtual 67, 3) := by decide +kernel
theorem dX9_copy_91 : decode cX9_copy 91 = .ok (.aload_n 0, 1) := by decide +kernel
theorem dX9_copy_92 : decode cX9_copy 92 = .ok (.getfield 33, 3) := by decide +kernel
theorem dX9_copy_95 : decode cX9_copy 95 = .ok (.iload_n 2, 1) := by decide +kernel
theorem dX9_copy_96 : decode cX9_copy 96 = .ok (.aaload, 1) := by decide +kernel
theorem dX9_copy_97 : decode cX9_copy 97 = .ok (.aload_n 1, 1) := by decide +kernel
theorem dX9_copy_98 : decode cX9_copy 98 = .ok (.getfield 33, 3) := by decide +kernel
theorem dX9_copy_101 : decode cX9_copy 101 = .ok (.iload_n 2, 1) := by decide +kernel
theorem dX9_copy_102 : decode cX9_copy 102 = .ok (.aaload, 1) := by decide +kernel
theorem dX9_copy_103 : decode cX9_copy 103 = .ok (.invokevirtual 70, 3) := by decide +kernel
theorem dX9_copy_106 : decode cX9_copy 106 = .ok (.aload_n 0, 1) := by decide +kernel
theorem dX9_copy_107 : decode cX9_copy 107 = .ok (.getfield 39, 3) := by decide +kernel
theorem dX9_copy_110 : decode cX9_copy 110 = .ok (.iload_n 2, 1) := by decide +kernel
theorem dX9_copy_111 : decode cX9_copy 111 = .ok (.aaload, 1) := by decide +kernel
theorem dX9_copy_112 : decode cX9_copy 112 = .ok (.aload_n 1, 1) := by decide +kernel
theorem dX9_copy_113 : decode cX9_copy 113 = .ok (.getfield 39, 3) := by decide +kernel
theorem dX9_copy_116 : decode cX9_copy 116 = .ok (.iload_n 2, 1) := by decide +kernel
theorem dX9_copy_117 : decode cX9_copy 117 = .ok (.aaload, 1) := by decide +kernel
theorem dX9_copy_118 : decode cX9_copy 118 = .ok (.invokevirtual 73, 3) := by decide +kernel
theorem dX9_copy_121 : decode cX9_copy 121 = .ok (.iinc 2 1, 3) := by decide +kernel
theorem dX9_copy_124 : decode cX9_copy 124 = .ok (.goto (-68), 3) := by decide +kernel
theorem dX9_copy_127 : decode cX9_copy 127 = .ok (.return_, 1) := by decide +kernel
theorem dX10_init_0 : decode cX10_init 0 = .ok (.aload_n 0, 1) := by decide +kernel
theorem dX10_init_1 : decode cX10_init 1 = .ok (.invokespecial 3, 3) := by decide +kernel
theorem dX10_init_4 : decode cX10_init 4 = .ok (.aload_n 0, 1) := by decide +kernel
theorem dX10_init_5 : decode cX10_init 5 = .ok (.bipush 9, 2) := by decide +kernel
theorem dX10_init_7 : decode cX10_init 7 = .ok (.newarray .int, 2) := by decide +kernel
theorem dX10_init_9 : decode cX10_init 9 = .ok (.putfield 11, 3) := by decide +kernel
theorem dX10_init_12 : decode cX10_init 12 = .ok (.aload_n 0, 1) := by decide +kernel
theorem dX10_init_13 : decode cX10_init 13 = .ok (.bipush 9, 2) := by decide +kernel
theorem dX10_init_15 : decode cX10_init 15 = .ok (.newarray .int, 2) := by decide +kernel
theorem dX10_init_17 : decode cX10_init 17 = .ok (.putfield 15, 3) := by decide +kernel
theorem dX10_init_20 : decode cX10_init 20 = .ok (.aload_n 0, 1) := by decide +kernel
theorem dX10_init_21 : decode cX10_init 21 = .ok (.bipush 9, 2) := by decide +kernel
theorem dX10_init_23 : decode cX10_init 23 = .ok (.newarray .int, 2) := by decide +kernel
theorem dX10_init_25 : decode cX10_init 25 = .ok (.putfield 18, 3) := by decide +kernel
theorem dX10_init_28 : decode cX10_init 28 = .ok (.aload_n 0, 1) := by decide +kernel
theorem dX10_init_29 : decode cX10_init 29 = .ok (.bipush 9, 2) := by decide +kernel
theorem dX10_init_31 : decode cX10_init 31 = .ok (.newarray .int, 2) := by decide +kernel
theorem dX10_init_33 : decode cX10_init 33 = .ok (.putfield 21, 3) := by decide +kernel
theorem dX10_init_36 : decode cX10_init 36 = .ok (.return_, 1) := by decide +kernel
theorem dX10_clear_0 : decode cX10_clear 0 = .ok (.aload_n 0, 1) := by decide +kernel
theorem dX10_clear_1 : decode cX10_clear 1 = .ok (.iconst 4, 1) := by decide +kernel
theorem dX10_clear_2 : decode cX10_clear 2 = .ok (.putfield 24, 3) := by decide +kernel
theorem dX10_clear_5 : decode cX10_clear 5 = .ok (.iconst 0, 1) := by decide +kernel
theorem dX10_clear_6 : decode cX10_clear 6 = .ok (.istore_n 1, 1) := by decide +kernel
theorem dX10_clear_7 : decode cX10_clear 7 = .ok (.iload_n 1, 1) := by decide +kernel
theorem dX10_clear_8 : decode cX10_clear 8 = .ok (.bipush 9, 2) := by decide +kernel
theorem dX10_clear_10 : decode cX10_clear 10 = .ok (.if_icmp .ge 30, 3) := by decide +kernel
theorem dX10_clear_13 : decode cX10_clear 13 = .ok (.aload_n 0, 1) := by decide +kernel
theorem dX10_clear_14 : decode cX10_clear 14 = .ok (.getfield 11, 3) := by decide +kernel
theorem dX10_clear_17 : decode cX10_clear 17 = .ok (.iload_n 1, 1) := by decide +kernel
theorem dX10_clear_18 : decode cX10_clear 18 = .ok (.iconst 2, 1) := by decide +kernel
theorem dX10_clear_19 : decode cX10_clear 19 = .ok (.iastore, 1) := by decide +kernel
theorem dX10_clear_20 : decode cX10_clear 20 = .ok (.aload_n 0, 1) := by decide +kernel
theorem dX10_clear_21 : decode cX10_clear 21 = .ok (.getfield 15, 3) := by decide +kernel
theorem dX10_clear_24 : decode cX10_clear 24 = .ok (.iload_n 1, 1) := by decide +kernel
theorem dX10_clear_25 : decode cX10_clear 25 = .ok (.iconst 0, 1) := by decide +kernel
theorem dX10_clear_26 : decode cX10_clear 26 = .ok (.iastore, 1) := by decide +kernel
theorem dX10_clear_27 : decode cX10_clear 27 = .ok (.aload_n 0, 1) := by decide +kernel
theorem dX10_clear_28 : decode cX10_clear 28 = .ok (.getfield 18, 3) := by decide +kernel
theorem dX10_clear_31 : decode cX10_clear 31 = .ok (.iload_n 1, 1) := by decide +kernel
theorem dX10_clear_32 : decode cX10_clear 32 = .ok (.iconst 3, 1) := by decide +kernel
theorem dX10_clear_33 : decode cX10_clear 33 = .ok (.iastore, 1) := by decide +kernel
theorem dX10_clear_34 : decode cX10_clear 34 = .ok (.iinc 1 1, 3) := by decide +kernel
theorem dX10_clear_37 : decode cX10_clear 37 = .ok (.goto (-30), 3) := by decide +kernel
theorem dX10_clear_40 : decode cX10_clear 40 = .ok (.return_, 1) := by decide +kernel
theorem dX10_setWall_0 : decode cX10_setWall 0 = .ok (.iload_n 1, 1) := by decide +kernel
theorem dX10_setWall_1 : decode cX10_setWall 1 = .ok (.ifCond .lt 16, 3) := by decide +kernel
theorem dX10_setWall_4 : decode cX10_setWall 4 = .ok (.iload_n 1, 1) := by decide +kernel
theorem dX10_setWall_5 : decode cX10_setWall 5 = .ok (.bipush 9, 2) := by decide +kernel
theorem dX10_setWall_7 : decode cX10_setWall 7 = .ok (.if_icmp .ge 10, 3) := by decide +kernel
theorem dX10_setWall_10 : decode cX10_setWall 10 = .ok (.aload_n 0, 1) := by decide +kernel
theorem dX10_setWall_11 : decode cX10_setWall 11 = .ok (.getfield 11, 3) := by decide +kernel
theorem dX10_setWall_14 : decode cX10_setWall 14 = .ok (.iload_n 1, 1) := by decide +kernel
theorem dX10_setWall_15 : decode cX10_setWall 15 = .ok (.iload_n 2, 1) := by decide +kernel
theorem dX10_setWall_16 : decode cX10_setWall 16 = .ok (.iastore, 1) := by decide +kernel
theorem dX10_setWall_17 : decode cX10_setWall 17 = .ok (.return_, 1) := by decide +kernel
theorem dX10_setBook_0 : decode cX10_setBook 0 = .ok (.iload_n 1, 1) := by decide +kernel
theorem dX10_setBook_1 : decode cX10_setBook 1 = .ok (.ifCond .lt 16, 3) := by decide +kernel
theorem dX10_setBook_4 : decode cX10_setBook 4 = .ok (.iload_n 1, 1) := by decide +kernel
theorem dX10_setBook_5 : decode cX10_setBook 5 = .ok (.bipush 9, 2) := by decide +kernel
theorem dX10_setBook_7 : decode cX10_setBook 7 = .ok (.if_icmp .ge 10, 3) := by decide +kernel
theorem dX10_setBook_10 : decode cX10_setBook 10 = .ok (.aload_n 0, 1) := by decide +kernel
theorem dX10_setBook_11 : decode cX10_setBook 11 = .ok (.getfield 15, 3) := by decide +kernel
theorem dX10_setBook_14 : decode cX10_setBook 14 = .ok (.iload_n 1, 1) := by decide +kernel
theorem dX10_setBook_15 : decode cX10_setBook 15 = .ok (.iload_n 2, 1) := by decide +kernel
theorem dX10_setBook_16 : decode cX10_setBook 16 = .ok (.iastore, 1) := by decide +kernel
theorem dX10_setBook_17 : decode cX10_setBook 17 = .ok (.return_, 1) := by decide +kernel
theorem dX10_setLoud_0 : decode cX10_setLoud 0 = .ok (.iload_n 1, 1) := by decide +kernel
theorem dX10_setLoud_1 : decode cX10_setLoud 1 = .ok (.ifCond .lt 16, 3) := by decide +kernel
theorem dX10_setLoud_4 : decode cX10_setLoud 4 = .ok (.iload_n 1, 1) := by decide +kernel
theorem dX10_setLoud_5 : decode cX10_setLoud 5 = .ok (.bipush 9, 2) := by decide +kernel
theorem dX10_setLoud_7 : decode cX10_setLoud 7 = .ok (.if_icmp .ge 10, 3) := by decide +kernel
theorem dX10_setLoud_10 : decode cX10_setLoud 10 = .ok (.aload_n 0, 1) := by decide +kernel
theorem dX10_setLoud_11 : decode cX10_setLoud 11 = .ok (.getfield 18, 3) := by decide +kernel
theorem dX10_setLoud_14 : decode cX10_setLoud 14 = .ok (.iload_n 1, 1) := by decide +kernel
theorem dX10_setLoud_15 : decode cX10_setLoud 15 = .ok (.iload_n 2, 1) := by decide +kernel
theorem dX10_setLoud_16 : decode cX10_setLoud 16 = .ok (.iastore, 1) := by decide +kernel
theorem dX10_setLoud_17 : decode cX10_setLoud 17 = .ok (.return_, 1) := by decide +kernel
theorem dX10_copy_0 : decode cX10_copy 0 = .ok (.aload_n 1, 1) := by decide +kernel
theorem dX10_copy_1 : decode cX10_copy 1 = .ok (.getfield 11, 3) := by decide +kernel
theorem dX10_copy_4 : decode cX10_copy 4 = .ok (.iconst 0, 1) := by decide +kernel
theorem dX10_copy_5 : decode cX10_copy 5 = .ok (.aload_n 0, 1) := by decide +kernel
theorem dX10_copy_6 : decode cX10_copy 6 = .ok (.getfield 11, 3) := by decide +kernel
theorem dX10_copy_9 : decode cX10_copy 9 = .ok (.iconst 0, 1) := by decide +kernel
theorem dX10_copy_10 : decode cX10_copy 10 = .ok (.bipush 9, 2) := by decide +kernel
theorem dX10_copy_12 : decode cX10_copy 12 = .ok (.invokestatic 28, 3) := by decide +kernel
theorem dX10_copy_15 : decode cX10_copy 15 = .ok (.aload_n 1, 1) := by decide +kernel
theorem dX10_copy_16 : decode cX10_copy 16 = .ok (.getfield 15, 3) := by decide +kernel
theorem dX10_copy_19 : decode cX10_copy 19 = .ok (.iconst 0, 1) := by decide +kernel
theorem dX10_copy_20 : decode cX10_copy 20 = .ok (.aload_n 0, 1) := by decide +kernel
theorem dX10_copy_21 : decode cX10_copy 21 = .ok (.getfield 15, 3) := by decide +kernel
theorem dX10_copy_24 : decode cX10_copy 24 = .ok (.iconst 0, 1) := by decide +kernel
theorem dX10_copy_25 : decode cX10_copy 25 = .ok (.bipush 9, 2) := by decide +kernel
theorem dX10_copy_27 : decode cX10_copy 27 = .ok (.invokestatic 28, 3) := by decide +kernel
theorem dX10_copy_30 : decode cX10_copy 30 = .ok (.aload_n 1, 1) := by decide +kernel
theorem dX10_copy_31 : decode cX10_copy 31 = .ok (.getfield 18, 3) := by decide +kernel
theorem dX10_copy_34 : decode cX10_copy 34 = .ok (.iconst 0, 1) := by decide +kernel
theorem dX10_copy_35 : decode cX10_copy 35 = .ok (.aload_n 0, 1) := by decide +kernel
theorem dX10_copy_36 : decode cX10_copy 36 = .ok (.getfield 18, 3) := by decide +kernel
theorem dX10_copy_39 : decode cX10_copy 39 = .ok (.iconst 0, 1) := by decide +kernel
theorem dX10_copy_40 : decode cX10_copy 40 = .ok (.bipush 9, 2) := by decide +kernel
theorem dX10_copy_42 : decode cX10_copy 42 = .ok (.invokestatic 28, 3) := by decide +kernel
theorem dX10_copy_45 : decode cX10_copy 45 = .ok (.aload_n 0, 1) := by decide +kernel
theorem dX10_copy_46 : decode cX10_copy 46 = .ok (.aload_n 1, 1) := by decide +kernel
theorem dX10_copy_47 : decode cX10_copy 47 = .ok (.getfield 24, 3) := by decide +kernel
theorem dX10_copy_50 : decode cX10_copy 50 = .ok (.putfield 24, 3) := by decide +kernel
theorem dX10_copy_53 : decode cX10_copy 53 = .ok (.return_, 1) := by decide +kernel
theorem dX10_has_0 : decode cX10_has 0 = .ok (.iload_n 1, 1) := by decide +kernel
theorem dX10_has_1 : decode cX10_has 1 = .ok (.ifCond .lt 21, 3) := by decide +kernel
theorem dX10_has_4 : decode cX10_has 4 = .ok (.iload_n 1, 1) := by decide +kernel
theorem dX10_has_5 : decode cX10_has 5 = .ok (.aload_n 0, 1) := by decide +kernel
theorem dX10_has_6 : decode cX10_has 6 = .ok (.getfield 24, 3) := by decide +kernel
theorem dX10_has_9 : decode cX10_has 9 = .ok (.if_icmp .ge 13, 3) := by decide +kernel
theorem dX10_has_12 : decode cX10_has 12 = .ok (.iload_n 1, 1) := by decide +kernel
theorem dX10_has_13 : decode cX10_has 13 = .ok (.bipush 9, 2) := by decide +kernel
theorem dX10_has_15 : decode cX10_has 15 = .ok (.if_icmp .ge 7, 3) := by decide +kernel
theorem dX10_has_18 : decode cX10_has 18 = .ok (.iconst 1, 1) := by decide +kernel
theorem dX10_has_19 : decode cX10_has 19 = .ok (.goto 4, 3) := by decide +kernel
theorem dX10_has_22 : decode cX10_has 22 = .ok (.iconst 0, 1) := by decide +kernel
theorem dX10_has_23 : decode cX10_has 23 = .ok (.ireturn, 1) := by decide +kernel
theorem dX10_show_0 : decode cX10_show 0 = .ok (.iload_n 1, 1) := by decide +kernel
theorem dX10_show_1 : decode cX10_show 1 = .ok (.tableswitch 73 0 5 #[39, 44, 49, 58, 63, 68], 39) := by decide +kernel
theorem dX10_show_40 : decode cX10_show 40 = .ok (.aload_n 0, 1) := by decide +kernel
theorem dX10_show_41 : decode cX10_show 41 = .ok (.getfield 24, 3) := by decide +kernel
theorem dX10_show_44 : decode cX10_show 44 = .ok (.ireturn, 1) := by decide +kernel
theorem dX10_show_45 : decode cX10_show 45 = .ok (.aload_n 0, 1) := by decide +kernel
theorem dX10_show_46 : decode cX10_show 46 = .ok (.invokevirtual 34, 3) := by decide +kernel
theorem dX10_show_49 : decode cX10_show 49 = .ok (.ireturn, 1) := by decide +kernel
theorem dX10_show_50 : decode cX10_show 50 = .ok (.aload_n 0, 1) := by decide +kernel
theorem dX10_show_51 : decode cX10_show 51 = .ok (.aload_n 0, 1) := by decide +kernel
theorem dX10_show_52 : decode cX10_show 52 = .ok (.invokevirtual 34, 3) := by decide +kernel
theorem dX10_show_55 : decode cX10_show 55 = .ok (.invokevirtual 38, 3) := by decide +kernel
theorem dX10_show_58 : decode cX10_show 58 = .ok (.ireturn, 1) := by decide +kernel
theorem dX10_show_59 : decode cX10_show 59 = .ok (.aload_n 0, 1) := by decide +kernel
theorem dX10_show_60 : decode cX10_show 60 = .ok (.invokevirtual 42, 3) := by decide +kernel
theorem dX10_show_63 : decode cX10_show 63 = .ok (.ireturn, 1) := by decide +kernel
theorem dX10_show_64 : decode cX10_show 64 = .ok (.aload_n 0, 1) := by decide +kernel
theorem dX10_show_65 : decode cX10_show 65 = .ok (.invokevirtual 45, 3) := by decide +kernel
theorem dX10_show_68 : decode cX10_show 68 = .ok (.ireturn, 1) := by decide +kernel
theorem dX10_show_69 : decode cX10_show 69 = .ok (.aload_n 0, 1) := by decide +kernel
theorem dX10_show_70 : decode cX10_show 70 = .ok (.invokevirtual 48, 3) := by decide +kernel
theorem dX10_show_73 : decode cX10_show 73 = .ok (.ireturn, 1) := by decide +kernel
theorem dX10_show_74 : decode cX10_show 74 = .ok (.iload_n 1, 1) := by decide +kernel
theorem dX10_show_75 : decode cX10_show 75 = .ok (.bipush 10, 2) := by decide +kernel
theorem dX10_show_77 : decode cX10_show 77 = .ok (.if_icmp .lt 24, 3) := by decide +kernel
theorem dX10_show_80 : decode cX10_show 80 = .ok (.iload_n 1, 1) := by decide +kernel
theorem dX10_show_81 : decode cX10_show 81 = .ok (.bipush 50, 2) := by decide +kernel
theorem dX10_show_83 : decode cX10_show 83 = .ok (.if_icmp .ge 18, 3) := by decide +kernel
theorem dX10_show_86 : decode cX10_show 86 = .ok (.aload_n 0, 1) := by decide +kernel
theorem dX10_show_87 : decode cX10_show 87 = .ok (.iload_n 1, 1) := by decide +kernel
theorem dX10_show_88 : decode cX10_show 88 = .ok (.bipush 10, 2) := by decide +kernel
theorem dX10_show_90 : decode cX10_show 90 = .ok (.idiv, 1) := by decide +kernel
theorem dX10_show_91 : decode cX10_show 91 = .ok (.iload_n 1, 1) := by decide +kernel
theorem dX10_show_92 : decode cX10_show 92 = .ok (.bipush 10, 2) := by decide +kernel
theorem dX10_show_94 : decode cX10_show 94 = .ok (.irem, 1) := by decide +kernel
theorem dX10_show_95 : decode cX10_show 95 = .ok (.invokevirtual 51, 3) := by decide +kernel
theorem dX10_show_98 : decode cX10_show 98 = .ok (.goto 4, 3) := by decide +kernel
theorem dX10_show_101 : decode cX10_show 101 = .ok (.iconst (-1), 1) := by decide +kernel
theorem dX10_show_102 : decode cX10_show 102 = .ok (.ireturn, 1) := by decide +kernel
theorem dX10_showHouse_0 : decode cX10_showHouse 0 = .ok (.aload_n 0, 1) := by decide +kernel
theorem dX10_showHouse_1 : decode cX10_showHouse 1 = .ok (.iload_n 2, 1) := by decide +kernel
theorem dX10_showHouse_2 : decode cX10_showHouse 2 = .ok (.invokevirtual 55, 3) := by decide +kernel
theorem dX10_showHouse_5 : decode cX10_showHouse 5 = .ok (.ifCond .ne 5, 3) := by decide +kernel
theorem dX10_showHouse_8 : decode cX10_showHouse 8 = .ok (.iconst (-1), 1) := by decide +kernel
theorem dX10_showHouse_9 : decode cX10_showHouse 9 = .ok (.ireturn, 1) := by decide +kernel
theorem dX10_showHouse_10 : decode cX10_showHouse 10 = .ok (.iload_n 1, 1) := by decide +kernel
theorem dX10_showHouse_11 : decode cX10_showHouse 11 = .ok (.tableswitch 60 1 3 #[25, 46, 53], 25) := by decide +kernel
theorem dX10_showHouse_36 : decode cX10_showHouse 36 = .ok (.aload_n 0, 1) := by decide +kernel
theorem dX10_showHouse_37 : decode cX10_showHouse 37 = .ok (.iload_n 2, 1) := by decide +kernel
theorem dX10_showHouse_38 : decode cX10_showHouse 38 = .ok (.iconst 1, 1) := by decide +kernel
theorem dX10_showHouse_39 : decode cX10_showHouse 39 = .ok (.iadd, 1) := by decide +kernel
theorem dX10_showHouse_40 : decode cX10_showHouse 40 = .ok (.invokevirtual 55, 3) := by decide +kernel
theorem dX10_showHouse_43 : decode cX10_showHouse 43 = .ok (.ifCond .eq 12, 3) := by decide +kernel
theorem dX10_showHouse_46 : decode cX10_showHouse 46 = .ok (.aload_n 0, 1) := by decide +kernel
theorem dX10_showHouse_47 : decode cX10_showHouse 47 = .ok (.getfield 11, 3) := by decide +kernel
theorem dX10_showHouse_50 : decode cX10_showHouse 50 = .ok (.iload_n 2, 1) := by decide +kernel
theorem dX10_showHouse_51 : decode cX10_showHouse 51 = .ok (.iaload, 1) := by decide +kernel
theorem dX10_showHouse_52 : decode cX10_showHouse 52 = .ok (.goto 4, 3) := by decide +kernel
theorem dX10_showHouse_55 : decode cX10_showHouse 55 = .ok (.iconst (-1), 1) := by decide +kernel
theorem dX10_showHouse_56 : decode cX10_showHouse 56 = .ok (.ireturn, 1) := by decide +kernel
theorem dX10_showHouse_57 : decode cX10_showHouse 57 = .ok (.aload_n 0, 1) := by decide +kernel
theorem dX10_showHouse_58 : decode cX10_showHouse 58 = .ok (.getfield 15, 3) := by decide +kernel
theorem dX10_showHouse_61 : decode cX10_showHouse 61 = .ok (.iload_n 2, 1) := by decide +kernel
theorem dX10_showHouse_62 : decode cX10_showHouse 62 = .ok (.iaload, 1) := by decide +kernel
theorem dX10_showHouse_63 : decode cX10_showHouse 63 = .ok (.ireturn, 1) := by decide +kernel
theorem dX10_showHouse_64 : decode cX10_showHouse 64 = .ok (.aload_n 0, 1) := by decide +kernel
theorem dX10_showHouse_65 : decode cX10_showHouse 65 = .ok (.getfield 18, 3) := by decide +kernel
theorem dX10_showHouse_68 : decode cX10_showHouse 68 = .ok (.iload_n 2, 1) := by decide +kernel
theorem dX10_showHouse_69 : decode cX10_showHouse 69 = .ok (.iaload, 1) := by decide +kernel
theorem dX10_showHouse_70 : decode cX10_showHouse 70 = .ok (.ireturn, 1) := by decide +kernel
theorem dX10_showHouse_71 : decode cX10_showHouse 71 = .ok (.aload_n 0, 1) := by decide +kernel
theorem dX10_showHouse_72 : decode cX10_showHouse 72 = .ok (.iload_n 2, 1) := by decide +kernel
theorem dX10_showHouse_73 : decode cX10_showHouse 73 = .ok (.invokevirtual 59, 3) := by decide +kernel
theorem dX10_showHouse_76 : decode cX10_showHouse 76 = .ok (.ireturn, 1) := by decide +kernel
theorem dX10_loudOf_0 : decode cX10_loudOf 0 = .ok (.aload_n 0, 1) := by decide +kernel
theorem dX10_loudOf_1 : decode cX10_loudOf 1 = .ok (.iload_n 1, 1) := by decide +kernel
theorem dX10_loudOf_2 : decode cX10_loudOf 2 = .ok (.invokevirtual 55, 3) := by decide +kernel
theorem dX10_loudOf_5 : decode cX10_loudOf 5 = .ok (.ifCond .eq 12, 3) := by decide +kernel
theorem dX10_loudOf_8 : decode cX10_loudOf 8 = .ok (.aload_n 0, 1) := by decide +kernel
theorem dX10_loudOf_9 : decode cX10_loudOf 9 = .ok (.getfield 18, 3) := by decide +kernel
theorem dX10_loudOf_12 : decode cX10_loudOf 12 = .ok (.iload_n 1, 1) := by decide +kernel
theorem dX10_loudOf_13 : decode cX10_loudOf 13 = .ok (.iaload, 1) := by decide +kernel
theorem dX10_loudOf_14 : decode cX10_loudOf 14 = .ok (.goto 4, 3) := by decide +kernel
theorem dX10_loudOf_17 : decode cX10_loudOf 17 = .ok (.iconst 0, 1) := by decide +kernel
theorem dX10_loudOf_18 : decode cX10_loudOf 18 = .ok (.ireturn, 1) := by decide +kernel
theorem dX10_whereHeard_0 : decode cX10_whereHeard 0 = .ok (.iconst 0, 1) := by decide +kernel
theorem dX10_whereHeard_1 : decode cX10_whereHeard 1 = .ok (.istore_n 2, 1) := by decide +kernel
theorem dX10_whereHeard_2 : decode cX10_whereHeard 2 = .ok (.iconst 0, 1) := by decide +kernel
theorem dX10_whereHeard_3 : decode cX10_whereHeard 3 = .ok (.istore_n 3, 1) := by decide +kernel
theorem dX10_whereHeard_4 : decode cX10_whereHeard 4 = .ok (.iload_n 3, 1) := by decide +kernel
theorem dX10_whereHeard_5 : decode cX10_whereHeard 5 = .ok (.aload_n 0, 1) := by decide +kernel
theorem dX10_whereHeard_6 : decode cX10_whereHeard 6 = .ok (.getfield 24, 3) := by decide +kernel
theorem dX10_whereHeard_9 : decode cX10_whereHeard 9 = .ok (.if_icmp .ge 37, 3) := by decide +kernel
theorem dX10_whereHeard_12 : decode cX10_whereHeard 12 = .ok (.aload_n 0, 1) := by decide +kernel
theorem dX10_whereHeard_13 : decode cX10_whereHeard 13 = .ok (.iload_n 1, 1) := by decide +kernel
theorem dX10_whereHeard_14 : decode cX10_whereHeard 14 = .ok (.iload_n 3, 1) := by decide +kernel
theorem dX10_whereHeard_15 : decode cX10_whereHeard 15 = .ok (.invokestatic 62, 3) := by decide +kernel
theorem dX10_whereHeard_18 : decode cX10_whereHeard 18 = .ok (.iload_n 1, 1) := by decide +kernel
theorem dX10_whereHeard_19 : decode cX10_whereHeard 19 = .ok (.iload_n 3, 1) := by decide +kernel
theorem dX10_whereHeard_20 : decode cX10_whereHeard 20 = .ok (.invokestatic 67, 3) := by decide +kernel
theorem dX10_whereHeard_23 : decode cX10_whereHeard 23 = .ok (.invokevirtual 70, 3) := by decide +kernel
theorem dX10_whereHeard_26 : decode cX10_whereHeard 26 = .ok (.aload_n 0, 1) := by decide +kernel
theorem dX10_whereHeard_27 : decode cX10_whereHeard 27 = .ok (.iload_n 1, 1) := by decide +kernel
theorem dX10_whereHeard_28 : decode cX10_whereHeard 28 = .ok (.invokevirtual 73, 3) := by decide +kernel
theorem dX10_whereHeard_31 : decode cX10_whereHeard 31 = .ok (.if_icmp .ge 9, 3) := by decide +kernel
theorem dX10_whereHeard_34 : decode cX10_whereHeard 34 = .ok (.iload_n 2, 1) := by decide +kernel
theorem dX10_whereHeard_35 : decode cX10_whereHeard 35 = .ok (.iconst 1, 1) := by decide +kernel
theorem dX10_whereHeard_36 : decode cX10_whereHeard 36 = .ok (.iload_n 3, 1) := by decide +kernel
theorem dX10_whereHeard_37 : decode cX10_whereHeard 37 = .ok (.ishl, 1) := by decide +kernel
theorem dX10_whereHeard_38 : decode cX10_whereHeard 38 = .ok (.ior, 1) := by decide +kernel
theorem dX10_whereHeard_39 : decode cX10_whereHeard 39 = .ok (.istore_n 2, 1) := by decide +kernel
theorem dX10_whereHeard_40 : decode cX10_whereHeard 40 = .ok (.iinc 3 1, 3) := by decide +kernel
theorem dX10_whereHeard_43 : decode cX10_whereHeard 43 = .ok (.goto (-39), 3) := by decide +kernel
theorem dX10_whereHeard_46 : decode cX10_whereHeard 46 = .ok (.iload_n 2, 1) := by decide +kernel
theorem dX10_whereHeard_47 : decode cX10_whereHeard 47 = .ok (.ireturn, 1) := by decide +kernel
theorem dX10_wallsBetween_0 : decode cX10_wallsBetween 0 = .ok (.iconst 0, 1) := by decide +kernel
theorem dX10_wallsBetween_1 : decode cX10_wallsBetween 1 = .ok (.istore_n 3, 1) := by decide +kernel
theorem dX10_wallsBetween_2 : decode cX10_wallsBetween 2 = .ok (.iload_n 1, 1) := by decide +kernel
theorem dX10_wallsBetween_3 : decode cX10_wallsBetween 3 = .ok (.istore 4, 2) := by decide +kernel
theorem dX10_wallsBetween_5 : decode cX10_wallsBetween 5 = .ok (.iload 4, 2) := by decide +kernel
theorem dX10_wallsBetween_7 : decode cX10_wallsBetween 7 = .ok (.iload_n 2, 1) := by decide +kernel
theorem dX10_wallsBetween_8 : decode cX10_wallsBetween 8 = .ok (.if_icmp .ge 32, 3) := by decide +kernel
theorem dX10_wallsBetween_11 : decode cX10_wallsBetween 11 = .ok (.iload_n 3, 1) := by decide +kernel
theorem dX10_wallsBetween_12 : decode cX10_wallsBetween 12 = .ok (.aload_n 0, 1) := by decide +kernel
theorem dX10_wallsBetween_13 : decode cX10_wallsBetween 13 = .ok (.iload 4, 2) := by decide +kernel
theorem dX10_wallsBetween_15 : decode cX10_wallsBetween 15 = .ok (.invokevirtual 55, 3) := by decide +kernel
theorem dX10_wallsBetween_18 : decode cX10_wallsBetween 18 = .ok (.ifCond .eq 13, 3) := by decide +kernel
theorem dX10_wallsBetween_21 : decode cX10_wallsBetween 21 = .ok (.aload_n 0, 1) := by decide +kernel
theorem dX10_wallsBetween_22 : decode cX10_wallsBetween 22 = .ok (.getfield 11, 3) := by decide +kernel
theorem dX10_wallsBetween_25 : decode cX10_wallsBetween 25 = .ok (.iload 4, 2) := by decide +kernel
theorem dX10_wallsBetween_27 : decode cX10_wallsBetween 27 = .ok (.iaload, 1) := by decide +kernel
theorem dX10_wallsBetween_28 : decode cX10_wallsBetween 28 = .ok (.goto 4, 3) := by decide +kernel
theorem dX10_wallsBetween_31 : decode cX10_wallsBetween 31 = .ok (.iconst 0, 1) := by decide +kernel
theorem dX10_wallsBetween_32 : decode cX10_wallsBetween 32 = .ok (.iadd, 1) := by decide +kernel
theorem dX10_wallsBetween_33 : decode cX10_wallsBetween 33 = .ok (.istore_n 3, 1) := by decide +kernel
theorem dX10_wallsBetween_34 : decode cX10_wallsBetween 34 = .ok (.iinc 4 1, 3) := by decide +kernel
theorem dX10_wallsBetween_37 : decode cX10_wallsBetween 37 = .ok (.goto (-32), 3) := by decide +kernel
theorem dX10_wallsBetween_40 : decode cX10_wallsBetween 40 = .ok (.iload_n 3, 1) := by decide +kernel
theorem dX10_wallsBetween_41 : decode cX10_wallsBetween 41 = .ok (.ireturn, 1) := by decide +kernel
theorem dX10_othersHeardIn_0 : decode cX10_othersHeardIn 0 = .ok (.iconst 0, 1) := by decide +kernel
theorem dX10_othersHeardIn_1 : decode cX10_othersHeardIn 1 = .ok (.istore_n 2, 1) := by decide +kernel
theorem dX10_othersHeardIn_2 : decode cX10_othersHeardIn 2 = .ok (.iconst 0, 1) := by decide +kernel
theorem dX10_othersHeardIn_3 : decode cX10_othersHeardIn 3 = .ok (.istore_n 3, 1) := by decide +kernel
theorem dX10_othersHeardIn_4 : decode cX10_othersHeardIn 4 = .ok (.iload_n 3, 1) := by decide +kernel
theorem dX10_othersHeardIn_5 : decode cX10_othersHeardIn 5 = .ok (.aload_n 0, 1) := by decide +kernel
theorem dX10_othersHeardIn_6 : decode cX10_othersHeardIn 6 = .ok (.getfield 24, 3) := by decide +kernel
theorem dX10_othersHeardIn_9 : decode cX10_othersHeardIn 9 = .ok (.if_icmp .ge 30, 3) := by decide +kernel
theorem dX10_othersHeardIn_12 : decode cX10_othersHeardIn 12 = .ok (.iload_n 3, 1) := by decide +kernel
theorem dX10_othersHeardIn_13 : decode cX10_othersHeardIn 13 = .ok (.iload_n 1, 1) := by decide +kernel
theorem dX10_othersHeardIn_14 : decode cX10_othersHeardIn 14 = .ok (.if_icmp .eq 19, 3) := by decide +kernel
theorem dX10_othersHeardIn_17 : decode cX10_othersHeardIn 17 = .ok (.aload_n 0, 1) := by decide +kernel
theorem dX10_othersHeardIn_18 : decode cX10_othersHeardIn 18 = .ok (.iload_n 3, 1) := by decide +kernel
theorem dX10_othersHeardIn_19 : decode cX10_othersHeardIn 19 = .ok (.invokevirtual 59, 3) := by decide +kernel
theorem dX10_othersHeardIn_22 : decode cX10_othersHeardIn 22 = .ok (.iload_n 1, 1) := by decide +kernel
theorem dX10_othersHeardIn_23 : decode cX10_othersHeardIn 23 = .ok (.ishr, 1) := by decide +kernel
theorem dX10_othersHeardIn_24 : decode cX10_othersHeardIn 24 = .ok (.iconst 1, 1) := by decide +kernel
theorem dX10_othersHeardIn_25 : decode cX10_othersHeardIn 25 = .ok (.iand, 1) := by decide +kernel
theorem dX10_othersHeardIn_26 : decode cX10_othersHeardIn 26 = .ok (.iconst 1, 1) := by decide +kernel
theorem dX10_othersHeardIn_27 : decode cX10_othersHeardIn 27 = .ok (.if_icmp .ne 6, 3) := by decide +kernel
theorem dX10_othersHeardIn_30 : decode cX10_othersHeardIn 30 = .ok (.iinc 2 1, 3) := by decide +kernel
theorem dX10_othersHeardIn_33 : decode cX10_othersHeardIn 33 = .ok (.iinc 3 1, 3) := by decide +kernel
theorem dX10_othersHeardIn_36 : decode cX10_othersHeardIn 36 = .ok (.goto (-32), 3) := by decide +kernel
theorem dX10_othersHeardIn_39 : decode cX10_othersHeardIn 39 = .ok (.iload_n 2, 1) := by decide +kernel
theorem dX10_othersHeardIn_40 : decode cX10_othersHeardIn 40 = .ok (.ireturn, 1) := by decide +kernel
theorem dX10_bestToListen_0 : decode cX10_bestToListen 0 = .ok (.iconst 0, 1) := by decide +kernel
theorem dX10_bestToListen_1 : decode cX10_bestToListen 1 = .ok (.istore_n 1, 1) := by decide +kernel
theorem dX10_bestToListen_2 : decode cX10_bestToListen 2 = .ok (.aload_n 0, 1) := by decide +kernel
theorem dX10_bestToListen_3 : decode cX10_bestToListen 3 = .ok (.iconst 0, 1) := by decide +kernel
theorem dX10_bestToListen_4 : decode cX10_bestToListen 4 = .ok (.invokevirtual 38, 3) := by decide +kernel
theorem dX10_bestToListen_7 : decode cX10_bestToListen 7 = .ok (.istore_n 2, 1) := by decide +kernel
theorem dX10_bestToListen_8 : decode cX10_bestToListen 8 = .ok (.iconst 1, 1) := by decide +kernel
theorem dX10_bestToListen_9 : decode cX10_bestToListen 9 = .ok (.istore_n 3, 1) := by decide +kernel
theorem dX10_bestToListen_10 : decode cX10_bestToListen 10 = .ok (.iload_n 3, 1) := by decide +kernel
theorem dX10_bestToListen_11 : decode cX10_bestToListen 11 = .ok (.aload_n 0, 1) := by decide +kernel
theorem dX10_bestToListen_12 : decode cX10_bestToListen 12 = .ok (.getfield 24, 3) := by decide +kernel
theorem dX10_bestToListen_15 : decode cX10_bestToListen 15 = .ok (.if_icmp .ge 27, 3) := by decide +kernel
theorem dX10_bestToListen_18 : decode cX10_bestToListen 18 = .ok (.aload_n 0, 1) := by decide +kernel
theorem dX10_bestToListen_19 : decode cX10_bestToListen 19 = .ok (.iload_n 3, 1) := by decide +kernel
theorem dX10_bestToListen_20 : decode cX10_bestToListen 20 = .ok (.invokevirtual 38, 3) := by decide +kernel
theorem dX10_bestToListen_23 : decode cX10_bestToListen 23 = .ok (.istore 4, 2) := by decide +kernel
theorem dX10_bestToListen_25 : decode cX10_bestToListen 25 = .ok (.iload 4, 2) := by decide +kernel
theorem dX10_bestToListen_27 : decode cX10_bestToListen 27 = .ok (.iload_n 2, 1) := by decide +kernel
theorem dX10_bestToListen_28 : decode cX10_bestToListen 28 = .ok (.if_icmp .le 8, 3) := by decide +kernel
theorem dX10_bestToListen_31 : decode cX10_bestToListen 31 = .ok (.iload 4, 2) := by decide +kernel
theorem dX10_bestToListen_33 : decode cX10_bestToListen 33 = .ok (.istore_n 2, 1) := by decide +kernel
theorem dX10_bestToListen_34 : decode cX10_bestToListen 34 = .ok (.iload_n 3, 1) := by decide +kernel
theorem dX10_bestToListen_35 : decode cX10_bestToListen 35 = .ok (.istore_n 1, 1) := by decide +kernel
theorem dX10_bestToListen_36 : decode cX10_bestToListen 36 = .ok (.iinc 3 1, 3) := by decide +kernel
theorem dX10_bestToListen_39 : decode cX10_bestToListen 39 = .ok (.goto (-29), 3) := by decide +kernel
theorem dX10_bestToListen_42 : decode cX10_bestToListen 42 = .ok (.iload_n 1, 1) := by decide +kernel
theorem dX10_bestToListen_43 : decode cX10_bestToListen 43 = .ok (.ireturn, 1) := by decide +kernel
theorem dX10_fewestGuards_0 : decode cX10_fewestGuards 0 = .ok (.iconst 0, 1) := by decide +kernel
theorem dX10_fewestGuards_1 : decode cX10_fewestGuards 1 = .ok (.istore_n 1, 1) := by decide +kernel
theorem dX10_fewestGuards_2 : decode cX10_fewestGuards 2 = .ok (.iload_n 1, 1) := by decide +kernel
theorem dX10_fewestGuards_3 : decode cX10_fewestGuards 3 = .ok (.aload_n 0, 1) := by decide +kernel
theorem dX10_fewestGuards_4 : decode cX10_fewestGuards 4 = .ok (.getfield 24, 3) := by decide +kernel
theorem dX10_fewestGuards_7 : decode cX10_fewestGuards 7 = .ok (.if_icmp .ge 26, 3) := by decide +kernel
theorem dX10_fewestGuards_10 : decode cX10_fewestGuards 10 = .ok (.iload_n 1, 1) := by decide +kernel
theorem dX10_fewestGuards_11 : decode cX10_fewestGuards 11 = .ok (.bipush 9, 2) := by decide +kernel
theorem dX10_fewestGuards_13 : decode cX10_fewestGuards 13 = .ok (.if_icmp .ge 20, 3) := by decide +kernel
theorem dX10_fewestGuards_16 : decode cX10_fewestGuards 16 = .ok (.aload_n 0, 1) := by decide +kernel
theorem dX10_fewestGuards_17 : decode cX10_fewestGuards 17 = .ok (.getfield 21, 3) := by decide +kernel
theorem dX10_fewestGuards_20 : decode cX10_fewestGuards 20 = .ok (.iload_n 1, 1) := by decide +kernel
theorem dX10_fewestGuards_21 : decode cX10_fewestGuards 21 = .ok (.aload_n 0, 1) := by decide +kernel
theorem dX10_fewestGuards_22 : decode cX10_fewestGuards 22 = .ok (.iload_n 1, 1) := by decide +kernel
theorem dX10_fewestGuards_23 : decode cX10_fewestGuards 23 = .ok (.invokevirtual 59, 3) := by decide +kernel
theorem dX10_fewestGuards_26 : decode cX10_fewestGuards 26 = .ok (.iastore, 1) := by decide +kernel
theorem dX10_fewestGuards_27 : decode cX10_fewestGuards 27 = .ok (.iinc 1 1, 3) := by decide +kernel
theorem dX10_fewestGuards_30 : decode cX10_fewestGuards 30 = .ok (.goto (-28), 3) := by decide +kernel
theorem dX10_fewestGuards_33 : decode cX10_fewestGuards 33 = .ok (.iconst 1, 1) := by decide +kernel
theorem dX10_fewestGuards_34 : decode cX10_fewestGuards 34 = .ok (.aload_n 0, 1) := by decide +kernel
theorem dX10_fewestGuards_35 : decode cX10_fewestGuards 35 = .ok (.getfield 24, 3) := by decide +kernel
theorem dX10_fewestGuards_38 : decode cX10_fewestGuards 38 = .ok (.ishl, 1) := by decide +kernel
theorem dX10_fewestGuards_39 : decode cX10_fewestGuards 39 = .ok (.iconst 1, 1) := by decide +kernel
theorem dX10_fewestGuards_40 : decode cX10_fewestGuards 40 = .ok (.isub, 1) := by decide +kernel
theorem dX10_fewestGuards_41 : decode cX10_fewestGuards 41 = .ok (.istore_n 1, 1) := by decide +kernel
theorem dX10_fewestGuards_42 : decode cX10_fewestGuards 42 = .ok (.iload_n 1, 1) := by decide +kernel
theorem dX10_fewestGuards_43 : decode cX10_fewestGuards 43 = .ok (.istore_n 2, 1) := by decide +kernel
theorem dX10_fewestGuards_44 : decode cX10_fewestGuards 44 = .ok (.iconst 0, 1) := by decide +kernel
theorem dX10_fewestGuards_45 : decode cX10_fewestGuards 45 = .ok (.istore_n 3, 1) := by decide +kernel
theorem dX10_fewestGuards_46 : decode cX10_fewestGuards 46 = .ok (.iload_n 3, 1) := by decide +kernel
theorem dX10_fewestGuards_47 : decode cX10_fewestGuards 47 = .ok (.iload_n 1, 1) := by decide +kernel
theorem dX10_fewestGuards_48 : decode cX10_fewestGuards 48 = .ok (.if_icmp .ge 30, 3) := by decide +kernel
theorem dX10_fewestGuards_51 : decode cX10_fewestGuards 51 = .ok (.iload_n 3, 1) := by decide +kernel
theorem dX10_fewestGuards_52 : decode cX10_fewestGuards 52 = .ok (.invokestatic 76, 3) := by decide +kernel
theorem dX10_fewestGuards_55 : decode cX10_fewestGuards 55 = .ok (.iload_n 2, 1) := by decide +kernel
theorem dX10_fewestGuards_56 : decode cX10_fewestGuards 56 = .ok (.invokestatic 76, 3) := by decide +kernel
theorem dX10_fewestGuards_59 : decode cX10_fewestGuards 59 = .ok (.if_icmp .ge 13, 3) := by decide +kernel
theorem dX10_fewestGuards_62 : decode cX10_fewestGuards 62 = .ok (.aload_n 0, 1) := by decide +kernel
theorem dX10_fewestGuards_63 : decode cX10_fewestGuards 63 = .ok (.iload_n 3, 1) := by decide +kernel
theorem dX10_fewestGuards_64 : decode cX10_fewestGuards 64 = .ok (.invokevirtual 81, 3) := by decide +kernel
theorem dX10_fewestGuards_67 : decode cX10_fewestGuards 67 = .ok (.ifCond .eq 5, 3) := by decide +kernel
theorem dX10_fewestGuards_70 : decode cX10_fewestGuards 70 = .ok (.iload_n 3, 1) := by decide +kernel
theorem dX10_fewestGuards_71 : decode cX10_fewestGuards 71 = .ok (.istore_n 2, 1) := by decide +kernel
theorem dX10_fewestGuards_72 : decode cX10_fewestGuards 72 = .ok (.iinc 3 1, 3) := by decide +kernel
theorem dX10_fewestGuards_75 : decode cX10_fewestGuards 75 = .ok (.goto (-29), 3) := by decide +kernel
theorem dX10_fewestGuards_78 : decode cX10_fewestGuards 78 = .ok (.iload_n 2, 1) := by decide +kernel
theorem dX10_fewestGuards_79 : decode cX10_fewestGuards 79 = .ok (.ireturn, 1) := by decide +kernel
theorem dX10_allHeardBy_0 : decode cX10_allHeardBy 0 = .ok (.iconst 0, 1) := by decide +kernel
theorem dX10_allHeardBy_1 : decode cX10_allHeardBy 1 = .ok (.istore_n 2, 1) := by decide +kernel
theorem dX10_allHeardBy_2 : decode cX10_allHeardBy 2 = .ok (.iload_n 2, 1) := by decide +kernel
theorem dX10_allHeardBy_3 : decode cX10_allHeardBy 3 = .ok (.aload_n 0, 1) := by decide +kernel
theorem dX10_allHeardBy_4 : decode cX10_allHeardBy 4 = .ok (.getfield 24, 3) := by decide +kernel
theorem dX10_allHeardBy_7 : decode cX10_allHeardBy 7 = .ok (.if_icmp .ge 56, 3) := by decide +kernel
theorem dX10_allHeardBy_10 : decode cX10_allHeardBy 10 = .ok (.iload_n 2, 1) := by decide +kernel
theorem dX10_allHeardBy_11 : decode cX10_allHeardBy 11 = .ok (.bipush 9, 2) := by decide +kernel
theorem dX10_allHeardBy_13 : decode cX10_allHeardBy 13 = .ok (.if_icmp .ge 50, 3) := by decide +kernel
theorem dX10_allHeardBy_16 : decode cX10_allHeardBy 16 = .ok (.iload_n 1, 1) := by decide +kernel
theorem dX10_allHeardBy_17 : decode cX10_allHeardBy 17 = .ok (.iload_n 2, 1) := by decide +kernel
theorem dX10_allHeardBy_18 : decode cX10_allHeardBy 18 = .ok (.ishr, 1) := by decide +kernel
theorem dX10_allHeardBy_19 : decode cX10_allHeardBy 19 = .ok (.iconst 1, 1) := by decide +kernel
theorem dX10_allHeardBy_20 : decode cX10_allHeardBy 20 = .ok (.iand, 1) := by decide +kernel
theorem dX10_allHeardBy_21 : decode cX10_allHeardBy 21 = .ok (.iconst 1, 1) := by decide +kernel
theorem dX10_allHeardBy_22 : decode cX10_allHeardBy 22 = .ok (.if_icmp .ne 7, 3) := by decide +kernel
theorem dX10_allHeardBy_25 : decode cX10_allHeardBy 25 = .ok (.iconst 1, 1) := by decide +kernel
theorem dX10_allHeardBy_26 : decode cX10_allHeardBy 26 = .ok (.goto 4, 3) := by decide +kernel
theorem dX10_allHeardBy_29 : decode cX10_allHeardBy 29 = .ok (.iconst 0, 1) := by decide +kernel
theorem dX10_allHeardBy_30 : decode cX10_allHeardBy 30 = .ok (.istore_n 3, 1) := by decide +kernel
theorem dX10_allHeardBy_31 : decode cX10_allHeardBy 31 = .ok (.iload_n 3, 1) := by decide +kernel
theorem dX10_allHeardBy_32 : decode cX10_allHeardBy 32 = .ok (.ifCond .ne 25, 3) := by decide +kernel
theorem dX10_allHeardBy_35 : decode cX10_allHeardBy 35 = .ok (.aload_n 0, 1) := by decide +kernel
theorem dX10_allHeardBy_36 : decode cX10_allHeardBy 36 = .ok (.getfield 18, 3) := by decide +kernel
theorem dX10_allHeardBy_39 : decode cX10_allHeardBy 39 = .ok (.iload_n 2, 1) := by decide +kernel
theorem dX10_allHeardBy_40 : decode cX10_allHeardBy 40 = .ok (.iaload, 1) := by decide +kernel
theorem dX10_allHeardBy_41 : decode cX10_allHeardBy 41 = .ok (.ifCond .eq 16, 3) := by decide +kernel
theorem dX10_allHeardBy_44 : decode cX10_allHeardBy 44 = .ok (.aload_n 0, 1) := by decide +kernel
theorem dX10_allHeardBy_45 : decode cX10_allHeardBy 45 = .ok (.getfield 21, 3) := by decide +kernel
theorem dX10_allHeardBy_48 : decode cX10_allHeardBy 48 = .ok (.iload_n 2, 1) := by decide +kernel
theorem dX10_allHeardBy_49 : decode cX10_allHeardBy 49 = .ok (.iaload, 1) := by decide +kernel
theorem dX10_allHeardBy_50 : decode cX10_allHeardBy 50 = .ok (.iload_n 1, 1) := by decide +kernel
theorem dX10_allHeardBy_51 : decode cX10_allHeardBy 51 = .ok (.iand, 1) := by decide +kernel
theorem dX10_allHeardBy_52 : decode cX10_allHeardBy 52 = .ok (.ifCond .ne 5, 3) := by decide +kernel
theorem dX10_allHeardBy_55 : decode cX10_allHeardBy 55 = .ok (.iconst 0, 1) := by decide +kernel
theorem dX10_allHeardBy_56 : decode cX10_allHeardBy 56 = .ok (.ireturn, 1) := by decide +kernel
theorem dX10_allHeardBy_57 : decode cX10_allHeardBy 57 = .ok (.iinc 2 1, 3) := by decide +kernel
theorem dX10_allHeardBy_60 : decode cX10_allHeardBy 60 = .ok (.goto (-58), 3) := by decide +kernel
theorem dX10_allHeardBy_63 : decode cX10_allHeardBy 63 = .ok (.iconst 1, 1) := by decide +kernel
theorem dX10_allHeardBy_64 : decode cX10_allHeardBy 64 = .ok (.ireturn, 1) := by decide +kernel
theorem dX10_wrongCouples_0 : decode cX10_wrongCouples 0 = .ok (.iconst 0, 1) := by decide +kernel
theorem dX10_wrongCouples_1 : decode cX10_wrongCouples 1 = .ok (.istore_n 1, 1) := by decide +kernel
theorem dX10_wrongCouples_2 : decode cX10_wrongCouples 2 = .ok (.iconst 0, 1) := by decide +kernel
theorem dX10_wrongCouples_3 : decode cX10_wrongCouples 3 = .ok (.istore_n 2, 1) := by decide +kernel
theorem dX10_wrongCouples_4 : decode cX10_wrongCouples 4 = .ok (.iload_n 2, 1) := by decide +kernel
theorem dX10_wrongCouples_5 : decode cX10_wrongCouples 5 = .ok (.iconst 1, 1) := by decide +kernel
theorem dX10_wrongCouples_6 : decode cX10_wrongCouples 6 = .ok (.iadd, 1) := by decide +kernel
theorem dX10_wrongCouples_7 : decode cX10_wrongCouples 7 = .ok (.aload_n 0, 1) := by decide +kernel
theorem dX10_wrongCouples_8 : decode cX10_wrongCouples 8 = .ok (.getfield 24, 3) := by decide +kernel
theorem dX10_wrongCouples_11 : decode cX10_wrongCouples 11 = .ok (.if_icmp .ge 79, 3) := by decide +kernel
theorem dX10_wrongCouples_14 : decode cX10_wrongCouples 14 = .ok (.iload_n 2, 1) := by decide +kernel
theorem dX10_wrongCouples_15 : decode cX10_wrongCouples 15 = .ok (.iconst 1, 1) := by decide +kernel
theorem dX10_wrongCouples_16 : decode cX10_wrongCouples 16 = .ok (.iadd, 1) := by decide +kernel
theorem dX10_wrongCouples_17 : decode cX10_wrongCouples 17 = .ok (.bipush 9, 2) := by decide +kernel
theorem dX10_wrongCouples_19 : decode cX10_wrongCouples 19 = .ok (.if_icmp .ge 71, 3) := by decide +kernel
theorem dX10_wrongCouples_22 : decode cX10_wrongCouples 22 = .ok (.aload_n 0, 1) := by decide +kernel
theorem dX10_wrongCouples_23 : decode cX10_wrongCouples 23 = .ok (.getfield 11, 3) := by decide +kernel
theorem dX10_wrongCouples_26 : decode cX10_wrongCouples 26 = .ok (.iload_n 2, 1) := by decide +kernel
theorem dX10_wrongCouples_27 : decode cX10_wrongCouples 27 = .ok (.iaload, 1) := by decide +kernel
theorem dX10_wrongCouples_28 : decode cX10_wrongCouples 28 = .ok (.aload_n 0, 1) := by decide +kernel
theorem dX10_wrongCouples_29 : decode cX10_wrongCouples 29 = .ok (.getfield 18, 3) := by decide +kernel
theorem dX10_wrongCouples_32 : decode cX10_wrongCouples 32 = .ok (.iload_n 2, 1) := by decide +kernel
theorem dX10_wrongCouples_33 : decode cX10_wrongCouples 33 = .ok (.iaload, 1) := by decide +kernel
theorem dX10_wrongCouples_34 : decode cX10_wrongCouples 34 = .ok (.if_icmp .ge 24, 3) := by decide +kernel
theorem dX10_wrongCouples_37 : decode cX10_wrongCouples 37 = .ok (.aload_n 0, 1) := by decide +kernel
theorem dX10_wrongCouples_38 : decode cX10_wrongCouples 38 = .ok (.getfield 11, 3) := by decide +kernel
theorem dX10_wrongCouples_41 : decode cX10_wrongCouples 41 = .ok (.iload_n 2, 1) := by decide +kernel
theorem dX10_wrongCouples_42 : decode cX10_wrongCouples 42 = .ok (.iaload, 1) := by decide +kernel
theorem dX10_wrongCouples_43 : decode cX10_wrongCouples 43 = .ok (.aload_n 0, 1) := by decide +kernel
theorem dX10_wrongCouples_44 : decode cX10_wrongCouples 44 = .ok (.getfield 18, 3) := by decide +kernel
theorem dX10_wrongCouples_47 : decode cX10_wrongCouples 47 = .ok (.iload_n 2, 1) := by decide +kernel
theorem dX10_wrongCouples_48 : decode cX10_wrongCouples 48 = .ok (.iconst 1, 1) := by decide +kernel
theorem dX10_wrongCouples_49 : decode cX10_wrongCouples 49 = .ok (.iadd, 1) := by decide +kernel
theorem dX10_wrongCouples_50 : decode cX10_wrongCouples 50 = .ok (.iaload, 1) := by decide +kernel
theorem dX10_wrongCouples_51 : decode cX10_wrongCouples 51 = .ok (.if_icmp .ge 7, 3) := by decide +kernel
theorem dX10_wrongCouples_54 : decode cX10_wrongCouples 54 = .ok (.iconst 1, 1) := by decide +kernel
theorem dX10_wrongCouples_55 : decode cX10_wrongCouples 55 = .ok (.goto 4, 3) := by decide +kernel
theorem dX10_wrongCouples_58 : decode cX10_wrongCouples 58 = .ok (.iconst 0, 1) := by decide +kernel
theorem dX10_wrongCouples_59 : decode cX10_wrongCouples 59 = .ok (.istore_n 3, 1) := by decide +kernel
theorem dX10_wrongCouples_60 : decode cX10_wrongCouples 60 = .ok (.aload_n 0, 1) := by decide +kernel
theorem dX10_wrongCouples_61 : decode cX10_wrongCouples 61 = .ok (.getfield 15, 3) := by decide +kernel
theorem dX10_wrongCouples_64 : decode cX10_wrongCouples 64 = .ok (.iload_n 2, 1) := by decide +kernel
theorem dX10_wrongCouples_65 : decode cX10_wrongCouples 65 = .ok (.iaload, 1) := by decide +kernel
theorem dX10_wrongCouples_66 : decode cX10_wrongCouples 66 = .ok (.aload_n 0, 1) := by decide +kernel
theorem dX10_wrongCouples_67 : decode cX10_wrongCouples 67 = .ok (.getfield 15, 3) := by decide +kernel
theorem dX10_wrongCouples_70 : decode cX10_wrongCouples 70 = .ok (.iload_n 2, 1) := by decide +kernel
theorem dX10_wrongCouples_71 : decode cX10_wrongCouples 71 = .ok (.iconst 1, 1) := by decide +kernel
theorem dX10_wrongCouples_72 : decode cX10_wrongCouples 72 = .ok (.iadd, 1) := by decide +kernel
theorem dX10_wrongCouples_73 : decode cX10_wrongCouples 73 = .ok (.iaload, 1) := by decide +kernel
theorem dX10_wrongCouples_74 : decode cX10_wrongCouples 74 = .ok (.if_icmp .eq 10, 3) := by decide +kernel
theorem dX10_wrongCouples_77 : decode cX10_wrongCouples 77 = .ok (.iload_n 3, 1) := by decide +kernel
theorem dX10_wrongCouples_78 : decode cX10_wrongCouples 78 = .ok (.ifCond .eq 6, 3) := by decide +kernel
theorem dX10_wrongCouples_81 : decode cX10_wrongCouples 81 = .ok (.iinc 1 1, 3) := by decide +kernel
theorem dX10_wrongCouples_84 : decode cX10_wrongCouples 84 = .ok (.iinc 2 1, 3) := by decide +kernel
theorem dX10_wrongCouples_87 : decode cX10_wrongCouples 87 = .ok (.goto (-83), 3) := by decide +kernel
theorem dX10_wrongCouples_90 : decode cX10_wrongCouples 90 = .ok (.iload_n 1, 1) := by decide +kernel
theorem dX10_wrongCouples_91 : decode cX10_wrongCouples 91 = .ok (.ireturn, 1) := by decide +kernel
theorem dX10_hushing_0 : decode cX10_hushing 0 = .ok (.iconst 0, 1) := by decide +kernel
theorem dX10_hushing_1 : decode cX10_hushing 1 = .ok (.istore_n 1, 1) := by decide +kernel
theorem dX10_hushing_2 : decode cX10_hushing 2 = .ok (.iconst 0, 1) := by decide +kernel
theorem dX10_hushing_3 : decode cX10_hushing 3 = .ok (.istore_n 2, 1) := by decide +kernel
theorem dX10_hushing_4 : decode cX10_hushing 4 = .ok (.iload_n 2, 1) := by decide +kernel
theorem dX10_hushing_5 : decode cX10_hushing 5 = .ok (.iconst 1, 1) := by decide +kernel
theorem dX10_hushing_6 : decode cX10_hushing 6 = .ok (.iadd, 1) := by decide +kernel
theorem dX10_hushing_7 : decode cX10_hushing 7 = .ok (.aload_n 0, 1) := by decide +kernel
theorem dX10_hushing_8 : decode cX10_hushing 8 = .ok (.getfield 24, 3) := by decide +kernel
theorem dX10_hushing_11 : decode cX10_hushing 11 = .ok (.if_icmp .ge 46, 3) := by decide +kernel
theorem dX10_hushing_14 : decode cX10_hushing 14 = .ok (.iload_n 2, 1) := by decide +kernel
theorem dX10_hushing_15 : decode cX10_hushing 15 = .ok (.iconst 1, 1) := by decide +kernel
theorem dX10_hushing_16 : decode cX10_hushing 16 = .ok (.iadd, 1) := by decide +kernel
theorem dX10_hushing_17 : decode cX10_hushing 17 = .ok (.bipush 9, 2) := by decide +kernel
theorem dX10_hushing_19 : decode cX10_hushing 19 = .ok (.if_icmp .ge 38, 3) := by decide +kernel
theorem dX10_hushing_22 : decode cX10_hushing 22 = .ok (.iload_n 1, 1) := by decide +kernel
theorem dX10_hushing_23 : decode cX10_hushing 23 = .ok (.aload_n 0, 1) := by decide +kernel
theorem dX10_hushing_24 : decode cX10_hushing 24 = .ok (.getfield 18, 3) := by decide +kernel
theorem dX10_hushing_27 : decode cX10_hushing 27 = .ok (.iload_n 2, 1) := by decide +kernel
theorem dX10_hushing_28 : decode cX10_hushing 28 = .ok (.iaload, 1) := by decide +kernel
theorem dX10_hushing_29 : decode cX10_hushing 29 = .ok (.aload_n 0, 1) := by decide +kernel
theorem dX10_hushing_30 : decode cX10_hushing 30 = .ok (.getfield 18, 3) := by decide +kernel
theorem dX10_hushing_33 : decode cX10_hushing 33 = .ok (.iload_n 2, 1) := by decide +kernel
theorem dX10_hushing_34 : decode cX10_hushing 34 = .ok (.iconst 1, 1) := by decide +kernel
theorem dX10_hushing_35 : decode cX10_hushing 35 = .ok (.iadd, 1) := by decide +kernel
theorem dX10_hushing_36 : decode cX10_hushing 36 = .ok (.iaload, 1) := by decide +kernel
theorem dX10_hushing_37 : decode cX10_hushing 37 = .ok (.invokestatic 67, 3) := by decide +kernel
theorem dX10_hushing_40 : decode cX10_hushing 40 = .ok (.aload_n 0, 1) := by decide +kernel
theorem dX10_hushing_41 : decode cX10_hushing 41 = .ok (.getfield 11, 3) := by decide +kernel
theorem dX10_hushing_44 : decode cX10_hushing 44 = .ok (.iload_n 2, 1) := by decide +kernel
theorem dX10_hushing_45 : decode cX10_hushing 45 = .ok (.iaload, 1) := by decide +kernel
theorem dX10_hushing_46 : decode cX10_hushing 46 = .ok (.isub, 1) := by decide +kernel
theorem dX10_hushing_47 : decode cX10_hushing 47 = .ok (.invokestatic 67, 3) := by decide +kernel
theorem dX10_hushing_50 : decode cX10_hushing 50 = .ok (.istore_n 1, 1) := by decide +kernel
theorem dX10_hushing_51 : decode cX10_hushing 51 = .ok (.iinc 2 1, 3) := by decide +kernel
theorem dX10_hushing_54 : decode cX10_hushing 54 = .ok (.goto (-50), 3) := by decide +kernel
theorem dX10_hushing_57 : decode cX10_hushing 57 = .ok (.iload_n 1, 1) := by decide +kernel
theorem dX10_hushing_58 : decode cX10_hushing 58 = .ok (.ireturn, 1) := by decide +kernel
theorem dX11_init_0 : decode cX11_init 0 = .ok (.aload_n 0, 1) := by decide +kernel
theorem dX11_init_1 : decode cX11_init 1 = .ok (.invokespecial 1, 3) := by decide +kernel
theorem dX11_init_4 : decode cX11_init 4 = .ok (.aload_n 0, 1) := by decide +kernel
theorem dX11_init_5 : decode cX11_init 5 = .ok (.new 7, 3) := by decide +kernel
theorem dX11_init_8 : decode cX11_init 8 = .ok (.dup, 1) := by decide +kernel
theorem dX11_init_9 : decode cX11_init 9 = .ok (.invokespecial 9, 3) := by decide +kernel
theorem dX11_init_12 : decode cX11_init 12 = .ok (.putfield 10, 3) := by decide +kernel
theorem dX11_init_15 : decode cX11_init 15 = .ok (.aload_n 0, 1) := by decide +kernel
theorem dX11_init_16 : decode cX11_init 16 = .ok (.iconst 3, 1) := by decide +kernel
theorem dX11_init_17 : decode cX11_init 17 = .ok (.anewarray 7, 3) := by decide +kernel
theorem dX11_init_20 : decode cX11_init 20 = .ok (.putfield 16, 3) := by decide +kernel
theorem dX11_init_23 : decode cX11_init 23 = .ok (.aload_n 0, 1) := by decide +kernel
theorem dX11_init_24 : decode cX11_init 24 = .ok (.new 20, 3) := by decide +kernel
theorem dX11_init_27 : decode cX11_init 27 = .ok (.dup, 1) := by decide +kernel
theorem dX11_init_28 : decode cX11_init 28 = .ok (.invokespecial 22, 3) := by decide +kernel
theorem dX11_init_31 : decode cX11_init 31 = .ok (.putfield 23, 3) := by decide +kernel
theorem dX11_init_34 : decode cX11_init 34 = .ok (.aload_n 0, 1) := by decide +kernel
theorem dX11_init_35 : decode cX11_init 35 = .ok (.new 27, 3) := by decide +kernel
theorem dX11_init_38 : decode cX11_init 38 = .ok (.dup, 1) := by decide +kernel
theorem dX11_init_39 : decode cX11_init 39 = .ok (.invokespecial 29, 3) := by decide +kernel
theorem dX11_init_42 : decode cX11_init 42 = .ok (.putfield 30, 3) := by decide +kernel
theorem dX11_init_45 : decode cX11_init 45 = .ok (.aload_n 0, 1) := by decide +kernel
theorem dX11_init_46 : decode cX11_init 46 = .ok (.new 34, 3) := by decide +kernel
theorem dX11_init_49 : decode cX11_init 49 = .ok (.dup, 1) := by decide +kernel
theorem dX11_init_50 : decode cX11_init 50 = .ok (.invokespecial 36, 3) := by decide +kernel
theorem dX11_init_53 : decode cX11_init 53 = .ok (.putfield 37, 3) := by decide +kernel
theorem dX11_init_56 : decode cX11_init 56 = .ok (.aload_n 0, 1) := by decide +kernel
theorem dX11_init_57 : decode cX11_init 57 = .ok (.new 41, 3) := by decide +kernel
theorem dX11_init_60 : decode cX11_init 60 = .ok (.dup, 1) := by decide +kernel
theorem dX11_init_61 : decode cX11_init 61 = .ok (.invokespecial 43, 3) := by decide +kernel
theorem dX11_init_64 : decode cX11_init 64 = .ok (.putfield 44, 3) := by decide +kernel
theorem dX11_init_67 : decode cX11_init 67 = .ok (.aload_n 0, 1) := by decide +kernel
theorem dX11_init_68 : decode cX11_init 68 = .ok (.new 48, 3) := by decide +kernel
theorem dX11_init_71 : decode cX11_init 71 = .ok (.dup, 1) := by decide +kernel
theorem dX11_init_72 : decode cX11_init 72 = .ok (.invokespecial 50, 3) := by decide +kernel
theorem dX11_init_75 : decode cX11_init 75 = .ok (.putfield 51, 3) := by decide +kernel
theorem dX11_init_78 : decode cX11_init 78 = .ok (.aload_n 0, 1) := by decide +kernel
theorem dX11_init_79 : decode cX11_init 79 = .ok (.new 55, 3) := by decide +kernel
theorem dX11_init_82 : decode cX11_init 82 = .ok (.dup, 1) := by decide +kernel
theorem dX11_init_83 : decode cX11_init 83 = .ok (.invokespecial 57, 3) := by decide +kernel
theorem dX11_init_86 : decode cX11_init 86 = .ok (.putfield 58, 3) := by decide +kernel
theorem dX11_init_89 : decode cX11_init 89 = .ok (.return_, 1) := by decide +kernel
theorem dX11_feed_0 : decode cX11_feed 0 = .ok (.aload_n 0, 1) := by decide +kernel
theorem dX11_feed_1 : decode cX11_feed 1 = .ok (.getfield 10, 3) := by decide +kernel
theorem dX11_feed_4 : decode cX11_feed 4 = .ok (.getfield 62, 3) := by decide +kernel
theorem dX11_feed_7 : decode cX11_feed 7 = .ok (.bipush 20, 2) := by decide +kernel
theorem dX11_feed_9 : decode cX11_feed 9 = .ok (.iadd, 1) := by decide +kernel
theorem dX11_feed_10 : decode cX11_feed 10 = .ok (.sipush 600, 3) := by decide +kernel
theorem dX11_feed_13 : decode cX11_feed 13 = .ok (.if_icmp .le 5, 3) := by decide +kernel
theorem dX11_feed_16 : decode cX11_feed 16 = .ok (.iconst (-1), 1) := by decide +kernel
theorem dX11_feed_17 : decode cX11_feed 17 = .ok (.ireturn, 1) := by decide +kernel
theorem dX11_feed_18 : decode cX11_feed 18 = .ok (.aload_n 0, 1) := by decide +kernel
theorem dX11_feed_19 : decode cX11_feed 19 = .ok (.getfield 10, 3) := by decide +kernel
theorem dX11_feed_22 : decode cX11_feed 22 = .ok (.iload_n 1, 1) := by decide +kernel
theorem dX11_feed_23 : decode cX11_feed 23 = .ok (.invokevirtual 66, 3) := by decide +kernel
theorem dX11_feed_26 : decode cX11_feed 26 = .ok (.aload_n 0, 1) := by decide +kernel
theorem dX11_feed_27 : decode cX11_feed 27 = .ok (.getfield 10, 3) := by decide +kernel
theorem dX11_feed_30 : decode cX11_feed 30 = .ok (.iload_n 2, 1) := by decide +kernel
theorem dX11_feed_31 : decode cX11_feed 31 = .ok (.invokevirtual 66, 3) := by decide +kernel
theorem dX11_feed_34 : decode cX11_feed 34 = .ok (.aload_n 0, 1) := by decide +kernel
theorem dX11_feed_35 : decode cX11_feed 35 = .ok (.getfield 10, 3) := by decide +kernel
theorem dX11_feed_38 : decode cX11_feed 38 = .ok (.iload_n 3, 1) := by decide +kernel
theorem dX11_feed_39 : decode cX11_feed 39 = .ok (.invokevirtual 66, 3) := by decide +kernel
theorem dX11_feed_42 : decode cX11_feed 42 = .ok (.aload_n 0, 1) := by decide +kernel
theorem dX11_feed_43 : decode cX11_feed 43 = .ok (.getfield 10, 3) := by decide +kernel
theorem dX11_feed_46 : decode cX11_feed 46 = .ok (.iload 4, 2) := by decide +kernel
theorem dX11_feed_48 : decode cX11_feed 48 = .ok (.invokevirtual 66, 3) := by decide +kernel
theorem dX11_feed_51 : decode cX11_feed 51 = .ok (.aload_n 0, 1) := by decide +kernel
theorem dX11_feed_52 : decode cX11_feed 52 = .ok (.getfield 10, 3) := by decide +kernel
theorem dX11_feed_55 : decode cX11_feed 55 = .ok (.iload 5, 2) := by decide +kernel
theorem dX11_feed_57 : decode cX11_feed 57 = .ok (.invokevirtual 66, 3) := by decide +kernel
theorem dX11_feed_60 : decode cX11_feed 60 = .ok (.aload_n 0, 1) := by decide +kernel
theorem dX11_feed_61 : decode cX11_feed 61 = .ok (.getfield 10, 3) := by decide +kernel
theorem dX11_feed_64 : decode cX11_feed 64 = .ok (.getfield 62, 3) := by decide +kernel
theorem dX11_feed_67 : decode cX11_feed 67 = .ok (.ireturn, 1) := by decide +kernel
theorem dX11_end_0 : decode cX11_end 0 = .ok (.iload_n 1, 1) := by decide +kernel
theorem dX11_end_1 : decode cX11_end 1 = .ok (.ifCond .lt 14, 3) := by decide +kernel
theorem dX11_end_4 : decode cX11_end 4 = .ok (.iload_n 1, 1) := by decide +kernel
theorem dX11_end_5 : decode cX11_end 5 = .ok (.aload_n 0, 1) := by decide +kernel
theorem dX11_end_6 : decode cX11_end 6 = .ok (.getfield 10, 3) := by decide +kernel
theorem dX11_end_9 : decode cX11_end 9 = .ok (.getfield 62, 3) := by decide +kernel
theorem dX11_end_12 : decode cX11_end 12 = .ok (.if_icmp .le 5, 3) := by decide +kernel
theorem dX11_end_15 : decode cX11_end 15 = .ok (.iconst (-1), 1) := by decide +kernel
theorem dX11_end_16 : decode cX11_end 16 = .ok (.ireturn, 1) := by decide +kernel
theorem dX11_end_17 : decode cX11_end 17 = .ok (.aload_n 0, 1) := by decide +kernel
theorem dX11_end_18 : decode cX11_end 18 = .ok (.getfield 10, 3) := by decide +kernel
theorem dX11_end_21 : decode cX11_end 21 = .ok (.iload_n 1, 1) := by decide +kernel
theorem dX11_end_22 : decode cX11_end 22 = .ok (.putfield 62, 3) := by decide +kernel
theorem dX11_end_25 : decode cX11_end 25 = .ok (.iload_n 1, 1) := by decide +kernel
theorem dX11_end_26 : decode cX11_end 26 = .ok (.ireturn, 1) := by decide +kernel
theorem dX11_text_0 : decode cX11_text 0 = .ok (.aload_n 0, 1) := by decide +kernel
theorem dX11_text_1 : decode cX11_text 1 = .ok (.getfield 10, 3) := by decide +kernel
theorem dX11_text_4 : decode cX11_text 4 = .ok (.iload_n 1, 1) := by decide +kernel
theorem dX11_text_5 : decode cX11_text 5 = .ok (.invokevirtual 70, 3) := by decide +kernel
theorem dX11_text_8 : decode cX11_text 8 = .ok (.istore_n 3, 1) := by decide +kernel
theorem dX11_text_9 : decode cX11_text 9 = .ok (.iload_n 2, 1) := by decide +kernel
theorem dX11_text_10 : decode cX11_text 10 = .ok (.iconst (-1), 1) := by decide +kernel
theorem dX11_text_11 : decode cX11_text 11 = .ok (.if_icmp .ne 20, 3) := by decide +kernel
theorem dX11_text_14 : decode cX11_text 14 = .ok (.iload_n 3, 1) := by decide +kernel
theorem dX11_text_15 : decode cX11_text 15 = .ok (.ifCond .lt 12, 3) := by decide +kernel
theorem dX11_text_18 : decode cX11_text 18 = .ok (.iload_n 3, 1) := by decide +kernel
theorem dX11_text_19 : decode cX11_text 19 = .ok (.iconst 2, 1) := by decide +kernel
theorem dX11_text_20 : decode cX11_text 20 = .ok (.if_icmp .ge 7, 3) := by decide +kernel
theorem dX11_text_23 : decode cX11_text 23 = .ok (.iconst 1, 1) := by decide +kernel
theorem dX11_text_24 : decode cX11_text 24 = .ok (.goto 21, 3) := by decide +kernel
theorem dX11_text_27 : decode cX11_text 27 = .ok (.iconst 0, 1) := by decide +kernel
theorem dX11_text_28 : decode cX11_text 28 = .ok (.goto 17, 3) := by decide +kernel
theorem dX11_text_31 : decode cX11_text 31 = .ok (.iload_n 2, 1) := by decide +kernel
theorem dX11_text_32 : decode cX11_text 32 = .ok (.ifCond .lt 12, 3) := by decide +kernel
theorem dX11_text_35 : decode cX11_text 35 = .ok (.iload_n 2, 1) := by decide +kernel
theorem dX11_text_36 : decode cX11_text 36 = .ok (.iload_n 3, 1) := by decide +kernel
theorem dX11_text_37 : decode cX11_text 37 = .ok (.if_icmp .ge 7, 3) := by decide +kernel
theorem dX11_text_40 : decode cX11_text 40 = .ok (.iconst 1, 1) := by decide +kernel
theorem dX11_text_41 : decode cX11_text 41 = .ok (.goto 4, 3) := by decide +kernel
theorem dX11_text_44 : decode cX11_text 44 = .ok (.iconst 0, 1) := by decide +kernel
theorem dX11_text_45 : decode cX11_text 45 = .ok (.istore 4, 2) := by decide +kernel
theorem dX11_text_47 : decode cX11_text 47 = .ok (.iload 4, 2) := by decide +kernel
theorem dX11_text_49 : decode cX11_text 49 = .ok (.ifCond .ne 30, 3) := by decide +kernel
theorem dX11_text_52 : decode cX11_text 52 = .ok (.aload_n 0, 1) := by decide +kernel
theorem dX11_text_53 : decode cX11_text 53 = .ok (.getfield 10, 3) := by decide +kernel
theorem dX11_text_56 : decode cX11_text 56 = .ok (.iconst 0, 1) := by decide +kernel
theorem dX11_text_57 : decode cX11_text 57 = .ok (.putfield 62, 3) := by decide +kernel
theorem dX11_text_60 : decode cX11_text 60 = .ok (.aload_n 0, 1) := by decide +kernel
theorem dX11_text_61 : decode cX11_text 61 = .ok (.getfield 10, 3) := by decide +kernel
theorem dX11_text_64 : decode cX11_text 64 = .ok (.iconst 0, 1) := by decide +kernel
theorem dX11_text_65 : decode cX11_text 65 = .ok (.putfield 74, 3) := by decide +kernel
theorem dX11_text_68 : decode cX11_text 68 = .ok (.aload_n 0, 1) := by decide +kernel
theorem dX11_text_69 : decode cX11_text 69 = .ok (.getfield 10, 3) := by decide +kernel
theorem dX11_text_72 : decode cX11_text 72 = .ok (.iconst (-1), 1) := by decide +kernel
theorem dX11_text_73 : decode cX11_text 73 = .ok (.putfield 77, 3) := by decide +kernel
theorem dX11_text_76 : decode cX11_text 76 = .ok (.bipush (-2), 2) := by decide +kernel
theorem dX11_text_78 : decode cX11_text 78 = .ok (.ireturn, 1) := by decide +kernel
theorem dX11_text_79 : decode cX11_text 79 = .ok (.aload_n 0, 1) := by decide +kernel
theorem dX11_text_80 : decode cX11_text 80 = .ok (.getfield 23, 3) := by decide +kernel
theorem dX11_text_83 : decode cX11_text 83 = .ok (.aload_n 0, 1) := by decide +kernel
theorem dX11_text_84 : decode cX11_text 84 = .ok (.getfield 10, 3) := by decide +kernel
theorem dX11_text_87 : decode cX11_text 87 = .ok (.iload_n 1, 1) := by decide +kernel
theorem dX11_text_88 : decode cX11_text 88 = .ok (.invokevirtual 80, 3) := by decide +kernel
theorem dX11_text_91 : decode cX11_text 91 = .ok (.aload_n 0, 1) := by decide +kernel
theorem dX11_text_92 : decode cX11_text 92 = .ok (.getfield 10, 3) := by decide +kernel
theorem dX11_text_95 : decode cX11_text 95 = .ok (.iconst 0, 1) := by decide +kernel
theorem dX11_text_96 : decode cX11_text 96 = .ok (.putfield 62, 3) := by decide +kernel
theorem dX11_text_99 : decode cX11_text 99 = .ok (.aload_n 0, 1) := by decide +kernel
theorem dX11_text_100 : decode cX11_text 100 = .ok (.getfield 10, 3) := by decide +kernel
theorem dX11_text_103 : decode cX11_text 103 = .ok (.aload_n 0, 1) := by decide +kernel
theorem dX11_text_104 : decode cX11_text 104 = .ok (.getfield 23, 3) := by decide +kernel
theorem dX11_text_107 : decode cX11_text 107 = .ok (.getfield 84, 3) := by decide +kernel
theorem dX11_text_110 : decode cX11_text 110 = .ok (.putfield 74, 3) := by decide +kernel
theorem dX11_text_113 : decode cX11_text 113 = .ok (.aload_n 0, 1) := by decide +kernel
theorem dX11_text_114 : decode cX11_text 114 = .ok (.getfield 10, 3) := by decide +kernel
theorem dX11_text_117 : decode cX11_text 117 = .ok (.aload_n 0, 1) := by decide +kernel
theorem dX11_text_118 : decode cX11_text 118 = .ok (.getfield 23, 3) := by decide +kernel
theorem dX11_text_121 : decode cX11_text 121 = .ok (.getfield 85, 3) := by decide +kernel
theorem dX11_text_124 : decode cX11_text 124 = .ok (.putfield 77, 3) := by decide +kernel
theorem dX11_text_127 : decode cX11_text 127 = .ok (.aload_n 0, 1) := by decide +kernel
theorem dX11_text_128 : decode cX11_text 128 = .ok (.getfield 23, 3) := by decide +kernel
theorem dX11_text_131 : decode cX11_text 131 = .ok (.getfield 84, 3) := by decide +kernel
theorem dX11_text_134 : decode cX11_text 134 = .ok (.ifCond .eq 5, 3) := by decide +kernel
theorem dX11_text_137 : decode cX11_text 137 = .ok (.iconst (-1), 1) := by decide +kernel
theorem dX11_text_138 : decode cX11_text 138 = .ok (.ireturn, 1) := by decide +kernel
theorem dX11_text_139 : decode cX11_text 139 = .ok (.iload_n 2, 1) := by decide +kernel
theorem dX11_text_140 : decode cX11_text 140 = .ok (.iconst (-1), 1) := by decide +kernel
theorem dX11_text_141 : decode cX11_text 141 = .ok (.if_icmp .ne 11, 3) := by decide +kernel
theorem dX11_text_144 : decode cX11_text 144 = .ok (.aload_n 0, 1) := by decide +kernel
theorem dX11_text_145 : decode cX11_text 145 = .ok (.getfield 10, 3) := by decide +kernel
theorem dX11_text_148 : decode cX11_text 148 = .ok (.iload_n 1, 1) := by decide +kernel
theorem dX11_text_149 : decode cX11_text 149 = .ok (.invokevirtual 86, 3) := by decide +kernel
theorem dX11_text_152 : decode cX11_text 152 = .ok (.iload_n 2, 1) := by decide +kernel
theorem dX11_text_153 : decode cX11_text 153 = .ok (.iconst (-1), 1) := by decide +kernel
theorem dX11_text_154 : decode cX11_text 154 = .ok (.if_icmp .ne 7, 3) := by decide +kernel
theorem dX11_text_157 : decode cX11_text 157 = .ok (.iload_n 3, 1) := by decide +kernel
theorem dX11_text_158 : decode cX11_text 158 = .ok (.goto 4, 3) := by decide +kernel
theorem dX11_text_161 : decode cX11_text 161 = .ok (.iload_n 2, 1) := by decide +kernel
theorem dX11_text_162 : decode cX11_text 162 = .ok (.istore 5, 2) := by decide +kernel
theorem dX11_text_164 : decode cX11_text 164 = .ok (.aload_n 0, 1) := by decide +kernel
theorem dX11_text_165 : decode cX11_text 165 = .ok (.getfield 23, 3) := by decide +kernel
theorem dX11_text_168 : decode cX11_text 168 = .ok (.aload_n 0, 1) := by decide +kernel
theorem dX11_text_169 : decode cX11_text 169 = .ok (.getfield 10, 3) := by decide +kernel
theorem dX11_text_172 : decode cX11_text 172 = .ok (.iload_n 1, 1) := by decide +kernel
theorem dX11_text_173 : decode cX11_text 173 = .ok (.iload 5, 2) := by decide +kernel
theorem dX11_text_175 : decode cX11_text 175 = .ok (.invokevirtual 89, 3) := by decide +kernel
theorem dX11_text_178 : decode cX11_text 178 = .ok (.iload 5, 2) := by decide +kernel
theorem dX11_text_180 : decode cX11_text 180 = .ok (.ireturn, 1) := by decide +kernel
theorem dX11_fault_0 : decode cX11_fault 0 = .ok (.iload_n 1, 1) := by decide +kernel
theorem dX11_fault_1 : decode cX11_fault 1 = .ok (.ifCond .ne 11, 3) := by decide +kernel
theorem dX11_fault_4 : decode cX11_fault 4 = .ok (.aload_n 0, 1) := by decide +kernel
theorem dX11_fault_5 : decode cX11_fault 5 = .ok (.getfield 10, 3) := by decide +kernel
theorem dX11_fault_8 : decode cX11_fault 8 = .ok (.getfield 74, 3) := by decide +kernel
theorem dX11_fault_11 : decode cX11_fault 11 = .ok (.ireturn, 1) := by decide +kernel
theorem dX11_fault_12 : decode cX11_fault 12 = .ok (.iload_n 1, 1) := by decide +kernel
theorem dX11_fault_13 : decode cX11_fault 13 = .ok (.iconst 1, 1) := by decide +kernel
theorem dX11_fault_14 : decode cX11_fault 14 = .ok (.if_icmp .ne 13, 3) := by decide +kernel
theorem dX11_fault_17 : decode cX11_fault 17 = .ok (.aload_n 0, 1) := by decide +kernel
theorem dX11_fault_18 : decode cX11_fault 18 = .ok (.getfield 10, 3) := by decide +kernel
theorem dX11_fault_21 : decode cX11_fault 21 = .ok (.getfield 77, 3) := by decide +kernel
theorem dX11_fault_24 : decode cX11_fault 24 = .ok (.goto 4, 3) := by decide +kernel
theorem dX11_fault_27 : decode cX11_fault 27 = .ok (.iconst (-1), 1) := by decide +kernel
theorem dX11_fault_28 : decode cX11_fault 28 = .ok (.ireturn, 1) := by decide +kernel
theorem dX11_book_0 : decode cX11_book 0 = .ok (.aload_n 0, 1) := by decide +kernel
theorem dX11_book_1 : decode cX11_book 1 = .ok (.getfield 10, 3) := by decide +kernel
theorem dX11_book_4 : decode cX11_book 4 = .ok (.iload_n 1, 1) := by decide +kernel
theorem dX11_book_5 : decode cX11_book 5 = .ok (.invokevirtual 93, 3) := by decide +kernel
theorem dX11_book_8 : decode cX11_book 8 = .ok (.astore_n 3, 1) := by decide +kernel
theorem dX11_book_9 : decode cX11_book 9 = .ok (.aload_n 3, 1) := by decide +kernel
theorem dX11_book_10 : decode cX11_book 10 = .ok (.ifnonnull 8, 3) := by decide +kernel
theorem dX11_book_13 : decode cX11_book 13 = .ok (.bipush (-2), 2) := by decide +kernel
theorem dX11_book_15 : decode cX11_book 15 = .ok (.goto 8, 3) := by decide +kernel
theorem dX11_book_18 : decode cX11_book 18 = .ok (.aload_n 3, 1) := by decide +kernel
theorem dX11_book_19 : decode cX11_book 19 = .ok (.iload_n 2, 1) := by decide +kernel
theorem dX11_book_20 : decode cX11_book 20 = .ok (.invokevirtual 97, 3) := by decide +kernel
theorem dX11_book_23 : decode cX11_book 23 = .ok (.ireturn, 1) := by decide +kernel
theorem dX11_follower_0 : decode cX11_follower 0 = .ok (.aload_n 0, 1) := by decide +kernel
theorem dX11_follower_1 : decode cX11_follower 1 = .ok (.getfield 10, 3) := by decide +kernel
theorem dX11_follower_4 : decode cX11_follower 4 = .ok (.iload_n 1, 1) := by decide +kernel
theorem dX11_follower_5 : decode cX11_follower 5 = .ok (.invokevirtual 93, 3) := by decide +kernel
theorem dX11_follower_8 : decode cX11_follower 8 = .ok (.astore 4, 2) := by decide +kernel
theorem dX11_follower_10 : decode cX11_follower 10 = .ok (.aload 4, 2) := by decide +kernel
theorem dX11_follower_12 : decode cX11_follower 12 = .ok (.ifnonnull 7, 3) := by decide +kernel
theorem dX11_follower_15 : decode cX11_follower 15 = .ok (.iconst (-1), 1) := by decide +kernel
theorem dX11_follower_16 : decode cX11_follower 16 = .ok (.goto 10, 3) := by decide +kernel
theorem dX11_follower_19 : decode cX11_follower 19 = .ok (.aload 4, 2) := by decide +kernel
theorem dX11_follower_21 : decode cX11_follower 21 = .ok (.iload_n 2, 1) := by decide +kernel
theorem dX11_follower_22 : decode cX11_follower 22 = .ok (.iload_n 3, 1) := by decide +kernel
theorem dX11_follower_23 : decode cX11_follower 23 = .ok (.invokevirtual 102, 3) := by decide +kernel
theorem dX11_follower_26 : decode cX11_follower 26 = .ok (.ireturn, 1) := by decide +kernel
theorem dX11_deed_0 : decode cX11_deed 0 = .ok (.aload_n 0, 1) := by decide +kernel
theorem dX11_deed_1 : decode cX11_deed 1 = .ok (.getfield 10, 3) := by decide +kernel
theorem dX11_deed_4 : decode cX11_deed 4 = .ok (.iload_n 1, 1) := by decide +kernel
theorem dX11_deed_5 : decode cX11_deed 5 = .ok (.invokevirtual 106, 3) := by decide +kernel
theorem dX11_deed_8 : decode cX11_deed 8 = .ok (.astore 4, 2) := by decide +kernel
theorem dX11_deed_10 : decode cX11_deed 10 = .ok (.aload 4, 2) := by decide +kernel
theorem dX11_deed_12 : decode cX11_deed 12 = .ok (.ifnonnull 8, 3) := by decide +kernel
theorem dX11_deed_15 : decode cX11_deed 15 = .ok (.bipush (-2), 2) := by decide +kernel
theorem dX11_deed_17 : decode cX11_deed 17 = .ok (.goto 10, 3) := by decide +kernel
theorem dX11_deed_20 : decode cX11_deed 20 = .ok (.aload 4, 2) := by decide +kernel
theorem dX11_deed_22 : decode cX11_deed 22 = .ok (.iload_n 2, 1) := by decide +kernel
theorem dX11_deed_23 : decode cX11_deed 23 = .ok (.iload_n 3, 1) := by decide +kernel
theorem dX11_deed_24 : decode cX11_deed 24 = .ok (.invokevirtual 110, 3) := by decide +kernel
theorem dX11_deed_27 : decode cX11_deed 27 = .ok (.ireturn, 1) := by decide +kernel
theorem dX11_till_0 : decode cX11_till 0 = .ok (.aload_n 0, 1) := by decide +kernel
theorem dX11_till_1 : decode cX11_till 1 = .ok (.getfield 10, 3) := by decide +kernel
theorem dX11_till_4 : decode cX11_till 4 = .ok (.iload_n 1, 1) := by decide +kernel
theorem dX11_till_5 : decode cX11_till 5 = .ok (.invokevirtual 93, 3) := by decide +kernel
theorem dX11_till_8 : decode cX11_till 8 = .ok (.astore_n 3, 1) := by decide +kernel
theorem dX11_till_9 : decode cX11_till 9 = .ok (.aload_n 0, 1) := by decide +kernel
theorem dX11_till_10 : decode cX11_till 10 = .ok (.getfield 10, 3) := by decide +kernel
theorem dX11_till_13 : decode cX11_till 13 = .ok (.iload_n 2, 1) := by decide +kernel
theorem dX11_till_14 : decode cX11_till 14 = .ok (.invokevirtual 106, 3) := by decide +kernel
theorem dX11_till_17 : decode cX11_till 17 = .ok (.astore 4, 2) := by decide +kernel
theorem dX11_till_19 : decode cX11_till 19 = .ok (.aload_n 3, 1) := by decide +kernel
theorem dX11_till_20 : decode cX11_till 20 = .ok (.ifnull 8, 3) := by decide +kernel
theorem dX11_till_23 : decode cX11_till 23 = .ok (.aload 4, 2) := by decide +kernel
theorem dX11_till_25 : decode cX11_till 25 = .ok (.ifnonnull 5, 3) := by decide +kernel
theorem dX11_till_28 : decode cX11_till 28 = .ok (.iconst (-1), 1) := by decide +kernel
theorem dX11_till_29 : decode cX11_till 29 = .ok (.ireturn, 1) := by decide +kernel
theorem dX11_till_30 : decode cX11_till 30 = .ok (.aload_n 0, 1) := by decide +kernel
theorem dX11_till_31 : decode cX11_till 31 = .ok (.getfield 30, 3) := by decide +kernel
theorem dX11_till_34 : decode cX11_till 34 = .ok (.aload_n 3, 1) := by decide +kernel
theorem dX11_till_35 : decode cX11_till 35 = .ok (.aload 4, 2) := by decide +kernel
theorem dX11_till_37 : decode cX11_till 37 = .ok (.aload 4, 2) := by decide +kernel
theorem dX11_till_39 : decode cX11_till 39 = .ok (.getfield 114, 3) := by decide +kernel
theorem dX11_till_42 : decode cX11_till 42 = .ok (.invokevirtual 117, 3) := by decide +kernel
theorem dX11_till_45 : decode cX11_till 45 = .ok (.ireturn, 1) := by decide +kernel
theorem dX11_state_0 : decode cX11_state 0 = .ok (.aload_n 0, 1) := by decide +kernel
theorem dX11_state_1 : decode cX11_state 1 = .ok (.getfield 10, 3) := by decide +kernel
theorem dX11_state_4 : decode cX11_state 4 = .ok (.iload_n 1, 1) := by decide +kernel
theorem dX11_state_5 : decode cX11_state 5 = .ok (.invokevirtual 93, 3) := by decide +kernel
theorem dX11_state_8 : decode cX11_state 8 = .ok (.astore 5, 2) := by decide +kernel
theorem dX11_state_10 : decode cX11_state 10 = .ok (.aload_n 0, 1) := by decide +kernel
theorem dX11_state_11 : decode cX11_state 11 = .ok (.getfield 10, 3) := by decide +kernel
theorem dX11_state_14 : decode cX11_state 14 = .ok (.iload_n 2, 1) := by decide +kernel
theorem dX11_state_15 : decode cX11_state 15 = .ok (.invokevirtual 106, 3) := by decide +kernel
theorem dX11_state_18 : decode cX11_state 18 = .ok (.astore 6, 2) := by decide +kernel
theorem dX11_state_20 : decode cX11_state 20 = .ok (.aload 5, 2) := by decide +kernel
theorem dX11_state_22 : decode cX11_state 22 = .ok (.ifnull 21, 3) := by decide +kernel
theorem dX11_state_25 : decode cX11_state 25 = .ok (.aload 6, 2) := by decide +kernel
theorem dX11_state_27 : decode cX11_state 27 = .ok (.ifnull 16, 3) := by decide +kernel
theorem dX11_state_30 : decode cX11_state 30 = .ok (.iload_n 3, 1) := by decide +kernel
theorem dX11_state_31 : decode cX11_state 31 = .ok (.ifCond .lt 12, 3) := by decide +kernel
theorem dX11_state_34 : decode cX11_state 34 = .ok (.iload_n 3, 1) := by decide +kernel
theorem dX11_state_35 : decode cX11_state 35 = .ok (.aload 6, 2) := by decide +kernel
theorem dX11_state_37 : decode cX11_state 37 = .ok (.getfield 114, 3) := by decide +kernel
theorem dX11_state_40 : decode cX11_state 40 = .ok (.if_icmp .le 6, 3) := by decide +kernel
theorem dX11_state_43 : decode cX11_state 43 = .ok (.bipush (-2), 2) := by decide +kernel
theorem dX11_state_45 : decode cX11_state 45 = .ok (.ireturn, 1) := by decide +kernel
theorem dX11_state_46 : decode cX11_state 46 = .ok (.aload_n 0, 1) := by decide +kernel
theorem dX11_state_47 : decode cX11_state 47 = .ok (.getfield 30, 3) := by decide +kernel
theorem dX11_state_50 : decode cX11_state 50 = .ok (.aload 5, 2) := by decide +kernel
theorem dX11_state_52 : decode cX11_state 52 = .ok (.aload 6, 2) := by decide +kernel
theorem dX11_state_54 : decode cX11_state 54 = .ok (.iload_n 3, 1) := by decide +kernel
theorem dX11_state_55 : decode cX11_state 55 = .ok (.invokevirtual 117, 3) := by decide +kernel
theorem dX11_state_58 : decode cX11_state 58 = .ok (.iload_n 3, 1) := by decide +kernel
theorem dX11_state_59 : decode cX11_state 59 = .ok (.if_icmp .ge 6, 3) := by decide +kernel
theorem dX11_state_62 : decode cX11_state 62 = .ok (.bipush (-2), 2) := by decide +kernel
theorem dX11_state_64 : decode cX11_state 64 = .ok (.ireturn, 1) := by decide +kernel
theorem dX11_state_65 : decode cX11_state 65 = .ok (.aload_n 0, 1) := by decide +kernel
theorem dX11_state_66 : decode cX11_state 66 = .ok (.getfield 30, 3) := by decide +kernel
theorem dX11_state_69 : decode cX11_state 69 = .ok (.aload 5, 2) := by decide +kernel
theorem dX11_state_71 : decode cX11_state 71 = .ok (.iload 4, 2) := by decide +kernel
theorem dX11_state_73 : decode cX11_state 73 = .ok (.invokevirtual 121, 3) := by decide +kernel
theorem dX11_state_76 : decode cX11_state 76 = .ok (.ireturn, 1) := by decide +kernel
theorem dX11_avoid_0 : decode cX11_avoid 0 = .ok (.aload_n 0, 1) := by decide +kernel
theorem dX11_avoid_1 : decode cX11_avoid 1 = .ok (.getfield 10, 3) := by decide +kernel
theorem dX11_avoid_4 : decode cX11_avoid 4 = .ok (.iload_n 1, 1) := by decide +kernel
theorem dX11_avoid_5 : decode cX11_avoid 5 = .ok (.invokevirtual 93, 3) := by decide +kernel
theorem dX11_avoid_8 : decode cX11_avoid 8 = .ok (.astore 5, 2) := by decide +kernel
theorem dX11_avoid_10 : decode cX11_avoid 10 = .ok (.aload 5, 2) := by decide +kernel
theorem dX11_avoid_12 : decode cX11_avoid 12 = .ok (.ifnull 27, 3) := by decide +kernel
theorem dX11_avoid_15 : decode cX11_avoid 15 = .ok (.iload_n 2, 1) := by decide +kernel
theorem dX11_avoid_16 : decode cX11_avoid 16 = .ok (.invokestatic 124, 3) := by decide +kernel
theorem dX11_avoid_19 : decode cX11_avoid 19 = .ok (.ifCond .eq 20, 3) := by decide +kernel
theorem dX11_avoid_22 : decode cX11_avoid 22 = .ok (.iload_n 3, 1) := by decide +kernel
theorem dX11_avoid_23 : decode cX11_avoid 23 = .ok (.iconst 1, 1) := by decide +kernel
theorem dX11_avoid_24 : decode cX11_avoid 24 = .ok (.if_icmp .lt 15, 3) := by decide +kernel
theorem dX11_avoid_27 : decode cX11_avoid 27 = .ok (.iload_n 3, 1) := by decide +kernel
theorem dX11_avoid_28 : decode cX11_avoid 28 = .ok (.bipush 20, 2) := by decide +kernel
theorem dX11_avoid_30 : decode cX11_avoid 30 = .ok (.if_icmp .gt 9, 3) := by decide +kernel
theorem dX11_avoid_33 : decode cX11_avoid 33 = .ok (.iload 4, 2) := by decide +kernel
theorem dX11_avoid_35 : decode cX11_avoid 35 = .ok (.iconst (-1), 1) := by decide +kernel
theorem dX11_avoid_36 : decode cX11_avoid 36 = .ok (.if_icmp .ge 5, 3) := by decide +kernel
theorem dX11_avoid_39 : decode cX11_avoid 39 = .ok (.iconst (-1), 1) := by decide +kernel
theorem dX11_avoid_40 : decode cX11_avoid 40 = .ok (.ireturn, 1) := by decide +kernel
theorem dX11_avoid_41 : decode cX11_avoid 41 = .ok (.aload_n 0, 1) := by decide +kernel
theorem dX11_avoid_42 : decode cX11_avoid 42 = .ok (.getfield 37, 3) := by decide +kernel
theorem dX11_avoid_45 : decode cX11_avoid 45 = .ok (.aload 5, 2) := by decide +kernel
theorem dX11_avoid_47 : decode cX11_avoid 47 = .ok (.iload_n 2, 1) := by decide +kernel
theorem dX11_avoid_48 : decode cX11_avoid 48 = .ok (.iload_n 3, 1) := by decide +kernel
theorem dX11_avoid_49 : decode cX11_avoid 49 = .ok (.invokevirtual 128, 3) := by decide +kernel
theorem dX11_avoid_52 : decode cX11_avoid 52 = .ok (.istore 6, 2) := by decide +kernel
theorem dX11_avoid_54 : decode cX11_avoid 54 = .ok (.iload 4, 2) := by decide +kernel
theorem dX11_avoid_56 : decode cX11_avoid 56 = .ok (.iconst (-1), 1) := by decide +kernel
theorem dX11_avoid_57 : decode cX11_avoid 57 = .ok (.if_icmp .eq 9, 3) := by decide +kernel
theorem dX11_avoid_60 : decode cX11_avoid 60 = .ok (.iload 6, 2) := by decide +kernel
theorem dX11_avoid_62 : decode cX11_avoid 62 = .ok (.iconst (-1), 1) := by decide +kernel
theorem dX11_avoid_63 : decode cX11_avoid 63 = .ok (.if_icmp .ne 6, 3) := by decide +kernel
theorem dX11_avoid_66 : decode cX11_avoid 66 = .ok (.iload 6, 2) := by decide +kernel
theorem dX11_avoid_68 : decode cX11_avoid 68 = .ok (.ireturn, 1) := by decide +kernel
theorem dX11_avoid_69 : decode cX11_avoid 69 = .ok (.aload_n 0, 1) := by decide +kernel
theorem dX11_avoid_70 : decode cX11_avoid 70 = .ok (.getfield 37, 3) := by decide +kernel
theorem dX11_avoid_73 : decode cX11_avoid 73 = .ok (.aload 5, 2) := by decide +kernel
theorem dX11_avoid_75 : decode cX11_avoid 75 = .ok (.iload_n 3, 1) := by decide +kernel
theorem dX11_avoid_76 : decode cX11_avoid 76 = .ok (.iload 4, 2) := by decide +kernel
theorem dX11_avoid_78 : decode cX11_avoid 78 = .ok (.invokevirtual 132, 3) := by decide +kernel
theorem dX11_avoid_81 : decode cX11_avoid 81 = .ok (.ireturn, 1) := by decide +kernel
theorem dX11_soonest_0 : decode cX11_soonest 0 = .ok (.aload_n 0, 1) := by decide +kernel
theorem dX11_soonest_1 : decode cX11_soonest 1 = .ok (.getfield 10, 3) := by decide +kernel
theorem dX11_soonest_4 : decode cX11_soonest 4 = .ok (.iload_n 1, 1) := by decide +kernel
theorem dX11_soonest_5 : decode cX11_soonest 5 = .ok (.invokevirtual 93, 3) := by decide +kernel
theorem dX11_soonest_8 : decode cX11_soonest 8 = .ok (.astore 4, 2) := by decide +kernel
theorem dX11_soonest_10 : decode cX11_soonest 10 = .ok (.aload 4, 2) := by decide +kernel
theorem dX11_soonest_12 : decode cX11_soonest 12 = .ok (.ifnull 20, 3) := by decide +kernel
theorem dX11_soonest_15 : decode cX11_soonest 15 = .ok (.iload_n 2, 1) := by decide +kernel
theorem dX11_soonest_16 : decode cX11_soonest 16 = .ok (.invokestatic 124, 3) := by decide +kernel
theorem dX11_soonest_19 : decode cX11_soonest 19 = .ok (.ifCond .eq 13, 3) := by decide +kernel
theorem dX11_soonest_22 : decode cX11_soonest 22 = .ok (.iload_n 3, 1) := by decide +kernel
theorem dX11_soonest_23 : decode cX11_soonest 23 = .ok (.ifCond .lt 9, 3) := by decide +kernel
theorem dX11_soonest_26 : decode cX11_soonest 26 = .ok (.iload_n 3, 1) := by decide +kernel
theorem dX11_soonest_27 : decode cX11_soonest 27 = .ok (.bipush 9, 2) := by decide +kernel
theorem dX11_soonest_29 : decode cX11_soonest 29 = .ok (.if_icmp .le 5, 3) := by decide +kernel
theorem dX11_soonest_32 : decode cX11_soonest 32 = .ok (.iconst (-1), 1) := by decide +kernel
theorem dX11_soonest_33 : decode cX11_soonest 33 = .ok (.ireturn, 1) := by decide +kernel
theorem dX11_soonest_34 : decode cX11_soonest 34 = .ok (.aload_n 0, 1) := by decide +kernel
theorem dX11_soonest_35 : decode cX11_soonest 35 = .ok (.getfield 37, 3) := by decide +kernel
theorem dX11_soonest_38 : decode cX11_soonest 38 = .ok (.aload 4, 2) := by decide +kernel
theorem dX11_soonest_40 : decode cX11_soonest 40 = .ok (.iload_n 2, 1) := by decide +kernel
theorem dX11_soonest_41 : decode cX11_soonest 41 = .ok (.iload_n 3, 1) := by decide +kernel
theorem dX11_soonest_42 : decode cX11_soonest 42 = .ok (.invokevirtual 135, 3) := by decide +kernel
theorem dX11_soonest_45 : decode cX11_soonest 45 = .ok (.ireturn, 1) := by decide +kernel
theorem dX11_together_0 : decode cX11_together 0 = .ok (.aload_n 0, 1) := by decide +kernel
theorem dX11_together_1 : decode cX11_together 1 = .ok (.getfield 10, 3) := by decide +kernel
theorem dX11_together_4 : decode cX11_together 4 = .ok (.iload_n 1, 1) := by decide +kernel
theorem dX11_together_5 : decode cX11_together 5 = .ok (.invokevirtual 93, 3) := by decide +kernel
theorem dX11_together_8 : decode cX11_together 8 = .ok (.astore 4, 2) := by decide +kernel
theorem dX11_together_10 : decode cX11_together 10 = .ok (.aload 4, 2) := by decide +kernel
theorem dX11_together_12 : decode cX11_together 12 = .ok (.ifnull 17, 3) := by decide +kernel
theorem dX11_together_15 : decode cX11_together 15 = .ok (.iload_n 2, 1) := by decide +kernel
theorem dX11_together_16 : decode cX11_together 16 = .ok (.invokestatic 138, 3) := by decide +kernel
theorem dX11_together_19 : decode cX11_together 19 = .ok (.ifCond .eq 10, 3) := by decide +kernel
theorem dX11_together_22 : decode cX11_together 22 = .ok (.iload_n 3, 1) := by decide +kernel
theorem dX11_together_23 : decode cX11_together 23 = .ok (.invokestatic 138, 3) := by decide +kernel
theorem dX11_together_26 : decode cX11_together 26 = .ok (.ifCond .ne 5, 3) := by decide +kernel
theorem dX11_together_29 : decode cX11_together 29 = .ok (.iconst (-1), 1) := by decide +kernel
theorem dX11_together_30 : decode cX11_together 30 = .ok (.ireturn, 1) := by decide +kernel
theorem dX11_together_31 : decode cX11_together 31 = .ok (.aload_n 0, 1) := by decide +kernel
theorem dX11_together_32 : decode cX11_together 32 = .ok (.getfield 37, 3) := by decide +kernel
theorem dX11_together_35 : decode cX11_together 35 = .ok (.aload 4, 2) := by decide +kernel
theorem dX11_together_37 : decode cX11_together 37 = .ok (.iload_n 2, 1) := by decide +kernel
theorem dX11_together_38 : decode cX11_together 38 = .ok (.iload_n 3, 1) := by decide +kernel
theorem dX11_together_39 : decode cX11_together 39 = .ok (.invokevirtual 141, 3) := by decide +kernel
theorem dX11_together_42 : decode cX11_together 42 = .ok (.ireturn, 1) := by decide +kernel
theorem dX11_comes_0 : decode cX11_comes 0 = .ok (.aload_n 0, 1) := by decide +kernel
theorem dX11_comes_1 : decode cX11_comes 1 = .ok (.getfield 10, 3) := by decide +kernel
theorem dX11_comes_4 : decode cX11_comes 4 = .ok (.iload_n 1, 1) := by decide +kernel
theorem dX11_comes_5 : decode cX11_comes 5 = .ok (.invokevirtual 93, 3) := by decide +kernel
theorem dX11_comes_8 : decode cX11_comes 8 = .ok (.astore 6, 2) := by decide +kernel
theorem dX11_comes_10 : decode cX11_comes 10 = .ok (.aload 6, 2) := by decide +kernel
theorem dX11_comes_12 : decode cX11_comes 12 = .ok (.ifnull 21, 3) := by decide +kernel
theorem dX11_comes_15 : decode cX11_comes 15 = .ok (.iload_n 2, 1) := by decide +kernel
theorem dX11_comes_16 : decode cX11_comes 16 = .ok (.invokestatic 124, 3) := by decide +kernel
theorem dX11_comes_19 : decode cX11_comes 19 = .ok (.ifCond .eq 14, 3) := by decide +kernel
theorem dX11_comes_22 : decode cX11_comes 22 = .ok (.iload_n 3, 1) := by decide +kernel
theorem dX11_comes_23 : decode cX11_comes 23 = .ok (.iconst 1, 1) := by decide +kernel
theorem dX11_comes_24 : decode cX11_comes 24 = .ok (.if_icmp .lt 9, 3) := by decide +kernel
theorem dX11_comes_27 : decode cX11_comes 27 = .ok (.iload_n 3, 1) := by decide +kernel
theorem dX11_comes_28 : decode cX11_comes 28 = .ok (.bipush 9, 2) := by decide +kernel
theorem dX11_comes_30 : decode cX11_comes 30 = .ok (.if_icmp .le 7, 3) := by decide +kernel
theorem dX11_comes_33 : decode cX11_comes 33 = .ok (.ldc2_w 144, 3) := by decide +kernel
theorem dX11_comes_36 : decode cX11_comes 36 = .ok (.lreturn, 1) := by decide +kernel
theorem dX11_comes_37 : decode cX11_comes 37 = .ok (.aload_n 0, 1) := by decide +kernel
theorem dX11_comes_38 : decode cX11_comes 38 = .ok (.getfield 44, 3) := by decide +kernel
theorem dX11_comes_41 : decode cX11_comes 41 = .ok (.aload 6, 2) := by decide +kernel
theorem dX11_comes_43 : decode cX11_comes 43 = .ok (.iload_n 2, 1) := by decide +kernel
theorem dX11_comes_44 : decode cX11_comes 44 = .ok (.iload_n 3, 1) := by decide +kernel
theorem dX11_comes_45 : decode cX11_comes 45 = .ok (.iload 4, 2) := by decide +kernel
theorem dX11_comes_47 : decode cX11_comes 47 = .ok (.invokevirtual 146, 3) := by decide +kernel
theorem dX11_comes_50 : decode cX11_comes 50 = .ok (.iload 5, 2) := by decide +kernel
theorem dX11_comes_52 : decode cX11_comes 52 = .ok (.ifCond .eq 13, 3) := by decide +kernel
theorem dX11_comes_55 : decode cX11_comes 55 = .ok (.aload_n 0, 1) := by decide +kernel
theorem dX11_comes_56 : decode cX11_comes 56 = .ok (.getfield 44, 3) := by decide +kernel
theorem dX11_comes_59 : decode cX11_comes 59 = .ok (.getfield 150, 3) := by decide +kernel
theorem dX11_comes_62 : decode cX11_comes 62 = .ok (.goto 10, 3) := by decide +kernel
theorem dX11_comes_65 : decode cX11_comes 65 = .ok (.aload_n 0, 1) := by decide +kernel
theorem dX11_comes_66 : decode cX11_comes 66 = .ok (.getfield 44, 3) := by decide +kernel
theorem dX11_comes_69 : decode cX11_comes 69 = .ok (.getfield 154, 3) := by decide +kernel
theorem dX11_comes_72 : decode cX11_comes 72 = .ok (.lreturn, 1) := by decide +kernel
theorem dX11_harm_0 : decode cX11_harm 0 = .ok (.aload_n 0, 1) := by decide +kernel
theorem dX11_harm_1 : decode cX11_harm 1 = .ok (.getfield 10, 3) := by decide +kernel
theorem dX11_harm_4 : decode cX11_harm 4 = .ok (.iload_n 1, 1) := by decide +kernel
theorem dX11_harm_5 : decode cX11_harm 5 = .ok (.invokevirtual 93, 3) := by decide +kernel
theorem dX11_harm_8 : decode cX11_harm 8 = .ok (.astore 5, 2) := by decide +kernel
theorem dX11_harm_10 : decode cX11_harm 10 = .ok (.aload 5, 2) := by decide +kernel
theorem dX11_harm_12 : decode cX11_harm 12 = .ok (.ifnull 14, 3) := by decide +kernel
theorem dX11_harm_15 : decode cX11_harm 15 = .ok (.iload_n 2, 1) := by decide +kernel
theorem dX11_harm_16 : decode cX11_harm 16 = .ok (.iconst 1, 1) := by decide +kernel
theorem dX11_harm_17 : decode cX11_harm 17 = .ok (.if_icmp .lt 9, 3) := by decide +kernel
theorem dX11_harm_20 : decode cX11_harm 20 = .ok (.iload_n 2, 1) := by decide +kernel
theorem dX11_harm_21 : decode cX11_harm 21 = .ok (.bipush 9, 2) := by decide +kernel
theorem dX11_harm_23 : decode cX11_harm 23 = .ok (.if_icmp .le 7, 3) := by decide +kernel
theorem dX11_harm_26 : decode cX11_harm 26 = .ok (.ldc2_w 144, 3) := by decide +kernel
theorem dX11_harm_29 : decode cX11_harm 29 = .ok (.lreturn, 1) := by decide +kernel
theorem dX11_harm_30 : decode cX11_harm 30 = .ok (.aload_n 0, 1) := by decide +kernel
theorem dX11_harm_31 : decode cX11_harm 31 = .ok (.getfield 44, 3) := by decide +kernel
theorem dX11_harm_34 : decode cX11_harm 34 = .ok (.aload 5, 2) := by decide +kernel
theorem dX11_harm_36 : decode cX11_harm 36 = .ok (.iconst (-1), 1) := by decide +kernel
theorem dX11_harm_37 : decode cX11_harm 37 = .ok (.iload_n 2, 1) := by decide +kernel
theorem dX11_harm_38 : decode cX11_harm 38 = .ok (.iload_n 3, 1) := by decide +kernel
theorem dX11_harm_39 : decode cX11_harm 39 = .ok (.invokevirtual 146, 3) := by decide +kernel
theorem dX11_harm_42 : decode cX11_harm 42 = .ok (.iload 4, 2) := by decide +kernel
theorem dX11_harm_44 : decode cX11_harm 44 = .ok (.ifCond .eq 13, 3) := by decide +kernel
theorem dX11_harm_47 : decode cX11_harm 47 = .ok (.aload_n 0, 1) := by decide +kernel
theorem dX11_harm_48 : decode cX11_harm 48 = .ok (.getfield 44, 3) := by decide +kernel
theorem dX11_harm_51 : decode cX11_harm 51 = .ok (.getfield 150, 3) := by decide +kernel
theorem dX11_harm_54 : decode cX11_harm 54 = .ok (.goto 10, 3) := by decide +kernel
theorem dX11_harm_57 : decode cX11_harm 57 = .ok (.aload_n 0, 1) := by decide +kernel
theorem dX11_harm_58 : decode cX11_harm 58 = .ok (.getfield 44, 3) := by decide +kernel
theorem dX11_harm_61 : decode cX11_harm 61 = .ok (.getfield 154, 3) := by decide +kernel
theorem dX11_harm_64 : decode cX11_harm 64 = .ok (.lreturn, 1) := by decide +kernel
theorem dX11_loop_0 : decode cX11_loop 0 = .ok (.aload_n 0, 1) := by decide +kernel
theorem dX11_loop_1 : decode cX11_loop 1 = .ok (.getfield 10, 3) := by decide +kernel
theorem dX11_loop_4 : decode cX11_loop 4 = .ok (.iload_n 1, 1) := by decide +kernel
theorem dX11_loop_5 : decode cX11_loop 5 = .ok (.invokevirtual 93, 3) := by decide +kernel
theorem dX11_loop_8 : decode cX11_loop 8 = .ok (.astore_n 3, 1) := by decide +kernel
theorem dX11_loop_9 : decode cX11_loop 9 = .ok (.aload_n 3, 1) := by decide +kernel
theorem dX11_loop_10 : decode cX11_loop 10 = .ok (.ifnonnull 5, 3) := by decide +kernel
theorem dX11_loop_13 : decode cX11_loop 13 = .ok (.iconst (-1), 1) := by decide +kernel
theorem dX11_loop_14 : decode cX11_loop 14 = .ok (.ireturn, 1) := by decide +kernel
theorem dX11_loop_15 : decode cX11_loop 15 = .ok (.iload_n 2, 1) := by decide +kernel
theorem dX11_loop_16 : decode cX11_loop 16 = .ok (.ifCond .eq 11, 3) := by decide +kernel
theorem dX11_loop_19 : decode cX11_loop 19 = .ok (.aload_n 3, 1) := by decide +kernel
theorem dX11_loop_20 : decode cX11_loop 20 = .ok (.iconst (-1), 1) := by decide +kernel
theorem dX11_loop_21 : decode cX11_loop 21 = .ok (.invokevirtual 157, 3) := by decide +kernel
theorem dX11_loop_24 : decode cX11_loop 24 = .ok (.goto 7, 3) := by decide +kernel
theorem dX11_loop_27 : decode cX11_loop 27 = .ok (.aload_n 3, 1) := by decide +kernel
theorem dX11_loop_28 : decode cX11_loop 28 = .ok (.invokevirtual 160, 3) := by decide +kernel
theorem dX11_loop_31 : decode cX11_loop 31 = .ok (.ireturn, 1) := by decide +kernel
theorem dX11_merged_0 : decode cX11_merged 0 = .ok (.aload_n 0, 1) := by decide +kernel
theorem dX11_merged_1 : decode cX11_merged 1 = .ok (.getfield 10, 3) := by decide +kernel
theorem dX11_merged_4 : decode cX11_merged 4 = .ok (.iload_n 1, 1) := by decide +kernel
theorem dX11_merged_5 : decode cX11_merged 5 = .ok (.invokevirtual 93, 3) := by decide +kernel
theorem dX11_merged_8 : decode cX11_merged 8 = .ok (.astore 5, 2) := by decide +kernel
theorem dX11_merged_10 : decode cX11_merged 10 = .ok (.aload_n 0, 1) := by decide +kernel
theorem dX11_merged_11 : decode cX11_merged 11 = .ok (.getfield 10, 3) := by decide +kernel
theorem dX11_merged_14 : decode cX11_merged 14 = .ok (.iload_n 2, 1) := by decide +kernel
theorem dX11_merged_15 : decode cX11_merged 15 = .ok (.invokevirtual 93, 3) := by decide +kernel
theorem dX11_merged_18 : decode cX11_merged 18 = .ok (.astore 6, 2) := by decide +kernel
theorem dX11_merged_20 : decode cX11_merged 20 = .ok (.aload 5, 2) := by decide +kernel
theorem dX11_merged_22 : decode cX11_merged 22 = .ok (.ifnull 19, 3) := by decide +kernel
theorem dX11_merged_25 : decode cX11_merged 25 = .ok (.aload 6, 2) := by decide +kernel
theorem dX11_merged_27 : decode cX11_merged 27 = .ok (.ifnull 14, 3) := by decide +kernel
theorem dX11_merged_30 : decode cX11_merged 30 = .ok (.iload_n 3, 1) := by decide +kernel
theorem dX11_merged_31 : decode cX11_merged 31 = .ok (.iconst 1, 1) := by decide +kernel
theorem dX11_merged_32 : decode cX11_merged 32 = .ok (.if_icmp .lt 9, 3) := by decide +kernel
theorem dX11_merged_35 : decode cX11_merged 35 = .ok (.iload_n 3, 1) := by decide +kernel
theorem dX11_merged_36 : decode cX11_merged 36 = .ok (.bipush 12, 2) := by decide +kernel
theorem dX11_merged_38 : decode cX11_merged 38 = .ok (.if_icmp .le 5, 3) := by decide +kernel
theorem dX11_merged_41 : decode cX11_merged 41 = .ok (.iconst (-1), 1) := by decide +kernel
theorem dX11_merged_42 : decode cX11_merged 42 = .ok (.ireturn, 1) := by decide +kernel
theorem dX11_merged_43 : decode cX11_merged 43 = .ok (.aload_n 0, 1) := by decide +kernel
theorem dX11_merged_44 : decode cX11_merged 44 = .ok (.getfield 51, 3) := by decide +kernel
theorem dX11_merged_47 : decode cX11_merged 47 = .ok (.aload 5, 2) := by decide +kernel
theorem dX11_merged_49 : decode cX11_merged 49 = .ok (.aload 6, 2) := by decide +kernel
theorem dX11_merged_51 : decode cX11_merged 51 = .ok (.iload_n 3, 1) := by decide +kernel
theorem dX11_merged_52 : decode cX11_merged 52 = .ok (.invokevirtual 164, 3) := by decide +kernel
theorem dX11_merged_55 : decode cX11_merged 55 = .ok (.iload 4, 2) := by decide +kernel
theorem dX11_merged_57 : decode cX11_merged 57 = .ok (.bipush (-2), 2) := by decide +kernel
theorem dX11_merged_59 : decode cX11_merged 59 = .ok (.if_icmp .ne 11, 3) := by decide +kernel
theorem dX11_merged_62 : decode cX11_merged 62 = .ok (.aload_n 0, 1) := by decide +kernel
theorem dX11_merged_63 : decode cX11_merged 63 = .ok (.getfield 51, 3) := by decide +kernel
theorem dX11_merged_66 : decode cX11_merged 66 = .ok (.invokevirtual 168, 3) := by decide +kernel
theorem dX11_merged_69 : decode cX11_merged 69 = .ok (.ireturn, 1) := by decide +kernel
theorem dX11_merged_70 : decode cX11_merged 70 = .ok (.iload 4, 2) := by decide +kernel
theorem dX11_merged_72 : decode cX11_merged 72 = .ok (.iconst (-1), 1) := by decide +kernel
theorem dX11_merged_73 : decode cX11_merged 73 = .ok (.if_icmp .ne 13, 3) := by decide +kernel
theorem dX11_merged_76 : decode cX11_merged 76 = .ok (.aload_n 0, 1) := by decide +kernel
theorem dX11_merged_77 : decode cX11_merged 77 = .ok (.getfield 51, 3) := by decide +kernel
theorem dX11_merged_80 : decode cX11_merged 80 = .ok (.getfield 171, 3) := by decide +kernel
theorem dX11_merged_83 : decode cX11_merged 83 = .ok (.goto 12, 3) := by decide +kernel
theorem dX11_merged_86 : decode cX11_merged 86 = .ok (.aload_n 0, 1) := by decide +kernel
theorem dX11_merged_87 : decode cX11_merged 87 = .ok (.getfield 51, 3) := by decide +kernel
theorem dX11_merged_90 : decode cX11_merged 90 = .ok (.iload 4, 2) := by decide +kernel
theorem dX11_merged_92 : decode cX11_merged 92 = .ok (.invokevirtual 174, 3) := by decide +kernel
theorem dX11_merged_95 : decode cX11_merged 95 = .ok (.ireturn, 1) := by decide +kernel
theorem dX11_voice_0 : decode cX11_voice 0 = .ok (.aload_n 0, 1) := by decide +kernel
theorem dX11_voice_1 : decode cX11_voice 1 = .ok (.getfield 10, 3) := by decide +kernel
theorem dX11_voice_4 : decode cX11_voice 4 = .ok (.iload_n 1, 1) := by decide +kernel
theorem dX11_voice_5 : decode cX11_voice 5 = .ok (.invokevirtual 177, 3) := by decide +kernel
theorem dX11_voice_8 : decode cX11_voice 8 = .ok (.astore_n 3, 1) := by decide +kernel
theorem dX11_voice_9 : decode cX11_voice 9 = .ok (.aload_n 3, 1) := by decide +kernel
theorem dX11_voice_10 : decode cX11_voice 10 = .ok (.ifnonnull 7, 3) := by decide +kernel
theorem dX11_voice_13 : decode cX11_voice 13 = .ok (.iconst (-1), 1) := by decide +kernel
theorem dX11_voice_14 : decode cX11_voice 14 = .ok (.goto 8, 3) := by decide +kernel
theorem dX11_voice_17 : decode cX11_voice 17 = .ok (.aload_n 3, 1) := by decide +kernel
theorem dX11_voice_18 : decode cX11_voice 18 = .ok (.iload_n 2, 1) := by decide +kernel
theorem dX11_voice_19 : decode cX11_voice 19 = .ok (.invokevirtual 181, 3) := by decide +kernel
theorem dX11_voice_22 : decode cX11_voice 22 = .ok (.ireturn, 1) := by decide +kernel
theorem dX11_fits_0 : decode cX11_fits 0 = .ok (.aload_n 0, 1) := by decide +kernel
theorem dX11_fits_1 : decode cX11_fits 1 = .ok (.getfield 10, 3) := by decide +kernel
theorem dX11_fits_4 : decode cX11_fits 4 = .ok (.iload_n 1, 1) := by decide +kernel
theorem dX11_fits_5 : decode cX11_fits 5 = .ok (.invokevirtual 93, 3) := by decide +kernel
theorem dX11_fits_8 : decode cX11_fits 8 = .ok (.astore 4, 2) := by decide +kernel
theorem dX11_fits_10 : decode cX11_fits 10 = .ok (.aload_n 0, 1) := by decide +kernel
theorem dX11_fits_11 : decode cX11_fits 11 = .ok (.getfield 10, 3) := by decide +kernel
theorem dX11_fits_14 : decode cX11_fits 14 = .ok (.iload_n 2, 1) := by decide +kernel
theorem dX11_fits_15 : decode cX11_fits 15 = .ok (.invokevirtual 177, 3) := by decide +kernel
theorem dX11_fits_18 : decode cX11_fits 18 = .ok (.astore 5, 2) := by decide +kernel
theorem dX11_fits_20 : decode cX11_fits 20 = .ok (.aload 4, 2) := by decide +kernel
theorem dX11_fits_22 : decode cX11_fits 22 = .ok (.ifnull 8, 3) := by decide +kernel
theorem dX11_fits_25 : decode cX11_fits 25 = .ok (.aload 5, 2) := by decide +kernel
theorem dX11_fits_27 : decode cX11_fits 27 = .ok (.ifnonnull 7, 3) := by decide +kernel
theorem dX11_fits_30 : decode cX11_fits 30 = .ok (.ldc2_w 184, 3) := by decide +kernel
theorem dX11_fits_33 : decode cX11_fits 33 = .ok (.lreturn, 1) := by decide +kernel
theorem dX11_fits_34 : decode cX11_fits 34 = .ok (.aload_n 0, 1) := by decide +kernel
theorem dX11_fits_35 : decode cX11_fits 35 = .ok (.getfield 58, 3) := by decide +kernel
theorem dX11_fits_38 : decode cX11_fits 38 = .ok (.aload 4, 2) := by decide +kernel
theorem dX11_fits_40 : decode cX11_fits 40 = .ok (.aload 5, 2) := by decide +kernel
theorem dX11_fits_42 : decode cX11_fits 42 = .ok (.iload_n 3, 1) := by decide +kernel
theorem dX11_fits_43 : decode cX11_fits 43 = .ok (.invokevirtual 186, 3) := by decide +kernel
theorem dX11_fits_46 : decode cX11_fits 46 = .ok (.lreturn, 1) := by decide +kernel
theorem dX11_town_0 : decode cX11_town 0 = .ok (.aload_n 0, 1) := by decide +kernel
theorem dX11_town_1 : decode cX11_town 1 = .ok (.getfield 10, 3) := by decide +kernel
theorem dX11_town_4 : decode cX11_town 4 = .ok (.iload_n 1, 1) := by decide +kernel
theorem dX11_town_5 : decode cX11_town 5 = .ok (.invokevirtual 189, 3) := by decide +kernel
theorem dX11_town_8 : decode cX11_town 8 = .ok (.astore_n 3, 1) := by decide +kernel
theorem dX11_town_9 : decode cX11_town 9 = .ok (.aload_n 3, 1) := by decide +kernel
theorem dX11_town_10 : decode cX11_town 10 = .ok (.ifnonnull 7, 3) := by decide +kernel
theorem dX11_town_13 : decode cX11_town 13 = .ok (.iconst (-1), 1) := by decide +kernel
theorem dX11_town_14 : decode cX11_town 14 = .ok (.goto 8, 3) := by decide +kernel
theorem dX11_town_17 : decode cX11_town 17 = .ok (.aload_n 3, 1) := by decide +kernel
theorem dX11_town_18 : decode cX11_town 18 = .ok (.iload_n 2, 1) := by decide +kernel
theorem dX11_town_19 : decode cX11_town 19 = .ok (.invokevirtual 193, 3) := by decide +kernel
theorem dX11_town_22 : decode cX11_town 22 = .ok (.ireturn, 1) := by decide +kernel
theorem dX11_drawn_0 : decode cX11_drawn 0 = .ok (.aload_n 0, 1) := by decide +kernel
theorem dX11_drawn_1 : decode cX11_drawn 1 = .ok (.getfield 10, 3) := by decide +kernel
theorem dX11_drawn_4 : decode cX11_drawn 4 = .ok (.iload_n 1, 1) := by decide +kernel
theorem dX11_drawn_5 : decode cX11_drawn 5 = .ok (.invokevirtual 93, 3) := by decide +kernel
theorem dX11_drawn_8 : decode cX11_drawn 8 = .ok (.astore 5, 2) := by decide +kernel
theorem dX11_drawn_10 : decode cX11_drawn 10 = .ok (.aload 5, 2) := by decide +kernel
theorem dX11_drawn_12 : decode cX11_drawn 12 = .ok (.ifnull 21, 3) := by decide +kernel
theorem dX11_drawn_15 : decode cX11_drawn 15 = .ok (.aload 5, 2) := by decide +kernel
theorem dX11_drawn_17 : decode cX11_drawn 17 = .ok (.getfield 196, 3) := by decide +kernel
theorem dX11_drawn_20 : decode cX11_drawn 20 = .ok (.ifCond .eq 13, 3) := by decide +kernel
theorem dX11_drawn_23 : decode cX11_drawn 23 = .ok (.iload_n 3, 1) := by decide +kernel
theorem dX11_drawn_24 : decode cX11_drawn 24 = .ok (.ifCond .lt 9, 3) := by decide +kernel
theorem dX11_drawn_27 : decode cX11_drawn 27 = .ok (.iload_n 3, 1) := by decide +kernel
theorem dX11_drawn_28 : decode cX11_drawn 28 = .ok (.bipush 60, 2) := by decide +kernel
theorem dX11_drawn_30 : decode cX11_drawn 30 = .ok (.if_icmp .le 6, 3) := by decide +kernel
theorem dX11_drawn_33 : decode cX11_drawn 33 = .ok (.bipush (-2), 2) := by decide +kernel
theorem dX11_drawn_35 : decode cX11_drawn 35 = .ok (.ireturn, 1) := by decide +kernel
theorem dX11_drawn_36 : decode cX11_drawn 36 = .ok (.aload_n 0, 1) := by decide +kernel
theorem dX11_drawn_37 : decode cX11_drawn 37 = .ok (.getfield 30, 3) := by decide +kernel
theorem dX11_drawn_40 : decode cX11_drawn 40 = .ok (.aload 5, 2) := by decide +kernel
theorem dX11_drawn_42 : decode cX11_drawn 42 = .ok (.iload_n 2, 1) := by decide +kernel
theorem dX11_drawn_43 : decode cX11_drawn 43 = .ok (.iload_n 3, 1) := by decide +kernel
theorem dX11_drawn_44 : decode cX11_drawn 44 = .ok (.invokevirtual 199, 3) := by decide +kernel
theorem dX11_drawn_47 : decode cX11_drawn 47 = .ok (.aload_n 0, 1) := by decide +kernel
theorem dX11_drawn_48 : decode cX11_drawn 48 = .ok (.getfield 30, 3) := by decide +kernel
theorem dX11_drawn_51 : decode cX11_drawn 51 = .ok (.aload 5, 2) := by decide +kernel
theorem dX11_drawn_53 : decode cX11_drawn 53 = .ok (.iload 4, 2) := by decide +kernel
theorem dX11_drawn_55 : decode cX11_drawn 55 = .ok (.invokevirtual 121, 3) := by decide +kernel
theorem dX11_drawn_58 : decode cX11_drawn 58 = .ok (.ireturn, 1) := by decide +kernel
theorem dX11_bar_0 : decode cX11_bar 0 = .ok (.aload_n 0, 1) := by decide +kernel
theorem dX11_bar_1 : decode cX11_bar 1 = .ok (.getfield 10, 3) := by decide +kernel
theorem dX11_bar_4 : decode cX11_bar 4 = .ok (.iload_n 1, 1) := by decide +kernel
theorem dX11_bar_5 : decode cX11_bar 5 = .ok (.invokevirtual 93, 3) := by decide +kernel
theorem dX11_bar_8 : decode cX11_bar 8 = .ok (.astore_n 3, 1) := by decide +kernel
theorem dX11_bar_9 : decode cX11_bar 9 = .ok (.aload_n 3, 1) := by decide +kernel
theorem dX11_bar_10 : decode cX11_bar 10 = .ok (.ifnull 10, 3) := by decide +kernel
theorem dX11_bar_13 : decode cX11_bar 13 = .ok (.iload_n 2, 1) := by decide +kernel
theorem dX11_bar_14 : decode cX11_bar 14 = .ok (.invokestatic 124, 3) := by decide +kernel
theorem dX11_bar_17 : decode cX11_bar 17 = .ok (.ifCond .ne 7, 3) := by decide +kernel
theorem dX11_bar_20 : decode cX11_bar 20 = .ok (.iconst (-1), 1) := by decide +kernel
theorem dX11_bar_21 : decode cX11_bar 21 = .ok (.goto 12, 3) := by decide +kernel
theorem dX11_bar_24 : decode cX11_bar 24 = .ok (.aload_n 0, 1) := by decide +kernel
theorem dX11_bar_25 : decode cX11_bar 25 = .ok (.getfield 37, 3) := by decide +kernel
theorem dX11_bar_28 : decode cX11_bar 28 = .ok (.aload_n 3, 1) := by decide +kernel
theorem dX11_bar_29 : decode cX11_bar 29 = .ok (.iload_n 2, 1) := by decide +kernel
theorem dX11_bar_30 : decode cX11_bar 30 = .ok (.invokevirtual 203, 3) := by decide +kernel
theorem dX11_bar_33 : decode cX11_bar 33 = .ok (.ireturn, 1) := by decide +kernel
theorem dX11_must_0 : decode cX11_must 0 = .ok (.aload_n 0, 1) := by decide +kernel
theorem dX11_must_1 : decode cX11_must 1 = .ok (.getfield 10, 3) := by decide +kernel
theorem dX11_must_4 : decode cX11_must 4 = .ok (.iload_n 1, 1) := by decide +kernel
theorem dX11_must_5 : decode cX11_must 5 = .ok (.invokevirtual 93, 3) := by decide +kernel
theorem dX11_must_8 : decode cX11_must 8 = .ok (.astore_n 3, 1) := by decide +kernel
theorem dX11_must_9 : decode cX11_must 9 = .ok (.aload_n 3, 1) := by decide +kernel
theorem dX11_must_10 : decode cX11_must 10 = .ok (.ifnull 10, 3) := by decide +kernel
theorem dX11_must_13 : decode cX11_must 13 = .ok (.iload_n 2, 1) := by decide +kernel
theorem dX11_must_14 : decode cX11_must 14 = .ok (.invokestatic 124, 3) := by decide +kernel
theorem dX11_must_17 : decode cX11_must 17 = .ok (.ifCond .ne 7, 3) := by decide +kernel
theorem dX11_must_20 : decode cX11_must 20 = .ok (.iconst (-1), 1) := by decide +kernel
theorem dX11_must_21 : decode cX11_must 21 = .ok (.goto 12, 3) := by decide +kernel
theorem dX11_must_24 : decode cX11_must 24 = .ok (.aload_n 0, 1) := by decide +kernel
theorem dX11_must_25 : decode cX11_must 25 = .ok (.getfield 37, 3) := by decide +kernel
theorem dX11_must_28 : decode cX11_must 28 = .ok (.aload_n 3, 1) := by decide +kernel
theorem dX11_must_29 : decode cX11_must 29 = .ok (.iload_n 2, 1) := by decide +kernel
theorem dX11_must_30 : decode cX11_must 30 = .ok (.invokevirtual 206, 3) := by decide +kernel
theorem dX11_must_33 : decode cX11_must 33 = .ok (.ireturn, 1) := by decide +kernel
theorem dX11_ways_0 : decode cX11_ways 0 = .ok (.aload_n 0, 1) := by decide +kernel
theorem dX11_ways_1 : decode cX11_ways 1 = .ok (.getfield 10, 3) := by decide +kernel
theorem dX11_ways_4 : decode cX11_ways 4 = .ok (.iload_n 1, 1) := by decide +kernel
theorem dX11_ways_5 : decode cX11_ways 5 = .ok (.invokevirtual 93, 3) := by decide +kernel
theorem dX11_ways_8 : decode cX11_ways 8 = .ok (.astore_n 3, 1) := by decide +kernel
theorem dX11_ways_9 : decode cX11_ways 9 = .ok (.aload_n 3, 1) := by decide +kernel
theorem dX11_ways_10 : decode cX11_ways 10 = .ok (.ifnull 14, 3) := by decide +kernel
theorem dX11_ways_13 : decode cX11_ways 13 = .ok (.iload_n 2, 1) := by decide +kernel
theorem dX11_ways_14 : decode cX11_ways 14 = .ok (.iconst 1, 1) := by decide +kernel
theorem dX11_ways_15 : decode cX11_ways 15 = .ok (.if_icmp .lt 9, 3) := by decide +kernel
theorem dX11_ways_18 : decode cX11_ways 18 = .ok (.iload_n 2, 1) := by decide +kernel
theorem dX11_ways_19 : decode cX11_ways 19 = .ok (.bipush 12, 2) := by decide +kernel
theorem dX11_ways_21 : decode cX11_ways 21 = .ok (.if_icmp .le 9, 3) := by decide +kernel
theorem dX11_ways_24 : decode cX11_ways 24 = .ok (.ldc2_w 144, 3) := by decide +kernel
theorem dX11_ways_27 : decode cX11_ways 27 = .ok (.goto 12, 3) := by decide +kernel
theorem dX11_ways_30 : decode cX11_ways 30 = .ok (.aload_n 0, 1) := by decide +kernel
theorem dX11_ways_31 : decode cX11_ways 31 = .ok (.getfield 37, 3) := by decide +kernel
theorem dX11_ways_34 : decode cX11_ways 34 = .ok (.aload_n 3, 1) := by decide +kernel
theorem dX11_ways_35 : decode cX11_ways 35 = .ok (.iload_n 2, 1) := by decide +kernel
theorem dX11_ways_36 : decode cX11_ways 36 = .ok (.invokevirtual 209, 3) := by decide +kernel
theorem dX11_ways_39 : decode cX11_ways 39 = .ok (.lreturn, 1) := by decide +kernel
theorem dX11_worst_0 : decode cX11_worst 0 = .ok (.aload_n 0, 1) := by decide +kernel
theorem dX11_worst_1 : decode cX11_worst 1 = .ok (.getfield 10, 3) := by decide +kernel
theorem dX11_worst_4 : decode cX11_worst 4 = .ok (.iload_n 1, 1) := by decide +kernel
theorem dX11_worst_5 : decode cX11_worst 5 = .ok (.invokevirtual 93, 3) := by decide +kernel
theorem dX11_worst_8 : decode cX11_worst 8 = .ok (.astore 5, 2) := by decide +kernel
theorem dX11_worst_10 : decode cX11_worst 10 = .ok (.aload 5, 2) := by decide +kernel
theorem dX11_worst_12 : decode cX11_worst 12 = .ok (.ifnull 32, 3) := by decide +kernel
theorem dX11_worst_15 : decode cX11_worst 15 = .ok (.aload 5, 2) := by decide +kernel
theorem dX11_worst_17 : decode cX11_worst 17 = .ok (.getfield 196, 3) := by decide +kernel
theorem dX11_worst_20 : decode cX11_worst 20 = .ok (.ifCond .eq 24, 3) := by decide +kernel
theorem dX11_worst_23 : decode cX11_worst 23 = .ok (.iload_n 2, 1) := by decide +kernel
theorem dX11_worst_24 : decode cX11_worst 24 = .ok (.iconst 1, 1) := by decide +kernel
theorem dX11_worst_25 : decode cX11_worst 25 = .ok (.if_icmp .lt 19, 3) := by decide +kernel
theorem dX11_worst_28 : decode cX11_worst 28 = .ok (.iload_n 2, 1) := by decide +kernel
theorem dX11_worst_29 : decode cX11_worst 29 = .ok (.bipush 20, 2) := by decide +kernel
theorem dX11_worst_31 : decode cX11_worst 31 = .ok (.if_icmp .gt 13, 3) := by decide +kernel
theorem dX11_worst_34 : decode cX11_worst 34 = .ok (.iload_n 3, 1) := by decide +kernel
theorem dX11_worst_35 : decode cX11_worst 35 = .ok (.ifCond .lt 9, 3) := by decide +kernel
theorem dX11_worst_38 : decode cX11_worst 38 = .ok (.iload_n 3, 1) := by decide +kernel
theorem dX11_worst_39 : decode cX11_worst 39 = .ok (.bipush 9, 2) := by decide +kernel
theorem dX11_worst_41 : decode cX11_worst 41 = .ok (.if_icmp .le 5, 3) := by decide +kernel
theorem dX11_worst_44 : decode cX11_worst 44 = .ok (.iconst (-1), 1) := by decide +kernel
theorem dX11_worst_45 : decode cX11_worst 45 = .ok (.ireturn, 1) := by decide +kernel
theorem dX11_worst_46 : decode cX11_worst 46 = .ok (.aload_n 0, 1) := by decide +kernel
theorem dX11_worst_47 : decode cX11_worst 47 = .ok (.getfield 37, 3) := by decide +kernel
theorem dX11_worst_50 : decode cX11_worst 50 = .ok (.aload 5, 2) := by decide +kernel
theorem dX11_worst_52 : decode cX11_worst 52 = .ok (.iload_n 2, 1) := by decide +kernel
theorem dX11_worst_53 : decode cX11_worst 53 = .ok (.iload_n 3, 1) := by decide +kernel
theorem dX11_worst_54 : decode cX11_worst 54 = .ok (.iload 4, 2) := by decide +kernel
theorem dX11_worst_56 : decode cX11_worst 56 = .ok (.invokevirtual 213, 3) := by decide +kernel
