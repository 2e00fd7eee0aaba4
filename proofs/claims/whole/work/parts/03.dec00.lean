theorem dX0_init_0 : decode cX0_init 0 = .ok (.aload_n 0, 1) := by decide +kernel
theorem dX0_init_1 : decode cX0_init 1 = .ok (.invokespecial 3, 3) := by decide +kernel
theorem dX0_init_4 : decode cX0_init 4 = .ok (.aload_n 0, 1) := by decide +kernel
theorem dX0_init_5 : decode cX0_init 5 = .ok (.bipush 20, 2) := by decide +kernel
theorem dX0_init_7 : decode cX0_init 7 = .ok (.newarray .int, 2) := by decide +kernel
theorem dX0_init_9 : decode cX0_init 9 = .ok (.putfield 11, 3) := by decide +kernel
theorem dX0_init_12 : decode cX0_init 12 = .ok (.aload_n 0, 1) := by decide +kernel
theorem dX0_init_13 : decode cX0_init 13 = .ok (.bipush 20, 2) := by decide +kernel
theorem dX0_init_15 : decode cX0_init 15 = .ok (.newarray .int, 2) := by decide +kernel
theorem dX0_init_17 : decode cX0_init 17 = .ok (.putfield 15, 3) := by decide +kernel
theorem dX0_init_20 : decode cX0_init 20 = .ok (.aload_n 0, 1) := by decide +kernel
theorem dX0_init_21 : decode cX0_init 21 = .ok (.bipush 20, 2) := by decide +kernel
theorem dX0_init_23 : decode cX0_init 23 = .ok (.newarray .int, 2) := by decide +kernel
theorem dX0_init_25 : decode cX0_init 25 = .ok (.putfield 18, 3) := by decide +kernel
theorem dX0_init_28 : decode cX0_init 28 = .ok (.aload_n 0, 1) := by decide +kernel
theorem dX0_init_29 : decode cX0_init 29 = .ok (.bipush 20, 2) := by decide +kernel
theorem dX0_init_31 : decode cX0_init 31 = .ok (.newarray .int, 2) := by decide +kernel
theorem dX0_init_33 : decode cX0_init 33 = .ok (.putfield 21, 3) := by decide +kernel
theorem dX0_init_36 : decode cX0_init 36 = .ok (.aload_n 0, 1) := by decide +kernel
theorem dX0_init_37 : decode cX0_init 37 = .ok (.bipush 20, 2) := by decide +kernel
theorem dX0_init_39 : decode cX0_init 39 = .ok (.newarray .int, 2) := by decide +kernel
theorem dX0_init_41 : decode cX0_init 41 = .ok (.putfield 24, 3) := by decide +kernel
theorem dX0_init_44 : decode cX0_init 44 = .ok (.aload_n 0, 1) := by decide +kernel
theorem dX0_init_45 : decode cX0_init 45 = .ok (.bipush 8, 2) := by decide +kernel
theorem dX0_init_47 : decode cX0_init 47 = .ok (.newarray .int, 2) := by decide +kernel
theorem dX0_init_49 : decode cX0_init 49 = .ok (.putfield 27, 3) := by decide +kernel
theorem dX0_init_52 : decode cX0_init 52 = .ok (.aload_n 0, 1) := by decide +kernel
theorem dX0_init_53 : decode cX0_init 53 = .ok (.bipush 8, 2) := by decide +kernel
theorem dX0_init_55 : decode cX0_init 55 = .ok (.newarray .int, 2) := by decide +kernel
theorem dX0_init_57 : decode cX0_init 57 = .ok (.putfield 30, 3) := by decide +kernel
theorem dX0_init_60 : decode cX0_init 60 = .ok (.aload_n 0, 1) := by decide +kernel
theorem dX0_init_61 : decode cX0_init 61 = .ok (.bipush 6, 2) := by decide +kernel
theorem dX0_init_63 : decode cX0_init 63 = .ok (.newarray .int, 2) := by decide +kernel
theorem dX0_init_65 : decode cX0_init 65 = .ok (.putfield 33, 3) := by decide +kernel
theorem dX0_init_68 : decode cX0_init 68 = .ok (.aload_n 0, 1) := by decide +kernel
theorem dX0_init_69 : decode cX0_init 69 = .ok (.bipush 6, 2) := by decide +kernel
theorem dX0_init_71 : decode cX0_init 71 = .ok (.newarray .int, 2) := by decide +kernel
theorem dX0_init_73 : decode cX0_init 73 = .ok (.putfield 36, 3) := by decide +kernel
theorem dX0_init_76 : decode cX0_init 76 = .ok (.aload_n 0, 1) := by decide +kernel
theorem dX0_init_77 : decode cX0_init 77 = .ok (.sipush 400, 3) := by decide +kernel
theorem dX0_init_80 : decode cX0_init 80 = .ok (.newarray .int, 2) := by decide +kernel
theorem dX0_init_82 : decode cX0_init 82 = .ok (.putfield 39, 3) := by decide +kernel
theorem dX0_init_85 : decode cX0_init 85 = .ok (.aload_n 0, 1) := by decide +kernel
theorem dX0_init_86 : decode cX0_init 86 = .ok (.bipush 20, 2) := by decide +kernel
theorem dX0_init_88 : decode cX0_init 88 = .ok (.newarray .int, 2) := by decide +kernel
theorem dX0_init_90 : decode cX0_init 90 = .ok (.putfield 42, 3) := by decide +kernel
theorem dX0_init_93 : decode cX0_init 93 = .ok (.return_, 1) := by decide +kernel
theorem dX0_clear_0 : decode cX0_clear 0 = .ok (.aload_n 0, 1) := by decide +kernel
theorem dX0_clear_1 : decode cX0_clear 1 = .ok (.iconst 0, 1) := by decide +kernel
theorem dX0_clear_2 : decode cX0_clear 2 = .ok (.putfield 45, 3) := by decide +kernel
theorem dX0_clear_5 : decode cX0_clear 5 = .ok (.aload_n 0, 1) := by decide +kernel
theorem dX0_clear_6 : decode cX0_clear 6 = .ok (.iconst 0, 1) := by decide +kernel
theorem dX0_clear_7 : decode cX0_clear 7 = .ok (.putfield 49, 3) := by decide +kernel
theorem dX0_clear_10 : decode cX0_clear 10 = .ok (.aload_n 0, 1) := by decide +kernel
theorem dX0_clear_11 : decode cX0_clear 11 = .ok (.iconst 3, 1) := by decide +kernel
theorem dX0_clear_12 : decode cX0_clear 12 = .ok (.putfield 52, 3) := by decide +kernel
theorem dX0_clear_15 : decode cX0_clear 15 = .ok (.aload_n 0, 1) := by decide +kernel
theorem dX0_clear_16 : decode cX0_clear 16 = .ok (.iconst 3, 1) := by decide +kernel
theorem dX0_clear_17 : decode cX0_clear 17 = .ok (.putfield 55, 3) := by decide +kernel
theorem dX0_clear_20 : decode cX0_clear 20 = .ok (.iconst 0, 1) := by decide +kernel
theorem dX0_clear_21 : decode cX0_clear 21 = .ok (.istore_n 1, 1) := by decide +kernel
theorem dX0_clear_22 : decode cX0_clear 22 = .ok (.iload_n 1, 1) := by decide +kernel
theorem dX0_clear_23 : decode cX0_clear 23 = .ok (.bipush 6, 2) := by decide +kernel
theorem dX0_clear_25 : decode cX0_clear 25 = .ok (.if_icmp .ge 23, 3) := by decide +kernel
theorem dX0_clear_28 : decode cX0_clear 28 = .ok (.aload_n 0, 1) := by decide +kernel
theorem dX0_clear_29 : decode cX0_clear 29 = .ok (.getfield 33, 3) := by decide +kernel
theorem dX0_clear_32 : decode cX0_clear 32 = .ok (.iload_n 1, 1) := by decide +kernel
theorem dX0_clear_33 : decode cX0_clear 33 = .ok (.iconst 2, 1) := by decide +kernel
theorem dX0_clear_34 : decode cX0_clear 34 = .ok (.iastore, 1) := by decide +kernel
theorem dX0_clear_35 : decode cX0_clear 35 = .ok (.aload_n 0, 1) := by decide +kernel
theorem dX0_clear_36 : decode cX0_clear 36 = .ok (.getfield 36, 3) := by decide +kernel
theorem dX0_clear_39 : decode cX0_clear 39 = .ok (.iload_n 1, 1) := by decide +kernel
theorem dX0_clear_40 : decode cX0_clear 40 = .ok (.iconst 0, 1) := by decide +kernel
theorem dX0_clear_41 : decode cX0_clear 41 = .ok (.iastore, 1) := by decide +kernel
theorem dX0_clear_42 : decode cX0_clear 42 = .ok (.iinc 1 1, 3) := by decide +kernel
theorem dX0_clear_45 : decode cX0_clear 45 = .ok (.goto (-23), 3) := by decide +kernel
theorem dX0_clear_48 : decode cX0_clear 48 = .ok (.return_, 1) := by decide +kernel
theorem dX0_addLine_0 : decode cX0_addLine 0 = .ok (.aload_n 0, 1) := by decide +kernel
theorem dX0_addLine_1 : decode cX0_addLine 1 = .ok (.getfield 45, 3) := by decide +kernel
theorem dX0_addLine_4 : decode cX0_addLine 4 = .ok (.bipush 20, 2) := by decide +kernel
theorem dX0_addLine_6 : decode cX0_addLine 6 = .ok (.if_icmp .ge 54, 3) := by decide +kernel
theorem dX0_addLine_9 : decode cX0_addLine 9 = .ok (.aload_n 0, 1) := by decide +kernel
theorem dX0_addLine_10 : decode cX0_addLine 10 = .ok (.getfield 11, 3) := by decide +kernel
theorem dX0_addLine_13 : decode cX0_addLine 13 = .ok (.aload_n 0, 1) := by decide +kernel
theorem dX0_addLine_14 : decode cX0_addLine 14 = .ok (.getfield 45, 3) := by decide +kernel
theorem dX0_addLine_17 : decode cX0_addLine 17 = .ok (.iload_n 1, 1) := by decide +kernel
theorem dX0_addLine_18 : decode cX0_addLine 18 = .ok (.iastore, 1) := by decide +kernel
theorem dX0_addLine_19 : decode cX0_addLine 19 = .ok (.aload_n 0, 1) := by decide +kernel
theorem dX0_addLine_20 : decode cX0_addLine 20 = .ok (.getfield 15, 3) := by decide +kernel
theorem dX0_addLine_23 : decode cX0_addLine 23 = .ok (.aload_n 0, 1) := by decide +kernel
theorem dX0_addLine_24 : decode cX0_addLine 24 = .ok (.getfield 45, 3) := by decide +kernel
theorem dX0_addLine_27 : decode cX0_addLine 27 = .ok (.iload_n 2, 1) := by decide +kernel
theorem dX0_addLine_28 : decode cX0_addLine 28 = .ok (.iastore, 1) := by decide +kernel
theorem dX0_addLine_29 : decode cX0_addLine 29 = .ok (.aload_n 0, 1) := by decide +kernel
theorem dX0_addLine_30 : decode cX0_addLine 30 = .ok (.getfield 18, 3) := by decide +kernel
theorem dX0_addLine_33 : decode cX0_addLine 33 = .ok (.aload_n 0, 1) := by decide +kernel
theorem dX0_addLine_34 : decode cX0_addLine 34 = .ok (.getfield 45, 3) := by decide +kernel
theorem dX0_addLine_37 : decode cX0_addLine 37 = .ok (.iload_n 3, 1) := by decide +kernel
theorem dX0_addLine_38 : decode cX0_addLine 38 = .ok (.iastore, 1) := by decide +kernel
theorem dX0_addLine_39 : decode cX0_addLine 39 = .ok (.aload_n 0, 1) := by decide +kernel
theorem dX0_addLine_40 : decode cX0_addLine 40 = .ok (.getfield 21, 3) := by decide +kernel
theorem dX0_addLine_43 : decode cX0_addLine 43 = .ok (.aload_n 0, 1) := by decide +kernel
theorem dX0_addLine_44 : decode cX0_addLine 44 = .ok (.getfield 45, 3) := by decide +kernel
theorem dX0_addLine_47 : decode cX0_addLine 47 = .ok (.iload 4, 2) := by decide +kernel
theorem dX0_addLine_49 : decode cX0_addLine 49 = .ok (.iastore, 1) := by decide +kernel
theorem dX0_addLine_50 : decode cX0_addLine 50 = .ok (.aload_n 0, 1) := by decide +kernel
theorem dX0_addLine_51 : decode cX0_addLine 51 = .ok (.dup, 1) := by decide +kernel
theorem dX0_addLine_52 : decode cX0_addLine 52 = .ok (.getfield 45, 3) := by decide +kernel
theorem dX0_addLine_55 : decode cX0_addLine 55 = .ok (.iconst 1, 1) := by decide +kernel
theorem dX0_addLine_56 : decode cX0_addLine 56 = .ok (.iadd, 1) := by decide +kernel
theorem dX0_addLine_57 : decode cX0_addLine 57 = .ok (.putfield 45, 3) := by decide +kernel
theorem dX0_addLine_60 : decode cX0_addLine 60 = .ok (.return_, 1) := by decide +kernel
theorem dX0_addBack_0 : decode cX0_addBack 0 = .ok (.aload_n 0, 1) := by decide +kernel
theorem dX0_addBack_1 : decode cX0_addBack 1 = .ok (.getfield 49, 3) := by decide +kernel
theorem dX0_addBack_4 : decode cX0_addBack 4 = .ok (.bipush 8, 2) := by decide +kernel
theorem dX0_addBack_6 : decode cX0_addBack 6 = .ok (.if_icmp .ge 33, 3) := by decide +kernel
theorem dX0_addBack_9 : decode cX0_addBack 9 = .ok (.aload_n 0, 1) := by decide +kernel
theorem dX0_addBack_10 : decode cX0_addBack 10 = .ok (.getfield 27, 3) := by decide +kernel
theorem dX0_addBack_13 : decode cX0_addBack 13 = .ok (.aload_n 0, 1) := by decide +kernel
theorem dX0_addBack_14 : decode cX0_addBack 14 = .ok (.getfield 49, 3) := by decide +kernel
theorem dX0_addBack_17 : decode cX0_addBack 17 = .ok (.iload_n 1, 1) := by decide +kernel
theorem dX0_addBack_18 : decode cX0_addBack 18 = .ok (.iastore, 1) := by decide +kernel
theorem dX0_addBack_19 : decode cX0_addBack 19 = .ok (.aload_n 0, 1) := by decide +kernel
theorem dX0_addBack_20 : decode cX0_addBack 20 = .ok (.getfield 30, 3) := by decide +kernel
theorem dX0_addBack_23 : decode cX0_addBack 23 = .ok (.aload_n 0, 1) := by decide +kernel
theorem dX0_addBack_24 : decode cX0_addBack 24 = .ok (.getfield 49, 3) := by decide +kernel
theorem dX0_addBack_27 : decode cX0_addBack 27 = .ok (.iload_n 2, 1) := by decide +kernel
theorem dX0_addBack_28 : decode cX0_addBack 28 = .ok (.iastore, 1) := by decide +kernel
theorem dX0_addBack_29 : decode cX0_addBack 29 = .ok (.aload_n 0, 1) := by decide +kernel
theorem dX0_addBack_30 : decode cX0_addBack 30 = .ok (.dup, 1) := by decide +kernel
theorem dX0_addBack_31 : decode cX0_addBack 31 = .ok (.getfield 49, 3) := by decide +kernel
theorem dX0_addBack_34 : decode cX0_addBack 34 = .ok (.iconst 1, 1) := by decide +kernel
theorem dX0_addBack_35 : decode cX0_addBack 35 = .ok (.iadd, 1) := by decide +kernel
theorem dX0_addBack_36 : decode cX0_addBack 36 = .ok (.putfield 49, 3) := by decide +kernel
theorem dX0_addBack_39 : decode cX0_addBack 39 = .ok (.return_, 1) := by decide +kernel
theorem dX0_setDry_0 : decode cX0_setDry 0 = .ok (.iload_n 1, 1) := by decide +kernel
theorem dX0_setDry_1 : decode cX0_setDry 1 = .ok (.invokestatic 58, 3) := by decide +kernel
theorem dX0_setDry_4 : decode cX0_setDry 4 = .ok (.ifCond .eq 10, 3) := by decide +kernel
theorem dX0_setDry_7 : decode cX0_setDry 7 = .ok (.aload_n 0, 1) := by decide +kernel
theorem dX0_setDry_8 : decode cX0_setDry 8 = .ok (.getfield 33, 3) := by decide +kernel
theorem dX0_setDry_11 : decode cX0_setDry 11 = .ok (.iload_n 1, 1) := by decide +kernel
theorem dX0_setDry_12 : decode cX0_setDry 12 = .ok (.iload_n 2, 1) := by decide +kernel
theorem dX0_setDry_13 : decode cX0_setDry 13 = .ok (.iastore, 1) := by decide +kernel
theorem dX0_setDry_14 : decode cX0_setDry 14 = .ok (.return_, 1) := by decide +kernel
theorem dX0_setChild_0 : decode cX0_setChild 0 = .ok (.iload_n 1, 1) := by decide +kernel
theorem dX0_setChild_1 : decode cX0_setChild 1 = .ok (.invokestatic 58, 3) := by decide +kernel
theorem dX0_setChild_4 : decode cX0_setChild 4 = .ok (.ifCond .eq 10, 3) := by decide +kernel
theorem dX0_setChild_7 : decode cX0_setChild 7 = .ok (.aload_n 0, 1) := by decide +kernel
theorem dX0_setChild_8 : decode cX0_setChild 8 = .ok (.getfield 36, 3) := by decide +kernel
theorem dX0_setChild_11 : decode cX0_setChild 11 = .ok (.iload_n 1, 1) := by decide +kernel
theorem dX0_setChild_12 : decode cX0_setChild 12 = .ok (.iconst 1, 1) := by decide +kernel
theorem dX0_setChild_13 : decode cX0_setChild 13 = .ok (.iastore, 1) := by decide +kernel
theorem dX0_setChild_14 : decode cX0_setChild 14 = .ok (.return_, 1) := by decide +kernel
theorem dX0_settle_0 : decode cX0_settle 0 = .ok (.iconst 0, 1) := by decide +kernel
theorem dX0_settle_1 : decode cX0_settle 1 = .ok (.istore_n 1, 1) := by decide +kernel
theorem dX0_settle_2 : decode cX0_settle 2 = .ok (.iload_n 1, 1) := by decide +kernel
theorem dX0_settle_3 : decode cX0_settle 3 = .ok (.aload_n 0, 1) := by decide +kernel
theorem dX0_settle_4 : decode cX0_settle 4 = .ok (.getfield 45, 3) := by decide +kernel
theorem dX0_settle_7 : decode cX0_settle 7 = .ok (.if_icmp .ge 51, 3) := by decide +kernel
theorem dX0_settle_10 : decode cX0_settle 10 = .ok (.iload_n 1, 1) := by decide +kernel
theorem dX0_settle_11 : decode cX0_settle 11 = .ok (.bipush 20, 2) := by decide +kernel
theorem dX0_settle_13 : decode cX0_settle 13 = .ok (.if_icmp .ge 45, 3) := by decide +kernel
theorem dX0_settle_16 : decode cX0_settle 16 = .ok (.aload_n 0, 1) := by decide +kernel
theorem dX0_settle_17 : decode cX0_settle 17 = .ok (.getfield 42, 3) := by decide +kernel
theorem dX0_settle_20 : decode cX0_settle 20 = .ok (.iload_n 1, 1) := by decide +kernel
theorem dX0_settle_21 : decode cX0_settle 21 = .ok (.iconst 0, 1) := by decide +kernel
theorem dX0_settle_22 : decode cX0_settle 22 = .ok (.iastore, 1) := by decide +kernel
theorem dX0_settle_23 : decode cX0_settle 23 = .ok (.aload_n 0, 1) := by decide +kernel
theorem dX0_settle_24 : decode cX0_settle 24 = .ok (.getfield 24, 3) := by decide +kernel
theorem dX0_settle_27 : decode cX0_settle 27 = .ok (.iload_n 1, 1) := by decide +kernel
theorem dX0_settle_28 : decode cX0_settle 28 = .ok (.aload_n 0, 1) := by decide +kernel
theorem dX0_settle_29 : decode cX0_settle 29 = .ok (.aload_n 0, 1) := by decide +kernel
theorem dX0_settle_30 : decode cX0_settle 30 = .ok (.getfield 15, 3) := by decide +kernel
theorem dX0_settle_33 : decode cX0_settle 33 = .ok (.iload_n 1, 1) := by decide +kernel
theorem dX0_settle_34 : decode cX0_settle 34 = .ok (.iaload, 1) := by decide +kernel
theorem dX0_settle_35 : decode cX0_settle 35 = .ok (.invokevirtual 62, 3) := by decide +kernel
theorem dX0_settle_38 : decode cX0_settle 38 = .ok (.ifCond .eq 7, 3) := by decide +kernel
theorem dX0_settle_41 : decode cX0_settle 41 = .ok (.iconst 0, 1) := by decide +kernel
theorem dX0_settle_42 : decode cX0_settle 42 = .ok (.goto 9, 3) := by decide +kernel
theorem dX0_settle_45 : decode cX0_settle 45 = .ok (.aload_n 0, 1) := by decide +kernel
theorem dX0_settle_46 : decode cX0_settle 46 = .ok (.getfield 21, 3) := by decide +kernel
theorem dX0_settle_49 : decode cX0_settle 49 = .ok (.iload_n 1, 1) := by decide +kernel
theorem dX0_settle_50 : decode cX0_settle 50 = .ok (.iaload, 1) := by decide +kernel
theorem dX0_settle_51 : decode cX0_settle 51 = .ok (.iastore, 1) := by decide +kernel
theorem dX0_settle_52 : decode cX0_settle 52 = .ok (.iinc 1 1, 3) := by decide +kernel
theorem dX0_settle_55 : decode cX0_settle 55 = .ok (.goto (-53), 3) := by decide +kernel
theorem dX0_settle_58 : decode cX0_settle 58 = .ok (.iconst 1, 1) := by decide +kernel
theorem dX0_settle_59 : decode cX0_settle 59 = .ok (.istore_n 1, 1) := by decide +kernel
theorem dX0_settle_60 : decode cX0_settle 60 = .ok (.iload_n 1, 1) := by decide +kernel
theorem dX0_settle_61 : decode cX0_settle 61 = .ok (.aload_n 0, 1) := by decide +kernel
theorem dX0_settle_62 : decode cX0_settle 62 = .ok (.getfield 45, 3) := by decide +kernel
theorem dX0_settle_65 : decode cX0_settle 65 = .ok (.if_icmp .ge 26, 3) := by decide +kernel
theorem dX0_settle_68 : decode cX0_settle 68 = .ok (.iload_n 1, 1) := by decide +kernel
theorem dX0_settle_69 : decode cX0_settle 69 = .ok (.bipush 20, 2) := by decide +kernel
theorem dX0_settle_71 : decode cX0_settle 71 = .ok (.if_icmp .ge 20, 3) := by decide +kernel
theorem dX0_settle_74 : decode cX0_settle 74 = .ok (.aload_n 0, 1) := by decide +kernel
theorem dX0_settle_75 : decode cX0_settle 75 = .ok (.aload_n 0, 1) := by decide +kernel
theorem dX0_settle_76 : decode cX0_settle 76 = .ok (.getfield 11, 3) := by decide +kernel
theorem dX0_settle_79 : decode cX0_settle 79 = .ok (.iload_n 1, 1) := by decide +kernel
theorem dX0_settle_80 : decode cX0_settle 80 = .ok (.iaload, 1) := by decide +kernel
theorem dX0_settle_81 : decode cX0_settle 81 = .ok (.iload_n 1, 1) := by decide +kernel
theorem dX0_settle_82 : decode cX0_settle 82 = .ok (.invokevirtual 65, 3) := by decide +kernel
theorem dX0_settle_85 : decode cX0_settle 85 = .ok (.iinc 1 1, 3) := by decide +kernel
theorem dX0_settle_88 : decode cX0_settle 88 = .ok (.goto (-28), 3) := by decide +kernel
theorem dX0_settle_91 : decode cX0_settle 91 = .ok (.iconst 0, 1) := by decide +kernel
theorem dX0_settle_92 : decode cX0_settle 92 = .ok (.istore_n 1, 1) := by decide +kernel
theorem dX0_settle_93 : decode cX0_settle 93 = .ok (.iload_n 1, 1) := by decide +kernel
theorem dX0_settle_94 : decode cX0_settle 94 = .ok (.aload_n 0, 1) := by decide +kernel
theorem dX0_settle_95 : decode cX0_settle 95 = .ok (.getfield 49, 3) := by decide +kernel
theorem dX0_settle_98 : decode cX0_settle 98 = .ok (.if_icmp .ge 31, 3) := by decide +kernel
theorem dX0_settle_101 : decode cX0_settle 101 = .ok (.iload_n 1, 1) := by decide +kernel
theorem dX0_settle_102 : decode cX0_settle 102 = .ok (.bipush 8, 2) := by decide +kernel
theorem dX0_settle_104 : decode cX0_settle 104 = .ok (.if_icmp .ge 25, 3) := by decide +kernel
theorem dX0_settle_107 : decode cX0_settle 107 = .ok (.aload_n 0, 1) := by decide +kernel
theorem dX0_settle_108 : decode cX0_settle 108 = .ok (.aload_n 0, 1) := by decide +kernel
theorem dX0_settle_109 : decode cX0_settle 109 = .ok (.getfield 27, 3) := by decide +kernel
theorem dX0_settle_112 : decode cX0_settle 112 = .ok (.iload_n 1, 1) := by decide +kernel
theorem dX0_settle_113 : decode cX0_settle 113 = .ok (.iaload, 1) := by decide +kernel
theorem dX0_settle_114 : decode cX0_settle 114 = .ok (.aload_n 0, 1) := by decide +kernel
theorem dX0_settle_115 : decode cX0_settle 115 = .ok (.getfield 30, 3) := by decide +kernel
theorem dX0_settle_118 : decode cX0_settle 118 = .ok (.iload_n 1, 1) := by decide +kernel
theorem dX0_settle_119 : decode cX0_settle 119 = .ok (.iaload, 1) := by decide +kernel
theorem dX0_settle_120 : decode cX0_settle 120 = .ok (.invokevirtual 65, 3) := by decide +kernel
theorem dX0_settle_123 : decode cX0_settle 123 = .ok (.iinc 1 1, 3) := by decide +kernel
theorem dX0_settle_126 : decode cX0_settle 126 = .ok (.goto (-33), 3) := by decide +kernel
theorem dX0_settle_129 : decode cX0_settle 129 = .ok (.return_, 1) := by decide +kernel
theorem dX0_addFollower_0 : decode cX0_addFollower 0 = .ok (.aload_n 0, 1) := by decide +kernel
theorem dX0_addFollower_1 : decode cX0_addFollower 1 = .ok (.iload_n 1, 1) := by decide +kernel
theorem dX0_addFollower_2 : decode cX0_addFollower 2 = .ok (.invokevirtual 69, 3) := by decide +kernel
theorem dX0_addFollower_5 : decode cX0_addFollower 5 = .ok (.ifCond .eq 20, 3) := by decide +kernel
theorem dX0_addFollower_8 : decode cX0_addFollower 8 = .ok (.aload_n 0, 1) := by decide +kernel
theorem dX0_addFollower_9 : decode cX0_addFollower 9 = .ok (.iload_n 2, 1) := by decide +kernel
theorem dX0_addFollower_10 : decode cX0_addFollower 10 = .ok (.invokevirtual 69, 3) := by decide +kernel
theorem dX0_addFollower_13 : decode cX0_addFollower 13 = .ok (.ifCond .eq 12, 3) := by decide +kernel
theorem dX0_addFollower_16 : decode cX0_addFollower 16 = .ok (.aload_n 0, 1) := by decide +kernel
theorem dX0_addFollower_17 : decode cX0_addFollower 17 = .ok (.iload_n 1, 1) := by decide +kernel
theorem dX0_addFollower_18 : decode cX0_addFollower 18 = .ok (.iload_n 2, 1) := by decide +kernel
theorem dX0_addFollower_19 : decode cX0_addFollower 19 = .ok (.invokevirtual 72, 3) := by decide +kernel
theorem dX0_addFollower_22 : decode cX0_addFollower 22 = .ok (.ifCond .eq 4, 3) := by decide +kernel
theorem dX0_addFollower_25 : decode cX0_addFollower 25 = .ok (.return_, 1) := by decide +kernel
theorem dX0_addFollower_26 : decode cX0_addFollower 26 = .ok (.aload_n 0, 1) := by decide +kernel
theorem dX0_addFollower_27 : decode cX0_addFollower 27 = .ok (.getfield 42, 3) := by decide +kernel
theorem dX0_addFollower_30 : decode cX0_addFollower 30 = .ok (.iload_n 1, 1) := by decide +kernel
theorem dX0_addFollower_31 : decode cX0_addFollower 31 = .ok (.iaload, 1) := by decide +kernel
theorem dX0_addFollower_32 : decode cX0_addFollower 32 = .ok (.istore_n 3, 1) := by decide +kernel
theorem dX0_addFollower_33 : decode cX0_addFollower 33 = .ok (.iload_n 3, 1) := by decide +kernel
theorem dX0_addFollower_34 : decode cX0_addFollower 34 = .ok (.ifCond .lt 30, 3) := by decide +kernel
theorem dX0_addFollower_37 : decode cX0_addFollower 37 = .ok (.iload_n 3, 1) := by decide +kernel
theorem dX0_addFollower_38 : decode cX0_addFollower 38 = .ok (.bipush 20, 2) := by decide +kernel
theorem dX0_addFollower_40 : decode cX0_addFollower 40 = .ok (.if_icmp .ge 24, 3) := by decide +kernel
theorem dX0_addFollower_43 : decode cX0_addFollower 43 = .ok (.aload_n 0, 1) := by decide +kernel
theorem dX0_addFollower_44 : decode cX0_addFollower 44 = .ok (.getfield 39, 3) := by decide +kernel
theorem dX0_addFollower_47 : decode cX0_addFollower 47 = .ok (.iload_n 1, 1) := by decide +kernel
theorem dX0_addFollower_48 : decode cX0_addFollower 48 = .ok (.bipush 20, 2) := by decide +kernel
theorem dX0_addFollower_50 : decode cX0_addFollower 50 = .ok (.imul, 1) := by decide +kernel
theorem dX0_addFollower_51 : decode cX0_addFollower 51 = .ok (.iload_n 3, 1) := by decide +kernel
theorem dX0_addFollower_52 : decode cX0_addFollower 52 = .ok (.iadd, 1) := by decide +kernel
theorem dX0_addFollower_53 : decode cX0_addFollower 53 = .ok (.iload_n 2, 1) := by decide +kernel
theorem dX0_addFollower_54 : decode cX0_addFollower 54 = .ok (.iastore, 1) := by decide +kernel
theorem dX0_addFollower_55 : decode cX0_addFollower 55 = .ok (.aload_n 0, 1) := by decide +kernel
theorem dX0_addFollower_56 : decode cX0_addFollower 56 = .ok (.getfield 42, 3) := by decide +kernel
theorem dX0_addFollower_59 : decode cX0_addFollower 59 = .ok (.iload_n 1, 1) := by decide +kernel
theorem dX0_addFollower_60 : decode cX0_addFollower 60 = .ok (.iload_n 3, 1) := by decide +kernel
theorem dX0_addFollower_61 : decode cX0_addFollower 61 = .ok (.iconst 1, 1) := by decide +kernel
theorem dX0_addFollower_62 : decode cX0_addFollower 62 = .ok (.iadd, 1) := by decide +kernel
theorem dX0_addFollower_63 : decode cX0_addFollower 63 = .ok (.iastore, 1) := by decide +kernel
theorem dX0_addFollower_64 : decode cX0_addFollower 64 = .ok (.return_, 1) := by decide +kernel
theorem dX0_copy_0 : decode cX0_copy 0 = .ok (.aload_n 1, 1) := by decide +kernel
theorem dX0_copy_1 : decode cX0_copy 1 = .ok (.getfield 11, 3) := by decide +kernel
theorem dX0_copy_4 : decode cX0_copy 4 = .ok (.iconst 0, 1) := by decide +kernel
theorem dX0_copy_5 : decode cX0_copy 5 = .ok (.aload_n 0, 1) := by decide +kernel
theorem dX0_copy_6 : decode cX0_copy 6 = .ok (.getfield 11, 3) := by decide +kernel
theorem dX0_copy_9 : decode cX0_copy 9 = .ok (.iconst 0, 1) := by decide +kernel
theorem dX0_copy_10 : decode cX0_copy 10 = .ok (.bipush 20, 2) := by decide +kernel
theorem dX0_copy_12 : decode cX0_copy 12 = .ok (.invokestatic 76, 3) := by decide +kernel
theorem dX0_copy_15 : decode cX0_copy 15 = .ok (.aload_n 1, 1) := by decide +kernel
theorem dX0_copy_16 : decode cX0_copy 16 = .ok (.getfield 15, 3) := by decide +kernel
theorem dX0_copy_19 : decode cX0_copy 19 = .ok (.iconst 0, 1) := by decide +kernel
theorem dX0_copy_20 : decode cX0_copy 20 = .ok (.aload_n 0, 1) := by decide +kernel
theorem dX0_copy_21 : decode cX0_copy 21 = .ok (.getfield 15, 3) := by decide +kernel
theorem dX0_copy_24 : decode cX0_copy 24 = .ok (.iconst 0, 1) := by decide +kernel
theorem dX0_copy_25 : decode cX0_copy 25 = .ok (.bipush 20, 2) := by decide +kernel
theorem dX0_copy_27 : decode cX0_copy 27 = .ok (.invokestatic 76, 3) := by decide +kernel
theorem dX0_copy_30 : decode cX0_copy 30 = .ok (.aload_n 1, 1) := by decide +kernel
theorem dX0_copy_31 : decode cX0_copy 31 = .ok (.getfield 18, 3) := by decide +kernel
theorem dX0_copy_34 : decode cX0_copy 34 = .ok (.iconst 0, 1) := by decide +kernel
theorem dX0_copy_35 : decode cX0_copy 35 = .ok (.aload_n 0, 1) := by decide +kernel
theorem dX0_copy_36 : decode cX0_copy 36 = .ok (.getfield 18, 3) := by decide +kernel
theorem dX0_copy_39 : decode cX0_copy 39 = .ok (.iconst 0, 1) := by decide +kernel
theorem dX0_copy_40 : decode cX0_copy 40 = .ok (.bipush 20, 2) := by decide +kernel
theorem dX0_copy_42 : decode cX0_copy 42 = .ok (.invokestatic 76, 3) := by decide +kernel
theorem dX0_copy_45 : decode cX0_copy 45 = .ok (.aload_n 1, 1) := by decide +kernel
theorem dX0_copy_46 : decode cX0_copy 46 = .ok (.getfield 21, 3) := by decide +kernel
theorem dX0_copy_49 : decode cX0_copy 49 = .ok (.iconst 0, 1) := by decide +kernel
theorem dX0_copy_50 : decode cX0_copy 50 = .ok (.aload_n 0, 1) := by decide +kernel
theorem dX0_copy_51 : decode cX0_copy 51 = .ok (.getfield 21, 3) := by decide +kernel
theorem dX0_copy_54 : decode cX0_copy 54 = .ok (.iconst 0, 1) := by decide +kernel
theorem dX0_copy_55 : decode cX0_copy 55 = .ok (.bipush 20, 2) := by decide +kernel
theorem dX0_copy_57 : decode cX0_copy 57 = .ok (.invokestatic 76, 3) := by decide +kernel
theorem dX0_copy_60 : decode cX0_copy 60 = .ok (.aload_n 1, 1) := by decide +kernel
theorem dX0_copy_61 : decode cX0_copy 61 = .ok (.getfield 24, 3) := by decide +kernel
theorem dX0_copy_64 : decode cX0_copy 64 = .ok (.iconst 0, 1) := by decide +kernel
theorem dX0_copy_65 : decode cX0_copy 65 = .ok (.aload_n 0, 1) := by decide +kernel
theorem dX0_copy_66 : decode cX0_copy 66 = .ok (.getfield 24, 3) := by decide +kernel
theorem dX0_copy_69 : decode cX0_copy 69 = .ok (.iconst 0, 1) := by decide +kernel
theorem dX0_copy_70 : decode cX0_copy 70 = .ok (.bipush 20, 2) := by decide +kernel
theorem dX0_copy_72 : decode cX0_copy 72 = .ok (.invokestatic 76, 3) := by decide +kernel
theorem dX0_copy_75 : decode cX0_copy 75 = .ok (.aload_n 1, 1) := by decide +kernel
theorem dX0_copy_76 : decode cX0_copy 76 = .ok (.getfield 27, 3) := by decide +kernel
theorem dX0_copy_79 : decode cX0_copy 79 = .ok (.iconst 0, 1) := by decide +kernel
theorem dX0_copy_80 : decode cX0_copy 80 = .ok (.aload_n 0, 1) := by decide +kernel
theorem dX0_copy_81 : decode cX0_copy 81 = .ok (.getfield 27, 3) := by decide +kernel
theorem dX0_copy_84 : decode cX0_copy 84 = .ok (.iconst 0, 1) := by decide +kernel
theorem dX0_copy_85 : decode cX0_copy 85 = .ok (.bipush 8, 2) := by decide +kernel
theorem dX0_copy_87 : decode cX0_copy 87 = .ok (.invokestatic 76, 3) := by decide +kernel
theorem dX0_copy_90 : decode cX0_copy 90 = .ok (.aload_n 1, 1) := by decide +kernel
theorem dX0_copy_91 : decode cX0_copy 91 = .ok (.getfield 30, 3) := by decide +kernel
theorem dX0_copy_94 : decode cX0_copy 94 = .ok (.iconst 0, 1) := by decide +kernel
theorem dX0_copy_95 : decode cX0_copy 95 = .ok (.aload_n 0, 1) := by decide +kernel
theorem dX0_copy_96 : decode cX0_copy 96 = .ok (.getfield 30, 3) := by decide +kernel
theorem dX0_copy_99 : decode cX0_copy 99 = .ok (.iconst 0, 1) := by decide +kernel
theorem dX0_copy_100 : decode cX0_copy 100 = .ok (.bipush 8, 2) := by decide +kernel
theorem dX0_copy_102 : decode cX0_copy 102 = .ok (.invokestatic 76, 3) := by decide +kernel
theorem dX0_copy_105 : decode cX0_copy 105 = .ok (.aload_n 1, 1) := by decide +kernel
theorem dX0_copy_106 : decode cX0_copy 106 = .ok (.getfield 33, 3) := by decide +kernel
theorem dX0_copy_109 : decode cX0_copy 109 = .ok (.iconst 0, 1) := by decide +kernel
theorem dX0_copy_110 : decode cX0_copy 110 = .ok (.aload_n 0, 1) := by decide +kernel
theorem dX0_copy_111 : decode cX0_copy 111 = .ok (.getfield 33, 3) := by decide +kernel
theorem dX0_copy_114 : decode cX0_copy 114 = .ok (.iconst 0, 1) := by decide +kernel
theorem dX0_copy_115 : decode cX0_copy 115 = .ok (.bipush 6, 2) := by decide +kernel
theorem dX0_copy_117 : decode cX0_copy 117 = .ok (.invokestatic 76, 3) := by decide +kernel
theorem dX0_copy_120 : decode cX0_copy 120 = .ok (.aload_n 1, 1) := by decide +kernel
theorem dX0_copy_121 : decode cX0_copy 121 = .ok (.getfield 36, 3) := by decide +kernel
theorem dX0_copy_124 : decode cX0_copy 124 = .ok (.iconst 0, 1) := by decide +kernel
theorem dX0_copy_125 : decode cX0_copy 125 = .ok (.aload_n 0, 1) := by decide +kernel
theorem dX0_copy_126 : decode cX0_copy 126 = .ok (.getfield 36, 3) := by decide +kernel
theorem dX0_copy_129 : decode cX0_copy 129 = .ok (.iconst 0, 1) := by decide +kernel
theorem dX0_copy_130 : decode cX0_copy 130 = .ok (.bipush 6, 2) := by decide +kernel
theorem dX0_copy_132 : decode cX0_copy 132 = .ok (.invokestatic 76, 3) := by decide +kernel
theorem dX0_copy_135 : decode cX0_copy 135 = .ok (.aload_n 1, 1) := by decide +kernel
theorem dX0_copy_136 : decode cX0_copy 136 = .ok (.getfield 39, 3) := by decide +kernel
theorem dX0_copy_139 : decode cX0_copy 139 = .ok (.iconst 0, 1) := by decide +kernel
theorem dX0_copy_140 : decode cX0_copy 140 = .ok (.aload_n 0, 1) := by decide +kernel
theorem dX0_copy_141 : decode cX0_copy 141 = .ok (.getfield 39, 3) := by decide +kernel
theorem dX0_copy_144 : decode cX0_copy 144 = .ok (.iconst 0, 1) := by decide +kernel
theorem dX0_copy_145 : decode cX0_copy 145 = .ok (.sipush 400, 3) := by decide +kernel
theorem dX0_copy_148 : decode cX0_copy 148 = .ok (.invokestatic 76, 3) := by decide +kernel
theorem dX0_copy_151 : decode cX0_copy 151 = .ok (.aload_n 1, 1) := by decide +kernel
theorem dX0_copy_152 : decode cX0_copy 152 = .ok (.getfield 42, 3) := by decide +kernel
theorem dX0_copy_155 : decode cX0_copy 155 = .ok (.iconst 0, 1) := by decide +kernel
theorem dX0_copy_156 : decode cX0_copy 156 = .ok (.aload_n 0, 1) := by decide +kernel
theorem dX0_copy_157 : decode cX0_copy 157 = .ok (.getfield 42, 3) := by decide +kernel
theorem dX0_copy_160 : decode cX0_copy 160 = .ok (.iconst 0, 1) := by decide +kernel
theorem dX0_copy_161 : decode cX0_copy 161 = .ok (.bipush 20, 2) := by decide +kernel
theorem dX0_copy_163 : decode cX0_copy 163 = .ok (.invokestatic 76, 3) := by decide +kernel
theorem dX0_copy_166 : decode cX0_copy 166 = .ok (.aload_n 0, 1) := by decide +kernel
theorem dX0_copy_167 : decode cX0_copy 167 = .ok (.aload_n 1, 1) := by decide +kernel
theorem dX0_copy_168 : decode cX0_copy 168 = .ok (.getfield 45, 3) := by decide +kernel
theorem dX0_copy_171 : decode cX0_copy 171 = .ok (.putfield 45, 3) := by decide +kernel
theorem dX0_copy_174 : decode cX0_copy 174 = .ok (.aload_n 0, 1) := by decide +kernel
theorem dX0_copy_175 : decode cX0_copy 175 = .ok (.aload_n 1, 1) := by decide +kernel
theorem dX0_copy_176 : decode cX0_copy 176 = .ok (.getfield 49, 3) := by decide +kernel
theorem dX0_copy_179 : decode cX0_copy 179 = .ok (.putfield 49, 3) := by decide +kernel
theorem dX0_copy_182 : decode cX0_copy 182 = .ok (.aload_n 0, 1) := by decide +kernel
theorem dX0_copy_183 : decode cX0_copy 183 = .ok (.aload_n 1, 1) := by decide +kernel
theorem dX0_copy_184 : decode cX0_copy 184 = .ok (.getfield 52, 3) := by decide +kernel
theorem dX0_copy_187 : decode cX0_copy 187 = .ok (.putfield 52, 3) := by decide +kernel
theorem dX0_copy_190 : decode cX0_copy 190 = .ok (.aload_n 0, 1) := by decide +kernel
theorem dX0_copy_191 : decode cX0_copy 191 = .ok (.aload_n 1, 1) := by decide +kernel
theorem dX0_copy_192 : decode cX0_copy 192 = .ok (.getfield 55, 3) := by decide +kernel
theorem dX0_copy_195 : decode cX0_copy 195 = .ok (.putfield 55, 3) := by decide +kernel
theorem dX0_copy_198 : decode cX0_copy 198 = .ok (.return_, 1) := by decide +kernel
theorem dX0_has_0 : decode cX0_has 0 = .ok (.iload_n 1, 1) := by decide +kernel
theorem dX0_has_1 : decode cX0_has 1 = .ok (.ifCond .lt 21, 3) := by decide +kernel
theorem dX0_has_4 : decode cX0_has 4 = .ok (.iload_n 1, 1) := by decide +kernel
theorem dX0_has_5 : decode cX0_has 5 = .ok (.aload_n 0, 1) := by decide +kernel
theorem dX0_has_6 : decode cX0_has 6 = .ok (.getfield 45, 3) := by decide +kernel
theorem dX0_has_9 : decode cX0_has 9 = .ok (.if_icmp .ge 13, 3) := by decide +kernel
theorem dX0_has_12 : decode cX0_has 12 = .ok (.iload_n 1, 1) := by decide +kernel
theorem dX0_has_13 : decode cX0_has 13 = .ok (.bipush 20, 2) := by decide +kernel
theorem dX0_has_15 : decode cX0_has 15 = .ok (.if_icmp .ge 7, 3) := by decide +kernel
theorem dX0_has_18 : decode cX0_has 18 = .ok (.iconst 1, 1) := by decide +kernel
theorem dX0_has_19 : decode cX0_has 19 = .ok (.goto 4, 3) := by decide +kernel
theorem dX0_has_22 : decode cX0_has 22 = .ok (.iconst 0, 1) := by decide +kernel
theorem dX0_has_23 : decode cX0_has 23 = .ok (.ireturn, 1) := by decide +kernel
theorem dX0_howManyFollow_0 : decode cX0_howManyFollow 0 = .ok (.iload_n 1, 1) := by decide +kernel
theorem dX0_howManyFollow_1 : decode cX0_howManyFollow 1 = .ok (.ifCond .lt 26, 3) := by decide +kernel
theorem dX0_howManyFollow_4 : decode cX0_howManyFollow 4 = .ok (.iload_n 1, 1) := by decide +kernel
theorem dX0_howManyFollow_5 : decode cX0_howManyFollow 5 = .ok (.aload_n 0, 1) := by decide +kernel
theorem dX0_howManyFollow_6 : decode cX0_howManyFollow 6 = .ok (.getfield 45, 3) := by decide +kernel
theorem dX0_howManyFollow_9 : decode cX0_howManyFollow 9 = .ok (.if_icmp .ge 18, 3) := by decide +kernel
theorem dX0_howManyFollow_12 : decode cX0_howManyFollow 12 = .ok (.iload_n 1, 1) := by decide +kernel
theorem dX0_howManyFollow_13 : decode cX0_howManyFollow 13 = .ok (.bipush 20, 2) := by decide +kernel
theorem dX0_howManyFollow_15 : decode cX0_howManyFollow 15 = .ok (.if_icmp .ge 12, 3) := by decide +kernel
theorem dX0_howManyFollow_18 : decode cX0_howManyFollow 18 = .ok (.aload_n 0, 1) := by decide +kernel
theorem dX0_howManyFollow_19 : decode cX0_howManyFollow 19 = .ok (.getfield 42, 3) := by decide +kernel
theorem dX0_howManyFollow_22 : decode cX0_howManyFollow 22 = .ok (.iload_n 1, 1) := by decide +kernel
theorem dX0_howManyFollow_23 : decode cX0_howManyFollow 23 = .ok (.iaload, 1) := by decide +kernel
theorem dX0_howManyFollow_24 : decode cX0_howManyFollow 24 = .ok (.goto 4, 3) := by decide +kernel
theorem dX0_howManyFollow_27 : decode cX0_howManyFollow 27 = .ok (.iconst 0, 1) := by decide +kernel
theorem dX0_howManyFollow_28 : decode cX0_howManyFollow 28 = .ok (.ireturn, 1) := by decide +kernel
theorem dX0_following_0 : decode cX0_following 0 = .ok (.iload_n 1, 1) := by decide +kernel
theorem dX0_following_1 : decode cX0_following 1 = .ok (.ifCond .lt 17, 3) := by decide +kernel
theorem dX0_following_4 : decode cX0_following 4 = .ok (.iload_n 1, 1) := by decide +kernel
theorem dX0_following_5 : decode cX0_following 5 = .ok (.aload_n 0, 1) := by decide +kernel
theorem dX0_following_6 : decode cX0_following 6 = .ok (.getfield 45, 3) := by decide +kernel
theorem dX0_following_9 : decode cX0_following 9 = .ok (.if_icmp .ge 9, 3) := by decide +kernel
theorem dX0_following_12 : decode cX0_following 12 = .ok (.iload_n 1, 1) := by decide +kernel
theorem dX0_following_13 : decode cX0_following 13 = .ok (.bipush 20, 2) := by decide +kernel
theorem dX0_following_15 : decode cX0_following 15 = .ok (.if_icmp .lt 5, 3) := by decide +kernel
theorem dX0_following_18 : decode cX0_following 18 = .ok (.iconst (-1), 1) := by decide +kernel
theorem dX0_following_19 : decode cX0_following 19 = .ok (.ireturn, 1) := by decide +kernel
theorem dX0_following_20 : decode cX0_following 20 = .ok (.iload_n 2, 1) := by decide +kernel
theorem dX0_following_21 : decode cX0_following 21 = .ok (.ifCond .lt 33, 3) := by decide +kernel
theorem dX0_following_24 : decode cX0_following 24 = .ok (.iload_n 2, 1) := by decide +kernel
theorem dX0_following_25 : decode cX0_following 25 = .ok (.aload_n 0, 1) := by decide +kernel
theorem dX0_following_26 : decode cX0_following 26 = .ok (.getfield 42, 3) := by decide +kernel
theorem dX0_following_29 : decode cX0_following 29 = .ok (.iload_n 1, 1) := by decide +kernel
theorem dX0_following_30 : decode cX0_following 30 = .ok (.iaload, 1) := by decide +kernel
theorem dX0_following_31 : decode cX0_following 31 = .ok (.if_icmp .ge 23, 3) := by decide +kernel
theorem dX0_following_34 : decode cX0_following 34 = .ok (.iload_n 2, 1) := by decide +kernel
theorem dX0_following_35 : decode cX0_following 35 = .ok (.bipush 20, 2) := by decide +kernel
theorem dX0_following_37 : decode cX0_following 37 = .ok (.if_icmp .ge 17, 3) := by decide +kernel
theorem dX0_following_40 : decode cX0_following 40 = .ok (.aload_n 0, 1) := by decide +kernel
theorem dX0_following_41 : decode cX0_following 41 = .ok (.getfield 39, 3) := by decide +kernel
theorem dX0_following_44 : decode cX0_following 44 = .ok (.iload_n 1, 1) := by decide +kernel
theorem dX0_following_45 : decode cX0_following 45 = .ok (.bipush 20, 2) := by decide +kernel
theorem dX0_following_47 : decode cX0_following 47 = .ok (.imul, 1) := by decide +kernel
theorem dX0_following_48 : decode cX0_following 48 = .ok (.iload_n 2, 1) := by decide +kernel
theorem dX0_following_49 : decode cX0_following 49 = .ok (.iadd, 1) := by decide +kernel
theorem dX0_following_50 : decode cX0_following 50 = .ok (.iaload, 1) := by decide +kernel
theorem dX0_following_51 : decode cX0_following 51 = .ok (.goto 4, 3) := by decide +kernel
theorem dX0_following_54 : decode cX0_following 54 = .ok (.iconst (-1), 1) := by decide +kernel
theorem dX0_following_55 : decode cX0_following 55 = .ok (.ireturn, 1) := by decide +kernel
theorem dX0_nextOf_0 : decode cX0_nextOf 0 = .ok (.aload_n 0, 1) := by decide +kernel
theorem dX0_nextOf_1 : decode cX0_nextOf 1 = .ok (.iload_n 1, 1) := by decide +kernel
theorem dX0_nextOf_2 : decode cX0_nextOf 2 = .ok (.iconst 0, 1) := by decide +kernel
theorem dX0_nextOf_3 : decode cX0_nextOf 3 = .ok (.invokevirtual 82, 3) := by decide +kernel
theorem dX0_nextOf_6 : decode cX0_nextOf 6 = .ok (.ireturn, 1) := by decide +kernel
theorem dX0_follows_0 : decode cX0_follows 0 = .ok (.iconst 0, 1) := by decide +kernel
theorem dX0_follows_1 : decode cX0_follows 1 = .ok (.istore_n 3, 1) := by decide +kernel
theorem dX0_follows_2 : decode cX0_follows 2 = .ok (.iload_n 3, 1) := by decide +kernel
theorem dX0_follows_3 : decode cX0_follows 3 = .ok (.aload_n 0, 1) := by decide +kernel
theorem dX0_follows_4 : decode cX0_follows 4 = .ok (.iload_n 1, 1) := by decide +kernel
theorem dX0_follows_5 : decode cX0_follows 5 = .ok (.invokevirtual 86, 3) := by decide +kernel
theorem dX0_follows_8 : decode cX0_follows 8 = .ok (.if_icmp .ge 21, 3) := by decide +kernel
theorem dX0_follows_11 : decode cX0_follows 11 = .ok (.aload_n 0, 1) := by decide +kernel
theorem dX0_follows_12 : decode cX0_follows 12 = .ok (.iload_n 1, 1) := by decide +kernel
theorem dX0_follows_13 : decode cX0_follows 13 = .ok (.iload_n 3, 1) := by decide +kernel
theorem dX0_follows_14 : decode cX0_follows 14 = .ok (.invokevirtual 82, 3) := by decide +kernel
theorem dX0_follows_17 : decode cX0_follows 17 = .ok (.iload_n 2, 1) := by decide +kernel
theorem dX0_follows_18 : decode cX0_follows 18 = .ok (.if_icmp .ne 5, 3) := by decide +kernel
theorem dX0_follows_21 : decode cX0_follows 21 = .ok (.iconst 1, 1) := by decide +kernel
theorem dX0_follows_22 : decode cX0_follows 22 = .ok (.ireturn, 1) := by decide +kernel
theorem dX0_follows_23 : decode cX0_follows 23 = .ok (.iinc 3 1, 3) := by decide +kernel
theorem dX0_follows_26 : decode cX0_follows 26 = .ok (.goto (-24), 3) := by decide +kernel
theorem dX0_follows_29 : decode cX0_follows 29 = .ok (.iconst 0, 1) := by decide +kernel
theorem dX0_follows_30 : decode cX0_follows 30 = .ok (.ireturn, 1) := by decide +kernel
theorem dX0_strayingOf_0 : decode cX0_strayingOf 0 = .ok (.aload_n 0, 1) := by decide +kernel
theorem dX0_strayingOf_1 : decode cX0_strayingOf 1 = .ok (.iload_n 1, 1) := by decide +kernel
theorem dX0_strayingOf_2 : decode cX0_strayingOf 2 = .ok (.invokevirtual 90, 3) := by decide +kernel
theorem dX0_strayingOf_5 : decode cX0_strayingOf 5 = .ok (.iload_n 2, 1) := by decide +kernel
theorem dX0_strayingOf_6 : decode cX0_strayingOf 6 = .ok (.if_icmp .ne 7, 3) := by decide +kernel
theorem dX0_strayingOf_9 : decode cX0_strayingOf 9 = .ok (.iconst 0, 1) := by decide +kernel
theorem dX0_strayingOf_10 : decode cX0_strayingOf 10 = .ok (.goto 4, 3) := by decide +kernel
theorem dX0_strayingOf_13 : decode cX0_strayingOf 13 = .ok (.iconst 1, 1) := by decide +kernel
theorem dX0_strayingOf_14 : decode cX0_strayingOf 14 = .ok (.ireturn, 1) := by decide +kernel
theorem dX0_whoSays_0 : decode cX0_whoSays 0 = .ok (.iload_n 1, 1) := by decide +kernel
theorem dX0_whoSays_1 : decode cX0_whoSays 1 = .ok (.ifCond .lt 26, 3) := by decide +kernel
theorem dX0_whoSays_4 : decode cX0_whoSays 4 = .ok (.iload_n 1, 1) := by decide +kernel
theorem dX0_whoSays_5 : decode cX0_whoSays 5 = .ok (.aload_n 0, 1) := by decide +kernel
theorem dX0_whoSays_6 : decode cX0_whoSays 6 = .ok (.getfield 45, 3) := by decide +kernel
theorem dX0_whoSays_9 : decode cX0_whoSays 9 = .ok (.if_icmp .ge 18, 3) := by decide +kernel
theorem dX0_whoSays_12 : decode cX0_whoSays 12 = .ok (.iload_n 1, 1) := by decide +kernel
theorem dX0_whoSays_13 : decode cX0_whoSays 13 = .ok (.bipush 20, 2) := by decide +kernel
theorem dX0_whoSays_15 : decode cX0_whoSays 15 = .ok (.if_icmp .ge 12, 3) := by decide +kernel
theorem dX0_whoSays_18 : decode cX0_whoSays 18 = .ok (.aload_n 0, 1) := by decide +kernel
theorem dX0_whoSays_19 : decode cX0_whoSays 19 = .ok (.getfield 15, 3) := by decide +kernel
theorem dX0_whoSays_22 : decode cX0_whoSays 22 = .ok (.iload_n 1, 1) := by decide +kernel
theorem dX0_whoSays_23 : decode cX0_whoSays 23 = .ok (.iaload, 1) := by decide +kernel
theorem dX0_whoSays_24 : decode cX0_whoSays 24 = .ok (.goto 4, 3) := by decide +kernel
theorem dX0_whoSays_27 : decode cX0_whoSays 27 = .ok (.iconst (-1), 1) := by decide +kernel
theorem dX0_whoSays_28 : decode cX0_whoSays 28 = .ok (.ireturn, 1) := by decide +kernel
theorem dX0_sceneOf_0 : decode cX0_sceneOf 0 = .ok (.aload_n 0, 1) := by decide +kernel
theorem dX0_sceneOf_1 : decode cX0_sceneOf 1 = .ok (.iload_n 1, 1) := by decide +kernel
theorem dX0_sceneOf_2 : decode cX0_sceneOf 2 = .ok (.invokevirtual 69, 3) := by decide +kernel
theorem dX0_sceneOf_5 : decode cX0_sceneOf 5 = .ok (.ifCond .eq 12, 3) := by decide +kernel
theorem dX0_sceneOf_8 : decode cX0_sceneOf 8 = .ok (.aload_n 0, 1) := by decide +kernel
theorem dX0_sceneOf_9 : decode cX0_sceneOf 9 = .ok (.getfield 18, 3) := by decide +kernel
theorem dX0_sceneOf_12 : decode cX0_sceneOf 12 = .ok (.iload_n 1, 1) := by decide +kernel
theorem dX0_sceneOf_13 : decode cX0_sceneOf 13 = .ok (.iaload, 1) := by decide +kernel
theorem dX0_sceneOf_14 : decode cX0_sceneOf 14 = .ok (.goto 4, 3) := by decide +kernel
theorem dX0_sceneOf_17 : decode cX0_sceneOf 17 = .ok (.iconst (-1), 1) := by decide +kernel
theorem dX0_sceneOf_18 : decode cX0_sceneOf 18 = .ok (.ireturn, 1) := by decide +kernel
theorem dX0_harmDone_0 : decode cX0_harmDone 0 = .ok (.iload_n 1, 1) := by decide +kernel
theorem dX0_harmDone_1 : decode cX0_harmDone 1 = .ok (.ifCond .lt 26, 3) := by decide +kernel
theorem dX0_harmDone_4 : decode cX0_harmDone 4 = .ok (.iload_n 1, 1) := by decide +kernel
theorem dX0_harmDone_5 : decode cX0_harmDone 5 = .ok (.aload_n 0, 1) := by decide +kernel
theorem dX0_harmDone_6 : decode cX0_harmDone 6 = .ok (.getfield 45, 3) := by decide +kernel
theorem dX0_harmDone_9 : decode cX0_harmDone 9 = .ok (.if_icmp .ge 18, 3) := by decide +kernel
theorem dX0_harmDone_12 : decode cX0_harmDone 12 = .ok (.iload_n 1, 1) := by decide +kernel
theorem dX0_harmDone_13 : decode cX0_harmDone 13 = .ok (.bipush 20, 2) := by decide +kernel
theorem dX0_harmDone_15 : decode cX0_harmDone 15 = .ok (.if_icmp .ge 12, 3) := by decide +kernel
theorem dX0_harmDone_18 : decode cX0_harmDone 18 = .ok (.aload_n 0, 1) := by decide +kernel
theorem dX0_harmDone_19 : decode cX0_harmDone 19 = .ok (.getfield 24, 3) := by decide +kernel
theorem dX0_harmDone_22 : decode cX0_harmDone 22 = .ok (.iload_n 1, 1) := by decide +kernel
theorem dX0_harmDone_23 : decode cX0_harmDone 23 = .ok (.iaload, 1) := by decide +kernel
theorem dX0_harmDone_24 : decode cX0_harmDone 24 = .ok (.goto 4, 3) := by decide +kernel
theorem dX0_harmDone_27 : decode cX0_harmDone 27 = .ok (.iconst 0, 1) := by decide +kernel
theorem dX0_harmDone_28 : decode cX0_harmDone 28 = .ok (.ireturn, 1) := by decide +kernel
theorem dX0_isChild_0 : decode cX0_isChild 0 = .ok (.iload_n 1, 1) := by decide +kernel
theorem dX0_isChild_1 : decode cX0_isChild 1 = .ok (.ifCond .lt 23, 3) := by decide +kernel
theorem dX0_isChild_4 : decode cX0_isChild 4 = .ok (.iload_n 1, 1) := by decide +kernel
theorem dX0_isChild_5 : decode cX0_isChild 5 = .ok (.bipush 6, 2) := by decide +kernel
theorem dX0_isChild_7 : decode cX0_isChild 7 = .ok (.if_icmp .ge 17, 3) := by decide +kernel
theorem dX0_isChild_10 : decode cX0_isChild 10 = .ok (.aload_n 0, 1) := by decide +kernel
theorem dX0_isChild_11 : decode cX0_isChild 11 = .ok (.getfield 36, 3) := by decide +kernel
theorem dX0_isChild_14 : decode cX0_isChild 14 = .ok (.iload_n 1, 1) := by decide +kernel
theorem dX0_isChild_15 : decode cX0_isChild 15 = .ok (.iaload, 1) := by decide +kernel
theorem dX0_isChild_16 : decode cX0_isChild 16 = .ok (.iconst 1, 1) := by decide +kernel
theorem dX0_isChild_17 : decode cX0_isChild 17 = .ok (.if_icmp .ne 7, 3) := by decide +kernel
theorem dX0_isChild_20 : decode cX0_isChild 20 = .ok (.iconst 1, 1) := by decide +kernel
theorem dX0_isChild_21 : decode cX0_isChild 21 = .ok (.goto 4, 3) := by decide +kernel
theorem dX0_isChild_24 : decode cX0_isChild 24 = .ok (.iconst 0, 1) := by decide +kernel
theorem dX0_isChild_25 : decode cX0_isChild 25 = .ok (.ireturn, 1) := by decide +kernel
theorem dX0_driesOf_0 : decode cX0_driesOf 0 = .ok (.iload_n 1, 1) := by decide +kernel
theorem dX0_driesOf_1 : decode cX0_driesOf 1 = .ok (.invokestatic 58, 3) := by decide +kernel
theorem dX0_driesOf_4 : decode cX0_driesOf 4 = .ok (.ifCond .eq 12, 3) := by decide +kernel
theorem dX0_driesOf_7 : decode cX0_driesOf 7 = .ok (.aload_n 0, 1) := by decide +kernel
theorem dX0_driesOf_8 : decode cX0_driesOf 8 = .ok (.getfield 33, 3) := by decide +kernel
theorem dX0_driesOf_11 : decode cX0_driesOf 11 = .ok (.iload_n 1, 1) := by decide +kernel
theorem dX0_driesOf_12 : decode cX0_driesOf 12 = .ok (.iaload, 1) := by decide +kernel
theorem dX0_driesOf_13 : decode cX0_driesOf 13 = .ok (.goto 4, 3) := by decide +kernel
theorem dX0_driesOf_16 : decode cX0_driesOf 16 = .ok (.iconst 0, 1) := by decide +kernel
theorem dX0_driesOf_17 : decode cX0_driesOf 17 = .ok (.ireturn, 1) := by decide +kernel
theorem dX0_show_0 : decode cX0_show 0 = .ok (.iload_n 1, 1) := by decide +kernel
theorem dX0_show_1 : decode cX0_show 1 = .ok (.bipush 100, 2) := by decide +kernel
theorem dX0_show_3 : decode cX0_show 3 = .ok (.if_icmp .lt 16, 3) := by decide +kernel
theorem dX0_show_6 : decode cX0_show 6 = .ok (.aload_n 0, 1) := by decide +kernel
theorem dX0_show_7 : decode cX0_show 7 = .ok (.iload_n 1, 1) := by decide +kernel
theorem dX0_show_8 : decode cX0_show 8 = .ok (.bipush 100, 2) := by decide +kernel
theorem dX0_show_10 : decode cX0_show 10 = .ok (.idiv, 1) := by decide +kernel
theorem dX0_show_11 : decode cX0_show 11 = .ok (.iload_n 1, 1) := by decide +kernel
theorem dX0_show_12 : decode cX0_show 12 = .ok (.bipush 100, 2) := by decide +kernel
theorem dX0_show_14 : decode cX0_show 14 = .ok (.irem, 1) := by decide +kernel
theorem dX0_show_15 : decode cX0_show 15 = .ok (.invokevirtual 93, 3) := by decide +kernel
theorem dX0_show_18 : decode cX0_show 18 = .ok (.ireturn, 1) := by decide +kernel
theorem dX0_show_19 : decode cX0_show 19 = .ok (.iload_n 1, 1) := by decide +kernel
theorem dX0_show_20 : decode cX0_show 20 = .ok (.bipush 10, 2) := by decide +kernel
theorem dX0_show_22 : decode cX0_show 22 = .ok (.if_icmp .lt 18, 3) := by decide +kernel
theorem dX0_show_25 : decode cX0_show 25 = .ok (.iload_n 1, 1) := by decide +kernel
theorem dX0_show_26 : decode cX0_show 26 = .ok (.bipush 16, 2) := by decide +kernel
theorem dX0_show_28 : decode cX0_show 28 = .ok (.if_icmp .ge 12, 3) := by decide +kernel
theorem dX0_show_31 : decode cX0_show 31 = .ok (.aload_n 0, 1) := by decide +kernel
theorem dX0_show_32 : decode cX0_show 32 = .ok (.iload_n 1, 1) := by decide +kernel
theorem dX0_show_33 : decode cX0_show 33 = .ok (.bipush 10, 2) := by decide +kernel
theorem dX0_show_35 : decode cX0_show 35 = .ok (.isub, 1) := by decide +kernel
theorem dX0_show_36 : decode cX0_show 36 = .ok (.invokevirtual 96, 3) := by decide +kernel
theorem dX0_show_39 : decode cX0_show 39 = .ok (.ireturn, 1) := by decide +kernel
theorem dX0_show_40 : decode cX0_show 40 = .ok (.iload_n 1, 1) := by decide +kernel
theorem dX0_show_41 : decode cX0_show 41 = .ok (.bipush 20, 2) := by decide +kernel
theorem dX0_show_43 : decode cX0_show 43 = .ok (.if_icmp .lt 26, 3) := by decide +kernel
theorem dX0_show_46 : decode cX0_show 46 = .ok (.iload_n 1, 1) := by decide +kernel
theorem dX0_show_47 : decode cX0_show 47 = .ok (.bipush 26, 2) := by decide +kernel
theorem dX0_show_49 : decode cX0_show 49 = .ok (.if_icmp .ge 20, 3) := by decide +kernel
theorem dX0_show_52 : decode cX0_show 52 = .ok (.aload_n 0, 1) := by decide +kernel
theorem dX0_show_53 : decode cX0_show 53 = .ok (.iload_n 1, 1) := by decide +kernel
theorem dX0_show_54 : decode cX0_show 54 = .ok (.bipush 20, 2) := by decide +kernel
theorem dX0_show_56 : decode cX0_show 56 = .ok (.isub, 1) := by decide +kernel
theorem dX0_show_57 : decode cX0_show 57 = .ok (.invokevirtual 62, 3) := by decide +kernel
theorem dX0_show_60 : decode cX0_show 60 = .ok (.ifCond .eq 7, 3) := by decide +kernel
theorem dX0_show_63 : decode cX0_show 63 = .ok (.iconst 1, 1) := by decide +kernel
theorem dX0_show_64 : decode cX0_show 64 = .ok (.goto 4, 3) := by decide +kernel
theorem dX0_show_67 : decode cX0_show 67 = .ok (.iconst 0, 1) := by decide +kernel
theorem dX0_show_68 : decode cX0_show 68 = .ok (.ireturn, 1) := by decide +kernel
theorem dX0_show_69 : decode cX0_show 69 = .ok (.iload_n 1, 1) := by decide +kernel
theorem dX0_show_70 : decode cX0_show 70 = .ok (.tableswitch 41 0 2 #[26, 31, 36], 26) := by decide +kernel
theorem dX0_show_96 : decode cX0_show 96 = .ok (.aload_n 0, 1) := by decide +kernel
theorem dX0_show_97 : decode cX0_show 97 = .ok (.getfield 45, 3) := by decide +kernel
theorem dX0_show_100 : decode cX0_show 100 = .ok (.ireturn, 1) := by decide +kernel
theorem dX0_show_101 : decode cX0_show 101 = .ok (.aload_n 0, 1) := by decide +kernel
theorem dX0_show_102 : decode cX0_show 102 = .ok (.getfield 52, 3) := by decide +kernel
theorem dX0_show_105 : decode cX0_show 105 = .ok (.ireturn, 1) := by decide +kernel
theorem dX0_show_106 : decode cX0_show 106 = .ok (.aload_n 0, 1) := by decide +kernel
theorem dX0_show_107 : decode cX0_show 107 = .ok (.getfield 55, 3) := by decide +kernel
theorem dX0_show_110 : decode cX0_show 110 = .ok (.ireturn, 1) := by decide +kernel
theorem dX0_show_111 : decode cX0_show 111 = .ok (.bipush (-2), 2) := by decide +kernel
theorem dX0_show_113 : decode cX0_show 113 = .ok (.ireturn, 1) := by decide +kernel
theorem dX0_showLine_0 : decode cX0_showLine 0 = .ok (.aload_n 0, 1) := by decide +kernel
theorem dX0_showLine_1 : decode cX0_showLine 1 = .ok (.iload_n 2, 1) := by decide +kernel
theorem dX0_showLine_2 : decode cX0_showLine 2 = .ok (.invokevirtual 69, 3) := by decide +kernel
theorem dX0_showLine_5 : decode cX0_showLine 5 = .ok (.ifCond .ne 6, 3) := by decide +kernel
theorem dX0_showLine_8 : decode cX0_showLine 8 = .ok (.bipush (-2), 2) := by decide +kernel
theorem dX0_showLine_10 : decode cX0_showLine 10 = .ok (.ireturn, 1) := by decide +kernel
theorem dX0_showLine_11 : decode cX0_showLine 11 = .ok (.iload_n 1, 1) := by decide +kernel
theorem dX0_showLine_12 : decode cX0_showLine 12 = .ok (.tableswitch 80 1 6 #[40, 47, 54, 61, 68, 74], 40) := by decide +kernel
theorem dX0_showLine_52 : decode cX0_showLine 52 = .ok (.aload_n 0, 1) := by decide +kernel
theorem dX0_showLine_53 : decode cX0_showLine 53 = .ok (.getfield 11, 3) := by decide +kernel
theorem dX0_showLine_56 : decode cX0_showLine 56 = .ok (.iload_n 2, 1) := by decide +kernel
theorem dX0_showLine_57 : decode cX0_showLine 57 = .ok (.iaload, 1) := by decide +kernel
theorem dX0_showLine_58 : decode cX0_showLine 58 = .ok (.ireturn, 1) := by decide +kernel
theorem dX0_showLine_59 : decode cX0_showLine 59 = .ok (.aload_n 0, 1) := by decide +kernel
theorem dX0_showLine_60 : decode cX0_showLine 60 = .ok (.getfield 15, 3) := by decide +kernel
theorem dX0_showLine_63 : decode cX0_showLine 63 = .ok (.iload_n 2, 1) := by decide +kernel
theorem dX0_showLine_64 : decode cX0_showLine 64 = .ok (.iaload, 1) := by decide +kernel
theorem dX0_showLine_65 : decode cX0_showLine 65 = .ok (.ireturn, 1) := by decide +kernel
theorem dX0_showLine_66 : decode cX0_showLine 66 = .ok (.aload_n 0, 1) := by decide +kernel
theorem dX0_showLine_67 : decode cX0_showLine 67 = .ok (.getfield 18, 3) := by decide +kernel
theorem dX0_showLine_70 : decode cX0_showLine 70 = .ok (.iload_n 2, 1) := by decide +kernel
theorem dX0_showLine_71 : decode cX0_showLine 71 = .ok (.iaload, 1) := by decide +kernel
theorem dX0_showLine_72 : decode cX0_showLine 72 = .ok (.ireturn, 1) := by decide +kernel
theorem dX0_showLine_73 : decode cX0_showLine 73 = .ok (.aload_n 0, 1) := by decide +kernel
theorem dX0_showLine_74 : decode cX0_showLine 74 = .ok (.getfield 21, 3) := by decide +kernel
theorem dX0_showLine_77 : decode cX0_showLine 77 = .ok (.iload_n 2, 1) := by decide +kernel
theorem dX0_showLine_78 : decode cX0_showLine 78 = .ok (.iaload, 1) := by decide +kernel
theorem dX0_showLine_79 : decode cX0_showLine 79 = .ok (.ireturn, 1) := by decide +kernel
theorem dX0_showLine_80 : decode cX0_showLine 80 = .ok (.aload_n 0, 1) := by decide +kernel
theorem dX0_showLine_81 : decode cX0_showLine 81 = .ok (.iload_n 2, 1) := by decide +kernel
theorem dX0_showLine_82 : decode cX0_showLine 82 = .ok (.invokevirtual 90, 3) := by decide +kernel
theorem dX0_showLine_85 : decode cX0_showLine 85 = .ok (.ireturn, 1) := by decide +kernel
theorem dX0_showLine_86 : decode cX0_showLine 86 = .ok (.aload_n 0, 1) := by decide +kernel
theorem dX0_showLine_87 : decode cX0_showLine 87 = .ok (.iload_n 2, 1) := by decide +kernel
theorem dX0_showLine_88 : decode cX0_showLine 88 = .ok (.invokevirtual 86, 3) := by decide +kernel
theorem dX0_showLine_91 : decode cX0_showLine 91 = .ok (.ireturn, 1) := by decide +kernel
theorem dX0_showLine_92 : decode cX0_showLine 92 = .ok (.bipush (-2), 2) := by decide +kernel
theorem dX0_showLine_94 : decode cX0_showLine 94 = .ok (.ireturn, 1) := by decide +kernel
theorem dX0_nextWithout_0 : decode cX0_nextWithout 0 = .ok (.aload_n 0, 1) := by decide +kernel
theorem dX0_nextWithout_1 : decode cX0_nextWithout 1 = .ok (.iload_n 1, 1) := by decide +kernel
theorem dX0_nextWithout_2 : decode cX0_nextWithout 2 = .ok (.invokevirtual 90, 3) := by decide +kernel
theorem dX0_nextWithout_5 : decode cX0_nextWithout 5 = .ok (.istore_n 3, 1) := by decide +kernel
theorem dX0_nextWithout_6 : decode cX0_nextWithout 6 = .ok (.iload_n 3, 1) := by decide +kernel
theorem dX0_nextWithout_7 : decode cX0_nextWithout 7 = .ok (.iconst (-1), 1) := by decide +kernel
theorem dX0_nextWithout_8 : decode cX0_nextWithout 8 = .ok (.if_icmp .eq 17, 3) := by decide +kernel
theorem dX0_nextWithout_11 : decode cX0_nextWithout 11 = .ok (.iload_n 3, 1) := by decide +kernel
theorem dX0_nextWithout_12 : decode cX0_nextWithout 12 = .ok (.iload_n 2, 1) := by decide +kernel
theorem dX0_nextWithout_13 : decode cX0_nextWithout 13 = .ok (.if_icmp .ne 12, 3) := by decide +kernel
theorem dX0_nextWithout_16 : decode cX0_nextWithout 16 = .ok (.aload_n 0, 1) := by decide +kernel
theorem dX0_nextWithout_17 : decode cX0_nextWithout 17 = .ok (.iload_n 1, 1) := by decide +kernel
theorem dX0_nextWithout_18 : decode cX0_nextWithout 18 = .ok (.iconst 1, 1) := by decide +kernel
theorem dX0_nextWithout_19 : decode cX0_nextWithout 19 = .ok (.invokevirtual 82, 3) := by decide +kernel
theorem dX0_nextWithout_22 : decode cX0_nextWithout 22 = .ok (.goto 4, 3) := by decide +kernel
theorem dX0_nextWithout_25 : decode cX0_nextWithout 25 = .ok (.iload_n 3, 1) := by decide +kernel
theorem dX0_nextWithout_26 : decode cX0_nextWithout 26 = .ok (.ireturn, 1) := by decide +kernel
theorem dX0_lengthWithout_0 : decode cX0_lengthWithout 0 = .ok (.iconst 0, 1) := by decide +kernel
theorem dX0_lengthWithout_1 : decode cX0_lengthWithout 1 = .ok (.istore_n 2, 1) := by decide +kernel
theorem dX0_lengthWithout_2 : decode cX0_lengthWithout 2 = .ok (.aload_n 0, 1) := by decide +kernel
theorem dX0_lengthWithout_3 : decode cX0_lengthWithout 3 = .ok (.iconst 0, 1) := by decide +kernel
theorem dX0_lengthWithout_4 : decode cX0_lengthWithout 4 = .ok (.invokevirtual 69, 3) := by decide +kernel
theorem dX0_lengthWithout_7 : decode cX0_lengthWithout 7 = .ok (.ifCond .eq 7, 3) := by decide +kernel
theorem dX0_lengthWithout_10 : decode cX0_lengthWithout 10 = .ok (.iconst 0, 1) := by decide +kernel
theorem dX0_lengthWithout_11 : decode cX0_lengthWithout 11 = .ok (.goto 4, 3) := by decide +kernel
theorem dX0_lengthWithout_14 : decode cX0_lengthWithout 14 = .ok (.iconst (-1), 1) := by decide +kernel
theorem dX0_lengthWithout_15 : decode cX0_lengthWithout 15 = .ok (.istore_n 3, 1) := by decide +kernel
theorem dX0_lengthWithout_16 : decode cX0_lengthWithout 16 = .ok (.iconst 0, 1) := by decide +kernel
theorem dX0_lengthWithout_17 : decode cX0_lengthWithout 17 = .ok (.istore 4, 2) := by decide +kernel
theorem dX0_lengthWithout_19 : decode cX0_lengthWithout 19 = .ok (.iload 4, 2) := by decide +kernel
theorem dX0_lengthWithout_21 : decode cX0_lengthWithout 21 = .ok (.bipush 20, 2) := by decide +kernel
theorem dX0_lengthWithout_23 : decode cX0_lengthWithout 23 = .ok (.if_icmp .ge 38, 3) := by decide +kernel
theorem dX0_lengthWithout_26 : decode cX0_lengthWithout 26 = .ok (.aload_n 0, 1) := by decide +kernel
theorem dX0_lengthWithout_27 : decode cX0_lengthWithout 27 = .ok (.iload_n 3, 1) := by decide +kernel
theorem dX0_lengthWithout_28 : decode cX0_lengthWithout 28 = .ok (.invokevirtual 69, 3) := by decide +kernel
theorem dX0_lengthWithout_31 : decode cX0_lengthWithout 31 = .ok (.ifCond .eq 30, 3) := by decide +kernel
theorem dX0_lengthWithout_34 : decode cX0_lengthWithout 34 = .ok (.iload_n 2, 1) := by decide +kernel
theorem dX0_lengthWithout_35 : decode cX0_lengthWithout 35 = .ok (.iload_n 3, 1) := by decide +kernel
theorem dX0_lengthWithout_36 : decode cX0_lengthWithout 36 = .ok (.ishr, 1) := by decide +kernel
theorem dX0_lengthWithout_37 : decode cX0_lengthWithout 37 = .ok (.iconst 1, 1) := by decide +kernel
theorem dX0_lengthWithout_38 : decode cX0_lengthWithout 38 = .ok (.iand, 1) := by decide +kernel
theorem dX0_lengthWithout_39 : decode cX0_lengthWithout 39 = .ok (.ifCond .ne 22, 3) := by decide +kernel
theorem dX0_lengthWithout_42 : decode cX0_lengthWithout 42 = .ok (.iload_n 2, 1) := by decide +kernel
theorem dX0_lengthWithout_43 : decode cX0_lengthWithout 43 = .ok (.iconst 1, 1) := by decide +kernel
theorem dX0_lengthWithout_44 : decode cX0_lengthWithout 44 = .ok (.iload_n 3, 1) := by decide +kernel
theorem dX0_lengthWithout_45 : decode cX0_lengthWithout 45 = .ok (.ishl, 1) := by decide +kernel
theorem dX0_lengthWithout_46 : decode cX0_lengthWithout 46 = .ok (.ior, 1) := by decide +kernel
theorem dX0_lengthWithout_47 : decode cX0_lengthWithout 47 = .ok (.istore_n 2, 1) := by decide +kernel
theorem dX0_lengthWithout_48 : decode cX0_lengthWithout 48 = .ok (.iinc 4 1, 3) := by decide +kernel
theorem dX0_lengthWithout_51 : decode cX0_lengthWithout 51 = .ok (.aload_n 0, 1) := by decide +kernel
theorem dX0_lengthWithout_52 : decode cX0_lengthWithout 52 = .ok (.iload_n 3, 1) := by decide +kernel
theorem dX0_lengthWithout_53 : decode cX0_lengthWithout 53 = .ok (.iload_n 1, 1) := by decide +kernel
theorem dX0_lengthWithout_54 : decode cX0_lengthWithout 54 = .ok (.invokevirtual 99, 3) := by decide +kernel
theorem dX0_lengthWithout_57 : decode cX0_lengthWithout 57 = .ok (.istore_n 3, 1) := by decide +kernel
theorem dX0_lengthWithout_58 : decode cX0_lengthWithout 58 = .ok (.goto (-39), 3) := by decide +kernel
theorem dX0_lengthWithout_61 : decode cX0_lengthWithout 61 = .ok (.iload 4, 2) := by decide +kernel
theorem dX0_lengthWithout_63 : decode cX0_lengthWithout 63 = .ok (.ireturn, 1) := by decide +kernel
theorem dX0_lengthOfLoop_0 : decode cX0_lengthOfLoop 0 = .ok (.aload_n 0, 1) := by decide +kernel
theorem dX0_lengthOfLoop_1 : decode cX0_lengthOfLoop 1 = .ok (.iconst 0, 1) := by decide +kernel
theorem dX0_lengthOfLoop_2 : decode cX0_lengthOfLoop 2 = .ok (.invokevirtual 69, 3) := by decide +kernel
theorem dX0_lengthOfLoop_5 : decode cX0_lengthOfLoop 5 = .ok (.ifCond .eq 7, 3) := by decide +kernel
theorem dX0_lengthOfLoop_8 : decode cX0_lengthOfLoop 8 = .ok (.iconst 0, 1) := by decide +kernel
theorem dX0_lengthOfLoop_9 : decode cX0_lengthOfLoop 9 = .ok (.goto 4, 3) := by decide +kernel
theorem dX0_lengthOfLoop_12 : decode cX0_lengthOfLoop 12 = .ok (.iconst (-1), 1) := by decide +kernel
theorem dX0_lengthOfLoop_13 : decode cX0_lengthOfLoop 13 = .ok (.istore_n 1, 1) := by decide +kernel
theorem dX0_lengthOfLoop_14 : decode cX0_lengthOfLoop 14 = .ok (.iconst 0, 1) := by decide +kernel
theorem dX0_lengthOfLoop_15 : decode cX0_lengthOfLoop 15 = .ok (.istore_n 2, 1) := by decide +kernel
theorem dX0_lengthOfLoop_16 : decode cX0_lengthOfLoop 16 = .ok (.iload_n 2, 1) := by decide +kernel
theorem dX0_lengthOfLoop_17 : decode cX0_lengthOfLoop 17 = .ok (.bipush 20, 2) := by decide +kernel
theorem dX0_lengthOfLoop_19 : decode cX0_lengthOfLoop 19 = .ok (.if_icmp .ge 15, 3) := by decide +kernel
theorem dX0_lengthOfLoop_22 : decode cX0_lengthOfLoop 22 = .ok (.aload_n 0, 1) := by decide +kernel
theorem dX0_lengthOfLoop_23 : decode cX0_lengthOfLoop 23 = .ok (.iload_n 1, 1) := by decide +kernel
theorem dX0_lengthOfLoop_24 : decode cX0_lengthOfLoop 24 = .ok (.invokevirtual 90, 3) := by decide +kernel
theorem dX0_lengthOfLoop_27 : decode cX0_lengthOfLoop 27 = .ok (.istore_n 1, 1) := by decide +kernel
theorem dX0_lengthOfLoop_28 : decode cX0_lengthOfLoop 28 = .ok (.iinc 2 1, 3) := by decide +kernel
theorem dX0_lengthOfLoop_31 : decode cX0_lengthOfLoop 31 = .ok (.goto (-15), 3) := by decide +kernel
theorem dX0_lengthOfLoop_34 : decode cX0_lengthOfLoop 34 = .ok (.aload_n 0, 1) := by decide +kernel
theorem dX0_lengthOfLoop_35 : decode cX0_lengthOfLoop 35 = .ok (.iload_n 1, 1) := by decide +kernel
theorem dX0_lengthOfLoop_36 : decode cX0_lengthOfLoop 36 = .ok (.invokevirtual 69, 3) := by decide +kernel
theorem dX0_lengthOfLoop_39 : decode cX0_lengthOfLoop 39 = .ok (.ifCond .ne 5, 3) := by decide +kernel
theorem dX0_lengthOfLoop_42 : decode cX0_lengthOfLoop 42 = .ok (.iconst 0, 1) := by decide +kernel
theorem dX0_lengthOfLoop_43 : decode cX0_lengthOfLoop 43 = .ok (.ireturn, 1) := by decide +kernel
theorem dX0_lengthOfLoop_44 : decode cX0_lengthOfLoop 44 = .ok (.aload_n 0, 1) := by decide +kernel
theorem dX0_lengthOfLoop_45 : decode cX0_lengthOfLoop 45 = .ok (.iload_n 1, 1) := by decide +kernel
theorem dX0_lengthOfLoop_46 : decode cX0_lengthOfLoop 46 = .ok (.invokevirtual 90, 3) := by decide +kernel
theorem dX0_lengthOfLoop_49 : decode cX0_lengthOfLoop 49 = .ok (.istore_n 2, 1) := by decide +kernel
theorem dX0_lengthOfLoop_50 : decode cX0_lengthOfLoop 50 = .ok (.iconst 1, 1) := by decide +kernel
theorem dX0_lengthOfLoop_51 : decode cX0_lengthOfLoop 51 = .ok (.istore_n 3, 1) := by decide +kernel
theorem dX0_lengthOfLoop_52 : decode cX0_lengthOfLoop 52 = .ok (.iload_n 2, 1) := by decide +kernel
theorem dX0_lengthOfLoop_53 : decode cX0_lengthOfLoop 53 = .ok (.iload_n 1, 1) := by decide +kernel
theorem dX0_lengthOfLoop_54 : decode cX0_lengthOfLoop 54 = .ok (.if_icmp .eq 21, 3) := by decide +kernel
theorem dX0_lengthOfLoop_57 : decode cX0_lengthOfLoop 57 = .ok (.iload_n 3, 1) := by decide +kernel
theorem dX0_lengthOfLoop_58 : decode cX0_lengthOfLoop 58 = .ok (.bipush 20, 2) := by decide +kernel
theorem dX0_lengthOfLoop_60 : decode cX0_lengthOfLoop 60 = .ok (.if_icmp .ge 15, 3) := by decide +kernel
theorem dX0_lengthOfLoop_63 : decode cX0_lengthOfLoop 63 = .ok (.aload_n 0, 1) := by decide +kernel
theorem dX0_lengthOfLoop_64 : decode cX0_lengthOfLoop 64 = .ok (.iload_n 2, 1) := by decide +kernel
theorem dX0_lengthOfLoop_65 : decode cX0_lengthOfLoop 65 = .ok (.invokevirtual 90, 3) := by decide +kernel
theorem dX0_lengthOfLoop_68 : decode cX0_lengthOfLoop 68 = .ok (.istore_n 2, 1) := by decide +kernel
theorem dX0_lengthOfLoop_69 : decode cX0_lengthOfLoop 69 = .ok (.iinc 3 1, 3) := by decide +kernel
theorem dX0_lengthOfLoop_72 : decode cX0_lengthOfLoop 72 = .ok (.goto (-20), 3) := by decide +kernel
theorem dX0_lengthOfLoop_75 : decode cX0_lengthOfLoop 75 = .ok (.iload_n 3, 1) := by decide +kernel
theorem dX0_lengthOfLoop_76 : decode cX0_lengthOfLoop 76 = .ok (.ireturn, 1) := by decide +kernel
theorem dX0_shortestWithout_0 : decode cX0_shortestWithout 0 = .ok (.iconst (-1), 1) := by decide +kernel
theorem dX0_shortestWithout_1 : decode cX0_shortestWithout 1 = .ok (.istore_n 1, 1) := by decide +kernel
theorem dX0_shortestWithout_2 : decode cX0_shortestWithout 2 = .ok (.ldc 102, 2) := by decide +kernel
theorem dX0_shortestWithout_4 : decode cX0_shortestWithout 4 = .ok (.istore_n 2, 1) := by decide +kernel
theorem dX0_shortestWithout_5 : decode cX0_shortestWithout 5 = .ok (.iconst 1, 1) := by decide +kernel
theorem dX0_shortestWithout_6 : decode cX0_shortestWithout 6 = .ok (.istore_n 3, 1) := by decide +kernel
theorem dX0_shortestWithout_7 : decode cX0_shortestWithout 7 = .ok (.iload_n 3, 1) := by decide +kernel
theorem dX0_shortestWithout_8 : decode cX0_shortestWithout 8 = .ok (.aload_n 0, 1) := by decide +kernel
theorem dX0_shortestWithout_9 : decode cX0_shortestWithout 9 = .ok (.getfield 45, 3) := by decide +kernel
theorem dX0_shortestWithout_12 : decode cX0_shortestWithout 12 = .ok (.if_icmp .ge 27, 3) := by decide +kernel
theorem dX0_shortestWithout_15 : decode cX0_shortestWithout 15 = .ok (.aload_n 0, 1) := by decide +kernel
theorem dX0_shortestWithout_16 : decode cX0_shortestWithout 16 = .ok (.iload_n 3, 1) := by decide +kernel
theorem dX0_shortestWithout_17 : decode cX0_shortestWithout 17 = .ok (.invokevirtual 103, 3) := by decide +kernel
theorem dX0_shortestWithout_20 : decode cX0_shortestWithout 20 = .ok (.istore 4, 2) := by decide +kernel
theorem dX0_shortestWithout_22 : decode cX0_shortestWithout 22 = .ok (.iload 4, 2) := by decide +kernel
theorem dX0_shortestWithout_24 : decode cX0_shortestWithout 24 = .ok (.iload_n 2, 1) := by decide +kernel
theorem dX0_shortestWithout_25 : decode cX0_shortestWithout 25 = .ok (.if_icmp .ge 8, 3) := by decide +kernel
theorem dX0_shortestWithout_28 : decode cX0_shortestWithout 28 = .ok (.iload 4, 2) := by decide +kernel
theorem dX0_shortestWithout_30 : decode cX0_shortestWithout 30 = .ok (.istore_n 2, 1) := by decide +kernel
theorem dX0_shortestWithout_31 : decode cX0_shortestWithout 31 = .ok (.iload_n 3, 1) := by decide +kernel
theorem dX0_shortestWithout_32 : decode cX0_shortestWithout 32 = .ok (.istore_n 1, 1) := by decide +kernel
theorem dX0_shortestWithout_33 : decode cX0_shortestWithout 33 = .ok (.iinc 3 1, 3) := by decide +kernel
theorem dX0_shortestWithout_36 : decode cX0_shortestWithout 36 = .ok (.goto (-29), 3) := by decide +kernel
theorem dX0_shortestWithout_39 : decode cX0_shortestWithout 39 = .ok (.iload_n 1, 1) := by decide +kernel
theorem dX0_shortestWithout_40 : decode cX0_shortestWithout 40 = .ok (.ireturn, 1) := by decide +kernel
theorem dX1_init_0 : decode cX1_init 0 = .ok (.aload_n 0, 1) := by decide +kernel
theorem dX1_init_1 : decode cX1_init 1 = .ok (.invokespecial 3, 3) := by decide +kernel
theorem dX1_init_4 : decode cX1_init 4 = .ok (.aload_n 0, 1) := by decide +kernel
theorem dX1_init_5 : decode cX1_init 5 = .ok (.bipush 40, 2) := by decide +kernel
theorem dX1_init_7 : decode cX1_init 7 = .ok (.newarray .int, 2) := by decide +kernel
theorem dX1_init_9 : decode cX1_init 9 = .ok (.putfield 11, 3) := by decide +kernel
theorem dX1_init_12 : decode cX1_init 12 = .ok (.aload_n 0, 1) := by decide +kernel
theorem dX1_init_13 : decode cX1_init 13 = .ok (.bipush 40, 2) := by decide +kernel
theorem dX1_init_15 : decode cX1_init 15 = .ok (.newarray .int, 2) := by decide +kernel
theorem dX1_init_17 : decode cX1_init 17 = .ok (.putfield 15, 3) := by decide +kernel
theorem dX1_init_20 : decode cX1_init 20 = .ok (.return_, 1) := by decide +kernel
theorem dX1_add_0 : decode cX1_add 0 = .ok (.aload_n 0, 1) := by decide +kernel
theorem dX1_add_1 : decode cX1_add 1 = .ok (.getfield 18, 3) := by decide +kernel
theorem dX1_add_4 : decode cX1_add 4 = .ok (.bipush 40, 2) := by decide +kernel
theorem dX1_add_6 : decode cX1_add 6 = .ok (.if_icmp .ge 33, 3) := by decide +kernel
theorem dX1_add_9 : decode cX1_add 9 = .ok (.aload_n 0, 1) := by decide +kernel
theorem dX1_add_10 : decode cX1_add 10 = .ok (.getfield 11, 3) := by decide +kernel
theorem dX1_add_13 : decode cX1_add 13 = .ok (.aload_n 0, 1) := by decide +kernel
theorem dX1_add_14 : decode cX1_add 14 = .ok (.getfield 18, 3) := by decide +kernel
theorem dX1_add_17 : decode cX1_add 17 = .ok (.iload_n 1, 1) := by decide +kernel
theorem dX1_add_18 : decode cX1_add 18 = .ok (.iastore, 1) := by decide +kernel
theorem dX1_add_19 : decode cX1_add 19 = .ok (.aload_n 0, 1) := by decide +kernel
theorem dX1_add_20 : decode cX1_add 20 = .ok (.getfield 15, 3) := by decide +kernel
theorem dX1_add_23 : decode cX1_add 23 = .ok (.aload_n 0, 1) := by decide +kernel
theorem dX1_add_24 : decode cX1_add 24 = .ok (.getfield 18, 3) := by decide +kernel
theorem dX1_add_27 : decode cX1_add 27 = .ok (.iload_n 2, 1) := by decide +kernel
theorem dX1_add_28 : decode cX1_add 28 = .ok (.iastore, 1) := by decide +kernel
theorem dX1_add_29 : decode cX1_add 29 = .ok (.aload_n 0, 1) := by decide +kernel
theorem dX1_add_30 : decode cX1_add 30 = .ok (.dup, 1) := by decide +kernel
theorem dX1_add_31 : decode cX1_add 31 = .ok (.getfield 18, 3) := by decide +kernel
theorem dX1_add_34 : decode cX1_add 34 = .ok (.iconst 1, 1) := by decide +kernel
theorem dX1_add_35 : decode cX1_add 35 = .ok (.iadd, 1) := by decide +kernel
theorem dX1_add_36 : decode cX1_add 36 = .ok (.putfield 18, 3) := by decide +kernel
theorem dX1_add_39 : decode cX1_add 39 = .ok (.return_, 1) := by decide +kernel
theorem dX1_copy_0 : decode cX1_copy 0 = .ok (.aload_n 1, 1) := by decide +kernel
theorem dX1_copy_1 : decode cX1_copy 1 = .ok (.getfield 11, 3) := by decide +kernel
theorem dX1_copy_4 : decode cX1_copy 4 = .ok (.iconst 0, 1) := by decide +kernel
theorem dX1_copy_5 : decode cX1_copy 5 = .ok (.aload_n 0, 1) := by decide +kernel
theorem dX1_copy_6 : decode cX1_copy 6 = .ok (.getfield 11, 3) := by decide +kernel
theorem dX1_copy_9 : decode cX1_copy 9 = .ok (.iconst 0, 1) := by decide +kernel
theorem dX1_copy_10 : decode cX1_copy 10 = .ok (.bipush 40, 2) := by decide +kernel
theorem dX1_copy_12 : decode cX1_copy 12 = .ok (.invokestatic 22, 3) := by decide +kernel
theorem dX1_copy_15 : decode cX1_copy 15 = .ok (.aload_n 1, 1) := by decide +kernel
theorem dX1_copy_16 : decode cX1_copy 16 = .ok (.getfield 15, 3) := by decide +kernel
theorem dX1_copy_19 : decode cX1_copy 19 = .ok (.iconst 0, 1) := by decide +kernel
theorem dX1_copy_20 : decode cX1_copy 20 = .ok (.aload_n 0, 1) := by decide +kernel
theorem dX1_copy_21 : decode cX1_copy 21 = .ok (.getfield 15, 3) := by decide +kernel
theorem dX1_copy_24 : decode cX1_copy 24 = .ok (.iconst 0, 1) := by decide +kernel
theorem dX1_copy_25 : decode cX1_copy 25 = .ok (.bipush 40, 2) := by decide +kernel
theorem dX1_copy_27 : decode cX1_copy 27 = .ok (.invokestatic 22, 3) := by decide +kernel
theorem dX1_copy_30 : decode cX1_copy 30 = .ok (.aload_n 0, 1) := by decide +kernel
theorem dX1_copy_31 : decode cX1_copy 31 = .ok (.aload_n 1, 1) := by decide +kernel
theorem dX1_copy_32 : decode cX1_copy 32 = .ok (.getfield 18, 3) := by decide +kernel
theorem dX1_copy_35 : decode cX1_copy 35 = .ok (.putfield 18, 3) := by decide +kernel
theorem dX1_copy_38 : decode cX1_copy 38 = .ok (.return_, 1) := by decide +kernel
theorem dX1_has_0 : decode cX1_has 0 = .ok (.iload_n 1, 1) := by decide +kernel
theorem dX1_has_1 : decode cX1_has 1 = .ok (.ifCond .lt 21, 3) := by decide +kernel
theorem dX1_has_4 : decode cX1_has 4 = .ok (.iload_n 1, 1) := by decide +kernel
theorem dX1_has_5 : decode cX1_has 5 = .ok (.aload_n 0, 1) := by decide +kernel
theorem dX1_has_6 : decode cX1_has 6 = .ok (.getfield 18, 3) := by decide +kernel
theorem dX1_has_9 : decode cX1_has 9 = .ok (.if_icmp .ge 13, 3) := by decide +kernel
theorem dX1_has_12 : decode cX1_has 12 = .ok (.iload_n 1, 1) := by decide +kernel
theorem dX1_has_13 : decode cX1_has 13 = .ok (.bipush 40, 2) := by decide +kernel
theorem dX1_has_15 : decode cX1_has 15 = .ok (.if_icmp .ge 7, 3) := by decide +kernel
theorem dX1_has_18 : decode cX1_has 18 = .ok (.iconst 1, 1) := by decide +kernel
theorem dX1_has_19 : decode cX1_has 19 = .ok (.goto 4, 3) := by decide +kernel
theorem dX1_has_22 : decode cX1_has 22 = .ok (.iconst 0, 1) := by decide +kernel
theorem dX1_has_23 : decode cX1_has 23 = .ok (.ireturn, 1) := by decide +kernel
theorem dX1_deedAt_0 : decode cX1_deedAt 0 = .ok (.aload_n 0, 1) := by decide +kernel
theorem dX1_deedAt_1 : decode cX1_deedAt 1 = .ok (.iload_n 1, 1) := by decide +kernel
theorem dX1_deedAt_2 : decode cX1_deedAt 2 = .ok (.invokevirtual 28, 3) := by decide +kernel
theorem dX1_deedAt_5 : decode cX1_deedAt 5 = .ok (.ifCond .eq 12, 3) := by decide +kernel
theorem dX1_deedAt_8 : decode cX1_deedAt 8 = .ok (.aload_n 0, 1) := by decide +kernel
theorem dX1_deedAt_9 : decode cX1_deedAt 9 = .ok (.getfield 11, 3) := by decide +kernel
theorem dX1_deedAt_12 : decode cX1_deedAt 12 = .ok (.iload_n 1, 1) := by decide +kernel
theorem dX1_deedAt_13 : decode cX1_deedAt 13 = .ok (.iaload, 1) := by decide +kernel
theorem dX1_deedAt_14 : decode cX1_deedAt 14 = .ok (.goto 5, 3) := by decide +kernel
theorem dX1_deedAt_17 : decode cX1_deedAt 17 = .ok (.bipush (-2), 2) := by decide +kernel
theorem dX1_deedAt_19 : decode cX1_deedAt 19 = .ok (.ireturn, 1) := by decide +kernel
theorem dX1_numberAt_0 : decode cX1_numberAt 0 = .ok (.aload_n 0, 1) := by decide +kernel
theorem dX1_numberAt_1 : decode cX1_numberAt 1 = .ok (.iload_n 1, 1) := by decide +kernel
theorem dX1_numberAt_2 : decode cX1_numberAt 2 = .ok (.invokevirtual 28, 3) := by decide +kernel
theorem dX1_numberAt_5 : decode cX1_numberAt 5 = .ok (.ifCond .eq 12, 3) := by decide +kernel
theorem dX1_numberAt_8 : decode cX1_numberAt 8 = .ok (.aload_n 0, 1) := by decide +kernel
theorem dX1_numberAt_9 : decode cX1_numberAt 9 = .ok (.getfield 15, 3) := by decide +kernel
theorem dX1_numberAt_12 : decode cX1_numberAt 12 = .ok (.iload_n 1, 1) := by decide +kernel
theorem dX1_numberAt_13 : decode cX1_numberAt 13 = .ok (.iaload, 1) := by decide +kernel
theorem dX1_numberAt_14 : decode cX1_numberAt 14 = .ok (.goto 5, 3) := by decide +kernel
theorem dX1_numberAt_17 : decode cX1_numberAt 17 = .ok (.bipush (-2), 2) := by decide +kernel
theorem dX1_numberAt_19 : decode cX1_numberAt 19 = .ok (.ireturn, 1) := by decide +kernel
theorem dX1_show_0 : decode cX1_show 0 = .ok (.iload_n 1, 1) := by decide +kernel
theorem dX1_show_1 : decode cX1_show 1 = .ok (.iconst (-1), 1) := by decide +kernel
theorem dX1_show_2 : decode cX1_show 2 = .ok (.if_icmp .ne 17, 3) := by decide +kernel
theorem dX1_show_5 : decode cX1_show 5 = .ok (.iload_n 2, 1) := by decide +kernel
theorem dX1_show_6 : decode cX1_show 6 = .ok (.ifCond .ne 10, 3) := by decide +kernel
theorem dX1_show_9 : decode cX1_show 9 = .ok (.aload_n 0, 1) := by decide +kernel
theorem dX1_show_10 : decode cX1_show 10 = .ok (.getfield 18, 3) := by decide +kernel
theorem dX1_show_13 : decode cX1_show 13 = .ok (.goto 5, 3) := by decide +kernel
theorem dX1_show_16 : decode cX1_show 16 = .ok (.bipush (-2), 2) := by decide +kernel
theorem dX1_show_18 : decode cX1_show 18 = .ok (.ireturn, 1) := by decide +kernel
theorem dX1_show_19 : decode cX1_show 19 = .ok (.iload_n 2, 1) := by decide +kernel
theorem dX1_show_20 : decode cX1_show 20 = .ok (.ifCond .ne 9, 3) := by decide +kernel
theorem dX1_show_23 : decode cX1_show 23 = .ok (.aload_n 0, 1) := by decide +kernel
theorem dX1_show_24 : decode cX1_show 24 = .ok (.iload_n 1, 1) := by decide +kernel
theorem dX1_show_25 : decode cX1_show 25 = .ok (.invokevirtual 32, 3) := by decide +kernel
theorem dX1_show_28 : decode cX1_show 28 = .ok (.ireturn, 1) := by decide +kernel
theorem dX1_show_29 : decode cX1_show 29 = .ok (.iload_n 2, 1) := by decide +kernel
theorem dX1_show_30 : decode cX1_show 30 = .ok (.iconst 1, 1) := by decide +kernel
theorem dX1_show_31 : decode cX1_show 31 = .ok (.if_icmp .ne 11, 3) := by decide +kernel
theorem dX1_show_34 : decode cX1_show 34 = .ok (.aload_n 0, 1) := by decide +kernel
theorem dX1_show_35 : decode cX1_show 35 = .ok (.iload_n 1, 1) := by decide +kernel
theorem dX1_show_36 : decode cX1_show 36 = .ok (.invokevirtual 36, 3) := by decide +kernel
theorem dX1_show_39 : decode cX1_show 39 = .ok (.goto 5, 3) := by decide +kernel
theorem dX1_show_42 : decode cX1_show 42 = .ok (.bipush (-2), 2) := by decide +kernel
theorem dX1_show_44 : decode cX1_show 44 = .ok (.ireturn, 1) := by decide +kernel
theorem dX2_init_0 : decode cX2_init 0 = .ok (.aload_n 0, 1) := by decide +kernel
theorem dX2_init_1 : decode cX2_init 1 = .ok (.invokespecial 9, 3) := by decide +kernel
theorem dX2_init_4 : decode cX2_init 4 = .ok (.aload_n 0, 1) := by decide +kernel
theorem dX2_init_5 : decode cX2_init 5 = .ok (.sipush 240, 3) := by decide +kernel
theorem dX2_init_8 : decode cX2_init 8 = .ok (.newarray .long, 2) := by decide +kernel
theorem dX2_init_10 : decode cX2_init 10 = .ok (.putfield 15, 3) := by decide +kernel
theorem dX2_init_13 : decode cX2_init 13 = .ok (.aload_n 0, 1) := by decide +kernel
theorem dX2_init_14 : decode cX2_init 14 = .ok (.sipush 240, 3) := by decide +kernel
theorem dX2_init_17 : decode cX2_init 17 = .ok (.newarray .long, 2) := by decide +kernel
theorem dX2_init_19 : decode cX2_init 19 = .ok (.putfield 19, 3) := by decide +kernel
theorem dX2_init_22 : decode cX2_init 22 = .ok (.aload_n 0, 1) := by decide +kernel
theorem dX2_init_23 : decode cX2_init 23 = .ok (.sipush 240, 3) := by decide +kernel
theorem dX2_init_26 : decode cX2_init 26 = .ok (.newarray .int, 2) := by decide +kernel
theorem dX2_init_28 : decode cX2_init 28 = .ok (.putfield 22, 3) := by decide +kernel
theorem dX2_init_31 : decode cX2_init 31 = .ok (.return_, 1) := by decide +kernel
theorem dX2_show_0 : decode cX2_show 0 = .ok (.aload_n 0, 1) := by decide +kernel
theorem dX2_show_1 : decode cX2_show 1 = .ok (.aload_n 1, 1) := by decide +kernel
theorem dX2_show_2 : decode cX2_show 2 = .ok (.aload_n 2, 1) := by decide +kernel
theorem dX2_show_3 : decode cX2_show 3 = .ok (.invokevirtual 26, 3) := by decide +kernel
theorem dX2_show_6 : decode cX2_show 6 = .ok (.aload_n 2, 1) := by decide +kernel
theorem dX2_show_7 : decode cX2_show 7 = .ok (.getfield 30, 3) := by decide +kernel
theorem dX2_show_10 : decode cX2_show 10 = .ok (.ifCond .ne 7, 3) := by decide +kernel
theorem dX2_show_13 : decode cX2_show 13 = .ok (.lconst 1, 1) := by decide +kernel
theorem dX2_show_14 : decode cX2_show 14 = .ok (.goto 12, 3) := by decide +kernel
theorem dX2_show_17 : decode cX2_show 17 = .ok (.aload_n 0, 1) := by decide +kernel
theorem dX2_show_18 : decode cX2_show 18 = .ok (.getfield 15, 3) := by decide +kernel
theorem dX2_show_21 : decode cX2_show 21 = .ok (.iconst 0, 1) := by decide +kernel
theorem dX2_show_22 : decode cX2_show 22 = .ok (.iconst 0, 1) := by decide +kernel
theorem dX2_show_23 : decode cX2_show 23 = .ok (.invokestatic 34, 3) := by decide +kernel
theorem dX2_show_26 : decode cX2_show 26 = .ok (.lstore 4, 2) := by decide +kernel
theorem dX2_show_28 : decode cX2_show 28 = .ok (.iload_n 3, 1) := by decide +kernel
theorem dX2_show_29 : decode cX2_show 29 = .ok (.tableswitch 83 0 2 #[27, 30, 62], 27) := by decide +kernel
theorem dX2_show_56 : decode cX2_show 56 = .ok (.lload 4, 2) := by decide +kernel
theorem dX2_show_58 : decode cX2_show 58 = .ok (.lreturn, 1) := by decide +kernel
theorem dX2_show_59 : decode cX2_show 59 = .ok (.lload 4, 2) := by decide +kernel
theorem dX2_show_61 : decode cX2_show 61 = .ok (.lconst 0, 1) := by decide +kernel
theorem dX2_show_62 : decode cX2_show 62 = .ok (.lcmp, 1) := by decide +kernel
theorem dX2_show_63 : decode cX2_show 63 = .ok (.ifCond .ne 9, 3) := by decide +kernel
theorem dX2_show_66 : decode cX2_show 66 = .ok (.ldc2_w 38, 3) := by decide +kernel
theorem dX2_show_69 : decode cX2_show 69 = .ok (.goto 21, 3) := by decide +kernel
theorem dX2_show_72 : decode cX2_show 72 = .ok (.aload_n 2, 1) := by decide +kernel
theorem dX2_show_73 : decode cX2_show 73 = .ok (.getfield 30, 3) := by decide +kernel
theorem dX2_show_76 : decode cX2_show 76 = .ok (.ifCond .ne 7, 3) := by decide +kernel
theorem dX2_show_79 : decode cX2_show 79 = .ok (.lconst 0, 1) := by decide +kernel
theorem dX2_show_80 : decode cX2_show 80 = .ok (.goto 10, 3) := by decide +kernel
theorem dX2_show_83 : decode cX2_show 83 = .ok (.aload_n 0, 1) := by decide +kernel
theorem dX2_show_84 : decode cX2_show 84 = .ok (.getfield 22, 3) := by decide +kernel
theorem dX2_show_87 : decode cX2_show 87 = .ok (.iconst 0, 1) := by decide +kernel
theorem dX2_show_88 : decode cX2_show 88 = .ok (.iaload, 1) := by decide +kernel
theorem dX2_show_89 : decode cX2_show 89 = .ok (.i2l, 1) := by decide +kernel
theorem dX2_show_90 : decode cX2_show 90 = .ok (.lreturn, 1) := by decide +kernel
theorem dX2_show_91 : decode cX2_show 91 = .ok (.lload 4, 2) := by decide +kernel
theorem dX2_show_93 : decode cX2_show 93 = .ok (.lconst 0, 1) := by decide +kernel
theorem dX2_show_94 : decode cX2_show 94 = .ok (.lcmp, 1) := by decide +kernel
theorem dX2_show_95 : decode cX2_show 95 = .ok (.ifCond .ne 9, 3) := by decide +kernel
theorem dX2_show_98 : decode cX2_show 98 = .ok (.ldc2_w 38, 3) := by decide +kernel
theorem dX2_show_101 : decode cX2_show 101 = .ok (.goto 10, 3) := by decide +kernel
theorem dX2_show_104 : decode cX2_show 104 = .ok (.aload_n 0, 1) := by decide +kernel
theorem dX2_show_105 : decode cX2_show 105 = .ok (.aload_n 1, 1) := by decide +kernel
theorem dX2_show_106 : decode cX2_show 106 = .ok (.aload_n 2, 1) := by decide +kernel
theorem dX2_show_107 : decode cX2_show 107 = .ok (.invokevirtual 40, 3) := by decide +kernel
theorem dX2_show_110 : decode cX2_show 110 = .ok (.i2l, 1) := by decide +kernel
theorem dX2_show_111 : decode cX2_show 111 = .ok (.lreturn, 1) := by decide +kernel
theorem dX2_show_112 : decode cX2_show 112 = .ok (.iload_n 3, 1) := by decide +kernel
theorem dX2_show_113 : decode cX2_show 113 = .ok (.bipush 10, 2) := by decide +kernel
theorem dX2_show_115 : decode cX2_show 115 = .ok (.if_icmp .lt 18, 3) := by decide +kernel
theorem dX2_show_118 : decode cX2_show 118 = .ok (.aload_n 2, 1) := by decide +kernel
theorem dX2_show_119 : decode cX2_show 119 = .ok (.iload_n 3, 1) := by decide +kernel
theorem dX2_show_120 : decode cX2_show 120 = .ok (.bipush 10, 2) := by decide +kernel
theorem dX2_show_122 : decode cX2_show 122 = .ok (.isub, 1) := by decide +kernel
theorem dX2_show_123 : decode cX2_show 123 = .ok (.invokevirtual 44, 3) := by decide +kernel
theorem dX2_show_126 : decode cX2_show 126 = .ok (.ifCond .eq 7, 3) := by decide +kernel
theorem dX2_show_129 : decode cX2_show 129 = .ok (.iconst 1, 1) := by decide +kernel
theorem dX2_show_130 : decode cX2_show 130 = .ok (.goto 4, 3) := by decide +kernel
theorem dX2_show_133 : decode cX2_show 133 = .ok (.iconst 0, 1) := by decide +kernel
theorem dX2_show_134 : decode cX2_show 134 = .ok (.istore 6, 2) := by decide +kernel
theorem dX2_show_136 : decode cX2_show 136 = .ok (.iload_n 3, 1) := by decide +kernel
theorem dX2_show_137 : decode cX2_show 137 = .ok (.bipush 30, 2) := by decide +kernel
theorem dX2_show_139 : decode cX2_show 139 = .ok (.if_icmp .lt 18, 3) := by decide +kernel
theorem dX2_show_142 : decode cX2_show 142 = .ok (.aload_n 2, 1) := by decide +kernel
theorem dX2_show_143 : decode cX2_show 143 = .ok (.iload_n 3, 1) := by decide +kernel
theorem dX2_show_144 : decode cX2_show 144 = .ok (.bipush 30, 2) := by decide +kernel
theorem dX2_show_146 : decode cX2_show 146 = .ok (.isub, 1) := by decide +kernel
theorem dX2_show_147 : decode cX2_show 147 = .ok (.invokevirtual 44, 3) := by decide +kernel
theorem dX2_show_150 : decode cX2_show 150 = .ok (.ifCond .eq 7, 3) := by decide +kernel
theorem dX2_show_153 : decode cX2_show 153 = .ok (.iconst 1, 1) := by decide +kernel
theorem dX2_show_154 : decode cX2_show 154 = .ok (.goto 4, 3) := by decide +kernel
theorem dX2_show_157 : decode cX2_show 157 = .ok (.iconst 0, 1) := by decide +kernel
theorem dX2_show_158 : decode cX2_show 158 = .ok (.istore 7, 2) := by decide +kernel
theorem dX2_show_160 : decode cX2_show 160 = .ok (.iload 6, 2) := by decide +kernel
theorem dX2_show_162 : decode cX2_show 162 = .ok (.ifCond .ne 12, 3) := by decide +kernel
theorem dX2_show_165 : decode cX2_show 165 = .ok (.iload 7, 2) := by decide +kernel
theorem dX2_show_167 : decode cX2_show 167 = .ok (.ifCond .ne 7, 3) := by decide +kernel
theorem dX2_show_170 : decode cX2_show 170 = .ok (.ldc2_w 48, 3) := by decide +kernel
theorem dX2_show_173 : decode cX2_show 173 = .ok (.lreturn, 1) := by decide +kernel
theorem dX2_show_174 : decode cX2_show 174 = .ok (.lload 4, 2) := by decide +kernel
theorem dX2_show_176 : decode cX2_show 176 = .ok (.lconst 0, 1) := by decide +kernel
theorem dX2_show_177 : decode cX2_show 177 = .ok (.lcmp, 1) := by decide +kernel
theorem dX2_show_178 : decode cX2_show 178 = .ok (.ifCond .ne 7, 3) := by decide +kernel
theorem dX2_show_181 : decode cX2_show 181 = .ok (.ldc2_w 38, 3) := by decide +kernel
theorem dX2_show_184 : decode cX2_show 184 = .ok (.lreturn, 1) := by decide +kernel
theorem dX2_show_185 : decode cX2_show 185 = .ok (.iload 6, 2) := by decide +kernel
theorem dX2_show_187 : decode cX2_show 187 = .ok (.ifCond .eq 16, 3) := by decide +kernel
theorem dX2_show_190 : decode cX2_show 190 = .ok (.aload_n 0, 1) := by decide +kernel
theorem dX2_show_191 : decode cX2_show 191 = .ok (.aload_n 1, 1) := by decide +kernel
theorem dX2_show_192 : decode cX2_show 192 = .ok (.iload_n 3, 1) := by decide +kernel
theorem dX2_show_193 : decode cX2_show 193 = .ok (.bipush 10, 2) := by decide +kernel
theorem dX2_show_195 : decode cX2_show 195 = .ok (.isub, 1) := by decide +kernel
theorem dX2_show_196 : decode cX2_show 196 = .ok (.invokevirtual 50, 3) := by decide +kernel
theorem dX2_show_199 : decode cX2_show 199 = .ok (.i2l, 1) := by decide +kernel
theorem dX2_show_200 : decode cX2_show 200 = .ok (.goto 14, 3) := by decide +kernel
theorem dX2_show_203 : decode cX2_show 203 = .ok (.aload_n 0, 1) := by decide +kernel
theorem dX2_show_204 : decode cX2_show 204 = .ok (.aload_n 1, 1) := by decide +kernel
theorem dX2_show_205 : decode cX2_show 205 = .ok (.aload_n 2, 1) := by decide +kernel
theorem dX2_show_206 : decode cX2_show 206 = .ok (.iload_n 3, 1) := by decide +kernel
theorem dX2_show_207 : decode cX2_show 207 = .ok (.bipush 30, 2) := by decide +kernel
theorem dX2_show_209 : decode cX2_show 209 = .ok (.isub, 1) := by decide +kernel
theorem dX2_show_210 : decode cX2_show 210 = .ok (.invokevirtual 54, 3) := by decide +kernel
theorem dX2_show_213 : decode cX2_show 213 = .ok (.i2l, 1) := by decide +kernel
theorem dX2_show_214 : decode cX2_show 214 = .ok (.lreturn, 1) := by decide +kernel
theorem dX2_at_0 : decode cX2_at 0 = .ok (.iload_n 1, 1) := by decide +kernel
theorem dX2_at_1 : decode cX2_at 1 = .ok (.bipush 20, 2) := by decide +kernel
theorem dX2_at_3 : decode cX2_at 3 = .ok (.imul, 1) := by decide +kernel
theorem dX2_at_4 : decode cX2_at 4 = .ok (.iload_n 2, 1) := by decide +kernel
theorem dX2_at_5 : decode cX2_at 5 = .ok (.iadd, 1) := by decide +kernel
theorem dX2_at_6 : decode cX2_at 6 = .ok (.istore_n 3, 1) := by decide +kernel
theorem dX2_at_7 : decode cX2_at 7 = .ok (.iload_n 2, 1) := by decide +kernel
theorem dX2_at_8 : decode cX2_at 8 = .ok (.ifCond .lt 25, 3) := by decide +kernel
theorem dX2_at_11 : decode cX2_at 11 = .ok (.iload_n 2, 1) := by decide +kernel
theorem dX2_at_12 : decode cX2_at 12 = .ok (.bipush 20, 2) := by decide +kernel
theorem dX2_at_14 : decode cX2_at 14 = .ok (.if_icmp .ge 19, 3) := by decide +kernel
theorem dX2_at_17 : decode cX2_at 17 = .ok (.iload_n 3, 1) := by decide +kernel
theorem dX2_at_18 : decode cX2_at 18 = .ok (.ifCond .lt 15, 3) := by decide +kernel
theorem dX2_at_21 : decode cX2_at 21 = .ok (.iload_n 3, 1) := by decide +kernel
theorem dX2_at_22 : decode cX2_at 22 = .ok (.aload_n 0, 1) := by decide +kernel
theorem dX2_at_23 : decode cX2_at 23 = .ok (.arraylength, 1) := by decide +kernel
theorem dX2_at_24 : decode cX2_at 24 = .ok (.if_icmp .ge 9, 3) := by decide +kernel
theorem dX2_at_27 : decode cX2_at 27 = .ok (.aload_n 0, 1) := by decide +kernel
theorem dX2_at_28 : decode cX2_at 28 = .ok (.iload_n 3, 1) := by decide +kernel
theorem dX2_at_29 : decode cX2_at 29 = .ok (.laload, 1) := by decide +kernel
theorem dX2_at_30 : decode cX2_at 30 = .ok (.goto 4, 3) := by decide +kernel
theorem dX2_at_33 : decode cX2_at 33 = .ok (.lconst 0, 1) := by decide +kernel
theorem dX2_at_34 : decode cX2_at 34 = .ok (.lreturn, 1) := by decide +kernel
theorem dX2_countFrom_0 : decode cX2_countFrom 0 = .ok (.iconst 0, 1) := by decide +kernel
theorem dX2_countFrom_1 : decode cX2_countFrom 1 = .ok (.istore_n 3, 1) := by decide +kernel
theorem dX2_countFrom_2 : decode cX2_countFrom 2 = .ok (.iload_n 3, 1) := by decide +kernel
theorem dX2_countFrom_3 : decode cX2_countFrom 3 = .ok (.sipush 240, 3) := by decide +kernel
theorem dX2_countFrom_6 : decode cX2_countFrom 6 = .ok (.if_icmp .ge 24, 3) := by decide +kernel
theorem dX2_countFrom_9 : decode cX2_countFrom 9 = .ok (.aload_n 0, 1) := by decide +kernel
theorem dX2_countFrom_10 : decode cX2_countFrom 10 = .ok (.getfield 15, 3) := by decide +kernel
theorem dX2_countFrom_13 : decode cX2_countFrom 13 = .ok (.iload_n 3, 1) := by decide +kernel
theorem dX2_countFrom_14 : decode cX2_countFrom 14 = .ok (.lconst 0, 1) := by decide +kernel
theorem dX2_countFrom_15 : decode cX2_countFrom 15 = .ok (.lastore, 1) := by decide +kernel
theorem dX2_countFrom_16 : decode cX2_countFrom 16 = .ok (.aload_n 0, 1) := by decide +kernel
theorem dX2_countFrom_17 : decode cX2_countFrom 17 = .ok (.getfield 22, 3) := by decide +kernel
theorem dX2_countFrom_20 : decode cX2_countFrom 20 = .ok (.iload_n 3, 1) := by decide +kernel
theorem dX2_countFrom_21 : decode cX2_countFrom 21 = .ok (.ldc 58, 2) := by decide +kernel
theorem dX2_countFrom_23 : decode cX2_countFrom 23 = .ok (.iastore, 1) := by decide +kernel
theorem dX2_countFrom_24 : decode cX2_countFrom 24 = .ok (.iinc 3 1, 3) := by decide +kernel
theorem dX2_countFrom_27 : decode cX2_countFrom 27 = .ok (.goto (-25), 3) := by decide +kernel
theorem dX2_countFrom_30 : decode cX2_countFrom 30 = .ok (.aload_n 2, 1) := by decide +kernel
theorem dX2_countFrom_31 : decode cX2_countFrom 31 = .ok (.getfield 30, 3) := by decide +kernel
theorem dX2_countFrom_34 : decode cX2_countFrom 34 = .ok (.iconst 1, 1) := by decide +kernel
theorem dX2_countFrom_35 : decode cX2_countFrom 35 = .ok (.isub, 1) := by decide +kernel
theorem dX2_countFrom_36 : decode cX2_countFrom 36 = .ok (.istore_n 3, 1) := by decide +kernel
theorem dX2_countFrom_37 : decode cX2_countFrom 37 = .ok (.iload_n 3, 1) := by decide +kernel
theorem dX2_countFrom_38 : decode cX2_countFrom 38 = .ok (.ifCond .lt 96, 3) := by decide +kernel
theorem dX2_countFrom_41 : decode cX2_countFrom 41 = .ok (.iload_n 3, 1) := by decide +kernel
theorem dX2_countFrom_42 : decode cX2_countFrom 42 = .ok (.bipush 12, 2) := by decide +kernel
theorem dX2_countFrom_44 : decode cX2_countFrom 44 = .ok (.if_icmp .ge 90, 3) := by decide +kernel
theorem dX2_countFrom_47 : decode cX2_countFrom 47 = .ok (.iconst 0, 1) := by decide +kernel
theorem dX2_countFrom_48 : decode cX2_countFrom 48 = .ok (.istore 4, 2) := by decide +kernel
theorem dX2_countFrom_50 : decode cX2_countFrom 50 = .ok (.iload 4, 2) := by decide +kernel
theorem dX2_countFrom_52 : decode cX2_countFrom 52 = .ok (.aload_n 1, 1) := by decide +kernel
theorem dX2_countFrom_53 : decode cX2_countFrom 53 = .ok (.getfield 59, 3) := by decide +kernel
theorem dX2_countFrom_56 : decode cX2_countFrom 56 = .ok (.if_icmp .ge 72, 3) := by decide +kernel
theorem dX2_countFrom_59 : decode cX2_countFrom 59 = .ok (.iload 4, 2) := by decide +kernel
theorem dX2_countFrom_61 : decode cX2_countFrom 61 = .ok (.bipush 20, 2) := by decide +kernel
theorem dX2_countFrom_63 : decode cX2_countFrom 63 = .ok (.if_icmp .ge 65, 3) := by decide +kernel
theorem dX2_countFrom_66 : decode cX2_countFrom 66 = .ok (.aload_n 2, 1) := by decide +kernel
theorem dX2_countFrom_67 : decode cX2_countFrom 67 = .ok (.iload_n 3, 1) := by decide +kernel
theorem dX2_countFrom_68 : decode cX2_countFrom 68 = .ok (.aload_n 1, 1) := by decide +kernel
theorem dX2_countFrom_69 : decode cX2_countFrom 69 = .ok (.iload 4, 2) := by decide +kernel
theorem dX2_countFrom_71 : decode cX2_countFrom 71 = .ok (.invokevirtual 62, 3) := by decide +kernel
theorem dX2_countFrom_74 : decode cX2_countFrom 74 = .ok (.invokevirtual 66, 3) := by decide +kernel
theorem dX2_countFrom_77 : decode cX2_countFrom 77 = .ok (.ifCond .eq 45, 3) := by decide +kernel
theorem dX2_countFrom_80 : decode cX2_countFrom 80 = .ok (.aload_n 0, 1) := by decide +kernel
theorem dX2_countFrom_81 : decode cX2_countFrom 81 = .ok (.getfield 15, 3) := by decide +kernel
theorem dX2_countFrom_84 : decode cX2_countFrom 84 = .ok (.iload_n 3, 1) := by decide +kernel
theorem dX2_countFrom_85 : decode cX2_countFrom 85 = .ok (.bipush 20, 2) := by decide +kernel
theorem dX2_countFrom_87 : decode cX2_countFrom 87 = .ok (.imul, 1) := by decide +kernel
theorem dX2_countFrom_88 : decode cX2_countFrom 88 = .ok (.iload 4, 2) := by decide +kernel
theorem dX2_countFrom_90 : decode cX2_countFrom 90 = .ok (.iadd, 1) := by decide +kernel
theorem dX2_countFrom_91 : decode cX2_countFrom 91 = .ok (.aload_n 0, 1) := by decide +kernel
theorem dX2_countFrom_92 : decode cX2_countFrom 92 = .ok (.aload_n 1, 1) := by decide +kernel
theorem dX2_countFrom_93 : decode cX2_countFrom 93 = .ok (.aload_n 2, 1) := by decide +kernel
theorem dX2_countFrom_94 : decode cX2_countFrom 94 = .ok (.iload_n 3, 1) := by decide +kernel
theorem dX2_countFrom_95 : decode cX2_countFrom 95 = .ok (.iload 4, 2) := by decide +kernel
theorem dX2_countFrom_97 : decode cX2_countFrom 97 = .ok (.invokevirtual 70, 3) := by decide +kernel
theorem dX2_countFrom_100 : decode cX2_countFrom 100 = .ok (.lastore, 1) := by decide +kernel
theorem dX2_countFrom_101 : decode cX2_countFrom 101 = .ok (.aload_n 0, 1) := by decide +kernel
theorem dX2_countFrom_102 : decode cX2_countFrom 102 = .ok (.getfield 22, 3) := by decide +kernel
theorem dX2_countFrom_105 : decode cX2_countFrom 105 = .ok (.iload_n 3, 1) := by decide +kernel
theorem dX2_countFrom_106 : decode cX2_countFrom 106 = .ok (.bipush 20, 2) := by decide +kernel
theorem dX2_countFrom_108 : decode cX2_countFrom 108 = .ok (.imul, 1) := by decide +kernel
theorem dX2_countFrom_109 : decode cX2_countFrom 109 = .ok (.iload 4, 2) := by decide +kernel
theorem dX2_countFrom_111 : decode cX2_countFrom 111 = .ok (.iadd, 1) := by decide +kernel
theorem dX2_countFrom_112 : decode cX2_countFrom 112 = .ok (.aload_n 0, 1) := by decide +kernel
theorem dX2_countFrom_113 : decode cX2_countFrom 113 = .ok (.aload_n 1, 1) := by decide +kernel
theorem dX2_countFrom_114 : decode cX2_countFrom 114 = .ok (.aload_n 2, 1) := by decide +kernel
theorem dX2_countFrom_115 : decode cX2_countFrom 115 = .ok (.iload_n 3, 1) := by decide +kernel
theorem dX2_countFrom_116 : decode cX2_countFrom 116 = .ok (.iload 4, 2) := by decide +kernel
theorem dX2_countFrom_118 : decode cX2_countFrom 118 = .ok (.invokevirtual 74, 3) := by decide +kernel
theorem dX2_countFrom_121 : decode cX2_countFrom 121 = .ok (.iastore, 1) := by decide +kernel
theorem dX2_countFrom_122 : decode cX2_countFrom 122 = .ok (.iinc 4 1, 3) := by decide +kernel
theorem dX2_countFrom_125 : decode cX2_countFrom 125 = .ok (.goto (-75), 3) := by decide +kernel
theorem dX2_countFrom_128 : decode cX2_countFrom 128 = .ok (.iinc 3 (-1), 3) := by decide +kernel
theorem dX2_countFrom_131 : decode cX2_countFrom 131 = .ok (.goto (-94), 3) := by decide +kernel
theorem dX2_countFrom_134 : decode cX2_countFrom 134 = .ok (.return_, 1) := by decide +kernel
theorem dX2_behind_0 : decode cX2_behind 0 = .ok (.iload_n 3, 1) := by decide +kernel
theorem dX2_behind_1 : decode cX2_behind 1 = .ok (.aload_n 2, 1) := by decide +kernel
theorem dX2_behind_2 : decode cX2_behind 2 = .ok (.getfield 30, 3) := by decide +kernel
theorem dX2_behind_5 : decode cX2_behind 5 = .ok (.iconst 1, 1) := by decide +kernel
theorem dX2_behind_6 : decode cX2_behind 6 = .ok (.isub, 1) := by decide +kernel
theorem dX2_behind_7 : decode cX2_behind 7 = .ok (.if_icmp .ne 5, 3) := by decide +kernel
theorem dX2_behind_10 : decode cX2_behind 10 = .ok (.lconst 1, 1) := by decide +kernel
theorem dX2_behind_11 : decode cX2_behind 11 = .ok (.lreturn, 1) := by decide +kernel
theorem dX2_behind_12 : decode cX2_behind 12 = .ok (.lconst 0, 1) := by decide +kernel
theorem dX2_behind_13 : decode cX2_behind 13 = .ok (.lstore 5, 2) := by decide +kernel
theorem dX2_behind_15 : decode cX2_behind 15 = .ok (.iconst 0, 1) := by decide +kernel
theorem dX2_behind_16 : decode cX2_behind 16 = .ok (.istore 7, 2) := by decide +kernel
theorem dX2_behind_18 : decode cX2_behind 18 = .ok (.iload 7, 2) := by decide +kernel
theorem dX2_behind_20 : decode cX2_behind 20 = .ok (.aload_n 1, 1) := by decide +kernel
theorem dX2_behind_21 : decode cX2_behind 21 = .ok (.iload 4, 2) := by decide +kernel
theorem dX2_behind_23 : decode cX2_behind 23 = .ok (.invokevirtual 78, 3) := by decide +kernel
theorem dX2_behind_26 : decode cX2_behind 26 = .ok (.if_icmp .ge 32, 3) := by decide +kernel
theorem dX2_behind_29 : decode cX2_behind 29 = .ok (.lload 5, 2) := by decide +kernel
theorem dX2_behind_31 : decode cX2_behind 31 = .ok (.aload_n 0, 1) := by decide +kernel
theorem dX2_behind_32 : decode cX2_behind 32 = .ok (.getfield 15, 3) := by decide +kernel
theorem dX2_behind_35 : decode cX2_behind 35 = .ok (.iload_n 3, 1) := by decide +kernel
theorem dX2_behind_36 : decode cX2_behind 36 = .ok (.iconst 1, 1) := by decide +kernel
theorem dX2_behind_37 : decode cX2_behind 37 = .ok (.iadd, 1) := by decide +kernel
theorem dX2_behind_38 : decode cX2_behind 38 = .ok (.aload_n 1, 1) := by decide +kernel
theorem dX2_behind_39 : decode cX2_behind 39 = .ok (.iload 4, 2) := by decide +kernel
theorem dX2_behind_41 : decode cX2_behind 41 = .ok (.iload 7, 2) := by decide +kernel
theorem dX2_behind_43 : decode cX2_behind 43 = .ok (.invokevirtual 81, 3) := by decide +kernel
theorem dX2_behind_46 : decode cX2_behind 46 = .ok (.invokestatic 34, 3) := by decide +kernel
theorem dX2_behind_49 : decode cX2_behind 49 = .ok (.ladd, 1) := by decide +kernel
theorem dX2_behind_50 : decode cX2_behind 50 = .ok (.lstore 5, 2) := by decide +kernel
theorem dX2_behind_52 : decode cX2_behind 52 = .ok (.iinc 7 1, 3) := by decide +kernel
theorem dX2_behind_55 : decode cX2_behind 55 = .ok (.goto (-37), 3) := by decide +kernel
theorem dX2_behind_58 : decode cX2_behind 58 = .ok (.lload 5, 2) := by decide +kernel
theorem dX2_behind_60 : decode cX2_behind 60 = .ok (.lreturn, 1) := by decide +kernel
theorem dX2_fewestBehind_0 : decode cX2_fewestBehind 0 = .ok (.iload_n 3, 1) := by decide +kernel
theorem dX2_fewestBehind_1 : decode cX2_fewestBehind 1 = .ok (.aload_n 2, 1) := by decide +kernel
theorem dX2_fewestBehind_2 : decode cX2_fewestBehind 2 = .ok (.getfield 30, 3) := by decide +kernel
theorem dX2_fewestBehind_5 : decode cX2_fewestBehind 5 = .ok (.iconst 1, 1) := by decide +kernel
theorem dX2_fewestBehind_6 : decode cX2_fewestBehind 6 = .ok (.isub, 1) := by decide +kernel
theorem dX2_fewestBehind_7 : decode cX2_fewestBehind 7 = .ok (.if_icmp .ne 5, 3) := by decide +kernel
theorem dX2_fewestBehind_10 : decode cX2_fewestBehind 10 = .ok (.iconst 0, 1) := by decide +kernel
theorem dX2_fewestBehind_11 : decode cX2_fewestBehind 11 = .ok (.ireturn, 1) := by decide +kernel
theorem dX2_fewestBehind_12 : decode cX2_fewestBehind 12 = .ok (.ldc 58, 2) := by decide +kernel
theorem dX2_fewestBehind_14 : decode cX2_fewestBehind 14 = .ok (.istore 5, 2) := by decide +kernel
theorem dX2_fewestBehind_16 : decode cX2_fewestBehind 16 = .ok (.iconst 0, 1) := by decide +kernel
theorem dX2_fewestBehind_17 : decode cX2_fewestBehind 17 = .ok (.istore 6, 2) := by decide +kernel
theorem dX2_fewestBehind_19 : decode cX2_fewestBehind 19 = .ok (.iload 6, 2) := by decide +kernel
theorem dX2_fewestBehind_21 : decode cX2_fewestBehind 21 = .ok (.aload_n 1, 1) := by decide +kernel
theorem dX2_fewestBehind_22 : decode cX2_fewestBehind 22 = .ok (.iload 4, 2) := by decide +kernel
theorem dX2_fewestBehind_24 : decode cX2_fewestBehind 24 = .ok (.invokevirtual 78, 3) := by decide +kernel
theorem dX2_fewestBehind_27 : decode cX2_fewestBehind 27 = .ok (.if_icmp .ge 66, 3) := by decide +kernel
theorem dX2_fewestBehind_30 : decode cX2_fewestBehind 30 = .ok (.aload_n 1, 1) := by decide +kernel
theorem dX2_fewestBehind_31 : decode cX2_fewestBehind 31 = .ok (.iload 4, 2) := by decide +kernel
theorem dX2_fewestBehind_33 : decode cX2_fewestBehind 33 = .ok (.iload 6, 2) := by decide +kernel
theorem dX2_fewestBehind_35 : decode cX2_fewestBehind 35 = .ok (.invokevirtual 81, 3) := by decide +kernel
theorem dX2_fewestBehind_38 : decode cX2_fewestBehind 38 = .ok (.istore 7, 2) := by decide +kernel
theorem dX2_fewestBehind_40 : decode cX2_fewestBehind 40 = .ok (.iload_n 3, 1) := by decide +kernel
theorem dX2_fewestBehind_41 : decode cX2_fewestBehind 41 = .ok (.iconst 1, 1) := by decide +kernel
theorem dX2_fewestBehind_42 : decode cX2_fewestBehind 42 = .ok (.iadd, 1) := by decide +kernel
theorem dX2_fewestBehind_43 : decode cX2_fewestBehind 43 = .ok (.bipush 20, 2) := by decide +kernel
theorem dX2_fewestBehind_45 : decode cX2_fewestBehind 45 = .ok (.imul, 1) := by decide +kernel
theorem dX2_fewestBehind_46 : decode cX2_fewestBehind 46 = .ok (.iload 7, 2) := by decide +kernel
theorem dX2_fewestBehind_48 : decode cX2_fewestBehind 48 = .ok (.iadd, 1) := by decide +kernel
theorem dX2_fewestBehind_49 : decode cX2_fewestBehind 49 = .ok (.istore 8, 2) := by decide +kernel
theorem dX2_fewestBehind_51 : decode cX2_fewestBehind 51 = .ok (.iload 8, 2) := by decide +kernel
theorem dX2_fewestBehind_53 : decode cX2_fewestBehind 53 = .ok (.ifCond .lt 34, 3) := by decide +kernel
theorem dX2_fewestBehind_56 : decode cX2_fewestBehind 56 = .ok (.iload 8, 2) := by decide +kernel
theorem dX2_fewestBehind_58 : decode cX2_fewestBehind 58 = .ok (.sipush 240, 3) := by decide +kernel
theorem dX2_fewestBehind_61 : decode cX2_fewestBehind 61 = .ok (.if_icmp .ge 26, 3) := by decide +kernel
theorem dX2_fewestBehind_64 : decode cX2_fewestBehind 64 = .ok (.iload 5, 2) := by decide +kernel
theorem dX2_fewestBehind_66 : decode cX2_fewestBehind 66 = .ok (.aload_n 0, 1) := by decide +kernel
theorem dX2_fewestBehind_67 : decode cX2_fewestBehind 67 = .ok (.getfield 22, 3) := by decide +kernel
theorem dX2_fewestBehind_70 : decode cX2_fewestBehind 70 = .ok (.iload 8, 2) := by decide +kernel
theorem dX2_fewestBehind_72 : decode cX2_fewestBehind 72 = .ok (.iaload, 1) := by decide +kernel
theorem dX2_fewestBehind_73 : decode cX2_fewestBehind 73 = .ok (.aload_n 1, 1) := by decide +kernel
theorem dX2_fewestBehind_74 : decode cX2_fewestBehind 74 = .ok (.iload 4, 2) := by decide +kernel
theorem dX2_fewestBehind_76 : decode cX2_fewestBehind 76 = .ok (.iload 7, 2) := by decide +kernel
theorem dX2_fewestBehind_78 : decode cX2_fewestBehind 78 = .ok (.invokevirtual 85, 3) := by decide +kernel
theorem dX2_fewestBehind_81 : decode cX2_fewestBehind 81 = .ok (.iadd, 1) := by decide +kernel
theorem dX2_fewestBehind_82 : decode cX2_fewestBehind 82 = .ok (.invokestatic 88, 3) := by decide +kernel
theorem dX2_fewestBehind_85 : decode cX2_fewestBehind 85 = .ok (.istore 5, 2) := by decide +kernel
theorem dX2_fewestBehind_87 : decode cX2_fewestBehind 87 = .ok (.iinc 6 1, 3) := by decide +kernel
theorem dX2_fewestBehind_90 : decode cX2_fewestBehind 90 = .ok (.goto (-71), 3) := by decide +kernel
theorem dX2_fewestBehind_93 : decode cX2_fewestBehind 93 = .ok (.iload 5, 2) := by decide +kernel
theorem dX2_fewestBehind_95 : decode cX2_fewestBehind 95 = .ok (.ireturn, 1) := by decide +kernel
theorem dX2_countUpTo_0 : decode cX2_countUpTo 0 = .ok (.iconst 0, 1) := by decide +kernel
theorem dX2_countUpTo_1 : decode cX2_countUpTo 1 = .ok (.istore_n 3, 1) := by decide +kernel
theorem dX2_countUpTo_2 : decode cX2_countUpTo 2 = .ok (.iload_n 3, 1) := by decide +kernel
theorem dX2_countUpTo_3 : decode cX2_countUpTo 3 = .ok (.sipush 240, 3) := by decide +kernel
theorem dX2_countUpTo_6 : decode cX2_countUpTo 6 = .ok (.if_icmp .ge 16, 3) := by decide +kernel
theorem dX2_countUpTo_9 : decode cX2_countUpTo 9 = .ok (.aload_n 0, 1) := by decide +kernel
theorem dX2_countUpTo_10 : decode cX2_countUpTo 10 = .ok (.getfield 19, 3) := by decide +kernel
theorem dX2_countUpTo_13 : decode cX2_countUpTo 13 = .ok (.iload_n 3, 1) := by decide +kernel
theorem dX2_countUpTo_14 : decode cX2_countUpTo 14 = .ok (.lconst 0, 1) := by decide +kernel
theorem dX2_countUpTo_15 : decode cX2_countUpTo 15 = .ok (.lastore, 1) := by decide +kernel
theorem dX2_countUpTo_16 : decode cX2_countUpTo 16 = .ok (.iinc 3 1, 3) := by decide +kernel
theorem dX2_countUpTo_19 : decode cX2_countUpTo 19 = .ok (.goto (-17), 3) := by decide +kernel
theorem dX2_countUpTo_22 : decode cX2_countUpTo 22 = .ok (.aload_n 0, 1) := by decide +kernel
theorem dX2_countUpTo_23 : decode cX2_countUpTo 23 = .ok (.getfield 19, 3) := by decide +kernel
theorem dX2_countUpTo_26 : decode cX2_countUpTo 26 = .ok (.iconst 0, 1) := by decide +kernel
theorem dX2_countUpTo_27 : decode cX2_countUpTo 27 = .ok (.aload_n 0, 1) := by decide +kernel
theorem dX2_countUpTo_28 : decode cX2_countUpTo 28 = .ok (.getfield 15, 3) := by decide +kernel
theorem dX2_countUpTo_31 : decode cX2_countUpTo 31 = .ok (.iconst 0, 1) := by decide +kernel
theorem dX2_countUpTo_32 : decode cX2_countUpTo 32 = .ok (.iconst 0, 1) := by decide +kernel
theorem dX2_countUpTo_33 : decode cX2_countUpTo 33 = .ok (.invokestatic 34, 3) := by decide +kernel
theorem dX2_countUpTo_36 : decode cX2_countUpTo 36 = .ok (.lconst 0, 1) := by decide +kernel
theorem dX2_countUpTo_37 : decode cX2_countUpTo 37 = .ok (.lcmp, 1) := by decide +kernel
theorem dX2_countUpTo_38 : decode cX2_countUpTo 38 = .ok (.ifCond .ne 7, 3) := by decide +kernel
theorem dX2_countUpTo_41 : decode cX2_countUpTo 41 = .ok (.lconst 0, 1) := by decide +kernel
theorem dX2_countUpTo_42 : decode cX2_countUpTo 42 = .ok (.goto 4, 3) := by decide +kernel
theorem dX2_countUpTo_45 : decode cX2_countUpTo 45 = .ok (.lconst 1, 1) := by decide +kernel
theorem dX2_countUpTo_46 : decode cX2_countUpTo 46 = .ok (.lastore, 1) := by decide +kernel
theorem dX2_countUpTo_47 : decode cX2_countUpTo 47 = .ok (.iconst 0, 1) := by decide +kernel
theorem dX2_countUpTo_48 : decode cX2_countUpTo 48 = .ok (.istore_n 3, 1) := by decide +kernel
theorem dX2_countUpTo_49 : decode cX2_countUpTo 49 = .ok (.iload_n 3, 1) := by decide +kernel
theorem dX2_countUpTo_50 : decode cX2_countUpTo 50 = .ok (.iconst 1, 1) := by decide +kernel
theorem dX2_countUpTo_51 : decode cX2_countUpTo 51 = .ok (.iadd, 1) := by decide +kernel
theorem dX2_countUpTo_52 : decode cX2_countUpTo 52 = .ok (.aload_n 2, 1) := by decide +kernel
theorem dX2_countUpTo_53 : decode cX2_countUpTo 53 = .ok (.getfield 30, 3) := by decide +kernel
theorem dX2_countUpTo_56 : decode cX2_countUpTo 56 = .ok (.if_icmp .ge 126, 3) := by decide +kernel
theorem dX2_countUpTo_59 : decode cX2_countUpTo 59 = .ok (.iload_n 3, 1) := by decide +kernel
theorem dX2_countUpTo_60 : decode cX2_countUpTo 60 = .ok (.iconst 1, 1) := by decide +kernel
theorem dX2_countUpTo_61 : decode cX2_countUpTo 61 = .ok (.iadd, 1) := by decide +kernel
theorem dX2_countUpTo_62 : decode cX2_countUpTo 62 = .ok (.bipush 12, 2) := by decide +kernel
theorem dX2_countUpTo_64 : decode cX2_countUpTo 64 = .ok (.if_icmp .ge 118, 3) := by decide +kernel
theorem dX2_countUpTo_67 : decode cX2_countUpTo 67 = .ok (.iconst 0, 1) := by decide +kernel
theorem dX2_countUpTo_68 : decode cX2_countUpTo 68 = .ok (.istore 4, 2) := by decide +kernel
theorem dX2_countUpTo_70 : decode cX2_countUpTo 70 = .ok (.iload 4, 2) := by decide +kernel
theorem dX2_countUpTo_72 : decode cX2_countUpTo 72 = .ok (.aload_n 1, 1) := by decide +kernel
theorem dX2_countUpTo_73 : decode cX2_countUpTo 73 = .ok (.getfield 59, 3) := by decide +kernel
theorem dX2_countUpTo_76 : decode cX2_countUpTo 76 = .ok (.if_icmp .ge 100, 3) := by decide +kernel
theorem dX2_countUpTo_79 : decode cX2_countUpTo 79 = .ok (.iload 4, 2) := by decide +kernel
theorem dX2_countUpTo_81 : decode cX2_countUpTo 81 = .ok (.bipush 20, 2) := by decide +kernel
theorem dX2_countUpTo_83 : decode cX2_countUpTo 83 = .ok (.if_icmp .ge 93, 3) := by decide +kernel
theorem dX2_countUpTo_86 : decode cX2_countUpTo 86 = .ok (.iconst 0, 1) := by decide +kernel
theorem dX2_countUpTo_87 : decode cX2_countUpTo 87 = .ok (.istore 5, 2) := by decide +kernel
theorem dX2_countUpTo_89 : decode cX2_countUpTo 89 = .ok (.iload 5, 2) := by decide +kernel
theorem dX2_countUpTo_91 : decode cX2_countUpTo 91 = .ok (.aload_n 1, 1) := by decide +kernel
theorem dX2_countUpTo_92 : decode cX2_countUpTo 92 = .ok (.iload 4, 2) := by decide +kernel
theorem dX2_countUpTo_94 : decode cX2_countUpTo 94 = .ok (.invokevirtual 78, 3) := by decide +kernel
theorem dX2_countUpTo_97 : decode cX2_countUpTo 97 = .ok (.if_icmp .ge 73, 3) := by decide +kernel
theorem dX2_countUpTo_100 : decode cX2_countUpTo 100 = .ok (.aload_n 1, 1) := by decide +kernel
theorem dX2_countUpTo_101 : decode cX2_countUpTo 101 = .ok (.iload 4, 2) := by decide +kernel
theorem dX2_countUpTo_103 : decode cX2_countUpTo 103 = .ok (.iload 5, 2) := by decide +kernel
theorem dX2_countUpTo_105 : decode cX2_countUpTo 105 = .ok (.invokevirtual 81, 3) := by decide +kernel
theorem dX2_countUpTo_108 : decode cX2_countUpTo 108 = .ok (.istore 6, 2) := by decide +kernel
theorem dX2_countUpTo_110 : decode cX2_countUpTo 110 = .ok (.aload_n 1, 1) := by decide +kernel
theorem dX2_countUpTo_111 : decode cX2_countUpTo 111 = .ok (.iload 6, 2) := by decide +kernel
theorem dX2_countUpTo_113 : decode cX2_countUpTo 113 = .ok (.invokevirtual 93, 3) := by decide +kernel
theorem dX2_countUpTo_116 : decode cX2_countUpTo 116 = .ok (.ifCond .eq 48, 3) := by decide +kernel
theorem dX2_countUpTo_119 : decode cX2_countUpTo 119 = .ok (.aload_n 2, 1) := by decide +kernel
theorem dX2_countUpTo_120 : decode cX2_countUpTo 120 = .ok (.iload_n 3, 1) := by decide +kernel
theorem dX2_countUpTo_121 : decode cX2_countUpTo 121 = .ok (.iconst 1, 1) := by decide +kernel
theorem dX2_countUpTo_122 : decode cX2_countUpTo 122 = .ok (.iadd, 1) := by decide +kernel
theorem dX2_countUpTo_123 : decode cX2_countUpTo 123 = .ok (.aload_n 1, 1) := by decide +kernel
theorem dX2_countUpTo_124 : decode cX2_countUpTo 124 = .ok (.iload 6, 2) := by decide +kernel
theorem dX2_countUpTo_126 : decode cX2_countUpTo 126 = .ok (.invokevirtual 62, 3) := by decide +kernel
theorem dX2_countUpTo_129 : decode cX2_countUpTo 129 = .ok (.invokevirtual 66, 3) := by decide +kernel
theorem dX2_countUpTo_132 : decode cX2_countUpTo 132 = .ok (.ifCond .eq 32, 3) := by decide +kernel
theorem dX2_countUpTo_135 : decode cX2_countUpTo 135 = .ok (.aload_n 0, 1) := by decide +kernel
theorem dX2_countUpTo_136 : decode cX2_countUpTo 136 = .ok (.getfield 19, 3) := by decide +kernel
theorem dX2_countUpTo_139 : decode cX2_countUpTo 139 = .ok (.iload_n 3, 1) := by decide +kernel
theorem dX2_countUpTo_140 : decode cX2_countUpTo 140 = .ok (.iconst 1, 1) := by decide +kernel
theorem dX2_countUpTo_141 : decode cX2_countUpTo 141 = .ok (.iadd, 1) := by decide +kernel
theorem dX2_countUpTo_142 : decode cX2_countUpTo 142 = .ok (.bipush 20, 2) := by decide +kernel
theorem dX2_countUpTo_144 : decode cX2_countUpTo 144 = .ok (.imul, 1) := by decide +kernel
theorem dX2_countUpTo_145 : decode cX2_countUpTo 145 = .ok (.iload 6, 2) := by decide +kernel
theorem dX2_countUpTo_147 : decode cX2_countUpTo 147 = .ok (.iadd, 1) := by decide +kernel
theorem dX2_countUpTo_148 : decode cX2_countUpTo 148 = .ok (.dup2, 1) := by decide +kernel
theorem dX2_countUpTo_149 : decode cX2_countUpTo 149 = .ok (.laload, 1) := by decide +kernel
theorem dX2_countUpTo_150 : decode cX2_countUpTo 150 = .ok (.aload_n 0, 1) := by decide +kernel
theorem dX2_countUpTo_151 : decode cX2_countUpTo 151 = .ok (.getfield 19, 3) := by decide +kernel
theorem dX2_countUpTo_154 : decode cX2_countUpTo 154 = .ok (.iload_n 3, 1) := by decide +kernel
theorem dX2_countUpTo_155 : decode cX2_countUpTo 155 = .ok (.bipush 20, 2) := by decide +kernel
theorem dX2_countUpTo_157 : decode cX2_countUpTo 157 = .ok (.imul, 1) := by decide +kernel
theorem dX2_countUpTo_158 : decode cX2_countUpTo 158 = .ok (.iload 4, 2) := by decide +kernel
theorem dX2_countUpTo_160 : decode cX2_countUpTo 160 = .ok (.iadd, 1) := by decide +kernel
theorem dX2_countUpTo_161 : decode cX2_countUpTo 161 = .ok (.laload, 1) := by decide +kernel
theorem dX2_countUpTo_162 : decode cX2_countUpTo 162 = .ok (.ladd, 1) := by decide +kernel
theorem dX2_countUpTo_163 : decode cX2_countUpTo 163 = .ok (.lastore, 1) := by decide +kernel
theorem dX2_countUpTo_164 : decode cX2_countUpTo 164 = .ok (.iinc 5 1, 3) := by decide +kernel
theorem dX2_countUpTo_167 : decode cX2_countUpTo 167 = .ok (.goto (-78), 3) := by decide +kernel
theorem dX2_countUpTo_170 : decode cX2_countUpTo 170 = .ok (.iinc 4 1, 3) := by decide +kernel
theorem dX2_countUpTo_173 : decode cX2_countUpTo 173 = .ok (.goto (-103), 3) := by decide +kernel
theorem dX2_countUpTo_176 : decode cX2_countUpTo 176 = .ok (.iinc 3 1, 3) := by decide +kernel
theorem dX2_countUpTo_179 : decode cX2_countUpTo 179 = .ok (.goto (-130), 3) := by decide +kernel
theorem dX2_countUpTo_182 : decode cX2_countUpTo 182 = .ok (.return_, 1) := by decide +kernel
theorem dX2_firstWayAt_0 : decode cX2_firstWayAt 0 = .ok (.iconst 0, 1) := by decide +kernel
theorem dX2_firstWayAt_1 : decode cX2_firstWayAt 1 = .ok (.istore_n 3, 1) := by decide +kernel
theorem dX2_firstWayAt_2 : decode cX2_firstWayAt 2 = .ok (.iconst 1, 1) := by decide +kernel
theorem dX2_firstWayAt_3 : decode cX2_firstWayAt 3 = .ok (.istore 4, 2) := by decide +kernel
theorem dX2_firstWayAt_5 : decode cX2_firstWayAt 5 = .ok (.iload 4, 2) := by decide +kernel
theorem dX2_firstWayAt_7 : decode cX2_firstWayAt 7 = .ok (.iload_n 2, 1) := by decide +kernel
theorem dX2_firstWayAt_8 : decode cX2_firstWayAt 8 = .ok (.if_icmp .gt 76, 3) := by decide +kernel
theorem dX2_firstWayAt_11 : decode cX2_firstWayAt 11 = .ok (.iconst (-1), 1) := by decide +kernel
theorem dX2_firstWayAt_12 : decode cX2_firstWayAt 12 = .ok (.istore 5, 2) := by decide +kernel
theorem dX2_firstWayAt_14 : decode cX2_firstWayAt 14 = .ok (.iconst 0, 1) := by decide +kernel
theorem dX2_firstWayAt_15 : decode cX2_firstWayAt 15 = .ok (.istore 6, 2) := by decide +kernel
theorem dX2_firstWayAt_17 : decode cX2_firstWayAt 17 = .ok (.iload 6, 2) := by decide +kernel
theorem dX2_firstWayAt_19 : decode cX2_firstWayAt 19 = .ok (.aload_n 1, 1) := by decide +kernel
theorem dX2_firstWayAt_20 : decode cX2_firstWayAt 20 = .ok (.iload_n 3, 1) := by decide +kernel
theorem dX2_firstWayAt_21 : decode cX2_firstWayAt 21 = .ok (.invokevirtual 78, 3) := by decide +kernel
theorem dX2_firstWayAt_24 : decode cX2_firstWayAt 24 = .ok (.if_icmp .ge 51, 3) := by decide +kernel
theorem dX2_firstWayAt_27 : decode cX2_firstWayAt 27 = .ok (.aload_n 1, 1) := by decide +kernel
theorem dX2_firstWayAt_28 : decode cX2_firstWayAt 28 = .ok (.iload_n 3, 1) := by decide +kernel
theorem dX2_firstWayAt_29 : decode cX2_firstWayAt 29 = .ok (.iload 6, 2) := by decide +kernel
theorem dX2_firstWayAt_31 : decode cX2_firstWayAt 31 = .ok (.invokevirtual 81, 3) := by decide +kernel
theorem dX2_firstWayAt_34 : decode cX2_firstWayAt 34 = .ok (.istore 7, 2) := by decide +kernel
theorem dX2_firstWayAt_36 : decode cX2_firstWayAt 36 = .ok (.aload_n 0, 1) := by decide +kernel
theorem dX2_firstWayAt_37 : decode cX2_firstWayAt 37 = .ok (.getfield 15, 3) := by decide +kernel
theorem dX2_firstWayAt_40 : decode cX2_firstWayAt 40 = .ok (.iload 4, 2) := by decide +kernel
theorem dX2_firstWayAt_42 : decode cX2_firstWayAt 42 = .ok (.iload 7, 2) := by decide +kernel
theorem dX2_firstWayAt_44 : decode cX2_firstWayAt 44 = .ok (.invokestatic 34, 3) := by decide +kernel
theorem dX2_firstWayAt_47 : decode cX2_firstWayAt 47 = .ok (.lconst 0, 1) := by decide +kernel
theorem dX2_firstWayAt_48 : decode cX2_firstWayAt 48 = .ok (.lcmp, 1) := by decide +kernel
theorem dX2_firstWayAt_49 : decode cX2_firstWayAt 49 = .ok (.ifCond .le 20, 3) := by decide +kernel
theorem dX2_firstWayAt_52 : decode cX2_firstWayAt 52 = .ok (.iload 5, 2) := by decide +kernel
theorem dX2_firstWayAt_54 : decode cX2_firstWayAt 54 = .ok (.iconst (-1), 1) := by decide +kernel
theorem dX2_firstWayAt_55 : decode cX2_firstWayAt 55 = .ok (.if_icmp .eq 10, 3) := by decide +kernel
theorem dX2_firstWayAt_58 : decode cX2_firstWayAt 58 = .ok (.iload 7, 2) := by decide +kernel
theorem dX2_firstWayAt_60 : decode cX2_firstWayAt 60 = .ok (.iload 5, 2) := by decide +kernel
theorem dX2_firstWayAt_62 : decode cX2_firstWayAt 62 = .ok (.if_icmp .ge 7, 3) := by decide +kernel
theorem dX2_firstWayAt_65 : decode cX2_firstWayAt 65 = .ok (.iload 7, 2) := by decide +kernel
theorem dX2_firstWayAt_67 : decode cX2_firstWayAt 67 = .ok (.istore 5, 2) := by decide +kernel
theorem dX2_firstWayAt_69 : decode cX2_firstWayAt 69 = .ok (.iinc 6 1, 3) := by decide +kernel
theorem dX2_firstWayAt_72 : decode cX2_firstWayAt 72 = .ok (.goto (-55), 3) := by decide +kernel
theorem dX2_firstWayAt_75 : decode cX2_firstWayAt 75 = .ok (.iload 5, 2) := by decide +kernel
theorem dX2_firstWayAt_77 : decode cX2_firstWayAt 77 = .ok (.istore_n 3, 1) := by decide +kernel
theorem dX2_firstWayAt_78 : decode cX2_firstWayAt 78 = .ok (.iinc 4 1, 3) := by decide +kernel
theorem dX2_firstWayAt_81 : decode cX2_firstWayAt 81 = .ok (.goto (-76), 3) := by decide +kernel
theorem dX2_firstWayAt_84 : decode cX2_firstWayAt 84 = .ok (.iload_n 3, 1) := by decide +kernel
theorem dX2_firstWayAt_85 : decode cX2_firstWayAt 85 = .ok (.ireturn, 1) := by decide +kernel
theorem dX2_through_0 : decode cX2_through 0 = .ok (.aload_n 0, 1) := by decide +kernel
theorem dX2_through_1 : decode cX2_through 1 = .ok (.getfield 19, 3) := by decide +kernel
theorem dX2_through_4 : decode cX2_through 4 = .ok (.iload_n 1, 1) := by decide +kernel
theorem dX2_through_5 : decode cX2_through 5 = .ok (.iload_n 2, 1) := by decide +kernel
theorem dX2_through_6 : decode cX2_through 6 = .ok (.invokestatic 34, 3) := by decide +kernel
theorem dX2_through_9 : decode cX2_through 9 = .ok (.aload_n 0, 1) := by decide +kernel
theorem dX2_through_10 : decode cX2_through 10 = .ok (.getfield 15, 3) := by decide +kernel
theorem dX2_through_13 : decode cX2_through 13 = .ok (.iload_n 1, 1) := by decide +kernel
theorem dX2_through_14 : decode cX2_through 14 = .ok (.iload_n 2, 1) := by decide +kernel
theorem dX2_through_15 : decode cX2_through 15 = .ok (.invokestatic 34, 3) := by decide +kernel
theorem dX2_through_18 : decode cX2_through 18 = .ok (.lmul, 1) := by decide +kernel
theorem dX2_through_19 : decode cX2_through 19 = .ok (.lreturn, 1) := by decide +kernel
theorem dX2_sureAt_0 : decode cX2_sureAt 0 = .ok (.aload_n 0, 1) := by decide +kernel
theorem dX2_sureAt_1 : decode cX2_sureAt 1 = .ok (.aload_n 1, 1) := by decide +kernel
theorem dX2_sureAt_2 : decode cX2_sureAt 2 = .ok (.aload_n 2, 1) := by decide +kernel
theorem dX2_sureAt_3 : decode cX2_sureAt 3 = .ok (.invokevirtual 94, 3) := by decide +kernel
theorem dX2_sureAt_6 : decode cX2_sureAt 6 = .ok (.iconst 0, 1) := by decide +kernel
theorem dX2_sureAt_7 : decode cX2_sureAt 7 = .ok (.istore 4, 2) := by decide +kernel
theorem dX2_sureAt_9 : decode cX2_sureAt 9 = .ok (.iload 4, 2) := by decide +kernel
theorem dX2_sureAt_11 : decode cX2_sureAt 11 = .ok (.aload_n 1, 1) := by decide +kernel
theorem dX2_sureAt_12 : decode cX2_sureAt 12 = .ok (.getfield 59, 3) := by decide +kernel
theorem dX2_sureAt_15 : decode cX2_sureAt 15 = .ok (.if_icmp .ge 32, 3) := by decide +kernel
theorem dX2_sureAt_18 : decode cX2_sureAt 18 = .ok (.aload_n 0, 1) := by decide +kernel
theorem dX2_sureAt_19 : decode cX2_sureAt 19 = .ok (.iload_n 3, 1) := by decide +kernel
theorem dX2_sureAt_20 : decode cX2_sureAt 20 = .ok (.iload 4, 2) := by decide +kernel
theorem dX2_sureAt_22 : decode cX2_sureAt 22 = .ok (.invokevirtual 97, 3) := by decide +kernel
theorem dX2_sureAt_25 : decode cX2_sureAt 25 = .ok (.aload_n 0, 1) := by decide +kernel
theorem dX2_sureAt_26 : decode cX2_sureAt 26 = .ok (.getfield 15, 3) := by decide +kernel
theorem dX2_sureAt_29 : decode cX2_sureAt 29 = .ok (.iconst 0, 1) := by decide +kernel
theorem dX2_sureAt_30 : decode cX2_sureAt 30 = .ok (.iconst 0, 1) := by decide +kernel
theorem dX2_sureAt_31 : decode cX2_sureAt 31 = .ok (.invokestatic 34, 3) := by decide +kernel
theorem dX2_sureAt_34 : decode cX2_sureAt 34 = .ok (.lcmp, 1) := by decide +kernel
theorem dX2_sureAt_35 : decode cX2_sureAt 35 = .ok (.ifCond .ne 6, 3) := by decide +kernel
theorem dX2_sureAt_38 : decode cX2_sureAt 38 = .ok (.iload 4, 2) := by decide +kernel
theorem dX2_sureAt_40 : decode cX2_sureAt 40 = .ok (.ireturn, 1) := by decide +kernel
theorem dX2_sureAt_41 : decode cX2_sureAt 41 = .ok (.iinc 4 1, 3) := by decide +kernel
theorem dX2_sureAt_44 : decode cX2_sureAt 44 = .ok (.goto (-35), 3) := by decide +kernel
theorem dX2_sureAt_47 : decode cX2_sureAt 47 = .ok (.iconst (-1), 1) := by decide +kernel
theorem dX2_sureAt_48 : decode cX2_sureAt 48 = .ok (.ireturn, 1) := by decide +kernel
theorem dX2_bestGuess_0 : decode cX2_bestGuess 0 = .ok (.aload_n 0, 1) := by decide +kernel
theorem dX2_bestGuess_1 : decode cX2_bestGuess 1 = .ok (.aload_n 1, 1) := by decide +kernel
theorem dX2_bestGuess_2 : decode cX2_bestGuess 2 = .ok (.aload_n 2, 1) := by decide +kernel
theorem dX2_bestGuess_3 : decode cX2_bestGuess 3 = .ok (.invokevirtual 94, 3) := by decide +kernel
theorem dX2_bestGuess_6 : decode cX2_bestGuess 6 = .ok (.iconst (-1), 1) := by decide +kernel
theorem dX2_bestGuess_7 : decode cX2_bestGuess 7 = .ok (.istore_n 3, 1) := by decide +kernel
theorem dX2_bestGuess_8 : decode cX2_bestGuess 8 = .ok (.lconst 0, 1) := by decide +kernel
theorem dX2_bestGuess_9 : decode cX2_bestGuess 9 = .ok (.lstore 4, 2) := by decide +kernel
theorem dX2_bestGuess_11 : decode cX2_bestGuess 11 = .ok (.iconst 0, 1) := by decide +kernel
theorem dX2_bestGuess_12 : decode cX2_bestGuess 12 = .ok (.istore 6, 2) := by decide +kernel
theorem dX2_bestGuess_14 : decode cX2_bestGuess 14 = .ok (.iload 6, 2) := by decide +kernel
theorem dX2_bestGuess_16 : decode cX2_bestGuess 16 = .ok (.aload_n 2, 1) := by decide +kernel
theorem dX2_bestGuess_17 : decode cX2_bestGuess 17 = .ok (.getfield 30, 3) := by decide +kernel
theorem dX2_bestGuess_20 : decode cX2_bestGuess 20 = .ok (.if_icmp .ge 50, 3) := by decide +kernel
theorem dX2_bestGuess_23 : decode cX2_bestGuess 23 = .ok (.aload_n 2, 1) := by decide +kernel
theorem dX2_bestGuess_24 : decode cX2_bestGuess 24 = .ok (.iload 6, 2) := by decide +kernel
theorem dX2_bestGuess_26 : decode cX2_bestGuess 26 = .ok (.invokevirtual 101, 3) := by decide +kernel
theorem dX2_bestGuess_29 : decode cX2_bestGuess 29 = .ok (.ifCond .ne 6, 3) := by decide +kernel
theorem dX2_bestGuess_32 : decode cX2_bestGuess 32 = .ok (.goto 32, 3) := by decide +kernel
theorem dX2_bestGuess_35 : decode cX2_bestGuess 35 = .ok (.aload_n 0, 1) := by decide +kernel
theorem dX2_bestGuess_36 : decode cX2_bestGuess 36 = .ok (.aload_n 1, 1) := by decide +kernel
theorem dX2_bestGuess_37 : decode cX2_bestGuess 37 = .ok (.iload 6, 2) := by decide +kernel
theorem dX2_bestGuess_39 : decode cX2_bestGuess 39 = .ok (.invokevirtual 104, 3) := by decide +kernel
theorem dX2_bestGuess_42 : decode cX2_bestGuess 42 = .ok (.lstore 7, 2) := by decide +kernel
theorem dX2_bestGuess_44 : decode cX2_bestGuess 44 = .ok (.iload_n 3, 1) := by decide +kernel
theorem dX2_bestGuess_45 : decode cX2_bestGuess 45 = .ok (.iconst (-1), 1) := by decide +kernel
theorem dX2_bestGuess_46 : decode cX2_bestGuess 46 = .ok (.if_icmp .eq 11, 3) := by decide +kernel
theorem dX2_bestGuess_49 : decode cX2_bestGuess 49 = .ok (.lload 7, 2) := by decide +kernel
theorem dX2_bestGuess_51 : decode cX2_bestGuess 51 = .ok (.lload 4, 2) := by decide +kernel
theorem dX2_bestGuess_53 : decode cX2_bestGuess 53 = .ok (.lcmp, 1) := by decide +kernel
theorem dX2_bestGuess_54 : decode cX2_bestGuess 54 = .ok (.ifCond .ge 10, 3) := by decide +kernel
theorem dX2_bestGuess_57 : decode cX2_bestGuess 57 = .ok (.lload 7, 2) := by decide +kernel
theorem dX2_bestGuess_59 : decode cX2_bestGuess 59 = .ok (.lstore 4, 2) := by decide +kernel
theorem dX2_bestGuess_61 : decode cX2_bestGuess 61 = .ok (.iload 6, 2) := by decide +kernel
theorem dX2_bestGuess_63 : decode cX2_bestGuess 63 = .ok (.istore_n 3, 1) := by decide +kernel
theorem dX2_bestGuess_64 : decode cX2_bestGuess 64 = .ok (.iinc 6 1, 3) := by decide +kernel
theorem dX2_bestGuess_67 : decode cX2_bestGuess 67 = .ok (.goto (-53), 3) := by decide +kernel
theorem dX2_bestGuess_70 : decode cX2_bestGuess 70 = .ok (.iload_n 3, 1) := by decide +kernel
theorem dX2_bestGuess_71 : decode cX2_bestGuess 71 = .ok (.ireturn, 1) := by decide +kernel
theorem dX2_mostOfOnePerson_0 : decode cX2_mostOfOnePerson 0 = .ok (.lconst 0, 1) := by decide +kernel
theorem dX2_mostOfOnePerson_1 : decode cX2_mostOfOnePerson 1 = .ok (.lstore_n 3, 1) := by decide +kernel
theorem dX2_mostOfOnePerson_2 : decode cX2_mostOfOnePerson 2 = .ok (.iconst 0, 1) := by decide +kernel
theorem dX2_mostOfOnePerson_3 : decode cX2_mostOfOnePerson 3 = .ok (.istore 5, 2) := by decide +kernel
theorem dX2_mostOfOnePerson_5 : decode cX2_mostOfOnePerson 5 = .ok (.iload 5, 2) := by decide +kernel
theorem dX2_mostOfOnePerson_7 : decode cX2_mostOfOnePerson 7 = .ok (.bipush 6, 2) := by decide +kernel
theorem dX2_mostOfOnePerson_9 : decode cX2_mostOfOnePerson 9 = .ok (.if_icmp .ge 64, 3) := by decide +kernel
theorem dX2_mostOfOnePerson_12 : decode cX2_mostOfOnePerson 12 = .ok (.lconst 0, 1) := by decide +kernel
theorem dX2_mostOfOnePerson_13 : decode cX2_mostOfOnePerson 13 = .ok (.lstore 6, 2) := by decide +kernel
theorem dX2_mostOfOnePerson_15 : decode cX2_mostOfOnePerson 15 = .ok (.iconst 0, 1) := by decide +kernel
theorem dX2_mostOfOnePerson_16 : decode cX2_mostOfOnePerson 16 = .ok (.istore 8, 2) := by decide +kernel
theorem dX2_mostOfOnePerson_18 : decode cX2_mostOfOnePerson 18 = .ok (.iload 8, 2) := by decide +kernel
theorem dX2_mostOfOnePerson_20 : decode cX2_mostOfOnePerson 20 = .ok (.aload_n 1, 1) := by decide +kernel
theorem dX2_mostOfOnePerson_21 : decode cX2_mostOfOnePerson 21 = .ok (.getfield 59, 3) := by decide +kernel
theorem dX2_mostOfOnePerson_24 : decode cX2_mostOfOnePerson 24 = .ok (.if_icmp .ge 36, 3) := by decide +kernel
theorem dX2_mostOfOnePerson_27 : decode cX2_mostOfOnePerson 27 = .ok (.lload 6, 2) := by decide +kernel
theorem dX2_mostOfOnePerson_29 : decode cX2_mostOfOnePerson 29 = .ok (.aload_n 1, 1) := by decide +kernel
theorem dX2_mostOfOnePerson_30 : decode cX2_mostOfOnePerson 30 = .ok (.iload 8, 2) := by decide +kernel
theorem dX2_mostOfOnePerson_32 : decode cX2_mostOfOnePerson 32 = .ok (.invokevirtual 62, 3) := by decide +kernel
theorem dX2_mostOfOnePerson_35 : decode cX2_mostOfOnePerson 35 = .ok (.iload 5, 2) := by decide +kernel
theorem dX2_mostOfOnePerson_37 : decode cX2_mostOfOnePerson 37 = .ok (.if_icmp .ne 13, 3) := by decide +kernel
theorem dX2_mostOfOnePerson_40 : decode cX2_mostOfOnePerson 40 = .ok (.aload_n 0, 1) := by decide +kernel
theorem dX2_mostOfOnePerson_41 : decode cX2_mostOfOnePerson 41 = .ok (.iload_n 2, 1) := by decide +kernel
theorem dX2_mostOfOnePerson_42 : decode cX2_mostOfOnePerson 42 = .ok (.iload 8, 2) := by decide +kernel
theorem dX2_mostOfOnePerson_44 : decode cX2_mostOfOnePerson 44 = .ok (.invokevirtual 97, 3) := by decide +kernel
theorem dX2_mostOfOnePerson_47 : decode cX2_mostOfOnePerson 47 = .ok (.goto 4, 3) := by decide +kernel
theorem dX2_mostOfOnePerson_50 : decode cX2_mostOfOnePerson 50 = .ok (.lconst 0, 1) := by decide +kernel
theorem dX2_mostOfOnePerson_51 : decode cX2_mostOfOnePerson 51 = .ok (.ladd, 1) := by decide +kernel
theorem dX2_mostOfOnePerson_52 : decode cX2_mostOfOnePerson 52 = .ok (.lstore 6, 2) := by decide +kernel
theorem dX2_mostOfOnePerson_54 : decode cX2_mostOfOnePerson 54 = .ok (.iinc 8 1, 3) := by decide +kernel
theorem dX2_mostOfOnePerson_57 : decode cX2_mostOfOnePerson 57 = .ok (.goto (-39), 3) := by decide +kernel
theorem dX2_mostOfOnePerson_60 : decode cX2_mostOfOnePerson 60 = .ok (.lload_n 3, 1) := by decide +kernel
theorem dX2_mostOfOnePerson_61 : decode cX2_mostOfOnePerson 61 = .ok (.lload 6, 2) := by decide +kernel
theorem dX2_mostOfOnePerson_63 : decode cX2_mostOfOnePerson 63 = .ok (.invokestatic 108, 3) := by decide +kernel
theorem dX2_mostOfOnePerson_66 : decode cX2_mostOfOnePerson 66 = .ok (.lstore_n 3, 1) := by decide +kernel
theorem dX2_mostOfOnePerson_67 : decode cX2_mostOfOnePerson 67 = .ok (.iinc 5 1, 3) := by decide +kernel
theorem dX2_mostOfOnePerson_70 : decode cX2_mostOfOnePerson 70 = .ok (.goto (-65), 3) := by decide +kernel
theorem dX2_mostOfOnePerson_73 : decode cX2_mostOfOnePerson 73 = .ok (.lload_n 3, 1) := by decide +kernel
theorem dX2_mostOfOnePerson_74 : decode cX2_mostOfOnePerson 74 = .ok (.lreturn, 1) := by decide +kernel
theorem dX3_init_0 : decode cX3_init 0 = .ok (.aload_n 0, 1) := by decide +kernel
theorem dX3_init_1 : decode cX3_init 1 = .ok (.invokespecial 3, 3) := by decide +kernel
theorem dX3_init_4 : decode cX3_init 4 = .ok (.aload_n 0, 1) := by decide +kernel
theorem dX3_init_5 : decode cX3_init 5 = .ok (.bipush 12, 2) := by decide +kernel
theorem dX3_init_7 : decode cX3_init 7 = .ok (.newarray .int, 2) := by decide +kernel
theorem dX3_init_9 : decode cX3_init 9 = .ok (.putfield 11, 3) := by decide +kernel
theorem dX3_init_12 : decode cX3_init 12 = .ok (.return_, 1) := by decide +kernel
theorem dX3_add_0 : decode cX3_add 0 = .ok (.aload_n 0, 1) := by decide +kernel
theorem dX3_add_1 : decode cX3_add 1 = .ok (.getfield 15, 3) := by decide +kernel
theorem dX3_add_4 : decode cX3_add 4 = .ok (.bipush 12, 2) := by decide +kernel
theorem dX3_add_6 : decode cX3_add 6 = .ok (.if_icmp .ge 23, 3) := by decide +kernel
theorem dX3_add_9 : decode cX3_add 9 = .ok (.aload_n 0, 1) := by decide +kernel
theorem dX3_add_10 : decode cX3_add 10 = .ok (.getfield 11, 3) := by decide +kernel
theorem dX3_add_13 : decode cX3_add 13 = .ok (.aload_n 0, 1) := by decide +kernel
theorem dX3_add_14 : decode cX3_add 14 = .ok (.getfield 15, 3) := by decide +kernel
theorem dX3_add_17 : decode cX3_add 17 = .ok (.iload_n 1, 1) := by decide +kernel
theorem dX3_add_18 : decode cX3_add 18 = .ok (.iastore, 1) := by decide +kernel
theorem dX3_add_19 : decode cX3_add 19 = .ok (.aload_n 0, 1) := by decide +kernel
theorem dX3_add_20 : decode cX3_add 20 = .ok (.dup, 1) := by decide +kernel
theorem dX3_add_21 : decode cX3_add 21 = .ok (.getfield 15, 3) := by decide +kernel
theorem dX3_add_24 : decode cX3_add 24 = .ok (.iconst 1, 1) := by decide +kernel
theorem dX3_add_25 : decode cX3_add 25 = .ok (.iadd, 1) := by decide +kernel
theorem dX3_add_26 : decode cX3_add 26 = .ok (.putfield 15, 3) := by decide +kernel
theorem dX3_add_29 : decode cX3_add 29 = .ok (.return_, 1) := by decide +kernel
theorem dX3_copy_0 : decode cX3_copy 0 = .ok (.aload_n 1, 1) := by decide +kernel
theorem dX3_copy_1 : decode cX3_copy 1 = .ok (.getfield 11, 3) := by decide +kernel
theorem dX3_copy_4 : decode cX3_copy 4 = .ok (.iconst 0, 1) := by decide +kernel
theorem dX3_copy_5 : decode cX3_copy 5 = .ok (.aload_n 0, 1) := by decide +kernel
theorem dX3_copy_6 : decode cX3_copy 6 = .ok (.getfield 11, 3) := by decide +kernel
theorem dX3_copy_9 : decode cX3_copy 9 = .ok (.iconst 0, 1) := by decide +kernel
theorem dX3_copy_10 : decode cX3_copy 10 = .ok (.bipush 12, 2) := by decide +kernel
theorem dX3_copy_12 : decode cX3_copy 12 = .ok (.invokestatic 19, 3) := by decide +kernel
theorem dX3_copy_15 : decode cX3_copy 15 = .ok (.aload_n 0, 1) := by decide +kernel
theorem dX3_copy_16 : decode cX3_copy 16 = .ok (.aload_n 1, 1) := by decide +kernel
theorem dX3_copy_17 : decode cX3_copy 17 = .ok (.getfield 15, 3) := by decide +kernel
theorem dX3_copy_20 : decode cX3_copy 20 = .ok (.putfield 15, 3) := by decide +kernel
theorem dX3_copy_23 : decode cX3_copy 23 = .ok (.return_, 1) := by decide +kernel
theorem dX3_has_0 : decode cX3_has 0 = .ok (.iload_n 1, 1) := by decide +kernel
theorem dX3_has_1 : decode cX3_has 1 = .ok (.ifCond .lt 21, 3) := by decide +kernel
theorem dX3_has_4 : decode cX3_has 4 = .ok (.iload_n 1, 1) := by decide +kernel
theorem dX3_has_5 : decode cX3_has 5 = .ok (.aload_n 0, 1) := by decide +kernel
theorem dX3_has_6 : decode cX3_has 6 = .ok (.getfield 15, 3) := by decide +kernel
theorem dX3_has_9 : decode cX3_has 9 = .ok (.if_icmp .ge 13, 3) := by decide +kernel
theorem dX3_has_12 : decode cX3_has 12 = .ok (.iload_n 1, 1) := by decide +kernel
theorem dX3_has_13 : decode cX3_has 13 = .ok (.bipush 12, 2) := by decide +kernel
theorem dX3_has_15 : decode cX3_has 15 = .ok (.if_icmp .ge 7, 3) := by decide +kernel
theorem dX3_has_18 : decode cX3_has 18 = .ok (.iconst 1, 1) := by decide +kernel
theorem dX3_has_19 : decode cX3_has 19 = .ok (.goto 4, 3) := by decide +kernel
theorem dX3_has_22 : decode cX3_has 22 = .ok (.iconst 0, 1) := by decide +kernel
theorem dX3_has_23 : decode cX3_has 23 = .ok (.ireturn, 1) := by decide +kernel
theorem dX3_isGap_0 : decode cX3_isGap 0 = .ok (.aload_n 0, 1) := by decide +kernel
theorem dX3_isGap_1 : decode cX3_isGap 1 = .ok (.iload_n 1, 1) := by decide +kernel
theorem dX3_isGap_2 : decode cX3_isGap 2 = .ok (.invokevirtual 25, 3) := by decide +kernel
theorem dX3_isGap_5 : decode cX3_isGap 5 = .ok (.ifCond .eq 18, 3) := by decide +kernel
theorem dX3_isGap_8 : decode cX3_isGap 8 = .ok (.aload_n 0, 1) := by decide +kernel
theorem dX3_isGap_9 : decode cX3_isGap 9 = .ok (.getfield 11, 3) := by decide +kernel
theorem dX3_isGap_12 : decode cX3_isGap 12 = .ok (.iload_n 1, 1) := by decide +kernel
theorem dX3_isGap_13 : decode cX3_isGap 13 = .ok (.iaload, 1) := by decide +kernel
theorem dX3_isGap_14 : decode cX3_isGap 14 = .ok (.bipush 6, 2) := by decide +kernel
theorem dX3_isGap_16 : decode cX3_isGap 16 = .ok (.if_icmp .ne 7, 3) := by decide +kernel
theorem dX3_isGap_19 : decode cX3_isGap 19 = .ok (.iconst 1, 1) := by decide +kernel
theorem dX3_isGap_20 : decode cX3_isGap 20 = .ok (.goto 4, 3) := by decide +kernel
theorem dX3_isGap_23 : decode cX3_isGap 23 = .ok (.iconst 0, 1) := by decide +kernel
theorem dX3_isGap_24 : decode cX3_isGap 24 = .ok (.ireturn, 1) := by decide +kernel
theorem dX3_mayBe_0 : decode cX3_mayBe 0 = .ok (.aload_n 0, 1) := by decide +kernel
theorem dX3_mayBe_1 : decode cX3_mayBe 1 = .ok (.iload_n 1, 1) := by decide +kernel
theorem dX3_mayBe_2 : decode cX3_mayBe 2 = .ok (.invokevirtual 25, 3) := by decide +kernel
theorem dX3_mayBe_5 : decode cX3_mayBe 5 = .ok (.ifCond .eq 28, 3) := by decide +kernel
theorem dX3_mayBe_8 : decode cX3_mayBe 8 = .ok (.aload_n 0, 1) := by decide +kernel
theorem dX3_mayBe_9 : decode cX3_mayBe 9 = .ok (.getfield 11, 3) := by decide +kernel
theorem dX3_mayBe_12 : decode cX3_mayBe 12 = .ok (.iload_n 1, 1) := by decide +kernel
theorem dX3_mayBe_13 : decode cX3_mayBe 13 = .ok (.iaload, 1) := by decide +kernel
theorem dX3_mayBe_14 : decode cX3_mayBe 14 = .ok (.bipush 6, 2) := by decide +kernel
theorem dX3_mayBe_16 : decode cX3_mayBe 16 = .ok (.if_icmp .eq 13, 3) := by decide +kernel
theorem dX3_mayBe_19 : decode cX3_mayBe 19 = .ok (.aload_n 0, 1) := by decide +kernel
theorem dX3_mayBe_20 : decode cX3_mayBe 20 = .ok (.getfield 11, 3) := by decide +kernel
theorem dX3_mayBe_23 : decode cX3_mayBe 23 = .ok (.iload_n 1, 1) := by decide +kernel
theorem dX3_mayBe_24 : decode cX3_mayBe 24 = .ok (.iaload, 1) := by decide +kernel
theorem dX3_mayBe_25 : decode cX3_mayBe 25 = .ok (.iload_n 2, 1) := by decide +kernel
theorem dX3_mayBe_26 : decode cX3_mayBe 26 = .ok (.if_icmp .ne 7, 3) := by decide +kernel
theorem dX3_mayBe_29 : decode cX3_mayBe 29 = .ok (.iconst 1, 1) := by decide +kernel
theorem dX3_mayBe_30 : decode cX3_mayBe 30 = .ok (.goto 4, 3) := by decide +kernel
theorem dX3_mayBe_33 : decode cX3_mayBe 33 = .ok (.iconst 0, 1) := by decide +kernel
theorem dX3_mayBe_34 : decode cX3_mayBe 34 = .ok (.ireturn, 1) := by decide +kernel
theorem dX3_show_0 : decode cX3_show 0 = .ok (.iload_n 1, 1) := by decide +kernel
theorem dX3_show_1 : decode cX3_show 1 = .ok (.iconst (-1), 1) := by decide +kernel
theorem dX3_show_2 : decode cX3_show 2 = .ok (.if_icmp .ne 8, 3) := by decide +kernel
theorem dX3_show_5 : decode cX3_show 5 = .ok (.aload_n 0, 1) := by decide +kernel
theorem dX3_show_6 : decode cX3_show 6 = .ok (.getfield 15, 3) := by decide +kernel
theorem dX3_show_9 : decode cX3_show 9 = .ok (.ireturn, 1) := by decide +kernel
theorem dX3_show_10 : decode cX3_show 10 = .ok (.aload_n 0, 1) := by decide +kernel
theorem dX3_show_11 : decode cX3_show 11 = .ok (.iload_n 1, 1) := by decide +kernel
theorem dX3_show_12 : decode cX3_show 12 = .ok (.invokevirtual 25, 3) := by decide +kernel
theorem dX3_show_15 : decode cX3_show 15 = .ok (.ifCond .eq 12, 3) := by decide +kernel
theorem dX3_show_18 : decode cX3_show 18 = .ok (.aload_n 0, 1) := by decide +kernel
theorem dX3_show_19 : decode cX3_show 19 = .ok (.getfield 11, 3) := by decide +kernel
theorem dX3_show_22 : decode cX3_show 22 = .ok (.iload_n 1, 1) := by decide +kernel
theorem dX3_show_23 : decode cX3_show 23 = .ok (.iaload, 1) := by decide +kernel
theorem dX3_show_24 : decode cX3_show 24 = .ok (.goto 4, 3) := by decide +kernel
theorem dX3_show_27 : decode cX3_show 27 = .ok (.iconst (-1), 1) := by decide +kernel
theorem dX3_show_28 : decode cX3_show 28 = .ok (.ireturn, 1) := by decide +kernel
theorem dX4_init_0 : decode cX4_init 0 = .ok (.aload_n 0, 1) := by decide +kernel
theorem dX4_init_1 : decode cX4_init 1 = .ok (.invokespecial 5, 3) := by decide +kernel
theorem dX4_init_4 : decode cX4_init 4 = .ok (.aload_n 0, 1) := by decide +kernel
theorem dX4_init_5 : decode cX4_init 5 = .ok (.bipush 12, 2) := by decide +kernel
theorem dX4_init_7 : decode cX4_init 7 = .ok (.newarray .int, 2) := by decide +kernel
theorem dX4_init_9 : decode cX4_init 9 = .ok (.putfield 11, 3) := by decide +kernel
theorem dX4_init_12 : decode cX4_init 12 = .ok (.aload_n 0, 1) := by decide +kernel
theorem dX4_init_13 : decode cX4_init 13 = .ok (.bipush 12, 2) := by decide +kernel
theorem dX4_init_15 : decode cX4_init 15 = .ok (.newarray .int, 2) := by decide +kernel
theorem dX4_init_17 : decode cX4_init 17 = .ok (.putfield 15, 3) := by decide +kernel
theorem dX4_init_20 : decode cX4_init 20 = .ok (.aload_n 0, 1) := by decide +kernel
theorem dX4_init_21 : decode cX4_init 21 = .ok (.sipush 169, 3) := by decide +kernel
theorem dX4_init_24 : decode cX4_init 24 = .ok (.newarray .int, 2) := by decide +kernel
theorem dX4_init_26 : decode cX4_init 26 = .ok (.putfield 18, 3) := by decide +kernel
theorem dX4_init_29 : decode cX4_init 29 = .ok (.aload_n 0, 1) := by decide +kernel
theorem dX4_init_30 : decode cX4_init 30 = .ok (.bipush 24, 2) := by decide +kernel
theorem dX4_init_32 : decode cX4_init 32 = .ok (.newarray .int, 2) := by decide +kernel
theorem dX4_init_34 : decode cX4_init 34 = .ok (.putfield 21, 3) := by decide +kernel
theorem dX4_init_37 : decode cX4_init 37 = .ok (.return_, 1) := by decide +kernel
theorem dX4_merge_0 : decode cX4_merge 0 = .ok (.aload_n 0, 1) := by decide +kernel
theorem dX4_merge_1 : decode cX4_merge 1 = .ok (.aload_n 1, 1) := by decide +kernel
theorem dX4_merge_2 : decode cX4_merge 2 = .ok (.aload_n 0, 1) := by decide +kernel
theorem dX4_merge_3 : decode cX4_merge 3 = .ok (.getfield 11, 3) := by decide +kernel
theorem dX4_merge_6 : decode cX4_merge 6 = .ok (.iload_n 3, 1) := by decide +kernel
theorem dX4_merge_7 : decode cX4_merge 7 = .ok (.invokestatic 24, 3) := by decide +kernel
theorem dX4_merge_10 : decode cX4_merge 10 = .ok (.putfield 28, 3) := by decide +kernel
theorem dX4_merge_13 : decode cX4_merge 13 = .ok (.aload_n 0, 1) := by decide +kernel
theorem dX4_merge_14 : decode cX4_merge 14 = .ok (.aload_n 2, 1) := by decide +kernel
theorem dX4_merge_15 : decode cX4_merge 15 = .ok (.aload_n 0, 1) := by decide +kernel
theorem dX4_merge_16 : decode cX4_merge 16 = .ok (.getfield 15, 3) := by decide +kernel
theorem dX4_merge_19 : decode cX4_merge 19 = .ok (.iload_n 3, 1) := by decide +kernel
theorem dX4_merge_20 : decode cX4_merge 20 = .ok (.invokestatic 24, 3) := by decide +kernel
theorem dX4_merge_23 : decode cX4_merge 23 = .ok (.putfield 32, 3) := by decide +kernel
theorem dX4_merge_26 : decode cX4_merge 26 = .ok (.aload_n 0, 1) := by decide +kernel
theorem dX4_merge_27 : decode cX4_merge 27 = .ok (.getfield 28, 3) := by decide +kernel
theorem dX4_merge_30 : decode cX4_merge 30 = .ok (.istore 4, 2) := by decide +kernel
theorem dX4_merge_32 : decode cX4_merge 32 = .ok (.iload 4, 2) := by decide +kernel
theorem dX4_merge_34 : decode cX4_merge 34 = .ok (.ifCond .lt 47, 3) := by decide +kernel
theorem dX4_merge_37 : decode cX4_merge 37 = .ok (.aload_n 0, 1) := by decide +kernel
theorem dX4_merge_38 : decode cX4_merge 38 = .ok (.getfield 32, 3) := by decide +kernel
theorem dX4_merge_41 : decode cX4_merge 41 = .ok (.istore 5, 2) := by decide +kernel
theorem dX4_merge_43 : decode cX4_merge 43 = .ok (.iload 5, 2) := by decide +kernel
theorem dX4_merge_45 : decode cX4_merge 45 = .ok (.ifCond .lt 30, 3) := by decide +kernel
theorem dX4_merge_48 : decode cX4_merge 48 = .ok (.aload_n 0, 1) := by decide +kernel
theorem dX4_merge_49 : decode cX4_merge 49 = .ok (.getfield 18, 3) := by decide +kernel
theorem dX4_merge_52 : decode cX4_merge 52 = .ok (.iload 4, 2) := by decide +kernel
theorem dX4_merge_54 : decode cX4_merge 54 = .ok (.bipush 13, 2) := by decide +kernel
theorem dX4_merge_56 : decode cX4_merge 56 = .ok (.imul, 1) := by decide +kernel
theorem dX4_merge_57 : decode cX4_merge 57 = .ok (.iload 5, 2) := by decide +kernel
theorem dX4_merge_59 : decode cX4_merge 59 = .ok (.iadd, 1) := by decide +kernel
theorem dX4_merge_60 : decode cX4_merge 60 = .ok (.aload_n 0, 1) := by decide +kernel
theorem dX4_merge_61 : decode cX4_merge 61 = .ok (.iload 4, 2) := by decide +kernel
theorem dX4_merge_63 : decode cX4_merge 63 = .ok (.iload 5, 2) := by decide +kernel
theorem dX4_merge_65 : decode cX4_merge 65 = .ok (.invokevirtual 35, 3) := by decide +kernel
theorem dX4_merge_68 : decode cX4_merge 68 = .ok (.iastore, 1) := by decide +kernel
theorem dX4_merge_69 : decode cX4_merge 69 = .ok (.iinc 5 (-1), 3) := by decide +kernel
theorem dX4_merge_72 : decode cX4_merge 72 = .ok (.goto (-29), 3) := by decide +kernel
theorem dX4_merge_75 : decode cX4_merge 75 = .ok (.iinc 4 (-1), 3) := by decide +kernel
theorem dX4_merge_78 : decode cX4_merge 78 = .ok (.goto (-46), 3) := by decide +kernel
theorem dX4_merge_81 : decode cX4_merge 81 = .ok (.aload_n 0, 1) := by decide +kernel
theorem dX4_merge_82 : decode cX4_merge 82 = .ok (.invokevirtual 39, 3) := by decide +kernel
theorem dX4_merge_85 : decode cX4_merge 85 = .ok (.return_, 1) := by decide +kernel
theorem dX4_fillByNext_0 : decode cX4_fillByNext 0 = .ok (.iconst 0, 1) := by decide +kernel
