theorem dX12_readText_128 : decode cX12_readText 128 = .ok (.ifCond .ne 7, 3) := by decide +kernel
theorem dX12_readText_131 : decode cX12_readText 131 = .ok (.iconst 1, 1) := by decide +kernel
theorem dX12_readText_132 : decode cX12_readText 132 = .ok (.goto 4, 3) := by decide +kernel
theorem dX12_readText_135 : decode cX12_readText 135 = .ok (.iconst 0, 1) := by decide +kernel
theorem dX12_readText_136 : decode cX12_readText 136 = .ok (.ireturn, 1) := by decide +kernel
theorem dX12_store_0 : decode cX12_store 0 = .ok (.iconst 0, 1) := by decide +kernel
theorem dX12_store_1 : decode cX12_store 1 = .ok (.istore 4, 2) := by decide +kernel
theorem dX12_store_3 : decode cX12_store 3 = .ok (.iload 4, 2) := by decide +kernel
theorem dX12_store_5 : decode cX12_store 5 = .ok (.iload_n 2, 1) := by decide +kernel
theorem dX12_store_6 : decode cX12_store 6 = .ok (.if_icmp .ge 24, 3) := by decide +kernel
theorem dX12_store_9 : decode cX12_store 9 = .ok (.aload_n 1, 1) := by decide +kernel
theorem dX12_store_10 : decode cX12_store 10 = .ok (.iload_n 2, 1) := by decide +kernel
theorem dX12_store_11 : decode cX12_store 11 = .ok (.iload_n 3, 1) := by decide +kernel
theorem dX12_store_12 : decode cX12_store 12 = .ok (.imul, 1) := by decide +kernel
theorem dX12_store_13 : decode cX12_store 13 = .ok (.iload 4, 2) := by decide +kernel
theorem dX12_store_15 : decode cX12_store 15 = .ok (.iadd, 1) := by decide +kernel
theorem dX12_store_16 : decode cX12_store 16 = .ok (.aload_n 0, 1) := by decide +kernel
theorem dX12_store_17 : decode cX12_store 17 = .ok (.getfield 38, 3) := by decide +kernel
theorem dX12_store_20 : decode cX12_store 20 = .ok (.iload 4, 2) := by decide +kernel
theorem dX12_store_22 : decode cX12_store 22 = .ok (.iaload, 1) := by decide +kernel
theorem dX12_store_23 : decode cX12_store 23 = .ok (.iastore, 1) := by decide +kernel
theorem dX12_store_24 : decode cX12_store 24 = .ok (.iinc 4 1, 3) := by decide +kernel
theorem dX12_store_27 : decode cX12_store 27 = .ok (.goto (-24), 3) := by decide +kernel
theorem dX12_store_30 : decode cX12_store 30 = .ok (.return_, 1) := by decide +kernel
theorem dX12_storeAll_0 : decode cX12_storeAll 0 = .ok (.iload_n 1, 1) := by decide +kernel
theorem dX12_storeAll_1 : decode cX12_storeAll 1 = .ok (.tableswitch 63 0 2 #[27, 39, 51], 27) := by decide +kernel
theorem dX12_storeAll_28 : decode cX12_storeAll 28 = .ok (.aload_n 0, 1) := by decide +kernel
theorem dX12_storeAll_29 : decode cX12_storeAll 29 = .ok (.aload_n 0, 1) := by decide +kernel
theorem dX12_storeAll_30 : decode cX12_storeAll 30 = .ok (.getfield 26, 3) := by decide +kernel
theorem dX12_storeAll_33 : decode cX12_storeAll 33 = .ok (.bipush 112, 2) := by decide +kernel
theorem dX12_storeAll_35 : decode cX12_storeAll 35 = .ok (.iload_n 2, 1) := by decide +kernel
theorem dX12_storeAll_36 : decode cX12_storeAll 36 = .ok (.invokevirtual 256, 3) := by decide +kernel
theorem dX12_storeAll_39 : decode cX12_storeAll 39 = .ok (.return_, 1) := by decide +kernel
theorem dX12_storeAll_40 : decode cX12_storeAll 40 = .ok (.aload_n 0, 1) := by decide +kernel
theorem dX12_storeAll_41 : decode cX12_storeAll 41 = .ok (.aload_n 0, 1) := by decide +kernel
theorem dX12_storeAll_42 : decode cX12_storeAll 42 = .ok (.getfield 29, 3) := by decide +kernel
theorem dX12_storeAll_45 : decode cX12_storeAll 45 = .ok (.bipush 81, 2) := by decide +kernel
theorem dX12_storeAll_47 : decode cX12_storeAll 47 = .ok (.iload_n 2, 1) := by decide +kernel
theorem dX12_storeAll_48 : decode cX12_storeAll 48 = .ok (.invokevirtual 256, 3) := by decide +kernel
theorem dX12_storeAll_51 : decode cX12_storeAll 51 = .ok (.return_, 1) := by decide +kernel
theorem dX12_storeAll_52 : decode cX12_storeAll 52 = .ok (.aload_n 0, 1) := by decide +kernel
theorem dX12_storeAll_53 : decode cX12_storeAll 53 = .ok (.aload_n 0, 1) := by decide +kernel
theorem dX12_storeAll_54 : decode cX12_storeAll 54 = .ok (.getfield 32, 3) := by decide +kernel
theorem dX12_storeAll_57 : decode cX12_storeAll 57 = .ok (.bipush 13, 2) := by decide +kernel
theorem dX12_storeAll_59 : decode cX12_storeAll 59 = .ok (.iload_n 2, 1) := by decide +kernel
theorem dX12_storeAll_60 : decode cX12_storeAll 60 = .ok (.invokevirtual 256, 3) := by decide +kernel
theorem dX12_storeAll_63 : decode cX12_storeAll 63 = .ok (.return_, 1) := by decide +kernel
theorem dX12_storeAll_64 : decode cX12_storeAll 64 = .ok (.aload_n 0, 1) := by decide +kernel
theorem dX12_storeAll_65 : decode cX12_storeAll 65 = .ok (.aload_n 0, 1) := by decide +kernel
theorem dX12_storeAll_66 : decode cX12_storeAll 66 = .ok (.getfield 35, 3) := by decide +kernel
theorem dX12_storeAll_69 : decode cX12_storeAll 69 = .ok (.bipush 27, 2) := by decide +kernel
theorem dX12_storeAll_71 : decode cX12_storeAll 71 = .ok (.iload_n 2, 1) := by decide +kernel
theorem dX12_storeAll_72 : decode cX12_storeAll 72 = .ok (.invokevirtual 256, 3) := by decide +kernel
theorem dX12_storeAll_75 : decode cX12_storeAll 75 = .ok (.return_, 1) := by decide +kernel
theorem dX12_text_0 : decode cX12_text 0 = .ok (.aload_n 0, 1) := by decide +kernel
theorem dX12_text_1 : decode cX12_text 1 = .ok (.iconst 0, 1) := by decide +kernel
theorem dX12_text_2 : decode cX12_text 2 = .ok (.putfield 91, 3) := by decide +kernel
theorem dX12_text_5 : decode cX12_text 5 = .ok (.aload_n 0, 1) := by decide +kernel
theorem dX12_text_6 : decode cX12_text 6 = .ok (.aload_n 0, 1) := by decide +kernel
theorem dX12_text_7 : decode cX12_text 7 = .ok (.getfield 13, 3) := by decide +kernel
theorem dX12_text_10 : decode cX12_text 10 = .ok (.iconst 0, 1) := by decide +kernel
theorem dX12_text_11 : decode cX12_text 11 = .ok (.iaload, 1) := by decide +kernel
theorem dX12_text_12 : decode cX12_text 12 = .ok (.putfield 118, 3) := by decide +kernel
theorem dX12_text_15 : decode cX12_text 15 = .ok (.aload_n 0, 1) := by decide +kernel
theorem dX12_text_16 : decode cX12_text 16 = .ok (.getfield 13, 3) := by decide +kernel
theorem dX12_text_19 : decode cX12_text 19 = .ok (.iconst 0, 1) := by decide +kernel
theorem dX12_text_20 : decode cX12_text 20 = .ok (.iconst 0, 1) := by decide +kernel
theorem dX12_text_21 : decode cX12_text 21 = .ok (.iastore, 1) := by decide +kernel
theorem dX12_text_22 : decode cX12_text 22 = .ok (.aload_n 0, 1) := by decide +kernel
theorem dX12_text_23 : decode cX12_text 23 = .ok (.getfield 17, 3) := by decide +kernel
theorem dX12_text_26 : decode cX12_text 26 = .ok (.iconst 0, 1) := by decide +kernel
theorem dX12_text_27 : decode cX12_text 27 = .ok (.iconst 0, 1) := by decide +kernel
theorem dX12_text_28 : decode cX12_text 28 = .ok (.iastore, 1) := by decide +kernel
theorem dX12_text_29 : decode cX12_text 29 = .ok (.aload_n 0, 1) := by decide +kernel
theorem dX12_text_30 : decode cX12_text 30 = .ok (.getfield 20, 3) := by decide +kernel
theorem dX12_text_33 : decode cX12_text 33 = .ok (.iconst 0, 1) := by decide +kernel
theorem dX12_text_34 : decode cX12_text 34 = .ok (.iconst (-1), 1) := by decide +kernel
theorem dX12_text_35 : decode cX12_text 35 = .ok (.iastore, 1) := by decide +kernel
theorem dX12_text_36 : decode cX12_text 36 = .ok (.iload_n 1, 1) := by decide +kernel
theorem dX12_text_37 : decode cX12_text 37 = .ok (.iconst 0, 1) := by decide +kernel
theorem dX12_text_38 : decode cX12_text 38 = .ok (.iconst 3, 1) := by decide +kernel
theorem dX12_text_39 : decode cX12_text 39 = .ok (.invokestatic 107, 3) := by decide +kernel
theorem dX12_text_42 : decode cX12_text 42 = .ok (.ifCond .eq 30, 3) := by decide +kernel
theorem dX12_text_45 : decode cX12_text 45 = .ok (.iload_n 2, 1) := by decide +kernel
theorem dX12_text_46 : decode cX12_text 46 = .ok (.iconst (-1), 1) := by decide +kernel
theorem dX12_text_47 : decode cX12_text 47 = .ok (.if_icmp .ne 16, 3) := by decide +kernel
theorem dX12_text_50 : decode cX12_text 50 = .ok (.aload_n 0, 1) := by decide +kernel
theorem dX12_text_51 : decode cX12_text 51 = .ok (.getfield 23, 3) := by decide +kernel
theorem dX12_text_54 : decode cX12_text 54 = .ok (.iload_n 1, 1) := by decide +kernel
theorem dX12_text_55 : decode cX12_text 55 = .ok (.iaload, 1) := by decide +kernel
theorem dX12_text_56 : decode cX12_text 56 = .ok (.iconst 2, 1) := by decide +kernel
theorem dX12_text_57 : decode cX12_text 57 = .ok (.if_icmp .ne 18, 3) := by decide +kernel
theorem dX12_text_60 : decode cX12_text 60 = .ok (.goto 12, 3) := by decide +kernel
theorem dX12_text_63 : decode cX12_text 63 = .ok (.aload_n 0, 1) := by decide +kernel
theorem dX12_text_64 : decode cX12_text 64 = .ok (.iload_n 1, 1) := by decide +kernel
theorem dX12_text_65 : decode cX12_text 65 = .ok (.iload_n 2, 1) := by decide +kernel
theorem dX12_text_66 : decode cX12_text 66 = .ok (.invokevirtual 260, 3) := by decide +kernel
theorem dX12_text_69 : decode cX12_text 69 = .ok (.ifCond .ne 6, 3) := by decide +kernel
theorem dX12_text_72 : decode cX12_text 72 = .ok (.bipush (-2), 2) := by decide +kernel
theorem dX12_text_74 : decode cX12_text 74 = .ok (.ireturn, 1) := by decide +kernel
theorem dX12_text_75 : decode cX12_text 75 = .ok (.aload_n 0, 1) := by decide +kernel
theorem dX12_text_76 : decode cX12_text 76 = .ok (.iload_n 1, 1) := by decide +kernel
theorem dX12_text_77 : decode cX12_text 77 = .ok (.invokevirtual 263, 3) := by decide +kernel
theorem dX12_text_80 : decode cX12_text 80 = .ok (.ifCond .ne 5, 3) := by decide +kernel
theorem dX12_text_83 : decode cX12_text 83 = .ok (.iconst (-1), 1) := by decide +kernel
theorem dX12_text_84 : decode cX12_text 84 = .ok (.ireturn, 1) := by decide +kernel
theorem dX12_text_85 : decode cX12_text 85 = .ok (.iload_n 2, 1) := by decide +kernel
theorem dX12_text_86 : decode cX12_text 86 = .ok (.iconst (-1), 1) := by decide +kernel
theorem dX12_text_87 : decode cX12_text 87 = .ok (.if_icmp .ne 12, 3) := by decide +kernel
theorem dX12_text_90 : decode cX12_text 90 = .ok (.aload_n 0, 1) := by decide +kernel
theorem dX12_text_91 : decode cX12_text 91 = .ok (.getfield 23, 3) := by decide +kernel
theorem dX12_text_94 : decode cX12_text 94 = .ok (.iload_n 1, 1) := by decide +kernel
theorem dX12_text_95 : decode cX12_text 95 = .ok (.iaload, 1) := by decide +kernel
theorem dX12_text_96 : decode cX12_text 96 = .ok (.goto 4, 3) := by decide +kernel
theorem dX12_text_99 : decode cX12_text 99 = .ok (.iload_n 2, 1) := by decide +kernel
theorem dX12_text_100 : decode cX12_text 100 = .ok (.istore_n 3, 1) := by decide +kernel
theorem dX12_text_101 : decode cX12_text 101 = .ok (.aload_n 0, 1) := by decide +kernel
theorem dX12_text_102 : decode cX12_text 102 = .ok (.getfield 23, 3) := by decide +kernel
theorem dX12_text_105 : decode cX12_text 105 = .ok (.iload_n 1, 1) := by decide +kernel
theorem dX12_text_106 : decode cX12_text 106 = .ok (.dup2, 1) := by decide +kernel
theorem dX12_text_107 : decode cX12_text 107 = .ok (.iaload, 1) := by decide +kernel
theorem dX12_text_108 : decode cX12_text 108 = .ok (.iload_n 2, 1) := by decide +kernel
theorem dX12_text_109 : decode cX12_text 109 = .ok (.iconst (-1), 1) := by decide +kernel
theorem dX12_text_110 : decode cX12_text 110 = .ok (.if_icmp .ne 7, 3) := by decide +kernel
theorem dX12_text_113 : decode cX12_text 113 = .ok (.iconst 1, 1) := by decide +kernel
theorem dX12_text_114 : decode cX12_text 114 = .ok (.goto 4, 3) := by decide +kernel
theorem dX12_text_117 : decode cX12_text 117 = .ok (.iconst 0, 1) := by decide +kernel
theorem dX12_text_118 : decode cX12_text 118 = .ok (.iadd, 1) := by decide +kernel
theorem dX12_text_119 : decode cX12_text 119 = .ok (.iastore, 1) := by decide +kernel
theorem dX12_text_120 : decode cX12_text 120 = .ok (.aload_n 0, 1) := by decide +kernel
theorem dX12_text_121 : decode cX12_text 121 = .ok (.iload_n 1, 1) := by decide +kernel
theorem dX12_text_122 : decode cX12_text 122 = .ok (.iload_n 3, 1) := by decide +kernel
theorem dX12_text_123 : decode cX12_text 123 = .ok (.invokevirtual 266, 3) := by decide +kernel
theorem dX12_text_126 : decode cX12_text 126 = .ok (.iload_n 3, 1) := by decide +kernel
theorem dX12_text_127 : decode cX12_text 127 = .ok (.ireturn, 1) := by decide +kernel
theorem dX12_fault_0 : decode cX12_fault 0 = .ok (.aload_n 0, 1) := by decide +kernel
theorem dX12_fault_1 : decode cX12_fault 1 = .ok (.iconst 0, 1) := by decide +kernel
theorem dX12_fault_2 : decode cX12_fault 2 = .ok (.putfield 91, 3) := by decide +kernel
theorem dX12_fault_5 : decode cX12_fault 5 = .ok (.iload_n 1, 1) := by decide +kernel
theorem dX12_fault_6 : decode cX12_fault 6 = .ok (.ifCond .ne 12, 3) := by decide +kernel
theorem dX12_fault_9 : decode cX12_fault 9 = .ok (.aload_n 0, 1) := by decide +kernel
theorem dX12_fault_10 : decode cX12_fault 10 = .ok (.getfield 17, 3) := by decide +kernel
theorem dX12_fault_13 : decode cX12_fault 13 = .ok (.iconst 0, 1) := by decide +kernel
theorem dX12_fault_14 : decode cX12_fault 14 = .ok (.iaload, 1) := by decide +kernel
theorem dX12_fault_15 : decode cX12_fault 15 = .ok (.goto 18, 3) := by decide +kernel
theorem dX12_fault_18 : decode cX12_fault 18 = .ok (.iload_n 1, 1) := by decide +kernel
theorem dX12_fault_19 : decode cX12_fault 19 = .ok (.iconst 1, 1) := by decide +kernel
theorem dX12_fault_20 : decode cX12_fault 20 = .ok (.if_icmp .ne 12, 3) := by decide +kernel
theorem dX12_fault_23 : decode cX12_fault 23 = .ok (.aload_n 0, 1) := by decide +kernel
theorem dX12_fault_24 : decode cX12_fault 24 = .ok (.getfield 20, 3) := by decide +kernel
theorem dX12_fault_27 : decode cX12_fault 27 = .ok (.iconst 0, 1) := by decide +kernel
theorem dX12_fault_28 : decode cX12_fault 28 = .ok (.iaload, 1) := by decide +kernel
theorem dX12_fault_29 : decode cX12_fault 29 = .ok (.goto 4, 3) := by decide +kernel
theorem dX12_fault_32 : decode cX12_fault 32 = .ok (.iconst (-1), 1) := by decide +kernel
theorem dX12_fault_33 : decode cX12_fault 33 = .ok (.ireturn, 1) := by decide +kernel
theorem dX12_of_0 : decode cX12_of 0 = .ok (.aload_n 0, 1) := by decide +kernel
theorem dX12_of_1 : decode cX12_of 1 = .ok (.getfield 26, 3) := by decide +kernel
theorem dX12_of_4 : decode cX12_of 4 = .ok (.bipush 112, 2) := by decide +kernel
theorem dX12_of_6 : decode cX12_of 6 = .ok (.aload_n 0, 1) := by decide +kernel
theorem dX12_of_7 : decode cX12_of 7 = .ok (.getfield 269, 3) := by decide +kernel
theorem dX12_of_10 : decode cX12_of 10 = .ok (.imul, 1) := by decide +kernel
theorem dX12_of_11 : decode cX12_of 11 = .ok (.iload_n 1, 1) := by decide +kernel
theorem dX12_of_12 : decode cX12_of 12 = .ok (.iadd, 1) := by decide +kernel
theorem dX12_of_13 : decode cX12_of 13 = .ok (.iaload, 1) := by decide +kernel
theorem dX12_of_14 : decode cX12_of 14 = .ok (.ireturn, 1) := by decide +kernel
theorem dX12_addFollower_0 : decode cX12_addFollower 0 = .ok (.iconst 0, 1) := by decide +kernel
theorem dX12_addFollower_1 : decode cX12_addFollower 1 = .ok (.istore_n 3, 1) := by decide +kernel
theorem dX12_addFollower_2 : decode cX12_addFollower 2 = .ok (.iload_n 3, 1) := by decide +kernel
theorem dX12_addFollower_3 : decode cX12_addFollower 3 = .ok (.aload_n 0, 1) := by decide +kernel
theorem dX12_addFollower_4 : decode cX12_addFollower 4 = .ok (.getfield 47, 3) := by decide +kernel
theorem dX12_addFollower_7 : decode cX12_addFollower 7 = .ok (.iload_n 1, 1) := by decide +kernel
theorem dX12_addFollower_8 : decode cX12_addFollower 8 = .ok (.iaload, 1) := by decide +kernel
theorem dX12_addFollower_9 : decode cX12_addFollower 9 = .ok (.if_icmp .ge 25, 3) := by decide +kernel
theorem dX12_addFollower_12 : decode cX12_addFollower 12 = .ok (.aload_n 0, 1) := by decide +kernel
theorem dX12_addFollower_13 : decode cX12_addFollower 13 = .ok (.getfield 44, 3) := by decide +kernel
theorem dX12_addFollower_16 : decode cX12_addFollower 16 = .ok (.bipush 20, 2) := by decide +kernel
theorem dX12_addFollower_18 : decode cX12_addFollower 18 = .ok (.iload_n 1, 1) := by decide +kernel
theorem dX12_addFollower_19 : decode cX12_addFollower 19 = .ok (.imul, 1) := by decide +kernel
theorem dX12_addFollower_20 : decode cX12_addFollower 20 = .ok (.iload_n 3, 1) := by decide +kernel
theorem dX12_addFollower_21 : decode cX12_addFollower 21 = .ok (.iadd, 1) := by decide +kernel
theorem dX12_addFollower_22 : decode cX12_addFollower 22 = .ok (.iaload, 1) := by decide +kernel
theorem dX12_addFollower_23 : decode cX12_addFollower 23 = .ok (.iload_n 2, 1) := by decide +kernel
theorem dX12_addFollower_24 : decode cX12_addFollower 24 = .ok (.if_icmp .ne 4, 3) := by decide +kernel
theorem dX12_addFollower_27 : decode cX12_addFollower 27 = .ok (.return_, 1) := by decide +kernel
theorem dX12_addFollower_28 : decode cX12_addFollower 28 = .ok (.iinc 3 1, 3) := by decide +kernel
theorem dX12_addFollower_31 : decode cX12_addFollower 31 = .ok (.goto (-29), 3) := by decide +kernel
theorem dX12_addFollower_34 : decode cX12_addFollower 34 = .ok (.aload_n 0, 1) := by decide +kernel
theorem dX12_addFollower_35 : decode cX12_addFollower 35 = .ok (.getfield 44, 3) := by decide +kernel
theorem dX12_addFollower_38 : decode cX12_addFollower 38 = .ok (.bipush 20, 2) := by decide +kernel
theorem dX12_addFollower_40 : decode cX12_addFollower 40 = .ok (.iload_n 1, 1) := by decide +kernel
theorem dX12_addFollower_41 : decode cX12_addFollower 41 = .ok (.imul, 1) := by decide +kernel
theorem dX12_addFollower_42 : decode cX12_addFollower 42 = .ok (.aload_n 0, 1) := by decide +kernel
theorem dX12_addFollower_43 : decode cX12_addFollower 43 = .ok (.getfield 47, 3) := by decide +kernel
theorem dX12_addFollower_46 : decode cX12_addFollower 46 = .ok (.iload_n 1, 1) := by decide +kernel
theorem dX12_addFollower_47 : decode cX12_addFollower 47 = .ok (.iaload, 1) := by decide +kernel
theorem dX12_addFollower_48 : decode cX12_addFollower 48 = .ok (.iadd, 1) := by decide +kernel
theorem dX12_addFollower_49 : decode cX12_addFollower 49 = .ok (.iload_n 2, 1) := by decide +kernel
theorem dX12_addFollower_50 : decode cX12_addFollower 50 = .ok (.iastore, 1) := by decide +kernel
theorem dX12_addFollower_51 : decode cX12_addFollower 51 = .ok (.aload_n 0, 1) := by decide +kernel
theorem dX12_addFollower_52 : decode cX12_addFollower 52 = .ok (.getfield 47, 3) := by decide +kernel
theorem dX12_addFollower_55 : decode cX12_addFollower 55 = .ok (.iload_n 1, 1) := by decide +kernel
theorem dX12_addFollower_56 : decode cX12_addFollower 56 = .ok (.dup2, 1) := by decide +kernel
theorem dX12_addFollower_57 : decode cX12_addFollower 57 = .ok (.iaload, 1) := by decide +kernel
theorem dX12_addFollower_58 : decode cX12_addFollower 58 = .ok (.iconst 1, 1) := by decide +kernel
theorem dX12_addFollower_59 : decode cX12_addFollower 59 = .ok (.iadd, 1) := by decide +kernel
theorem dX12_addFollower_60 : decode cX12_addFollower 60 = .ok (.iastore, 1) := by decide +kernel
theorem dX12_addFollower_61 : decode cX12_addFollower 61 = .ok (.return_, 1) := by decide +kernel
theorem dX12_hand_0 : decode cX12_hand 0 = .ok (.aload_n 0, 1) := by decide +kernel
theorem dX12_hand_1 : decode cX12_hand 1 = .ok (.iload_n 1, 1) := by decide +kernel
theorem dX12_hand_2 : decode cX12_hand 2 = .ok (.putfield 269, 3) := by decide +kernel
theorem dX12_hand_5 : decode cX12_hand 5 = .ok (.aload_n 0, 1) := by decide +kernel
theorem dX12_hand_6 : decode cX12_hand 6 = .ok (.iconst 0, 1) := by decide +kernel
theorem dX12_hand_7 : decode cX12_hand 7 = .ok (.iload_n 1, 1) := by decide +kernel
theorem dX12_hand_8 : decode cX12_hand 8 = .ok (.invokevirtual 260, 3) := by decide +kernel
theorem dX12_hand_11 : decode cX12_hand 11 = .ok (.ifCond .ne 5, 3) := by decide +kernel
theorem dX12_hand_14 : decode cX12_hand 14 = .ok (.iconst 0, 1) := by decide +kernel
theorem dX12_hand_15 : decode cX12_hand 15 = .ok (.ireturn, 1) := by decide +kernel
theorem dX12_hand_16 : decode cX12_hand 16 = .ok (.aload_n 0, 1) := by decide +kernel
theorem dX12_hand_17 : decode cX12_hand 17 = .ok (.aload_n 0, 1) := by decide +kernel
theorem dX12_hand_18 : decode cX12_hand 18 = .ok (.iconst 0, 1) := by decide +kernel
theorem dX12_hand_19 : decode cX12_hand 19 = .ok (.invokevirtual 272, 3) := by decide +kernel
theorem dX12_hand_22 : decode cX12_hand 22 = .ok (.putfield 276, 3) := by decide +kernel
theorem dX12_hand_25 : decode cX12_hand 25 = .ok (.iconst 0, 1) := by decide +kernel
theorem dX12_hand_26 : decode cX12_hand 26 = .ok (.istore_n 2, 1) := by decide +kernel
theorem dX12_hand_27 : decode cX12_hand 27 = .ok (.iload_n 2, 1) := by decide +kernel
theorem dX12_hand_28 : decode cX12_hand 28 = .ok (.bipush 20, 2) := by decide +kernel
theorem dX12_hand_30 : decode cX12_hand 30 = .ok (.if_icmp .ge 16, 3) := by decide +kernel
theorem dX12_hand_33 : decode cX12_hand 33 = .ok (.aload_n 0, 1) := by decide +kernel
theorem dX12_hand_34 : decode cX12_hand 34 = .ok (.getfield 47, 3) := by decide +kernel
theorem dX12_hand_37 : decode cX12_hand 37 = .ok (.iload_n 2, 1) := by decide +kernel
theorem dX12_hand_38 : decode cX12_hand 38 = .ok (.iconst 0, 1) := by decide +kernel
theorem dX12_hand_39 : decode cX12_hand 39 = .ok (.iastore, 1) := by decide +kernel
theorem dX12_hand_40 : decode cX12_hand 40 = .ok (.iinc 2 1, 3) := by decide +kernel
theorem dX12_hand_43 : decode cX12_hand 43 = .ok (.goto (-16), 3) := by decide +kernel
theorem dX12_hand_46 : decode cX12_hand 46 = .ok (.iconst 1, 1) := by decide +kernel
theorem dX12_hand_47 : decode cX12_hand 47 = .ok (.istore_n 2, 1) := by decide +kernel
theorem dX12_hand_48 : decode cX12_hand 48 = .ok (.iload_n 2, 1) := by decide +kernel
theorem dX12_hand_49 : decode cX12_hand 49 = .ok (.aload_n 0, 1) := by decide +kernel
theorem dX12_hand_50 : decode cX12_hand 50 = .ok (.getfield 276, 3) := by decide +kernel
theorem dX12_hand_53 : decode cX12_hand 53 = .ok (.if_icmp .ge 21, 3) := by decide +kernel
theorem dX12_hand_56 : decode cX12_hand 56 = .ok (.aload_n 0, 1) := by decide +kernel
theorem dX12_hand_57 : decode cX12_hand 57 = .ok (.aload_n 0, 1) := by decide +kernel
theorem dX12_hand_58 : decode cX12_hand 58 = .ok (.iconst 4, 1) := by decide +kernel
theorem dX12_hand_59 : decode cX12_hand 59 = .ok (.iload_n 2, 1) := by decide +kernel
theorem dX12_hand_60 : decode cX12_hand 60 = .ok (.iadd, 1) := by decide +kernel
theorem dX12_hand_61 : decode cX12_hand 61 = .ok (.invokevirtual 272, 3) := by decide +kernel
theorem dX12_hand_64 : decode cX12_hand 64 = .ok (.iload_n 2, 1) := by decide +kernel
theorem dX12_hand_65 : decode cX12_hand 65 = .ok (.invokevirtual 279, 3) := by decide +kernel
theorem dX12_hand_68 : decode cX12_hand 68 = .ok (.iinc 2 1, 3) := by decide +kernel
theorem dX12_hand_71 : decode cX12_hand 71 = .ok (.goto (-23), 3) := by decide +kernel
theorem dX12_hand_74 : decode cX12_hand 74 = .ok (.iconst 0, 1) := by decide +kernel
theorem dX12_hand_75 : decode cX12_hand 75 = .ok (.istore_n 2, 1) := by decide +kernel
theorem dX12_hand_76 : decode cX12_hand 76 = .ok (.iload_n 2, 1) := by decide +kernel
theorem dX12_hand_77 : decode cX12_hand 77 = .ok (.aload_n 0, 1) := by decide +kernel
theorem dX12_hand_78 : decode cX12_hand 78 = .ok (.iconst 1, 1) := by decide +kernel
theorem dX12_hand_79 : decode cX12_hand 79 = .ok (.invokevirtual 272, 3) := by decide +kernel
theorem dX12_hand_82 : decode cX12_hand 82 = .ok (.if_icmp .ge 29, 3) := by decide +kernel
theorem dX12_hand_85 : decode cX12_hand 85 = .ok (.aload_n 0, 1) := by decide +kernel
theorem dX12_hand_86 : decode cX12_hand 86 = .ok (.aload_n 0, 1) := by decide +kernel
theorem dX12_hand_87 : decode cX12_hand 87 = .ok (.bipush 84, 2) := by decide +kernel
theorem dX12_hand_89 : decode cX12_hand 89 = .ok (.iload_n 2, 1) := by decide +kernel
theorem dX12_hand_90 : decode cX12_hand 90 = .ok (.iadd, 1) := by decide +kernel
theorem dX12_hand_91 : decode cX12_hand 91 = .ok (.invokevirtual 272, 3) := by decide +kernel
theorem dX12_hand_94 : decode cX12_hand 94 = .ok (.aload_n 0, 1) := by decide +kernel
theorem dX12_hand_95 : decode cX12_hand 95 = .ok (.bipush 92, 2) := by decide +kernel
theorem dX12_hand_97 : decode cX12_hand 97 = .ok (.iload_n 2, 1) := by decide +kernel
theorem dX12_hand_98 : decode cX12_hand 98 = .ok (.iadd, 1) := by decide +kernel
theorem dX12_hand_99 : decode cX12_hand 99 = .ok (.invokevirtual 272, 3) := by decide +kernel
theorem dX12_hand_102 : decode cX12_hand 102 = .ok (.invokevirtual 279, 3) := by decide +kernel
theorem dX12_hand_105 : decode cX12_hand 105 = .ok (.iinc 2 1, 3) := by decide +kernel
theorem dX12_hand_108 : decode cX12_hand 108 = .ok (.goto (-32), 3) := by decide +kernel
theorem dX12_hand_111 : decode cX12_hand 111 = .ok (.iconst 1, 1) := by decide +kernel
theorem dX12_hand_112 : decode cX12_hand 112 = .ok (.ireturn, 1) := by decide +kernel
theorem dX12_isLine_0 : decode cX12_isLine 0 = .ok (.iload_n 1, 1) := by decide +kernel
theorem dX12_isLine_1 : decode cX12_isLine 1 = .ok (.iconst 0, 1) := by decide +kernel
theorem dX12_isLine_2 : decode cX12_isLine 2 = .ok (.aload_n 0, 1) := by decide +kernel
theorem dX12_isLine_3 : decode cX12_isLine 3 = .ok (.getfield 276, 3) := by decide +kernel
theorem dX12_isLine_6 : decode cX12_isLine 6 = .ok (.iconst 1, 1) := by decide +kernel
theorem dX12_isLine_7 : decode cX12_isLine 7 = .ok (.isub, 1) := by decide +kernel
theorem dX12_isLine_8 : decode cX12_isLine 8 = .ok (.invokestatic 107, 3) := by decide +kernel
theorem dX12_isLine_11 : decode cX12_isLine 11 = .ok (.ireturn, 1) := by decide +kernel
theorem dX12_isPerson_0 : decode cX12_isPerson 0 = .ok (.iload_n 0, 1) := by decide +kernel
theorem dX12_isPerson_1 : decode cX12_isPerson 1 = .ok (.iconst 0, 1) := by decide +kernel
theorem dX12_isPerson_2 : decode cX12_isPerson 2 = .ok (.iconst 5, 1) := by decide +kernel
theorem dX12_isPerson_3 : decode cX12_isPerson 3 = .ok (.invokestatic 107, 3) := by decide +kernel
theorem dX12_isPerson_6 : decode cX12_isPerson 6 = .ok (.ireturn, 1) := by decide +kernel
theorem dX12_isScene_0 : decode cX12_isScene 0 = .ok (.iload_n 0, 1) := by decide +kernel
theorem dX12_isScene_1 : decode cX12_isScene 1 = .ok (.iconst 0, 1) := by decide +kernel
theorem dX12_isScene_2 : decode cX12_isScene 2 = .ok (.bipush 9, 2) := by decide +kernel
theorem dX12_isScene_4 : decode cX12_isScene 4 = .ok (.invokestatic 107, 3) := by decide +kernel
theorem dX12_isScene_7 : decode cX12_isScene 7 = .ok (.ireturn, 1) := by decide +kernel
theorem dX12_behind_0 : decode cX12_behind 0 = .ok (.iload_n 2, 1) := by decide +kernel
theorem dX12_behind_1 : decode cX12_behind 1 = .ok (.aload_n 0, 1) := by decide +kernel
theorem dX12_behind_2 : decode cX12_behind 2 = .ok (.getfield 47, 3) := by decide +kernel
theorem dX12_behind_5 : decode cX12_behind 5 = .ok (.iload_n 1, 1) := by decide +kernel
theorem dX12_behind_6 : decode cX12_behind 6 = .ok (.iaload, 1) := by decide +kernel
theorem dX12_behind_7 : decode cX12_behind 7 = .ok (.if_icmp .ge 17, 3) := by decide +kernel
theorem dX12_behind_10 : decode cX12_behind 10 = .ok (.aload_n 0, 1) := by decide +kernel
theorem dX12_behind_11 : decode cX12_behind 11 = .ok (.getfield 44, 3) := by decide +kernel
theorem dX12_behind_14 : decode cX12_behind 14 = .ok (.bipush 20, 2) := by decide +kernel
theorem dX12_behind_16 : decode cX12_behind 16 = .ok (.iload_n 1, 1) := by decide +kernel
theorem dX12_behind_17 : decode cX12_behind 17 = .ok (.imul, 1) := by decide +kernel
theorem dX12_behind_18 : decode cX12_behind 18 = .ok (.iload_n 2, 1) := by decide +kernel
theorem dX12_behind_19 : decode cX12_behind 19 = .ok (.iadd, 1) := by decide +kernel
theorem dX12_behind_20 : decode cX12_behind 20 = .ok (.iaload, 1) := by decide +kernel
theorem dX12_behind_21 : decode cX12_behind 21 = .ok (.goto 4, 3) := by decide +kernel
theorem dX12_behind_24 : decode cX12_behind 24 = .ok (.iconst (-1), 1) := by decide +kernel
theorem dX12_behind_25 : decode cX12_behind 25 = .ok (.ireturn, 1) := by decide +kernel
theorem dX12_who_0 : decode cX12_who 0 = .ok (.aload_n 0, 1) := by decide +kernel
theorem dX12_who_1 : decode cX12_who 1 = .ok (.bipush 24, 2) := by decide +kernel
theorem dX12_who_3 : decode cX12_who 3 = .ok (.iload_n 1, 1) := by decide +kernel
theorem dX12_who_4 : decode cX12_who 4 = .ok (.iadd, 1) := by decide +kernel
theorem dX12_who_5 : decode cX12_who 5 = .ok (.invokevirtual 272, 3) := by decide +kernel
theorem dX12_who_8 : decode cX12_who 8 = .ok (.ireturn, 1) := by decide +kernel
theorem dX12_isOf_0 : decode cX12_isOf 0 = .ok (.aload_n 0, 1) := by decide +kernel
theorem dX12_isOf_1 : decode cX12_isOf 1 = .ok (.bipush 44, 2) := by decide +kernel
theorem dX12_isOf_3 : decode cX12_isOf 3 = .ok (.iload_n 1, 1) := by decide +kernel
theorem dX12_isOf_4 : decode cX12_isOf 4 = .ok (.iadd, 1) := by decide +kernel
theorem dX12_isOf_5 : decode cX12_isOf 5 = .ok (.invokevirtual 272, 3) := by decide +kernel
theorem dX12_isOf_8 : decode cX12_isOf 8 = .ok (.iload_n 2, 1) := by decide +kernel
theorem dX12_isOf_9 : decode cX12_isOf 9 = .ok (.if_icmp .ne 7, 3) := by decide +kernel
theorem dX12_isOf_12 : decode cX12_isOf 12 = .ok (.iconst 1, 1) := by decide +kernel
theorem dX12_isOf_13 : decode cX12_isOf 13 = .ok (.goto 4, 3) := by decide +kernel
theorem dX12_isOf_16 : decode cX12_isOf 16 = .ok (.iconst 0, 1) := by decide +kernel
theorem dX12_isOf_17 : decode cX12_isOf 17 = .ok (.ireturn, 1) := by decide +kernel
theorem dX12_harmOf_0 : decode cX12_harmOf 0 = .ok (.aload_n 0, 1) := by decide +kernel
theorem dX12_harmOf_1 : decode cX12_harmOf 1 = .ok (.bipush 106, 2) := by decide +kernel
theorem dX12_harmOf_3 : decode cX12_harmOf 3 = .ok (.aload_n 0, 1) := by decide +kernel
theorem dX12_harmOf_4 : decode cX12_harmOf 4 = .ok (.iload_n 1, 1) := by decide +kernel
theorem dX12_harmOf_5 : decode cX12_harmOf 5 = .ok (.invokevirtual 282, 3) := by decide +kernel
theorem dX12_harmOf_8 : decode cX12_harmOf 8 = .ok (.iadd, 1) := by decide +kernel
theorem dX12_harmOf_9 : decode cX12_harmOf 9 = .ok (.invokevirtual 272, 3) := by decide +kernel
theorem dX12_harmOf_12 : decode cX12_harmOf 12 = .ok (.iconst 1, 1) := by decide +kernel
theorem dX12_harmOf_13 : decode cX12_harmOf 13 = .ok (.if_icmp .ne 7, 3) := by decide +kernel
theorem dX12_harmOf_16 : decode cX12_harmOf 16 = .ok (.iconst 0, 1) := by decide +kernel
theorem dX12_harmOf_17 : decode cX12_harmOf 17 = .ok (.goto 11, 3) := by decide +kernel
theorem dX12_harmOf_20 : decode cX12_harmOf 20 = .ok (.aload_n 0, 1) := by decide +kernel
theorem dX12_harmOf_21 : decode cX12_harmOf 21 = .ok (.bipush 64, 2) := by decide +kernel
theorem dX12_harmOf_23 : decode cX12_harmOf 23 = .ok (.iload_n 1, 1) := by decide +kernel
theorem dX12_harmOf_24 : decode cX12_harmOf 24 = .ok (.iadd, 1) := by decide +kernel
theorem dX12_harmOf_25 : decode cX12_harmOf 25 = .ok (.invokevirtual 272, 3) := by decide +kernel
theorem dX12_harmOf_28 : decode cX12_harmOf 28 = .ok (.ireturn, 1) := by decide +kernel
theorem dX12_strays_0 : decode cX12_strays 0 = .ok (.iload_n 0, 1) := by decide +kernel
theorem dX12_strays_1 : decode cX12_strays 1 = .ok (.ifCond .ne 7, 3) := by decide +kernel
theorem dX12_strays_4 : decode cX12_strays 4 = .ok (.iconst 0, 1) := by decide +kernel
theorem dX12_strays_5 : decode cX12_strays 5 = .ok (.goto 4, 3) := by decide +kernel
theorem dX12_strays_8 : decode cX12_strays 8 = .ok (.iconst 1, 1) := by decide +kernel
theorem dX12_strays_9 : decode cX12_strays 9 = .ok (.ireturn, 1) := by decide +kernel
theorem dX12_book_0 : decode cX12_book 0 = .ok (.aload_n 0, 1) := by decide +kernel
theorem dX12_book_1 : decode cX12_book 1 = .ok (.iconst 0, 1) := by decide +kernel
theorem dX12_book_2 : decode cX12_book 2 = .ok (.putfield 91, 3) := by decide +kernel
theorem dX12_book_5 : decode cX12_book 5 = .ok (.aload_n 0, 1) := by decide +kernel
theorem dX12_book_6 : decode cX12_book 6 = .ok (.iload_n 1, 1) := by decide +kernel
theorem dX12_book_7 : decode cX12_book 7 = .ok (.invokevirtual 285, 3) := by decide +kernel
theorem dX12_book_10 : decode cX12_book 10 = .ok (.ifCond .ne 6, 3) := by decide +kernel
theorem dX12_book_13 : decode cX12_book 13 = .ok (.bipush (-2), 2) := by decide +kernel
theorem dX12_book_15 : decode cX12_book 15 = .ok (.ireturn, 1) := by decide +kernel
theorem dX12_book_16 : decode cX12_book 16 = .ok (.iload_n 2, 1) := by decide +kernel
theorem dX12_book_17 : decode cX12_book 17 = .ok (.bipush 10, 2) := by decide +kernel
theorem dX12_book_19 : decode cX12_book 19 = .ok (.bipush 29, 2) := by decide +kernel
theorem dX12_book_21 : decode cX12_book 21 = .ok (.invokestatic 107, 3) := by decide +kernel
theorem dX12_book_24 : decode cX12_book 24 = .ok (.ifCond .eq 41, 3) := by decide +kernel
theorem dX12_book_27 : decode cX12_book 27 = .ok (.iload_n 2, 1) := by decide +kernel
theorem dX12_book_28 : decode cX12_book 28 = .ok (.bipush 10, 2) := by decide +kernel
theorem dX12_book_30 : decode cX12_book 30 = .ok (.irem, 1) := by decide +kernel
theorem dX12_book_31 : decode cX12_book 31 = .ok (.invokestatic 288, 3) := by decide +kernel
theorem dX12_book_34 : decode cX12_book 34 = .ok (.ifCond .eq 28, 3) := by decide +kernel
theorem dX12_book_37 : decode cX12_book 37 = .ok (.aload_n 0, 1) := by decide +kernel
theorem dX12_book_38 : decode cX12_book 38 = .ok (.iload_n 2, 1) := by decide +kernel
theorem dX12_book_39 : decode cX12_book 39 = .ok (.bipush 20, 2) := by decide +kernel
theorem dX12_book_41 : decode cX12_book 41 = .ok (.if_icmp .ge 8, 3) := by decide +kernel
theorem dX12_book_44 : decode cX12_book 44 = .ok (.bipush 100, 2) := by decide +kernel
theorem dX12_book_46 : decode cX12_book 46 = .ok (.goto 5, 3) := by decide +kernel
theorem dX12_book_49 : decode cX12_book 49 = .ok (.bipush 106, 2) := by decide +kernel
theorem dX12_book_51 : decode cX12_book 51 = .ok (.iload_n 2, 1) := by decide +kernel
theorem dX12_book_52 : decode cX12_book 52 = .ok (.bipush 10, 2) := by decide +kernel
theorem dX12_book_54 : decode cX12_book 54 = .ok (.irem, 1) := by decide +kernel
theorem dX12_book_55 : decode cX12_book 55 = .ok (.iadd, 1) := by decide +kernel
theorem dX12_book_56 : decode cX12_book 56 = .ok (.invokevirtual 272, 3) := by decide +kernel
theorem dX12_book_59 : decode cX12_book 59 = .ok (.goto 5, 3) := by decide +kernel
theorem dX12_book_62 : decode cX12_book 62 = .ok (.bipush (-2), 2) := by decide +kernel
theorem dX12_book_64 : decode cX12_book 64 = .ok (.ireturn, 1) := by decide +kernel
theorem dX12_book_65 : decode cX12_book 65 = .ok (.iload_n 2, 1) := by decide +kernel
theorem dX12_book_66 : decode cX12_book 66 = .ok (.bipush 100, 2) := by decide +kernel
theorem dX12_book_68 : decode cX12_book 68 = .ok (.sipush 699, 3) := by decide +kernel
theorem dX12_book_71 : decode cX12_book 71 = .ok (.invokestatic 107, 3) := by decide +kernel
theorem dX12_book_74 : decode cX12_book 74 = .ok (.ifCond .eq 32, 3) := by decide +kernel
theorem dX12_book_77 : decode cX12_book 77 = .ok (.aload_n 0, 1) := by decide +kernel
theorem dX12_book_78 : decode cX12_book 78 = .ok (.iload_n 2, 1) := by decide +kernel
theorem dX12_book_79 : decode cX12_book 79 = .ok (.bipush 100, 2) := by decide +kernel
theorem dX12_book_81 : decode cX12_book 81 = .ok (.irem, 1) := by decide +kernel
theorem dX12_book_82 : decode cX12_book 82 = .ok (.invokevirtual 291, 3) := by decide +kernel
theorem dX12_book_85 : decode cX12_book 85 = .ok (.ifCond .eq 18, 3) := by decide +kernel
theorem dX12_book_88 : decode cX12_book 88 = .ok (.aload_n 0, 1) := by decide +kernel
theorem dX12_book_89 : decode cX12_book 89 = .ok (.iload_n 2, 1) := by decide +kernel
theorem dX12_book_90 : decode cX12_book 90 = .ok (.bipush 100, 2) := by decide +kernel
theorem dX12_book_92 : decode cX12_book 92 = .ok (.idiv, 1) := by decide +kernel
theorem dX12_book_93 : decode cX12_book 93 = .ok (.iload_n 2, 1) := by decide +kernel
theorem dX12_book_94 : decode cX12_book 94 = .ok (.bipush 100, 2) := by decide +kernel
theorem dX12_book_96 : decode cX12_book 96 = .ok (.irem, 1) := by decide +kernel
theorem dX12_book_97 : decode cX12_book 97 = .ok (.invokevirtual 294, 3) := by decide +kernel
theorem dX12_book_100 : decode cX12_book 100 = .ok (.goto 5, 3) := by decide +kernel
theorem dX12_book_103 : decode cX12_book 103 = .ok (.bipush (-2), 2) := by decide +kernel
theorem dX12_book_105 : decode cX12_book 105 = .ok (.ireturn, 1) := by decide +kernel
theorem dX12_book_106 : decode cX12_book 106 = .ok (.iload_n 2, 1) := by decide +kernel
theorem dX12_book_107 : decode cX12_book 107 = .ok (.ifCond .ne 10, 3) := by decide +kernel
theorem dX12_book_110 : decode cX12_book 110 = .ok (.aload_n 0, 1) := by decide +kernel
theorem dX12_book_111 : decode cX12_book 111 = .ok (.getfield 276, 3) := by decide +kernel
theorem dX12_book_114 : decode cX12_book 114 = .ok (.goto 31, 3) := by decide +kernel
theorem dX12_book_117 : decode cX12_book 117 = .ok (.iload_n 2, 1) := by decide +kernel
theorem dX12_book_118 : decode cX12_book 118 = .ok (.iconst 1, 1) := by decide +kernel
theorem dX12_book_119 : decode cX12_book 119 = .ok (.if_icmp .ne 11, 3) := by decide +kernel
theorem dX12_book_122 : decode cX12_book 122 = .ok (.aload_n 0, 1) := by decide +kernel
theorem dX12_book_123 : decode cX12_book 123 = .ok (.iconst 2, 1) := by decide +kernel
theorem dX12_book_124 : decode cX12_book 124 = .ok (.invokevirtual 272, 3) := by decide +kernel
theorem dX12_book_127 : decode cX12_book 127 = .ok (.goto 18, 3) := by decide +kernel
theorem dX12_book_130 : decode cX12_book 130 = .ok (.iload_n 2, 1) := by decide +kernel
theorem dX12_book_131 : decode cX12_book 131 = .ok (.iconst 2, 1) := by decide +kernel
theorem dX12_book_132 : decode cX12_book 132 = .ok (.if_icmp .ne 11, 3) := by decide +kernel
theorem dX12_book_135 : decode cX12_book 135 = .ok (.aload_n 0, 1) := by decide +kernel
theorem dX12_book_136 : decode cX12_book 136 = .ok (.iconst 3, 1) := by decide +kernel
theorem dX12_book_137 : decode cX12_book 137 = .ok (.invokevirtual 272, 3) := by decide +kernel
theorem dX12_book_140 : decode cX12_book 140 = .ok (.goto 5, 3) := by decide +kernel
theorem dX12_book_143 : decode cX12_book 143 = .ok (.bipush (-2), 2) := by decide +kernel
theorem dX12_book_145 : decode cX12_book 145 = .ok (.ireturn, 1) := by decide +kernel
theorem dX12_ofLine_0 : decode cX12_ofLine 0 = .ok (.iload_n 1, 1) := by decide +kernel
theorem dX12_ofLine_1 : decode cX12_ofLine 1 = .ok (.iconst 5, 1) := by decide +kernel
theorem dX12_ofLine_2 : decode cX12_ofLine 2 = .ok (.if_icmp .ge 20, 3) := by decide +kernel
theorem dX12_ofLine_5 : decode cX12_ofLine 5 = .ok (.aload_n 0, 1) := by decide +kernel
theorem dX12_ofLine_6 : decode cX12_ofLine 6 = .ok (.iconst 4, 1) := by decide +kernel
theorem dX12_ofLine_7 : decode cX12_ofLine 7 = .ok (.bipush 20, 2) := by decide +kernel
theorem dX12_ofLine_9 : decode cX12_ofLine 9 = .ok (.iload_n 1, 1) := by decide +kernel
theorem dX12_ofLine_10 : decode cX12_ofLine 10 = .ok (.iconst 1, 1) := by decide +kernel
theorem dX12_ofLine_11 : decode cX12_ofLine 11 = .ok (.isub, 1) := by decide +kernel
theorem dX12_ofLine_12 : decode cX12_ofLine 12 = .ok (.imul, 1) := by decide +kernel
theorem dX12_ofLine_13 : decode cX12_ofLine 13 = .ok (.iadd, 1) := by decide +kernel
theorem dX12_ofLine_14 : decode cX12_ofLine 14 = .ok (.iload_n 2, 1) := by decide +kernel
theorem dX12_ofLine_15 : decode cX12_ofLine 15 = .ok (.iadd, 1) := by decide +kernel
theorem dX12_ofLine_16 : decode cX12_ofLine 16 = .ok (.invokevirtual 272, 3) := by decide +kernel
theorem dX12_ofLine_19 : decode cX12_ofLine 19 = .ok (.goto 23, 3) := by decide +kernel
theorem dX12_ofLine_22 : decode cX12_ofLine 22 = .ok (.iload_n 1, 1) := by decide +kernel
theorem dX12_ofLine_23 : decode cX12_ofLine 23 = .ok (.iconst 5, 1) := by decide +kernel
theorem dX12_ofLine_24 : decode cX12_ofLine 24 = .ok (.if_icmp .ne 12, 3) := by decide +kernel
theorem dX12_ofLine_27 : decode cX12_ofLine 27 = .ok (.aload_n 0, 1) := by decide +kernel
theorem dX12_ofLine_28 : decode cX12_ofLine 28 = .ok (.iload_n 2, 1) := by decide +kernel
theorem dX12_ofLine_29 : decode cX12_ofLine 29 = .ok (.iconst 0, 1) := by decide +kernel
theorem dX12_ofLine_30 : decode cX12_ofLine 30 = .ok (.invokevirtual 297, 3) := by decide +kernel
theorem dX12_ofLine_33 : decode cX12_ofLine 33 = .ok (.goto 9, 3) := by decide +kernel
theorem dX12_ofLine_36 : decode cX12_ofLine 36 = .ok (.aload_n 0, 1) := by decide +kernel
theorem dX12_ofLine_37 : decode cX12_ofLine 37 = .ok (.getfield 47, 3) := by decide +kernel
theorem dX12_ofLine_40 : decode cX12_ofLine 40 = .ok (.iload_n 2, 1) := by decide +kernel
theorem dX12_ofLine_41 : decode cX12_ofLine 41 = .ok (.iaload, 1) := by decide +kernel
theorem dX12_ofLine_42 : decode cX12_ofLine 42 = .ok (.ireturn, 1) := by decide +kernel
theorem dX12_follower_0 : decode cX12_follower 0 = .ok (.aload_n 0, 1) := by decide +kernel
theorem dX12_follower_1 : decode cX12_follower 1 = .ok (.iconst 0, 1) := by decide +kernel
theorem dX12_follower_2 : decode cX12_follower 2 = .ok (.putfield 91, 3) := by decide +kernel
theorem dX12_follower_5 : decode cX12_follower 5 = .ok (.aload_n 0, 1) := by decide +kernel
theorem dX12_follower_6 : decode cX12_follower 6 = .ok (.iload_n 1, 1) := by decide +kernel
theorem dX12_follower_7 : decode cX12_follower 7 = .ok (.invokevirtual 285, 3) := by decide +kernel
theorem dX12_follower_10 : decode cX12_follower 10 = .ok (.ifCond .eq 24, 3) := by decide +kernel
theorem dX12_follower_13 : decode cX12_follower 13 = .ok (.aload_n 0, 1) := by decide +kernel
theorem dX12_follower_14 : decode cX12_follower 14 = .ok (.iload_n 2, 1) := by decide +kernel
theorem dX12_follower_15 : decode cX12_follower 15 = .ok (.invokevirtual 291, 3) := by decide +kernel
theorem dX12_follower_18 : decode cX12_follower 18 = .ok (.ifCond .eq 16, 3) := by decide +kernel
theorem dX12_follower_21 : decode cX12_follower 21 = .ok (.iload_n 3, 1) := by decide +kernel
theorem dX12_follower_22 : decode cX12_follower 22 = .ok (.ifCond .lt 12, 3) := by decide +kernel
theorem dX12_follower_25 : decode cX12_follower 25 = .ok (.aload_n 0, 1) := by decide +kernel
theorem dX12_follower_26 : decode cX12_follower 26 = .ok (.iload_n 2, 1) := by decide +kernel
theorem dX12_follower_27 : decode cX12_follower 27 = .ok (.iload_n 3, 1) := by decide +kernel
theorem dX12_follower_28 : decode cX12_follower 28 = .ok (.invokevirtual 297, 3) := by decide +kernel
theorem dX12_follower_31 : decode cX12_follower 31 = .ok (.goto 4, 3) := by decide +kernel
theorem dX12_follower_34 : decode cX12_follower 34 = .ok (.iconst (-1), 1) := by decide +kernel
theorem dX12_follower_35 : decode cX12_follower 35 = .ok (.ireturn, 1) := by decide +kernel
theorem dX12_deeds_0 : decode cX12_deeds 0 = .ok (.aload_n 0, 1) := by decide +kernel
theorem dX12_deeds_1 : decode cX12_deeds 1 = .ok (.getfield 29, 3) := by decide +kernel
theorem dX12_deeds_4 : decode cX12_deeds 4 = .ok (.bipush 81, 2) := by decide +kernel
theorem dX12_deeds_6 : decode cX12_deeds 6 = .ok (.aload_n 0, 1) := by decide +kernel
theorem dX12_deeds_7 : decode cX12_deeds 7 = .ok (.getfield 300, 3) := by decide +kernel
theorem dX12_deeds_10 : decode cX12_deeds 10 = .ok (.imul, 1) := by decide +kernel
theorem dX12_deeds_11 : decode cX12_deeds 11 = .ok (.iaload, 1) := by decide +kernel
theorem dX12_deeds_12 : decode cX12_deeds 12 = .ok (.ireturn, 1) := by decide +kernel
theorem dX12_deedOf_0 : decode cX12_deedOf 0 = .ok (.aload_n 0, 1) := by decide +kernel
theorem dX12_deedOf_1 : decode cX12_deedOf 1 = .ok (.getfield 29, 3) := by decide +kernel
theorem dX12_deedOf_4 : decode cX12_deedOf 4 = .ok (.bipush 81, 2) := by decide +kernel
theorem dX12_deedOf_6 : decode cX12_deedOf 6 = .ok (.aload_n 0, 1) := by decide +kernel
theorem dX12_deedOf_7 : decode cX12_deedOf 7 = .ok (.getfield 300, 3) := by decide +kernel
theorem dX12_deedOf_10 : decode cX12_deedOf 10 = .ok (.imul, 1) := by decide +kernel
theorem dX12_deedOf_11 : decode cX12_deedOf 11 = .ok (.iconst 1, 1) := by decide +kernel
theorem dX12_deedOf_12 : decode cX12_deedOf 12 = .ok (.iadd, 1) := by decide +kernel
theorem dX12_deedOf_13 : decode cX12_deedOf 13 = .ok (.iconst 2, 1) := by decide +kernel
theorem dX12_deedOf_14 : decode cX12_deedOf 14 = .ok (.iload_n 1, 1) := by decide +kernel
theorem dX12_deedOf_15 : decode cX12_deedOf 15 = .ok (.imul, 1) := by decide +kernel
theorem dX12_deedOf_16 : decode cX12_deedOf 16 = .ok (.iadd, 1) := by decide +kernel
theorem dX12_deedOf_17 : decode cX12_deedOf 17 = .ok (.iload_n 2, 1) := by decide +kernel
theorem dX12_deedOf_18 : decode cX12_deedOf 18 = .ok (.iadd, 1) := by decide +kernel
theorem dX12_deedOf_19 : decode cX12_deedOf 19 = .ok (.iaload, 1) := by decide +kernel
theorem dX12_deedOf_20 : decode cX12_deedOf 20 = .ok (.ireturn, 1) := by decide +kernel
theorem dX12_hasEvening_0 : decode cX12_hasEvening 0 = .ok (.aload_n 0, 1) := by decide +kernel
theorem dX12_hasEvening_1 : decode cX12_hasEvening 1 = .ok (.iload_n 1, 1) := by decide +kernel
theorem dX12_hasEvening_2 : decode cX12_hasEvening 2 = .ok (.putfield 300, 3) := by decide +kernel
theorem dX12_hasEvening_5 : decode cX12_hasEvening 5 = .ok (.aload_n 0, 1) := by decide +kernel
theorem dX12_hasEvening_6 : decode cX12_hasEvening 6 = .ok (.iconst 1, 1) := by decide +kernel
theorem dX12_hasEvening_7 : decode cX12_hasEvening 7 = .ok (.iload_n 1, 1) := by decide +kernel
theorem dX12_hasEvening_8 : decode cX12_hasEvening 8 = .ok (.invokevirtual 260, 3) := by decide +kernel
theorem dX12_hasEvening_11 : decode cX12_hasEvening 11 = .ok (.ireturn, 1) := by decide +kernel
theorem dX12_deed_0 : decode cX12_deed 0 = .ok (.aload_n 0, 1) := by decide +kernel
theorem dX12_deed_1 : decode cX12_deed 1 = .ok (.iconst 0, 1) := by decide +kernel
theorem dX12_deed_2 : decode cX12_deed 2 = .ok (.putfield 91, 3) := by decide +kernel
theorem dX12_deed_5 : decode cX12_deed 5 = .ok (.aload_n 0, 1) := by decide +kernel
theorem dX12_deed_6 : decode cX12_deed 6 = .ok (.iload_n 1, 1) := by decide +kernel
theorem dX12_deed_7 : decode cX12_deed 7 = .ok (.invokevirtual 303, 3) := by decide +kernel
theorem dX12_deed_10 : decode cX12_deed 10 = .ok (.ifCond .ne 6, 3) := by decide +kernel
theorem dX12_deed_13 : decode cX12_deed 13 = .ok (.bipush (-2), 2) := by decide +kernel
theorem dX12_deed_15 : decode cX12_deed 15 = .ok (.ireturn, 1) := by decide +kernel
theorem dX12_deed_16 : decode cX12_deed 16 = .ok (.iload_n 2, 1) := by decide +kernel
theorem dX12_deed_17 : decode cX12_deed 17 = .ok (.iconst (-1), 1) := by decide +kernel
theorem dX12_deed_18 : decode cX12_deed 18 = .ok (.if_icmp .ne 17, 3) := by decide +kernel
theorem dX12_deed_21 : decode cX12_deed 21 = .ok (.iload_n 3, 1) := by decide +kernel
theorem dX12_deed_22 : decode cX12_deed 22 = .ok (.ifCond .ne 10, 3) := by decide +kernel
theorem dX12_deed_25 : decode cX12_deed 25 = .ok (.aload_n 0, 1) := by decide +kernel
theorem dX12_deed_26 : decode cX12_deed 26 = .ok (.invokevirtual 306, 3) := by decide +kernel
theorem dX12_deed_29 : decode cX12_deed 29 = .ok (.goto 5, 3) := by decide +kernel
theorem dX12_deed_32 : decode cX12_deed 32 = .ok (.bipush (-2), 2) := by decide +kernel
theorem dX12_deed_34 : decode cX12_deed 34 = .ok (.ireturn, 1) := by decide +kernel
theorem dX12_deed_35 : decode cX12_deed 35 = .ok (.iload_n 2, 1) := by decide +kernel
theorem dX12_deed_36 : decode cX12_deed 36 = .ok (.iconst 0, 1) := by decide +kernel
theorem dX12_deed_37 : decode cX12_deed 37 = .ok (.aload_n 0, 1) := by decide +kernel
theorem dX12_deed_38 : decode cX12_deed 38 = .ok (.invokevirtual 306, 3) := by decide +kernel
theorem dX12_deed_41 : decode cX12_deed 41 = .ok (.iconst 1, 1) := by decide +kernel
theorem dX12_deed_42 : decode cX12_deed 42 = .ok (.isub, 1) := by decide +kernel
theorem dX12_deed_43 : decode cX12_deed 43 = .ok (.invokestatic 107, 3) := by decide +kernel
theorem dX12_deed_46 : decode cX12_deed 46 = .ok (.ifCond .eq 21, 3) := by decide +kernel
theorem dX12_deed_49 : decode cX12_deed 49 = .ok (.iload_n 3, 1) := by decide +kernel
theorem dX12_deed_50 : decode cX12_deed 50 = .ok (.iconst 0, 1) := by decide +kernel
theorem dX12_deed_51 : decode cX12_deed 51 = .ok (.iconst 1, 1) := by decide +kernel
theorem dX12_deed_52 : decode cX12_deed 52 = .ok (.invokestatic 107, 3) := by decide +kernel
theorem dX12_deed_55 : decode cX12_deed 55 = .ok (.ifCond .eq 12, 3) := by decide +kernel
theorem dX12_deed_58 : decode cX12_deed 58 = .ok (.aload_n 0, 1) := by decide +kernel
theorem dX12_deed_59 : decode cX12_deed 59 = .ok (.iload_n 2, 1) := by decide +kernel
theorem dX12_deed_60 : decode cX12_deed 60 = .ok (.iload_n 3, 1) := by decide +kernel
theorem dX12_deed_61 : decode cX12_deed 61 = .ok (.invokevirtual 309, 3) := by decide +kernel
theorem dX12_deed_64 : decode cX12_deed 64 = .ok (.goto 5, 3) := by decide +kernel
theorem dX12_deed_67 : decode cX12_deed 67 = .ok (.bipush (-2), 2) := by decide +kernel
theorem dX12_deed_69 : decode cX12_deed 69 = .ok (.ireturn, 1) := by decide +kernel
theorem dX12_begin_0 : decode cX12_begin 0 = .ok (.iconst 0, 1) := by decide +kernel
theorem dX12_begin_1 : decode cX12_begin 1 = .ok (.istore_n 1, 1) := by decide +kernel
theorem dX12_begin_2 : decode cX12_begin 2 = .ok (.iload_n 1, 1) := by decide +kernel
theorem dX12_begin_3 : decode cX12_begin 3 = .ok (.bipush 30, 2) := by decide +kernel
theorem dX12_begin_5 : decode cX12_begin 5 = .ok (.if_icmp .ge 16, 3) := by decide +kernel
theorem dX12_begin_8 : decode cX12_begin 8 = .ok (.aload_n 0, 1) := by decide +kernel
theorem dX12_begin_9 : decode cX12_begin 9 = .ok (.getfield 50, 3) := by decide +kernel
theorem dX12_begin_12 : decode cX12_begin 12 = .ok (.iload_n 1, 1) := by decide +kernel
theorem dX12_begin_13 : decode cX12_begin 13 = .ok (.iconst 0, 1) := by decide +kernel
theorem dX12_begin_14 : decode cX12_begin 14 = .ok (.iastore, 1) := by decide +kernel
theorem dX12_begin_15 : decode cX12_begin 15 = .ok (.iinc 1 1, 3) := by decide +kernel
theorem dX12_begin_18 : decode cX12_begin 18 = .ok (.goto (-16), 3) := by decide +kernel
theorem dX12_begin_21 : decode cX12_begin 21 = .ok (.aload_n 0, 1) := by decide +kernel
theorem dX12_begin_22 : decode cX12_begin 22 = .ok (.getfield 50, 3) := by decide +kernel
theorem dX12_begin_25 : decode cX12_begin 25 = .ok (.iconst 1, 1) := by decide +kernel
theorem dX12_begin_26 : decode cX12_begin 26 = .ok (.iconst (-1), 1) := by decide +kernel
theorem dX12_begin_27 : decode cX12_begin 27 = .ok (.iastore, 1) := by decide +kernel
theorem dX12_begin_28 : decode cX12_begin 28 = .ok (.aload_n 0, 1) := by decide +kernel
theorem dX12_begin_29 : decode cX12_begin 29 = .ok (.getfield 50, 3) := by decide +kernel
theorem dX12_begin_32 : decode cX12_begin 32 = .ok (.iconst 2, 1) := by decide +kernel
theorem dX12_begin_33 : decode cX12_begin 33 = .ok (.aload_n 0, 1) := by decide +kernel
theorem dX12_begin_34 : decode cX12_begin 34 = .ok (.getfield 276, 3) := by decide +kernel
theorem dX12_begin_37 : decode cX12_begin 37 = .ok (.ifCond .le 7, 3) := by decide +kernel
theorem dX12_begin_40 : decode cX12_begin 40 = .ok (.iconst 0, 1) := by decide +kernel
theorem dX12_begin_41 : decode cX12_begin 41 = .ok (.goto 4, 3) := by decide +kernel
theorem dX12_begin_44 : decode cX12_begin 44 = .ok (.iconst (-1), 1) := by decide +kernel
theorem dX12_begin_45 : decode cX12_begin 45 = .ok (.iastore, 1) := by decide +kernel
theorem dX12_begin_46 : decode cX12_begin 46 = .ok (.aload_n 0, 1) := by decide +kernel
theorem dX12_begin_47 : decode cX12_begin 47 = .ok (.getfield 50, 3) := by decide +kernel
theorem dX12_begin_50 : decode cX12_begin 50 = .ok (.bipush 9, 2) := by decide +kernel
theorem dX12_begin_52 : decode cX12_begin 52 = .ok (.bipush 63, 2) := by decide +kernel
theorem dX12_begin_54 : decode cX12_begin 54 = .ok (.iastore, 1) := by decide +kernel
theorem dX12_begin_55 : decode cX12_begin 55 = .ok (.return_, 1) := by decide +kernel
theorem dX12_isThere_0 : decode cX12_isThere 0 = .ok (.aload_n 0, 1) := by decide +kernel
theorem dX12_isThere_1 : decode cX12_isThere 1 = .ok (.getfield 50, 3) := by decide +kernel
theorem dX12_isThere_4 : decode cX12_isThere 4 = .ok (.bipush 9, 2) := by decide +kernel
theorem dX12_isThere_6 : decode cX12_isThere 6 = .ok (.iaload, 1) := by decide +kernel
theorem dX12_isThere_7 : decode cX12_isThere 7 = .ok (.iload_n 1, 1) := by decide +kernel
theorem dX12_isThere_8 : decode cX12_isThere 8 = .ok (.invokestatic 95, 3) := by decide +kernel
theorem dX12_isThere_11 : decode cX12_isThere 11 = .ok (.ireturn, 1) := by decide +kernel
theorem dX12_isFollower_0 : decode cX12_isFollower 0 = .ok (.iconst 0, 1) := by decide +kernel
theorem dX12_isFollower_1 : decode cX12_isFollower 1 = .ok (.istore_n 2, 1) := by decide +kernel
theorem dX12_isFollower_2 : decode cX12_isFollower 2 = .ok (.aload_n 0, 1) := by decide +kernel
theorem dX12_isFollower_3 : decode cX12_isFollower 3 = .ok (.getfield 50, 3) := by decide +kernel
theorem dX12_isFollower_6 : decode cX12_isFollower 6 = .ok (.iconst 1, 1) := by decide +kernel
theorem dX12_isFollower_7 : decode cX12_isFollower 7 = .ok (.iaload, 1) := by decide +kernel
theorem dX12_isFollower_8 : decode cX12_isFollower 8 = .ok (.iconst (-1), 1) := by decide +kernel
theorem dX12_isFollower_9 : decode cX12_isFollower 9 = .ok (.if_icmp .eq 41, 3) := by decide +kernel
theorem dX12_isFollower_12 : decode cX12_isFollower 12 = .ok (.iload_n 2, 1) := by decide +kernel
theorem dX12_isFollower_13 : decode cX12_isFollower 13 = .ok (.aload_n 0, 1) := by decide +kernel
theorem dX12_isFollower_14 : decode cX12_isFollower 14 = .ok (.getfield 47, 3) := by decide +kernel
theorem dX12_isFollower_17 : decode cX12_isFollower 17 = .ok (.aload_n 0, 1) := by decide +kernel
theorem dX12_isFollower_18 : decode cX12_isFollower 18 = .ok (.getfield 50, 3) := by decide +kernel
theorem dX12_isFollower_21 : decode cX12_isFollower 21 = .ok (.iconst 1, 1) := by decide +kernel
theorem dX12_isFollower_22 : decode cX12_isFollower 22 = .ok (.iaload, 1) := by decide +kernel
theorem dX12_isFollower_23 : decode cX12_isFollower 23 = .ok (.iaload, 1) := by decide +kernel
theorem dX12_isFollower_24 : decode cX12_isFollower 24 = .ok (.if_icmp .ge 26, 3) := by decide +kernel
theorem dX12_isFollower_27 : decode cX12_isFollower 27 = .ok (.aload_n 0, 1) := by decide +kernel
theorem dX12_isFollower_28 : decode cX12_isFollower 28 = .ok (.aload_n 0, 1) := by decide +kernel
theorem dX12_isFollower_29 : decode cX12_isFollower 29 = .ok (.getfield 50, 3) := by decide +kernel
theorem dX12_isFollower_32 : decode cX12_isFollower 32 = .ok (.iconst 1, 1) := by decide +kernel
theorem dX12_isFollower_33 : decode cX12_isFollower 33 = .ok (.iaload, 1) := by decide +kernel
theorem dX12_isFollower_34 : decode cX12_isFollower 34 = .ok (.iload_n 2, 1) := by decide +kernel
theorem dX12_isFollower_35 : decode cX12_isFollower 35 = .ok (.invokevirtual 297, 3) := by decide +kernel
theorem dX12_isFollower_38 : decode cX12_isFollower 38 = .ok (.iload_n 1, 1) := by decide +kernel
theorem dX12_isFollower_39 : decode cX12_isFollower 39 = .ok (.if_icmp .ne 5, 3) := by decide +kernel
theorem dX12_isFollower_42 : decode cX12_isFollower 42 = .ok (.iconst 1, 1) := by decide +kernel
theorem dX12_isFollower_43 : decode cX12_isFollower 43 = .ok (.ireturn, 1) := by decide +kernel
theorem dX12_isFollower_44 : decode cX12_isFollower 44 = .ok (.iinc 2 1, 3) := by decide +kernel
theorem dX12_isFollower_47 : decode cX12_isFollower 47 = .ok (.goto (-45), 3) := by decide +kernel
theorem dX12_isFollower_50 : decode cX12_isFollower 50 = .ok (.iconst 0, 1) := by decide +kernel
theorem dX12_isFollower_51 : decode cX12_isFollower 51 = .ok (.ireturn, 1) := by decide +kernel
theorem dX12_goesOn_0 : decode cX12_goesOn 0 = .ok (.aload_n 0, 1) := by decide +kernel
theorem dX12_goesOn_1 : decode cX12_goesOn 1 = .ok (.getfield 50, 3) := by decide +kernel
theorem dX12_goesOn_4 : decode cX12_goesOn 4 = .ok (.iconst 1, 1) := by decide +kernel
theorem dX12_goesOn_5 : decode cX12_goesOn 5 = .ok (.iload_n 1, 1) := by decide +kernel
theorem dX12_goesOn_6 : decode cX12_goesOn 6 = .ok (.iastore, 1) := by decide +kernel
theorem dX12_goesOn_7 : decode cX12_goesOn 7 = .ok (.aload_n 0, 1) := by decide +kernel
theorem dX12_goesOn_8 : decode cX12_goesOn 8 = .ok (.getfield 50, 3) := by decide +kernel
theorem dX12_goesOn_11 : decode cX12_goesOn 11 = .ok (.iconst 2, 1) := by decide +kernel
theorem dX12_goesOn_12 : decode cX12_goesOn 12 = .ok (.aload_n 0, 1) := by decide +kernel
theorem dX12_goesOn_13 : decode cX12_goesOn 13 = .ok (.iload_n 1, 1) := by decide +kernel
theorem dX12_goesOn_14 : decode cX12_goesOn 14 = .ok (.iconst 0, 1) := by decide +kernel
theorem dX12_goesOn_15 : decode cX12_goesOn 15 = .ok (.invokevirtual 297, 3) := by decide +kernel
theorem dX12_goesOn_18 : decode cX12_goesOn 18 = .ok (.iastore, 1) := by decide +kernel
theorem dX12_goesOn_19 : decode cX12_goesOn 19 = .ok (.aload_n 0, 1) := by decide +kernel
theorem dX12_goesOn_20 : decode cX12_goesOn 20 = .ok (.getfield 50, 3) := by decide +kernel
theorem dX12_goesOn_23 : decode cX12_goesOn 23 = .ok (.iconst 3, 1) := by decide +kernel
theorem dX12_goesOn_24 : decode cX12_goesOn 24 = .ok (.iconst 0, 1) := by decide +kernel
theorem dX12_goesOn_25 : decode cX12_goesOn 25 = .ok (.iastore, 1) := by decide +kernel
theorem dX12_goesOn_26 : decode cX12_goesOn 26 = .ok (.return_, 1) := by decide +kernel
theorem dX12_isSaid_0 : decode cX12_isSaid 0 = .ok (.aload_n 0, 1) := by decide +kernel
theorem dX12_isSaid_1 : decode cX12_isSaid 1 = .ok (.getfield 50, 3) := by decide +kernel
theorem dX12_isSaid_4 : decode cX12_isSaid 4 = .ok (.iconst 4, 1) := by decide +kernel
theorem dX12_isSaid_5 : decode cX12_isSaid 5 = .ok (.dup2, 1) := by decide +kernel
theorem dX12_isSaid_6 : decode cX12_isSaid 6 = .ok (.iaload, 1) := by decide +kernel
theorem dX12_isSaid_7 : decode cX12_isSaid 7 = .ok (.aload_n 0, 1) := by decide +kernel
theorem dX12_isSaid_8 : decode cX12_isSaid 8 = .ok (.iload_n 1, 1) := by decide +kernel
theorem dX12_isSaid_9 : decode cX12_isSaid 9 = .ok (.invokevirtual 312, 3) := by decide +kernel
theorem dX12_isSaid_12 : decode cX12_isSaid 12 = .ok (.iadd, 1) := by decide +kernel
theorem dX12_isSaid_13 : decode cX12_isSaid 13 = .ok (.iastore, 1) := by decide +kernel
theorem dX12_isSaid_14 : decode cX12_isSaid 14 = .ok (.aload_n 0, 1) := by decide +kernel
theorem dX12_isSaid_15 : decode cX12_isSaid 15 = .ok (.getfield 50, 3) := by decide +kernel
theorem dX12_isSaid_18 : decode cX12_isSaid 18 = .ok (.bipush 10, 2) := by decide +kernel
theorem dX12_isSaid_20 : decode cX12_isSaid 20 = .ok (.aload_n 0, 1) := by decide +kernel
theorem dX12_isSaid_21 : decode cX12_isSaid 21 = .ok (.iload_n 1, 1) := by decide +kernel
theorem dX12_isSaid_22 : decode cX12_isSaid 22 = .ok (.invokevirtual 282, 3) := by decide +kernel
theorem dX12_isSaid_25 : decode cX12_isSaid 25 = .ok (.iadd, 1) := by decide +kernel
theorem dX12_isSaid_26 : decode cX12_isSaid 26 = .ok (.dup2, 1) := by decide +kernel
theorem dX12_isSaid_27 : decode cX12_isSaid 27 = .ok (.iaload, 1) := by decide +kernel
theorem dX12_isSaid_28 : decode cX12_isSaid 28 = .ok (.iconst 1, 1) := by decide +kernel
theorem dX12_isSaid_29 : decode cX12_isSaid 29 = .ok (.iadd, 1) := by decide +kernel
theorem dX12_isSaid_30 : decode cX12_isSaid 30 = .ok (.iastore, 1) := by decide +kernel
theorem dX12_isSaid_31 : decode cX12_isSaid 31 = .ok (.aload_n 0, 1) := by decide +kernel
theorem dX12_isSaid_32 : decode cX12_isSaid 32 = .ok (.iload_n 1, 1) := by decide +kernel
theorem dX12_isSaid_33 : decode cX12_isSaid 33 = .ok (.invokevirtual 315, 3) := by decide +kernel
theorem dX12_isSaid_36 : decode cX12_isSaid 36 = .ok (.return_, 1) := by decide +kernel
theorem dX12_says_0 : decode cX12_says 0 = .ok (.aload_n 0, 1) := by decide +kernel
theorem dX12_says_1 : decode cX12_says 1 = .ok (.iload_n 1, 1) := by decide +kernel
theorem dX12_says_2 : decode cX12_says 2 = .ok (.invokevirtual 291, 3) := by decide +kernel
theorem dX12_says_5 : decode cX12_says 5 = .ok (.ifCond .eq 33, 3) := by decide +kernel
theorem dX12_says_8 : decode cX12_says 8 = .ok (.iload_n 1, 1) := by decide +kernel
theorem dX12_says_9 : decode cX12_says 9 = .ok (.aload_n 0, 1) := by decide +kernel
theorem dX12_says_10 : decode cX12_says 10 = .ok (.getfield 50, 3) := by decide +kernel
theorem dX12_says_13 : decode cX12_says 13 = .ok (.iconst 2, 1) := by decide +kernel
theorem dX12_says_14 : decode cX12_says 14 = .ok (.iaload, 1) := by decide +kernel
theorem dX12_says_15 : decode cX12_says 15 = .ok (.if_icmp .eq 11, 3) := by decide +kernel
theorem dX12_says_18 : decode cX12_says 18 = .ok (.aload_n 0, 1) := by decide +kernel
theorem dX12_says_19 : decode cX12_says 19 = .ok (.iload_n 1, 1) := by decide +kernel
theorem dX12_says_20 : decode cX12_says 20 = .ok (.invokevirtual 318, 3) := by decide +kernel
theorem dX12_says_23 : decode cX12_says 23 = .ok (.ifCond .eq 15, 3) := by decide +kernel
theorem dX12_says_26 : decode cX12_says 26 = .ok (.aload_n 0, 1) := by decide +kernel
theorem dX12_says_27 : decode cX12_says 27 = .ok (.aload_n 0, 1) := by decide +kernel
theorem dX12_says_28 : decode cX12_says 28 = .ok (.iload_n 1, 1) := by decide +kernel
theorem dX12_says_29 : decode cX12_says 29 = .ok (.invokevirtual 282, 3) := by decide +kernel
theorem dX12_says_32 : decode cX12_says 32 = .ok (.invokevirtual 321, 3) := by decide +kernel
theorem dX12_says_35 : decode cX12_says 35 = .ok (.ifCond .ne 5, 3) := by decide +kernel
theorem dX12_says_38 : decode cX12_says 38 = .ok (.iconst 0, 1) := by decide +kernel
theorem dX12_says_39 : decode cX12_says 39 = .ok (.ireturn, 1) := by decide +kernel
theorem dX12_says_40 : decode cX12_says 40 = .ok (.iload_n 1, 1) := by decide +kernel
theorem dX12_says_41 : decode cX12_says 41 = .ok (.aload_n 0, 1) := by decide +kernel
theorem dX12_says_42 : decode cX12_says 42 = .ok (.getfield 50, 3) := by decide +kernel
theorem dX12_says_45 : decode cX12_says 45 = .ok (.iconst 2, 1) := by decide +kernel
theorem dX12_says_46 : decode cX12_says 46 = .ok (.iaload, 1) := by decide +kernel
theorem dX12_says_47 : decode cX12_says 47 = .ok (.if_icmp .eq 36, 3) := by decide +kernel
theorem dX12_says_50 : decode cX12_says 50 = .ok (.aload_n 0, 1) := by decide +kernel
theorem dX12_says_51 : decode cX12_says 51 = .ok (.getfield 50, 3) := by decide +kernel
theorem dX12_says_54 : decode cX12_says 54 = .ok (.iconst 5, 1) := by decide +kernel
theorem dX12_says_55 : decode cX12_says 55 = .ok (.dup2, 1) := by decide +kernel
theorem dX12_says_56 : decode cX12_says 56 = .ok (.iaload, 1) := by decide +kernel
theorem dX12_says_57 : decode cX12_says 57 = .ok (.iconst 1, 1) := by decide +kernel
theorem dX12_says_58 : decode cX12_says 58 = .ok (.iadd, 1) := by decide +kernel
theorem dX12_says_59 : decode cX12_says 59 = .ok (.iastore, 1) := by decide +kernel
theorem dX12_says_60 : decode cX12_says 60 = .ok (.aload_n 0, 1) := by decide +kernel
theorem dX12_says_61 : decode cX12_says 61 = .ok (.getfield 50, 3) := by decide +kernel
theorem dX12_says_64 : decode cX12_says 64 = .ok (.bipush 6, 2) := by decide +kernel
theorem dX12_says_66 : decode cX12_says 66 = .ok (.iconst 0, 1) := by decide +kernel
theorem dX12_says_67 : decode cX12_says 67 = .ok (.aload_n 0, 1) := by decide +kernel
theorem dX12_says_68 : decode cX12_says 68 = .ok (.getfield 50, 3) := by decide +kernel
theorem dX12_says_71 : decode cX12_says 71 = .ok (.iconst 5, 1) := by decide +kernel
theorem dX12_says_72 : decode cX12_says 72 = .ok (.iaload, 1) := by decide +kernel
theorem dX12_says_73 : decode cX12_says 73 = .ok (.aload_n 0, 1) := by decide +kernel
theorem dX12_says_74 : decode cX12_says 74 = .ok (.iconst 2, 1) := by decide +kernel
theorem dX12_says_75 : decode cX12_says 75 = .ok (.invokevirtual 272, 3) := by decide +kernel
theorem dX12_says_78 : decode cX12_says 78 = .ok (.isub, 1) := by decide +kernel
theorem dX12_says_79 : decode cX12_says 79 = .ok (.invokestatic 168, 3) := by decide +kernel
theorem dX12_says_82 : decode cX12_says 82 = .ok (.iastore, 1) := by decide +kernel
theorem dX12_says_83 : decode cX12_says 83 = .ok (.aload_n 0, 1) := by decide +kernel
theorem dX12_says_84 : decode cX12_says 84 = .ok (.iload_n 1, 1) := by decide +kernel
theorem dX12_says_85 : decode cX12_says 85 = .ok (.invokevirtual 324, 3) := by decide +kernel
theorem dX12_says_88 : decode cX12_says 88 = .ok (.iconst 1, 1) := by decide +kernel
theorem dX12_says_89 : decode cX12_says 89 = .ok (.ireturn, 1) := by decide +kernel
theorem dX12_dries_0 : decode cX12_dries 0 = .ok (.aload_n 0, 1) := by decide +kernel
theorem dX12_dries_1 : decode cX12_dries 1 = .ok (.getfield 50, 3) := by decide +kernel
theorem dX12_dries_4 : decode cX12_dries 4 = .ok (.iconst 2, 1) := by decide +kernel
theorem dX12_dries_5 : decode cX12_dries 5 = .ok (.iaload, 1) := by decide +kernel
theorem dX12_dries_6 : decode cX12_dries 6 = .ok (.iconst (-1), 1) := by decide +kernel
theorem dX12_dries_7 : decode cX12_dries 7 = .ok (.if_icmp .eq 20, 3) := by decide +kernel
theorem dX12_dries_10 : decode cX12_dries 10 = .ok (.aload_n 0, 1) := by decide +kernel
theorem dX12_dries_11 : decode cX12_dries 11 = .ok (.aload_n 0, 1) := by decide +kernel
theorem dX12_dries_12 : decode cX12_dries 12 = .ok (.aload_n 0, 1) := by decide +kernel
theorem dX12_dries_13 : decode cX12_dries 13 = .ok (.getfield 50, 3) := by decide +kernel
theorem dX12_dries_16 : decode cX12_dries 16 = .ok (.iconst 2, 1) := by decide +kernel
theorem dX12_dries_17 : decode cX12_dries 17 = .ok (.iaload, 1) := by decide +kernel
theorem dX12_dries_18 : decode cX12_dries 18 = .ok (.invokevirtual 282, 3) := by decide +kernel
theorem dX12_dries_21 : decode cX12_dries 21 = .ok (.invokevirtual 321, 3) := by decide +kernel
theorem dX12_dries_24 : decode cX12_dries 24 = .ok (.ifCond .ne 5, 3) := by decide +kernel
theorem dX12_dries_27 : decode cX12_dries 27 = .ok (.iconst 0, 1) := by decide +kernel
theorem dX12_dries_28 : decode cX12_dries 28 = .ok (.ireturn, 1) := by decide +kernel
theorem dX12_dries_29 : decode cX12_dries 29 = .ok (.aload_n 0, 1) := by decide +kernel
theorem dX12_dries_30 : decode cX12_dries 30 = .ok (.getfield 50, 3) := by decide +kernel
theorem dX12_dries_33 : decode cX12_dries 33 = .ok (.bipush 20, 2) := by decide +kernel
theorem dX12_dries_35 : decode cX12_dries 35 = .ok (.aload_n 0, 1) := by decide +kernel
theorem dX12_dries_36 : decode cX12_dries 36 = .ok (.aload_n 0, 1) := by decide +kernel
theorem dX12_dries_37 : decode cX12_dries 37 = .ok (.getfield 50, 3) := by decide +kernel
theorem dX12_dries_40 : decode cX12_dries 40 = .ok (.iconst 2, 1) := by decide +kernel
theorem dX12_dries_41 : decode cX12_dries 41 = .ok (.iaload, 1) := by decide +kernel
theorem dX12_dries_42 : decode cX12_dries 42 = .ok (.invokevirtual 282, 3) := by decide +kernel
theorem dX12_dries_45 : decode cX12_dries 45 = .ok (.iadd, 1) := by decide +kernel
theorem dX12_dries_46 : decode cX12_dries 46 = .ok (.dup2, 1) := by decide +kernel
theorem dX12_dries_47 : decode cX12_dries 47 = .ok (.iaload, 1) := by decide +kernel
theorem dX12_dries_48 : decode cX12_dries 48 = .ok (.iconst 1, 1) := by decide +kernel
theorem dX12_dries_49 : decode cX12_dries 49 = .ok (.iadd, 1) := by decide +kernel
theorem dX12_dries_50 : decode cX12_dries 50 = .ok (.iastore, 1) := by decide +kernel
theorem dX12_dries_51 : decode cX12_dries 51 = .ok (.aload_n 0, 1) := by decide +kernel
theorem dX12_dries_52 : decode cX12_dries 52 = .ok (.getfield 50, 3) := by decide +kernel
theorem dX12_dries_55 : decode cX12_dries 55 = .ok (.iconst 3, 1) := by decide +kernel
theorem dX12_dries_56 : decode cX12_dries 56 = .ok (.dup2, 1) := by decide +kernel
theorem dX12_dries_57 : decode cX12_dries 57 = .ok (.iaload, 1) := by decide +kernel
theorem dX12_dries_58 : decode cX12_dries 58 = .ok (.iconst 1, 1) := by decide +kernel
theorem dX12_dries_59 : decode cX12_dries 59 = .ok (.iadd, 1) := by decide +kernel
theorem dX12_dries_60 : decode cX12_dries 60 = .ok (.iastore, 1) := by decide +kernel
theorem dX12_dries_61 : decode cX12_dries 61 = .ok (.iconst 1, 1) := by decide +kernel
theorem dX12_dries_62 : decode cX12_dries 62 = .ok (.ireturn, 1) := by decide +kernel
theorem dX12_isPrompted_0 : decode cX12_isPrompted 0 = .ok (.aload_n 0, 1) := by decide +kernel
theorem dX12_isPrompted_1 : decode cX12_isPrompted 1 = .ok (.getfield 50, 3) := by decide +kernel
theorem dX12_isPrompted_4 : decode cX12_isPrompted 4 = .ok (.iconst 3, 1) := by decide +kernel
theorem dX12_isPrompted_5 : decode cX12_isPrompted 5 = .ok (.iaload, 1) := by decide +kernel
theorem dX12_isPrompted_6 : decode cX12_isPrompted 6 = .ok (.ifCond .eq 30, 3) := by decide +kernel
theorem dX12_isPrompted_9 : decode cX12_isPrompted 9 = .ok (.aload_n 0, 1) := by decide +kernel
theorem dX12_isPrompted_10 : decode cX12_isPrompted 10 = .ok (.getfield 50, 3) := by decide +kernel
theorem dX12_isPrompted_13 : decode cX12_isPrompted 13 = .ok (.iconst 2, 1) := by decide +kernel
theorem dX12_isPrompted_14 : decode cX12_isPrompted 14 = .ok (.iaload, 1) := by decide +kernel
theorem dX12_isPrompted_15 : decode cX12_isPrompted 15 = .ok (.iconst (-1), 1) := by decide +kernel
theorem dX12_isPrompted_16 : decode cX12_isPrompted 16 = .ok (.if_icmp .eq 20, 3) := by decide +kernel
theorem dX12_isPrompted_19 : decode cX12_isPrompted 19 = .ok (.aload_n 0, 1) := by decide +kernel
theorem dX12_isPrompted_20 : decode cX12_isPrompted 20 = .ok (.aload_n 0, 1) := by decide +kernel
theorem dX12_isPrompted_21 : decode cX12_isPrompted 21 = .ok (.aload_n 0, 1) := by decide +kernel
theorem dX12_isPrompted_22 : decode cX12_isPrompted 22 = .ok (.getfield 50, 3) := by decide +kernel
theorem dX12_isPrompted_25 : decode cX12_isPrompted 25 = .ok (.iconst 2, 1) := by decide +kernel
theorem dX12_isPrompted_26 : decode cX12_isPrompted 26 = .ok (.iaload, 1) := by decide +kernel
theorem dX12_isPrompted_27 : decode cX12_isPrompted 27 = .ok (.invokevirtual 282, 3) := by decide +kernel
theorem dX12_isPrompted_30 : decode cX12_isPrompted 30 = .ok (.invokevirtual 321, 3) := by decide +kernel
theorem dX12_isPrompted_33 : decode cX12_isPrompted 33 = .ok (.ifCond .ne 5, 3) := by decide +kernel
theorem dX12_isPrompted_36 : decode cX12_isPrompted 36 = .ok (.iconst 0, 1) := by decide +kernel
theorem dX12_isPrompted_37 : decode cX12_isPrompted 37 = .ok (.ireturn, 1) := by decide +kernel
theorem dX12_isPrompted_38 : decode cX12_isPrompted 38 = .ok (.aload_n 0, 1) := by decide +kernel
theorem dX12_isPrompted_39 : decode cX12_isPrompted 39 = .ok (.getfield 50, 3) := by decide +kernel
theorem dX12_isPrompted_42 : decode cX12_isPrompted 42 = .ok (.bipush 7, 2) := by decide +kernel
theorem dX12_isPrompted_44 : decode cX12_isPrompted 44 = .ok (.dup2, 1) := by decide +kernel
theorem dX12_isPrompted_45 : decode cX12_isPrompted 45 = .ok (.iaload, 1) := by decide +kernel
theorem dX12_isPrompted_46 : decode cX12_isPrompted 46 = .ok (.iconst 1, 1) := by decide +kernel
theorem dX12_isPrompted_47 : decode cX12_isPrompted 47 = .ok (.iadd, 1) := by decide +kernel
theorem dX12_isPrompted_48 : decode cX12_isPrompted 48 = .ok (.iastore, 1) := by decide +kernel
theorem dX12_isPrompted_49 : decode cX12_isPrompted 49 = .ok (.aload_n 0, 1) := by decide +kernel
theorem dX12_isPrompted_50 : decode cX12_isPrompted 50 = .ok (.aload_n 0, 1) := by decide +kernel
theorem dX12_isPrompted_51 : decode cX12_isPrompted 51 = .ok (.getfield 50, 3) := by decide +kernel
theorem dX12_isPrompted_54 : decode cX12_isPrompted 54 = .ok (.iconst 2, 1) := by decide +kernel
theorem dX12_isPrompted_55 : decode cX12_isPrompted 55 = .ok (.iaload, 1) := by decide +kernel
theorem dX12_isPrompted_56 : decode cX12_isPrompted 56 = .ok (.invokevirtual 324, 3) := by decide +kernel
theorem dX12_isPrompted_59 : decode cX12_isPrompted 59 = .ok (.iconst 1, 1) := by decide +kernel
theorem dX12_isPrompted_60 : decode cX12_isPrompted 60 = .ok (.ireturn, 1) := by decide +kernel
theorem dX12_isCut_0 : decode cX12_isCut 0 = .ok (.aload_n 0, 1) := by decide +kernel
theorem dX12_isCut_1 : decode cX12_isCut 1 = .ok (.getfield 50, 3) := by decide +kernel
theorem dX12_isCut_4 : decode cX12_isCut 4 = .ok (.iconst 2, 1) := by decide +kernel
theorem dX12_isCut_5 : decode cX12_isCut 5 = .ok (.iaload, 1) := by decide +kernel
theorem dX12_isCut_6 : decode cX12_isCut 6 = .ok (.iconst (-1), 1) := by decide +kernel
theorem dX12_isCut_7 : decode cX12_isCut 7 = .ok (.if_icmp .eq 34, 3) := by decide +kernel
theorem dX12_isCut_10 : decode cX12_isCut 10 = .ok (.aload_n 0, 1) := by decide +kernel
theorem dX12_isCut_11 : decode cX12_isCut 11 = .ok (.getfield 50, 3) := by decide +kernel
theorem dX12_isCut_14 : decode cX12_isCut 14 = .ok (.iconst 3, 1) := by decide +kernel
theorem dX12_isCut_15 : decode cX12_isCut 15 = .ok (.iaload, 1) := by decide +kernel
theorem dX12_isCut_16 : decode cX12_isCut 16 = .ok (.aload_n 0, 1) := by decide +kernel
theorem dX12_isCut_17 : decode cX12_isCut 17 = .ok (.iconst 3, 1) := by decide +kernel
theorem dX12_isCut_18 : decode cX12_isCut 18 = .ok (.invokevirtual 272, 3) := by decide +kernel
theorem dX12_isCut_21 : decode cX12_isCut 21 = .ok (.if_icmp .ge 22, 3) := by decide +kernel
theorem dX12_isCut_24 : decode cX12_isCut 24 = .ok (.aload_n 0, 1) := by decide +kernel
theorem dX12_isCut_25 : decode cX12_isCut 25 = .ok (.aload_n 0, 1) := by decide +kernel
theorem dX12_isCut_26 : decode cX12_isCut 26 = .ok (.aload_n 0, 1) := by decide +kernel
theorem dX12_isCut_27 : decode cX12_isCut 27 = .ok (.getfield 50, 3) := by decide +kernel
theorem dX12_isCut_30 : decode cX12_isCut 30 = .ok (.iconst 2, 1) := by decide +kernel
theorem dX12_isCut_31 : decode cX12_isCut 31 = .ok (.iaload, 1) := by decide +kernel
theorem dX12_isCut_32 : decode cX12_isCut 32 = .ok (.invokevirtual 282, 3) := by decide +kernel
theorem dX12_isCut_35 : decode cX12_isCut 35 = .ok (.invokevirtual 321, 3) := by decide +kernel
theorem dX12_isCut_38 : decode cX12_isCut 38 = .ok (.ifCond .eq 5, 3) := by decide +kernel
theorem dX12_isCut_41 : decode cX12_isCut 41 = .ok (.iconst 0, 1) := by decide +kernel
theorem dX12_isCut_42 : decode cX12_isCut 42 = .ok (.ireturn, 1) := by decide +kernel
theorem dX12_isCut_43 : decode cX12_isCut 43 = .ok (.aload_n 0, 1) := by decide +kernel
theorem dX12_isCut_44 : decode cX12_isCut 44 = .ok (.getfield 50, 3) := by decide +kernel
theorem dX12_isCut_47 : decode cX12_isCut 47 = .ok (.bipush 8, 2) := by decide +kernel
theorem dX12_isCut_49 : decode cX12_isCut 49 = .ok (.dup2, 1) := by decide +kernel
theorem dX12_isCut_50 : decode cX12_isCut 50 = .ok (.iaload, 1) := by decide +kernel
theorem dX12_isCut_51 : decode cX12_isCut 51 = .ok (.iconst 1, 1) := by decide +kernel
theorem dX12_isCut_52 : decode cX12_isCut 52 = .ok (.iadd, 1) := by decide +kernel
theorem dX12_isCut_53 : decode cX12_isCut 53 = .ok (.iastore, 1) := by decide +kernel
theorem dX12_isCut_54 : decode cX12_isCut 54 = .ok (.aload_n 0, 1) := by decide +kernel
theorem dX12_isCut_55 : decode cX12_isCut 55 = .ok (.aload_n 0, 1) := by decide +kernel
theorem dX12_isCut_56 : decode cX12_isCut 56 = .ok (.getfield 50, 3) := by decide +kernel
theorem dX12_isCut_59 : decode cX12_isCut 59 = .ok (.iconst 2, 1) := by decide +kernel
theorem dX12_isCut_60 : decode cX12_isCut 60 = .ok (.iaload, 1) := by decide +kernel
theorem dX12_isCut_61 : decode cX12_isCut 61 = .ok (.invokevirtual 315, 3) := by decide +kernel
theorem dX12_isCut_64 : decode cX12_isCut 64 = .ok (.iconst 1, 1) := by decide +kernel
theorem dX12_isCut_65 : decode cX12_isCut 65 = .ok (.ireturn, 1) := by decide +kernel
theorem dX12_goes_0 : decode cX12_goes 0 = .ok (.aload_n 0, 1) := by decide +kernel
theorem dX12_goes_1 : decode cX12_goes 1 = .ok (.iload_n 1, 1) := by decide +kernel
theorem dX12_goes_2 : decode cX12_goes 2 = .ok (.invokevirtual 321, 3) := by decide +kernel
theorem dX12_goes_5 : decode cX12_goes 5 = .ok (.iload_n 2, 1) := by decide +kernel
theorem dX12_goes_6 : decode cX12_goes 6 = .ok (.if_icmp .eq 5, 3) := by decide +kernel
theorem dX12_goes_9 : decode cX12_goes 9 = .ok (.iconst 0, 1) := by decide +kernel
theorem dX12_goes_10 : decode cX12_goes 10 = .ok (.ireturn, 1) := by decide +kernel
theorem dX12_goes_11 : decode cX12_goes 11 = .ok (.aload_n 0, 1) := by decide +kernel
theorem dX12_goes_12 : decode cX12_goes 12 = .ok (.getfield 50, 3) := by decide +kernel
theorem dX12_goes_15 : decode cX12_goes 15 = .ok (.bipush 9, 2) := by decide +kernel
theorem dX12_goes_17 : decode cX12_goes 17 = .ok (.dup2, 1) := by decide +kernel
theorem dX12_goes_18 : decode cX12_goes 18 = .ok (.iaload, 1) := by decide +kernel
theorem dX12_goes_19 : decode cX12_goes 19 = .ok (.iconst 1, 1) := by decide +kernel
theorem dX12_goes_20 : decode cX12_goes 20 = .ok (.iload_n 1, 1) := by decide +kernel
theorem dX12_goes_21 : decode cX12_goes 21 = .ok (.ishl, 1) := by decide +kernel
theorem dX12_goes_22 : decode cX12_goes 22 = .ok (.ixor, 1) := by decide +kernel
theorem dX12_goes_23 : decode cX12_goes 23 = .ok (.iastore, 1) := by decide +kernel
theorem dX12_goes_24 : decode cX12_goes 24 = .ok (.iconst 1, 1) := by decide +kernel
theorem dX12_goes_25 : decode cX12_goes 25 = .ok (.ireturn, 1) := by decide +kernel
theorem dX12_waits_0 : decode cX12_waits 0 = .ok (.aload_n 0, 1) := by decide +kernel
theorem dX12_waits_1 : decode cX12_waits 1 = .ok (.getfield 50, 3) := by decide +kernel
theorem dX12_waits_4 : decode cX12_waits 4 = .ok (.iconst 3, 1) := by decide +kernel
theorem dX12_waits_5 : decode cX12_waits 5 = .ok (.dup2, 1) := by decide +kernel
theorem dX12_waits_6 : decode cX12_waits 6 = .ok (.iaload, 1) := by decide +kernel
theorem dX12_waits_7 : decode cX12_waits 7 = .ok (.iconst 1, 1) := by decide +kernel
theorem dX12_waits_8 : decode cX12_waits 8 = .ok (.iadd, 1) := by decide +kernel
theorem dX12_waits_9 : decode cX12_waits 9 = .ok (.iastore, 1) := by decide +kernel
theorem dX12_waits_10 : decode cX12_waits 10 = .ok (.iconst 1, 1) := by decide +kernel
theorem dX12_waits_11 : decode cX12_waits 11 = .ok (.ireturn, 1) := by decide +kernel
theorem dX12_does_0 : decode cX12_does 0 = .ok (.iload_n 1, 1) := by decide +kernel
theorem dX12_does_1 : decode cX12_does 1 = .ok (.iconst 1, 1) := by decide +kernel
theorem dX12_does_2 : decode cX12_does 2 = .ok (.if_icmp .eq 8, 3) := by decide +kernel
theorem dX12_does_5 : decode cX12_does 5 = .ok (.iload_n 1, 1) := by decide +kernel
theorem dX12_does_6 : decode cX12_does 6 = .ok (.iconst 2, 1) := by decide +kernel
theorem dX12_does_7 : decode cX12_does 7 = .ok (.if_icmp .ne 19, 3) := by decide +kernel
theorem dX12_does_10 : decode cX12_does 10 = .ok (.aload_n 0, 1) := by decide +kernel
theorem dX12_does_11 : decode cX12_does 11 = .ok (.iload_n 2, 1) := by decide +kernel
theorem dX12_does_12 : decode cX12_does 12 = .ok (.iload_n 1, 1) := by decide +kernel
theorem dX12_does_13 : decode cX12_does 13 = .ok (.iconst 1, 1) := by decide +kernel
theorem dX12_does_14 : decode cX12_does 14 = .ok (.if_icmp .ne 7, 3) := by decide +kernel
theorem dX12_does_17 : decode cX12_does 17 = .ok (.iconst 1, 1) := by decide +kernel
theorem dX12_does_18 : decode cX12_does 18 = .ok (.goto 4, 3) := by decide +kernel
theorem dX12_does_21 : decode cX12_does 21 = .ok (.iconst 0, 1) := by decide +kernel
theorem dX12_does_22 : decode cX12_does 22 = .ok (.invokevirtual 327, 3) := by decide +kernel
theorem dX12_does_25 : decode cX12_does 25 = .ok (.ireturn, 1) := by decide +kernel
theorem dX12_does_26 : decode cX12_does 26 = .ok (.iload_n 1, 1) := by decide +kernel
theorem dX12_does_27 : decode cX12_does 27 = .ok (.ifCond .ne 11, 3) := by decide +kernel
theorem dX12_does_30 : decode cX12_does 30 = .ok (.aload_n 0, 1) := by decide +kernel
theorem dX12_does_31 : decode cX12_does 31 = .ok (.iload_n 2, 1) := by decide +kernel
theorem dX12_does_32 : decode cX12_does 32 = .ok (.invokevirtual 331, 3) := by decide +kernel
theorem dX12_does_35 : decode cX12_does 35 = .ok (.goto 43, 3) := by decide +kernel
theorem dX12_does_38 : decode cX12_does 38 = .ok (.iload_n 1, 1) := by decide +kernel
theorem dX12_does_39 : decode cX12_does 39 = .ok (.iconst 3, 1) := by decide +kernel
theorem dX12_does_40 : decode cX12_does 40 = .ok (.if_icmp .ne 10, 3) := by decide +kernel
theorem dX12_does_43 : decode cX12_does 43 = .ok (.aload_n 0, 1) := by decide +kernel
theorem dX12_does_44 : decode cX12_does 44 = .ok (.invokevirtual 334, 3) := by decide +kernel
theorem dX12_does_47 : decode cX12_does 47 = .ok (.goto 31, 3) := by decide +kernel
theorem dX12_does_50 : decode cX12_does 50 = .ok (.iload_n 1, 1) := by decide +kernel
theorem dX12_does_51 : decode cX12_does 51 = .ok (.iconst 4, 1) := by decide +kernel
theorem dX12_does_52 : decode cX12_does 52 = .ok (.if_icmp .ne 10, 3) := by decide +kernel
theorem dX12_does_55 : decode cX12_does 55 = .ok (.aload_n 0, 1) := by decide +kernel
theorem dX12_does_56 : decode cX12_does 56 = .ok (.invokevirtual 337, 3) := by decide +kernel
theorem dX12_does_59 : decode cX12_does 59 = .ok (.goto 19, 3) := by decide +kernel
theorem dX12_does_62 : decode cX12_does 62 = .ok (.iload_n 1, 1) := by decide +kernel
theorem dX12_does_63 : decode cX12_does 63 = .ok (.iconst 5, 1) := by decide +kernel
theorem dX12_does_64 : decode cX12_does 64 = .ok (.if_icmp .ne 10, 3) := by decide +kernel
theorem dX12_does_67 : decode cX12_does 67 = .ok (.aload_n 0, 1) := by decide +kernel
theorem dX12_does_68 : decode cX12_does 68 = .ok (.invokevirtual 340, 3) := by decide +kernel
theorem dX12_does_71 : decode cX12_does 71 = .ok (.goto 7, 3) := by decide +kernel
theorem dX12_does_74 : decode cX12_does 74 = .ok (.aload_n 0, 1) := by decide +kernel
theorem dX12_does_75 : decode cX12_does 75 = .ok (.invokevirtual 343, 3) := by decide +kernel
theorem dX12_does_78 : decode cX12_does 78 = .ok (.istore_n 3, 1) := by decide +kernel
theorem dX12_does_79 : decode cX12_does 79 = .ok (.aload_n 0, 1) := by decide +kernel
theorem dX12_does_80 : decode cX12_does 80 = .ok (.getfield 50, 3) := by decide +kernel
theorem dX12_does_83 : decode cX12_does 83 = .ok (.iconst 0, 1) := by decide +kernel
theorem dX12_does_84 : decode cX12_does 84 = .ok (.dup2, 1) := by decide +kernel
theorem dX12_does_85 : decode cX12_does 85 = .ok (.iaload, 1) := by decide +kernel
theorem dX12_does_86 : decode cX12_does 86 = .ok (.iload_n 3, 1) := by decide +kernel
theorem dX12_does_87 : decode cX12_does 87 = .ok (.ifCond .eq 7, 3) := by decide +kernel
theorem dX12_does_90 : decode cX12_does 90 = .ok (.iconst 1, 1) := by decide +kernel
theorem dX12_does_91 : decode cX12_does 91 = .ok (.goto 4, 3) := by decide +kernel
theorem dX12_does_94 : decode cX12_does 94 = .ok (.iconst 0, 1) := by decide +kernel
theorem dX12_does_95 : decode cX12_does 95 = .ok (.iadd, 1) := by decide +kernel
theorem dX12_does_96 : decode cX12_does 96 = .ok (.iastore, 1) := by decide +kernel
theorem dX12_does_97 : decode cX12_does 97 = .ok (.iload_n 3, 1) := by decide +kernel
theorem dX12_does_98 : decode cX12_does 98 = .ok (.ireturn, 1) := by decide +kernel
theorem dX12_play_0 : decode cX12_play 0 = .ok (.aload_n 0, 1) := by decide +kernel
theorem dX12_play_1 : decode cX12_play 1 = .ok (.invokevirtual 346, 3) := by decide +kernel
theorem dX12_play_4 : decode cX12_play 4 = .ok (.iconst 0, 1) := by decide +kernel
theorem dX12_play_5 : decode cX12_play 5 = .ok (.istore_n 2, 1) := by decide +kernel
theorem dX12_play_6 : decode cX12_play 6 = .ok (.iload_n 2, 1) := by decide +kernel
theorem dX12_play_7 : decode cX12_play 7 = .ok (.iload_n 1, 1) := by decide +kernel
theorem dX12_play_8 : decode cX12_play 8 = .ok (.if_icmp .ge 28, 3) := by decide +kernel
theorem dX12_play_11 : decode cX12_play 11 = .ok (.aload_n 0, 1) := by decide +kernel
theorem dX12_play_12 : decode cX12_play 12 = .ok (.aload_n 0, 1) := by decide +kernel
theorem dX12_play_13 : decode cX12_play 13 = .ok (.iload_n 2, 1) := by decide +kernel
theorem dX12_play_14 : decode cX12_play 14 = .ok (.iconst 0, 1) := by decide +kernel
theorem dX12_play_15 : decode cX12_play 15 = .ok (.invokevirtual 309, 3) := by decide +kernel
theorem dX12_play_18 : decode cX12_play 18 = .ok (.aload_n 0, 1) := by decide +kernel
theorem dX12_play_19 : decode cX12_play 19 = .ok (.iload_n 2, 1) := by decide +kernel
theorem dX12_play_20 : decode cX12_play 20 = .ok (.iconst 1, 1) := by decide +kernel
theorem dX12_play_21 : decode cX12_play 21 = .ok (.invokevirtual 309, 3) := by decide +kernel
theorem dX12_play_24 : decode cX12_play 24 = .ok (.invokevirtual 349, 3) := by decide +kernel
theorem dX12_play_27 : decode cX12_play 27 = .ok (.ifCond .eq 9, 3) := by decide +kernel
theorem dX12_play_30 : decode cX12_play 30 = .ok (.iinc 2 1, 3) := by decide +kernel
theorem dX12_play_33 : decode cX12_play 33 = .ok (.goto (-27), 3) := by decide +kernel
theorem dX12_play_36 : decode cX12_play 36 = .ok (.iload_n 2, 1) := by decide +kernel
theorem dX12_play_37 : decode cX12_play 37 = .ok (.ireturn, 1) := by decide +kernel
theorem dX12_layAll_0 : decode cX12_layAll 0 = .ok (.aload_n 0, 1) := by decide +kernel
theorem dX12_layAll_1 : decode cX12_layAll 1 = .ok (.iload_n 2, 1) := by decide +kernel
theorem dX12_layAll_2 : decode cX12_layAll 2 = .ok (.invokevirtual 303, 3) := by decide +kernel
theorem dX12_layAll_5 : decode cX12_layAll 5 = .ok (.ifCond .eq 15, 3) := by decide +kernel
theorem dX12_layAll_8 : decode cX12_layAll 8 = .ok (.aload_n 0, 1) := by decide +kernel
theorem dX12_layAll_9 : decode cX12_layAll 9 = .ok (.iload_n 1, 1) := by decide +kernel
theorem dX12_layAll_10 : decode cX12_layAll 10 = .ok (.invokevirtual 285, 3) := by decide +kernel
theorem dX12_layAll_13 : decode cX12_layAll 13 = .ok (.ifCond .eq 7, 3) := by decide +kernel
theorem dX12_layAll_16 : decode cX12_layAll 16 = .ok (.iconst 1, 1) := by decide +kernel
theorem dX12_layAll_17 : decode cX12_layAll 17 = .ok (.goto 4, 3) := by decide +kernel
theorem dX12_layAll_20 : decode cX12_layAll 20 = .ok (.iconst 0, 1) := by decide +kernel
theorem dX12_layAll_21 : decode cX12_layAll 21 = .ok (.ireturn, 1) := by decide +kernel
theorem dX12_till_0 : decode cX12_till 0 = .ok (.aload_n 0, 1) := by decide +kernel
theorem dX12_till_1 : decode cX12_till 1 = .ok (.iconst 0, 1) := by decide +kernel
theorem dX12_till_2 : decode cX12_till 2 = .ok (.putfield 91, 3) := by decide +kernel
theorem dX12_till_5 : decode cX12_till 5 = .ok (.aload_n 0, 1) := by decide +kernel
theorem dX12_till_6 : decode cX12_till 6 = .ok (.iload_n 1, 1) := by decide +kernel
theorem dX12_till_7 : decode cX12_till 7 = .ok (.iload_n 2, 1) := by decide +kernel
theorem dX12_till_8 : decode cX12_till 8 = .ok (.invokevirtual 352, 3) := by decide +kernel
theorem dX12_till_11 : decode cX12_till 11 = .ok (.ifCond .eq 14, 3) := by decide +kernel
theorem dX12_till_14 : decode cX12_till 14 = .ok (.aload_n 0, 1) := by decide +kernel
theorem dX12_till_15 : decode cX12_till 15 = .ok (.aload_n 0, 1) := by decide +kernel
theorem dX12_till_16 : decode cX12_till 16 = .ok (.invokevirtual 306, 3) := by decide +kernel
theorem dX12_till_19 : decode cX12_till 19 = .ok (.invokevirtual 355, 3) := by decide +kernel
theorem dX12_till_22 : decode cX12_till 22 = .ok (.goto 4, 3) := by decide +kernel
theorem dX12_till_25 : decode cX12_till 25 = .ok (.iconst (-1), 1) := by decide +kernel
theorem dX12_till_26 : decode cX12_till 26 = .ok (.ireturn, 1) := by decide +kernel
theorem dX12_ofState_0 : decode cX12_ofState 0 = .ok (.iload_n 1, 1) := by decide +kernel
theorem dX12_ofState_1 : decode cX12_ofState 1 = .ok (.iconst 0, 1) := by decide +kernel
theorem dX12_ofState_2 : decode cX12_ofState 2 = .ok (.bipush 9, 2) := by decide +kernel
theorem dX12_ofState_4 : decode cX12_ofState 4 = .ok (.invokestatic 107, 3) := by decide +kernel
theorem dX12_ofState_7 : decode cX12_ofState 7 = .ok (.ifCond .ne 24, 3) := by decide +kernel
theorem dX12_ofState_10 : decode cX12_ofState 10 = .ok (.iload_n 1, 1) := by decide +kernel
theorem dX12_ofState_11 : decode cX12_ofState 11 = .ok (.bipush 10, 2) := by decide +kernel
theorem dX12_ofState_13 : decode cX12_ofState 13 = .ok (.bipush 29, 2) := by decide +kernel
theorem dX12_ofState_15 : decode cX12_ofState 15 = .ok (.invokestatic 107, 3) := by decide +kernel
theorem dX12_ofState_18 : decode cX12_ofState 18 = .ok (.ifCond .eq 22, 3) := by decide +kernel
theorem dX12_ofState_21 : decode cX12_ofState 21 = .ok (.iload_n 1, 1) := by decide +kernel
theorem dX12_ofState_22 : decode cX12_ofState 22 = .ok (.bipush 10, 2) := by decide +kernel
theorem dX12_ofState_24 : decode cX12_ofState 24 = .ok (.irem, 1) := by decide +kernel
theorem dX12_ofState_25 : decode cX12_ofState 25 = .ok (.invokestatic 288, 3) := by decide +kernel
theorem dX12_ofState_28 : decode cX12_ofState 28 = .ok (.ifCond .eq 12, 3) := by decide +kernel
theorem dX12_ofState_31 : decode cX12_ofState 31 = .ok (.aload_n 0, 1) := by decide +kernel
theorem dX12_ofState_32 : decode cX12_ofState 32 = .ok (.getfield 50, 3) := by decide +kernel
theorem dX12_ofState_35 : decode cX12_ofState 35 = .ok (.iload_n 1, 1) := by decide +kernel
theorem dX12_ofState_36 : decode cX12_ofState 36 = .ok (.iaload, 1) := by decide +kernel
theorem dX12_ofState_37 : decode cX12_ofState 37 = .ok (.goto 5, 3) := by decide +kernel
theorem dX12_ofState_40 : decode cX12_ofState 40 = .ok (.bipush (-2), 2) := by decide +kernel
theorem dX12_ofState_42 : decode cX12_ofState 42 = .ok (.ireturn, 1) := by decide +kernel
theorem dX12_state_0 : decode cX12_state 0 = .ok (.aload_n 0, 1) := by decide +kernel
theorem dX12_state_1 : decode cX12_state 1 = .ok (.iconst 0, 1) := by decide +kernel
theorem dX12_state_2 : decode cX12_state 2 = .ok (.putfield 91, 3) := by decide +kernel
theorem dX12_state_5 : decode cX12_state 5 = .ok (.aload_n 0, 1) := by decide +kernel
theorem dX12_state_6 : decode cX12_state 6 = .ok (.iload_n 1, 1) := by decide +kernel
theorem dX12_state_7 : decode cX12_state 7 = .ok (.iload_n 2, 1) := by decide +kernel
theorem dX12_state_8 : decode cX12_state 8 = .ok (.invokevirtual 352, 3) := by decide +kernel
theorem dX12_state_11 : decode cX12_state 11 = .ok (.ifCond .eq 33, 3) := by decide +kernel
theorem dX12_state_14 : decode cX12_state 14 = .ok (.iload_n 3, 1) := by decide +kernel
theorem dX12_state_15 : decode cX12_state 15 = .ok (.iconst 0, 1) := by decide +kernel
theorem dX12_state_16 : decode cX12_state 16 = .ok (.aload_n 0, 1) := by decide +kernel
theorem dX12_state_17 : decode cX12_state 17 = .ok (.invokevirtual 306, 3) := by decide +kernel
theorem dX12_state_20 : decode cX12_state 20 = .ok (.invokestatic 107, 3) := by decide +kernel
theorem dX12_state_23 : decode cX12_state 23 = .ok (.ifCond .eq 21, 3) := by decide +kernel
theorem dX12_state_26 : decode cX12_state 26 = .ok (.aload_n 0, 1) := by decide +kernel
theorem dX12_state_27 : decode cX12_state 27 = .ok (.iload_n 3, 1) := by decide +kernel
theorem dX12_state_28 : decode cX12_state 28 = .ok (.invokevirtual 355, 3) := by decide +kernel
theorem dX12_state_31 : decode cX12_state 31 = .ok (.iload_n 3, 1) := by decide +kernel
theorem dX12_state_32 : decode cX12_state 32 = .ok (.if_icmp .ne 12, 3) := by decide +kernel
theorem dX12_state_35 : decode cX12_state 35 = .ok (.aload_n 0, 1) := by decide +kernel
theorem dX12_state_36 : decode cX12_state 36 = .ok (.iload 4, 2) := by decide +kernel
theorem dX12_state_38 : decode cX12_state 38 = .ok (.invokevirtual 358, 3) := by decide +kernel
theorem dX12_state_41 : decode cX12_state 41 = .ok (.goto 5, 3) := by decide +kernel
theorem dX12_state_44 : decode cX12_state 44 = .ok (.bipush (-2), 2) := by decide +kernel
theorem dX12_state_46 : decode cX12_state 46 = .ok (.ireturn, 1) := by decide +kernel
theorem dX12_findFewest_0 : decode cX12_findFewest 0 = .ok (.iconst 0, 1) := by decide +kernel
theorem dX12_findFewest_1 : decode cX12_findFewest 1 = .ok (.istore_n 3, 1) := by decide +kernel
theorem dX12_findFewest_2 : decode cX12_findFewest 2 = .ok (.iload_n 3, 1) := by decide +kernel
theorem dX12_findFewest_3 : decode cX12_findFewest 3 = .ok (.iload_n 2, 1) := by decide +kernel
theorem dX12_findFewest_4 : decode cX12_findFewest 4 = .ok (.if_icmp .ge 144, 3) := by decide +kernel
theorem dX12_findFewest_7 : decode cX12_findFewest 7 = .ok (.iconst 0, 1) := by decide +kernel
theorem dX12_findFewest_8 : decode cX12_findFewest 8 = .ok (.istore 4, 2) := by decide +kernel
theorem dX12_findFewest_10 : decode cX12_findFewest 10 = .ok (.iload 4, 2) := by decide +kernel
theorem dX12_findFewest_12 : decode cX12_findFewest 12 = .ok (.aload_n 0, 1) := by decide +kernel
theorem dX12_findFewest_13 : decode cX12_findFewest 13 = .ok (.getfield 276, 3) := by decide +kernel
theorem dX12_findFewest_16 : decode cX12_findFewest 16 = .ok (.if_icmp .ge 126, 3) := by decide +kernel
theorem dX12_findFewest_19 : decode cX12_findFewest 19 = .ok (.iload_n 3, 1) := by decide +kernel
theorem dX12_findFewest_20 : decode cX12_findFewest 20 = .ok (.ifCond .eq 13, 3) := by decide +kernel
theorem dX12_findFewest_23 : decode cX12_findFewest 23 = .ok (.aload_n 0, 1) := by decide +kernel
theorem dX12_findFewest_24 : decode cX12_findFewest 24 = .ok (.getfield 47, 3) := by decide +kernel
theorem dX12_findFewest_27 : decode cX12_findFewest 27 = .ok (.iload 4, 2) := by decide +kernel
theorem dX12_findFewest_29 : decode cX12_findFewest 29 = .ok (.iaload, 1) := by decide +kernel
theorem dX12_findFewest_30 : decode cX12_findFewest 30 = .ok (.ifCond .ne 7, 3) := by decide +kernel
theorem dX12_findFewest_33 : decode cX12_findFewest 33 = .ok (.iconst 0, 1) := by decide +kernel
theorem dX12_findFewest_34 : decode cX12_findFewest 34 = .ok (.goto 6, 3) := by decide +kernel
theorem dX12_findFewest_37 : decode cX12_findFewest 37 = .ok (.ldc_w 361, 3) := by decide +kernel
theorem dX12_findFewest_40 : decode cX12_findFewest 40 = .ok (.istore 5, 2) := by decide +kernel
theorem dX12_findFewest_42 : decode cX12_findFewest 42 = .ok (.iconst 0, 1) := by decide +kernel
theorem dX12_findFewest_43 : decode cX12_findFewest 43 = .ok (.istore 6, 2) := by decide +kernel
theorem dX12_findFewest_45 : decode cX12_findFewest 45 = .ok (.iload 6, 2) := by decide +kernel
theorem dX12_findFewest_47 : decode cX12_findFewest 47 = .ok (.aload_n 0, 1) := by decide +kernel
theorem dX12_findFewest_48 : decode cX12_findFewest 48 = .ok (.getfield 47, 3) := by decide +kernel
theorem dX12_findFewest_51 : decode cX12_findFewest 51 = .ok (.iload 4, 2) := by decide +kernel
theorem dX12_findFewest_53 : decode cX12_findFewest 53 = .ok (.iaload, 1) := by decide +kernel
theorem dX12_findFewest_54 : decode cX12_findFewest 54 = .ok (.if_icmp .ge 46, 3) := by decide +kernel
theorem dX12_findFewest_57 : decode cX12_findFewest 57 = .ok (.iload_n 3, 1) := by decide +kernel
theorem dX12_findFewest_58 : decode cX12_findFewest 58 = .ok (.ifCond .le 42, 3) := by decide +kernel
theorem dX12_findFewest_61 : decode cX12_findFewest 61 = .ok (.iload 5, 2) := by decide +kernel
theorem dX12_findFewest_63 : decode cX12_findFewest 63 = .ok (.iload 6, 2) := by decide +kernel
theorem dX12_findFewest_65 : decode cX12_findFewest 65 = .ok (.invokestatic 362, 3) := by decide +kernel
theorem dX12_findFewest_68 : decode cX12_findFewest 68 = .ok (.aload_n 0, 1) := by decide +kernel
theorem dX12_findFewest_69 : decode cX12_findFewest 69 = .ok (.getfield 53, 3) := by decide +kernel
theorem dX12_findFewest_72 : decode cX12_findFewest 72 = .ok (.bipush 20, 2) := by decide +kernel
theorem dX12_findFewest_74 : decode cX12_findFewest 74 = .ok (.iload_n 3, 1) := by decide +kernel
theorem dX12_findFewest_75 : decode cX12_findFewest 75 = .ok (.iconst 1, 1) := by decide +kernel
theorem dX12_findFewest_76 : decode cX12_findFewest 76 = .ok (.isub, 1) := by decide +kernel
theorem dX12_findFewest_77 : decode cX12_findFewest 77 = .ok (.imul, 1) := by decide +kernel
theorem dX12_findFewest_78 : decode cX12_findFewest 78 = .ok (.aload_n 0, 1) := by decide +kernel
theorem dX12_findFewest_79 : decode cX12_findFewest 79 = .ok (.iload 4, 2) := by decide +kernel
theorem dX12_findFewest_81 : decode cX12_findFewest 81 = .ok (.iload 6, 2) := by decide +kernel
theorem dX12_findFewest_83 : decode cX12_findFewest 83 = .ok (.invokevirtual 297, 3) := by decide +kernel
theorem dX12_findFewest_86 : decode cX12_findFewest 86 = .ok (.iadd, 1) := by decide +kernel
theorem dX12_findFewest_87 : decode cX12_findFewest 87 = .ok (.iaload, 1) := by decide +kernel
theorem dX12_findFewest_88 : decode cX12_findFewest 88 = .ok (.iadd, 1) := by decide +kernel
theorem dX12_findFewest_89 : decode cX12_findFewest 89 = .ok (.invokestatic 365, 3) := by decide +kernel
theorem dX12_findFewest_92 : decode cX12_findFewest 92 = .ok (.istore 5, 2) := by decide +kernel
theorem dX12_findFewest_94 : decode cX12_findFewest 94 = .ok (.iinc 6 1, 3) := by decide +kernel
theorem dX12_findFewest_97 : decode cX12_findFewest 97 = .ok (.goto (-52), 3) := by decide +kernel
theorem dX12_findFewest_100 : decode cX12_findFewest 100 = .ok (.aload_n 0, 1) := by decide +kernel
theorem dX12_findFewest_101 : decode cX12_findFewest 101 = .ok (.getfield 53, 3) := by decide +kernel
theorem dX12_findFewest_104 : decode cX12_findFewest 104 = .ok (.bipush 20, 2) := by decide +kernel
theorem dX12_findFewest_106 : decode cX12_findFewest 106 = .ok (.iload_n 3, 1) := by decide +kernel
theorem dX12_findFewest_107 : decode cX12_findFewest 107 = .ok (.imul, 1) := by decide +kernel
theorem dX12_findFewest_108 : decode cX12_findFewest 108 = .ok (.iload 4, 2) := by decide +kernel
theorem dX12_findFewest_110 : decode cX12_findFewest 110 = .ok (.iadd, 1) := by decide +kernel
theorem dX12_findFewest_111 : decode cX12_findFewest 111 = .ok (.aload_n 0, 1) := by decide +kernel
theorem dX12_findFewest_112 : decode cX12_findFewest 112 = .ok (.iload 4, 2) := by decide +kernel
theorem dX12_findFewest_114 : decode cX12_findFewest 114 = .ok (.iload_n 1, 1) := by decide +kernel
theorem dX12_findFewest_115 : decode cX12_findFewest 115 = .ok (.invokevirtual 368, 3) := by decide +kernel
theorem dX12_findFewest_118 : decode cX12_findFewest 118 = .ok (.ifCond .eq 9, 3) := by decide +kernel
theorem dX12_findFewest_121 : decode cX12_findFewest 121 = .ok (.ldc_w 361, 3) := by decide +kernel
theorem dX12_findFewest_124 : decode cX12_findFewest 124 = .ok (.goto 11, 3) := by decide +kernel
theorem dX12_findFewest_127 : decode cX12_findFewest 127 = .ok (.iload 5, 2) := by decide +kernel
theorem dX12_findFewest_129 : decode cX12_findFewest 129 = .ok (.ldc_w 361, 3) := by decide +kernel
theorem dX12_findFewest_132 : decode cX12_findFewest 132 = .ok (.invokestatic 365, 3) := by decide +kernel
theorem dX12_findFewest_135 : decode cX12_findFewest 135 = .ok (.iastore, 1) := by decide +kernel
theorem dX12_findFewest_136 : decode cX12_findFewest 136 = .ok (.iinc 4 1, 3) := by decide +kernel
theorem dX12_findFewest_139 : decode cX12_findFewest 139 = .ok (.goto (-129), 3) := by decide +kernel
theorem dX12_findFewest_142 : decode cX12_findFewest 142 = .ok (.iinc 3 1, 3) := by decide +kernel
theorem dX12_findFewest_145 : decode cX12_findFewest 145 = .ok (.goto (-143), 3) := by decide +kernel
theorem dX12_findFewest_148 : decode cX12_findFewest 148 = .ok (.return_, 1) := by decide +kernel
theorem dX12_bestFollower_0 : decode cX12_bestFollower 0 = .ok (.iconst (-1), 1) := by decide +kernel
theorem dX12_bestFollower_1 : decode cX12_bestFollower 1 = .ok (.istore_n 3, 1) := by decide +kernel
theorem dX12_bestFollower_2 : decode cX12_bestFollower 2 = .ok (.iconst 0, 1) := by decide +kernel
theorem dX12_bestFollower_3 : decode cX12_bestFollower 3 = .ok (.istore 4, 2) := by decide +kernel
theorem dX12_bestFollower_5 : decode cX12_bestFollower 5 = .ok (.iload 4, 2) := by decide +kernel
theorem dX12_bestFollower_7 : decode cX12_bestFollower 7 = .ok (.aload_n 0, 1) := by decide +kernel
theorem dX12_bestFollower_8 : decode cX12_bestFollower 8 = .ok (.getfield 47, 3) := by decide +kernel
theorem dX12_bestFollower_11 : decode cX12_bestFollower 11 = .ok (.iload_n 1, 1) := by decide +kernel
theorem dX12_bestFollower_12 : decode cX12_bestFollower 12 = .ok (.iaload, 1) := by decide +kernel
theorem dX12_bestFollower_13 : decode cX12_bestFollower 13 = .ok (.if_icmp .ge 82, 3) := by decide +kernel
theorem dX12_bestFollower_16 : decode cX12_bestFollower 16 = .ok (.aload_n 0, 1) := by decide +kernel
theorem dX12_bestFollower_17 : decode cX12_bestFollower 17 = .ok (.iload_n 1, 1) := by decide +kernel
theorem dX12_bestFollower_18 : decode cX12_bestFollower 18 = .ok (.iload 4, 2) := by decide +kernel
theorem dX12_bestFollower_20 : decode cX12_bestFollower 20 = .ok (.invokevirtual 297, 3) := by decide +kernel
theorem dX12_bestFollower_23 : decode cX12_bestFollower 23 = .ok (.istore 5, 2) := by decide +kernel
theorem dX12_bestFollower_25 : decode cX12_bestFollower 25 = .ok (.iload 4, 2) := by decide +kernel
theorem dX12_bestFollower_27 : decode cX12_bestFollower 27 = .ok (.invokestatic 362, 3) := by decide +kernel
theorem dX12_bestFollower_30 : decode cX12_bestFollower 30 = .ok (.aload_n 0, 1) := by decide +kernel
theorem dX12_bestFollower_31 : decode cX12_bestFollower 31 = .ok (.getfield 53, 3) := by decide +kernel
theorem dX12_bestFollower_34 : decode cX12_bestFollower 34 = .ok (.bipush 20, 2) := by decide +kernel
theorem dX12_bestFollower_36 : decode cX12_bestFollower 36 = .ok (.iload_n 2, 1) := by decide +kernel
theorem dX12_bestFollower_37 : decode cX12_bestFollower 37 = .ok (.iconst 1, 1) := by decide +kernel
theorem dX12_bestFollower_38 : decode cX12_bestFollower 38 = .ok (.isub, 1) := by decide +kernel
theorem dX12_bestFollower_39 : decode cX12_bestFollower 39 = .ok (.imul, 1) := by decide +kernel
theorem dX12_bestFollower_40 : decode cX12_bestFollower 40 = .ok (.iload 5, 2) := by decide +kernel
theorem dX12_bestFollower_42 : decode cX12_bestFollower 42 = .ok (.iadd, 1) := by decide +kernel
theorem dX12_bestFollower_43 : decode cX12_bestFollower 43 = .ok (.iaload, 1) := by decide +kernel
theorem dX12_bestFollower_44 : decode cX12_bestFollower 44 = .ok (.iadd, 1) := by decide +kernel
theorem dX12_bestFollower_45 : decode cX12_bestFollower 45 = .ok (.aload_n 0, 1) := by decide +kernel
theorem dX12_bestFollower_46 : decode cX12_bestFollower 46 = .ok (.getfield 53, 3) := by decide +kernel
theorem dX12_bestFollower_49 : decode cX12_bestFollower 49 = .ok (.bipush 20, 2) := by decide +kernel
theorem dX12_bestFollower_51 : decode cX12_bestFollower 51 = .ok (.iload_n 2, 1) := by decide +kernel
theorem dX12_bestFollower_52 : decode cX12_bestFollower 52 = .ok (.imul, 1) := by decide +kernel
theorem dX12_bestFollower_53 : decode cX12_bestFollower 53 = .ok (.iload_n 1, 1) := by decide +kernel
theorem dX12_bestFollower_54 : decode cX12_bestFollower 54 = .ok (.iadd, 1) := by decide +kernel
theorem dX12_bestFollower_55 : decode cX12_bestFollower 55 = .ok (.iaload, 1) := by decide +kernel
theorem dX12_bestFollower_56 : decode cX12_bestFollower 56 = .ok (.if_icmp .ne 7, 3) := by decide +kernel
theorem dX12_bestFollower_59 : decode cX12_bestFollower 59 = .ok (.iconst 1, 1) := by decide +kernel
theorem dX12_bestFollower_60 : decode cX12_bestFollower 60 = .ok (.goto 4, 3) := by decide +kernel
theorem dX12_bestFollower_63 : decode cX12_bestFollower 63 = .ok (.iconst 0, 1) := by decide +kernel
theorem dX12_bestFollower_64 : decode cX12_bestFollower 64 = .ok (.istore 6, 2) := by decide +kernel
theorem dX12_bestFollower_66 : decode cX12_bestFollower 66 = .ok (.iload 6, 2) := by decide +kernel
theorem dX12_bestFollower_68 : decode cX12_bestFollower 68 = .ok (.ifCond .eq 19, 3) := by decide +kernel
theorem dX12_bestFollower_71 : decode cX12_bestFollower 71 = .ok (.iload_n 3, 1) := by decide +kernel
theorem dX12_bestFollower_72 : decode cX12_bestFollower 72 = .ok (.iconst (-1), 1) := by decide +kernel
theorem dX12_bestFollower_73 : decode cX12_bestFollower 73 = .ok (.if_icmp .eq 9, 3) := by decide +kernel
theorem dX12_bestFollower_76 : decode cX12_bestFollower 76 = .ok (.iload 5, 2) := by decide +kernel
theorem dX12_bestFollower_78 : decode cX12_bestFollower 78 = .ok (.iload_n 3, 1) := by decide +kernel
theorem dX12_bestFollower_79 : decode cX12_bestFollower 79 = .ok (.if_icmp .ge 8, 3) := by decide +kernel
theorem dX12_bestFollower_82 : decode cX12_bestFollower 82 = .ok (.iload 5, 2) := by decide +kernel
theorem dX12_bestFollower_84 : decode cX12_bestFollower 84 = .ok (.goto 4, 3) := by decide +kernel
theorem dX12_bestFollower_87 : decode cX12_bestFollower 87 = .ok (.iload_n 3, 1) := by decide +kernel
theorem dX12_bestFollower_88 : decode cX12_bestFollower 88 = .ok (.istore_n 3, 1) := by decide +kernel
theorem dX12_bestFollower_89 : decode cX12_bestFollower 89 = .ok (.iinc 4 1, 3) := by decide +kernel
theorem dX12_bestFollower_92 : decode cX12_bestFollower 92 = .ok (.goto (-87), 3) := by decide +kernel
theorem dX12_bestFollower_95 : decode cX12_bestFollower 95 = .ok (.iload_n 3, 1) := by decide +kernel
theorem dX12_bestFollower_96 : decode cX12_bestFollower 96 = .ok (.ireturn, 1) := by decide +kernel
theorem dX12_avoid_0 : decode cX12_avoid 0 = .ok (.aload_n 0, 1) := by decide +kernel
theorem dX12_avoid_1 : decode cX12_avoid 1 = .ok (.iconst 0, 1) := by decide +kernel
theorem dX12_avoid_2 : decode cX12_avoid 2 = .ok (.putfield 91, 3) := by decide +kernel
theorem dX12_avoid_5 : decode cX12_avoid 5 = .ok (.iload_n 3, 1) := by decide +kernel
theorem dX12_avoid_6 : decode cX12_avoid 6 = .ok (.iconst 1, 1) := by decide +kernel
theorem dX12_avoid_7 : decode cX12_avoid 7 = .ok (.bipush 20, 2) := by decide +kernel
theorem dX12_avoid_9 : decode cX12_avoid 9 = .ok (.invokestatic 107, 3) := by decide +kernel
theorem dX12_avoid_12 : decode cX12_avoid 12 = .ok (.ifCond .eq 37, 3) := by decide +kernel
theorem dX12_avoid_15 : decode cX12_avoid 15 = .ok (.iload 4, 2) := by decide +kernel
theorem dX12_avoid_17 : decode cX12_avoid 17 = .ok (.iconst (-1), 1) := by decide +kernel
theorem dX12_avoid_18 : decode cX12_avoid 18 = .ok (.iload_n 3, 1) := by decide +kernel
theorem dX12_avoid_19 : decode cX12_avoid 19 = .ok (.iconst 1, 1) := by decide +kernel
theorem dX12_avoid_20 : decode cX12_avoid 20 = .ok (.isub, 1) := by decide +kernel
theorem dX12_avoid_21 : decode cX12_avoid 21 = .ok (.invokestatic 107, 3) := by decide +kernel
theorem dX12_avoid_24 : decode cX12_avoid 24 = .ok (.ifCond .eq 25, 3) := by decide +kernel
theorem dX12_avoid_27 : decode cX12_avoid 27 = .ok (.iload_n 2, 1) := by decide +kernel
theorem dX12_avoid_28 : decode cX12_avoid 28 = .ok (.invokestatic 371, 3) := by decide +kernel
theorem dX12_avoid_31 : decode cX12_avoid 31 = .ok (.ifCond .eq 18, 3) := by decide +kernel
theorem dX12_avoid_34 : decode cX12_avoid 34 = .ok (.aload_n 0, 1) := by decide +kernel
theorem dX12_avoid_35 : decode cX12_avoid 35 = .ok (.iload_n 1, 1) := by decide +kernel
theorem dX12_avoid_36 : decode cX12_avoid 36 = .ok (.invokevirtual 285, 3) := by decide +kernel
theorem dX12_avoid_39 : decode cX12_avoid 39 = .ok (.ifCond .eq 10, 3) := by decide +kernel
theorem dX12_avoid_42 : decode cX12_avoid 42 = .ok (.aload_n 0, 1) := by decide +kernel
theorem dX12_avoid_43 : decode cX12_avoid 43 = .ok (.getfield 276, 3) := by decide +kernel
theorem dX12_avoid_46 : decode cX12_avoid 46 = .ok (.ifCond .ne 5, 3) := by decide +kernel
theorem dX12_avoid_49 : decode cX12_avoid 49 = .ok (.iconst (-1), 1) := by decide +kernel
theorem dX12_avoid_50 : decode cX12_avoid 50 = .ok (.ireturn, 1) := by decide +kernel
theorem dX12_avoid_51 : decode cX12_avoid 51 = .ok (.aload_n 0, 1) := by decide +kernel
theorem dX12_avoid_52 : decode cX12_avoid 52 = .ok (.iload_n 2, 1) := by decide +kernel
theorem dX12_avoid_53 : decode cX12_avoid 53 = .ok (.iload_n 3, 1) := by decide +kernel
theorem dX12_avoid_54 : decode cX12_avoid 54 = .ok (.invokevirtual 374, 3) := by decide +kernel
theorem dX12_avoid_57 : decode cX12_avoid 57 = .ok (.aload_n 0, 1) := by decide +kernel
theorem dX12_avoid_58 : decode cX12_avoid 58 = .ok (.getfield 53, 3) := by decide +kernel
theorem dX12_avoid_61 : decode cX12_avoid 61 = .ok (.bipush 20, 2) := by decide +kernel
theorem dX12_avoid_63 : decode cX12_avoid 63 = .ok (.iload_n 3, 1) := by decide +kernel
theorem dX12_avoid_64 : decode cX12_avoid 64 = .ok (.iconst 1, 1) := by decide +kernel
theorem dX12_avoid_65 : decode cX12_avoid 65 = .ok (.isub, 1) := by decide +kernel
theorem dX12_avoid_66 : decode cX12_avoid 66 = .ok (.imul, 1) := by decide +kernel
theorem dX12_avoid_67 : decode cX12_avoid 67 = .ok (.iaload, 1) := by decide +kernel
theorem dX12_avoid_68 : decode cX12_avoid 68 = .ok (.istore 5, 2) := by decide +kernel
theorem dX12_avoid_70 : decode cX12_avoid 70 = .ok (.iload 5, 2) := by decide +kernel
theorem dX12_avoid_72 : decode cX12_avoid 72 = .ok (.ldc_w 361, 3) := by decide +kernel
theorem dX12_avoid_75 : decode cX12_avoid 75 = .ok (.if_icmp .ge 9, 3) := by decide +kernel
theorem dX12_avoid_78 : decode cX12_avoid 78 = .ok (.iload 4, 2) := by decide +kernel
theorem dX12_avoid_80 : decode cX12_avoid 80 = .ok (.iconst (-1), 1) := by decide +kernel
theorem dX12_avoid_81 : decode cX12_avoid 81 = .ok (.if_icmp .ne 18, 3) := by decide +kernel
theorem dX12_avoid_84 : decode cX12_avoid 84 = .ok (.iload 5, 2) := by decide +kernel
theorem dX12_avoid_86 : decode cX12_avoid 86 = .ok (.ldc_w 361, 3) := by decide +kernel
theorem dX12_avoid_89 : decode cX12_avoid 89 = .ok (.if_icmp .lt 7, 3) := by decide +kernel
theorem dX12_avoid_92 : decode cX12_avoid 92 = .ok (.iconst (-1), 1) := by decide +kernel
theorem dX12_avoid_93 : decode cX12_avoid 93 = .ok (.goto 5, 3) := by decide +kernel
theorem dX12_avoid_96 : decode cX12_avoid 96 = .ok (.iload 5, 2) := by decide +kernel
theorem dX12_avoid_98 : decode cX12_avoid 98 = .ok (.ireturn, 1) := by decide +kernel
theorem dX12_avoid_99 : decode cX12_avoid 99 = .ok (.iconst 0, 1) := by decide +kernel
theorem dX12_avoid_100 : decode cX12_avoid 100 = .ok (.istore 6, 2) := by decide +kernel
theorem dX12_avoid_102 : decode cX12_avoid 102 = .ok (.iconst 1, 1) := by decide +kernel
theorem dX12_avoid_103 : decode cX12_avoid 103 = .ok (.istore 7, 2) := by decide +kernel
theorem dX12_avoid_105 : decode cX12_avoid 105 = .ok (.iload 7, 2) := by decide +kernel
theorem dX12_avoid_107 : decode cX12_avoid 107 = .ok (.iload 4, 2) := by decide +kernel
theorem dX12_avoid_109 : decode cX12_avoid 109 = .ok (.if_icmp .gt 27, 3) := by decide +kernel
theorem dX12_avoid_112 : decode cX12_avoid 112 = .ok (.iload 6, 2) := by decide +kernel
theorem dX12_avoid_114 : decode cX12_avoid 114 = .ok (.iconst (-1), 1) := by decide +kernel
theorem dX12_avoid_115 : decode cX12_avoid 115 = .ok (.if_icmp .eq 21, 3) := by decide +kernel
theorem dX12_avoid_118 : decode cX12_avoid 118 = .ok (.aload_n 0, 1) := by decide +kernel
theorem dX12_avoid_119 : decode cX12_avoid 119 = .ok (.iload 6, 2) := by decide +kernel
theorem dX12_avoid_121 : decode cX12_avoid 121 = .ok (.iload_n 3, 1) := by decide +kernel
theorem dX12_avoid_122 : decode cX12_avoid 122 = .ok (.iload 7, 2) := by decide +kernel
theorem dX12_avoid_124 : decode cX12_avoid 124 = .ok (.isub, 1) := by decide +kernel
theorem dX12_avoid_125 : decode cX12_avoid 125 = .ok (.invokevirtual 377, 3) := by decide +kernel
theorem dX12_avoid_128 : decode cX12_avoid 128 = .ok (.istore 6, 2) := by decide +kernel
theorem dX12_avoid_130 : decode cX12_avoid 130 = .ok (.iinc 7 1, 3) := by decide +kernel
theorem dX12_avoid_133 : decode cX12_avoid 133 = .ok (.goto (-28), 3) := by decide +kernel
theorem dX12_avoid_136 : decode cX12_avoid 136 = .ok (.iload 6, 2) := by decide +kernel
theorem dX12_avoid_138 : decode cX12_avoid 138 = .ok (.ireturn, 1) := by decide +kernel
theorem dX12_nears_0 : decode cX12_nears 0 = .ok (.aload_n 0, 1) := by decide +kernel
theorem dX12_nears_1 : decode cX12_nears 1 = .ok (.getfield 56, 3) := by decide +kernel
theorem dX12_nears_4 : decode cX12_nears 4 = .ok (.iload_n 1, 1) := by decide +kernel
theorem dX12_nears_5 : decode cX12_nears 5 = .ok (.iaload, 1) := by decide +kernel
theorem dX12_nears_6 : decode cX12_nears 6 = .ok (.iconst 1, 1) := by decide +kernel
theorem dX12_nears_7 : decode cX12_nears 7 = .ok (.iadd, 1) := by decide +kernel
theorem dX12_nears_8 : decode cX12_nears 8 = .ok (.aload_n 0, 1) := by decide +kernel
theorem dX12_nears_9 : decode cX12_nears 9 = .ok (.getfield 56, 3) := by decide +kernel
theorem dX12_nears_12 : decode cX12_nears 12 = .ok (.iload_n 2, 1) := by decide +kernel
theorem dX12_nears_13 : decode cX12_nears 13 = .ok (.iaload, 1) := by decide +kernel
theorem dX12_nears_14 : decode cX12_nears 14 = .ok (.if_icmp .ge 7, 3) := by decide +kernel
theorem dX12_nears_17 : decode cX12_nears 17 = .ok (.iconst 1, 1) := by decide +kernel
theorem dX12_nears_18 : decode cX12_nears 18 = .ok (.goto 4, 3) := by decide +kernel
theorem dX12_nears_21 : decode cX12_nears 21 = .ok (.iconst 0, 1) := by decide +kernel
theorem dX12_nears_22 : decode cX12_nears 22 = .ok (.istore_n 3, 1) := by decide +kernel
theorem dX12_nears_23 : decode cX12_nears 23 = .ok (.aload_n 0, 1) := by decide +kernel
theorem dX12_nears_24 : decode cX12_nears 24 = .ok (.getfield 56, 3) := by decide +kernel
theorem dX12_nears_27 : decode cX12_nears 27 = .ok (.iload_n 2, 1) := by decide +kernel
theorem dX12_nears_28 : decode cX12_nears 28 = .ok (.iload_n 3, 1) := by decide +kernel
theorem dX12_nears_29 : decode cX12_nears 29 = .ok (.ifCond .eq 14, 3) := by decide +kernel
theorem dX12_nears_32 : decode cX12_nears 32 = .ok (.aload_n 0, 1) := by decide +kernel
theorem dX12_nears_33 : decode cX12_nears 33 = .ok (.getfield 56, 3) := by decide +kernel
theorem dX12_nears_36 : decode cX12_nears 36 = .ok (.iload_n 1, 1) := by decide +kernel
theorem dX12_nears_37 : decode cX12_nears 37 = .ok (.iaload, 1) := by decide +kernel
theorem dX12_nears_38 : decode cX12_nears 38 = .ok (.iconst 1, 1) := by decide +kernel
theorem dX12_nears_39 : decode cX12_nears 39 = .ok (.iadd, 1) := by decide +kernel
theorem dX12_nears_40 : decode cX12_nears 40 = .ok (.goto 9, 3) := by decide +kernel
theorem dX12_nears_43 : decode cX12_nears 43 = .ok (.aload_n 0, 1) := by decide +kernel
theorem dX12_nears_44 : decode cX12_nears 44 = .ok (.getfield 56, 3) := by decide +kernel
theorem dX12_nears_47 : decode cX12_nears 47 = .ok (.iload_n 2, 1) := by decide +kernel
theorem dX12_nears_48 : decode cX12_nears 48 = .ok (.iaload, 1) := by decide +kernel
theorem dX12_nears_49 : decode cX12_nears 49 = .ok (.iastore, 1) := by decide +kernel
theorem dX12_nears_50 : decode cX12_nears 50 = .ok (.iload_n 3, 1) := by decide +kernel
theorem dX12_nears_51 : decode cX12_nears 51 = .ok (.ireturn, 1) := by decide +kernel
theorem dX12_soonest_0 : decode cX12_soonest 0 = .ok (.aload_n 0, 1) := by decide +kernel
theorem dX12_soonest_1 : decode cX12_soonest 1 = .ok (.iconst 0, 1) := by decide +kernel
theorem dX12_soonest_2 : decode cX12_soonest 2 = .ok (.putfield 91, 3) := by decide +kernel
theorem dX12_soonest_5 : decode cX12_soonest 5 = .ok (.iload_n 3, 1) := by decide +kernel
theorem dX12_soonest_6 : decode cX12_soonest 6 = .ok (.iconst 0, 1) := by decide +kernel
theorem dX12_soonest_7 : decode cX12_soonest 7 = .ok (.bipush 9, 2) := by decide +kernel
theorem dX12_soonest_9 : decode cX12_soonest 9 = .ok (.invokestatic 107, 3) := by decide +kernel
theorem dX12_soonest_12 : decode cX12_soonest 12 = .ok (.ifCond .eq 25, 3) := by decide +kernel
theorem dX12_soonest_15 : decode cX12_soonest 15 = .ok (.iload_n 2, 1) := by decide +kernel
theorem dX12_soonest_16 : decode cX12_soonest 16 = .ok (.invokestatic 371, 3) := by decide +kernel
theorem dX12_soonest_19 : decode cX12_soonest 19 = .ok (.ifCond .eq 18, 3) := by decide +kernel
theorem dX12_soonest_22 : decode cX12_soonest 22 = .ok (.aload_n 0, 1) := by decide +kernel
theorem dX12_soonest_23 : decode cX12_soonest 23 = .ok (.iload_n 1, 1) := by decide +kernel
theorem dX12_soonest_24 : decode cX12_soonest 24 = .ok (.invokevirtual 285, 3) := by decide +kernel
theorem dX12_soonest_27 : decode cX12_soonest 27 = .ok (.ifCond .eq 10, 3) := by decide +kernel
theorem dX12_soonest_30 : decode cX12_soonest 30 = .ok (.aload_n 0, 1) := by decide +kernel
theorem dX12_soonest_31 : decode cX12_soonest 31 = .ok (.getfield 276, 3) := by decide +kernel
theorem dX12_soonest_34 : decode cX12_soonest 34 = .ok (.ifCond .ne 5, 3) := by decide +kernel
theorem dX12_soonest_37 : decode cX12_soonest 37 = .ok (.iconst (-1), 1) := by decide +kernel
theorem dX12_soonest_38 : decode cX12_soonest 38 = .ok (.ireturn, 1) := by decide +kernel
theorem dX12_soonest_39 : decode cX12_soonest 39 = .ok (.iconst 0, 1) := by decide +kernel
theorem dX12_soonest_40 : decode cX12_soonest 40 = .ok (.istore 4, 2) := by decide +kernel
theorem dX12_soonest_42 : decode cX12_soonest 42 = .ok (.iload 4, 2) := by decide +kernel
theorem dX12_soonest_44 : decode cX12_soonest 44 = .ok (.sipush 200, 3) := by decide +kernel
theorem dX12_soonest_47 : decode cX12_soonest 47 = .ok (.if_icmp .ge 28, 3) := by decide +kernel
theorem dX12_soonest_50 : decode cX12_soonest 50 = .ok (.aload_n 0, 1) := by decide +kernel
theorem dX12_soonest_51 : decode cX12_soonest 51 = .ok (.getfield 56, 3) := by decide +kernel
theorem dX12_soonest_54 : decode cX12_soonest 54 = .ok (.iload 4, 2) := by decide +kernel
theorem dX12_soonest_56 : decode cX12_soonest 56 = .ok (.iload 4, 2) := by decide +kernel
theorem dX12_soonest_58 : decode cX12_soonest 58 = .ok (.ifCond .ne 7, 3) := by decide +kernel
theorem dX12_soonest_61 : decode cX12_soonest 61 = .ok (.iconst 1, 1) := by decide +kernel
theorem dX12_soonest_62 : decode cX12_soonest 62 = .ok (.goto 6, 3) := by decide +kernel
theorem dX12_soonest_65 : decode cX12_soonest 65 = .ok (.ldc_w 361, 3) := by decide +kernel
theorem dX12_soonest_68 : decode cX12_soonest 68 = .ok (.iastore, 1) := by decide +kernel
theorem dX12_soonest_69 : decode cX12_soonest 69 = .ok (.iinc 4 1, 3) := by decide +kernel
theorem dX12_soonest_72 : decode cX12_soonest 72 = .ok (.goto (-30), 3) := by decide +kernel
theorem dX12_soonest_75 : decode cX12_soonest 75 = .ok (.iconst 1, 1) := by decide +kernel
theorem dX12_soonest_76 : decode cX12_soonest 76 = .ok (.istore 4, 2) := by decide +kernel
theorem dX12_soonest_78 : decode cX12_soonest 78 = .ok (.iload 4, 2) := by decide +kernel
theorem dX12_soonest_80 : decode cX12_soonest 80 = .ok (.ifCond .eq 135, 3) := by decide +kernel
theorem dX12_soonest_83 : decode cX12_soonest 83 = .ok (.iconst 0, 1) := by decide +kernel
theorem dX12_soonest_84 : decode cX12_soonest 84 = .ok (.istore 4, 2) := by decide +kernel
theorem dX12_soonest_86 : decode cX12_soonest 86 = .ok (.iconst 0, 1) := by decide +kernel
theorem dX12_soonest_87 : decode cX12_soonest 87 = .ok (.istore 5, 2) := by decide +kernel
theorem dX12_soonest_89 : decode cX12_soonest 89 = .ok (.iload 5, 2) := by decide +kernel
theorem dX12_soonest_91 : decode cX12_soonest 91 = .ok (.bipush 20, 2) := by decide +kernel
theorem dX12_soonest_93 : decode cX12_soonest 93 = .ok (.iload_n 3, 1) := by decide +kernel
theorem dX12_soonest_94 : decode cX12_soonest 94 = .ok (.iconst 1, 1) := by decide +kernel
theorem dX12_soonest_95 : decode cX12_soonest 95 = .ok (.iadd, 1) := by decide +kernel
theorem dX12_soonest_96 : decode cX12_soonest 96 = .ok (.imul, 1) := by decide +kernel
theorem dX12_soonest_97 : decode cX12_soonest 97 = .ok (.if_icmp .ge 115, 3) := by decide +kernel
theorem dX12_soonest_100 : decode cX12_soonest 100 = .ok (.iconst 0, 1) := by decide +kernel
theorem dX12_soonest_101 : decode cX12_soonest 101 = .ok (.istore 6, 2) := by decide +kernel
theorem dX12_soonest_103 : decode cX12_soonest 103 = .ok (.aload_n 0, 1) := by decide +kernel
theorem dX12_soonest_104 : decode cX12_soonest 104 = .ok (.getfield 56, 3) := by decide +kernel
theorem dX12_soonest_107 : decode cX12_soonest 107 = .ok (.iload 5, 2) := by decide +kernel
theorem dX12_soonest_109 : decode cX12_soonest 109 = .ok (.iaload, 1) := by decide +kernel
theorem dX12_soonest_110 : decode cX12_soonest 110 = .ok (.ldc_w 361, 3) := by decide +kernel
theorem dX12_soonest_113 : decode cX12_soonest 113 = .ok (.if_icmp .ge 93, 3) := by decide +kernel
theorem dX12_soonest_116 : decode cX12_soonest 116 = .ok (.iload 6, 2) := by decide +kernel
theorem dX12_soonest_118 : decode cX12_soonest 118 = .ok (.aload_n 0, 1) := by decide +kernel
theorem dX12_soonest_119 : decode cX12_soonest 119 = .ok (.getfield 47, 3) := by decide +kernel
theorem dX12_soonest_122 : decode cX12_soonest 122 = .ok (.iload 5, 2) := by decide +kernel
theorem dX12_soonest_124 : decode cX12_soonest 124 = .ok (.bipush 20, 2) := by decide +kernel
theorem dX12_soonest_126 : decode cX12_soonest 126 = .ok (.irem, 1) := by decide +kernel
theorem dX12_soonest_127 : decode cX12_soonest 127 = .ok (.iaload, 1) := by decide +kernel
theorem dX12_soonest_128 : decode cX12_soonest 128 = .ok (.if_icmp .ge 78, 3) := by decide +kernel
theorem dX12_soonest_131 : decode cX12_soonest 131 = .ok (.iload 5, 2) := by decide +kernel
theorem dX12_soonest_133 : decode cX12_soonest 133 = .ok (.bipush 20, 2) := by decide +kernel
theorem dX12_soonest_135 : decode cX12_soonest 135 = .ok (.idiv, 1) := by decide +kernel
theorem dX12_soonest_136 : decode cX12_soonest 136 = .ok (.iload 6, 2) := by decide +kernel
theorem dX12_soonest_138 : decode cX12_soonest 138 = .ok (.invokestatic 362, 3) := by decide +kernel
theorem dX12_soonest_141 : decode cX12_soonest 141 = .ok (.iadd, 1) := by decide +kernel
theorem dX12_soonest_142 : decode cX12_soonest 142 = .ok (.istore 7, 2) := by decide +kernel
theorem dX12_soonest_144 : decode cX12_soonest 144 = .ok (.iload 7, 2) := by decide +kernel
theorem dX12_soonest_146 : decode cX12_soonest 146 = .ok (.iload_n 3, 1) := by decide +kernel
theorem dX12_soonest_147 : decode cX12_soonest 147 = .ok (.if_icmp .gt 33, 3) := by decide +kernel
theorem dX12_soonest_150 : decode cX12_soonest 150 = .ok (.aload_n 0, 1) := by decide +kernel
theorem dX12_soonest_151 : decode cX12_soonest 151 = .ok (.iload 5, 2) := by decide +kernel
theorem dX12_soonest_153 : decode cX12_soonest 153 = .ok (.bipush 20, 2) := by decide +kernel
theorem dX12_soonest_155 : decode cX12_soonest 155 = .ok (.iload 7, 2) := by decide +kernel
theorem dX12_soonest_157 : decode cX12_soonest 157 = .ok (.imul, 1) := by decide +kernel
theorem dX12_soonest_158 : decode cX12_soonest 158 = .ok (.aload_n 0, 1) := by decide +kernel
theorem dX12_soonest_159 : decode cX12_soonest 159 = .ok (.iload 5, 2) := by decide +kernel
theorem dX12_soonest_161 : decode cX12_soonest 161 = .ok (.bipush 20, 2) := by decide +kernel
theorem dX12_soonest_163 : decode cX12_soonest 163 = .ok (.irem, 1) := by decide +kernel
theorem dX12_soonest_164 : decode cX12_soonest 164 = .ok (.iload 6, 2) := by decide +kernel
theorem dX12_soonest_166 : decode cX12_soonest 166 = .ok (.invokevirtual 297, 3) := by decide +kernel
theorem dX12_soonest_169 : decode cX12_soonest 169 = .ok (.iadd, 1) := by decide +kernel
theorem dX12_soonest_170 : decode cX12_soonest 170 = .ok (.invokevirtual 380, 3) := by decide +kernel
theorem dX12_soonest_173 : decode cX12_soonest 173 = .ok (.ifCond .eq 7, 3) := by decide +kernel
theorem dX12_soonest_176 : decode cX12_soonest 176 = .ok (.iconst 1, 1) := by decide +kernel
theorem dX12_soonest_177 : decode cX12_soonest 177 = .ok (.goto 4, 3) := by decide +kernel
theorem dX12_soonest_180 : decode cX12_soonest 180 = .ok (.iconst 0, 1) := by decide +kernel
theorem dX12_soonest_181 : decode cX12_soonest 181 = .ok (.istore 8, 2) := by decide +kernel
theorem dX12_soonest_183 : decode cX12_soonest 183 = .ok (.iload 4, 2) := by decide +kernel
theorem dX12_soonest_185 : decode cX12_soonest 185 = .ok (.ifCond .ne 8, 3) := by decide +kernel
theorem dX12_soonest_188 : decode cX12_soonest 188 = .ok (.iload 8, 2) := by decide +kernel
theorem dX12_soonest_190 : decode cX12_soonest 190 = .ok (.ifCond .eq 7, 3) := by decide +kernel
theorem dX12_soonest_193 : decode cX12_soonest 193 = .ok (.iconst 1, 1) := by decide +kernel
theorem dX12_soonest_194 : decode cX12_soonest 194 = .ok (.goto 4, 3) := by decide +kernel
theorem dX12_soonest_197 : decode cX12_soonest 197 = .ok (.iconst 0, 1) := by decide +kernel
theorem dX12_soonest_198 : decode cX12_soonest 198 = .ok (.istore 4, 2) := by decide +kernel
theorem dX12_soonest_200 : decode cX12_soonest 200 = .ok (.iinc 6 1, 3) := by decide +kernel
theorem dX12_soonest_203 : decode cX12_soonest 203 = .ok (.goto (-100), 3) := by decide +kernel
theorem dX12_soonest_206 : decode cX12_soonest 206 = .ok (.iinc 5 1, 3) := by decide +kernel
theorem dX12_soonest_209 : decode cX12_soonest 209 = .ok (.goto (-120), 3) := by decide +kernel
theorem dX12_soonest_212 : decode cX12_soonest 212 = .ok (.goto (-134), 3) := by decide +kernel
theorem dX12_soonest_215 : decode cX12_soonest 215 = .ok (.ldc_w 361, 3) := by decide +kernel
theorem dX12_soonest_218 : decode cX12_soonest 218 = .ok (.istore 5, 2) := by decide +kernel
theorem dX12_soonest_220 : decode cX12_soonest 220 = .ok (.iconst 0, 1) := by decide +kernel
theorem dX12_soonest_221 : decode cX12_soonest 221 = .ok (.istore 6, 2) := by decide +kernel
theorem dX12_soonest_223 : decode cX12_soonest 223 = .ok (.iload 6, 2) := by decide +kernel
theorem dX12_soonest_225 : decode cX12_soonest 225 = .ok (.bipush 20, 2) := by decide +kernel
theorem dX12_soonest_227 : decode cX12_soonest 227 = .ok (.iload_n 3, 1) := by decide +kernel
theorem dX12_soonest_228 : decode cX12_soonest 228 = .ok (.iconst 1, 1) := by decide +kernel
theorem dX12_soonest_229 : decode cX12_soonest 229 = .ok (.iadd, 1) := by decide +kernel
theorem dX12_soonest_230 : decode cX12_soonest 230 = .ok (.imul, 1) := by decide +kernel
theorem dX12_soonest_231 : decode cX12_soonest 231 = .ok (.if_icmp .ge 53, 3) := by decide +kernel
theorem dX12_soonest_234 : decode cX12_soonest 234 = .ok (.iload 6, 2) := by decide +kernel
theorem dX12_soonest_236 : decode cX12_soonest 236 = .ok (.bipush 20, 2) := by decide +kernel
theorem dX12_soonest_238 : decode cX12_soonest 238 = .ok (.irem, 1) := by decide +kernel
theorem dX12_soonest_239 : decode cX12_soonest 239 = .ok (.aload_n 0, 1) := by decide +kernel
theorem dX12_soonest_240 : decode cX12_soonest 240 = .ok (.getfield 276, 3) := by decide +kernel
theorem dX12_soonest_243 : decode cX12_soonest 243 = .ok (.if_icmp .ge 31, 3) := by decide +kernel
theorem dX12_soonest_246 : decode cX12_soonest 246 = .ok (.aload_n 0, 1) := by decide +kernel
theorem dX12_soonest_247 : decode cX12_soonest 247 = .ok (.iload 6, 2) := by decide +kernel
theorem dX12_soonest_249 : decode cX12_soonest 249 = .ok (.bipush 20, 2) := by decide +kernel
theorem dX12_soonest_251 : decode cX12_soonest 251 = .ok (.irem, 1) := by decide +kernel
theorem dX12_soonest_252 : decode cX12_soonest 252 = .ok (.iload_n 2, 1) := by decide +kernel
theorem dX12_soonest_253 : decode cX12_soonest 253 = .ok (.invokevirtual 368, 3) := by decide +kernel
theorem dX12_soonest_256 : decode cX12_soonest 256 = .ok (.ifCond .eq 18, 3) := by decide +kernel
theorem dX12_soonest_259 : decode cX12_soonest 259 = .ok (.iload 5, 2) := by decide +kernel
theorem dX12_soonest_261 : decode cX12_soonest 261 = .ok (.aload_n 0, 1) := by decide +kernel
theorem dX12_soonest_262 : decode cX12_soonest 262 = .ok (.getfield 56, 3) := by decide +kernel
theorem dX12_soonest_265 : decode cX12_soonest 265 = .ok (.iload 6, 2) := by decide +kernel
theorem dX12_soonest_267 : decode cX12_soonest 267 = .ok (.iaload, 1) := by decide +kernel
theorem dX12_soonest_268 : decode cX12_soonest 268 = .ok (.invokestatic 365, 3) := by decide +kernel
theorem dX12_soonest_271 : decode cX12_soonest 271 = .ok (.goto 5, 3) := by decide +kernel
theorem dX12_soonest_274 : decode cX12_soonest 274 = .ok (.iload 5, 2) := by decide +kernel
theorem dX12_soonest_276 : decode cX12_soonest 276 = .ok (.istore 5, 2) := by decide +kernel
theorem dX12_soonest_278 : decode cX12_soonest 278 = .ok (.iinc 6 1, 3) := by decide +kernel
theorem dX12_soonest_281 : decode cX12_soonest 281 = .ok (.goto (-58), 3) := by decide +kernel
theorem dX12_soonest_284 : decode cX12_soonest 284 = .ok (.iload 5, 2) := by decide +kernel
theorem dX12_soonest_286 : decode cX12_soonest 286 = .ok (.ldc_w 361, 3) := by decide +kernel
theorem dX12_soonest_289 : decode cX12_soonest 289 = .ok (.if_icmp .lt 7, 3) := by decide +kernel
theorem dX12_soonest_292 : decode cX12_soonest 292 = .ok (.iconst (-1), 1) := by decide +kernel
theorem dX12_soonest_293 : decode cX12_soonest 293 = .ok (.goto 5, 3) := by decide +kernel
theorem dX12_soonest_296 : decode cX12_soonest 296 = .ok (.iload 5, 2) := by decide +kernel
theorem dX12_soonest_298 : decode cX12_soonest 298 = .ok (.ireturn, 1) := by decide +kernel
theorem dX12_saidBy_0 : decode cX12_saidBy 0 = .ok (.iload_n 1, 1) := by decide +kernel
theorem dX12_saidBy_1 : decode cX12_saidBy 1 = .ok (.aload_n 0, 1) := by decide +kernel
theorem dX12_saidBy_2 : decode cX12_saidBy 2 = .ok (.iload_n 2, 1) := by decide +kernel
theorem dX12_saidBy_3 : decode cX12_saidBy 3 = .ok (.invokevirtual 282, 3) := by decide +kernel
theorem dX12_saidBy_6 : decode cX12_saidBy 6 = .ok (.iload_n 3, 1) := by decide +kernel
theorem dX12_saidBy_7 : decode cX12_saidBy 7 = .ok (.if_icmp .ne 7, 3) := by decide +kernel
theorem dX12_saidBy_10 : decode cX12_saidBy 10 = .ok (.iconst 1, 1) := by decide +kernel
theorem dX12_saidBy_11 : decode cX12_saidBy 11 = .ok (.goto 4, 3) := by decide +kernel
theorem dX12_saidBy_14 : decode cX12_saidBy 14 = .ok (.iconst 0, 1) := by decide +kernel
theorem dX12_saidBy_15 : decode cX12_saidBy 15 = .ok (.ior, 1) := by decide +kernel
theorem dX12_saidBy_16 : decode cX12_saidBy 16 = .ok (.aload_n 0, 1) := by decide +kernel
theorem dX12_saidBy_17 : decode cX12_saidBy 17 = .ok (.iload_n 2, 1) := by decide +kernel
theorem dX12_saidBy_18 : decode cX12_saidBy 18 = .ok (.invokevirtual 282, 3) := by decide +kernel
theorem dX12_saidBy_21 : decode cX12_saidBy 21 = .ok (.iload 4, 2) := by decide +kernel
theorem dX12_saidBy_23 : decode cX12_saidBy 23 = .ok (.if_icmp .ne 7, 3) := by decide +kernel
theorem dX12_saidBy_26 : decode cX12_saidBy 26 = .ok (.iconst 2, 1) := by decide +kernel
theorem dX12_saidBy_27 : decode cX12_saidBy 27 = .ok (.goto 4, 3) := by decide +kernel
theorem dX12_saidBy_30 : decode cX12_saidBy 30 = .ok (.iconst 0, 1) := by decide +kernel
theorem dX12_saidBy_31 : decode cX12_saidBy 31 = .ok (.ior, 1) := by decide +kernel
theorem dX12_saidBy_32 : decode cX12_saidBy 32 = .ok (.ireturn, 1) := by decide +kernel
theorem dX12_together_0 : decode cX12_together 0 = .ok (.aload_n 0, 1) := by decide +kernel
theorem dX12_together_1 : decode cX12_together 1 = .ok (.iconst 0, 1) := by decide +kernel
theorem dX12_together_2 : decode cX12_together 2 = .ok (.putfield 91, 3) := by decide +kernel
theorem dX12_together_5 : decode cX12_together 5 = .ok (.iload_n 2, 1) := by decide +kernel
theorem dX12_together_6 : decode cX12_together 6 = .ok (.invokestatic 288, 3) := by decide +kernel
theorem dX12_together_9 : decode cX12_together 9 = .ok (.ifCond .eq 25, 3) := by decide +kernel
theorem dX12_together_12 : decode cX12_together 12 = .ok (.iload_n 3, 1) := by decide +kernel
theorem dX12_together_13 : decode cX12_together 13 = .ok (.invokestatic 288, 3) := by decide +kernel
theorem dX12_together_16 : decode cX12_together 16 = .ok (.ifCond .eq 18, 3) := by decide +kernel
theorem dX12_together_19 : decode cX12_together 19 = .ok (.aload_n 0, 1) := by decide +kernel
theorem dX12_together_20 : decode cX12_together 20 = .ok (.iload_n 1, 1) := by decide +kernel
theorem dX12_together_21 : decode cX12_together 21 = .ok (.invokevirtual 285, 3) := by decide +kernel
theorem dX12_together_24 : decode cX12_together 24 = .ok (.ifCond .eq 10, 3) := by decide +kernel
theorem dX12_together_27 : decode cX12_together 27 = .ok (.aload_n 0, 1) := by decide +kernel
theorem dX12_together_28 : decode cX12_together 28 = .ok (.getfield 276, 3) := by decide +kernel
theorem dX12_together_31 : decode cX12_together 31 = .ok (.ifCond .ne 5, 3) := by decide +kernel
theorem dX12_together_34 : decode cX12_together 34 = .ok (.iconst (-1), 1) := by decide +kernel
theorem dX12_together_35 : decode cX12_together 35 = .ok (.ireturn, 1) := by decide +kernel
theorem dX12_together_36 : decode cX12_together 36 = .ok (.bipush 20, 2) := by decide +kernel
theorem dX12_together_38 : decode cX12_together 38 = .ok (.aload_n 0, 1) := by decide +kernel
theorem dX12_together_39 : decode cX12_together 39 = .ok (.iconst 0, 1) := by decide +kernel
theorem dX12_together_40 : decode cX12_together 40 = .ok (.iconst 0, 1) := by decide +kernel
theorem dX12_together_41 : decode cX12_together 41 = .ok (.iload_n 2, 1) := by decide +kernel
theorem dX12_together_42 : decode cX12_together 42 = .ok (.iload_n 3, 1) := by decide +kernel
theorem dX12_together_43 : decode cX12_together 43 = .ok (.invokevirtual 383, 3) := by decide +kernel
theorem dX12_together_46 : decode cX12_together 46 = .ok (.imul, 1) := by decide +kernel
theorem dX12_together_47 : decode cX12_together 47 = .ok (.istore 4, 2) := by decide +kernel
theorem dX12_together_49 : decode cX12_together 49 = .ok (.iconst 0, 1) := by decide +kernel
theorem dX12_together_50 : decode cX12_together 50 = .ok (.istore 5, 2) := by decide +kernel
theorem dX12_together_52 : decode cX12_together 52 = .ok (.iload 5, 2) := by decide +kernel
theorem dX12_together_54 : decode cX12_together 54 = .ok (.sipush 200, 3) := by decide +kernel
theorem dX12_together_57 : decode cX12_together 57 = .ok (.if_icmp .ge 30, 3) := by decide +kernel
theorem dX12_together_60 : decode cX12_together 60 = .ok (.aload_n 0, 1) := by decide +kernel
theorem dX12_together_61 : decode cX12_together 61 = .ok (.getfield 56, 3) := by decide +kernel
theorem dX12_together_64 : decode cX12_together 64 = .ok (.iload 5, 2) := by decide +kernel
theorem dX12_together_66 : decode cX12_together 66 = .ok (.iload 5, 2) := by decide +kernel
theorem dX12_together_68 : decode cX12_together 68 = .ok (.iload 4, 2) := by decide +kernel
theorem dX12_together_70 : decode cX12_together 70 = .ok (.if_icmp .ne 7, 3) := by decide +kernel
theorem dX12_together_73 : decode cX12_together 73 = .ok (.iconst 1, 1) := by decide +kernel
theorem dX12_together_74 : decode cX12_together 74 = .ok (.goto 6, 3) := by decide +kernel
theorem dX12_together_77 : decode cX12_together 77 = .ok (.ldc_w 361, 3) := by decide +kernel
theorem dX12_together_80 : decode cX12_together 80 = .ok (.iastore, 1) := by decide +kernel
theorem dX12_together_81 : decode cX12_together 81 = .ok (.iinc 5 1, 3) := by decide +kernel
theorem dX12_together_84 : decode cX12_together 84 = .ok (.goto (-32), 3) := by decide +kernel
theorem dX12_together_87 : decode cX12_together 87 = .ok (.iconst 1, 1) := by decide +kernel
theorem dX12_together_88 : decode cX12_together 88 = .ok (.istore 5, 2) := by decide +kernel
theorem dX12_together_90 : decode cX12_together 90 = .ok (.iload 5, 2) := by decide +kernel
theorem dX12_together_92 : decode cX12_together 92 = .ok (.ifCond .eq 119, 3) := by decide +kernel
theorem dX12_together_95 : decode cX12_together 95 = .ok (.iconst 0, 1) := by decide +kernel
theorem dX12_together_96 : decode cX12_together 96 = .ok (.istore 5, 2) := by decide +kernel
theorem dX12_together_98 : decode cX12_together 98 = .ok (.iconst 0, 1) := by decide +kernel
theorem dX12_together_99 : decode cX12_together 99 = .ok (.istore 6, 2) := by decide +kernel
theorem dX12_together_101 : decode cX12_together 101 = .ok (.iload 6, 2) := by decide +kernel
theorem dX12_together_103 : decode cX12_together 103 = .ok (.bipush 80, 2) := by decide +kernel
theorem dX12_together_105 : decode cX12_together 105 = .ok (.if_icmp .ge 103, 3) := by decide +kernel
theorem dX12_together_108 : decode cX12_together 108 = .ok (.iconst 0, 1) := by decide +kernel
theorem dX12_together_109 : decode cX12_together 109 = .ok (.istore 7, 2) := by decide +kernel
theorem dX12_together_111 : decode cX12_together 111 = .ok (.aload_n 0, 1) := by decide +kernel
theorem dX12_together_112 : decode cX12_together 112 = .ok (.getfield 56, 3) := by decide +kernel
theorem dX12_together_115 : decode cX12_together 115 = .ok (.iload 6, 2) := by decide +kernel
theorem dX12_together_117 : decode cX12_together 117 = .ok (.iaload, 1) := by decide +kernel
theorem dX12_together_118 : decode cX12_together 118 = .ok (.ldc_w 361, 3) := by decide +kernel
theorem dX12_together_121 : decode cX12_together 121 = .ok (.if_icmp .ge 81, 3) := by decide +kernel
theorem dX12_together_124 : decode cX12_together 124 = .ok (.iload 7, 2) := by decide +kernel
theorem dX12_together_126 : decode cX12_together 126 = .ok (.aload_n 0, 1) := by decide +kernel
theorem dX12_together_127 : decode cX12_together 127 = .ok (.getfield 47, 3) := by decide +kernel
theorem dX12_together_130 : decode cX12_together 130 = .ok (.iload 6, 2) := by decide +kernel
theorem dX12_together_132 : decode cX12_together 132 = .ok (.bipush 20, 2) := by decide +kernel
theorem dX12_together_134 : decode cX12_together 134 = .ok (.irem, 1) := by decide +kernel
theorem dX12_together_135 : decode cX12_together 135 = .ok (.iaload, 1) := by decide +kernel
theorem dX12_together_136 : decode cX12_together 136 = .ok (.if_icmp .ge 66, 3) := by decide +kernel
theorem dX12_together_139 : decode cX12_together 139 = .ok (.aload_n 0, 1) := by decide +kernel
theorem dX12_together_140 : decode cX12_together 140 = .ok (.iload 6, 2) := by decide +kernel
theorem dX12_together_142 : decode cX12_together 142 = .ok (.bipush 20, 2) := by decide +kernel
theorem dX12_together_144 : decode cX12_together 144 = .ok (.irem, 1) := by decide +kernel
theorem dX12_together_145 : decode cX12_together 145 = .ok (.iload 7, 2) := by decide +kernel
theorem dX12_together_147 : decode cX12_together 147 = .ok (.invokevirtual 297, 3) := by decide +kernel
theorem dX12_together_150 : decode cX12_together 150 = .ok (.istore 8, 2) := by decide +kernel
theorem dX12_together_152 : decode cX12_together 152 = .ok (.aload_n 0, 1) := by decide +kernel
theorem dX12_together_153 : decode cX12_together 153 = .ok (.iload 6, 2) := by decide +kernel
theorem dX12_together_155 : decode cX12_together 155 = .ok (.bipush 20, 2) := by decide +kernel
theorem dX12_together_157 : decode cX12_together 157 = .ok (.aload_n 0, 1) := by decide +kernel
theorem dX12_together_158 : decode cX12_together 158 = .ok (.iload 6, 2) := by decide +kernel
theorem dX12_together_160 : decode cX12_together 160 = .ok (.bipush 20, 2) := by decide +kernel
theorem dX12_together_162 : decode cX12_together 162 = .ok (.idiv, 1) := by decide +kernel
theorem dX12_together_163 : decode cX12_together 163 = .ok (.iload 8, 2) := by decide +kernel
theorem dX12_together_165 : decode cX12_together 165 = .ok (.iload_n 2, 1) := by decide +kernel
theorem dX12_together_166 : decode cX12_together 166 = .ok (.iload_n 3, 1) := by decide +kernel
theorem dX12_together_167 : decode cX12_together 167 = .ok (.invokevirtual 383, 3) := by decide +kernel
theorem dX12_together_170 : decode cX12_together 170 = .ok (.imul, 1) := by decide +kernel
theorem dX12_together_171 : decode cX12_together 171 = .ok (.iload 8, 2) := by decide +kernel
theorem dX12_together_173 : decode cX12_together 173 = .ok (.iadd, 1) := by decide +kernel
theorem dX12_together_174 : decode cX12_together 174 = .ok (.invokevirtual 380, 3) := by decide +kernel
theorem dX12_together_177 : decode cX12_together 177 = .ok (.istore 9, 2) := by decide +kernel
theorem dX12_together_179 : decode cX12_together 179 = .ok (.iload 5, 2) := by decide +kernel
theorem dX12_together_181 : decode cX12_together 181 = .ok (.ifCond .ne 8, 3) := by decide +kernel
theorem dX12_together_184 : decode cX12_together 184 = .ok (.iload 9, 2) := by decide +kernel
theorem dX12_together_186 : decode cX12_together 186 = .ok (.ifCond .eq 7, 3) := by decide +kernel
theorem dX12_together_189 : decode cX12_together 189 = .ok (.iconst 1, 1) := by decide +kernel
theorem dX12_together_190 : decode cX12_together 190 = .ok (.goto 4, 3) := by decide +kernel
theorem dX12_together_193 : decode cX12_together 193 = .ok (.iconst 0, 1) := by decide +kernel
theorem dX12_together_194 : decode cX12_together 194 = .ok (.istore 5, 2) := by decide +kernel
theorem dX12_together_196 : decode cX12_together 196 = .ok (.iinc 7 1, 3) := by decide +kernel
theorem dX12_together_199 : decode cX12_together 199 = .ok (.goto (-88), 3) := by decide +kernel
theorem dX12_together_202 : decode cX12_together 202 = .ok (.iinc 6 1, 3) := by decide +kernel
theorem dX12_together_205 : decode cX12_together 205 = .ok (.goto (-104), 3) := by decide +kernel
theorem dX12_together_208 : decode cX12_together 208 = .ok (.goto (-118), 3) := by decide +kernel
theorem dX12_together_211 : decode cX12_together 211 = .ok (.ldc_w 361, 3) := by decide +kernel
theorem dX12_together_214 : decode cX12_together 214 = .ok (.istore 6, 2) := by decide +kernel
theorem dX12_together_216 : decode cX12_together 216 = .ok (.iconst 0, 1) := by decide +kernel
theorem dX12_together_217 : decode cX12_together 217 = .ok (.istore 7, 2) := by decide +kernel
theorem dX12_together_219 : decode cX12_together 219 = .ok (.iload 7, 2) := by decide +kernel
theorem dX12_together_221 : decode cX12_together 221 = .ok (.bipush 20, 2) := by decide +kernel
theorem dX12_together_223 : decode cX12_together 223 = .ok (.if_icmp .ge 26, 3) := by decide +kernel
theorem dX12_together_226 : decode cX12_together 226 = .ok (.iload 6, 2) := by decide +kernel
theorem dX12_together_228 : decode cX12_together 228 = .ok (.aload_n 0, 1) := by decide +kernel
theorem dX12_together_229 : decode cX12_together 229 = .ok (.getfield 56, 3) := by decide +kernel
theorem dX12_together_232 : decode cX12_together 232 = .ok (.bipush 60, 2) := by decide +kernel
theorem dX12_together_234 : decode cX12_together 234 = .ok (.iload 7, 2) := by decide +kernel
theorem dX12_together_236 : decode cX12_together 236 = .ok (.iadd, 1) := by decide +kernel
theorem dX12_together_237 : decode cX12_together 237 = .ok (.iaload, 1) := by decide +kernel
theorem dX12_together_238 : decode cX12_together 238 = .ok (.invokestatic 365, 3) := by decide +kernel
theorem dX12_together_241 : decode cX12_together 241 = .ok (.istore 6, 2) := by decide +kernel
theorem dX12_together_243 : decode cX12_together 243 = .ok (.iinc 7 1, 3) := by decide +kernel
theorem dX12_together_246 : decode cX12_together 246 = .ok (.goto (-27), 3) := by decide +kernel
theorem dX12_together_249 : decode cX12_together 249 = .ok (.iload 6, 2) := by decide +kernel
theorem dX12_together_251 : decode cX12_together 251 = .ok (.ldc_w 361, 3) := by decide +kernel
theorem dX12_together_254 : decode cX12_together 254 = .ok (.if_icmp .lt 7, 3) := by decide +kernel
theorem dX12_together_257 : decode cX12_together 257 = .ok (.iconst (-1), 1) := by decide +kernel
theorem dX12_together_258 : decode cX12_together 258 = .ok (.goto 5, 3) := by decide +kernel
theorem dX12_together_261 : decode cX12_together 261 = .ok (.iload 6, 2) := by decide +kernel
theorem dX12_together_263 : decode cX12_together 263 = .ok (.ireturn, 1) := by decide +kernel
theorem dX12_tens_0 : decode cX12_tens 0 = .ok (.lconst 1, 1) := by decide +kernel
theorem dX12_tens_1 : decode cX12_tens 1 = .ok (.lstore_n 1, 1) := by decide +kernel
theorem dX12_tens_2 : decode cX12_tens 2 = .ok (.iconst 0, 1) := by decide +kernel
theorem dX12_tens_3 : decode cX12_tens 3 = .ok (.istore_n 3, 1) := by decide +kernel
theorem dX12_tens_4 : decode cX12_tens 4 = .ok (.iload_n 3, 1) := by decide +kernel
theorem dX12_tens_5 : decode cX12_tens 5 = .ok (.iload_n 0, 1) := by decide +kernel
theorem dX12_tens_6 : decode cX12_tens 6 = .ok (.if_icmp .ge 15, 3) := by decide +kernel
theorem dX12_tens_9 : decode cX12_tens 9 = .ok (.lload_n 1, 1) := by decide +kernel
theorem dX12_tens_10 : decode cX12_tens 10 = .ok (.ldc2_w 387, 3) := by decide +kernel
theorem dX12_tens_13 : decode cX12_tens 13 = .ok (.lmul, 1) := by decide +kernel
theorem dX12_tens_14 : decode cX12_tens 14 = .ok (.lstore_n 1, 1) := by decide +kernel
theorem dX12_tens_15 : decode cX12_tens 15 = .ok (.iinc 3 1, 3) := by decide +kernel
theorem dX12_tens_18 : decode cX12_tens 18 = .ok (.goto (-14), 3) := by decide +kernel
theorem dX12_tens_21 : decode cX12_tens 21 = .ok (.lload_n 1, 1) := by decide +kernel
theorem dX12_tens_22 : decode cX12_tens 22 = .ok (.lreturn, 1) := by decide +kernel
theorem dX12_oneMore_0 : decode cX12_oneMore 0 = .ok (.iconst 0, 1) := by decide +kernel
theorem dX12_oneMore_1 : decode cX12_oneMore 1 = .ok (.istore_n 3, 1) := by decide +kernel
theorem dX12_oneMore_2 : decode cX12_oneMore 2 = .ok (.iload_n 3, 1) := by decide +kernel
theorem dX12_oneMore_3 : decode cX12_oneMore 3 = .ok (.bipush 20, 2) := by decide +kernel
theorem dX12_oneMore_5 : decode cX12_oneMore 5 = .ok (.if_icmp .ge 16, 3) := by decide +kernel
theorem dX12_oneMore_8 : decode cX12_oneMore 8 = .ok (.aload_n 0, 1) := by decide +kernel
theorem dX12_oneMore_9 : decode cX12_oneMore 9 = .ok (.getfield 63, 3) := by decide +kernel
theorem dX12_oneMore_12 : decode cX12_oneMore 12 = .ok (.iload_n 3, 1) := by decide +kernel
theorem dX12_oneMore_13 : decode cX12_oneMore 13 = .ok (.lconst 0, 1) := by decide +kernel
theorem dX12_oneMore_14 : decode cX12_oneMore 14 = .ok (.lastore, 1) := by decide +kernel
theorem dX12_oneMore_15 : decode cX12_oneMore 15 = .ok (.iinc 3 1, 3) := by decide +kernel
theorem dX12_oneMore_18 : decode cX12_oneMore 18 = .ok (.goto (-16), 3) := by decide +kernel
theorem dX12_oneMore_21 : decode cX12_oneMore 21 = .ok (.iload_n 1, 1) := by decide +kernel
theorem dX12_oneMore_22 : decode cX12_oneMore 22 = .ok (.ifCond .ne 35, 3) := by decide +kernel
theorem dX12_oneMore_25 : decode cX12_oneMore 25 = .ok (.aload_n 0, 1) := by decide +kernel
theorem dX12_oneMore_26 : decode cX12_oneMore 26 = .ok (.getfield 63, 3) := by decide +kernel
theorem dX12_oneMore_29 : decode cX12_oneMore 29 = .ok (.iconst 0, 1) := by decide +kernel
theorem dX12_oneMore_30 : decode cX12_oneMore 30 = .ok (.iload_n 2, 1) := by decide +kernel
theorem dX12_oneMore_31 : decode cX12_oneMore 31 = .ok (.ifCond .eq 9, 3) := by decide +kernel
theorem dX12_oneMore_34 : decode cX12_oneMore 34 = .ok (.ldc2_w 387, 3) := by decide +kernel
theorem dX12_oneMore_37 : decode cX12_oneMore 37 = .ok (.goto 19, 3) := by decide +kernel
theorem dX12_oneMore_40 : decode cX12_oneMore 40 = .ok (.bipush 10, 2) := by decide +kernel
theorem dX12_oneMore_42 : decode cX12_oneMore 42 = .ok (.aload_n 0, 1) := by decide +kernel
