theorem dX12_town_143 : decode cX12_town 143 = .ok (.ireturn, 1) := by decide +kernel
theorem dX12_draw_0 : decode cX12_draw 0 = .ok (.aload_n 0, 1) := by decide +kernel
theorem dX12_draw_1 : decode cX12_draw 1 = .ok (.aload_n 0, 1) := by decide +kernel
theorem dX12_draw_2 : decode cX12_draw 2 = .ok (.getfield 509, 3) := by decide +kernel
theorem dX12_draw_5 : decode cX12_draw 5 = .ok (.ldc_w 512, 3) := by decide +kernel
theorem dX12_draw_8 : decode cX12_draw 8 = .ok (.imul, 1) := by decide +kernel
theorem dX12_draw_9 : decode cX12_draw 9 = .ok (.sipush 12345, 3) := by decide +kernel
theorem dX12_draw_12 : decode cX12_draw 12 = .ok (.iadd, 1) := by decide +kernel
theorem dX12_draw_13 : decode cX12_draw 13 = .ok (.putfield 509, 3) := by decide +kernel
theorem dX12_draw_16 : decode cX12_draw 16 = .ok (.aload_n 0, 1) := by decide +kernel
theorem dX12_draw_17 : decode cX12_draw 17 = .ok (.getfield 509, 3) := by decide +kernel
theorem dX12_draw_20 : decode cX12_draw 20 = .ok (.bipush 16, 2) := by decide +kernel
theorem dX12_draw_22 : decode cX12_draw 22 = .ok (.iushr, 1) := by decide +kernel
theorem dX12_draw_23 : decode cX12_draw 23 = .ok (.iload_n 1, 1) := by decide +kernel
theorem dX12_draw_24 : decode cX12_draw 24 = .ok (.irem, 1) := by decide +kernel
theorem dX12_draw_25 : decode cX12_draw 25 = .ok (.ireturn, 1) := by decide +kernel
theorem dX12_drawDeed_0 : decode cX12_drawDeed 0 = .ok (.aload_n 0, 1) := by decide +kernel
theorem dX12_drawDeed_1 : decode cX12_drawDeed 1 = .ok (.bipush 8, 2) := by decide +kernel
theorem dX12_drawDeed_3 : decode cX12_drawDeed 3 = .ok (.invokevirtual 513, 3) := by decide +kernel
theorem dX12_drawDeed_6 : decode cX12_drawDeed 6 = .ok (.istore_n 1, 1) := by decide +kernel
theorem dX12_drawDeed_7 : decode cX12_drawDeed 7 = .ok (.iload_n 1, 1) := by decide +kernel
theorem dX12_drawDeed_8 : decode cX12_drawDeed 8 = .ok (.iconst 3, 1) := by decide +kernel
theorem dX12_drawDeed_9 : decode cX12_drawDeed 9 = .ok (.if_icmp .ge 18, 3) := by decide +kernel
theorem dX12_drawDeed_12 : decode cX12_drawDeed 12 = .ok (.aload_n 0, 1) := by decide +kernel
theorem dX12_drawDeed_13 : decode cX12_drawDeed 13 = .ok (.iconst 0, 1) := by decide +kernel
theorem dX12_drawDeed_14 : decode cX12_drawDeed 14 = .ok (.aload_n 0, 1) := by decide +kernel
theorem dX12_drawDeed_15 : decode cX12_drawDeed 15 = .ok (.getfield 50, 3) := by decide +kernel
theorem dX12_drawDeed_18 : decode cX12_drawDeed 18 = .ok (.iconst 2, 1) := by decide +kernel
theorem dX12_drawDeed_19 : decode cX12_drawDeed 19 = .ok (.iaload, 1) := by decide +kernel
theorem dX12_drawDeed_20 : decode cX12_drawDeed 20 = .ok (.invokevirtual 349, 3) := by decide +kernel
theorem dX12_drawDeed_23 : decode cX12_drawDeed 23 = .ok (.pop, 1) := by decide +kernel
theorem dX12_drawDeed_24 : decode cX12_drawDeed 24 = .ok (.goto 114, 3) := by decide +kernel
theorem dX12_drawDeed_27 : decode cX12_drawDeed 27 = .ok (.iload_n 1, 1) := by decide +kernel
theorem dX12_drawDeed_28 : decode cX12_drawDeed 28 = .ok (.iconst 3, 1) := by decide +kernel
theorem dX12_drawDeed_29 : decode cX12_drawDeed 29 = .ok (.if_icmp .ne 48, 3) := by decide +kernel
theorem dX12_drawDeed_32 : decode cX12_drawDeed 32 = .ok (.aload_n 0, 1) := by decide +kernel
theorem dX12_drawDeed_33 : decode cX12_drawDeed 33 = .ok (.getfield 50, 3) := by decide +kernel
theorem dX12_drawDeed_36 : decode cX12_drawDeed 36 = .ok (.iconst 1, 1) := by decide +kernel
theorem dX12_drawDeed_37 : decode cX12_drawDeed 37 = .ok (.iaload, 1) := by decide +kernel
theorem dX12_drawDeed_38 : decode cX12_drawDeed 38 = .ok (.istore_n 2, 1) := by decide +kernel
theorem dX12_drawDeed_39 : decode cX12_drawDeed 39 = .ok (.iload_n 2, 1) := by decide +kernel
theorem dX12_drawDeed_40 : decode cX12_drawDeed 40 = .ok (.iconst (-1), 1) := by decide +kernel
theorem dX12_drawDeed_41 : decode cX12_drawDeed 41 = .ok (.if_icmp .eq 33, 3) := by decide +kernel
theorem dX12_drawDeed_44 : decode cX12_drawDeed 44 = .ok (.aload_n 0, 1) := by decide +kernel
theorem dX12_drawDeed_45 : decode cX12_drawDeed 45 = .ok (.getfield 47, 3) := by decide +kernel
theorem dX12_drawDeed_48 : decode cX12_drawDeed 48 = .ok (.iload_n 2, 1) := by decide +kernel
theorem dX12_drawDeed_49 : decode cX12_drawDeed 49 = .ok (.iaload, 1) := by decide +kernel
theorem dX12_drawDeed_50 : decode cX12_drawDeed 50 = .ok (.ifCond .le 24, 3) := by decide +kernel
theorem dX12_drawDeed_53 : decode cX12_drawDeed 53 = .ok (.aload_n 0, 1) := by decide +kernel
theorem dX12_drawDeed_54 : decode cX12_drawDeed 54 = .ok (.iconst 0, 1) := by decide +kernel
theorem dX12_drawDeed_55 : decode cX12_drawDeed 55 = .ok (.aload_n 0, 1) := by decide +kernel
theorem dX12_drawDeed_56 : decode cX12_drawDeed 56 = .ok (.iload_n 2, 1) := by decide +kernel
theorem dX12_drawDeed_57 : decode cX12_drawDeed 57 = .ok (.aload_n 0, 1) := by decide +kernel
theorem dX12_drawDeed_58 : decode cX12_drawDeed 58 = .ok (.aload_n 0, 1) := by decide +kernel
theorem dX12_drawDeed_59 : decode cX12_drawDeed 59 = .ok (.getfield 47, 3) := by decide +kernel
theorem dX12_drawDeed_62 : decode cX12_drawDeed 62 = .ok (.iload_n 2, 1) := by decide +kernel
theorem dX12_drawDeed_63 : decode cX12_drawDeed 63 = .ok (.iaload, 1) := by decide +kernel
theorem dX12_drawDeed_64 : decode cX12_drawDeed 64 = .ok (.invokevirtual 513, 3) := by decide +kernel
theorem dX12_drawDeed_67 : decode cX12_drawDeed 67 = .ok (.invokevirtual 297, 3) := by decide +kernel
theorem dX12_drawDeed_70 : decode cX12_drawDeed 70 = .ok (.invokevirtual 349, 3) := by decide +kernel
theorem dX12_drawDeed_73 : decode cX12_drawDeed 73 = .ok (.pop, 1) := by decide +kernel
theorem dX12_drawDeed_74 : decode cX12_drawDeed 74 = .ok (.goto 64, 3) := by decide +kernel
theorem dX12_drawDeed_77 : decode cX12_drawDeed 77 = .ok (.iload_n 1, 1) := by decide +kernel
theorem dX12_drawDeed_78 : decode cX12_drawDeed 78 = .ok (.bipush 7, 2) := by decide +kernel
theorem dX12_drawDeed_80 : decode cX12_drawDeed 80 = .ok (.if_icmp .ge 32, 3) := by decide +kernel
theorem dX12_drawDeed_83 : decode cX12_drawDeed 83 = .ok (.aload_n 0, 1) := by decide +kernel
theorem dX12_drawDeed_84 : decode cX12_drawDeed 84 = .ok (.iload_n 1, 1) := by decide +kernel
theorem dX12_drawDeed_85 : decode cX12_drawDeed 85 = .ok (.iconst 4, 1) := by decide +kernel
theorem dX12_drawDeed_86 : decode cX12_drawDeed 86 = .ok (.if_icmp .ne 7, 3) := by decide +kernel
theorem dX12_drawDeed_89 : decode cX12_drawDeed 89 = .ok (.iconst 3, 1) := by decide +kernel
theorem dX12_drawDeed_90 : decode cX12_drawDeed 90 = .ok (.goto 14, 3) := by decide +kernel
theorem dX12_drawDeed_93 : decode cX12_drawDeed 93 = .ok (.iload_n 1, 1) := by decide +kernel
theorem dX12_drawDeed_94 : decode cX12_drawDeed 94 = .ok (.iconst 5, 1) := by decide +kernel
theorem dX12_drawDeed_95 : decode cX12_drawDeed 95 = .ok (.if_icmp .ne 7, 3) := by decide +kernel
theorem dX12_drawDeed_98 : decode cX12_drawDeed 98 = .ok (.iconst 4, 1) := by decide +kernel
theorem dX12_drawDeed_99 : decode cX12_drawDeed 99 = .ok (.goto 5, 3) := by decide +kernel
theorem dX12_drawDeed_102 : decode cX12_drawDeed 102 = .ok (.bipush 6, 2) := by decide +kernel
theorem dX12_drawDeed_104 : decode cX12_drawDeed 104 = .ok (.iconst (-1), 1) := by decide +kernel
theorem dX12_drawDeed_105 : decode cX12_drawDeed 105 = .ok (.invokevirtual 349, 3) := by decide +kernel
theorem dX12_drawDeed_108 : decode cX12_drawDeed 108 = .ok (.pop, 1) := by decide +kernel
theorem dX12_drawDeed_109 : decode cX12_drawDeed 109 = .ok (.goto 29, 3) := by decide +kernel
theorem dX12_drawDeed_112 : decode cX12_drawDeed 112 = .ok (.aload_n 0, 1) := by decide +kernel
theorem dX12_drawDeed_113 : decode cX12_drawDeed 113 = .ok (.bipush 6, 2) := by decide +kernel
theorem dX12_drawDeed_115 : decode cX12_drawDeed 115 = .ok (.invokevirtual 513, 3) := by decide +kernel
theorem dX12_drawDeed_118 : decode cX12_drawDeed 118 = .ok (.istore_n 2, 1) := by decide +kernel
theorem dX12_drawDeed_119 : decode cX12_drawDeed 119 = .ok (.aload_n 0, 1) := by decide +kernel
theorem dX12_drawDeed_120 : decode cX12_drawDeed 120 = .ok (.aload_n 0, 1) := by decide +kernel
theorem dX12_drawDeed_121 : decode cX12_drawDeed 121 = .ok (.iload_n 2, 1) := by decide +kernel
theorem dX12_drawDeed_122 : decode cX12_drawDeed 122 = .ok (.invokevirtual 321, 3) := by decide +kernel
theorem dX12_drawDeed_125 : decode cX12_drawDeed 125 = .ok (.ifCond .eq 7, 3) := by decide +kernel
theorem dX12_drawDeed_128 : decode cX12_drawDeed 128 = .ok (.iconst 1, 1) := by decide +kernel
theorem dX12_drawDeed_129 : decode cX12_drawDeed 129 = .ok (.goto 4, 3) := by decide +kernel
theorem dX12_drawDeed_132 : decode cX12_drawDeed 132 = .ok (.iconst 2, 1) := by decide +kernel
theorem dX12_drawDeed_133 : decode cX12_drawDeed 133 = .ok (.iload_n 2, 1) := by decide +kernel
theorem dX12_drawDeed_134 : decode cX12_drawDeed 134 = .ok (.invokevirtual 349, 3) := by decide +kernel
theorem dX12_drawDeed_137 : decode cX12_drawDeed 137 = .ok (.pop, 1) := by decide +kernel
theorem dX12_drawDeed_138 : decode cX12_drawDeed 138 = .ok (.return_, 1) := by decide +kernel
theorem dX12_drawn_0 : decode cX12_drawn 0 = .ok (.aload_n 0, 1) := by decide +kernel
theorem dX12_drawn_1 : decode cX12_drawn 1 = .ok (.iconst 0, 1) := by decide +kernel
theorem dX12_drawn_2 : decode cX12_drawn 2 = .ok (.putfield 91, 3) := by decide +kernel
theorem dX12_drawn_5 : decode cX12_drawn 5 = .ok (.iload_n 3, 1) := by decide +kernel
theorem dX12_drawn_6 : decode cX12_drawn 6 = .ok (.iconst 0, 1) := by decide +kernel
theorem dX12_drawn_7 : decode cX12_drawn 7 = .ok (.bipush 60, 2) := by decide +kernel
theorem dX12_drawn_9 : decode cX12_drawn 9 = .ok (.invokestatic 107, 3) := by decide +kernel
theorem dX12_drawn_12 : decode cX12_drawn 12 = .ok (.ifCond .eq 18, 3) := by decide +kernel
theorem dX12_drawn_15 : decode cX12_drawn 15 = .ok (.aload_n 0, 1) := by decide +kernel
theorem dX12_drawn_16 : decode cX12_drawn 16 = .ok (.iload_n 1, 1) := by decide +kernel
theorem dX12_drawn_17 : decode cX12_drawn 17 = .ok (.invokevirtual 285, 3) := by decide +kernel
theorem dX12_drawn_20 : decode cX12_drawn 20 = .ok (.ifCond .eq 10, 3) := by decide +kernel
theorem dX12_drawn_23 : decode cX12_drawn 23 = .ok (.aload_n 0, 1) := by decide +kernel
theorem dX12_drawn_24 : decode cX12_drawn 24 = .ok (.getfield 276, 3) := by decide +kernel
theorem dX12_drawn_27 : decode cX12_drawn 27 = .ok (.ifCond .ne 6, 3) := by decide +kernel
theorem dX12_drawn_30 : decode cX12_drawn 30 = .ok (.bipush (-2), 2) := by decide +kernel
theorem dX12_drawn_32 : decode cX12_drawn 32 = .ok (.ireturn, 1) := by decide +kernel
theorem dX12_drawn_33 : decode cX12_drawn 33 = .ok (.aload_n 0, 1) := by decide +kernel
theorem dX12_drawn_34 : decode cX12_drawn 34 = .ok (.iload_n 2, 1) := by decide +kernel
theorem dX12_drawn_35 : decode cX12_drawn 35 = .ok (.putfield 509, 3) := by decide +kernel
theorem dX12_drawn_38 : decode cX12_drawn 38 = .ok (.aload_n 0, 1) := by decide +kernel
theorem dX12_drawn_39 : decode cX12_drawn 39 = .ok (.invokevirtual 346, 3) := by decide +kernel
theorem dX12_drawn_42 : decode cX12_drawn 42 = .ok (.iconst 0, 1) := by decide +kernel
theorem dX12_drawn_43 : decode cX12_drawn 43 = .ok (.istore 5, 2) := by decide +kernel
theorem dX12_drawn_45 : decode cX12_drawn 45 = .ok (.iload 5, 2) := by decide +kernel
theorem dX12_drawn_47 : decode cX12_drawn 47 = .ok (.iload_n 3, 1) := by decide +kernel
theorem dX12_drawn_48 : decode cX12_drawn 48 = .ok (.if_icmp .ge 13, 3) := by decide +kernel
theorem dX12_drawn_51 : decode cX12_drawn 51 = .ok (.aload_n 0, 1) := by decide +kernel
theorem dX12_drawn_52 : decode cX12_drawn 52 = .ok (.invokevirtual 516, 3) := by decide +kernel
theorem dX12_drawn_55 : decode cX12_drawn 55 = .ok (.iinc 5 1, 3) := by decide +kernel
theorem dX12_drawn_58 : decode cX12_drawn 58 = .ok (.goto (-13), 3) := by decide +kernel
theorem dX12_drawn_61 : decode cX12_drawn 61 = .ok (.aload_n 0, 1) := by decide +kernel
theorem dX12_drawn_62 : decode cX12_drawn 62 = .ok (.iload 4, 2) := by decide +kernel
theorem dX12_drawn_64 : decode cX12_drawn 64 = .ok (.invokevirtual 358, 3) := by decide +kernel
theorem dX12_drawn_67 : decode cX12_drawn 67 = .ok (.ireturn, 1) := by decide +kernel
theorem dX12_reachable_0 : decode cX12_reachable 0 = .ok (.iconst 0, 1) := by decide +kernel
theorem dX12_reachable_1 : decode cX12_reachable 1 = .ok (.istore_n 3, 1) := by decide +kernel
theorem dX12_reachable_2 : decode cX12_reachable 2 = .ok (.iconst (-1), 1) := by decide +kernel
theorem dX12_reachable_3 : decode cX12_reachable 3 = .ok (.istore 4, 2) := by decide +kernel
theorem dX12_reachable_5 : decode cX12_reachable 5 = .ok (.aload_n 0, 1) := by decide +kernel
theorem dX12_reachable_6 : decode cX12_reachable 6 = .ok (.getfield 276, 3) := by decide +kernel
theorem dX12_reachable_9 : decode cX12_reachable 9 = .ok (.ifCond .le 21, 3) := by decide +kernel
theorem dX12_reachable_12 : decode cX12_reachable 12 = .ok (.iload_n 2, 1) := by decide +kernel
theorem dX12_reachable_13 : decode cX12_reachable 13 = .ok (.ifCond .eq 17, 3) := by decide +kernel
theorem dX12_reachable_16 : decode cX12_reachable 16 = .ok (.iload_n 1, 1) := by decide +kernel
theorem dX12_reachable_17 : decode cX12_reachable 17 = .ok (.aload_n 0, 1) := by decide +kernel
theorem dX12_reachable_18 : decode cX12_reachable 18 = .ok (.iconst 0, 1) := by decide +kernel
theorem dX12_reachable_19 : decode cX12_reachable 19 = .ok (.invokevirtual 282, 3) := by decide +kernel
theorem dX12_reachable_22 : decode cX12_reachable 22 = .ok (.invokestatic 95, 3) := by decide +kernel
theorem dX12_reachable_25 : decode cX12_reachable 25 = .ok (.ifCond .ne 5, 3) := by decide +kernel
theorem dX12_reachable_28 : decode cX12_reachable 28 = .ok (.iconst 1, 1) := by decide +kernel
theorem dX12_reachable_29 : decode cX12_reachable 29 = .ok (.istore_n 3, 1) := by decide +kernel
theorem dX12_reachable_30 : decode cX12_reachable 30 = .ok (.iload_n 3, 1) := by decide +kernel
theorem dX12_reachable_31 : decode cX12_reachable 31 = .ok (.iload 4, 2) := by decide +kernel
theorem dX12_reachable_33 : decode cX12_reachable 33 = .ok (.if_icmp .eq 97, 3) := by decide +kernel
theorem dX12_reachable_36 : decode cX12_reachable 36 = .ok (.iload_n 3, 1) := by decide +kernel
theorem dX12_reachable_37 : decode cX12_reachable 37 = .ok (.istore 4, 2) := by decide +kernel
theorem dX12_reachable_39 : decode cX12_reachable 39 = .ok (.iconst 0, 1) := by decide +kernel
theorem dX12_reachable_40 : decode cX12_reachable 40 = .ok (.istore 5, 2) := by decide +kernel
theorem dX12_reachable_42 : decode cX12_reachable 42 = .ok (.iload 5, 2) := by decide +kernel
theorem dX12_reachable_44 : decode cX12_reachable 44 = .ok (.aload_n 0, 1) := by decide +kernel
theorem dX12_reachable_45 : decode cX12_reachable 45 = .ok (.getfield 276, 3) := by decide +kernel
theorem dX12_reachable_48 : decode cX12_reachable 48 = .ok (.if_icmp .ge 79, 3) := by decide +kernel
theorem dX12_reachable_51 : decode cX12_reachable 51 = .ok (.iconst 0, 1) := by decide +kernel
theorem dX12_reachable_52 : decode cX12_reachable 52 = .ok (.istore 6, 2) := by decide +kernel
theorem dX12_reachable_54 : decode cX12_reachable 54 = .ok (.iload 6, 2) := by decide +kernel
theorem dX12_reachable_56 : decode cX12_reachable 56 = .ok (.aload_n 0, 1) := by decide +kernel
theorem dX12_reachable_57 : decode cX12_reachable 57 = .ok (.getfield 47, 3) := by decide +kernel
theorem dX12_reachable_60 : decode cX12_reachable 60 = .ok (.iload 5, 2) := by decide +kernel
theorem dX12_reachable_62 : decode cX12_reachable 62 = .ok (.iaload, 1) := by decide +kernel
theorem dX12_reachable_63 : decode cX12_reachable 63 = .ok (.if_icmp .ge 58, 3) := by decide +kernel
theorem dX12_reachable_66 : decode cX12_reachable 66 = .ok (.iload_n 3, 1) := by decide +kernel
theorem dX12_reachable_67 : decode cX12_reachable 67 = .ok (.iload 5, 2) := by decide +kernel
theorem dX12_reachable_69 : decode cX12_reachable 69 = .ok (.invokestatic 95, 3) := by decide +kernel
theorem dX12_reachable_72 : decode cX12_reachable 72 = .ok (.ifCond .eq 49, 3) := by decide +kernel
theorem dX12_reachable_75 : decode cX12_reachable 75 = .ok (.aload_n 0, 1) := by decide +kernel
theorem dX12_reachable_76 : decode cX12_reachable 76 = .ok (.iload 5, 2) := by decide +kernel
theorem dX12_reachable_78 : decode cX12_reachable 78 = .ok (.iload 6, 2) := by decide +kernel
theorem dX12_reachable_80 : decode cX12_reachable 80 = .ok (.invokevirtual 297, 3) := by decide +kernel
theorem dX12_reachable_83 : decode cX12_reachable 83 = .ok (.istore 7, 2) := by decide +kernel
theorem dX12_reachable_85 : decode cX12_reachable 85 = .ok (.iload_n 3, 1) := by decide +kernel
theorem dX12_reachable_86 : decode cX12_reachable 86 = .ok (.iload 7, 2) := by decide +kernel
theorem dX12_reachable_88 : decode cX12_reachable 88 = .ok (.iload_n 2, 1) := by decide +kernel
theorem dX12_reachable_89 : decode cX12_reachable 89 = .ok (.if_icmp .eq 16, 3) := by decide +kernel
theorem dX12_reachable_92 : decode cX12_reachable 92 = .ok (.iload_n 1, 1) := by decide +kernel
theorem dX12_reachable_93 : decode cX12_reachable 93 = .ok (.aload_n 0, 1) := by decide +kernel
theorem dX12_reachable_94 : decode cX12_reachable 94 = .ok (.iload 7, 2) := by decide +kernel
theorem dX12_reachable_96 : decode cX12_reachable 96 = .ok (.invokevirtual 282, 3) := by decide +kernel
theorem dX12_reachable_99 : decode cX12_reachable 99 = .ok (.invokestatic 95, 3) := by decide +kernel
theorem dX12_reachable_102 : decode cX12_reachable 102 = .ok (.ifCond .eq 7, 3) := by decide +kernel
theorem dX12_reachable_105 : decode cX12_reachable 105 = .ok (.iconst 0, 1) := by decide +kernel
theorem dX12_reachable_106 : decode cX12_reachable 106 = .ok (.goto 7, 3) := by decide +kernel
theorem dX12_reachable_109 : decode cX12_reachable 109 = .ok (.iconst 1, 1) := by decide +kernel
theorem dX12_reachable_110 : decode cX12_reachable 110 = .ok (.iload 7, 2) := by decide +kernel
theorem dX12_reachable_112 : decode cX12_reachable 112 = .ok (.ishl, 1) := by decide +kernel
theorem dX12_reachable_113 : decode cX12_reachable 113 = .ok (.ior, 1) := by decide +kernel
theorem dX12_reachable_114 : decode cX12_reachable 114 = .ok (.istore_n 3, 1) := by decide +kernel
theorem dX12_reachable_115 : decode cX12_reachable 115 = .ok (.iinc 6 1, 3) := by decide +kernel
theorem dX12_reachable_118 : decode cX12_reachable 118 = .ok (.goto (-64), 3) := by decide +kernel
theorem dX12_reachable_121 : decode cX12_reachable 121 = .ok (.iinc 5 1, 3) := by decide +kernel
theorem dX12_reachable_124 : decode cX12_reachable 124 = .ok (.goto (-82), 3) := by decide +kernel
theorem dX12_reachable_127 : decode cX12_reachable 127 = .ok (.goto (-97), 3) := by decide +kernel
theorem dX12_reachable_130 : decode cX12_reachable 130 = .ok (.iload_n 3, 1) := by decide +kernel
theorem dX12_reachable_131 : decode cX12_reachable 131 = .ok (.ireturn, 1) := by decide +kernel
theorem dX12_isSceneIn_0 : decode cX12_isSceneIn 0 = .ok (.iconst 0, 1) := by decide +kernel
theorem dX12_isSceneIn_1 : decode cX12_isSceneIn 1 = .ok (.istore_n 3, 1) := by decide +kernel
theorem dX12_isSceneIn_2 : decode cX12_isSceneIn 2 = .ok (.iload_n 3, 1) := by decide +kernel
theorem dX12_isSceneIn_3 : decode cX12_isSceneIn 3 = .ok (.aload_n 0, 1) := by decide +kernel
theorem dX12_isSceneIn_4 : decode cX12_isSceneIn 4 = .ok (.getfield 276, 3) := by decide +kernel
theorem dX12_isSceneIn_7 : decode cX12_isSceneIn 7 = .ok (.if_icmp .ge 28, 3) := by decide +kernel
theorem dX12_isSceneIn_10 : decode cX12_isSceneIn 10 = .ok (.iload_n 1, 1) := by decide +kernel
theorem dX12_isSceneIn_11 : decode cX12_isSceneIn 11 = .ok (.iload_n 3, 1) := by decide +kernel
theorem dX12_isSceneIn_12 : decode cX12_isSceneIn 12 = .ok (.invokestatic 95, 3) := by decide +kernel
theorem dX12_isSceneIn_15 : decode cX12_isSceneIn 15 = .ok (.ifCond .eq 14, 3) := by decide +kernel
theorem dX12_isSceneIn_18 : decode cX12_isSceneIn 18 = .ok (.aload_n 0, 1) := by decide +kernel
theorem dX12_isSceneIn_19 : decode cX12_isSceneIn 19 = .ok (.iload_n 3, 1) := by decide +kernel
theorem dX12_isSceneIn_20 : decode cX12_isSceneIn 20 = .ok (.iload_n 2, 1) := by decide +kernel
theorem dX12_isSceneIn_21 : decode cX12_isSceneIn 21 = .ok (.invokevirtual 368, 3) := by decide +kernel
theorem dX12_isSceneIn_24 : decode cX12_isSceneIn 24 = .ok (.ifCond .eq 5, 3) := by decide +kernel
theorem dX12_isSceneIn_27 : decode cX12_isSceneIn 27 = .ok (.iconst 1, 1) := by decide +kernel
theorem dX12_isSceneIn_28 : decode cX12_isSceneIn 28 = .ok (.ireturn, 1) := by decide +kernel
theorem dX12_isSceneIn_29 : decode cX12_isSceneIn 29 = .ok (.iinc 3 1, 3) := by decide +kernel
theorem dX12_isSceneIn_32 : decode cX12_isSceneIn 32 = .ok (.goto (-30), 3) := by decide +kernel
theorem dX12_isSceneIn_35 : decode cX12_isSceneIn 35 = .ok (.iconst 0, 1) := by decide +kernel
theorem dX12_isSceneIn_36 : decode cX12_isSceneIn 36 = .ok (.ireturn, 1) := by decide +kernel
theorem dX12_bar_0 : decode cX12_bar 0 = .ok (.aload_n 0, 1) := by decide +kernel
theorem dX12_bar_1 : decode cX12_bar 1 = .ok (.iconst 0, 1) := by decide +kernel
theorem dX12_bar_2 : decode cX12_bar 2 = .ok (.putfield 91, 3) := by decide +kernel
theorem dX12_bar_5 : decode cX12_bar 5 = .ok (.iload_n 2, 1) := by decide +kernel
theorem dX12_bar_6 : decode cX12_bar 6 = .ok (.invokestatic 371, 3) := by decide +kernel
theorem dX12_bar_9 : decode cX12_bar 9 = .ok (.ifCond .eq 11, 3) := by decide +kernel
theorem dX12_bar_12 : decode cX12_bar 12 = .ok (.aload_n 0, 1) := by decide +kernel
theorem dX12_bar_13 : decode cX12_bar 13 = .ok (.iload_n 1, 1) := by decide +kernel
theorem dX12_bar_14 : decode cX12_bar 14 = .ok (.invokevirtual 285, 3) := by decide +kernel
theorem dX12_bar_17 : decode cX12_bar 17 = .ok (.ifCond .ne 5, 3) := by decide +kernel
theorem dX12_bar_20 : decode cX12_bar 20 = .ok (.iconst (-1), 1) := by decide +kernel
theorem dX12_bar_21 : decode cX12_bar 21 = .ok (.ireturn, 1) := by decide +kernel
theorem dX12_bar_22 : decode cX12_bar 22 = .ok (.iconst (-1), 1) := by decide +kernel
theorem dX12_bar_23 : decode cX12_bar 23 = .ok (.istore_n 3, 1) := by decide +kernel
theorem dX12_bar_24 : decode cX12_bar 24 = .ok (.iconst 0, 1) := by decide +kernel
theorem dX12_bar_25 : decode cX12_bar 25 = .ok (.istore 4, 2) := by decide +kernel
theorem dX12_bar_27 : decode cX12_bar 27 = .ok (.iload 4, 2) := by decide +kernel
theorem dX12_bar_29 : decode cX12_bar 29 = .ok (.bipush 64, 2) := by decide +kernel
theorem dX12_bar_31 : decode cX12_bar 31 = .ok (.if_icmp .ge 60, 3) := by decide +kernel
theorem dX12_bar_34 : decode cX12_bar 34 = .ok (.iload_n 3, 1) := by decide +kernel
theorem dX12_bar_35 : decode cX12_bar 35 = .ok (.iconst (-1), 1) := by decide +kernel
theorem dX12_bar_36 : decode cX12_bar 36 = .ok (.if_icmp .eq 15, 3) := by decide +kernel
theorem dX12_bar_39 : decode cX12_bar 39 = .ok (.iload 4, 2) := by decide +kernel
theorem dX12_bar_41 : decode cX12_bar 41 = .ok (.invokestatic 488, 3) := by decide +kernel
theorem dX12_bar_44 : decode cX12_bar 44 = .ok (.iload_n 3, 1) := by decide +kernel
theorem dX12_bar_45 : decode cX12_bar 45 = .ok (.invokestatic 488, 3) := by decide +kernel
theorem dX12_bar_48 : decode cX12_bar 48 = .ok (.if_icmp .ge 22, 3) := by decide +kernel
theorem dX12_bar_51 : decode cX12_bar 51 = .ok (.aload_n 0, 1) := by decide +kernel
theorem dX12_bar_52 : decode cX12_bar 52 = .ok (.aload_n 0, 1) := by decide +kernel
theorem dX12_bar_53 : decode cX12_bar 53 = .ok (.iload 4, 2) := by decide +kernel
theorem dX12_bar_55 : decode cX12_bar 55 = .ok (.iconst (-1), 1) := by decide +kernel
theorem dX12_bar_56 : decode cX12_bar 56 = .ok (.invokevirtual 519, 3) := by decide +kernel
theorem dX12_bar_59 : decode cX12_bar 59 = .ok (.iload_n 2, 1) := by decide +kernel
theorem dX12_bar_60 : decode cX12_bar 60 = .ok (.invokevirtual 522, 3) := by decide +kernel
theorem dX12_bar_63 : decode cX12_bar 63 = .ok (.ifCond .ne 7, 3) := by decide +kernel
theorem dX12_bar_66 : decode cX12_bar 66 = .ok (.iconst 1, 1) := by decide +kernel
theorem dX12_bar_67 : decode cX12_bar 67 = .ok (.goto 4, 3) := by decide +kernel
theorem dX12_bar_70 : decode cX12_bar 70 = .ok (.iconst 0, 1) := by decide +kernel
theorem dX12_bar_71 : decode cX12_bar 71 = .ok (.istore 5, 2) := by decide +kernel
theorem dX12_bar_73 : decode cX12_bar 73 = .ok (.iload 5, 2) := by decide +kernel
theorem dX12_bar_75 : decode cX12_bar 75 = .ok (.ifCond .eq 8, 3) := by decide +kernel
theorem dX12_bar_78 : decode cX12_bar 78 = .ok (.iload 4, 2) := by decide +kernel
theorem dX12_bar_80 : decode cX12_bar 80 = .ok (.goto 4, 3) := by decide +kernel
theorem dX12_bar_83 : decode cX12_bar 83 = .ok (.iload_n 3, 1) := by decide +kernel
theorem dX12_bar_84 : decode cX12_bar 84 = .ok (.istore_n 3, 1) := by decide +kernel
theorem dX12_bar_85 : decode cX12_bar 85 = .ok (.iinc 4 1, 3) := by decide +kernel
theorem dX12_bar_88 : decode cX12_bar 88 = .ok (.goto (-61), 3) := by decide +kernel
theorem dX12_bar_91 : decode cX12_bar 91 = .ok (.iload_n 3, 1) := by decide +kernel
theorem dX12_bar_92 : decode cX12_bar 92 = .ok (.ireturn, 1) := by decide +kernel
theorem dX12_must_0 : decode cX12_must 0 = .ok (.aload_n 0, 1) := by decide +kernel
theorem dX12_must_1 : decode cX12_must 1 = .ok (.iconst 0, 1) := by decide +kernel
theorem dX12_must_2 : decode cX12_must 2 = .ok (.putfield 91, 3) := by decide +kernel
theorem dX12_must_5 : decode cX12_must 5 = .ok (.iload_n 2, 1) := by decide +kernel
theorem dX12_must_6 : decode cX12_must 6 = .ok (.invokestatic 371, 3) := by decide +kernel
theorem dX12_must_9 : decode cX12_must 9 = .ok (.ifCond .eq 25, 3) := by decide +kernel
theorem dX12_must_12 : decode cX12_must 12 = .ok (.aload_n 0, 1) := by decide +kernel
theorem dX12_must_13 : decode cX12_must 13 = .ok (.iload_n 1, 1) := by decide +kernel
theorem dX12_must_14 : decode cX12_must 14 = .ok (.invokevirtual 285, 3) := by decide +kernel
theorem dX12_must_17 : decode cX12_must 17 = .ok (.ifCond .eq 17, 3) := by decide +kernel
theorem dX12_must_20 : decode cX12_must 20 = .ok (.aload_n 0, 1) := by decide +kernel
theorem dX12_must_21 : decode cX12_must 21 = .ok (.aload_n 0, 1) := by decide +kernel
theorem dX12_must_22 : decode cX12_must 22 = .ok (.iconst 0, 1) := by decide +kernel
theorem dX12_must_23 : decode cX12_must 23 = .ok (.iconst (-1), 1) := by decide +kernel
theorem dX12_must_24 : decode cX12_must 24 = .ok (.invokevirtual 519, 3) := by decide +kernel
theorem dX12_must_27 : decode cX12_must 27 = .ok (.iload_n 2, 1) := by decide +kernel
theorem dX12_must_28 : decode cX12_must 28 = .ok (.invokevirtual 522, 3) := by decide +kernel
theorem dX12_must_31 : decode cX12_must 31 = .ok (.ifCond .ne 5, 3) := by decide +kernel
theorem dX12_must_34 : decode cX12_must 34 = .ok (.iconst (-1), 1) := by decide +kernel
theorem dX12_must_35 : decode cX12_must 35 = .ok (.ireturn, 1) := by decide +kernel
theorem dX12_must_36 : decode cX12_must 36 = .ok (.iconst 0, 1) := by decide +kernel
theorem dX12_must_37 : decode cX12_must 37 = .ok (.istore_n 3, 1) := by decide +kernel
theorem dX12_must_38 : decode cX12_must 38 = .ok (.iconst 0, 1) := by decide +kernel
theorem dX12_must_39 : decode cX12_must 39 = .ok (.istore 4, 2) := by decide +kernel
theorem dX12_must_41 : decode cX12_must 41 = .ok (.iload 4, 2) := by decide +kernel
theorem dX12_must_43 : decode cX12_must 43 = .ok (.aload_n 0, 1) := by decide +kernel
theorem dX12_must_44 : decode cX12_must 44 = .ok (.getfield 276, 3) := by decide +kernel
theorem dX12_must_47 : decode cX12_must 47 = .ok (.if_icmp .ge 45, 3) := by decide +kernel
theorem dX12_must_50 : decode cX12_must 50 = .ok (.iload_n 3, 1) := by decide +kernel
theorem dX12_must_51 : decode cX12_must 51 = .ok (.aload_n 0, 1) := by decide +kernel
theorem dX12_must_52 : decode cX12_must 52 = .ok (.iload 4, 2) := by decide +kernel
theorem dX12_must_54 : decode cX12_must 54 = .ok (.iload_n 2, 1) := by decide +kernel
theorem dX12_must_55 : decode cX12_must 55 = .ok (.invokevirtual 368, 3) := by decide +kernel
theorem dX12_must_58 : decode cX12_must 58 = .ok (.ifCond .ne 25, 3) := by decide +kernel
theorem dX12_must_61 : decode cX12_must 61 = .ok (.aload_n 0, 1) := by decide +kernel
theorem dX12_must_62 : decode cX12_must 62 = .ok (.aload_n 0, 1) := by decide +kernel
theorem dX12_must_63 : decode cX12_must 63 = .ok (.iconst 0, 1) := by decide +kernel
theorem dX12_must_64 : decode cX12_must 64 = .ok (.iload 4, 2) := by decide +kernel
theorem dX12_must_66 : decode cX12_must 66 = .ok (.invokevirtual 519, 3) := by decide +kernel
theorem dX12_must_69 : decode cX12_must 69 = .ok (.iload_n 2, 1) := by decide +kernel
theorem dX12_must_70 : decode cX12_must 70 = .ok (.invokevirtual 522, 3) := by decide +kernel
theorem dX12_must_73 : decode cX12_must 73 = .ok (.ifCond .ne 10, 3) := by decide +kernel
theorem dX12_must_76 : decode cX12_must 76 = .ok (.iconst 1, 1) := by decide +kernel
theorem dX12_must_77 : decode cX12_must 77 = .ok (.iload 4, 2) := by decide +kernel
theorem dX12_must_79 : decode cX12_must 79 = .ok (.ishl, 1) := by decide +kernel
theorem dX12_must_80 : decode cX12_must 80 = .ok (.goto 4, 3) := by decide +kernel
theorem dX12_must_83 : decode cX12_must 83 = .ok (.iconst 0, 1) := by decide +kernel
theorem dX12_must_84 : decode cX12_must 84 = .ok (.ior, 1) := by decide +kernel
theorem dX12_must_85 : decode cX12_must 85 = .ok (.istore_n 3, 1) := by decide +kernel
theorem dX12_must_86 : decode cX12_must 86 = .ok (.iinc 4 1, 3) := by decide +kernel
theorem dX12_must_89 : decode cX12_must 89 = .ok (.goto (-48), 3) := by decide +kernel
theorem dX12_must_92 : decode cX12_must 92 = .ok (.iload_n 3, 1) := by decide +kernel
theorem dX12_must_93 : decode cX12_must 93 = .ok (.ireturn, 1) := by decide +kernel
theorem dX12_ways_0 : decode cX12_ways 0 = .ok (.aload_n 0, 1) := by decide +kernel
theorem dX12_ways_1 : decode cX12_ways 1 = .ok (.iconst 0, 1) := by decide +kernel
theorem dX12_ways_2 : decode cX12_ways 2 = .ok (.putfield 91, 3) := by decide +kernel
theorem dX12_ways_5 : decode cX12_ways 5 = .ok (.iload_n 2, 1) := by decide +kernel
theorem dX12_ways_6 : decode cX12_ways 6 = .ok (.iconst 1, 1) := by decide +kernel
theorem dX12_ways_7 : decode cX12_ways 7 = .ok (.bipush 12, 2) := by decide +kernel
theorem dX12_ways_9 : decode cX12_ways 9 = .ok (.invokestatic 107, 3) := by decide +kernel
theorem dX12_ways_12 : decode cX12_ways 12 = .ok (.ifCond .eq 11, 3) := by decide +kernel
theorem dX12_ways_15 : decode cX12_ways 15 = .ok (.aload_n 0, 1) := by decide +kernel
theorem dX12_ways_16 : decode cX12_ways 16 = .ok (.iload_n 1, 1) := by decide +kernel
theorem dX12_ways_17 : decode cX12_ways 17 = .ok (.invokevirtual 285, 3) := by decide +kernel
theorem dX12_ways_20 : decode cX12_ways 20 = .ok (.ifCond .ne 7, 3) := by decide +kernel
theorem dX12_ways_23 : decode cX12_ways 23 = .ok (.ldc2_w 389, 3) := by decide +kernel
theorem dX12_ways_26 : decode cX12_ways 26 = .ok (.lreturn, 1) := by decide +kernel
theorem dX12_ways_27 : decode cX12_ways 27 = .ok (.iconst 0, 1) := by decide +kernel
theorem dX12_ways_28 : decode cX12_ways 28 = .ok (.istore_n 3, 1) := by decide +kernel
theorem dX12_ways_29 : decode cX12_ways 29 = .ok (.iload_n 3, 1) := by decide +kernel
theorem dX12_ways_30 : decode cX12_ways 30 = .ok (.iload_n 2, 1) := by decide +kernel
theorem dX12_ways_31 : decode cX12_ways 31 = .ok (.if_icmp .ge 112, 3) := by decide +kernel
theorem dX12_ways_34 : decode cX12_ways 34 = .ok (.iconst 0, 1) := by decide +kernel
theorem dX12_ways_35 : decode cX12_ways 35 = .ok (.istore 4, 2) := by decide +kernel
theorem dX12_ways_37 : decode cX12_ways 37 = .ok (.iload 4, 2) := by decide +kernel
theorem dX12_ways_39 : decode cX12_ways 39 = .ok (.aload_n 0, 1) := by decide +kernel
theorem dX12_ways_40 : decode cX12_ways 40 = .ok (.getfield 276, 3) := by decide +kernel
theorem dX12_ways_43 : decode cX12_ways 43 = .ok (.if_icmp .ge 94, 3) := by decide +kernel
theorem dX12_ways_46 : decode cX12_ways 46 = .ok (.iload_n 3, 1) := by decide +kernel
theorem dX12_ways_47 : decode cX12_ways 47 = .ok (.ifCond .eq 13, 3) := by decide +kernel
theorem dX12_ways_50 : decode cX12_ways 50 = .ok (.aload_n 0, 1) := by decide +kernel
theorem dX12_ways_51 : decode cX12_ways 51 = .ok (.getfield 47, 3) := by decide +kernel
theorem dX12_ways_54 : decode cX12_ways 54 = .ok (.iload 4, 2) := by decide +kernel
theorem dX12_ways_56 : decode cX12_ways 56 = .ok (.iaload, 1) := by decide +kernel
theorem dX12_ways_57 : decode cX12_ways 57 = .ok (.ifCond .ne 7, 3) := by decide +kernel
theorem dX12_ways_60 : decode cX12_ways 60 = .ok (.lconst 1, 1) := by decide +kernel
theorem dX12_ways_61 : decode cX12_ways 61 = .ok (.goto 4, 3) := by decide +kernel
theorem dX12_ways_64 : decode cX12_ways 64 = .ok (.lconst 0, 1) := by decide +kernel
theorem dX12_ways_65 : decode cX12_ways 65 = .ok (.lstore 5, 2) := by decide +kernel
theorem dX12_ways_67 : decode cX12_ways 67 = .ok (.iconst 0, 1) := by decide +kernel
theorem dX12_ways_68 : decode cX12_ways 68 = .ok (.istore 7, 2) := by decide +kernel
theorem dX12_ways_70 : decode cX12_ways 70 = .ok (.iload 7, 2) := by decide +kernel
theorem dX12_ways_72 : decode cX12_ways 72 = .ok (.aload_n 0, 1) := by decide +kernel
theorem dX12_ways_73 : decode cX12_ways 73 = .ok (.getfield 47, 3) := by decide +kernel
theorem dX12_ways_76 : decode cX12_ways 76 = .ok (.iload 4, 2) := by decide +kernel
theorem dX12_ways_78 : decode cX12_ways 78 = .ok (.iaload, 1) := by decide +kernel
theorem dX12_ways_79 : decode cX12_ways 79 = .ok (.if_icmp .ge 38, 3) := by decide +kernel
theorem dX12_ways_82 : decode cX12_ways 82 = .ok (.iload_n 3, 1) := by decide +kernel
theorem dX12_ways_83 : decode cX12_ways 83 = .ok (.ifCond .le 34, 3) := by decide +kernel
theorem dX12_ways_86 : decode cX12_ways 86 = .ok (.lload 5, 2) := by decide +kernel
theorem dX12_ways_88 : decode cX12_ways 88 = .ok (.aload_n 0, 1) := by decide +kernel
theorem dX12_ways_89 : decode cX12_ways 89 = .ok (.getfield 75, 3) := by decide +kernel
theorem dX12_ways_92 : decode cX12_ways 92 = .ok (.bipush 20, 2) := by decide +kernel
theorem dX12_ways_94 : decode cX12_ways 94 = .ok (.iload_n 3, 1) := by decide +kernel
theorem dX12_ways_95 : decode cX12_ways 95 = .ok (.iconst 1, 1) := by decide +kernel
theorem dX12_ways_96 : decode cX12_ways 96 = .ok (.isub, 1) := by decide +kernel
theorem dX12_ways_97 : decode cX12_ways 97 = .ok (.imul, 1) := by decide +kernel
theorem dX12_ways_98 : decode cX12_ways 98 = .ok (.aload_n 0, 1) := by decide +kernel
theorem dX12_ways_99 : decode cX12_ways 99 = .ok (.iload 4, 2) := by decide +kernel
theorem dX12_ways_101 : decode cX12_ways 101 = .ok (.iload 7, 2) := by decide +kernel
theorem dX12_ways_103 : decode cX12_ways 103 = .ok (.invokevirtual 297, 3) := by decide +kernel
theorem dX12_ways_106 : decode cX12_ways 106 = .ok (.iadd, 1) := by decide +kernel
theorem dX12_ways_107 : decode cX12_ways 107 = .ok (.laload, 1) := by decide +kernel
theorem dX12_ways_108 : decode cX12_ways 108 = .ok (.ladd, 1) := by decide +kernel
theorem dX12_ways_109 : decode cX12_ways 109 = .ok (.lstore 5, 2) := by decide +kernel
theorem dX12_ways_111 : decode cX12_ways 111 = .ok (.iinc 7 1, 3) := by decide +kernel
theorem dX12_ways_114 : decode cX12_ways 114 = .ok (.goto (-44), 3) := by decide +kernel
theorem dX12_ways_117 : decode cX12_ways 117 = .ok (.aload_n 0, 1) := by decide +kernel
theorem dX12_ways_118 : decode cX12_ways 118 = .ok (.getfield 75, 3) := by decide +kernel
theorem dX12_ways_121 : decode cX12_ways 121 = .ok (.bipush 20, 2) := by decide +kernel
theorem dX12_ways_123 : decode cX12_ways 123 = .ok (.iload_n 3, 1) := by decide +kernel
theorem dX12_ways_124 : decode cX12_ways 124 = .ok (.imul, 1) := by decide +kernel
theorem dX12_ways_125 : decode cX12_ways 125 = .ok (.iload 4, 2) := by decide +kernel
theorem dX12_ways_127 : decode cX12_ways 127 = .ok (.iadd, 1) := by decide +kernel
theorem dX12_ways_128 : decode cX12_ways 128 = .ok (.lload 5, 2) := by decide +kernel
theorem dX12_ways_130 : decode cX12_ways 130 = .ok (.lastore, 1) := by decide +kernel
theorem dX12_ways_131 : decode cX12_ways 131 = .ok (.iinc 4 1, 3) := by decide +kernel
theorem dX12_ways_134 : decode cX12_ways 134 = .ok (.goto (-97), 3) := by decide +kernel
theorem dX12_ways_137 : decode cX12_ways 137 = .ok (.iinc 3 1, 3) := by decide +kernel
theorem dX12_ways_140 : decode cX12_ways 140 = .ok (.goto (-111), 3) := by decide +kernel
theorem dX12_ways_143 : decode cX12_ways 143 = .ok (.aload_n 0, 1) := by decide +kernel
theorem dX12_ways_144 : decode cX12_ways 144 = .ok (.getfield 276, 3) := by decide +kernel
theorem dX12_ways_147 : decode cX12_ways 147 = .ok (.ifCond .ne 7, 3) := by decide +kernel
theorem dX12_ways_150 : decode cX12_ways 150 = .ok (.lconst 0, 1) := by decide +kernel
theorem dX12_ways_151 : decode cX12_ways 151 = .ok (.goto 14, 3) := by decide +kernel
theorem dX12_ways_154 : decode cX12_ways 154 = .ok (.aload_n 0, 1) := by decide +kernel
theorem dX12_ways_155 : decode cX12_ways 155 = .ok (.getfield 75, 3) := by decide +kernel
theorem dX12_ways_158 : decode cX12_ways 158 = .ok (.bipush 20, 2) := by decide +kernel
theorem dX12_ways_160 : decode cX12_ways 160 = .ok (.iload_n 2, 1) := by decide +kernel
theorem dX12_ways_161 : decode cX12_ways 161 = .ok (.iconst 1, 1) := by decide +kernel
theorem dX12_ways_162 : decode cX12_ways 162 = .ok (.isub, 1) := by decide +kernel
theorem dX12_ways_163 : decode cX12_ways 163 = .ok (.imul, 1) := by decide +kernel
theorem dX12_ways_164 : decode cX12_ways 164 = .ok (.laload, 1) := by decide +kernel
theorem dX12_ways_165 : decode cX12_ways 165 = .ok (.lreturn, 1) := by decide +kernel
theorem dX12_cell_0 : decode cX12_cell 0 = .ok (.bipush 10, 2) := by decide +kernel
theorem dX12_cell_2 : decode cX12_cell 2 = .ok (.iload_n 0, 1) := by decide +kernel
theorem dX12_cell_3 : decode cX12_cell 3 = .ok (.imul, 1) := by decide +kernel
theorem dX12_cell_4 : decode cX12_cell 4 = .ok (.iload_n 1, 1) := by decide +kernel
theorem dX12_cell_5 : decode cX12_cell 5 = .ok (.iadd, 1) := by decide +kernel
theorem dX12_cell_6 : decode cX12_cell 6 = .ok (.bipush 20, 2) := by decide +kernel
theorem dX12_cell_8 : decode cX12_cell 8 = .ok (.imul, 1) := by decide +kernel
theorem dX12_cell_9 : decode cX12_cell 9 = .ok (.iload_n 2, 1) := by decide +kernel
theorem dX12_cell_10 : decode cX12_cell 10 = .ok (.iadd, 1) := by decide +kernel
theorem dX12_cell_11 : decode cX12_cell 11 = .ok (.ireturn, 1) := by decide +kernel
theorem dX12_worst_0 : decode cX12_worst 0 = .ok (.aload_n 0, 1) := by decide +kernel
theorem dX12_worst_1 : decode cX12_worst 1 = .ok (.iconst 0, 1) := by decide +kernel
theorem dX12_worst_2 : decode cX12_worst 2 = .ok (.putfield 91, 3) := by decide +kernel
theorem dX12_worst_5 : decode cX12_worst 5 = .ok (.iload_n 2, 1) := by decide +kernel
theorem dX12_worst_6 : decode cX12_worst 6 = .ok (.iconst 1, 1) := by decide +kernel
theorem dX12_worst_7 : decode cX12_worst 7 = .ok (.bipush 20, 2) := by decide +kernel
theorem dX12_worst_9 : decode cX12_worst 9 = .ok (.invokestatic 107, 3) := by decide +kernel
theorem dX12_worst_12 : decode cX12_worst 12 = .ok (.ifCond .eq 28, 3) := by decide +kernel
theorem dX12_worst_15 : decode cX12_worst 15 = .ok (.iload_n 3, 1) := by decide +kernel
theorem dX12_worst_16 : decode cX12_worst 16 = .ok (.iconst 0, 1) := by decide +kernel
theorem dX12_worst_17 : decode cX12_worst 17 = .ok (.bipush 9, 2) := by decide +kernel
theorem dX12_worst_19 : decode cX12_worst 19 = .ok (.invokestatic 107, 3) := by decide +kernel
theorem dX12_worst_22 : decode cX12_worst 22 = .ok (.ifCond .eq 18, 3) := by decide +kernel
theorem dX12_worst_25 : decode cX12_worst 25 = .ok (.aload_n 0, 1) := by decide +kernel
theorem dX12_worst_26 : decode cX12_worst 26 = .ok (.iload_n 1, 1) := by decide +kernel
theorem dX12_worst_27 : decode cX12_worst 27 = .ok (.invokevirtual 285, 3) := by decide +kernel
theorem dX12_worst_30 : decode cX12_worst 30 = .ok (.ifCond .eq 10, 3) := by decide +kernel
theorem dX12_worst_33 : decode cX12_worst 33 = .ok (.aload_n 0, 1) := by decide +kernel
theorem dX12_worst_34 : decode cX12_worst 34 = .ok (.getfield 276, 3) := by decide +kernel
theorem dX12_worst_37 : decode cX12_worst 37 = .ok (.ifCond .ne 5, 3) := by decide +kernel
theorem dX12_worst_40 : decode cX12_worst 40 = .ok (.iconst (-1), 1) := by decide +kernel
theorem dX12_worst_41 : decode cX12_worst 41 = .ok (.ireturn, 1) := by decide +kernel
theorem dX12_worst_42 : decode cX12_worst 42 = .ok (.iconst 0, 1) := by decide +kernel
theorem dX12_worst_43 : decode cX12_worst 43 = .ok (.istore 5, 2) := by decide +kernel
theorem dX12_worst_45 : decode cX12_worst 45 = .ok (.iload 5, 2) := by decide +kernel
theorem dX12_worst_47 : decode cX12_worst 47 = .ok (.iload_n 2, 1) := by decide +kernel
theorem dX12_worst_48 : decode cX12_worst 48 = .ok (.if_icmp .ge 209, 3) := by decide +kernel
theorem dX12_worst_51 : decode cX12_worst 51 = .ok (.iconst 0, 1) := by decide +kernel
theorem dX12_worst_52 : decode cX12_worst 52 = .ok (.istore 6, 2) := by decide +kernel
theorem dX12_worst_54 : decode cX12_worst 54 = .ok (.iload 6, 2) := by decide +kernel
theorem dX12_worst_56 : decode cX12_worst 56 = .ok (.bipush 10, 2) := by decide +kernel
theorem dX12_worst_58 : decode cX12_worst 58 = .ok (.aload_n 0, 1) := by decide +kernel
theorem dX12_worst_59 : decode cX12_worst 59 = .ok (.getfield 276, 3) := by decide +kernel
theorem dX12_worst_62 : decode cX12_worst 62 = .ok (.imul, 1) := by decide +kernel
theorem dX12_worst_63 : decode cX12_worst 63 = .ok (.if_icmp .ge 188, 3) := by decide +kernel
theorem dX12_worst_66 : decode cX12_worst 66 = .ok (.iload 6, 2) := by decide +kernel
theorem dX12_worst_68 : decode cX12_worst 68 = .ok (.aload_n 0, 1) := by decide +kernel
theorem dX12_worst_69 : decode cX12_worst 69 = .ok (.getfield 276, 3) := by decide +kernel
theorem dX12_worst_72 : decode cX12_worst 72 = .ok (.irem, 1) := by decide +kernel
theorem dX12_worst_73 : decode cX12_worst 73 = .ok (.istore 7, 2) := by decide +kernel
theorem dX12_worst_75 : decode cX12_worst 75 = .ok (.iconst (-1), 1) := by decide +kernel
theorem dX12_worst_76 : decode cX12_worst 76 = .ok (.istore 8, 2) := by decide +kernel
theorem dX12_worst_78 : decode cX12_worst 78 = .ok (.iconst 0, 1) := by decide +kernel
theorem dX12_worst_79 : decode cX12_worst 79 = .ok (.istore 9, 2) := by decide +kernel
theorem dX12_worst_81 : decode cX12_worst 81 = .ok (.iload 9, 2) := by decide +kernel
theorem dX12_worst_83 : decode cX12_worst 83 = .ok (.aload_n 0, 1) := by decide +kernel
theorem dX12_worst_84 : decode cX12_worst 84 = .ok (.getfield 47, 3) := by decide +kernel
theorem dX12_worst_87 : decode cX12_worst 87 = .ok (.iload 7, 2) := by decide +kernel
theorem dX12_worst_89 : decode cX12_worst 89 = .ok (.iaload, 1) := by decide +kernel
theorem dX12_worst_90 : decode cX12_worst 90 = .ok (.if_icmp .ge 123, 3) := by decide +kernel
theorem dX12_worst_93 : decode cX12_worst 93 = .ok (.iload 5, 2) := by decide +kernel
theorem dX12_worst_95 : decode cX12_worst 95 = .ok (.ifCond .le 118, 3) := by decide +kernel
theorem dX12_worst_98 : decode cX12_worst 98 = .ok (.iload 9, 2) := by decide +kernel
theorem dX12_worst_100 : decode cX12_worst 100 = .ok (.invokestatic 362, 3) := by decide +kernel
theorem dX12_worst_103 : decode cX12_worst 103 = .ok (.iload 6, 2) := by decide +kernel
theorem dX12_worst_105 : decode cX12_worst 105 = .ok (.aload_n 0, 1) := by decide +kernel
theorem dX12_worst_106 : decode cX12_worst 106 = .ok (.getfield 276, 3) := by decide +kernel
theorem dX12_worst_109 : decode cX12_worst 109 = .ok (.idiv, 1) := by decide +kernel
theorem dX12_worst_110 : decode cX12_worst 110 = .ok (.if_icmp .le 7, 3) := by decide +kernel
theorem dX12_worst_113 : decode cX12_worst 113 = .ok (.iconst (-1), 1) := by decide +kernel
theorem dX12_worst_114 : decode cX12_worst 114 = .ok (.goto 36, 3) := by decide +kernel
theorem dX12_worst_117 : decode cX12_worst 117 = .ok (.aload_n 0, 1) := by decide +kernel
theorem dX12_worst_118 : decode cX12_worst 118 = .ok (.getfield 84, 3) := by decide +kernel
theorem dX12_worst_121 : decode cX12_worst 121 = .ok (.iload 5, 2) := by decide +kernel
theorem dX12_worst_123 : decode cX12_worst 123 = .ok (.iconst 1, 1) := by decide +kernel
theorem dX12_worst_124 : decode cX12_worst 124 = .ok (.isub, 1) := by decide +kernel
theorem dX12_worst_125 : decode cX12_worst 125 = .ok (.iload 6, 2) := by decide +kernel
theorem dX12_worst_127 : decode cX12_worst 127 = .ok (.aload_n 0, 1) := by decide +kernel
theorem dX12_worst_128 : decode cX12_worst 128 = .ok (.getfield 276, 3) := by decide +kernel
theorem dX12_worst_131 : decode cX12_worst 131 = .ok (.idiv, 1) := by decide +kernel
theorem dX12_worst_132 : decode cX12_worst 132 = .ok (.iload 9, 2) := by decide +kernel
theorem dX12_worst_134 : decode cX12_worst 134 = .ok (.invokestatic 362, 3) := by decide +kernel
theorem dX12_worst_137 : decode cX12_worst 137 = .ok (.isub, 1) := by decide +kernel
theorem dX12_worst_138 : decode cX12_worst 138 = .ok (.aload_n 0, 1) := by decide +kernel
theorem dX12_worst_139 : decode cX12_worst 139 = .ok (.iload 7, 2) := by decide +kernel
theorem dX12_worst_141 : decode cX12_worst 141 = .ok (.iload 9, 2) := by decide +kernel
theorem dX12_worst_143 : decode cX12_worst 143 = .ok (.invokevirtual 297, 3) := by decide +kernel
theorem dX12_worst_146 : decode cX12_worst 146 = .ok (.invokestatic 525, 3) := by decide +kernel
theorem dX12_worst_149 : decode cX12_worst 149 = .ok (.iaload, 1) := by decide +kernel
theorem dX12_worst_150 : decode cX12_worst 150 = .ok (.istore 10, 2) := by decide +kernel
theorem dX12_worst_152 : decode cX12_worst 152 = .ok (.iload 10, 2) := by decide +kernel
theorem dX12_worst_154 : decode cX12_worst 154 = .ok (.iconst (-1), 1) := by decide +kernel
theorem dX12_worst_155 : decode cX12_worst 155 = .ok (.if_icmp .eq 35, 3) := by decide +kernel
theorem dX12_worst_158 : decode cX12_worst 158 = .ok (.iload 8, 2) := by decide +kernel
theorem dX12_worst_160 : decode cX12_worst 160 = .ok (.iconst (-1), 1) := by decide +kernel
theorem dX12_worst_161 : decode cX12_worst 161 = .ok (.if_icmp .eq 25, 3) := by decide +kernel
theorem dX12_worst_164 : decode cX12_worst 164 = .ok (.iload 4, 2) := by decide +kernel
theorem dX12_worst_166 : decode cX12_worst 166 = .ok (.ifCond .eq 13, 3) := by decide +kernel
theorem dX12_worst_169 : decode cX12_worst 169 = .ok (.iload 10, 2) := by decide +kernel
theorem dX12_worst_171 : decode cX12_worst 171 = .ok (.iload 8, 2) := by decide +kernel
theorem dX12_worst_173 : decode cX12_worst 173 = .ok (.if_icmp .ge 17, 3) := by decide +kernel
theorem dX12_worst_176 : decode cX12_worst 176 = .ok (.goto 10, 3) := by decide +kernel
theorem dX12_worst_179 : decode cX12_worst 179 = .ok (.iload 10, 2) := by decide +kernel
theorem dX12_worst_181 : decode cX12_worst 181 = .ok (.iload 8, 2) := by decide +kernel
theorem dX12_worst_183 : decode cX12_worst 183 = .ok (.if_icmp .le 7, 3) := by decide +kernel
theorem dX12_worst_186 : decode cX12_worst 186 = .ok (.iconst 1, 1) := by decide +kernel
theorem dX12_worst_187 : decode cX12_worst 187 = .ok (.goto 4, 3) := by decide +kernel
theorem dX12_worst_190 : decode cX12_worst 190 = .ok (.iconst 0, 1) := by decide +kernel
theorem dX12_worst_191 : decode cX12_worst 191 = .ok (.istore 11, 2) := by decide +kernel
theorem dX12_worst_193 : decode cX12_worst 193 = .ok (.iload 11, 2) := by decide +kernel
theorem dX12_worst_195 : decode cX12_worst 195 = .ok (.ifCond .eq 8, 3) := by decide +kernel
theorem dX12_worst_198 : decode cX12_worst 198 = .ok (.iload 10, 2) := by decide +kernel
theorem dX12_worst_200 : decode cX12_worst 200 = .ok (.goto 5, 3) := by decide +kernel
theorem dX12_worst_203 : decode cX12_worst 203 = .ok (.iload 8, 2) := by decide +kernel
theorem dX12_worst_205 : decode cX12_worst 205 = .ok (.istore 8, 2) := by decide +kernel
theorem dX12_worst_207 : decode cX12_worst 207 = .ok (.iinc 9 1, 3) := by decide +kernel
theorem dX12_worst_210 : decode cX12_worst 210 = .ok (.goto (-129), 3) := by decide +kernel
theorem dX12_worst_213 : decode cX12_worst 213 = .ok (.aload_n 0, 1) := by decide +kernel
theorem dX12_worst_214 : decode cX12_worst 214 = .ok (.getfield 84, 3) := by decide +kernel
theorem dX12_worst_217 : decode cX12_worst 217 = .ok (.iload 5, 2) := by decide +kernel
theorem dX12_worst_219 : decode cX12_worst 219 = .ok (.iload 6, 2) := by decide +kernel
theorem dX12_worst_221 : decode cX12_worst 221 = .ok (.aload_n 0, 1) := by decide +kernel
theorem dX12_worst_222 : decode cX12_worst 222 = .ok (.getfield 276, 3) := by decide +kernel
theorem dX12_worst_225 : decode cX12_worst 225 = .ok (.idiv, 1) := by decide +kernel
theorem dX12_worst_226 : decode cX12_worst 226 = .ok (.iload 7, 2) := by decide +kernel
theorem dX12_worst_228 : decode cX12_worst 228 = .ok (.invokestatic 525, 3) := by decide +kernel
theorem dX12_worst_231 : decode cX12_worst 231 = .ok (.aload_n 0, 1) := by decide +kernel
theorem dX12_worst_232 : decode cX12_worst 232 = .ok (.iload 7, 2) := by decide +kernel
theorem dX12_worst_234 : decode cX12_worst 234 = .ok (.invokevirtual 312, 3) := by decide +kernel
theorem dX12_worst_237 : decode cX12_worst 237 = .ok (.iconst 0, 1) := by decide +kernel
theorem dX12_worst_238 : decode cX12_worst 238 = .ok (.iload 8, 2) := by decide +kernel
theorem dX12_worst_240 : decode cX12_worst 240 = .ok (.invokestatic 168, 3) := by decide +kernel
theorem dX12_worst_243 : decode cX12_worst 243 = .ok (.iadd, 1) := by decide +kernel
theorem dX12_worst_244 : decode cX12_worst 244 = .ok (.iastore, 1) := by decide +kernel
theorem dX12_worst_245 : decode cX12_worst 245 = .ok (.iinc 6 1, 3) := by decide +kernel
theorem dX12_worst_248 : decode cX12_worst 248 = .ok (.goto (-194), 3) := by decide +kernel
theorem dX12_worst_251 : decode cX12_worst 251 = .ok (.iinc 5 1, 3) := by decide +kernel
theorem dX12_worst_254 : decode cX12_worst 254 = .ok (.goto (-209), 3) := by decide +kernel
theorem dX12_worst_257 : decode cX12_worst 257 = .ok (.aload_n 0, 1) := by decide +kernel
theorem dX12_worst_258 : decode cX12_worst 258 = .ok (.getfield 84, 3) := by decide +kernel
theorem dX12_worst_261 : decode cX12_worst 261 = .ok (.iload_n 2, 1) := by decide +kernel
theorem dX12_worst_262 : decode cX12_worst 262 = .ok (.iconst 1, 1) := by decide +kernel
theorem dX12_worst_263 : decode cX12_worst 263 = .ok (.isub, 1) := by decide +kernel
theorem dX12_worst_264 : decode cX12_worst 264 = .ok (.iload_n 3, 1) := by decide +kernel
theorem dX12_worst_265 : decode cX12_worst 265 = .ok (.iconst 0, 1) := by decide +kernel
theorem dX12_worst_266 : decode cX12_worst 266 = .ok (.invokestatic 525, 3) := by decide +kernel
theorem dX12_worst_269 : decode cX12_worst 269 = .ok (.iaload, 1) := by decide +kernel
theorem dX12_worst_270 : decode cX12_worst 270 = .ok (.ireturn, 1) := by decide +kernel
theorem dX12_lost_0 : decode cX12_lost 0 = .ok (.aload_n 0, 1) := by decide +kernel
theorem dX12_lost_1 : decode cX12_lost 1 = .ok (.iconst 0, 1) := by decide +kernel
theorem dX12_lost_2 : decode cX12_lost 2 = .ok (.putfield 91, 3) := by decide +kernel
theorem dX12_lost_5 : decode cX12_lost 5 = .ok (.aload_n 0, 1) := by decide +kernel
theorem dX12_lost_6 : decode cX12_lost 6 = .ok (.iload_n 1, 1) := by decide +kernel
theorem dX12_lost_7 : decode cX12_lost 7 = .ok (.invokevirtual 285, 3) := by decide +kernel
theorem dX12_lost_10 : decode cX12_lost 10 = .ok (.ifCond .eq 11, 3) := by decide +kernel
theorem dX12_lost_13 : decode cX12_lost 13 = .ok (.aload_n 0, 1) := by decide +kernel
theorem dX12_lost_14 : decode cX12_lost 14 = .ok (.getfield 276, 3) := by decide +kernel
theorem dX12_lost_17 : decode cX12_lost 17 = .ok (.iconst 2, 1) := by decide +kernel
theorem dX12_lost_18 : decode cX12_lost 18 = .ok (.if_icmp .ge 5, 3) := by decide +kernel
theorem dX12_lost_21 : decode cX12_lost 21 = .ok (.iconst (-1), 1) := by decide +kernel
theorem dX12_lost_22 : decode cX12_lost 22 = .ok (.ireturn, 1) := by decide +kernel
theorem dX12_lost_23 : decode cX12_lost 23 = .ok (.iconst 1, 1) := by decide +kernel
theorem dX12_lost_24 : decode cX12_lost 24 = .ok (.istore_n 3, 1) := by decide +kernel
theorem dX12_lost_25 : decode cX12_lost 25 = .ok (.iconst 2, 1) := by decide +kernel
theorem dX12_lost_26 : decode cX12_lost 26 = .ok (.istore 4, 2) := by decide +kernel
theorem dX12_lost_28 : decode cX12_lost 28 = .ok (.iload 4, 2) := by decide +kernel
theorem dX12_lost_30 : decode cX12_lost 30 = .ok (.aload_n 0, 1) := by decide +kernel
theorem dX12_lost_31 : decode cX12_lost 31 = .ok (.getfield 276, 3) := by decide +kernel
theorem dX12_lost_34 : decode cX12_lost 34 = .ok (.if_icmp .ge 30, 3) := by decide +kernel
theorem dX12_lost_37 : decode cX12_lost 37 = .ok (.aload_n 0, 1) := by decide +kernel
theorem dX12_lost_38 : decode cX12_lost 38 = .ok (.iload 4, 2) := by decide +kernel
theorem dX12_lost_40 : decode cX12_lost 40 = .ok (.invokevirtual 409, 3) := by decide +kernel
theorem dX12_lost_43 : decode cX12_lost 43 = .ok (.aload_n 0, 1) := by decide +kernel
theorem dX12_lost_44 : decode cX12_lost 44 = .ok (.iload_n 3, 1) := by decide +kernel
theorem dX12_lost_45 : decode cX12_lost 45 = .ok (.invokevirtual 409, 3) := by decide +kernel
theorem dX12_lost_48 : decode cX12_lost 48 = .ok (.if_icmp .ge 8, 3) := by decide +kernel
theorem dX12_lost_51 : decode cX12_lost 51 = .ok (.iload 4, 2) := by decide +kernel
theorem dX12_lost_53 : decode cX12_lost 53 = .ok (.goto 4, 3) := by decide +kernel
theorem dX12_lost_56 : decode cX12_lost 56 = .ok (.iload_n 3, 1) := by decide +kernel
theorem dX12_lost_57 : decode cX12_lost 57 = .ok (.istore_n 3, 1) := by decide +kernel
theorem dX12_lost_58 : decode cX12_lost 58 = .ok (.iinc 4 1, 3) := by decide +kernel
theorem dX12_lost_61 : decode cX12_lost 61 = .ok (.goto (-33), 3) := by decide +kernel
theorem dX12_lost_64 : decode cX12_lost 64 = .ok (.iload_n 2, 1) := by decide +kernel
theorem dX12_lost_65 : decode cX12_lost 65 = .ok (.ifCond .eq 11, 3) := by decide +kernel
theorem dX12_lost_68 : decode cX12_lost 68 = .ok (.aload_n 0, 1) := by decide +kernel
theorem dX12_lost_69 : decode cX12_lost 69 = .ok (.iload_n 3, 1) := by decide +kernel
theorem dX12_lost_70 : decode cX12_lost 70 = .ok (.invokevirtual 409, 3) := by decide +kernel
theorem dX12_lost_73 : decode cX12_lost 73 = .ok (.goto 4, 3) := by decide +kernel
theorem dX12_lost_76 : decode cX12_lost 76 = .ok (.iload_n 3, 1) := by decide +kernel
theorem dX12_lost_77 : decode cX12_lost 77 = .ok (.ireturn, 1) := by decide +kernel
theorem dX12_force_0 : decode cX12_force 0 = .ok (.aload_n 0, 1) := by decide +kernel
theorem dX12_force_1 : decode cX12_force 1 = .ok (.iconst 0, 1) := by decide +kernel
theorem dX12_force_2 : decode cX12_force 2 = .ok (.putfield 91, 3) := by decide +kernel
theorem dX12_force_5 : decode cX12_force 5 = .ok (.iload_n 2, 1) := by decide +kernel
theorem dX12_force_6 : decode cX12_force 6 = .ok (.invokestatic 371, 3) := by decide +kernel
theorem dX12_force_9 : decode cX12_force 9 = .ok (.ifCond .eq 28, 3) := by decide +kernel
theorem dX12_force_12 : decode cX12_force 12 = .ok (.iload_n 3, 1) := by decide +kernel
theorem dX12_force_13 : decode cX12_force 13 = .ok (.iconst 0, 1) := by decide +kernel
theorem dX12_force_14 : decode cX12_force 14 = .ok (.bipush 63, 2) := by decide +kernel
theorem dX12_force_16 : decode cX12_force 16 = .ok (.invokestatic 107, 3) := by decide +kernel
theorem dX12_force_19 : decode cX12_force 19 = .ok (.ifCond .eq 18, 3) := by decide +kernel
theorem dX12_force_22 : decode cX12_force 22 = .ok (.aload_n 0, 1) := by decide +kernel
theorem dX12_force_23 : decode cX12_force 23 = .ok (.iload_n 1, 1) := by decide +kernel
theorem dX12_force_24 : decode cX12_force 24 = .ok (.invokevirtual 285, 3) := by decide +kernel
theorem dX12_force_27 : decode cX12_force 27 = .ok (.ifCond .eq 10, 3) := by decide +kernel
theorem dX12_force_30 : decode cX12_force 30 = .ok (.aload_n 0, 1) := by decide +kernel
theorem dX12_force_31 : decode cX12_force 31 = .ok (.getfield 276, 3) := by decide +kernel
theorem dX12_force_34 : decode cX12_force 34 = .ok (.ifCond .ne 5, 3) := by decide +kernel
theorem dX12_force_37 : decode cX12_force 37 = .ok (.iconst (-1), 1) := by decide +kernel
theorem dX12_force_38 : decode cX12_force 38 = .ok (.ireturn, 1) := by decide +kernel
theorem dX12_force_39 : decode cX12_force 39 = .ok (.iconst 0, 1) := by decide +kernel
theorem dX12_force_40 : decode cX12_force 40 = .ok (.istore 4, 2) := by decide +kernel
theorem dX12_force_42 : decode cX12_force 42 = .ok (.iload 4, 2) := by decide +kernel
theorem dX12_force_44 : decode cX12_force 44 = .ok (.aload_n 0, 1) := by decide +kernel
theorem dX12_force_45 : decode cX12_force 45 = .ok (.getfield 276, 3) := by decide +kernel
theorem dX12_force_48 : decode cX12_force 48 = .ok (.if_icmp .ge 33, 3) := by decide +kernel
theorem dX12_force_51 : decode cX12_force 51 = .ok (.aload_n 0, 1) := by decide +kernel
theorem dX12_force_52 : decode cX12_force 52 = .ok (.getfield 56, 3) := by decide +kernel
theorem dX12_force_55 : decode cX12_force 55 = .ok (.iload 4, 2) := by decide +kernel
theorem dX12_force_57 : decode cX12_force 57 = .ok (.aload_n 0, 1) := by decide +kernel
theorem dX12_force_58 : decode cX12_force 58 = .ok (.iload 4, 2) := by decide +kernel
theorem dX12_force_60 : decode cX12_force 60 = .ok (.iload_n 2, 1) := by decide +kernel
theorem dX12_force_61 : decode cX12_force 61 = .ok (.invokevirtual 368, 3) := by decide +kernel
theorem dX12_force_64 : decode cX12_force 64 = .ok (.ifCond .eq 7, 3) := by decide +kernel
theorem dX12_force_67 : decode cX12_force 67 = .ok (.iconst 1, 1) := by decide +kernel
theorem dX12_force_68 : decode cX12_force 68 = .ok (.goto 6, 3) := by decide +kernel
theorem dX12_force_71 : decode cX12_force 71 = .ok (.ldc_w 361, 3) := by decide +kernel
theorem dX12_force_74 : decode cX12_force 74 = .ok (.iastore, 1) := by decide +kernel
theorem dX12_force_75 : decode cX12_force 75 = .ok (.iinc 4 1, 3) := by decide +kernel
theorem dX12_force_78 : decode cX12_force 78 = .ok (.goto (-36), 3) := by decide +kernel
theorem dX12_force_81 : decode cX12_force 81 = .ok (.iconst 0, 1) := by decide +kernel
theorem dX12_force_82 : decode cX12_force 82 = .ok (.istore 4, 2) := by decide +kernel
theorem dX12_force_84 : decode cX12_force 84 = .ok (.iload 4, 2) := by decide +kernel
theorem dX12_force_86 : decode cX12_force 86 = .ok (.bipush 20, 2) := by decide +kernel
theorem dX12_force_88 : decode cX12_force 88 = .ok (.if_icmp .ge 154, 3) := by decide +kernel
theorem dX12_force_91 : decode cX12_force 91 = .ok (.iconst 0, 1) := by decide +kernel
theorem dX12_force_92 : decode cX12_force 92 = .ok (.istore 5, 2) := by decide +kernel
theorem dX12_force_94 : decode cX12_force 94 = .ok (.iload 5, 2) := by decide +kernel
theorem dX12_force_96 : decode cX12_force 96 = .ok (.aload_n 0, 1) := by decide +kernel
theorem dX12_force_97 : decode cX12_force 97 = .ok (.getfield 276, 3) := by decide +kernel
theorem dX12_force_100 : decode cX12_force 100 = .ok (.if_icmp .ge 136, 3) := by decide +kernel
theorem dX12_force_103 : decode cX12_force 103 = .ok (.iload_n 3, 1) := by decide +kernel
theorem dX12_force_104 : decode cX12_force 104 = .ok (.aload_n 0, 1) := by decide +kernel
theorem dX12_force_105 : decode cX12_force 105 = .ok (.iload 5, 2) := by decide +kernel
theorem dX12_force_107 : decode cX12_force 107 = .ok (.invokevirtual 282, 3) := by decide +kernel
theorem dX12_force_110 : decode cX12_force 110 = .ok (.invokestatic 95, 3) := by decide +kernel
theorem dX12_force_113 : decode cX12_force 113 = .ok (.istore 6, 2) := by decide +kernel
theorem dX12_force_115 : decode cX12_force 115 = .ok (.iload 6, 2) := by decide +kernel
theorem dX12_force_117 : decode cX12_force 117 = .ok (.ifCond .ne 13, 3) := by decide +kernel
theorem dX12_force_120 : decode cX12_force 120 = .ok (.aload_n 0, 1) := by decide +kernel
theorem dX12_force_121 : decode cX12_force 121 = .ok (.getfield 47, 3) := by decide +kernel
theorem dX12_force_124 : decode cX12_force 124 = .ok (.iload 5, 2) := by decide +kernel
theorem dX12_force_126 : decode cX12_force 126 = .ok (.iaload, 1) := by decide +kernel
theorem dX12_force_127 : decode cX12_force 127 = .ok (.ifCond .ne 9, 3) := by decide +kernel
theorem dX12_force_130 : decode cX12_force 130 = .ok (.ldc_w 361, 3) := by decide +kernel
theorem dX12_force_133 : decode cX12_force 133 = .ok (.goto 4, 3) := by decide +kernel
theorem dX12_force_136 : decode cX12_force 136 = .ok (.iconst 0, 1) := by decide +kernel
theorem dX12_force_137 : decode cX12_force 137 = .ok (.istore 7, 2) := by decide +kernel
theorem dX12_force_139 : decode cX12_force 139 = .ok (.iconst 0, 1) := by decide +kernel
theorem dX12_force_140 : decode cX12_force 140 = .ok (.istore 8, 2) := by decide +kernel
theorem dX12_force_142 : decode cX12_force 142 = .ok (.iload 8, 2) := by decide +kernel
theorem dX12_force_144 : decode cX12_force 144 = .ok (.aload_n 0, 1) := by decide +kernel
theorem dX12_force_145 : decode cX12_force 145 = .ok (.getfield 47, 3) := by decide +kernel
theorem dX12_force_148 : decode cX12_force 148 = .ok (.iload 5, 2) := by decide +kernel
theorem dX12_force_150 : decode cX12_force 150 = .ok (.iaload, 1) := by decide +kernel
theorem dX12_force_151 : decode cX12_force 151 = .ok (.if_icmp .ge 50, 3) := by decide +kernel
theorem dX12_force_154 : decode cX12_force 154 = .ok (.aload_n 0, 1) := by decide +kernel
theorem dX12_force_155 : decode cX12_force 155 = .ok (.getfield 56, 3) := by decide +kernel
theorem dX12_force_158 : decode cX12_force 158 = .ok (.aload_n 0, 1) := by decide +kernel
theorem dX12_force_159 : decode cX12_force 159 = .ok (.iload 5, 2) := by decide +kernel
theorem dX12_force_161 : decode cX12_force 161 = .ok (.iload 8, 2) := by decide +kernel
theorem dX12_force_163 : decode cX12_force 163 = .ok (.invokevirtual 297, 3) := by decide +kernel
theorem dX12_force_166 : decode cX12_force 166 = .ok (.iaload, 1) := by decide +kernel
theorem dX12_force_167 : decode cX12_force 167 = .ok (.iconst 1, 1) := by decide +kernel
theorem dX12_force_168 : decode cX12_force 168 = .ok (.iadd, 1) := by decide +kernel
theorem dX12_force_169 : decode cX12_force 169 = .ok (.istore 9, 2) := by decide +kernel
theorem dX12_force_171 : decode cX12_force 171 = .ok (.iload 6, 2) := by decide +kernel
theorem dX12_force_173 : decode cX12_force 173 = .ok (.ifCond .eq 13, 3) := by decide +kernel
theorem dX12_force_176 : decode cX12_force 176 = .ok (.iload 7, 2) := by decide +kernel
theorem dX12_force_178 : decode cX12_force 178 = .ok (.iload 9, 2) := by decide +kernel
theorem dX12_force_180 : decode cX12_force 180 = .ok (.invokestatic 365, 3) := by decide +kernel
theorem dX12_force_183 : decode cX12_force 183 = .ok (.goto 10, 3) := by decide +kernel
theorem dX12_force_186 : decode cX12_force 186 = .ok (.iload 7, 2) := by decide +kernel
theorem dX12_force_188 : decode cX12_force 188 = .ok (.iload 9, 2) := by decide +kernel
theorem dX12_force_190 : decode cX12_force 190 = .ok (.invokestatic 168, 3) := by decide +kernel
theorem dX12_force_193 : decode cX12_force 193 = .ok (.istore 7, 2) := by decide +kernel
theorem dX12_force_195 : decode cX12_force 195 = .ok (.iinc 8 1, 3) := by decide +kernel
theorem dX12_force_198 : decode cX12_force 198 = .ok (.goto (-56), 3) := by decide +kernel
theorem dX12_force_201 : decode cX12_force 201 = .ok (.aload_n 0, 1) := by decide +kernel
theorem dX12_force_202 : decode cX12_force 202 = .ok (.getfield 56, 3) := by decide +kernel
theorem dX12_force_205 : decode cX12_force 205 = .ok (.iload 5, 2) := by decide +kernel
theorem dX12_force_207 : decode cX12_force 207 = .ok (.aload_n 0, 1) := by decide +kernel
theorem dX12_force_208 : decode cX12_force 208 = .ok (.iload 5, 2) := by decide +kernel
theorem dX12_force_210 : decode cX12_force 210 = .ok (.iload_n 2, 1) := by decide +kernel
theorem dX12_force_211 : decode cX12_force 211 = .ok (.invokevirtual 368, 3) := by decide +kernel
theorem dX12_force_214 : decode cX12_force 214 = .ok (.ifCond .eq 7, 3) := by decide +kernel
theorem dX12_force_217 : decode cX12_force 217 = .ok (.iconst 1, 1) := by decide +kernel
theorem dX12_force_218 : decode cX12_force 218 = .ok (.goto 11, 3) := by decide +kernel
theorem dX12_force_221 : decode cX12_force 221 = .ok (.iload 7, 2) := by decide +kernel
theorem dX12_force_223 : decode cX12_force 223 = .ok (.ldc_w 361, 3) := by decide +kernel
theorem dX12_force_226 : decode cX12_force 226 = .ok (.invokestatic 365, 3) := by decide +kernel
theorem dX12_force_229 : decode cX12_force 229 = .ok (.iastore, 1) := by decide +kernel
theorem dX12_force_230 : decode cX12_force 230 = .ok (.iinc 5 1, 3) := by decide +kernel
theorem dX12_force_233 : decode cX12_force 233 = .ok (.goto (-139), 3) := by decide +kernel
theorem dX12_force_236 : decode cX12_force 236 = .ok (.iinc 4 1, 3) := by decide +kernel
theorem dX12_force_239 : decode cX12_force 239 = .ok (.goto (-155), 3) := by decide +kernel
theorem dX12_force_242 : decode cX12_force 242 = .ok (.aload_n 0, 1) := by decide +kernel
theorem dX12_force_243 : decode cX12_force 243 = .ok (.getfield 56, 3) := by decide +kernel
theorem dX12_force_246 : decode cX12_force 246 = .ok (.iconst 0, 1) := by decide +kernel
theorem dX12_force_247 : decode cX12_force 247 = .ok (.iaload, 1) := by decide +kernel
theorem dX12_force_248 : decode cX12_force 248 = .ok (.ldc_w 361, 3) := by decide +kernel
theorem dX12_force_251 : decode cX12_force 251 = .ok (.if_icmp .lt 7, 3) := by decide +kernel
theorem dX12_force_254 : decode cX12_force 254 = .ok (.iconst (-1), 1) := by decide +kernel
theorem dX12_force_255 : decode cX12_force 255 = .ok (.goto 9, 3) := by decide +kernel
theorem dX12_force_258 : decode cX12_force 258 = .ok (.aload_n 0, 1) := by decide +kernel
theorem dX12_force_259 : decode cX12_force 259 = .ok (.getfield 56, 3) := by decide +kernel
theorem dX12_force_262 : decode cX12_force 262 = .ok (.iconst 0, 1) := by decide +kernel
theorem dX12_force_263 : decode cX12_force 263 = .ok (.iaload, 1) := by decide +kernel
theorem dX12_force_264 : decode cX12_force 264 = .ok (.ireturn, 1) := by decide +kernel
theorem dX12_prompts_0 : decode cX12_prompts 0 = .ok (.aload_n 0, 1) := by decide +kernel
theorem dX12_prompts_1 : decode cX12_prompts 1 = .ok (.iconst 0, 1) := by decide +kernel
theorem dX12_prompts_2 : decode cX12_prompts 2 = .ok (.putfield 91, 3) := by decide +kernel
theorem dX12_prompts_5 : decode cX12_prompts 5 = .ok (.iload_n 2, 1) := by decide +kernel
theorem dX12_prompts_6 : decode cX12_prompts 6 = .ok (.iconst 1, 1) := by decide +kernel
theorem dX12_prompts_7 : decode cX12_prompts 7 = .ok (.bipush 20, 2) := by decide +kernel
theorem dX12_prompts_9 : decode cX12_prompts 9 = .ok (.invokestatic 107, 3) := by decide +kernel
theorem dX12_prompts_12 : decode cX12_prompts 12 = .ok (.ifCond .eq 11, 3) := by decide +kernel
theorem dX12_prompts_15 : decode cX12_prompts 15 = .ok (.aload_n 0, 1) := by decide +kernel
theorem dX12_prompts_16 : decode cX12_prompts 16 = .ok (.iload_n 1, 1) := by decide +kernel
theorem dX12_prompts_17 : decode cX12_prompts 17 = .ok (.invokevirtual 285, 3) := by decide +kernel
theorem dX12_prompts_20 : decode cX12_prompts 20 = .ok (.ifCond .ne 7, 3) := by decide +kernel
theorem dX12_prompts_23 : decode cX12_prompts 23 = .ok (.ldc2_w 389, 3) := by decide +kernel
theorem dX12_prompts_26 : decode cX12_prompts 26 = .ok (.lreturn, 1) := by decide +kernel
theorem dX12_prompts_27 : decode cX12_prompts 27 = .ok (.aload_n 0, 1) := by decide +kernel
theorem dX12_prompts_28 : decode cX12_prompts 28 = .ok (.aload_n 0, 1) := by decide +kernel
theorem dX12_prompts_29 : decode cX12_prompts 29 = .ok (.aload_n 0, 1) := by decide +kernel
theorem dX12_prompts_30 : decode cX12_prompts 30 = .ok (.getfield 66, 3) := by decide +kernel
theorem dX12_prompts_33 : decode cX12_prompts 33 = .ok (.iload_n 2, 1) := by decide +kernel
theorem dX12_prompts_34 : decode cX12_prompts 34 = .ok (.invokevirtual 418, 3) := by decide +kernel
theorem dX12_prompts_37 : decode cX12_prompts 37 = .ok (.putfield 412, 3) := by decide +kernel
theorem dX12_prompts_40 : decode cX12_prompts 40 = .ok (.lconst 0, 1) := by decide +kernel
theorem dX12_prompts_41 : decode cX12_prompts 41 = .ok (.lstore 4, 2) := by decide +kernel
theorem dX12_prompts_43 : decode cX12_prompts 43 = .ok (.iconst 0, 1) := by decide +kernel
theorem dX12_prompts_44 : decode cX12_prompts 44 = .ok (.istore 6, 2) := by decide +kernel
theorem dX12_prompts_46 : decode cX12_prompts 46 = .ok (.iload 6, 2) := by decide +kernel
theorem dX12_prompts_48 : decode cX12_prompts 48 = .ok (.aload_n 0, 1) := by decide +kernel
theorem dX12_prompts_49 : decode cX12_prompts 49 = .ok (.getfield 412, 3) := by decide +kernel
theorem dX12_prompts_52 : decode cX12_prompts 52 = .ok (.if_icmp .ge 29, 3) := by decide +kernel
theorem dX12_prompts_55 : decode cX12_prompts 55 = .ok (.lload 4, 2) := by decide +kernel
theorem dX12_prompts_57 : decode cX12_prompts 57 = .ok (.aload_n 0, 1) := by decide +kernel
theorem dX12_prompts_58 : decode cX12_prompts 58 = .ok (.bipush 100, 2) := by decide +kernel
theorem dX12_prompts_60 : decode cX12_prompts 60 = .ok (.aload_n 0, 1) := by decide +kernel
theorem dX12_prompts_61 : decode cX12_prompts 61 = .ok (.getfield 66, 3) := by decide +kernel
theorem dX12_prompts_64 : decode cX12_prompts 64 = .ok (.iload 6, 2) := by decide +kernel
theorem dX12_prompts_66 : decode cX12_prompts 66 = .ok (.iaload, 1) := by decide +kernel
theorem dX12_prompts_67 : decode cX12_prompts 67 = .ok (.iadd, 1) := by decide +kernel
theorem dX12_prompts_68 : decode cX12_prompts 68 = .ok (.invokevirtual 272, 3) := by decide +kernel
theorem dX12_prompts_71 : decode cX12_prompts 71 = .ok (.i2l, 1) := by decide +kernel
theorem dX12_prompts_72 : decode cX12_prompts 72 = .ok (.ladd, 1) := by decide +kernel
theorem dX12_prompts_73 : decode cX12_prompts 73 = .ok (.lstore 4, 2) := by decide +kernel
theorem dX12_prompts_75 : decode cX12_prompts 75 = .ok (.iinc 6 1, 3) := by decide +kernel
theorem dX12_prompts_78 : decode cX12_prompts 78 = .ok (.goto (-32), 3) := by decide +kernel
theorem dX12_prompts_81 : decode cX12_prompts 81 = .ok (.lload 4, 2) := by decide +kernel
theorem dX12_prompts_83 : decode cX12_prompts 83 = .ok (.ldc2_w 387, 3) := by decide +kernel
theorem dX12_prompts_86 : decode cX12_prompts 86 = .ok (.iload_n 3, 1) := by decide +kernel
theorem dX12_prompts_87 : decode cX12_prompts 87 = .ok (.invokestatic 399, 3) := by decide +kernel
theorem dX12_prompts_90 : decode cX12_prompts 90 = .ok (.lreturn, 1) := by decide +kernel
theorem dX12_parted_0 : decode cX12_parted 0 = .ok (.aload_n 0, 1) := by decide +kernel
theorem dX12_parted_1 : decode cX12_parted 1 = .ok (.iconst 0, 1) := by decide +kernel
theorem dX12_parted_2 : decode cX12_parted 2 = .ok (.putfield 91, 3) := by decide +kernel
theorem dX12_parted_5 : decode cX12_parted 5 = .ok (.aload_n 0, 1) := by decide +kernel
theorem dX12_parted_6 : decode cX12_parted 6 = .ok (.iload_n 1, 1) := by decide +kernel
theorem dX12_parted_7 : decode cX12_parted 7 = .ok (.invokevirtual 285, 3) := by decide +kernel
theorem dX12_parted_10 : decode cX12_parted 10 = .ok (.ifCond .ne 5, 3) := by decide +kernel
theorem dX12_parted_13 : decode cX12_parted 13 = .ok (.iconst (-1), 1) := by decide +kernel
theorem dX12_parted_14 : decode cX12_parted 14 = .ok (.ireturn, 1) := by decide +kernel
theorem dX12_parted_15 : decode cX12_parted 15 = .ok (.aload_n 0, 1) := by decide +kernel
theorem dX12_parted_16 : decode cX12_parted 16 = .ok (.aload_n 0, 1) := by decide +kernel
theorem dX12_parted_17 : decode cX12_parted 17 = .ok (.aload_n 0, 1) := by decide +kernel
theorem dX12_parted_18 : decode cX12_parted 18 = .ok (.getfield 66, 3) := by decide +kernel
theorem dX12_parted_21 : decode cX12_parted 21 = .ok (.bipush 20, 2) := by decide +kernel
theorem dX12_parted_23 : decode cX12_parted 23 = .ok (.invokevirtual 418, 3) := by decide +kernel
theorem dX12_parted_26 : decode cX12_parted 26 = .ok (.putfield 412, 3) := by decide +kernel
theorem dX12_parted_29 : decode cX12_parted 29 = .ok (.aload_n 0, 1) := by decide +kernel
theorem dX12_parted_30 : decode cX12_parted 30 = .ok (.iload_n 2, 1) := by decide +kernel
theorem dX12_parted_31 : decode cX12_parted 31 = .ok (.invokevirtual 285, 3) := by decide +kernel
theorem dX12_parted_34 : decode cX12_parted 34 = .ok (.ifCond .ne 5, 3) := by decide +kernel
theorem dX12_parted_37 : decode cX12_parted 37 = .ok (.iconst (-1), 1) := by decide +kernel
theorem dX12_parted_38 : decode cX12_parted 38 = .ok (.ireturn, 1) := by decide +kernel
theorem dX12_parted_39 : decode cX12_parted 39 = .ok (.aload_n 0, 1) := by decide +kernel
theorem dX12_parted_40 : decode cX12_parted 40 = .ok (.aload_n 0, 1) := by decide +kernel
theorem dX12_parted_41 : decode cX12_parted 41 = .ok (.aload_n 0, 1) := by decide +kernel
theorem dX12_parted_42 : decode cX12_parted 42 = .ok (.getfield 69, 3) := by decide +kernel
theorem dX12_parted_45 : decode cX12_parted 45 = .ok (.bipush 20, 2) := by decide +kernel
theorem dX12_parted_47 : decode cX12_parted 47 = .ok (.invokevirtual 418, 3) := by decide +kernel
theorem dX12_parted_50 : decode cX12_parted 50 = .ok (.putfield 415, 3) := by decide +kernel
theorem dX12_parted_53 : decode cX12_parted 53 = .ok (.iconst 0, 1) := by decide +kernel
theorem dX12_parted_54 : decode cX12_parted 54 = .ok (.istore_n 3, 1) := by decide +kernel
theorem dX12_parted_55 : decode cX12_parted 55 = .ok (.iload_n 3, 1) := by decide +kernel
theorem dX12_parted_56 : decode cX12_parted 56 = .ok (.aload_n 0, 1) := by decide +kernel
theorem dX12_parted_57 : decode cX12_parted 57 = .ok (.getfield 412, 3) := by decide +kernel
theorem dX12_parted_60 : decode cX12_parted 60 = .ok (.aload_n 0, 1) := by decide +kernel
theorem dX12_parted_61 : decode cX12_parted 61 = .ok (.getfield 415, 3) := by decide +kernel
theorem dX12_parted_64 : decode cX12_parted 64 = .ok (.invokestatic 168, 3) := by decide +kernel
theorem dX12_parted_67 : decode cX12_parted 67 = .ok (.if_icmp .ge 42, 3) := by decide +kernel
theorem dX12_parted_70 : decode cX12_parted 70 = .ok (.iload_n 3, 1) := by decide +kernel
theorem dX12_parted_71 : decode cX12_parted 71 = .ok (.aload_n 0, 1) := by decide +kernel
theorem dX12_parted_72 : decode cX12_parted 72 = .ok (.getfield 412, 3) := by decide +kernel
theorem dX12_parted_75 : decode cX12_parted 75 = .ok (.if_icmp .ge 26, 3) := by decide +kernel
theorem dX12_parted_78 : decode cX12_parted 78 = .ok (.iload_n 3, 1) := by decide +kernel
theorem dX12_parted_79 : decode cX12_parted 79 = .ok (.aload_n 0, 1) := by decide +kernel
theorem dX12_parted_80 : decode cX12_parted 80 = .ok (.getfield 415, 3) := by decide +kernel
theorem dX12_parted_83 : decode cX12_parted 83 = .ok (.if_icmp .ge 18, 3) := by decide +kernel
theorem dX12_parted_86 : decode cX12_parted 86 = .ok (.aload_n 0, 1) := by decide +kernel
theorem dX12_parted_87 : decode cX12_parted 87 = .ok (.getfield 66, 3) := by decide +kernel
theorem dX12_parted_90 : decode cX12_parted 90 = .ok (.iload_n 3, 1) := by decide +kernel
theorem dX12_parted_91 : decode cX12_parted 91 = .ok (.iaload, 1) := by decide +kernel
theorem dX12_parted_92 : decode cX12_parted 92 = .ok (.aload_n 0, 1) := by decide +kernel
theorem dX12_parted_93 : decode cX12_parted 93 = .ok (.getfield 69, 3) := by decide +kernel
theorem dX12_parted_96 : decode cX12_parted 96 = .ok (.iload_n 3, 1) := by decide +kernel
theorem dX12_parted_97 : decode cX12_parted 97 = .ok (.iaload, 1) := by decide +kernel
theorem dX12_parted_98 : decode cX12_parted 98 = .ok (.if_icmp .eq 5, 3) := by decide +kernel
theorem dX12_parted_101 : decode cX12_parted 101 = .ok (.iload_n 3, 1) := by decide +kernel
theorem dX12_parted_102 : decode cX12_parted 102 = .ok (.ireturn, 1) := by decide +kernel
theorem dX12_parted_103 : decode cX12_parted 103 = .ok (.iinc 3 1, 3) := by decide +kernel
theorem dX12_parted_106 : decode cX12_parted 106 = .ok (.goto (-51), 3) := by decide +kernel
theorem dX12_parted_109 : decode cX12_parted 109 = .ok (.iconst (-1), 1) := by decide +kernel
theorem dX12_parted_110 : decode cX12_parted 110 = .ok (.ireturn, 1) := by decide +kernel
theorem dX12_loudest_0 : decode cX12_loudest 0 = .ok (.iconst (-1), 1) := by decide +kernel
theorem dX12_loudest_1 : decode cX12_loudest 1 = .ok (.istore_n 1, 1) := by decide +kernel
theorem dX12_loudest_2 : decode cX12_loudest 2 = .ok (.iconst 0, 1) := by decide +kernel
theorem dX12_loudest_3 : decode cX12_loudest 3 = .ok (.istore_n 2, 1) := by decide +kernel
theorem dX12_loudest_4 : decode cX12_loudest 4 = .ok (.iload_n 2, 1) := by decide +kernel
theorem dX12_loudest_5 : decode cX12_loudest 5 = .ok (.bipush 6, 2) := by decide +kernel
theorem dX12_loudest_7 : decode cX12_loudest 7 = .ok (.if_icmp .ge 45, 3) := by decide +kernel
theorem dX12_loudest_10 : decode cX12_loudest 10 = .ok (.aload_n 0, 1) := by decide +kernel
theorem dX12_loudest_11 : decode cX12_loudest 11 = .ok (.getfield 50, 3) := by decide +kernel
theorem dX12_loudest_14 : decode cX12_loudest 14 = .ok (.bipush 10, 2) := by decide +kernel
theorem dX12_loudest_16 : decode cX12_loudest 16 = .ok (.iload_n 2, 1) := by decide +kernel
theorem dX12_loudest_17 : decode cX12_loudest 17 = .ok (.iadd, 1) := by decide +kernel
theorem dX12_loudest_18 : decode cX12_loudest 18 = .ok (.iaload, 1) := by decide +kernel
theorem dX12_loudest_19 : decode cX12_loudest 19 = .ok (.iload_n 1, 1) := by decide +kernel
theorem dX12_loudest_20 : decode cX12_loudest 20 = .ok (.iconst (-1), 1) := by decide +kernel
theorem dX12_loudest_21 : decode cX12_loudest 21 = .ok (.if_icmp .ne 7, 3) := by decide +kernel
theorem dX12_loudest_24 : decode cX12_loudest 24 = .ok (.iconst 0, 1) := by decide +kernel
theorem dX12_loudest_25 : decode cX12_loudest 25 = .ok (.goto 12, 3) := by decide +kernel
theorem dX12_loudest_28 : decode cX12_loudest 28 = .ok (.aload_n 0, 1) := by decide +kernel
theorem dX12_loudest_29 : decode cX12_loudest 29 = .ok (.getfield 50, 3) := by decide +kernel
theorem dX12_loudest_32 : decode cX12_loudest 32 = .ok (.bipush 10, 2) := by decide +kernel
theorem dX12_loudest_34 : decode cX12_loudest 34 = .ok (.iload_n 1, 1) := by decide +kernel
theorem dX12_loudest_35 : decode cX12_loudest 35 = .ok (.iadd, 1) := by decide +kernel
theorem dX12_loudest_36 : decode cX12_loudest 36 = .ok (.iaload, 1) := by decide +kernel
theorem dX12_loudest_37 : decode cX12_loudest 37 = .ok (.if_icmp .le 7, 3) := by decide +kernel
theorem dX12_loudest_40 : decode cX12_loudest 40 = .ok (.iload_n 2, 1) := by decide +kernel
theorem dX12_loudest_41 : decode cX12_loudest 41 = .ok (.goto 4, 3) := by decide +kernel
theorem dX12_loudest_44 : decode cX12_loudest 44 = .ok (.iload_n 1, 1) := by decide +kernel
theorem dX12_loudest_45 : decode cX12_loudest 45 = .ok (.istore_n 1, 1) := by decide +kernel
theorem dX12_loudest_46 : decode cX12_loudest 46 = .ok (.iinc 2 1, 3) := by decide +kernel
theorem dX12_loudest_49 : decode cX12_loudest 49 = .ok (.goto (-45), 3) := by decide +kernel
theorem dX12_loudest_52 : decode cX12_loudest 52 = .ok (.iload_n 1, 1) := by decide +kernel
theorem dX12_loudest_53 : decode cX12_loudest 53 = .ok (.ireturn, 1) := by decide +kernel
theorem dX12_after_0 : decode cX12_after 0 = .ok (.aload_n 0, 1) := by decide +kernel
theorem dX12_after_1 : decode cX12_after 1 = .ok (.iconst 0, 1) := by decide +kernel
theorem dX12_after_2 : decode cX12_after 2 = .ok (.putfield 91, 3) := by decide +kernel
theorem dX12_after_5 : decode cX12_after 5 = .ok (.aload_n 0, 1) := by decide +kernel
theorem dX12_after_6 : decode cX12_after 6 = .ok (.iload_n 1, 1) := by decide +kernel
theorem dX12_after_7 : decode cX12_after 7 = .ok (.iload_n 2, 1) := by decide +kernel
theorem dX12_after_8 : decode cX12_after 8 = .ok (.invokevirtual 352, 3) := by decide +kernel
theorem dX12_after_11 : decode cX12_after 11 = .ok (.ifCond .eq 12, 3) := by decide +kernel
theorem dX12_after_14 : decode cX12_after 14 = .ok (.iload_n 3, 1) := by decide +kernel
theorem dX12_after_15 : decode cX12_after 15 = .ok (.iconst 0, 1) := by decide +kernel
theorem dX12_after_16 : decode cX12_after 16 = .ok (.iconst 2, 1) := by decide +kernel
theorem dX12_after_17 : decode cX12_after 17 = .ok (.invokestatic 107, 3) := by decide +kernel
theorem dX12_after_20 : decode cX12_after 20 = .ok (.ifCond .ne 6, 3) := by decide +kernel
theorem dX12_after_23 : decode cX12_after 23 = .ok (.bipush (-2), 2) := by decide +kernel
theorem dX12_after_25 : decode cX12_after 25 = .ok (.ireturn, 1) := by decide +kernel
theorem dX12_after_26 : decode cX12_after 26 = .ok (.aload_n 0, 1) := by decide +kernel
theorem dX12_after_27 : decode cX12_after 27 = .ok (.invokevirtual 346, 3) := by decide +kernel
theorem dX12_after_30 : decode cX12_after 30 = .ok (.iconst 0, 1) := by decide +kernel
theorem dX12_after_31 : decode cX12_after 31 = .ok (.istore 4, 2) := by decide +kernel
theorem dX12_after_33 : decode cX12_after 33 = .ok (.iconst (-1), 1) := by decide +kernel
theorem dX12_after_34 : decode cX12_after 34 = .ok (.istore 5, 2) := by decide +kernel
theorem dX12_after_36 : decode cX12_after 36 = .ok (.iconst 0, 1) := by decide +kernel
theorem dX12_after_37 : decode cX12_after 37 = .ok (.istore 6, 2) := by decide +kernel
theorem dX12_after_39 : decode cX12_after 39 = .ok (.iload 6, 2) := by decide +kernel
theorem dX12_after_41 : decode cX12_after 41 = .ok (.aload_n 0, 1) := by decide +kernel
theorem dX12_after_42 : decode cX12_after 42 = .ok (.invokevirtual 306, 3) := by decide +kernel
theorem dX12_after_45 : decode cX12_after 45 = .ok (.if_icmp .ge 68, 3) := by decide +kernel
theorem dX12_after_48 : decode cX12_after 48 = .ok (.aload_n 0, 1) := by decide +kernel
theorem dX12_after_49 : decode cX12_after 49 = .ok (.aload_n 0, 1) := by decide +kernel
theorem dX12_after_50 : decode cX12_after 50 = .ok (.iload 6, 2) := by decide +kernel
theorem dX12_after_52 : decode cX12_after 52 = .ok (.iconst 0, 1) := by decide +kernel
theorem dX12_after_53 : decode cX12_after 53 = .ok (.invokevirtual 309, 3) := by decide +kernel
theorem dX12_after_56 : decode cX12_after 56 = .ok (.aload_n 0, 1) := by decide +kernel
theorem dX12_after_57 : decode cX12_after 57 = .ok (.iload 6, 2) := by decide +kernel
theorem dX12_after_59 : decode cX12_after 59 = .ok (.iconst 1, 1) := by decide +kernel
theorem dX12_after_60 : decode cX12_after 60 = .ok (.invokevirtual 309, 3) := by decide +kernel
theorem dX12_after_63 : decode cX12_after 63 = .ok (.invokevirtual 349, 3) := by decide +kernel
theorem dX12_after_66 : decode cX12_after 66 = .ok (.ifCond .eq 47, 3) := by decide +kernel
theorem dX12_after_69 : decode cX12_after 69 = .ok (.iinc 6 1, 3) := by decide +kernel
theorem dX12_after_72 : decode cX12_after 72 = .ok (.iload 4, 2) := by decide +kernel
theorem dX12_after_74 : decode cX12_after 74 = .ok (.aload_n 0, 1) := by decide +kernel
theorem dX12_after_75 : decode cX12_after 75 = .ok (.getfield 50, 3) := by decide +kernel
theorem dX12_after_78 : decode cX12_after 78 = .ok (.iconst 3, 1) := by decide +kernel
theorem dX12_after_79 : decode cX12_after 79 = .ok (.iaload, 1) := by decide +kernel
theorem dX12_after_80 : decode cX12_after 80 = .ok (.invokestatic 168, 3) := by decide +kernel
theorem dX12_after_83 : decode cX12_after 83 = .ok (.istore 4, 2) := by decide +kernel
theorem dX12_after_85 : decode cX12_after 85 = .ok (.iload 5, 2) := by decide +kernel
theorem dX12_after_87 : decode cX12_after 87 = .ok (.iconst (-1), 1) := by decide +kernel
theorem dX12_after_88 : decode cX12_after 88 = .ok (.if_icmp .ne 18, 3) := by decide +kernel
theorem dX12_after_91 : decode cX12_after 91 = .ok (.aload_n 0, 1) := by decide +kernel
theorem dX12_after_92 : decode cX12_after 92 = .ok (.getfield 50, 3) := by decide +kernel
theorem dX12_after_95 : decode cX12_after 95 = .ok (.bipush 6, 2) := by decide +kernel
theorem dX12_after_97 : decode cX12_after 97 = .ok (.iaload, 1) := by decide +kernel
theorem dX12_after_98 : decode cX12_after 98 = .ok (.ifCond .le 8, 3) := by decide +kernel
theorem dX12_after_101 : decode cX12_after 101 = .ok (.iload 6, 2) := by decide +kernel
theorem dX12_after_103 : decode cX12_after 103 = .ok (.goto 5, 3) := by decide +kernel
theorem dX12_after_106 : decode cX12_after 106 = .ok (.iload 5, 2) := by decide +kernel
theorem dX12_after_108 : decode cX12_after 108 = .ok (.istore 5, 2) := by decide +kernel
theorem dX12_after_110 : decode cX12_after 110 = .ok (.goto (-71), 3) := by decide +kernel
theorem dX12_after_113 : decode cX12_after 113 = .ok (.iload_n 3, 1) := by decide +kernel
theorem dX12_after_114 : decode cX12_after 114 = .ok (.ifCond .ne 8, 3) := by decide +kernel
theorem dX12_after_117 : decode cX12_after 117 = .ok (.iload 4, 2) := by decide +kernel
theorem dX12_after_119 : decode cX12_after 119 = .ok (.goto 17, 3) := by decide +kernel
theorem dX12_after_122 : decode cX12_after 122 = .ok (.iload_n 3, 1) := by decide +kernel
theorem dX12_after_123 : decode cX12_after 123 = .ok (.iconst 1, 1) := by decide +kernel
theorem dX12_after_124 : decode cX12_after 124 = .ok (.if_icmp .ne 10, 3) := by decide +kernel
theorem dX12_after_127 : decode cX12_after 127 = .ok (.aload_n 0, 1) := by decide +kernel
theorem dX12_after_128 : decode cX12_after 128 = .ok (.invokevirtual 529, 3) := by decide +kernel
theorem dX12_after_131 : decode cX12_after 131 = .ok (.goto 5, 3) := by decide +kernel
theorem dX12_after_134 : decode cX12_after 134 = .ok (.iload 5, 2) := by decide +kernel
theorem dX12_after_136 : decode cX12_after 136 = .ok (.ireturn, 1) := by decide +kernel
theorem dX12_count_0 : decode cX12_count 0 = .ok (.aload_n 0, 1) := by decide +kernel
theorem dX12_count_1 : decode cX12_count 1 = .ok (.iconst 0, 1) := by decide +kernel
theorem dX12_count_2 : decode cX12_count 2 = .ok (.putfield 91, 3) := by decide +kernel
theorem dX12_count_5 : decode cX12_count 5 = .ok (.iload_n 1, 1) := by decide +kernel
theorem dX12_count_6 : decode cX12_count 6 = .ok (.iconst 0, 1) := by decide +kernel
theorem dX12_count_7 : decode cX12_count 7 = .ok (.iconst 3, 1) := by decide +kernel
theorem dX12_count_8 : decode cX12_count 8 = .ok (.invokestatic 107, 3) := by decide +kernel
theorem dX12_count_11 : decode cX12_count 11 = .ok (.ifCond .eq 12, 3) := by decide +kernel
theorem dX12_count_14 : decode cX12_count 14 = .ok (.aload_n 0, 1) := by decide +kernel
theorem dX12_count_15 : decode cX12_count 15 = .ok (.getfield 23, 3) := by decide +kernel
theorem dX12_count_18 : decode cX12_count 18 = .ok (.iload_n 1, 1) := by decide +kernel
theorem dX12_count_19 : decode cX12_count 19 = .ok (.iaload, 1) := by decide +kernel
theorem dX12_count_20 : decode cX12_count 20 = .ok (.goto 5, 3) := by decide +kernel
theorem dX12_count_23 : decode cX12_count 23 = .ok (.bipush (-2), 2) := by decide +kernel
theorem dX12_count_25 : decode cX12_count 25 = .ok (.ireturn, 1) := by decide +kernel
theorem dX12_image_0 : decode cX12_image 0 = .ok (.aload_n 0, 1) := by decide +kernel
theorem dX12_image_1 : decode cX12_image 1 = .ok (.iconst 0, 1) := by decide +kernel
theorem dX12_image_2 : decode cX12_image 2 = .ok (.putfield 91, 3) := by decide +kernel
theorem dX12_image_5 : decode cX12_image 5 = .ok (.iload_n 1, 1) := by decide +kernel
theorem dX12_image_6 : decode cX12_image 6 = .ok (.iconst 0, 1) := by decide +kernel
theorem dX12_image_7 : decode cX12_image 7 = .ok (.iconst 2, 1) := by decide +kernel
theorem dX12_image_8 : decode cX12_image 8 = .ok (.invokestatic 107, 3) := by decide +kernel
theorem dX12_image_11 : decode cX12_image 11 = .ok (.ifCond .ne 5, 3) := by decide +kernel
theorem dX12_image_14 : decode cX12_image 14 = .ok (.iconst 0, 1) := by decide +kernel
theorem dX12_image_15 : decode cX12_image 15 = .ok (.ireturn, 1) := by decide +kernel
theorem dX12_image_16 : decode cX12_image 16 = .ok (.aload_n 0, 1) := by decide +kernel
theorem dX12_image_17 : decode cX12_image 17 = .ok (.iconst 0, 1) := by decide +kernel
theorem dX12_image_18 : decode cX12_image 18 = .ok (.iload_n 1, 1) := by decide +kernel
theorem dX12_image_19 : decode cX12_image 19 = .ok (.iconst 1, 1) := by decide +kernel
theorem dX12_image_20 : decode cX12_image 20 = .ok (.iadd, 1) := by decide +kernel
theorem dX12_image_21 : decode cX12_image 21 = .ok (.invokevirtual 532, 3) := by decide +kernel
theorem dX12_image_24 : decode cX12_image 24 = .ok (.aload_n 0, 1) := by decide +kernel
theorem dX12_image_25 : decode cX12_image 25 = .ok (.getfield 87, 3) := by decide +kernel
theorem dX12_image_28 : decode cX12_image 28 = .ok (.iload_n 1, 1) := by decide +kernel
theorem dX12_image_29 : decode cX12_image 29 = .ok (.iconst 1, 1) := by decide +kernel
theorem dX12_image_30 : decode cX12_image 30 = .ok (.bastore, 1) := by decide +kernel
theorem dX12_image_31 : decode cX12_image 31 = .ok (.iconst 1, 1) := by decide +kernel
theorem dX12_image_32 : decode cX12_image 32 = .ok (.ireturn, 1) := by decide +kernel
theorem dX12_again_0 : decode cX12_again 0 = .ok (.aload_n 0, 1) := by decide +kernel
theorem dX12_again_1 : decode cX12_again 1 = .ok (.iconst 0, 1) := by decide +kernel
theorem dX12_again_2 : decode cX12_again 2 = .ok (.putfield 91, 3) := by decide +kernel
theorem dX12_again_5 : decode cX12_again 5 = .ok (.iload_n 1, 1) := by decide +kernel
theorem dX12_again_6 : decode cX12_again 6 = .ok (.iconst 0, 1) := by decide +kernel
theorem dX12_again_7 : decode cX12_again 7 = .ok (.iconst 2, 1) := by decide +kernel
theorem dX12_again_8 : decode cX12_again 8 = .ok (.invokestatic 107, 3) := by decide +kernel
theorem dX12_again_11 : decode cX12_again 11 = .ok (.ifCond .eq 12, 3) := by decide +kernel
theorem dX12_again_14 : decode cX12_again 14 = .ok (.aload_n 0, 1) := by decide +kernel
theorem dX12_again_15 : decode cX12_again 15 = .ok (.getfield 87, 3) := by decide +kernel
theorem dX12_again_18 : decode cX12_again 18 = .ok (.iload_n 1, 1) := by decide +kernel
theorem dX12_again_19 : decode cX12_again 19 = .ok (.baload, 1) := by decide +kernel
theorem dX12_again_20 : decode cX12_again 20 = .ok (.ifCond .ne 5, 3) := by decide +kernel
theorem dX12_again_23 : decode cX12_again 23 = .ok (.iconst 0, 1) := by decide +kernel
theorem dX12_again_24 : decode cX12_again 24 = .ok (.ireturn, 1) := by decide +kernel
theorem dX12_again_25 : decode cX12_again 25 = .ok (.aload_n 0, 1) := by decide +kernel
theorem dX12_again_26 : decode cX12_again 26 = .ok (.iload_n 1, 1) := by decide +kernel
theorem dX12_again_27 : decode cX12_again 27 = .ok (.iconst 1, 1) := by decide +kernel
theorem dX12_again_28 : decode cX12_again 28 = .ok (.iadd, 1) := by decide +kernel
theorem dX12_again_29 : decode cX12_again 29 = .ok (.iconst 0, 1) := by decide +kernel
theorem dX12_again_30 : decode cX12_again 30 = .ok (.invokevirtual 532, 3) := by decide +kernel
theorem dX12_again_33 : decode cX12_again 33 = .ok (.iconst 1, 1) := by decide +kernel
theorem dX12_again_34 : decode cX12_again 34 = .ok (.ireturn, 1) := by decide +kernel
theorem dJ6_bitCount_0f7a4_0 : decode cJ6_bitCount_0f7a4 0 = .ok (.iload_n 0, 1) := by decide +kernel
theorem dJ6_bitCount_0f7a4_1 : decode cJ6_bitCount_0f7a4 1 = .ok (.iload_n 0, 1) := by decide +kernel
theorem dJ6_bitCount_0f7a4_2 : decode cJ6_bitCount_0f7a4 2 = .ok (.iconst 1, 1) := by decide +kernel
theorem dJ6_bitCount_0f7a4_3 : decode cJ6_bitCount_0f7a4 3 = .ok (.iushr, 1) := by decide +kernel
theorem dJ6_bitCount_0f7a4_4 : decode cJ6_bitCount_0f7a4 4 = .ok (.ldc_w 265, 3) := by decide +kernel
theorem dJ6_bitCount_0f7a4_7 : decode cJ6_bitCount_0f7a4 7 = .ok (.iand, 1) := by decide +kernel
theorem dJ6_bitCount_0f7a4_8 : decode cJ6_bitCount_0f7a4 8 = .ok (.isub, 1) := by decide +kernel
theorem dJ6_bitCount_0f7a4_9 : decode cJ6_bitCount_0f7a4 9 = .ok (.istore_n 0, 1) := by decide +kernel
theorem dJ6_bitCount_0f7a4_10 : decode cJ6_bitCount_0f7a4 10 = .ok (.iload_n 0, 1) := by decide +kernel
theorem dJ6_bitCount_0f7a4_11 : decode cJ6_bitCount_0f7a4 11 = .ok (.ldc_w 266, 3) := by decide +kernel
theorem dJ6_bitCount_0f7a4_14 : decode cJ6_bitCount_0f7a4 14 = .ok (.iand, 1) := by decide +kernel
theorem dJ6_bitCount_0f7a4_15 : decode cJ6_bitCount_0f7a4 15 = .ok (.iload_n 0, 1) := by decide +kernel
theorem dJ6_bitCount_0f7a4_16 : decode cJ6_bitCount_0f7a4 16 = .ok (.iconst 2, 1) := by decide +kernel
theorem dJ6_bitCount_0f7a4_17 : decode cJ6_bitCount_0f7a4 17 = .ok (.iushr, 1) := by decide +kernel
theorem dJ6_bitCount_0f7a4_18 : decode cJ6_bitCount_0f7a4 18 = .ok (.ldc_w 266, 3) := by decide +kernel
theorem dJ6_bitCount_0f7a4_21 : decode cJ6_bitCount_0f7a4 21 = .ok (.iand, 1) := by decide +kernel
theorem dJ6_bitCount_0f7a4_22 : decode cJ6_bitCount_0f7a4 22 = .ok (.iadd, 1) := by decide +kernel
theorem dJ6_bitCount_0f7a4_23 : decode cJ6_bitCount_0f7a4 23 = .ok (.istore_n 0, 1) := by decide +kernel
theorem dJ6_bitCount_0f7a4_24 : decode cJ6_bitCount_0f7a4 24 = .ok (.iload_n 0, 1) := by decide +kernel
theorem dJ6_bitCount_0f7a4_25 : decode cJ6_bitCount_0f7a4 25 = .ok (.iload_n 0, 1) := by decide +kernel
theorem dJ6_bitCount_0f7a4_26 : decode cJ6_bitCount_0f7a4 26 = .ok (.iconst 4, 1) := by decide +kernel
theorem dJ6_bitCount_0f7a4_27 : decode cJ6_bitCount_0f7a4 27 = .ok (.iushr, 1) := by decide +kernel
theorem dJ6_bitCount_0f7a4_28 : decode cJ6_bitCount_0f7a4 28 = .ok (.iadd, 1) := by decide +kernel
theorem dJ6_bitCount_0f7a4_29 : decode cJ6_bitCount_0f7a4 29 = .ok (.ldc_w 267, 3) := by decide +kernel
theorem dJ6_bitCount_0f7a4_32 : decode cJ6_bitCount_0f7a4 32 = .ok (.iand, 1) := by decide +kernel
theorem dJ6_bitCount_0f7a4_33 : decode cJ6_bitCount_0f7a4 33 = .ok (.istore_n 0, 1) := by decide +kernel
theorem dJ6_bitCount_0f7a4_34 : decode cJ6_bitCount_0f7a4 34 = .ok (.iload_n 0, 1) := by decide +kernel
theorem dJ6_bitCount_0f7a4_35 : decode cJ6_bitCount_0f7a4 35 = .ok (.iload_n 0, 1) := by decide +kernel
theorem dJ6_bitCount_0f7a4_36 : decode cJ6_bitCount_0f7a4 36 = .ok (.bipush 8, 2) := by decide +kernel
theorem dJ6_bitCount_0f7a4_38 : decode cJ6_bitCount_0f7a4 38 = .ok (.iushr, 1) := by decide +kernel
theorem dJ6_bitCount_0f7a4_39 : decode cJ6_bitCount_0f7a4 39 = .ok (.iadd, 1) := by decide +kernel
theorem dJ6_bitCount_0f7a4_40 : decode cJ6_bitCount_0f7a4 40 = .ok (.istore_n 0, 1) := by decide +kernel
theorem dJ6_bitCount_0f7a4_41 : decode cJ6_bitCount_0f7a4 41 = .ok (.iload_n 0, 1) := by decide +kernel
theorem dJ6_bitCount_0f7a4_42 : decode cJ6_bitCount_0f7a4 42 = .ok (.iload_n 0, 1) := by decide +kernel
theorem dJ6_bitCount_0f7a4_43 : decode cJ6_bitCount_0f7a4 43 = .ok (.bipush 16, 2) := by decide +kernel
theorem dJ6_bitCount_0f7a4_45 : decode cJ6_bitCount_0f7a4 45 = .ok (.iushr, 1) := by decide +kernel
theorem dJ6_bitCount_0f7a4_46 : decode cJ6_bitCount_0f7a4 46 = .ok (.iadd, 1) := by decide +kernel
theorem dJ6_bitCount_0f7a4_47 : decode cJ6_bitCount_0f7a4 47 = .ok (.istore_n 0, 1) := by decide +kernel
theorem dJ6_bitCount_0f7a4_48 : decode cJ6_bitCount_0f7a4 48 = .ok (.iload_n 0, 1) := by decide +kernel
theorem dJ6_bitCount_0f7a4_49 : decode cJ6_bitCount_0f7a4 49 = .ok (.bipush 63, 2) := by decide +kernel
theorem dJ6_bitCount_0f7a4_51 : decode cJ6_bitCount_0f7a4 51 = .ok (.iand, 1) := by decide +kernel
theorem dJ6_bitCount_0f7a4_52 : decode cJ6_bitCount_0f7a4 52 = .ok (.ireturn, 1) := by decide +kernel
theorem dJ9_max_7cf53_0 : decode cJ9_max_7cf53 0 = .ok (.iload_n 0, 1) := by decide +kernel
theorem dJ9_max_7cf53_1 : decode cJ9_max_7cf53 1 = .ok (.iload_n 1, 1) := by decide +kernel
theorem dJ9_max_7cf53_2 : decode cJ9_max_7cf53 2 = .ok (.if_icmp .lt 7, 3) := by decide +kernel
theorem dJ9_max_7cf53_5 : decode cJ9_max_7cf53 5 = .ok (.iload_n 0, 1) := by decide +kernel
theorem dJ9_max_7cf53_6 : decode cJ9_max_7cf53 6 = .ok (.goto 4, 3) := by decide +kernel
theorem dJ9_max_7cf53_9 : decode cJ9_max_7cf53 9 = .ok (.iload_n 1, 1) := by decide +kernel
theorem dJ9_max_7cf53_10 : decode cJ9_max_7cf53 10 = .ok (.ireturn, 1) := by decide +kernel
theorem dJ9_max_f86c9_0 : decode cJ9_max_f86c9 0 = .ok (.lload_n 0, 1) := by decide +kernel
theorem dJ9_max_f86c9_1 : decode cJ9_max_f86c9 1 = .ok (.lload_n 2, 1) := by decide +kernel
theorem dJ9_max_f86c9_2 : decode cJ9_max_f86c9 2 = .ok (.lcmp, 1) := by decide +kernel
theorem dJ9_max_f86c9_3 : decode cJ9_max_f86c9 3 = .ok (.ifCond .lt 7, 3) := by decide +kernel
theorem dJ9_max_f86c9_6 : decode cJ9_max_f86c9 6 = .ok (.lload_n 0, 1) := by decide +kernel
theorem dJ9_max_f86c9_7 : decode cJ9_max_f86c9 7 = .ok (.goto 4, 3) := by decide +kernel
theorem dJ9_max_f86c9_10 : decode cJ9_max_f86c9 10 = .ok (.lload_n 2, 1) := by decide +kernel
theorem dJ9_max_f86c9_11 : decode cJ9_max_f86c9 11 = .ok (.lreturn, 1) := by decide +kernel
theorem dJ9_min_7cf53_0 : decode cJ9_min_7cf53 0 = .ok (.iload_n 0, 1) := by decide +kernel
theorem dJ9_min_7cf53_1 : decode cJ9_min_7cf53 1 = .ok (.iload_n 1, 1) := by decide +kernel
theorem dJ9_min_7cf53_2 : decode cJ9_min_7cf53 2 = .ok (.if_icmp .gt 7, 3) := by decide +kernel
theorem dJ9_min_7cf53_5 : decode cJ9_min_7cf53 5 = .ok (.iload_n 0, 1) := by decide +kernel
theorem dJ9_min_7cf53_6 : decode cJ9_min_7cf53 6 = .ok (.goto 4, 3) := by decide +kernel
theorem dJ9_min_7cf53_9 : decode cJ9_min_7cf53 9 = .ok (.iload_n 1, 1) := by decide +kernel
theorem dJ9_min_7cf53_10 : decode cJ9_min_7cf53 10 = .ok (.ireturn, 1) := by decide +kernel
theorem dJ0_length_8abf5_0 : decode cJ0_length_8abf5 0 = .ok (.aload_n 0, 1) := by decide +kernel
theorem dJ0_length_8abf5_1 : decode cJ0_length_8abf5 1 = .ok (.getfield 9, 3) := by decide +kernel
theorem dJ0_length_8abf5_4 : decode cJ0_length_8abf5 4 = .ok (.arraylength, 1) := by decide +kernel
theorem dJ0_length_8abf5_5 : decode cJ0_length_8abf5 5 = .ok (.aload_n 0, 1) := by decide +kernel
theorem dJ0_length_8abf5_6 : decode cJ0_length_8abf5 6 = .ok (.invokevirtual 335, 3) := by decide +kernel
theorem dJ0_length_8abf5_9 : decode cJ0_length_8abf5 9 = .ok (.ishr, 1) := by decide +kernel
theorem dJ0_length_8abf5_10 : decode cJ0_length_8abf5 10 = .ok (.ireturn, 1) := by decide +kernel
theorem dJ0_charAt_5068e_0 : decode cJ0_charAt_5068e 0 = .ok (.aload_n 0, 1) := by decide +kernel
theorem dJ0_charAt_5068e_1 : decode cJ0_charAt_5068e 1 = .ok (.invokevirtual 492, 3) := by decide +kernel
theorem dJ0_charAt_5068e_4 : decode cJ0_charAt_5068e 4 = .ok (.ifCond .eq 12, 3) := by decide +kernel
theorem dJ0_charAt_5068e_7 : decode cJ0_charAt_5068e 7 = .ok (.aload_n 0, 1) := by decide +kernel
theorem dJ0_charAt_5068e_8 : decode cJ0_charAt_5068e 8 = .ok (.getfield 9, 3) := by decide +kernel
theorem dJ0_charAt_5068e_11 : decode cJ0_charAt_5068e 11 = .ok (.iload_n 1, 1) := by decide +kernel
theorem dJ0_charAt_5068e_12 : decode cJ0_charAt_5068e 12 = .ok (.invokestatic 495, 3) := by decide +kernel
theorem dJ0_charAt_5068e_15 : decode cJ0_charAt_5068e 15 = .ok (.ireturn, 1) := by decide +kernel
theorem dJ0_charAt_5068e_16 : decode cJ0_charAt_5068e 16 = .ok (.aload_n 0, 1) := by decide +kernel
theorem dJ0_charAt_5068e_17 : decode cJ0_charAt_5068e 17 = .ok (.getfield 9, 3) := by decide +kernel
theorem dJ0_charAt_5068e_20 : decode cJ0_charAt_5068e 20 = .ok (.iload_n 1, 1) := by decide +kernel
theorem dJ0_charAt_5068e_21 : decode cJ0_charAt_5068e 21 = .ok (.invokestatic 498, 3) := by decide +kernel
theorem dJ0_charAt_5068e_24 : decode cJ0_charAt_5068e 24 = .ok (.ireturn, 1) := by decide +kernel
theorem dJ0_coder_7d493_0 : decode cJ0_coder_7d493 0 = .ok (.getstatic 38, 3) := by decide +kernel
theorem dJ0_coder_7d493_3 : decode cJ0_coder_7d493 3 = .ok (.ifCond .eq 10, 3) := by decide +kernel
theorem dJ0_coder_7d493_6 : decode cJ0_coder_7d493 6 = .ok (.aload_n 0, 1) := by decide +kernel
theorem dJ0_coder_7d493_7 : decode cJ0_coder_7d493 7 = .ok (.getfield 15, 3) := by decide +kernel
theorem dJ0_coder_7d493_10 : decode cJ0_coder_7d493 10 = .ok (.goto 4, 3) := by decide +kernel
theorem dJ0_coder_7d493_13 : decode cJ0_coder_7d493 13 = .ok (.iconst 1, 1) := by decide +kernel
theorem dJ0_coder_7d493_14 : decode cJ0_coder_7d493 14 = .ok (.ireturn, 1) := by decide +kernel
theorem dJ0_isLatin1_aae02_0 : decode cJ0_isLatin1_aae02 0 = .ok (.getstatic 38, 3) := by decide +kernel
theorem dJ0_isLatin1_aae02_3 : decode cJ0_isLatin1_aae02 3 = .ok (.ifCond .eq 14, 3) := by decide +kernel
theorem dJ0_isLatin1_aae02_6 : decode cJ0_isLatin1_aae02 6 = .ok (.aload_n 0, 1) := by decide +kernel
theorem dJ0_isLatin1_aae02_7 : decode cJ0_isLatin1_aae02 7 = .ok (.getfield 15, 3) := by decide +kernel
theorem dJ0_isLatin1_aae02_10 : decode cJ0_isLatin1_aae02 10 = .ok (.ifCond .ne 7, 3) := by decide +kernel
theorem dJ0_isLatin1_aae02_13 : decode cJ0_isLatin1_aae02 13 = .ok (.iconst 1, 1) := by decide +kernel
theorem dJ0_isLatin1_aae02_14 : decode cJ0_isLatin1_aae02 14 = .ok (.goto 4, 3) := by decide +kernel
theorem dJ0_isLatin1_aae02_17 : decode cJ0_isLatin1_aae02 17 = .ok (.iconst 0, 1) := by decide +kernel
theorem dJ0_isLatin1_aae02_18 : decode cJ0_isLatin1_aae02 18 = .ok (.ireturn, 1) := by decide +kernel
theorem dJ0_checkIndex_df160_0 : decode cJ0_checkIndex_df160 0 = .ok (.iload_n 0, 1) := by decide +kernel
theorem dJ0_checkIndex_df160_1 : decode cJ0_checkIndex_df160 1 = .ok (.iload_n 1, 1) := by decide +kernel
theorem dJ0_checkIndex_df160_2 : decode cJ0_checkIndex_df160 2 = .ok (.getstatic 1053, 3) := by decide +kernel
theorem dJ0_checkIndex_df160_5 : decode cJ0_checkIndex_df160 5 = .ok (.invokestatic 1059, 3) := by decide +kernel
theorem dJ0_checkIndex_df160_8 : decode cJ0_checkIndex_df160 8 = .ok (.pop, 1) := by decide +kernel
theorem dJ0_checkIndex_df160_9 : decode cJ0_checkIndex_df160 9 = .ok (.return_, 1) := by decide +kernel
theorem dJ1_charAt_3b067_0 : decode cJ1_charAt_3b067 0 = .ok (.iload_n 1, 1) := by decide +kernel
theorem dJ1_charAt_3b067_1 : decode cJ1_charAt_3b067 1 = .ok (.aload_n 0, 1) := by decide +kernel
theorem dJ1_charAt_3b067_2 : decode cJ1_charAt_3b067 2 = .ok (.arraylength, 1) := by decide +kernel
theorem dJ1_charAt_3b067_3 : decode cJ1_charAt_3b067 3 = .ok (.invokestatic 9, 3) := by decide +kernel
theorem dJ1_charAt_3b067_6 : decode cJ1_charAt_3b067 6 = .ok (.aload_n 0, 1) := by decide +kernel
theorem dJ1_charAt_3b067_7 : decode cJ1_charAt_3b067 7 = .ok (.iload_n 1, 1) := by decide +kernel
theorem dJ1_charAt_3b067_8 : decode cJ1_charAt_3b067 8 = .ok (.baload, 1) := by decide +kernel
theorem dJ1_charAt_3b067_9 : decode cJ1_charAt_3b067 9 = .ok (.sipush 255, 3) := by decide +kernel
theorem dJ1_charAt_3b067_12 : decode cJ1_charAt_3b067 12 = .ok (.iand, 1) := by decide +kernel
theorem dJ1_charAt_3b067_13 : decode cJ1_charAt_3b067 13 = .ok (.i2c, 1) := by decide +kernel
theorem dJ1_charAt_3b067_14 : decode cJ1_charAt_3b067 14 = .ok (.ireturn, 1) := by decide +kernel
theorem dJ2_getChar_3b067_0 : decode cJ2_getChar_3b067 0 = .ok (.getstatic 44, 3) := by decide +kernel
theorem dJ2_getChar_3b067_3 : decode cJ2_getChar_3b067 3 = .ok (.ifCond .ne 25, 3) := by decide +kernel
theorem dJ2_getChar_3b067_6 : decode cJ2_getChar_3b067 6 = .ok (.iload_n 1, 1) := by decide +kernel
theorem dJ2_getChar_3b067_7 : decode cJ2_getChar_3b067 7 = .ok (.ifCond .lt 11, 3) := by decide +kernel
theorem dJ2_getChar_3b067_10 : decode cJ2_getChar_3b067 10 = .ok (.iload_n 1, 1) := by decide +kernel
theorem dJ2_getChar_3b067_11 : decode cJ2_getChar_3b067 11 = .ok (.aload_n 0, 1) := by decide +kernel
theorem dJ2_getChar_3b067_12 : decode cJ2_getChar_3b067 12 = .ok (.invokestatic 48, 3) := by decide +kernel
theorem dJ2_getChar_3b067_15 : decode cJ2_getChar_3b067 15 = .ok (.if_icmp .lt 13, 3) := by decide +kernel
theorem dJ2_getChar_3b067_18 : decode cJ2_getChar_3b067 18 = .ok (.new 52, 3) := by decide +kernel
theorem dJ2_getChar_3b067_21 : decode cJ2_getChar_3b067 21 = .ok (.dup, 1) := by decide +kernel
theorem dJ2_getChar_3b067_22 : decode cJ2_getChar_3b067 22 = .ok (.ldc 54, 2) := by decide +kernel
theorem dJ2_getChar_3b067_24 : decode cJ2_getChar_3b067 24 = .ok (.invokespecial 56, 3) := by decide +kernel
theorem dJ2_getChar_3b067_27 : decode cJ2_getChar_3b067 27 = .ok (.athrow, 1) := by decide +kernel
theorem dJ2_getChar_3b067_28 : decode cJ2_getChar_3b067 28 = .ok (.iload_n 1, 1) := by decide +kernel
theorem dJ2_getChar_3b067_29 : decode cJ2_getChar_3b067 29 = .ok (.iconst 1, 1) := by decide +kernel
theorem dJ2_getChar_3b067_30 : decode cJ2_getChar_3b067 30 = .ok (.ishl, 1) := by decide +kernel
theorem dJ2_getChar_3b067_31 : decode cJ2_getChar_3b067 31 = .ok (.istore_n 1, 1) := by decide +kernel
theorem dJ2_getChar_3b067_32 : decode cJ2_getChar_3b067 32 = .ok (.aload_n 0, 1) := by decide +kernel
theorem dJ2_getChar_3b067_33 : decode cJ2_getChar_3b067 33 = .ok (.iload_n 1, 1) := by decide +kernel
theorem dJ2_getChar_3b067_34 : decode cJ2_getChar_3b067 34 = .ok (.iinc 1 1, 3) := by decide +kernel
theorem dJ2_getChar_3b067_37 : decode cJ2_getChar_3b067 37 = .ok (.baload, 1) := by decide +kernel
theorem dJ2_getChar_3b067_38 : decode cJ2_getChar_3b067 38 = .ok (.sipush 255, 3) := by decide +kernel
theorem dJ2_getChar_3b067_41 : decode cJ2_getChar_3b067 41 = .ok (.iand, 1) := by decide +kernel
theorem dJ2_getChar_3b067_42 : decode cJ2_getChar_3b067 42 = .ok (.getstatic 59, 3) := by decide +kernel
theorem dJ2_getChar_3b067_45 : decode cJ2_getChar_3b067 45 = .ok (.ishl, 1) := by decide +kernel
theorem dJ2_getChar_3b067_46 : decode cJ2_getChar_3b067 46 = .ok (.aload_n 0, 1) := by decide +kernel
theorem dJ2_getChar_3b067_47 : decode cJ2_getChar_3b067 47 = .ok (.iload_n 1, 1) := by decide +kernel
theorem dJ2_getChar_3b067_48 : decode cJ2_getChar_3b067 48 = .ok (.baload, 1) := by decide +kernel
theorem dJ2_getChar_3b067_49 : decode cJ2_getChar_3b067 49 = .ok (.sipush 255, 3) := by decide +kernel
theorem dJ2_getChar_3b067_52 : decode cJ2_getChar_3b067 52 = .ok (.iand, 1) := by decide +kernel
theorem dJ2_getChar_3b067_53 : decode cJ2_getChar_3b067 53 = .ok (.getstatic 63, 3) := by decide +kernel
theorem dJ2_getChar_3b067_56 : decode cJ2_getChar_3b067 56 = .ok (.ishl, 1) := by decide +kernel
theorem dJ2_getChar_3b067_57 : decode cJ2_getChar_3b067 57 = .ok (.ior, 1) := by decide +kernel
theorem dJ2_getChar_3b067_58 : decode cJ2_getChar_3b067 58 = .ok (.i2c, 1) := by decide +kernel
theorem dJ2_getChar_3b067_59 : decode cJ2_getChar_3b067 59 = .ok (.ireturn, 1) := by decide +kernel
theorem dJ2_length_9d52b_0 : decode cJ2_length_9d52b 0 = .ok (.aload_n 0, 1) := by decide +kernel
theorem dJ2_length_9d52b_1 : decode cJ2_length_9d52b 1 = .ok (.arraylength, 1) := by decide +kernel
theorem dJ2_length_9d52b_2 : decode cJ2_length_9d52b 2 = .ok (.iconst 1, 1) := by decide +kernel
theorem dJ2_length_9d52b_3 : decode cJ2_length_9d52b 3 = .ok (.ishr, 1) := by decide +kernel
theorem dJ2_length_9d52b_4 : decode cJ2_length_9d52b 4 = .ok (.ireturn, 1) := by decide +kernel
theorem dJ2_charAt_3b067_0 : decode cJ2_charAt_3b067 0 = .ok (.iload_n 1, 1) := by decide +kernel
theorem dJ2_charAt_3b067_1 : decode cJ2_charAt_3b067 1 = .ok (.aload_n 0, 1) := by decide +kernel
theorem dJ2_charAt_3b067_2 : decode cJ2_charAt_3b067 2 = .ok (.invokestatic 67, 3) := by decide +kernel
theorem dJ2_charAt_3b067_5 : decode cJ2_charAt_3b067 5 = .ok (.aload_n 0, 1) := by decide +kernel
theorem dJ2_charAt_3b067_6 : decode cJ2_charAt_3b067 6 = .ok (.iload_n 1, 1) := by decide +kernel
theorem dJ2_charAt_3b067_7 : decode cJ2_charAt_3b067 7 = .ok (.invokestatic 71, 3) := by decide +kernel
theorem dJ2_charAt_3b067_10 : decode cJ2_charAt_3b067 10 = .ok (.ireturn, 1) := by decide +kernel
theorem dJ2_checkIndex_2214a_0 : decode cJ2_checkIndex_2214a 0 = .ok (.iload_n 0, 1) := by decide +kernel
theorem dJ2_checkIndex_2214a_1 : decode cJ2_checkIndex_2214a 1 = .ok (.aload_n 1, 1) := by decide +kernel
theorem dJ2_checkIndex_2214a_2 : decode cJ2_checkIndex_2214a 2 = .ok (.invokestatic 48, 3) := by decide +kernel
theorem dJ2_checkIndex_2214a_5 : decode cJ2_checkIndex_2214a 5 = .ok (.invokestatic 414, 3) := by decide +kernel
theorem dJ2_checkIndex_2214a_8 : decode cJ2_checkIndex_2214a 8 = .ok (.return_, 1) := by decide +kernel
theorem dJ3_checkIndex_8e157_0 : decode cJ3_checkIndex_8e157 0 = .ok (.iload_n 0, 1) := by decide +kernel
theorem dJ3_checkIndex_8e157_1 : decode cJ3_checkIndex_8e157 1 = .ok (.ifCond .lt 8, 3) := by decide +kernel
theorem dJ3_checkIndex_8e157_4 : decode cJ3_checkIndex_8e157 4 = .ok (.iload_n 0, 1) := by decide +kernel
theorem dJ3_checkIndex_8e157_5 : decode cJ3_checkIndex_8e157 5 = .ok (.iload_n 1, 1) := by decide +kernel
theorem dJ3_checkIndex_8e157_6 : decode cJ3_checkIndex_8e157 6 = .ok (.if_icmp .lt 10, 3) := by decide +kernel
theorem dJ3_checkIndex_8e157_9 : decode cJ3_checkIndex_8e157 9 = .ok (.aload_n 2, 1) := by decide +kernel
theorem dJ3_checkIndex_8e157_10 : decode cJ3_checkIndex_8e157 10 = .ok (.iload_n 0, 1) := by decide +kernel
theorem dJ3_checkIndex_8e157_11 : decode cJ3_checkIndex_8e157 11 = .ok (.iload_n 1, 1) := by decide +kernel
theorem dJ3_checkIndex_8e157_12 : decode cJ3_checkIndex_8e157 12 = .ok (.invokestatic 95, 3) := by decide +kernel
theorem dJ3_checkIndex_8e157_15 : decode cJ3_checkIndex_8e157 15 = .ok (.athrow, 1) := by decide +kernel
theorem dJ3_checkIndex_8e157_16 : decode cJ3_checkIndex_8e157 16 = .ok (.iload_n 0, 1) := by decide +kernel
theorem dJ3_checkIndex_8e157_17 : decode cJ3_checkIndex_8e157 17 = .ok (.ireturn, 1) := by decide +kernel
theorem dL_law_0 : decode cL_law 0 = .ok (.new 7, 3) := by decide +kernel
theorem dL_law_3 : decode cL_law 3 = .ok (.dup, 1) := by decide +kernel
theorem dL_law_4 : decode cL_law 4 = .ok (.invokespecial 9, 3) := by decide +kernel
theorem dL_law_7 : decode cL_law 7 = .ok (.astore_n 1, 1) := by decide +kernel
theorem dL_law_8 : decode cL_law 8 = .ok (.new 10, 3) := by decide +kernel
theorem dL_law_11 : decode cL_law 11 = .ok (.dup, 1) := by decide +kernel
theorem dL_law_12 : decode cL_law 12 = .ok (.invokespecial 12, 3) := by decide +kernel
theorem dL_law_15 : decode cL_law 15 = .ok (.astore_n 2, 1) := by decide +kernel
theorem dL_law_16 : decode cL_law 16 = .ok (.iconst 0, 1) := by decide +kernel
theorem dL_law_17 : decode cL_law 17 = .ok (.istore_n 3, 1) := by decide +kernel
theorem dL_law_18 : decode cL_law 18 = .ok (.iload_n 3, 1) := by decide +kernel
theorem dL_law_19 : decode cL_law 19 = .ok (.aload_n 0, 1) := by decide +kernel
theorem dL_law_20 : decode cL_law 20 = .ok (.arraylength, 1) := by decide +kernel
theorem dL_law_21 : decode cL_law 21 = .ok (.bipush 6, 2) := by decide +kernel
theorem dL_law_23 : decode cL_law 23 = .ok (.isub, 1) := by decide +kernel
theorem dL_law_24 : decode cL_law 24 = .ok (.if_icmp .gt 1557, 3) := by decide +kernel
theorem dL_law_27 : decode cL_law 27 = .ok (.aload_n 0, 1) := by decide +kernel
theorem dL_law_28 : decode cL_law 28 = .ok (.iload_n 3, 1) := by decide +kernel
theorem dL_law_29 : decode cL_law 29 = .ok (.iaload, 1) := by decide +kernel
theorem dL_law_30 : decode cL_law 30 = .ok (.bipush 31, 2) := by decide +kernel
theorem dL_law_32 : decode cL_law 32 = .ok (.iand, 1) := by decide +kernel
theorem dL_law_33 : decode cL_law 33 = .ok (.tableswitch 1542 0 31 #[143, 206, 229, 262, 285, 318, 361, 404, 437, 490, 543, 586, 629, 725, 811, 860, 913, 946, 990, 1023, 1076, 1109, 1142, 1176, 1245, 1294, 1337, 1397, 1430, 1473, 1496, 1519], 143) := by decide +kernel
theorem dL_law_176 : decode cL_law 176 = .ok (.aload_n 1, 1) := by decide +kernel
theorem dL_law_177 : decode cL_law 177 = .ok (.aload_n 0, 1) := by decide +kernel
theorem dL_law_178 : decode cL_law 178 = .ok (.iload_n 3, 1) := by decide +kernel
theorem dL_law_179 : decode cL_law 179 = .ok (.iconst 1, 1) := by decide +kernel
theorem dL_law_180 : decode cL_law 180 = .ok (.iadd, 1) := by decide +kernel
theorem dL_law_181 : decode cL_law 181 = .ok (.iaload, 1) := by decide +kernel
theorem dL_law_182 : decode cL_law 182 = .ok (.aload_n 0, 1) := by decide +kernel
theorem dL_law_183 : decode cL_law 183 = .ok (.iload_n 3, 1) := by decide +kernel
theorem dL_law_184 : decode cL_law 184 = .ok (.iconst 2, 1) := by decide +kernel
theorem dL_law_185 : decode cL_law 185 = .ok (.iadd, 1) := by decide +kernel
theorem dL_law_186 : decode cL_law 186 = .ok (.iaload, 1) := by decide +kernel
theorem dL_law_187 : decode cL_law 187 = .ok (.aload_n 0, 1) := by decide +kernel
theorem dL_law_188 : decode cL_law 188 = .ok (.iload_n 3, 1) := by decide +kernel
theorem dL_law_189 : decode cL_law 189 = .ok (.iconst 3, 1) := by decide +kernel
theorem dL_law_190 : decode cL_law 190 = .ok (.iadd, 1) := by decide +kernel
theorem dL_law_191 : decode cL_law 191 = .ok (.iaload, 1) := by decide +kernel
theorem dL_law_192 : decode cL_law 192 = .ok (.aload_n 0, 1) := by decide +kernel
theorem dL_law_193 : decode cL_law 193 = .ok (.iload_n 3, 1) := by decide +kernel
theorem dL_law_194 : decode cL_law 194 = .ok (.iconst 4, 1) := by decide +kernel
theorem dL_law_195 : decode cL_law 195 = .ok (.iadd, 1) := by decide +kernel
theorem dL_law_196 : decode cL_law 196 = .ok (.iaload, 1) := by decide +kernel
theorem dL_law_197 : decode cL_law 197 = .ok (.aload_n 0, 1) := by decide +kernel
theorem dL_law_198 : decode cL_law 198 = .ok (.iload_n 3, 1) := by decide +kernel
theorem dL_law_199 : decode cL_law 199 = .ok (.iconst 5, 1) := by decide +kernel
theorem dL_law_200 : decode cL_law 200 = .ok (.iadd, 1) := by decide +kernel
theorem dL_law_201 : decode cL_law 201 = .ok (.iaload, 1) := by decide +kernel
theorem dL_law_202 : decode cL_law 202 = .ok (.invokevirtual 13, 3) := by decide +kernel
theorem dL_law_205 : decode cL_law 205 = .ok (.aload_n 2, 1) := by decide +kernel
theorem dL_law_206 : decode cL_law 206 = .ok (.aload_n 0, 1) := by decide +kernel
theorem dL_law_207 : decode cL_law 207 = .ok (.iload_n 3, 1) := by decide +kernel
theorem dL_law_208 : decode cL_law 208 = .ok (.iconst 1, 1) := by decide +kernel
theorem dL_law_209 : decode cL_law 209 = .ok (.iadd, 1) := by decide +kernel
theorem dL_law_210 : decode cL_law 210 = .ok (.iaload, 1) := by decide +kernel
theorem dL_law_211 : decode cL_law 211 = .ok (.aload_n 0, 1) := by decide +kernel
theorem dL_law_212 : decode cL_law 212 = .ok (.iload_n 3, 1) := by decide +kernel
theorem dL_law_213 : decode cL_law 213 = .ok (.iconst 2, 1) := by decide +kernel
theorem dL_law_214 : decode cL_law 214 = .ok (.iadd, 1) := by decide +kernel
theorem dL_law_215 : decode cL_law 215 = .ok (.iaload, 1) := by decide +kernel
theorem dL_law_216 : decode cL_law 216 = .ok (.aload_n 0, 1) := by decide +kernel
theorem dL_law_217 : decode cL_law 217 = .ok (.iload_n 3, 1) := by decide +kernel
theorem dL_law_218 : decode cL_law 218 = .ok (.iconst 3, 1) := by decide +kernel
theorem dL_law_219 : decode cL_law 219 = .ok (.iadd, 1) := by decide +kernel
theorem dL_law_220 : decode cL_law 220 = .ok (.iaload, 1) := by decide +kernel
theorem dL_law_221 : decode cL_law 221 = .ok (.aload_n 0, 1) := by decide +kernel
theorem dL_law_222 : decode cL_law 222 = .ok (.iload_n 3, 1) := by decide +kernel
theorem dL_law_223 : decode cL_law 223 = .ok (.iconst 4, 1) := by decide +kernel
theorem dL_law_224 : decode cL_law 224 = .ok (.iadd, 1) := by decide +kernel
theorem dL_law_225 : decode cL_law 225 = .ok (.iaload, 1) := by decide +kernel
theorem dL_law_226 : decode cL_law 226 = .ok (.aload_n 0, 1) := by decide +kernel
theorem dL_law_227 : decode cL_law 227 = .ok (.iload_n 3, 1) := by decide +kernel
theorem dL_law_228 : decode cL_law 228 = .ok (.iconst 5, 1) := by decide +kernel
theorem dL_law_229 : decode cL_law 229 = .ok (.iadd, 1) := by decide +kernel
theorem dL_law_230 : decode cL_law 230 = .ok (.iaload, 1) := by decide +kernel
theorem dL_law_231 : decode cL_law 231 = .ok (.invokevirtual 17, 3) := by decide +kernel
theorem dL_law_234 : decode cL_law 234 = .ok (.if_icmp .eq 1341, 3) := by decide +kernel
theorem dL_law_237 : decode cL_law 237 = .ok (.iconst 0, 1) := by decide +kernel
theorem dL_law_238 : decode cL_law 238 = .ok (.ireturn, 1) := by decide +kernel
theorem dL_law_239 : decode cL_law 239 = .ok (.aload_n 1, 1) := by decide +kernel
theorem dL_law_240 : decode cL_law 240 = .ok (.aload_n 0, 1) := by decide +kernel
theorem dL_law_241 : decode cL_law 241 = .ok (.iload_n 3, 1) := by decide +kernel
theorem dL_law_242 : decode cL_law 242 = .ok (.iconst 1, 1) := by decide +kernel
theorem dL_law_243 : decode cL_law 243 = .ok (.iadd, 1) := by decide +kernel
theorem dL_law_244 : decode cL_law 244 = .ok (.iaload, 1) := by decide +kernel
theorem dL_law_245 : decode cL_law 245 = .ok (.invokevirtual 18, 3) := by decide +kernel
theorem dL_law_248 : decode cL_law 248 = .ok (.aload_n 2, 1) := by decide +kernel
theorem dL_law_249 : decode cL_law 249 = .ok (.aload_n 0, 1) := by decide +kernel
theorem dL_law_250 : decode cL_law 250 = .ok (.iload_n 3, 1) := by decide +kernel
theorem dL_law_251 : decode cL_law 251 = .ok (.iconst 1, 1) := by decide +kernel
theorem dL_law_252 : decode cL_law 252 = .ok (.iadd, 1) := by decide +kernel
theorem dL_law_253 : decode cL_law 253 = .ok (.iaload, 1) := by decide +kernel
theorem dL_law_254 : decode cL_law 254 = .ok (.invokevirtual 22, 3) := by decide +kernel
theorem dL_law_257 : decode cL_law 257 = .ok (.if_icmp .eq 1318, 3) := by decide +kernel
theorem dL_law_260 : decode cL_law 260 = .ok (.iconst 0, 1) := by decide +kernel
theorem dL_law_261 : decode cL_law 261 = .ok (.ireturn, 1) := by decide +kernel
theorem dL_law_262 : decode cL_law 262 = .ok (.aload_n 1, 1) := by decide +kernel
theorem dL_law_263 : decode cL_law 263 = .ok (.aload_n 0, 1) := by decide +kernel
theorem dL_law_264 : decode cL_law 264 = .ok (.iload_n 3, 1) := by decide +kernel
theorem dL_law_265 : decode cL_law 265 = .ok (.iconst 1, 1) := by decide +kernel
theorem dL_law_266 : decode cL_law 266 = .ok (.iadd, 1) := by decide +kernel
theorem dL_law_267 : decode cL_law 267 = .ok (.iaload, 1) := by decide +kernel
theorem dL_law_268 : decode cL_law 268 = .ok (.aload_n 0, 1) := by decide +kernel
theorem dL_law_269 : decode cL_law 269 = .ok (.iload_n 3, 1) := by decide +kernel
theorem dL_law_270 : decode cL_law 270 = .ok (.iconst 2, 1) := by decide +kernel
theorem dL_law_271 : decode cL_law 271 = .ok (.iadd, 1) := by decide +kernel
theorem dL_law_272 : decode cL_law 272 = .ok (.iaload, 1) := by decide +kernel
theorem dL_law_273 : decode cL_law 273 = .ok (.invokevirtual 23, 3) := by decide +kernel
theorem dL_law_276 : decode cL_law 276 = .ok (.aload_n 2, 1) := by decide +kernel
theorem dL_law_277 : decode cL_law 277 = .ok (.aload_n 0, 1) := by decide +kernel
theorem dL_law_278 : decode cL_law 278 = .ok (.iload_n 3, 1) := by decide +kernel
theorem dL_law_279 : decode cL_law 279 = .ok (.iconst 1, 1) := by decide +kernel
theorem dL_law_280 : decode cL_law 280 = .ok (.iadd, 1) := by decide +kernel
theorem dL_law_281 : decode cL_law 281 = .ok (.iaload, 1) := by decide +kernel
theorem dL_law_282 : decode cL_law 282 = .ok (.aload_n 0, 1) := by decide +kernel
theorem dL_law_283 : decode cL_law 283 = .ok (.iload_n 3, 1) := by decide +kernel
theorem dL_law_284 : decode cL_law 284 = .ok (.iconst 2, 1) := by decide +kernel
theorem dL_law_285 : decode cL_law 285 = .ok (.iadd, 1) := by decide +kernel
theorem dL_law_286 : decode cL_law 286 = .ok (.iaload, 1) := by decide +kernel
theorem dL_law_287 : decode cL_law 287 = .ok (.invokevirtual 27, 3) := by decide +kernel
theorem dL_law_290 : decode cL_law 290 = .ok (.if_icmp .eq 1285, 3) := by decide +kernel
theorem dL_law_293 : decode cL_law 293 = .ok (.iconst 0, 1) := by decide +kernel
theorem dL_law_294 : decode cL_law 294 = .ok (.ireturn, 1) := by decide +kernel
theorem dL_law_295 : decode cL_law 295 = .ok (.aload_n 1, 1) := by decide +kernel
theorem dL_law_296 : decode cL_law 296 = .ok (.aload_n 0, 1) := by decide +kernel
theorem dL_law_297 : decode cL_law 297 = .ok (.iload_n 3, 1) := by decide +kernel
theorem dL_law_298 : decode cL_law 298 = .ok (.iconst 1, 1) := by decide +kernel
theorem dL_law_299 : decode cL_law 299 = .ok (.iadd, 1) := by decide +kernel
theorem dL_law_300 : decode cL_law 300 = .ok (.iaload, 1) := by decide +kernel
theorem dL_law_301 : decode cL_law 301 = .ok (.invokevirtual 28, 3) := by decide +kernel
theorem dL_law_304 : decode cL_law 304 = .ok (.aload_n 2, 1) := by decide +kernel
theorem dL_law_305 : decode cL_law 305 = .ok (.aload_n 0, 1) := by decide +kernel
theorem dL_law_306 : decode cL_law 306 = .ok (.iload_n 3, 1) := by decide +kernel
theorem dL_law_307 : decode cL_law 307 = .ok (.iconst 1, 1) := by decide +kernel
theorem dL_law_308 : decode cL_law 308 = .ok (.iadd, 1) := by decide +kernel
theorem dL_law_309 : decode cL_law 309 = .ok (.iaload, 1) := by decide +kernel
theorem dL_law_310 : decode cL_law 310 = .ok (.invokevirtual 31, 3) := by decide +kernel
theorem dL_law_313 : decode cL_law 313 = .ok (.if_icmp .eq 1262, 3) := by decide +kernel
theorem dL_law_316 : decode cL_law 316 = .ok (.iconst 0, 1) := by decide +kernel
theorem dL_law_317 : decode cL_law 317 = .ok (.ireturn, 1) := by decide +kernel
theorem dL_law_318 : decode cL_law 318 = .ok (.aload_n 1, 1) := by decide +kernel
theorem dL_law_319 : decode cL_law 319 = .ok (.aload_n 0, 1) := by decide +kernel
theorem dL_law_320 : decode cL_law 320 = .ok (.iload_n 3, 1) := by decide +kernel
theorem dL_law_321 : decode cL_law 321 = .ok (.iconst 1, 1) := by decide +kernel
theorem dL_law_322 : decode cL_law 322 = .ok (.iadd, 1) := by decide +kernel
theorem dL_law_323 : decode cL_law 323 = .ok (.iaload, 1) := by decide +kernel
theorem dL_law_324 : decode cL_law 324 = .ok (.aload_n 0, 1) := by decide +kernel
theorem dL_law_325 : decode cL_law 325 = .ok (.iload_n 3, 1) := by decide +kernel
theorem dL_law_326 : decode cL_law 326 = .ok (.iconst 2, 1) := by decide +kernel
theorem dL_law_327 : decode cL_law 327 = .ok (.iadd, 1) := by decide +kernel
theorem dL_law_328 : decode cL_law 328 = .ok (.iaload, 1) := by decide +kernel
theorem dL_law_329 : decode cL_law 329 = .ok (.invokevirtual 32, 3) := by decide +kernel
theorem dL_law_332 : decode cL_law 332 = .ok (.aload_n 2, 1) := by decide +kernel
theorem dL_law_333 : decode cL_law 333 = .ok (.aload_n 0, 1) := by decide +kernel
theorem dL_law_334 : decode cL_law 334 = .ok (.iload_n 3, 1) := by decide +kernel
theorem dL_law_335 : decode cL_law 335 = .ok (.iconst 1, 1) := by decide +kernel
theorem dL_law_336 : decode cL_law 336 = .ok (.iadd, 1) := by decide +kernel
theorem dL_law_337 : decode cL_law 337 = .ok (.iaload, 1) := by decide +kernel
theorem dL_law_338 : decode cL_law 338 = .ok (.aload_n 0, 1) := by decide +kernel
theorem dL_law_339 : decode cL_law 339 = .ok (.iload_n 3, 1) := by decide +kernel
theorem dL_law_340 : decode cL_law 340 = .ok (.iconst 2, 1) := by decide +kernel
theorem dL_law_341 : decode cL_law 341 = .ok (.iadd, 1) := by decide +kernel
theorem dL_law_342 : decode cL_law 342 = .ok (.iaload, 1) := by decide +kernel
theorem dL_law_343 : decode cL_law 343 = .ok (.invokevirtual 35, 3) := by decide +kernel
theorem dL_law_346 : decode cL_law 346 = .ok (.if_icmp .eq 1229, 3) := by decide +kernel
theorem dL_law_349 : decode cL_law 349 = .ok (.iconst 0, 1) := by decide +kernel
theorem dL_law_350 : decode cL_law 350 = .ok (.ireturn, 1) := by decide +kernel
theorem dL_law_351 : decode cL_law 351 = .ok (.aload_n 1, 1) := by decide +kernel
theorem dL_law_352 : decode cL_law 352 = .ok (.aload_n 0, 1) := by decide +kernel
theorem dL_law_353 : decode cL_law 353 = .ok (.iload_n 3, 1) := by decide +kernel
theorem dL_law_354 : decode cL_law 354 = .ok (.iconst 1, 1) := by decide +kernel
theorem dL_law_355 : decode cL_law 355 = .ok (.iadd, 1) := by decide +kernel
theorem dL_law_356 : decode cL_law 356 = .ok (.iaload, 1) := by decide +kernel
theorem dL_law_357 : decode cL_law 357 = .ok (.aload_n 0, 1) := by decide +kernel
theorem dL_law_358 : decode cL_law 358 = .ok (.iload_n 3, 1) := by decide +kernel
theorem dL_law_359 : decode cL_law 359 = .ok (.iconst 2, 1) := by decide +kernel
theorem dL_law_360 : decode cL_law 360 = .ok (.iadd, 1) := by decide +kernel
theorem dL_law_361 : decode cL_law 361 = .ok (.iaload, 1) := by decide +kernel
theorem dL_law_362 : decode cL_law 362 = .ok (.aload_n 0, 1) := by decide +kernel
theorem dL_law_363 : decode cL_law 363 = .ok (.iload_n 3, 1) := by decide +kernel
theorem dL_law_364 : decode cL_law 364 = .ok (.iconst 3, 1) := by decide +kernel
theorem dL_law_365 : decode cL_law 365 = .ok (.iadd, 1) := by decide +kernel
theorem dL_law_366 : decode cL_law 366 = .ok (.iaload, 1) := by decide +kernel
theorem dL_law_367 : decode cL_law 367 = .ok (.invokevirtual 36, 3) := by decide +kernel
theorem dL_law_370 : decode cL_law 370 = .ok (.aload_n 2, 1) := by decide +kernel
theorem dL_law_371 : decode cL_law 371 = .ok (.aload_n 0, 1) := by decide +kernel
theorem dL_law_372 : decode cL_law 372 = .ok (.iload_n 3, 1) := by decide +kernel
theorem dL_law_373 : decode cL_law 373 = .ok (.iconst 1, 1) := by decide +kernel
theorem dL_law_374 : decode cL_law 374 = .ok (.iadd, 1) := by decide +kernel
theorem dL_law_375 : decode cL_law 375 = .ok (.iaload, 1) := by decide +kernel
theorem dL_law_376 : decode cL_law 376 = .ok (.aload_n 0, 1) := by decide +kernel
theorem dL_law_377 : decode cL_law 377 = .ok (.iload_n 3, 1) := by decide +kernel
theorem dL_law_378 : decode cL_law 378 = .ok (.iconst 2, 1) := by decide +kernel
theorem dL_law_379 : decode cL_law 379 = .ok (.iadd, 1) := by decide +kernel
theorem dL_law_380 : decode cL_law 380 = .ok (.iaload, 1) := by decide +kernel
theorem dL_law_381 : decode cL_law 381 = .ok (.aload_n 0, 1) := by decide +kernel
theorem dL_law_382 : decode cL_law 382 = .ok (.iload_n 3, 1) := by decide +kernel
theorem dL_law_383 : decode cL_law 383 = .ok (.iconst 3, 1) := by decide +kernel
theorem dL_law_384 : decode cL_law 384 = .ok (.iadd, 1) := by decide +kernel
theorem dL_law_385 : decode cL_law 385 = .ok (.iaload, 1) := by decide +kernel
theorem dL_law_386 : decode cL_law 386 = .ok (.invokevirtual 40, 3) := by decide +kernel
theorem dL_law_389 : decode cL_law 389 = .ok (.if_icmp .eq 1186, 3) := by decide +kernel
theorem dL_law_392 : decode cL_law 392 = .ok (.iconst 0, 1) := by decide +kernel
theorem dL_law_393 : decode cL_law 393 = .ok (.ireturn, 1) := by decide +kernel
theorem dL_law_394 : decode cL_law 394 = .ok (.aload_n 1, 1) := by decide +kernel
theorem dL_law_395 : decode cL_law 395 = .ok (.aload_n 0, 1) := by decide +kernel
theorem dL_law_396 : decode cL_law 396 = .ok (.iload_n 3, 1) := by decide +kernel
theorem dL_law_397 : decode cL_law 397 = .ok (.iconst 1, 1) := by decide +kernel
theorem dL_law_398 : decode cL_law 398 = .ok (.iadd, 1) := by decide +kernel
theorem dL_law_399 : decode cL_law 399 = .ok (.iaload, 1) := by decide +kernel
theorem dL_law_400 : decode cL_law 400 = .ok (.aload_n 0, 1) := by decide +kernel
theorem dL_law_401 : decode cL_law 401 = .ok (.iload_n 3, 1) := by decide +kernel
theorem dL_law_402 : decode cL_law 402 = .ok (.iconst 2, 1) := by decide +kernel
theorem dL_law_403 : decode cL_law 403 = .ok (.iadd, 1) := by decide +kernel
theorem dL_law_404 : decode cL_law 404 = .ok (.iaload, 1) := by decide +kernel
theorem dL_law_405 : decode cL_law 405 = .ok (.aload_n 0, 1) := by decide +kernel
theorem dL_law_406 : decode cL_law 406 = .ok (.iload_n 3, 1) := by decide +kernel
theorem dL_law_407 : decode cL_law 407 = .ok (.iconst 3, 1) := by decide +kernel
theorem dL_law_408 : decode cL_law 408 = .ok (.iadd, 1) := by decide +kernel
theorem dL_law_409 : decode cL_law 409 = .ok (.iaload, 1) := by decide +kernel
theorem dL_law_410 : decode cL_law 410 = .ok (.invokevirtual 41, 3) := by decide +kernel
theorem dL_law_413 : decode cL_law 413 = .ok (.aload_n 2, 1) := by decide +kernel
theorem dL_law_414 : decode cL_law 414 = .ok (.aload_n 0, 1) := by decide +kernel
theorem dL_law_415 : decode cL_law 415 = .ok (.iload_n 3, 1) := by decide +kernel
theorem dL_law_416 : decode cL_law 416 = .ok (.iconst 1, 1) := by decide +kernel
theorem dL_law_417 : decode cL_law 417 = .ok (.iadd, 1) := by decide +kernel
theorem dL_law_418 : decode cL_law 418 = .ok (.iaload, 1) := by decide +kernel
theorem dL_law_419 : decode cL_law 419 = .ok (.aload_n 0, 1) := by decide +kernel
theorem dL_law_420 : decode cL_law 420 = .ok (.iload_n 3, 1) := by decide +kernel
theorem dL_law_421 : decode cL_law 421 = .ok (.iconst 2, 1) := by decide +kernel
theorem dL_law_422 : decode cL_law 422 = .ok (.iadd, 1) := by decide +kernel
theorem dL_law_423 : decode cL_law 423 = .ok (.iaload, 1) := by decide +kernel
theorem dL_law_424 : decode cL_law 424 = .ok (.aload_n 0, 1) := by decide +kernel
theorem dL_law_425 : decode cL_law 425 = .ok (.iload_n 3, 1) := by decide +kernel
theorem dL_law_426 : decode cL_law 426 = .ok (.iconst 3, 1) := by decide +kernel
theorem dL_law_427 : decode cL_law 427 = .ok (.iadd, 1) := by decide +kernel
theorem dL_law_428 : decode cL_law 428 = .ok (.iaload, 1) := by decide +kernel
theorem dL_law_429 : decode cL_law 429 = .ok (.invokevirtual 44, 3) := by decide +kernel
theorem dL_law_432 : decode cL_law 432 = .ok (.if_icmp .eq 1143, 3) := by decide +kernel
theorem dL_law_435 : decode cL_law 435 = .ok (.iconst 0, 1) := by decide +kernel
theorem dL_law_436 : decode cL_law 436 = .ok (.ireturn, 1) := by decide +kernel
theorem dL_law_437 : decode cL_law 437 = .ok (.aload_n 1, 1) := by decide +kernel
theorem dL_law_438 : decode cL_law 438 = .ok (.aload_n 0, 1) := by decide +kernel
theorem dL_law_439 : decode cL_law 439 = .ok (.iload_n 3, 1) := by decide +kernel
theorem dL_law_440 : decode cL_law 440 = .ok (.iconst 1, 1) := by decide +kernel
theorem dL_law_441 : decode cL_law 441 = .ok (.iadd, 1) := by decide +kernel
theorem dL_law_442 : decode cL_law 442 = .ok (.iaload, 1) := by decide +kernel
theorem dL_law_443 : decode cL_law 443 = .ok (.aload_n 0, 1) := by decide +kernel
theorem dL_law_444 : decode cL_law 444 = .ok (.iload_n 3, 1) := by decide +kernel
theorem dL_law_445 : decode cL_law 445 = .ok (.iconst 2, 1) := by decide +kernel
theorem dL_law_446 : decode cL_law 446 = .ok (.iadd, 1) := by decide +kernel
theorem dL_law_447 : decode cL_law 447 = .ok (.iaload, 1) := by decide +kernel
theorem dL_law_448 : decode cL_law 448 = .ok (.invokevirtual 45, 3) := by decide +kernel
theorem dL_law_451 : decode cL_law 451 = .ok (.aload_n 2, 1) := by decide +kernel
theorem dL_law_452 : decode cL_law 452 = .ok (.aload_n 0, 1) := by decide +kernel
theorem dL_law_453 : decode cL_law 453 = .ok (.iload_n 3, 1) := by decide +kernel
theorem dL_law_454 : decode cL_law 454 = .ok (.iconst 1, 1) := by decide +kernel
theorem dL_law_455 : decode cL_law 455 = .ok (.iadd, 1) := by decide +kernel
theorem dL_law_456 : decode cL_law 456 = .ok (.iaload, 1) := by decide +kernel
theorem dL_law_457 : decode cL_law 457 = .ok (.aload_n 0, 1) := by decide +kernel
theorem dL_law_458 : decode cL_law 458 = .ok (.iload_n 3, 1) := by decide +kernel
theorem dL_law_459 : decode cL_law 459 = .ok (.iconst 2, 1) := by decide +kernel
theorem dL_law_460 : decode cL_law 460 = .ok (.iadd, 1) := by decide +kernel
theorem dL_law_461 : decode cL_law 461 = .ok (.iaload, 1) := by decide +kernel
theorem dL_law_462 : decode cL_law 462 = .ok (.invokevirtual 48, 3) := by decide +kernel
theorem dL_law_465 : decode cL_law 465 = .ok (.if_icmp .eq 1110, 3) := by decide +kernel
theorem dL_law_468 : decode cL_law 468 = .ok (.iconst 0, 1) := by decide +kernel
theorem dL_law_469 : decode cL_law 469 = .ok (.ireturn, 1) := by decide +kernel
theorem dL_law_470 : decode cL_law 470 = .ok (.aload_n 1, 1) := by decide +kernel
theorem dL_law_471 : decode cL_law 471 = .ok (.aload_n 0, 1) := by decide +kernel
theorem dL_law_472 : decode cL_law 472 = .ok (.iload_n 3, 1) := by decide +kernel
theorem dL_law_473 : decode cL_law 473 = .ok (.iconst 1, 1) := by decide +kernel
theorem dL_law_474 : decode cL_law 474 = .ok (.iadd, 1) := by decide +kernel
theorem dL_law_475 : decode cL_law 475 = .ok (.iaload, 1) := by decide +kernel
theorem dL_law_476 : decode cL_law 476 = .ok (.aload_n 0, 1) := by decide +kernel
theorem dL_law_477 : decode cL_law 477 = .ok (.iload_n 3, 1) := by decide +kernel
theorem dL_law_478 : decode cL_law 478 = .ok (.iconst 2, 1) := by decide +kernel
theorem dL_law_479 : decode cL_law 479 = .ok (.iadd, 1) := by decide +kernel
theorem dL_law_480 : decode cL_law 480 = .ok (.iaload, 1) := by decide +kernel
theorem dL_law_481 : decode cL_law 481 = .ok (.aload_n 0, 1) := by decide +kernel
theorem dL_law_482 : decode cL_law 482 = .ok (.iload_n 3, 1) := by decide +kernel
theorem dL_law_483 : decode cL_law 483 = .ok (.iconst 3, 1) := by decide +kernel
theorem dL_law_484 : decode cL_law 484 = .ok (.iadd, 1) := by decide +kernel
theorem dL_law_485 : decode cL_law 485 = .ok (.iaload, 1) := by decide +kernel
theorem dL_law_486 : decode cL_law 486 = .ok (.aload_n 0, 1) := by decide +kernel
theorem dL_law_487 : decode cL_law 487 = .ok (.iload_n 3, 1) := by decide +kernel
theorem dL_law_488 : decode cL_law 488 = .ok (.iconst 4, 1) := by decide +kernel
theorem dL_law_489 : decode cL_law 489 = .ok (.iadd, 1) := by decide +kernel
theorem dL_law_490 : decode cL_law 490 = .ok (.iaload, 1) := by decide +kernel
theorem dL_law_491 : decode cL_law 491 = .ok (.invokevirtual 49, 3) := by decide +kernel
theorem dL_law_494 : decode cL_law 494 = .ok (.aload_n 2, 1) := by decide +kernel
theorem dL_law_495 : decode cL_law 495 = .ok (.aload_n 0, 1) := by decide +kernel
theorem dL_law_496 : decode cL_law 496 = .ok (.iload_n 3, 1) := by decide +kernel
theorem dL_law_497 : decode cL_law 497 = .ok (.iconst 1, 1) := by decide +kernel
theorem dL_law_498 : decode cL_law 498 = .ok (.iadd, 1) := by decide +kernel
theorem dL_law_499 : decode cL_law 499 = .ok (.iaload, 1) := by decide +kernel
theorem dL_law_500 : decode cL_law 500 = .ok (.aload_n 0, 1) := by decide +kernel
theorem dL_law_501 : decode cL_law 501 = .ok (.iload_n 3, 1) := by decide +kernel
theorem dL_law_502 : decode cL_law 502 = .ok (.iconst 2, 1) := by decide +kernel
theorem dL_law_503 : decode cL_law 503 = .ok (.iadd, 1) := by decide +kernel
theorem dL_law_504 : decode cL_law 504 = .ok (.iaload, 1) := by decide +kernel
theorem dL_law_505 : decode cL_law 505 = .ok (.aload_n 0, 1) := by decide +kernel
theorem dL_law_506 : decode cL_law 506 = .ok (.iload_n 3, 1) := by decide +kernel
theorem dL_law_507 : decode cL_law 507 = .ok (.iconst 3, 1) := by decide +kernel
theorem dL_law_508 : decode cL_law 508 = .ok (.iadd, 1) := by decide +kernel
theorem dL_law_509 : decode cL_law 509 = .ok (.iaload, 1) := by decide +kernel
theorem dL_law_510 : decode cL_law 510 = .ok (.aload_n 0, 1) := by decide +kernel
theorem dL_law_511 : decode cL_law 511 = .ok (.iload_n 3, 1) := by decide +kernel
theorem dL_law_512 : decode cL_law 512 = .ok (.iconst 4, 1) := by decide +kernel
theorem dL_law_513 : decode cL_law 513 = .ok (.iadd, 1) := by decide +kernel
theorem dL_law_514 : decode cL_law 514 = .ok (.iaload, 1) := by decide +kernel
theorem dL_law_515 : decode cL_law 515 = .ok (.invokevirtual 53, 3) := by decide +kernel
theorem dL_law_518 : decode cL_law 518 = .ok (.if_icmp .eq 1057, 3) := by decide +kernel
theorem dL_law_521 : decode cL_law 521 = .ok (.iconst 0, 1) := by decide +kernel
theorem dL_law_522 : decode cL_law 522 = .ok (.ireturn, 1) := by decide +kernel
theorem dL_law_523 : decode cL_law 523 = .ok (.aload_n 1, 1) := by decide +kernel
theorem dL_law_524 : decode cL_law 524 = .ok (.aload_n 0, 1) := by decide +kernel
theorem dL_law_525 : decode cL_law 525 = .ok (.iload_n 3, 1) := by decide +kernel
theorem dL_law_526 : decode cL_law 526 = .ok (.iconst 1, 1) := by decide +kernel
theorem dL_law_527 : decode cL_law 527 = .ok (.iadd, 1) := by decide +kernel
theorem dL_law_528 : decode cL_law 528 = .ok (.iaload, 1) := by decide +kernel
theorem dL_law_529 : decode cL_law 529 = .ok (.aload_n 0, 1) := by decide +kernel
theorem dL_law_530 : decode cL_law 530 = .ok (.iload_n 3, 1) := by decide +kernel
theorem dL_law_531 : decode cL_law 531 = .ok (.iconst 2, 1) := by decide +kernel
theorem dL_law_532 : decode cL_law 532 = .ok (.iadd, 1) := by decide +kernel
theorem dL_law_533 : decode cL_law 533 = .ok (.iaload, 1) := by decide +kernel
theorem dL_law_534 : decode cL_law 534 = .ok (.aload_n 0, 1) := by decide +kernel
theorem dL_law_535 : decode cL_law 535 = .ok (.iload_n 3, 1) := by decide +kernel
theorem dL_law_536 : decode cL_law 536 = .ok (.iconst 3, 1) := by decide +kernel
theorem dL_law_537 : decode cL_law 537 = .ok (.iadd, 1) := by decide +kernel
theorem dL_law_538 : decode cL_law 538 = .ok (.iaload, 1) := by decide +kernel
theorem dL_law_539 : decode cL_law 539 = .ok (.aload_n 0, 1) := by decide +kernel
theorem dL_law_540 : decode cL_law 540 = .ok (.iload_n 3, 1) := by decide +kernel
theorem dL_law_541 : decode cL_law 541 = .ok (.iconst 4, 1) := by decide +kernel
theorem dL_law_542 : decode cL_law 542 = .ok (.iadd, 1) := by decide +kernel
theorem dL_law_543 : decode cL_law 543 = .ok (.iaload, 1) := by decide +kernel
theorem dL_law_544 : decode cL_law 544 = .ok (.invokevirtual 54, 3) := by decide +kernel
theorem dL_law_547 : decode cL_law 547 = .ok (.aload_n 2, 1) := by decide +kernel
theorem dL_law_548 : decode cL_law 548 = .ok (.aload_n 0, 1) := by decide +kernel
theorem dL_law_549 : decode cL_law 549 = .ok (.iload_n 3, 1) := by decide +kernel
theorem dL_law_550 : decode cL_law 550 = .ok (.iconst 1, 1) := by decide +kernel
theorem dL_law_551 : decode cL_law 551 = .ok (.iadd, 1) := by decide +kernel
theorem dL_law_552 : decode cL_law 552 = .ok (.iaload, 1) := by decide +kernel
theorem dL_law_553 : decode cL_law 553 = .ok (.aload_n 0, 1) := by decide +kernel
theorem dL_law_554 : decode cL_law 554 = .ok (.iload_n 3, 1) := by decide +kernel
theorem dL_law_555 : decode cL_law 555 = .ok (.iconst 2, 1) := by decide +kernel
theorem dL_law_556 : decode cL_law 556 = .ok (.iadd, 1) := by decide +kernel
theorem dL_law_557 : decode cL_law 557 = .ok (.iaload, 1) := by decide +kernel
theorem dL_law_558 : decode cL_law 558 = .ok (.aload_n 0, 1) := by decide +kernel
theorem dL_law_559 : decode cL_law 559 = .ok (.iload_n 3, 1) := by decide +kernel
theorem dL_law_560 : decode cL_law 560 = .ok (.iconst 3, 1) := by decide +kernel
theorem dL_law_561 : decode cL_law 561 = .ok (.iadd, 1) := by decide +kernel
theorem dL_law_562 : decode cL_law 562 = .ok (.iaload, 1) := by decide +kernel
theorem dL_law_563 : decode cL_law 563 = .ok (.aload_n 0, 1) := by decide +kernel
theorem dL_law_564 : decode cL_law 564 = .ok (.iload_n 3, 1) := by decide +kernel
theorem dL_law_565 : decode cL_law 565 = .ok (.iconst 4, 1) := by decide +kernel
theorem dL_law_566 : decode cL_law 566 = .ok (.iadd, 1) := by decide +kernel
theorem dL_law_567 : decode cL_law 567 = .ok (.iaload, 1) := by decide +kernel
theorem dL_law_568 : decode cL_law 568 = .ok (.invokevirtual 57, 3) := by decide +kernel
theorem dL_law_571 : decode cL_law 571 = .ok (.if_icmp .eq 1004, 3) := by decide +kernel
theorem dL_law_574 : decode cL_law 574 = .ok (.iconst 0, 1) := by decide +kernel
theorem dL_law_575 : decode cL_law 575 = .ok (.ireturn, 1) := by decide +kernel
theorem dL_law_576 : decode cL_law 576 = .ok (.aload_n 1, 1) := by decide +kernel
theorem dL_law_577 : decode cL_law 577 = .ok (.aload_n 0, 1) := by decide +kernel
theorem dL_law_578 : decode cL_law 578 = .ok (.iload_n 3, 1) := by decide +kernel
theorem dL_law_579 : decode cL_law 579 = .ok (.iconst 1, 1) := by decide +kernel
theorem dL_law_580 : decode cL_law 580 = .ok (.iadd, 1) := by decide +kernel
theorem dL_law_581 : decode cL_law 581 = .ok (.iaload, 1) := by decide +kernel
theorem dL_law_582 : decode cL_law 582 = .ok (.aload_n 0, 1) := by decide +kernel
theorem dL_law_583 : decode cL_law 583 = .ok (.iload_n 3, 1) := by decide +kernel
theorem dL_law_584 : decode cL_law 584 = .ok (.iconst 2, 1) := by decide +kernel
theorem dL_law_585 : decode cL_law 585 = .ok (.iadd, 1) := by decide +kernel
theorem dL_law_586 : decode cL_law 586 = .ok (.iaload, 1) := by decide +kernel
theorem dL_law_587 : decode cL_law 587 = .ok (.aload_n 0, 1) := by decide +kernel
theorem dL_law_588 : decode cL_law 588 = .ok (.iload_n 3, 1) := by decide +kernel
theorem dL_law_589 : decode cL_law 589 = .ok (.iconst 3, 1) := by decide +kernel
theorem dL_law_590 : decode cL_law 590 = .ok (.iadd, 1) := by decide +kernel
theorem dL_law_591 : decode cL_law 591 = .ok (.iaload, 1) := by decide +kernel
theorem dL_law_592 : decode cL_law 592 = .ok (.invokevirtual 58, 3) := by decide +kernel
theorem dL_law_595 : decode cL_law 595 = .ok (.aload_n 2, 1) := by decide +kernel
theorem dL_law_596 : decode cL_law 596 = .ok (.aload_n 0, 1) := by decide +kernel
theorem dL_law_597 : decode cL_law 597 = .ok (.iload_n 3, 1) := by decide +kernel
theorem dL_law_598 : decode cL_law 598 = .ok (.iconst 1, 1) := by decide +kernel
theorem dL_law_599 : decode cL_law 599 = .ok (.iadd, 1) := by decide +kernel
theorem dL_law_600 : decode cL_law 600 = .ok (.iaload, 1) := by decide +kernel
theorem dL_law_601 : decode cL_law 601 = .ok (.aload_n 0, 1) := by decide +kernel
theorem dL_law_602 : decode cL_law 602 = .ok (.iload_n 3, 1) := by decide +kernel
theorem dL_law_603 : decode cL_law 603 = .ok (.iconst 2, 1) := by decide +kernel
theorem dL_law_604 : decode cL_law 604 = .ok (.iadd, 1) := by decide +kernel
theorem dL_law_605 : decode cL_law 605 = .ok (.iaload, 1) := by decide +kernel
theorem dL_law_606 : decode cL_law 606 = .ok (.aload_n 0, 1) := by decide +kernel
theorem dL_law_607 : decode cL_law 607 = .ok (.iload_n 3, 1) := by decide +kernel
theorem dL_law_608 : decode cL_law 608 = .ok (.iconst 3, 1) := by decide +kernel
theorem dL_law_609 : decode cL_law 609 = .ok (.iadd, 1) := by decide +kernel
theorem dL_law_610 : decode cL_law 610 = .ok (.iaload, 1) := by decide +kernel
theorem dL_law_611 : decode cL_law 611 = .ok (.invokevirtual 61, 3) := by decide +kernel
theorem dL_law_614 : decode cL_law 614 = .ok (.if_icmp .eq 961, 3) := by decide +kernel
theorem dL_law_617 : decode cL_law 617 = .ok (.iconst 0, 1) := by decide +kernel
theorem dL_law_618 : decode cL_law 618 = .ok (.ireturn, 1) := by decide +kernel
theorem dL_law_619 : decode cL_law 619 = .ok (.aload_n 1, 1) := by decide +kernel
theorem dL_law_620 : decode cL_law 620 = .ok (.aload_n 0, 1) := by decide +kernel
theorem dL_law_621 : decode cL_law 621 = .ok (.iload_n 3, 1) := by decide +kernel
theorem dL_law_622 : decode cL_law 622 = .ok (.iconst 1, 1) := by decide +kernel
theorem dL_law_623 : decode cL_law 623 = .ok (.iadd, 1) := by decide +kernel
theorem dL_law_624 : decode cL_law 624 = .ok (.iaload, 1) := by decide +kernel
theorem dL_law_625 : decode cL_law 625 = .ok (.aload_n 0, 1) := by decide +kernel
theorem dL_law_626 : decode cL_law 626 = .ok (.iload_n 3, 1) := by decide +kernel
theorem dL_law_627 : decode cL_law 627 = .ok (.iconst 2, 1) := by decide +kernel
theorem dL_law_628 : decode cL_law 628 = .ok (.iadd, 1) := by decide +kernel
theorem dL_law_629 : decode cL_law 629 = .ok (.iaload, 1) := by decide +kernel
theorem dL_law_630 : decode cL_law 630 = .ok (.aload_n 0, 1) := by decide +kernel
