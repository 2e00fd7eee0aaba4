theorem dX11_worst_59 : decode cX11_worst 59 = .ok (.ireturn, 1) := by decide +kernel
theorem dX11_lost_0 : decode cX11_lost 0 = .ok (.aload_n 0, 1) := by decide +kernel
theorem dX11_lost_1 : decode cX11_lost 1 = .ok (.getfield 10, 3) := by decide +kernel
theorem dX11_lost_4 : decode cX11_lost 4 = .ok (.iload_n 1, 1) := by decide +kernel
theorem dX11_lost_5 : decode cX11_lost 5 = .ok (.invokevirtual 93, 3) := by decide +kernel
theorem dX11_lost_8 : decode cX11_lost 8 = .ok (.astore_n 3, 1) := by decide +kernel
theorem dX11_lost_9 : decode cX11_lost 9 = .ok (.aload_n 3, 1) := by decide +kernel
theorem dX11_lost_10 : decode cX11_lost 10 = .ok (.ifnull 11, 3) := by decide +kernel
theorem dX11_lost_13 : decode cX11_lost 13 = .ok (.aload_n 3, 1) := by decide +kernel
theorem dX11_lost_14 : decode cX11_lost 14 = .ok (.getfield 196, 3) := by decide +kernel
theorem dX11_lost_17 : decode cX11_lost 17 = .ok (.iconst 2, 1) := by decide +kernel
theorem dX11_lost_18 : decode cX11_lost 18 = .ok (.if_icmp .ge 5, 3) := by decide +kernel
theorem dX11_lost_21 : decode cX11_lost 21 = .ok (.iconst (-1), 1) := by decide +kernel
theorem dX11_lost_22 : decode cX11_lost 22 = .ok (.ireturn, 1) := by decide +kernel
theorem dX11_lost_23 : decode cX11_lost 23 = .ok (.aload_n 3, 1) := by decide +kernel
theorem dX11_lost_24 : decode cX11_lost 24 = .ok (.invokevirtual 217, 3) := by decide +kernel
theorem dX11_lost_27 : decode cX11_lost 27 = .ok (.istore 4, 2) := by decide +kernel
theorem dX11_lost_29 : decode cX11_lost 29 = .ok (.iload_n 2, 1) := by decide +kernel
theorem dX11_lost_30 : decode cX11_lost 30 = .ok (.ifCond .eq 12, 3) := by decide +kernel
theorem dX11_lost_33 : decode cX11_lost 33 = .ok (.aload_n 3, 1) := by decide +kernel
theorem dX11_lost_34 : decode cX11_lost 34 = .ok (.iload 4, 2) := by decide +kernel
theorem dX11_lost_36 : decode cX11_lost 36 = .ok (.invokevirtual 157, 3) := by decide +kernel
theorem dX11_lost_39 : decode cX11_lost 39 = .ok (.goto 5, 3) := by decide +kernel
theorem dX11_lost_42 : decode cX11_lost 42 = .ok (.iload 4, 2) := by decide +kernel
theorem dX11_lost_44 : decode cX11_lost 44 = .ok (.ireturn, 1) := by decide +kernel
theorem dX11_force_0 : decode cX11_force 0 = .ok (.aload_n 0, 1) := by decide +kernel
theorem dX11_force_1 : decode cX11_force 1 = .ok (.getfield 10, 3) := by decide +kernel
theorem dX11_force_4 : decode cX11_force 4 = .ok (.iload_n 1, 1) := by decide +kernel
theorem dX11_force_5 : decode cX11_force 5 = .ok (.invokevirtual 93, 3) := by decide +kernel
theorem dX11_force_8 : decode cX11_force 8 = .ok (.astore 4, 2) := by decide +kernel
theorem dX11_force_10 : decode cX11_force 10 = .ok (.aload 4, 2) := by decide +kernel
theorem dX11_force_12 : decode cX11_force 12 = .ok (.ifnull 20, 3) := by decide +kernel
theorem dX11_force_15 : decode cX11_force 15 = .ok (.iload_n 2, 1) := by decide +kernel
theorem dX11_force_16 : decode cX11_force 16 = .ok (.invokestatic 124, 3) := by decide +kernel
theorem dX11_force_19 : decode cX11_force 19 = .ok (.ifCond .eq 13, 3) := by decide +kernel
theorem dX11_force_22 : decode cX11_force 22 = .ok (.iload_n 3, 1) := by decide +kernel
theorem dX11_force_23 : decode cX11_force 23 = .ok (.ifCond .lt 9, 3) := by decide +kernel
theorem dX11_force_26 : decode cX11_force 26 = .ok (.iload_n 3, 1) := by decide +kernel
theorem dX11_force_27 : decode cX11_force 27 = .ok (.bipush 64, 2) := by decide +kernel
theorem dX11_force_29 : decode cX11_force 29 = .ok (.if_icmp .lt 5, 3) := by decide +kernel
theorem dX11_force_32 : decode cX11_force 32 = .ok (.iconst (-1), 1) := by decide +kernel
theorem dX11_force_33 : decode cX11_force 33 = .ok (.ireturn, 1) := by decide +kernel
theorem dX11_force_34 : decode cX11_force 34 = .ok (.aload_n 0, 1) := by decide +kernel
theorem dX11_force_35 : decode cX11_force 35 = .ok (.getfield 37, 3) := by decide +kernel
theorem dX11_force_38 : decode cX11_force 38 = .ok (.aload 4, 2) := by decide +kernel
theorem dX11_force_40 : decode cX11_force 40 = .ok (.iload_n 2, 1) := by decide +kernel
theorem dX11_force_41 : decode cX11_force 41 = .ok (.iload_n 3, 1) := by decide +kernel
theorem dX11_force_42 : decode cX11_force 42 = .ok (.invokevirtual 220, 3) := by decide +kernel
theorem dX11_force_45 : decode cX11_force 45 = .ok (.ireturn, 1) := by decide +kernel
theorem dX11_prompts_0 : decode cX11_prompts 0 = .ok (.aload_n 0, 1) := by decide +kernel
theorem dX11_prompts_1 : decode cX11_prompts 1 = .ok (.getfield 10, 3) := by decide +kernel
theorem dX11_prompts_4 : decode cX11_prompts 4 = .ok (.iload_n 1, 1) := by decide +kernel
theorem dX11_prompts_5 : decode cX11_prompts 5 = .ok (.invokevirtual 93, 3) := by decide +kernel
theorem dX11_prompts_8 : decode cX11_prompts 8 = .ok (.astore 4, 2) := by decide +kernel
theorem dX11_prompts_10 : decode cX11_prompts 10 = .ok (.aload 4, 2) := by decide +kernel
theorem dX11_prompts_12 : decode cX11_prompts 12 = .ok (.ifnull 14, 3) := by decide +kernel
theorem dX11_prompts_15 : decode cX11_prompts 15 = .ok (.iload_n 2, 1) := by decide +kernel
theorem dX11_prompts_16 : decode cX11_prompts 16 = .ok (.iconst 1, 1) := by decide +kernel
theorem dX11_prompts_17 : decode cX11_prompts 17 = .ok (.if_icmp .lt 9, 3) := by decide +kernel
theorem dX11_prompts_20 : decode cX11_prompts 20 = .ok (.iload_n 2, 1) := by decide +kernel
theorem dX11_prompts_21 : decode cX11_prompts 21 = .ok (.bipush 20, 2) := by decide +kernel
theorem dX11_prompts_23 : decode cX11_prompts 23 = .ok (.if_icmp .le 7, 3) := by decide +kernel
theorem dX11_prompts_26 : decode cX11_prompts 26 = .ok (.ldc2_w 144, 3) := by decide +kernel
theorem dX11_prompts_29 : decode cX11_prompts 29 = .ok (.lreturn, 1) := by decide +kernel
theorem dX11_prompts_30 : decode cX11_prompts 30 = .ok (.aload_n 0, 1) := by decide +kernel
theorem dX11_prompts_31 : decode cX11_prompts 31 = .ok (.getfield 44, 3) := by decide +kernel
theorem dX11_prompts_34 : decode cX11_prompts 34 = .ok (.aload 4, 2) := by decide +kernel
theorem dX11_prompts_36 : decode cX11_prompts 36 = .ok (.iload_n 2, 1) := by decide +kernel
theorem dX11_prompts_37 : decode cX11_prompts 37 = .ok (.invokevirtual 223, 3) := by decide +kernel
theorem dX11_prompts_40 : decode cX11_prompts 40 = .ok (.iload_n 3, 1) := by decide +kernel
theorem dX11_prompts_41 : decode cX11_prompts 41 = .ok (.ifCond .eq 13, 3) := by decide +kernel
theorem dX11_prompts_44 : decode cX11_prompts 44 = .ok (.aload_n 0, 1) := by decide +kernel
theorem dX11_prompts_45 : decode cX11_prompts 45 = .ok (.getfield 44, 3) := by decide +kernel
theorem dX11_prompts_48 : decode cX11_prompts 48 = .ok (.getfield 150, 3) := by decide +kernel
theorem dX11_prompts_51 : decode cX11_prompts 51 = .ok (.goto 10, 3) := by decide +kernel
theorem dX11_prompts_54 : decode cX11_prompts 54 = .ok (.aload_n 0, 1) := by decide +kernel
theorem dX11_prompts_55 : decode cX11_prompts 55 = .ok (.getfield 44, 3) := by decide +kernel
theorem dX11_prompts_58 : decode cX11_prompts 58 = .ok (.getfield 154, 3) := by decide +kernel
theorem dX11_prompts_61 : decode cX11_prompts 61 = .ok (.lreturn, 1) := by decide +kernel
theorem dX11_parted_0 : decode cX11_parted 0 = .ok (.aload_n 0, 1) := by decide +kernel
theorem dX11_parted_1 : decode cX11_parted 1 = .ok (.getfield 10, 3) := by decide +kernel
theorem dX11_parted_4 : decode cX11_parted 4 = .ok (.iload_n 1, 1) := by decide +kernel
theorem dX11_parted_5 : decode cX11_parted 5 = .ok (.invokevirtual 93, 3) := by decide +kernel
theorem dX11_parted_8 : decode cX11_parted 8 = .ok (.astore_n 3, 1) := by decide +kernel
theorem dX11_parted_9 : decode cX11_parted 9 = .ok (.aload_n 0, 1) := by decide +kernel
theorem dX11_parted_10 : decode cX11_parted 10 = .ok (.getfield 10, 3) := by decide +kernel
theorem dX11_parted_13 : decode cX11_parted 13 = .ok (.iload_n 2, 1) := by decide +kernel
theorem dX11_parted_14 : decode cX11_parted 14 = .ok (.invokevirtual 93, 3) := by decide +kernel
theorem dX11_parted_17 : decode cX11_parted 17 = .ok (.astore 4, 2) := by decide +kernel
theorem dX11_parted_19 : decode cX11_parted 19 = .ok (.aload_n 3, 1) := by decide +kernel
theorem dX11_parted_20 : decode cX11_parted 20 = .ok (.ifnull 8, 3) := by decide +kernel
theorem dX11_parted_23 : decode cX11_parted 23 = .ok (.aload 4, 2) := by decide +kernel
theorem dX11_parted_25 : decode cX11_parted 25 = .ok (.ifnonnull 7, 3) := by decide +kernel
theorem dX11_parted_28 : decode cX11_parted 28 = .ok (.iconst (-1), 1) := by decide +kernel
theorem dX11_parted_29 : decode cX11_parted 29 = .ok (.goto 13, 3) := by decide +kernel
theorem dX11_parted_32 : decode cX11_parted 32 = .ok (.aload_n 0, 1) := by decide +kernel
theorem dX11_parted_33 : decode cX11_parted 33 = .ok (.getfield 51, 3) := by decide +kernel
theorem dX11_parted_36 : decode cX11_parted 36 = .ok (.aload_n 3, 1) := by decide +kernel
theorem dX11_parted_37 : decode cX11_parted 37 = .ok (.aload 4, 2) := by decide +kernel
theorem dX11_parted_39 : decode cX11_parted 39 = .ok (.invokevirtual 227, 3) := by decide +kernel
theorem dX11_parted_42 : decode cX11_parted 42 = .ok (.ireturn, 1) := by decide +kernel
theorem dX11_after_0 : decode cX11_after 0 = .ok (.aload_n 0, 1) := by decide +kernel
theorem dX11_after_1 : decode cX11_after 1 = .ok (.getfield 10, 3) := by decide +kernel
theorem dX11_after_4 : decode cX11_after 4 = .ok (.iload_n 1, 1) := by decide +kernel
theorem dX11_after_5 : decode cX11_after 5 = .ok (.invokevirtual 93, 3) := by decide +kernel
theorem dX11_after_8 : decode cX11_after 8 = .ok (.astore 4, 2) := by decide +kernel
theorem dX11_after_10 : decode cX11_after 10 = .ok (.aload_n 0, 1) := by decide +kernel
theorem dX11_after_11 : decode cX11_after 11 = .ok (.getfield 10, 3) := by decide +kernel
theorem dX11_after_14 : decode cX11_after 14 = .ok (.iload_n 2, 1) := by decide +kernel
theorem dX11_after_15 : decode cX11_after 15 = .ok (.invokevirtual 106, 3) := by decide +kernel
theorem dX11_after_18 : decode cX11_after 18 = .ok (.astore 5, 2) := by decide +kernel
theorem dX11_after_20 : decode cX11_after 20 = .ok (.aload 4, 2) := by decide +kernel
theorem dX11_after_22 : decode cX11_after 22 = .ok (.ifnull 8, 3) := by decide +kernel
theorem dX11_after_25 : decode cX11_after 25 = .ok (.aload 5, 2) := by decide +kernel
theorem dX11_after_27 : decode cX11_after 27 = .ok (.ifnonnull 6, 3) := by decide +kernel
theorem dX11_after_30 : decode cX11_after 30 = .ok (.bipush (-2), 2) := by decide +kernel
theorem dX11_after_32 : decode cX11_after 32 = .ok (.ireturn, 1) := by decide +kernel
theorem dX11_after_33 : decode cX11_after 33 = .ok (.iload_n 3, 1) := by decide +kernel
theorem dX11_after_34 : decode cX11_after 34 = .ok (.tableswitch 62 0 2 #[26, 38, 50], 26) := by decide +kernel
theorem dX11_after_60 : decode cX11_after 60 = .ok (.aload_n 0, 1) := by decide +kernel
theorem dX11_after_61 : decode cX11_after 61 = .ok (.getfield 30, 3) := by decide +kernel
theorem dX11_after_64 : decode cX11_after 64 = .ok (.aload 4, 2) := by decide +kernel
theorem dX11_after_66 : decode cX11_after 66 = .ok (.aload 5, 2) := by decide +kernel
theorem dX11_after_68 : decode cX11_after 68 = .ok (.invokevirtual 231, 3) := by decide +kernel
theorem dX11_after_71 : decode cX11_after 71 = .ok (.ireturn, 1) := by decide +kernel
theorem dX11_after_72 : decode cX11_after 72 = .ok (.aload_n 0, 1) := by decide +kernel
theorem dX11_after_73 : decode cX11_after 73 = .ok (.getfield 30, 3) := by decide +kernel
theorem dX11_after_76 : decode cX11_after 76 = .ok (.aload 4, 2) := by decide +kernel
theorem dX11_after_78 : decode cX11_after 78 = .ok (.aload 5, 2) := by decide +kernel
theorem dX11_after_80 : decode cX11_after 80 = .ok (.invokevirtual 235, 3) := by decide +kernel
theorem dX11_after_83 : decode cX11_after 83 = .ok (.ireturn, 1) := by decide +kernel
theorem dX11_after_84 : decode cX11_after 84 = .ok (.aload_n 0, 1) := by decide +kernel
theorem dX11_after_85 : decode cX11_after 85 = .ok (.getfield 30, 3) := by decide +kernel
theorem dX11_after_88 : decode cX11_after 88 = .ok (.aload 4, 2) := by decide +kernel
theorem dX11_after_90 : decode cX11_after 90 = .ok (.aload 5, 2) := by decide +kernel
theorem dX11_after_92 : decode cX11_after 92 = .ok (.invokevirtual 238, 3) := by decide +kernel
theorem dX11_after_95 : decode cX11_after 95 = .ok (.ireturn, 1) := by decide +kernel
theorem dX11_after_96 : decode cX11_after 96 = .ok (.bipush (-2), 2) := by decide +kernel
theorem dX11_after_98 : decode cX11_after 98 = .ok (.ireturn, 1) := by decide +kernel
theorem dX11_count_0 : decode cX11_count 0 = .ok (.aload_n 0, 1) := by decide +kernel
theorem dX11_count_1 : decode cX11_count 1 = .ok (.getfield 10, 3) := by decide +kernel
theorem dX11_count_4 : decode cX11_count 4 = .ok (.iload_n 1, 1) := by decide +kernel
theorem dX11_count_5 : decode cX11_count 5 = .ok (.invokevirtual 70, 3) := by decide +kernel
theorem dX11_count_8 : decode cX11_count 8 = .ok (.ireturn, 1) := by decide +kernel
theorem dX11_image_0 : decode cX11_image 0 = .ok (.iload_n 1, 1) := by decide +kernel
theorem dX11_image_1 : decode cX11_image 1 = .ok (.ifCond .lt 8, 3) := by decide +kernel
theorem dX11_image_4 : decode cX11_image 4 = .ok (.iload_n 1, 1) := by decide +kernel
theorem dX11_image_5 : decode cX11_image 5 = .ok (.iconst 3, 1) := by decide +kernel
theorem dX11_image_6 : decode cX11_image 6 = .ok (.if_icmp .lt 5, 3) := by decide +kernel
theorem dX11_image_9 : decode cX11_image 9 = .ok (.iconst 0, 1) := by decide +kernel
theorem dX11_image_10 : decode cX11_image 10 = .ok (.ireturn, 1) := by decide +kernel
theorem dX11_image_11 : decode cX11_image 11 = .ok (.aload_n 0, 1) := by decide +kernel
theorem dX11_image_12 : decode cX11_image 12 = .ok (.getfield 16, 3) := by decide +kernel
theorem dX11_image_15 : decode cX11_image 15 = .ok (.iload_n 1, 1) := by decide +kernel
theorem dX11_image_16 : decode cX11_image 16 = .ok (.aaload, 1) := by decide +kernel
theorem dX11_image_17 : decode cX11_image 17 = .ok (.astore_n 2, 1) := by decide +kernel
theorem dX11_image_18 : decode cX11_image 18 = .ok (.aload_n 2, 1) := by decide +kernel
theorem dX11_image_19 : decode cX11_image 19 = .ok (.ifnonnull 18, 3) := by decide +kernel
theorem dX11_image_22 : decode cX11_image 22 = .ok (.new 7, 3) := by decide +kernel
theorem dX11_image_25 : decode cX11_image 25 = .ok (.dup, 1) := by decide +kernel
theorem dX11_image_26 : decode cX11_image 26 = .ok (.invokespecial 9, 3) := by decide +kernel
theorem dX11_image_29 : decode cX11_image 29 = .ok (.astore_n 2, 1) := by decide +kernel
theorem dX11_image_30 : decode cX11_image 30 = .ok (.aload_n 0, 1) := by decide +kernel
theorem dX11_image_31 : decode cX11_image 31 = .ok (.getfield 16, 3) := by decide +kernel
theorem dX11_image_34 : decode cX11_image 34 = .ok (.iload_n 1, 1) := by decide +kernel
theorem dX11_image_35 : decode cX11_image 35 = .ok (.aload_n 2, 1) := by decide +kernel
theorem dX11_image_36 : decode cX11_image 36 = .ok (.aastore, 1) := by decide +kernel
theorem dX11_image_37 : decode cX11_image 37 = .ok (.aload_n 2, 1) := by decide +kernel
theorem dX11_image_38 : decode cX11_image 38 = .ok (.aload_n 0, 1) := by decide +kernel
theorem dX11_image_39 : decode cX11_image 39 = .ok (.getfield 10, 3) := by decide +kernel
theorem dX11_image_42 : decode cX11_image 42 = .ok (.invokevirtual 241, 3) := by decide +kernel
theorem dX11_image_45 : decode cX11_image 45 = .ok (.iconst 1, 1) := by decide +kernel
theorem dX11_image_46 : decode cX11_image 46 = .ok (.ireturn, 1) := by decide +kernel
theorem dX11_again_0 : decode cX11_again 0 = .ok (.iload_n 1, 1) := by decide +kernel
theorem dX11_again_1 : decode cX11_again 1 = .ok (.ifCond .lt 8, 3) := by decide +kernel
theorem dX11_again_4 : decode cX11_again 4 = .ok (.iload_n 1, 1) := by decide +kernel
theorem dX11_again_5 : decode cX11_again 5 = .ok (.iconst 3, 1) := by decide +kernel
theorem dX11_again_6 : decode cX11_again 6 = .ok (.if_icmp .lt 5, 3) := by decide +kernel
theorem dX11_again_9 : decode cX11_again 9 = .ok (.iconst 0, 1) := by decide +kernel
theorem dX11_again_10 : decode cX11_again 10 = .ok (.ireturn, 1) := by decide +kernel
theorem dX11_again_11 : decode cX11_again 11 = .ok (.aload_n 0, 1) := by decide +kernel
theorem dX11_again_12 : decode cX11_again 12 = .ok (.getfield 16, 3) := by decide +kernel
theorem dX11_again_15 : decode cX11_again 15 = .ok (.iload_n 1, 1) := by decide +kernel
theorem dX11_again_16 : decode cX11_again 16 = .ok (.aaload, 1) := by decide +kernel
theorem dX11_again_17 : decode cX11_again 17 = .ok (.astore_n 2, 1) := by decide +kernel
theorem dX11_again_18 : decode cX11_again 18 = .ok (.aload_n 2, 1) := by decide +kernel
theorem dX11_again_19 : decode cX11_again 19 = .ok (.ifnonnull 5, 3) := by decide +kernel
theorem dX11_again_22 : decode cX11_again 22 = .ok (.iconst 0, 1) := by decide +kernel
theorem dX11_again_23 : decode cX11_again 23 = .ok (.ireturn, 1) := by decide +kernel
theorem dX11_again_24 : decode cX11_again 24 = .ok (.aload_n 0, 1) := by decide +kernel
theorem dX11_again_25 : decode cX11_again 25 = .ok (.getfield 10, 3) := by decide +kernel
theorem dX11_again_28 : decode cX11_again 28 = .ok (.aload_n 2, 1) := by decide +kernel
theorem dX11_again_29 : decode cX11_again 29 = .ok (.invokevirtual 241, 3) := by decide +kernel
theorem dX11_again_32 : decode cX11_again 32 = .ok (.iconst 1, 1) := by decide +kernel
theorem dX11_again_33 : decode cX11_again 33 = .ok (.ireturn, 1) := by decide +kernel
theorem dX11_isScene_0 : decode cX11_isScene 0 = .ok (.iload_n 0, 1) := by decide +kernel
theorem dX11_isScene_1 : decode cX11_isScene 1 = .ok (.ifCond .lt 13, 3) := by decide +kernel
theorem dX11_isScene_4 : decode cX11_isScene 4 = .ok (.iload_n 0, 1) := by decide +kernel
theorem dX11_isScene_5 : decode cX11_isScene 5 = .ok (.bipush 10, 2) := by decide +kernel
theorem dX11_isScene_7 : decode cX11_isScene 7 = .ok (.if_icmp .ge 7, 3) := by decide +kernel
theorem dX11_isScene_10 : decode cX11_isScene 10 = .ok (.iconst 1, 1) := by decide +kernel
theorem dX11_isScene_11 : decode cX11_isScene 11 = .ok (.goto 4, 3) := by decide +kernel
theorem dX11_isScene_14 : decode cX11_isScene 14 = .ok (.iconst 0, 1) := by decide +kernel
theorem dX11_isScene_15 : decode cX11_isScene 15 = .ok (.ireturn, 1) := by decide +kernel
theorem dX11_isPerson_0 : decode cX11_isPerson 0 = .ok (.iload_n 0, 1) := by decide +kernel
theorem dX11_isPerson_1 : decode cX11_isPerson 1 = .ok (.ifCond .lt 13, 3) := by decide +kernel
theorem dX11_isPerson_4 : decode cX11_isPerson 4 = .ok (.iload_n 0, 1) := by decide +kernel
theorem dX11_isPerson_5 : decode cX11_isPerson 5 = .ok (.bipush 6, 2) := by decide +kernel
theorem dX11_isPerson_7 : decode cX11_isPerson 7 = .ok (.if_icmp .ge 7, 3) := by decide +kernel
theorem dX11_isPerson_10 : decode cX11_isPerson 10 = .ok (.iconst 1, 1) := by decide +kernel
theorem dX11_isPerson_11 : decode cX11_isPerson 11 = .ok (.goto 4, 3) := by decide +kernel
theorem dX11_isPerson_14 : decode cX11_isPerson 14 = .ok (.iconst 0, 1) := by decide +kernel
theorem dX11_isPerson_15 : decode cX11_isPerson 15 = .ok (.ireturn, 1) := by decide +kernel
theorem dX12_init_0 : decode cX12_init 0 = .ok (.aload_n 0, 1) := by decide +kernel
theorem dX12_init_1 : decode cX12_init 1 = .ok (.invokespecial 1, 3) := by decide +kernel
theorem dX12_init_4 : decode cX12_init 4 = .ok (.aload_n 0, 1) := by decide +kernel
theorem dX12_init_5 : decode cX12_init 5 = .ok (.sipush 2400, 3) := by decide +kernel
theorem dX12_init_8 : decode cX12_init 8 = .ok (.newarray .byte, 2) := by decide +kernel
theorem dX12_init_10 : decode cX12_init 10 = .ok (.putfield 7, 3) := by decide +kernel
theorem dX12_init_13 : decode cX12_init 13 = .ok (.aload_n 0, 1) := by decide +kernel
theorem dX12_init_14 : decode cX12_init 14 = .ok (.iconst 4, 1) := by decide +kernel
theorem dX12_init_15 : decode cX12_init 15 = .ok (.newarray .int, 2) := by decide +kernel
theorem dX12_init_17 : decode cX12_init 17 = .ok (.putfield 13, 3) := by decide +kernel
theorem dX12_init_20 : decode cX12_init 20 = .ok (.aload_n 0, 1) := by decide +kernel
theorem dX12_init_21 : decode cX12_init 21 = .ok (.iconst 4, 1) := by decide +kernel
theorem dX12_init_22 : decode cX12_init 22 = .ok (.newarray .int, 2) := by decide +kernel
theorem dX12_init_24 : decode cX12_init 24 = .ok (.putfield 17, 3) := by decide +kernel
theorem dX12_init_27 : decode cX12_init 27 = .ok (.aload_n 0, 1) := by decide +kernel
theorem dX12_init_28 : decode cX12_init 28 = .ok (.iconst 4, 1) := by decide +kernel
theorem dX12_init_29 : decode cX12_init 29 = .ok (.newarray .int, 2) := by decide +kernel
theorem dX12_init_31 : decode cX12_init 31 = .ok (.putfield 20, 3) := by decide +kernel
theorem dX12_init_34 : decode cX12_init 34 = .ok (.aload_n 0, 1) := by decide +kernel
theorem dX12_init_35 : decode cX12_init 35 = .ok (.bipush 16, 2) := by decide +kernel
theorem dX12_init_37 : decode cX12_init 37 = .ok (.newarray .int, 2) := by decide +kernel
theorem dX12_init_39 : decode cX12_init 39 = .ok (.putfield 23, 3) := by decide +kernel
theorem dX12_init_42 : decode cX12_init 42 = .ok (.aload_n 0, 1) := by decide +kernel
theorem dX12_init_43 : decode cX12_init 43 = .ok (.sipush 896, 3) := by decide +kernel
theorem dX12_init_46 : decode cX12_init 46 = .ok (.newarray .int, 2) := by decide +kernel
theorem dX12_init_48 : decode cX12_init 48 = .ok (.putfield 26, 3) := by decide +kernel
theorem dX12_init_51 : decode cX12_init 51 = .ok (.aload_n 0, 1) := by decide +kernel
theorem dX12_init_52 : decode cX12_init 52 = .ok (.sipush 648, 3) := by decide +kernel
theorem dX12_init_55 : decode cX12_init 55 = .ok (.newarray .int, 2) := by decide +kernel
theorem dX12_init_57 : decode cX12_init 57 = .ok (.putfield 29, 3) := by decide +kernel
theorem dX12_init_60 : decode cX12_init 60 = .ok (.aload_n 0, 1) := by decide +kernel
theorem dX12_init_61 : decode cX12_init 61 = .ok (.bipush 104, 2) := by decide +kernel
theorem dX12_init_63 : decode cX12_init 63 = .ok (.newarray .int, 2) := by decide +kernel
theorem dX12_init_65 : decode cX12_init 65 = .ok (.putfield 32, 3) := by decide +kernel
theorem dX12_init_68 : decode cX12_init 68 = .ok (.aload_n 0, 1) := by decide +kernel
theorem dX12_init_69 : decode cX12_init 69 = .ok (.sipush 216, 3) := by decide +kernel
theorem dX12_init_72 : decode cX12_init 72 = .ok (.newarray .int, 2) := by decide +kernel
theorem dX12_init_74 : decode cX12_init 74 = .ok (.putfield 35, 3) := by decide +kernel
theorem dX12_init_77 : decode cX12_init 77 = .ok (.aload_n 0, 1) := by decide +kernel
theorem dX12_init_78 : decode cX12_init 78 = .ok (.bipush 112, 2) := by decide +kernel
theorem dX12_init_80 : decode cX12_init 80 = .ok (.newarray .int, 2) := by decide +kernel
theorem dX12_init_82 : decode cX12_init 82 = .ok (.putfield 38, 3) := by decide +kernel
theorem dX12_init_85 : decode cX12_init 85 = .ok (.aload_n 0, 1) := by decide +kernel
theorem dX12_init_86 : decode cX12_init 86 = .ok (.iconst 4, 1) := by decide +kernel
theorem dX12_init_87 : decode cX12_init 87 = .ok (.newarray .int, 2) := by decide +kernel
theorem dX12_init_89 : decode cX12_init 89 = .ok (.putfield 41, 3) := by decide +kernel
theorem dX12_init_92 : decode cX12_init 92 = .ok (.aload_n 0, 1) := by decide +kernel
theorem dX12_init_93 : decode cX12_init 93 = .ok (.sipush 400, 3) := by decide +kernel
theorem dX12_init_96 : decode cX12_init 96 = .ok (.newarray .int, 2) := by decide +kernel
theorem dX12_init_98 : decode cX12_init 98 = .ok (.putfield 44, 3) := by decide +kernel
theorem dX12_init_101 : decode cX12_init 101 = .ok (.aload_n 0, 1) := by decide +kernel
theorem dX12_init_102 : decode cX12_init 102 = .ok (.bipush 20, 2) := by decide +kernel
theorem dX12_init_104 : decode cX12_init 104 = .ok (.newarray .int, 2) := by decide +kernel
theorem dX12_init_106 : decode cX12_init 106 = .ok (.putfield 47, 3) := by decide +kernel
theorem dX12_init_109 : decode cX12_init 109 = .ok (.aload_n 0, 1) := by decide +kernel
theorem dX12_init_110 : decode cX12_init 110 = .ok (.bipush 30, 2) := by decide +kernel
theorem dX12_init_112 : decode cX12_init 112 = .ok (.newarray .int, 2) := by decide +kernel
theorem dX12_init_114 : decode cX12_init 114 = .ok (.putfield 50, 3) := by decide +kernel
theorem dX12_init_117 : decode cX12_init 117 = .ok (.aload_n 0, 1) := by decide +kernel
theorem dX12_init_118 : decode cX12_init 118 = .ok (.sipush 420, 3) := by decide +kernel
theorem dX12_init_121 : decode cX12_init 121 = .ok (.newarray .int, 2) := by decide +kernel
theorem dX12_init_123 : decode cX12_init 123 = .ok (.putfield 53, 3) := by decide +kernel
theorem dX12_init_126 : decode cX12_init 126 = .ok (.aload_n 0, 1) := by decide +kernel
theorem dX12_init_127 : decode cX12_init 127 = .ok (.sipush 200, 3) := by decide +kernel
theorem dX12_init_130 : decode cX12_init 130 = .ok (.newarray .int, 2) := by decide +kernel
theorem dX12_init_132 : decode cX12_init 132 = .ok (.putfield 56, 3) := by decide +kernel
theorem dX12_init_135 : decode cX12_init 135 = .ok (.aload_n 0, 1) := by decide +kernel
theorem dX12_init_136 : decode cX12_init 136 = .ok (.bipush 20, 2) := by decide +kernel
theorem dX12_init_138 : decode cX12_init 138 = .ok (.newarray .long, 2) := by decide +kernel
theorem dX12_init_140 : decode cX12_init 140 = .ok (.putfield 59, 3) := by decide +kernel
theorem dX12_init_143 : decode cX12_init 143 = .ok (.aload_n 0, 1) := by decide +kernel
theorem dX12_init_144 : decode cX12_init 144 = .ok (.bipush 20, 2) := by decide +kernel
theorem dX12_init_146 : decode cX12_init 146 = .ok (.newarray .long, 2) := by decide +kernel
theorem dX12_init_148 : decode cX12_init 148 = .ok (.putfield 63, 3) := by decide +kernel
theorem dX12_init_151 : decode cX12_init 151 = .ok (.aload_n 0, 1) := by decide +kernel
theorem dX12_init_152 : decode cX12_init 152 = .ok (.bipush 20, 2) := by decide +kernel
theorem dX12_init_154 : decode cX12_init 154 = .ok (.newarray .int, 2) := by decide +kernel
theorem dX12_init_156 : decode cX12_init 156 = .ok (.putfield 66, 3) := by decide +kernel
theorem dX12_init_159 : decode cX12_init 159 = .ok (.aload_n 0, 1) := by decide +kernel
theorem dX12_init_160 : decode cX12_init 160 = .ok (.bipush 20, 2) := by decide +kernel
theorem dX12_init_162 : decode cX12_init 162 = .ok (.newarray .int, 2) := by decide +kernel
theorem dX12_init_164 : decode cX12_init 164 = .ok (.putfield 69, 3) := by decide +kernel
theorem dX12_init_167 : decode cX12_init 167 = .ok (.aload_n 0, 1) := by decide +kernel
theorem dX12_init_168 : decode cX12_init 168 = .ok (.sipush 169, 3) := by decide +kernel
theorem dX12_init_171 : decode cX12_init 171 = .ok (.newarray .int, 2) := by decide +kernel
theorem dX12_init_173 : decode cX12_init 173 = .ok (.putfield 72, 3) := by decide +kernel
theorem dX12_init_176 : decode cX12_init 176 = .ok (.aload_n 0, 1) := by decide +kernel
theorem dX12_init_177 : decode cX12_init 177 = .ok (.sipush 240, 3) := by decide +kernel
theorem dX12_init_180 : decode cX12_init 180 = .ok (.newarray .long, 2) := by decide +kernel
theorem dX12_init_182 : decode cX12_init 182 = .ok (.putfield 75, 3) := by decide +kernel
theorem dX12_init_185 : decode cX12_init 185 = .ok (.aload_n 0, 1) := by decide +kernel
theorem dX12_init_186 : decode cX12_init 186 = .ok (.sipush 240, 3) := by decide +kernel
theorem dX12_init_189 : decode cX12_init 189 = .ok (.newarray .long, 2) := by decide +kernel
theorem dX12_init_191 : decode cX12_init 191 = .ok (.putfield 78, 3) := by decide +kernel
theorem dX12_init_194 : decode cX12_init 194 = .ok (.aload_n 0, 1) := by decide +kernel
theorem dX12_init_195 : decode cX12_init 195 = .ok (.sipush 240, 3) := by decide +kernel
theorem dX12_init_198 : decode cX12_init 198 = .ok (.newarray .int, 2) := by decide +kernel
theorem dX12_init_200 : decode cX12_init 200 = .ok (.putfield 81, 3) := by decide +kernel
theorem dX12_init_203 : decode cX12_init 203 = .ok (.aload_n 0, 1) := by decide +kernel
theorem dX12_init_204 : decode cX12_init 204 = .ok (.sipush 4000, 3) := by decide +kernel
theorem dX12_init_207 : decode cX12_init 207 = .ok (.newarray .int, 2) := by decide +kernel
theorem dX12_init_209 : decode cX12_init 209 = .ok (.putfield 84, 3) := by decide +kernel
theorem dX12_init_212 : decode cX12_init 212 = .ok (.aload_n 0, 1) := by decide +kernel
theorem dX12_init_213 : decode cX12_init 213 = .ok (.iconst 3, 1) := by decide +kernel
theorem dX12_init_214 : decode cX12_init 214 = .ok (.newarray .boolean, 2) := by decide +kernel
theorem dX12_init_216 : decode cX12_init 216 = .ok (.putfield 87, 3) := by decide +kernel
theorem dX12_init_219 : decode cX12_init 219 = .ok (.aload_n 0, 1) := by decide +kernel
theorem dX12_init_220 : decode cX12_init 220 = .ok (.getfield 20, 3) := by decide +kernel
theorem dX12_init_223 : decode cX12_init 223 = .ok (.iconst 0, 1) := by decide +kernel
theorem dX12_init_224 : decode cX12_init 224 = .ok (.iconst (-1), 1) := by decide +kernel
theorem dX12_init_225 : decode cX12_init 225 = .ok (.iastore, 1) := by decide +kernel
theorem dX12_init_226 : decode cX12_init 226 = .ok (.return_, 1) := by decide +kernel
theorem dX12_in_0 : decode cX12_in 0 = .ok (.iload_n 0, 1) := by decide +kernel
theorem dX12_in_1 : decode cX12_in 1 = .ok (.iload_n 1, 1) := by decide +kernel
theorem dX12_in_2 : decode cX12_in 2 = .ok (.if_icmp .lt 12, 3) := by decide +kernel
theorem dX12_in_5 : decode cX12_in 5 = .ok (.iload_n 0, 1) := by decide +kernel
theorem dX12_in_6 : decode cX12_in 6 = .ok (.iload_n 2, 1) := by decide +kernel
theorem dX12_in_7 : decode cX12_in 7 = .ok (.if_icmp .gt 7, 3) := by decide +kernel
theorem dX12_in_10 : decode cX12_in 10 = .ok (.iconst 1, 1) := by decide +kernel
theorem dX12_in_11 : decode cX12_in 11 = .ok (.goto 4, 3) := by decide +kernel
theorem dX12_in_14 : decode cX12_in 14 = .ok (.iconst 0, 1) := by decide +kernel
theorem dX12_in_15 : decode cX12_in 15 = .ok (.ireturn, 1) := by decide +kernel
theorem dX12_has_0 : decode cX12_has 0 = .ok (.iload_n 0, 1) := by decide +kernel
theorem dX12_has_1 : decode cX12_has 1 = .ok (.iload_n 1, 1) := by decide +kernel
theorem dX12_has_2 : decode cX12_has 2 = .ok (.ishr, 1) := by decide +kernel
theorem dX12_has_3 : decode cX12_has 3 = .ok (.iconst 1, 1) := by decide +kernel
theorem dX12_has_4 : decode cX12_has 4 = .ok (.iand, 1) := by decide +kernel
theorem dX12_has_5 : decode cX12_has 5 = .ok (.iconst 1, 1) := by decide +kernel
theorem dX12_has_6 : decode cX12_has 6 = .ok (.if_icmp .ne 7, 3) := by decide +kernel
theorem dX12_has_9 : decode cX12_has 9 = .ok (.iconst 1, 1) := by decide +kernel
theorem dX12_has_10 : decode cX12_has 10 = .ok (.goto 4, 3) := by decide +kernel
theorem dX12_has_13 : decode cX12_has 13 = .ok (.iconst 0, 1) := by decide +kernel
theorem dX12_has_14 : decode cX12_has 14 = .ok (.ireturn, 1) := by decide +kernel
theorem dX12_greater_0 : decode cX12_greater 0 = .ok (.iload_n 0, 1) := by decide +kernel
theorem dX12_greater_1 : decode cX12_greater 1 = .ok (.iload_n 1, 1) := by decide +kernel
theorem dX12_greater_2 : decode cX12_greater 2 = .ok (.if_icmp .le 7, 3) := by decide +kernel
theorem dX12_greater_5 : decode cX12_greater 5 = .ok (.iload_n 0, 1) := by decide +kernel
theorem dX12_greater_6 : decode cX12_greater 6 = .ok (.goto 4, 3) := by decide +kernel
theorem dX12_greater_9 : decode cX12_greater 9 = .ok (.iload_n 1, 1) := by decide +kernel
theorem dX12_greater_10 : decode cX12_greater 10 = .ok (.ireturn, 1) := by decide +kernel
theorem dX12_lesser_0 : decode cX12_lesser 0 = .ok (.iload_n 0, 1) := by decide +kernel
theorem dX12_lesser_1 : decode cX12_lesser 1 = .ok (.iload_n 1, 1) := by decide +kernel
theorem dX12_lesser_2 : decode cX12_lesser 2 = .ok (.if_icmp .ge 7, 3) := by decide +kernel
theorem dX12_lesser_5 : decode cX12_lesser 5 = .ok (.iload_n 0, 1) := by decide +kernel
theorem dX12_lesser_6 : decode cX12_lesser 6 = .ok (.goto 4, 3) := by decide +kernel
theorem dX12_lesser_9 : decode cX12_lesser 9 = .ok (.iload_n 1, 1) := by decide +kernel
theorem dX12_lesser_10 : decode cX12_lesser 10 = .ok (.ireturn, 1) := by decide +kernel
theorem dX12_ones_0 : decode cX12_ones 0 = .ok (.iconst 0, 1) := by decide +kernel
theorem dX12_ones_1 : decode cX12_ones 1 = .ok (.istore_n 1, 1) := by decide +kernel
theorem dX12_ones_2 : decode cX12_ones 2 = .ok (.iconst 0, 1) := by decide +kernel
theorem dX12_ones_3 : decode cX12_ones 3 = .ok (.istore_n 2, 1) := by decide +kernel
theorem dX12_ones_4 : decode cX12_ones 4 = .ok (.iload_n 2, 1) := by decide +kernel
theorem dX12_ones_5 : decode cX12_ones 5 = .ok (.bipush 9, 2) := by decide +kernel
theorem dX12_ones_7 : decode cX12_ones 7 = .ok (.if_icmp .ge 25, 3) := by decide +kernel
theorem dX12_ones_10 : decode cX12_ones 10 = .ok (.iload_n 1, 1) := by decide +kernel
theorem dX12_ones_11 : decode cX12_ones 11 = .ok (.iload_n 0, 1) := by decide +kernel
theorem dX12_ones_12 : decode cX12_ones 12 = .ok (.iload_n 2, 1) := by decide +kernel
theorem dX12_ones_13 : decode cX12_ones 13 = .ok (.invokestatic 95, 3) := by decide +kernel
theorem dX12_ones_16 : decode cX12_ones 16 = .ok (.ifCond .eq 7, 3) := by decide +kernel
theorem dX12_ones_19 : decode cX12_ones 19 = .ok (.iconst 1, 1) := by decide +kernel
theorem dX12_ones_20 : decode cX12_ones 20 = .ok (.goto 4, 3) := by decide +kernel
theorem dX12_ones_23 : decode cX12_ones 23 = .ok (.iconst 0, 1) := by decide +kernel
theorem dX12_ones_24 : decode cX12_ones 24 = .ok (.iadd, 1) := by decide +kernel
theorem dX12_ones_25 : decode cX12_ones 25 = .ok (.istore_n 1, 1) := by decide +kernel
theorem dX12_ones_26 : decode cX12_ones 26 = .ok (.iinc 2 1, 3) := by decide +kernel
theorem dX12_ones_29 : decode cX12_ones 29 = .ok (.goto (-25), 3) := by decide +kernel
theorem dX12_ones_32 : decode cX12_ones 32 = .ok (.iload_n 1, 1) := by decide +kernel
theorem dX12_ones_33 : decode cX12_ones 33 = .ok (.ireturn, 1) := by decide +kernel
theorem dX12_common_0 : decode cX12_common 0 = .ok (.lload_n 0, 1) := by decide +kernel
theorem dX12_common_1 : decode cX12_common 1 = .ok (.lstore 4, 2) := by decide +kernel
theorem dX12_common_3 : decode cX12_common 3 = .ok (.lload_n 2, 1) := by decide +kernel
theorem dX12_common_4 : decode cX12_common 4 = .ok (.lstore 6, 2) := by decide +kernel
theorem dX12_common_6 : decode cX12_common 6 = .ok (.lload 6, 2) := by decide +kernel
theorem dX12_common_8 : decode cX12_common 8 = .ok (.lconst 0, 1) := by decide +kernel
theorem dX12_common_9 : decode cX12_common 9 = .ok (.lcmp, 1) := by decide +kernel
theorem dX12_common_10 : decode cX12_common 10 = .ok (.ifCond .eq 21, 3) := by decide +kernel
theorem dX12_common_13 : decode cX12_common 13 = .ok (.lload 4, 2) := by decide +kernel
theorem dX12_common_15 : decode cX12_common 15 = .ok (.lload 6, 2) := by decide +kernel
theorem dX12_common_17 : decode cX12_common 17 = .ok (.lrem, 1) := by decide +kernel
theorem dX12_common_18 : decode cX12_common 18 = .ok (.lstore 8, 2) := by decide +kernel
theorem dX12_common_20 : decode cX12_common 20 = .ok (.lload 6, 2) := by decide +kernel
theorem dX12_common_22 : decode cX12_common 22 = .ok (.lstore 4, 2) := by decide +kernel
theorem dX12_common_24 : decode cX12_common 24 = .ok (.lload 8, 2) := by decide +kernel
theorem dX12_common_26 : decode cX12_common 26 = .ok (.lstore 6, 2) := by decide +kernel
theorem dX12_common_28 : decode cX12_common 28 = .ok (.goto (-22), 3) := by decide +kernel
theorem dX12_common_31 : decode cX12_common 31 = .ok (.lload 4, 2) := by decide +kernel
theorem dX12_common_33 : decode cX12_common 33 = .ok (.lreturn, 1) := by decide +kernel
theorem dX12_part_0 : decode cX12_part 0 = .ok (.iload 4, 2) := by decide +kernel
theorem dX12_part_2 : decode cX12_part 2 = .ok (.ifCond .eq 7, 3) := by decide +kernel
theorem dX12_part_5 : decode cX12_part 5 = .ok (.lload_n 2, 1) := by decide +kernel
theorem dX12_part_6 : decode cX12_part 6 = .ok (.goto 4, 3) := by decide +kernel
theorem dX12_part_9 : decode cX12_part 9 = .ok (.lload_n 0, 1) := by decide +kernel
theorem dX12_part_10 : decode cX12_part 10 = .ok (.lload_n 2, 1) := by decide +kernel
theorem dX12_part_11 : decode cX12_part 11 = .ok (.lload_n 0, 1) := by decide +kernel
theorem dX12_part_12 : decode cX12_part 12 = .ok (.invokestatic 99, 3) := by decide +kernel
theorem dX12_part_15 : decode cX12_part 15 = .ok (.ldiv, 1) := by decide +kernel
theorem dX12_part_16 : decode cX12_part 16 = .ok (.lreturn, 1) := by decide +kernel
theorem dX12_copyRow_0 : decode cX12_copyRow 0 = .ok (.iconst 0, 1) := by decide +kernel
theorem dX12_copyRow_1 : decode cX12_copyRow 1 = .ok (.istore 4, 2) := by decide +kernel
theorem dX12_copyRow_3 : decode cX12_copyRow 3 = .ok (.iload 4, 2) := by decide +kernel
theorem dX12_copyRow_5 : decode cX12_copyRow 5 = .ok (.iload_n 1, 1) := by decide +kernel
theorem dX12_copyRow_6 : decode cX12_copyRow 6 = .ok (.if_icmp .ge 25, 3) := by decide +kernel
theorem dX12_copyRow_9 : decode cX12_copyRow 9 = .ok (.aload_n 0, 1) := by decide +kernel
theorem dX12_copyRow_10 : decode cX12_copyRow 10 = .ok (.iload_n 1, 1) := by decide +kernel
theorem dX12_copyRow_11 : decode cX12_copyRow 11 = .ok (.iload_n 3, 1) := by decide +kernel
theorem dX12_copyRow_12 : decode cX12_copyRow 12 = .ok (.imul, 1) := by decide +kernel
theorem dX12_copyRow_13 : decode cX12_copyRow 13 = .ok (.iload 4, 2) := by decide +kernel
theorem dX12_copyRow_15 : decode cX12_copyRow 15 = .ok (.iadd, 1) := by decide +kernel
theorem dX12_copyRow_16 : decode cX12_copyRow 16 = .ok (.aload_n 0, 1) := by decide +kernel
theorem dX12_copyRow_17 : decode cX12_copyRow 17 = .ok (.iload_n 1, 1) := by decide +kernel
theorem dX12_copyRow_18 : decode cX12_copyRow 18 = .ok (.iload_n 2, 1) := by decide +kernel
theorem dX12_copyRow_19 : decode cX12_copyRow 19 = .ok (.imul, 1) := by decide +kernel
theorem dX12_copyRow_20 : decode cX12_copyRow 20 = .ok (.iload 4, 2) := by decide +kernel
theorem dX12_copyRow_22 : decode cX12_copyRow 22 = .ok (.iadd, 1) := by decide +kernel
theorem dX12_copyRow_23 : decode cX12_copyRow 23 = .ok (.iaload, 1) := by decide +kernel
theorem dX12_copyRow_24 : decode cX12_copyRow 24 = .ok (.iastore, 1) := by decide +kernel
theorem dX12_copyRow_25 : decode cX12_copyRow 25 = .ok (.iinc 4 1, 3) := by decide +kernel
theorem dX12_copyRow_28 : decode cX12_copyRow 28 = .ok (.goto (-25), 3) := by decide +kernel
theorem dX12_copyRow_31 : decode cX12_copyRow 31 = .ok (.return_, 1) := by decide +kernel
theorem dX12_copyAll_0 : decode cX12_copyAll 0 = .ok (.iconst 0, 1) := by decide +kernel
theorem dX12_copyAll_1 : decode cX12_copyAll 1 = .ok (.istore_n 3, 1) := by decide +kernel
theorem dX12_copyAll_2 : decode cX12_copyAll 2 = .ok (.iload_n 3, 1) := by decide +kernel
theorem dX12_copyAll_3 : decode cX12_copyAll 3 = .ok (.sipush 600, 3) := by decide +kernel
theorem dX12_copyAll_6 : decode cX12_copyAll 6 = .ok (.if_icmp .ge 33, 3) := by decide +kernel
theorem dX12_copyAll_9 : decode cX12_copyAll 9 = .ok (.aload_n 0, 1) := by decide +kernel
theorem dX12_copyAll_10 : decode cX12_copyAll 10 = .ok (.getfield 7, 3) := by decide +kernel
theorem dX12_copyAll_13 : decode cX12_copyAll 13 = .ok (.sipush 600, 3) := by decide +kernel
theorem dX12_copyAll_16 : decode cX12_copyAll 16 = .ok (.iload_n 2, 1) := by decide +kernel
theorem dX12_copyAll_17 : decode cX12_copyAll 17 = .ok (.imul, 1) := by decide +kernel
theorem dX12_copyAll_18 : decode cX12_copyAll 18 = .ok (.iload_n 3, 1) := by decide +kernel
theorem dX12_copyAll_19 : decode cX12_copyAll 19 = .ok (.iadd, 1) := by decide +kernel
theorem dX12_copyAll_20 : decode cX12_copyAll 20 = .ok (.aload_n 0, 1) := by decide +kernel
theorem dX12_copyAll_21 : decode cX12_copyAll 21 = .ok (.getfield 7, 3) := by decide +kernel
theorem dX12_copyAll_24 : decode cX12_copyAll 24 = .ok (.sipush 600, 3) := by decide +kernel
theorem dX12_copyAll_27 : decode cX12_copyAll 27 = .ok (.iload_n 1, 1) := by decide +kernel
theorem dX12_copyAll_28 : decode cX12_copyAll 28 = .ok (.imul, 1) := by decide +kernel
theorem dX12_copyAll_29 : decode cX12_copyAll 29 = .ok (.iload_n 3, 1) := by decide +kernel
theorem dX12_copyAll_30 : decode cX12_copyAll 30 = .ok (.iadd, 1) := by decide +kernel
theorem dX12_copyAll_31 : decode cX12_copyAll 31 = .ok (.baload, 1) := by decide +kernel
theorem dX12_copyAll_32 : decode cX12_copyAll 32 = .ok (.bastore, 1) := by decide +kernel
theorem dX12_copyAll_33 : decode cX12_copyAll 33 = .ok (.iinc 3 1, 3) := by decide +kernel
theorem dX12_copyAll_36 : decode cX12_copyAll 36 = .ok (.goto (-34), 3) := by decide +kernel
theorem dX12_copyAll_39 : decode cX12_copyAll 39 = .ok (.aload_n 0, 1) := by decide +kernel
theorem dX12_copyAll_40 : decode cX12_copyAll 40 = .ok (.getfield 13, 3) := by decide +kernel
theorem dX12_copyAll_43 : decode cX12_copyAll 43 = .ok (.iconst 1, 1) := by decide +kernel
theorem dX12_copyAll_44 : decode cX12_copyAll 44 = .ok (.iload_n 1, 1) := by decide +kernel
theorem dX12_copyAll_45 : decode cX12_copyAll 45 = .ok (.iload_n 2, 1) := by decide +kernel
theorem dX12_copyAll_46 : decode cX12_copyAll 46 = .ok (.invokestatic 103, 3) := by decide +kernel
theorem dX12_copyAll_49 : decode cX12_copyAll 49 = .ok (.aload_n 0, 1) := by decide +kernel
theorem dX12_copyAll_50 : decode cX12_copyAll 50 = .ok (.getfield 17, 3) := by decide +kernel
theorem dX12_copyAll_53 : decode cX12_copyAll 53 = .ok (.iconst 1, 1) := by decide +kernel
theorem dX12_copyAll_54 : decode cX12_copyAll 54 = .ok (.iload_n 1, 1) := by decide +kernel
theorem dX12_copyAll_55 : decode cX12_copyAll 55 = .ok (.iload_n 2, 1) := by decide +kernel
theorem dX12_copyAll_56 : decode cX12_copyAll 56 = .ok (.invokestatic 103, 3) := by decide +kernel
theorem dX12_copyAll_59 : decode cX12_copyAll 59 = .ok (.aload_n 0, 1) := by decide +kernel
theorem dX12_copyAll_60 : decode cX12_copyAll 60 = .ok (.getfield 20, 3) := by decide +kernel
theorem dX12_copyAll_63 : decode cX12_copyAll 63 = .ok (.iconst 1, 1) := by decide +kernel
theorem dX12_copyAll_64 : decode cX12_copyAll 64 = .ok (.iload_n 1, 1) := by decide +kernel
theorem dX12_copyAll_65 : decode cX12_copyAll 65 = .ok (.iload_n 2, 1) := by decide +kernel
theorem dX12_copyAll_66 : decode cX12_copyAll 66 = .ok (.invokestatic 103, 3) := by decide +kernel
theorem dX12_copyAll_69 : decode cX12_copyAll 69 = .ok (.aload_n 0, 1) := by decide +kernel
theorem dX12_copyAll_70 : decode cX12_copyAll 70 = .ok (.getfield 23, 3) := by decide +kernel
theorem dX12_copyAll_73 : decode cX12_copyAll 73 = .ok (.iconst 4, 1) := by decide +kernel
theorem dX12_copyAll_74 : decode cX12_copyAll 74 = .ok (.iload_n 1, 1) := by decide +kernel
theorem dX12_copyAll_75 : decode cX12_copyAll 75 = .ok (.iload_n 2, 1) := by decide +kernel
theorem dX12_copyAll_76 : decode cX12_copyAll 76 = .ok (.invokestatic 103, 3) := by decide +kernel
theorem dX12_copyAll_79 : decode cX12_copyAll 79 = .ok (.aload_n 0, 1) := by decide +kernel
theorem dX12_copyAll_80 : decode cX12_copyAll 80 = .ok (.getfield 26, 3) := by decide +kernel
theorem dX12_copyAll_83 : decode cX12_copyAll 83 = .ok (.sipush 224, 3) := by decide +kernel
theorem dX12_copyAll_86 : decode cX12_copyAll 86 = .ok (.iload_n 1, 1) := by decide +kernel
theorem dX12_copyAll_87 : decode cX12_copyAll 87 = .ok (.iload_n 2, 1) := by decide +kernel
theorem dX12_copyAll_88 : decode cX12_copyAll 88 = .ok (.invokestatic 103, 3) := by decide +kernel
theorem dX12_copyAll_91 : decode cX12_copyAll 91 = .ok (.aload_n 0, 1) := by decide +kernel
theorem dX12_copyAll_92 : decode cX12_copyAll 92 = .ok (.getfield 29, 3) := by decide +kernel
theorem dX12_copyAll_95 : decode cX12_copyAll 95 = .ok (.sipush 162, 3) := by decide +kernel
theorem dX12_copyAll_98 : decode cX12_copyAll 98 = .ok (.iload_n 1, 1) := by decide +kernel
theorem dX12_copyAll_99 : decode cX12_copyAll 99 = .ok (.iload_n 2, 1) := by decide +kernel
theorem dX12_copyAll_100 : decode cX12_copyAll 100 = .ok (.invokestatic 103, 3) := by decide +kernel
theorem dX12_copyAll_103 : decode cX12_copyAll 103 = .ok (.aload_n 0, 1) := by decide +kernel
theorem dX12_copyAll_104 : decode cX12_copyAll 104 = .ok (.getfield 32, 3) := by decide +kernel
theorem dX12_copyAll_107 : decode cX12_copyAll 107 = .ok (.bipush 26, 2) := by decide +kernel
theorem dX12_copyAll_109 : decode cX12_copyAll 109 = .ok (.iload_n 1, 1) := by decide +kernel
theorem dX12_copyAll_110 : decode cX12_copyAll 110 = .ok (.iload_n 2, 1) := by decide +kernel
theorem dX12_copyAll_111 : decode cX12_copyAll 111 = .ok (.invokestatic 103, 3) := by decide +kernel
theorem dX12_copyAll_114 : decode cX12_copyAll 114 = .ok (.aload_n 0, 1) := by decide +kernel
theorem dX12_copyAll_115 : decode cX12_copyAll 115 = .ok (.getfield 35, 3) := by decide +kernel
theorem dX12_copyAll_118 : decode cX12_copyAll 118 = .ok (.bipush 54, 2) := by decide +kernel
theorem dX12_copyAll_120 : decode cX12_copyAll 120 = .ok (.iload_n 1, 1) := by decide +kernel
theorem dX12_copyAll_121 : decode cX12_copyAll 121 = .ok (.iload_n 2, 1) := by decide +kernel
theorem dX12_copyAll_122 : decode cX12_copyAll 122 = .ok (.invokestatic 103, 3) := by decide +kernel
theorem dX12_copyAll_125 : decode cX12_copyAll 125 = .ok (.return_, 1) := by decide +kernel
theorem dX12_is_0 : decode cX12_is 0 = .ok (.iload_n 2, 1) := by decide +kernel
theorem dX12_is_1 : decode cX12_is 1 = .ok (.iconst 0, 1) := by decide +kernel
theorem dX12_is_2 : decode cX12_is 2 = .ok (.aload_n 0, 1) := by decide +kernel
theorem dX12_is_3 : decode cX12_is 3 = .ok (.getfield 23, 3) := by decide +kernel
theorem dX12_is_6 : decode cX12_is 6 = .ok (.iload_n 1, 1) := by decide +kernel
theorem dX12_is_7 : decode cX12_is 7 = .ok (.iaload, 1) := by decide +kernel
theorem dX12_is_8 : decode cX12_is 8 = .ok (.iconst 1, 1) := by decide +kernel
theorem dX12_is_9 : decode cX12_is 9 = .ok (.isub, 1) := by decide +kernel
theorem dX12_is_10 : decode cX12_is 10 = .ok (.invokestatic 107, 3) := by decide +kernel
theorem dX12_is_13 : decode cX12_is 13 = .ok (.ireturn, 1) := by decide +kernel
theorem dX12_feed_0 : decode cX12_feed 0 = .ok (.aload_n 0, 1) := by decide +kernel
theorem dX12_feed_1 : decode cX12_feed 1 = .ok (.iconst 0, 1) := by decide +kernel
theorem dX12_feed_2 : decode cX12_feed 2 = .ok (.putfield 91, 3) := by decide +kernel
theorem dX12_feed_5 : decode cX12_feed 5 = .ok (.aload_n 0, 1) := by decide +kernel
theorem dX12_feed_6 : decode cX12_feed 6 = .ok (.getfield 13, 3) := by decide +kernel
theorem dX12_feed_9 : decode cX12_feed 9 = .ok (.iconst 0, 1) := by decide +kernel
theorem dX12_feed_10 : decode cX12_feed 10 = .ok (.iaload, 1) := by decide +kernel
theorem dX12_feed_11 : decode cX12_feed 11 = .ok (.bipush 20, 2) := by decide +kernel
theorem dX12_feed_13 : decode cX12_feed 13 = .ok (.iadd, 1) := by decide +kernel
theorem dX12_feed_14 : decode cX12_feed 14 = .ok (.sipush 600, 3) := by decide +kernel
theorem dX12_feed_17 : decode cX12_feed 17 = .ok (.if_icmp .le 5, 3) := by decide +kernel
theorem dX12_feed_20 : decode cX12_feed 20 = .ok (.iconst (-1), 1) := by decide +kernel
theorem dX12_feed_21 : decode cX12_feed 21 = .ok (.ireturn, 1) := by decide +kernel
theorem dX12_feed_22 : decode cX12_feed 22 = .ok (.aload_n 0, 1) := by decide +kernel
theorem dX12_feed_23 : decode cX12_feed 23 = .ok (.iload_n 1, 1) := by decide +kernel
theorem dX12_feed_24 : decode cX12_feed 24 = .ok (.invokevirtual 111, 3) := by decide +kernel
theorem dX12_feed_27 : decode cX12_feed 27 = .ok (.aload_n 0, 1) := by decide +kernel
theorem dX12_feed_28 : decode cX12_feed 28 = .ok (.iload_n 2, 1) := by decide +kernel
theorem dX12_feed_29 : decode cX12_feed 29 = .ok (.invokevirtual 111, 3) := by decide +kernel
theorem dX12_feed_32 : decode cX12_feed 32 = .ok (.aload_n 0, 1) := by decide +kernel
theorem dX12_feed_33 : decode cX12_feed 33 = .ok (.iload_n 3, 1) := by decide +kernel
theorem dX12_feed_34 : decode cX12_feed 34 = .ok (.invokevirtual 111, 3) := by decide +kernel
theorem dX12_feed_37 : decode cX12_feed 37 = .ok (.aload_n 0, 1) := by decide +kernel
theorem dX12_feed_38 : decode cX12_feed 38 = .ok (.iload 4, 2) := by decide +kernel
theorem dX12_feed_40 : decode cX12_feed 40 = .ok (.invokevirtual 111, 3) := by decide +kernel
theorem dX12_feed_43 : decode cX12_feed 43 = .ok (.aload_n 0, 1) := by decide +kernel
theorem dX12_feed_44 : decode cX12_feed 44 = .ok (.iload 5, 2) := by decide +kernel
theorem dX12_feed_46 : decode cX12_feed 46 = .ok (.invokevirtual 111, 3) := by decide +kernel
theorem dX12_feed_49 : decode cX12_feed 49 = .ok (.aload_n 0, 1) := by decide +kernel
theorem dX12_feed_50 : decode cX12_feed 50 = .ok (.getfield 13, 3) := by decide +kernel
theorem dX12_feed_53 : decode cX12_feed 53 = .ok (.iconst 0, 1) := by decide +kernel
theorem dX12_feed_54 : decode cX12_feed 54 = .ok (.iaload, 1) := by decide +kernel
theorem dX12_feed_55 : decode cX12_feed 55 = .ok (.ireturn, 1) := by decide +kernel
theorem dX12_four_0 : decode cX12_four 0 = .ok (.bipush 24, 2) := by decide +kernel
theorem dX12_four_2 : decode cX12_four 2 = .ok (.istore_n 2, 1) := by decide +kernel
theorem dX12_four_3 : decode cX12_four 3 = .ok (.iload_n 2, 1) := by decide +kernel
theorem dX12_four_4 : decode cX12_four 4 = .ok (.ifCond .lt 34, 3) := by decide +kernel
theorem dX12_four_7 : decode cX12_four 7 = .ok (.aload_n 0, 1) := by decide +kernel
theorem dX12_four_8 : decode cX12_four 8 = .ok (.getfield 7, 3) := by decide +kernel
theorem dX12_four_11 : decode cX12_four 11 = .ok (.aload_n 0, 1) := by decide +kernel
theorem dX12_four_12 : decode cX12_four 12 = .ok (.getfield 13, 3) := by decide +kernel
theorem dX12_four_15 : decode cX12_four 15 = .ok (.iconst 0, 1) := by decide +kernel
theorem dX12_four_16 : decode cX12_four 16 = .ok (.iaload, 1) := by decide +kernel
theorem dX12_four_17 : decode cX12_four 17 = .ok (.iload_n 1, 1) := by decide +kernel
theorem dX12_four_18 : decode cX12_four 18 = .ok (.iload_n 2, 1) := by decide +kernel
theorem dX12_four_19 : decode cX12_four 19 = .ok (.ishr, 1) := by decide +kernel
theorem dX12_four_20 : decode cX12_four 20 = .ok (.i2b, 1) := by decide +kernel
theorem dX12_four_21 : decode cX12_four 21 = .ok (.bastore, 1) := by decide +kernel
theorem dX12_four_22 : decode cX12_four 22 = .ok (.aload_n 0, 1) := by decide +kernel
theorem dX12_four_23 : decode cX12_four 23 = .ok (.getfield 13, 3) := by decide +kernel
theorem dX12_four_26 : decode cX12_four 26 = .ok (.iconst 0, 1) := by decide +kernel
theorem dX12_four_27 : decode cX12_four 27 = .ok (.dup2, 1) := by decide +kernel
theorem dX12_four_28 : decode cX12_four 28 = .ok (.iaload, 1) := by decide +kernel
theorem dX12_four_29 : decode cX12_four 29 = .ok (.iconst 1, 1) := by decide +kernel
theorem dX12_four_30 : decode cX12_four 30 = .ok (.iadd, 1) := by decide +kernel
theorem dX12_four_31 : decode cX12_four 31 = .ok (.iastore, 1) := by decide +kernel
theorem dX12_four_32 : decode cX12_four 32 = .ok (.iinc 2 (-8), 3) := by decide +kernel
theorem dX12_four_35 : decode cX12_four 35 = .ok (.goto (-32), 3) := by decide +kernel
theorem dX12_four_38 : decode cX12_four 38 = .ok (.return_, 1) := by decide +kernel
theorem dX12_end_0 : decode cX12_end 0 = .ok (.aload_n 0, 1) := by decide +kernel
theorem dX12_end_1 : decode cX12_end 1 = .ok (.iconst 0, 1) := by decide +kernel
theorem dX12_end_2 : decode cX12_end 2 = .ok (.putfield 91, 3) := by decide +kernel
theorem dX12_end_5 : decode cX12_end 5 = .ok (.iload_n 1, 1) := by decide +kernel
theorem dX12_end_6 : decode cX12_end 6 = .ok (.iconst 0, 1) := by decide +kernel
theorem dX12_end_7 : decode cX12_end 7 = .ok (.aload_n 0, 1) := by decide +kernel
theorem dX12_end_8 : decode cX12_end 8 = .ok (.getfield 13, 3) := by decide +kernel
theorem dX12_end_11 : decode cX12_end 11 = .ok (.iconst 0, 1) := by decide +kernel
theorem dX12_end_12 : decode cX12_end 12 = .ok (.iaload, 1) := by decide +kernel
theorem dX12_end_13 : decode cX12_end 13 = .ok (.invokestatic 107, 3) := by decide +kernel
theorem dX12_end_16 : decode cX12_end 16 = .ok (.ifCond .ne 5, 3) := by decide +kernel
theorem dX12_end_19 : decode cX12_end 19 = .ok (.iconst (-1), 1) := by decide +kernel
theorem dX12_end_20 : decode cX12_end 20 = .ok (.ireturn, 1) := by decide +kernel
theorem dX12_end_21 : decode cX12_end 21 = .ok (.aload_n 0, 1) := by decide +kernel
theorem dX12_end_22 : decode cX12_end 22 = .ok (.getfield 13, 3) := by decide +kernel
theorem dX12_end_25 : decode cX12_end 25 = .ok (.iconst 0, 1) := by decide +kernel
theorem dX12_end_26 : decode cX12_end 26 = .ok (.iload_n 1, 1) := by decide +kernel
theorem dX12_end_27 : decode cX12_end 27 = .ok (.iastore, 1) := by decide +kernel
theorem dX12_end_28 : decode cX12_end 28 = .ok (.iload_n 1, 1) := by decide +kernel
theorem dX12_end_29 : decode cX12_end 29 = .ok (.ireturn, 1) := by decide +kernel
theorem dX12_see_0 : decode cX12_see 0 = .ok (.aload_n 0, 1) := by decide +kernel
theorem dX12_see_1 : decode cX12_see 1 = .ok (.getfield 115, 3) := by decide +kernel
theorem dX12_see_4 : decode cX12_see 4 = .ok (.aload_n 0, 1) := by decide +kernel
theorem dX12_see_5 : decode cX12_see 5 = .ok (.getfield 118, 3) := by decide +kernel
theorem dX12_see_8 : decode cX12_see 8 = .ok (.if_icmp .ge 19, 3) := by decide +kernel
theorem dX12_see_11 : decode cX12_see 11 = .ok (.aload_n 0, 1) := by decide +kernel
theorem dX12_see_12 : decode cX12_see 12 = .ok (.getfield 7, 3) := by decide +kernel
theorem dX12_see_15 : decode cX12_see 15 = .ok (.aload_n 0, 1) := by decide +kernel
theorem dX12_see_16 : decode cX12_see 16 = .ok (.getfield 115, 3) := by decide +kernel
theorem dX12_see_19 : decode cX12_see 19 = .ok (.baload, 1) := by decide +kernel
theorem dX12_see_20 : decode cX12_see 20 = .ok (.sipush 255, 3) := by decide +kernel
theorem dX12_see_23 : decode cX12_see 23 = .ok (.iand, 1) := by decide +kernel
theorem dX12_see_24 : decode cX12_see 24 = .ok (.goto 4, 3) := by decide +kernel
theorem dX12_see_27 : decode cX12_see 27 = .ok (.iconst (-1), 1) := by decide +kernel
theorem dX12_see_28 : decode cX12_see 28 = .ok (.ireturn, 1) := by decide +kernel
theorem dX12_token_0 : decode cX12_token 0 = .ok (.aload_n 0, 1) := by decide +kernel
theorem dX12_token_1 : decode cX12_token 1 = .ok (.invokevirtual 121, 3) := by decide +kernel
theorem dX12_token_4 : decode cX12_token 4 = .ok (.bipush 10, 2) := by decide +kernel
theorem dX12_token_6 : decode cX12_token 6 = .ok (.if_icmp .eq 12, 3) := by decide +kernel
theorem dX12_token_9 : decode cX12_token 9 = .ok (.aload_n 0, 1) := by decide +kernel
theorem dX12_token_10 : decode cX12_token 10 = .ok (.invokevirtual 121, 3) := by decide +kernel
theorem dX12_token_13 : decode cX12_token 13 = .ok (.bipush 32, 2) := by decide +kernel
theorem dX12_token_15 : decode cX12_token 15 = .ok (.if_icmp .ne 16, 3) := by decide +kernel
theorem dX12_token_18 : decode cX12_token 18 = .ok (.aload_n 0, 1) := by decide +kernel
theorem dX12_token_19 : decode cX12_token 19 = .ok (.dup, 1) := by decide +kernel
theorem dX12_token_20 : decode cX12_token 20 = .ok (.getfield 115, 3) := by decide +kernel
theorem dX12_token_23 : decode cX12_token 23 = .ok (.iconst 1, 1) := by decide +kernel
theorem dX12_token_24 : decode cX12_token 24 = .ok (.iadd, 1) := by decide +kernel
theorem dX12_token_25 : decode cX12_token 25 = .ok (.putfield 115, 3) := by decide +kernel
theorem dX12_token_28 : decode cX12_token 28 = .ok (.goto (-28), 3) := by decide +kernel
theorem dX12_token_31 : decode cX12_token 31 = .ok (.aload_n 0, 1) := by decide +kernel
theorem dX12_token_32 : decode cX12_token 32 = .ok (.aload_n 0, 1) := by decide +kernel
theorem dX12_token_33 : decode cX12_token 33 = .ok (.getfield 115, 3) := by decide +kernel
theorem dX12_token_36 : decode cX12_token 36 = .ok (.putfield 125, 3) := by decide +kernel
theorem dX12_token_39 : decode cX12_token 39 = .ok (.aload_n 0, 1) := by decide +kernel
theorem dX12_token_40 : decode cX12_token 40 = .ok (.invokevirtual 121, 3) := by decide +kernel
theorem dX12_token_43 : decode cX12_token 43 = .ok (.istore_n 1, 1) := by decide +kernel
theorem dX12_token_44 : decode cX12_token 44 = .ok (.aload_n 0, 1) := by decide +kernel
theorem dX12_token_45 : decode cX12_token 45 = .ok (.lconst 0, 1) := by decide +kernel
theorem dX12_token_46 : decode cX12_token 46 = .ok (.putfield 128, 3) := by decide +kernel
theorem dX12_token_49 : decode cX12_token 49 = .ok (.iconst 0, 1) := by decide +kernel
theorem dX12_token_50 : decode cX12_token 50 = .ok (.istore_n 2, 1) := by decide +kernel
theorem dX12_token_51 : decode cX12_token 51 = .ok (.iload_n 1, 1) := by decide +kernel
theorem dX12_token_52 : decode cX12_token 52 = .ok (.ifCond .ge 11, 3) := by decide +kernel
theorem dX12_token_55 : decode cX12_token 55 = .ok (.aload_n 0, 1) := by decide +kernel
theorem dX12_token_56 : decode cX12_token 56 = .ok (.iconst 0, 1) := by decide +kernel
theorem dX12_token_57 : decode cX12_token 57 = .ok (.putfield 132, 3) := by decide +kernel
theorem dX12_token_60 : decode cX12_token 60 = .ok (.goto 206, 3) := by decide +kernel
theorem dX12_token_63 : decode cX12_token 63 = .ok (.iload_n 1, 1) := by decide +kernel
theorem dX12_token_64 : decode cX12_token 64 = .ok (.bipush 97, 2) := by decide +kernel
theorem dX12_token_66 : decode cX12_token 66 = .ok (.bipush 122, 2) := by decide +kernel
theorem dX12_token_68 : decode cX12_token 68 = .ok (.invokestatic 107, 3) := by decide +kernel
theorem dX12_token_71 : decode cX12_token 71 = .ok (.ifCond .eq 76, 3) := by decide +kernel
theorem dX12_token_74 : decode cX12_token 74 = .ok (.aload_n 0, 1) := by decide +kernel
theorem dX12_token_75 : decode cX12_token 75 = .ok (.invokevirtual 121, 3) := by decide +kernel
theorem dX12_token_78 : decode cX12_token 78 = .ok (.bipush 97, 2) := by decide +kernel
theorem dX12_token_80 : decode cX12_token 80 = .ok (.bipush 122, 2) := by decide +kernel
theorem dX12_token_82 : decode cX12_token 82 = .ok (.invokestatic 107, 3) := by decide +kernel
theorem dX12_token_85 : decode cX12_token 85 = .ok (.ifCond .eq 36, 3) := by decide +kernel
theorem dX12_token_88 : decode cX12_token 88 = .ok (.aload_n 0, 1) := by decide +kernel
theorem dX12_token_89 : decode cX12_token 89 = .ok (.aload_n 0, 1) := by decide +kernel
theorem dX12_token_90 : decode cX12_token 90 = .ok (.getfield 128, 3) := by decide +kernel
theorem dX12_token_93 : decode cX12_token 93 = .ok (.bipush 8, 2) := by decide +kernel
theorem dX12_token_95 : decode cX12_token 95 = .ok (.lshl, 1) := by decide +kernel
theorem dX12_token_96 : decode cX12_token 96 = .ok (.aload_n 0, 1) := by decide +kernel
theorem dX12_token_97 : decode cX12_token 97 = .ok (.invokevirtual 121, 3) := by decide +kernel
theorem dX12_token_100 : decode cX12_token 100 = .ok (.i2l, 1) := by decide +kernel
theorem dX12_token_101 : decode cX12_token 101 = .ok (.lor, 1) := by decide +kernel
theorem dX12_token_102 : decode cX12_token 102 = .ok (.putfield 128, 3) := by decide +kernel
theorem dX12_token_105 : decode cX12_token 105 = .ok (.aload_n 0, 1) := by decide +kernel
theorem dX12_token_106 : decode cX12_token 106 = .ok (.dup, 1) := by decide +kernel
theorem dX12_token_107 : decode cX12_token 107 = .ok (.getfield 115, 3) := by decide +kernel
theorem dX12_token_110 : decode cX12_token 110 = .ok (.iconst 1, 1) := by decide +kernel
theorem dX12_token_111 : decode cX12_token 111 = .ok (.iadd, 1) := by decide +kernel
theorem dX12_token_112 : decode cX12_token 112 = .ok (.putfield 115, 3) := by decide +kernel
theorem dX12_token_115 : decode cX12_token 115 = .ok (.iinc 2 1, 3) := by decide +kernel
theorem dX12_token_118 : decode cX12_token 118 = .ok (.goto (-44), 3) := by decide +kernel
theorem dX12_token_121 : decode cX12_token 121 = .ok (.aload_n 0, 1) := by decide +kernel
theorem dX12_token_122 : decode cX12_token 122 = .ok (.iload_n 2, 1) := by decide +kernel
theorem dX12_token_123 : decode cX12_token 123 = .ok (.bipush 8, 2) := by decide +kernel
theorem dX12_token_125 : decode cX12_token 125 = .ok (.if_icmp .le 7, 3) := by decide +kernel
theorem dX12_token_128 : decode cX12_token 128 = .ok (.lconst 0, 1) := by decide +kernel
theorem dX12_token_129 : decode cX12_token 129 = .ok (.goto 7, 3) := by decide +kernel
theorem dX12_token_132 : decode cX12_token 132 = .ok (.aload_n 0, 1) := by decide +kernel
theorem dX12_token_133 : decode cX12_token 133 = .ok (.getfield 128, 3) := by decide +kernel
theorem dX12_token_136 : decode cX12_token 136 = .ok (.putfield 128, 3) := by decide +kernel
theorem dX12_token_139 : decode cX12_token 139 = .ok (.aload_n 0, 1) := by decide +kernel
theorem dX12_token_140 : decode cX12_token 140 = .ok (.iconst 2, 1) := by decide +kernel
theorem dX12_token_141 : decode cX12_token 141 = .ok (.putfield 132, 3) := by decide +kernel
theorem dX12_token_144 : decode cX12_token 144 = .ok (.goto 122, 3) := by decide +kernel
theorem dX12_token_147 : decode cX12_token 147 = .ok (.iload_n 1, 1) := by decide +kernel
theorem dX12_token_148 : decode cX12_token 148 = .ok (.bipush 48, 2) := by decide +kernel
theorem dX12_token_150 : decode cX12_token 150 = .ok (.bipush 57, 2) := by decide +kernel
theorem dX12_token_152 : decode cX12_token 152 = .ok (.invokestatic 107, 3) := by decide +kernel
theorem dX12_token_155 : decode cX12_token 155 = .ok (.ifCond .eq 86, 3) := by decide +kernel
theorem dX12_token_158 : decode cX12_token 158 = .ok (.aload_n 0, 1) := by decide +kernel
theorem dX12_token_159 : decode cX12_token 159 = .ok (.iconst 0, 1) := by decide +kernel
theorem dX12_token_160 : decode cX12_token 160 = .ok (.putfield 135, 3) := by decide +kernel
theorem dX12_token_163 : decode cX12_token 163 = .ok (.aload_n 0, 1) := by decide +kernel
theorem dX12_token_164 : decode cX12_token 164 = .ok (.invokevirtual 121, 3) := by decide +kernel
theorem dX12_token_167 : decode cX12_token 167 = .ok (.bipush 48, 2) := by decide +kernel
theorem dX12_token_169 : decode cX12_token 169 = .ok (.bipush 57, 2) := by decide +kernel
theorem dX12_token_171 : decode cX12_token 171 = .ok (.invokestatic 107, 3) := by decide +kernel
theorem dX12_token_174 : decode cX12_token 174 = .ok (.ifCond .eq 50, 3) := by decide +kernel
theorem dX12_token_177 : decode cX12_token 177 = .ok (.aload_n 0, 1) := by decide +kernel
theorem dX12_token_178 : decode cX12_token 178 = .ok (.iload_n 2, 1) := by decide +kernel
theorem dX12_token_179 : decode cX12_token 179 = .ok (.iconst 2, 1) := by decide +kernel
theorem dX12_token_180 : decode cX12_token 180 = .ok (.if_icmp .ge 21, 3) := by decide +kernel
theorem dX12_token_183 : decode cX12_token 183 = .ok (.bipush 10, 2) := by decide +kernel
theorem dX12_token_185 : decode cX12_token 185 = .ok (.aload_n 0, 1) := by decide +kernel
theorem dX12_token_186 : decode cX12_token 186 = .ok (.getfield 135, 3) := by decide +kernel
theorem dX12_token_189 : decode cX12_token 189 = .ok (.imul, 1) := by decide +kernel
theorem dX12_token_190 : decode cX12_token 190 = .ok (.aload_n 0, 1) := by decide +kernel
theorem dX12_token_191 : decode cX12_token 191 = .ok (.invokevirtual 121, 3) := by decide +kernel
theorem dX12_token_194 : decode cX12_token 194 = .ok (.iadd, 1) := by decide +kernel
theorem dX12_token_195 : decode cX12_token 195 = .ok (.bipush 48, 2) := by decide +kernel
theorem dX12_token_197 : decode cX12_token 197 = .ok (.isub, 1) := by decide +kernel
theorem dX12_token_198 : decode cX12_token 198 = .ok (.goto 7, 3) := by decide +kernel
theorem dX12_token_201 : decode cX12_token 201 = .ok (.aload_n 0, 1) := by decide +kernel
theorem dX12_token_202 : decode cX12_token 202 = .ok (.getfield 135, 3) := by decide +kernel
theorem dX12_token_205 : decode cX12_token 205 = .ok (.putfield 135, 3) := by decide +kernel
theorem dX12_token_208 : decode cX12_token 208 = .ok (.aload_n 0, 1) := by decide +kernel
theorem dX12_token_209 : decode cX12_token 209 = .ok (.dup, 1) := by decide +kernel
theorem dX12_token_210 : decode cX12_token 210 = .ok (.getfield 115, 3) := by decide +kernel
theorem dX12_token_213 : decode cX12_token 213 = .ok (.iconst 1, 1) := by decide +kernel
theorem dX12_token_214 : decode cX12_token 214 = .ok (.iadd, 1) := by decide +kernel
theorem dX12_token_215 : decode cX12_token 215 = .ok (.putfield 115, 3) := by decide +kernel
theorem dX12_token_218 : decode cX12_token 218 = .ok (.iinc 2 1, 3) := by decide +kernel
theorem dX12_token_221 : decode cX12_token 221 = .ok (.goto (-58), 3) := by decide +kernel
theorem dX12_token_224 : decode cX12_token 224 = .ok (.aload_n 0, 1) := by decide +kernel
theorem dX12_token_225 : decode cX12_token 225 = .ok (.iload_n 2, 1) := by decide +kernel
theorem dX12_token_226 : decode cX12_token 226 = .ok (.iconst 2, 1) := by decide +kernel
theorem dX12_token_227 : decode cX12_token 227 = .ok (.if_icmp .le 7, 3) := by decide +kernel
theorem dX12_token_230 : decode cX12_token 230 = .ok (.iconst 1, 1) := by decide +kernel
theorem dX12_token_231 : decode cX12_token 231 = .ok (.goto 4, 3) := by decide +kernel
theorem dX12_token_234 : decode cX12_token 234 = .ok (.iconst 3, 1) := by decide +kernel
theorem dX12_token_235 : decode cX12_token 235 = .ok (.putfield 132, 3) := by decide +kernel
theorem dX12_token_238 : decode cX12_token 238 = .ok (.goto 28, 3) := by decide +kernel
theorem dX12_token_241 : decode cX12_token 241 = .ok (.aload_n 0, 1) := by decide +kernel
theorem dX12_token_242 : decode cX12_token 242 = .ok (.dup, 1) := by decide +kernel
theorem dX12_token_243 : decode cX12_token 243 = .ok (.getfield 115, 3) := by decide +kernel
theorem dX12_token_246 : decode cX12_token 246 = .ok (.iconst 1, 1) := by decide +kernel
theorem dX12_token_247 : decode cX12_token 247 = .ok (.iadd, 1) := by decide +kernel
theorem dX12_token_248 : decode cX12_token 248 = .ok (.putfield 115, 3) := by decide +kernel
theorem dX12_token_251 : decode cX12_token 251 = .ok (.aload_n 0, 1) := by decide +kernel
theorem dX12_token_252 : decode cX12_token 252 = .ok (.iload_n 1, 1) := by decide +kernel
theorem dX12_token_253 : decode cX12_token 253 = .ok (.bipush 59, 2) := by decide +kernel
theorem dX12_token_255 : decode cX12_token 255 = .ok (.if_icmp .ne 7, 3) := by decide +kernel
theorem dX12_token_258 : decode cX12_token 258 = .ok (.iconst 4, 1) := by decide +kernel
theorem dX12_token_259 : decode cX12_token 259 = .ok (.goto 4, 3) := by decide +kernel
theorem dX12_token_262 : decode cX12_token 262 = .ok (.iconst 1, 1) := by decide +kernel
theorem dX12_token_263 : decode cX12_token 263 = .ok (.putfield 132, 3) := by decide +kernel
theorem dX12_token_266 : decode cX12_token 266 = .ok (.return_, 1) := by decide +kernel
theorem dX12_fails_0 : decode cX12_fails 0 = .ok (.aload_n 0, 1) := by decide +kernel
theorem dX12_fails_1 : decode cX12_fails 1 = .ok (.aload_n 0, 1) := by decide +kernel
theorem dX12_fails_2 : decode cX12_fails 2 = .ok (.getfield 125, 3) := by decide +kernel
theorem dX12_fails_5 : decode cX12_fails 5 = .ok (.putfield 138, 3) := by decide +kernel
theorem dX12_fails_8 : decode cX12_fails 8 = .ok (.iconst 0, 1) := by decide +kernel
theorem dX12_fails_9 : decode cX12_fails 9 = .ok (.ireturn, 1) := by decide +kernel
theorem dX12_later_0 : decode cX12_later 0 = .ok (.aload_n 0, 1) := by decide +kernel
theorem dX12_later_1 : decode cX12_later 1 = .ok (.getfield 141, 3) := by decide +kernel
theorem dX12_later_4 : decode cX12_later 4 = .ok (.ifCond .eq 27, 3) := by decide +kernel
theorem dX12_later_7 : decode cX12_later 7 = .ok (.iload_n 2, 1) := by decide +kernel
theorem dX12_later_8 : decode cX12_later 8 = .ok (.aload_n 0, 1) := by decide +kernel
theorem dX12_later_9 : decode cX12_later 9 = .ok (.getfield 144, 3) := by decide +kernel
theorem dX12_later_12 : decode cX12_later 12 = .ok (.if_icmp .lt 19, 3) := by decide +kernel
theorem dX12_later_15 : decode cX12_later 15 = .ok (.iload_n 2, 1) := by decide +kernel
theorem dX12_later_16 : decode cX12_later 16 = .ok (.aload_n 0, 1) := by decide +kernel
theorem dX12_later_17 : decode cX12_later 17 = .ok (.getfield 144, 3) := by decide +kernel
theorem dX12_later_20 : decode cX12_later 20 = .ok (.if_icmp .ne 21, 3) := by decide +kernel
theorem dX12_later_23 : decode cX12_later 23 = .ok (.iload_n 1, 1) := by decide +kernel
theorem dX12_later_24 : decode cX12_later 24 = .ok (.aload_n 0, 1) := by decide +kernel
theorem dX12_later_25 : decode cX12_later 25 = .ok (.getfield 141, 3) := by decide +kernel
theorem dX12_later_28 : decode cX12_later 28 = .ok (.if_icmp .ge 13, 3) := by decide +kernel
theorem dX12_later_31 : decode cX12_later 31 = .ok (.aload_n 0, 1) := by decide +kernel
theorem dX12_later_32 : decode cX12_later 32 = .ok (.iload_n 1, 1) := by decide +kernel
theorem dX12_later_33 : decode cX12_later 33 = .ok (.putfield 141, 3) := by decide +kernel
theorem dX12_later_36 : decode cX12_later 36 = .ok (.aload_n 0, 1) := by decide +kernel
theorem dX12_later_37 : decode cX12_later 37 = .ok (.iload_n 2, 1) := by decide +kernel
theorem dX12_later_38 : decode cX12_later 38 = .ok (.putfield 144, 3) := by decide +kernel
theorem dX12_later_41 : decode cX12_later 41 = .ok (.return_, 1) := by decide +kernel
theorem dX12_take_0 : decode cX12_take 0 = .ok (.aload_n 0, 1) := by decide +kernel
theorem dX12_take_1 : decode cX12_take 1 = .ok (.getfield 132, 3) := by decide +kernel
theorem dX12_take_4 : decode cX12_take 4 = .ok (.iconst 3, 1) := by decide +kernel
theorem dX12_take_5 : decode cX12_take 5 = .ok (.if_icmp .eq 8, 3) := by decide +kernel
theorem dX12_take_8 : decode cX12_take 8 = .ok (.aload_n 0, 1) := by decide +kernel
theorem dX12_take_9 : decode cX12_take 9 = .ok (.invokevirtual 147, 3) := by decide +kernel
theorem dX12_take_12 : decode cX12_take 12 = .ok (.ireturn, 1) := by decide +kernel
theorem dX12_take_13 : decode cX12_take 13 = .ok (.aload_n 0, 1) := by decide +kernel
theorem dX12_take_14 : decode cX12_take 14 = .ok (.getfield 41, 3) := by decide +kernel
theorem dX12_take_17 : decode cX12_take 17 = .ok (.iload_n 1, 1) := by decide +kernel
theorem dX12_take_18 : decode cX12_take 18 = .ok (.aload_n 0, 1) := by decide +kernel
theorem dX12_take_19 : decode cX12_take 19 = .ok (.getfield 135, 3) := by decide +kernel
theorem dX12_take_22 : decode cX12_take 22 = .ok (.iastore, 1) := by decide +kernel
theorem dX12_take_23 : decode cX12_take 23 = .ok (.aload_n 0, 1) := by decide +kernel
theorem dX12_take_24 : decode cX12_take 24 = .ok (.getfield 135, 3) := by decide +kernel
theorem dX12_take_27 : decode cX12_take 27 = .ok (.iload_n 2, 1) := by decide +kernel
theorem dX12_take_28 : decode cX12_take 28 = .ok (.iload_n 3, 1) := by decide +kernel
theorem dX12_take_29 : decode cX12_take 29 = .ok (.invokestatic 107, 3) := by decide +kernel
theorem dX12_take_32 : decode cX12_take 32 = .ok (.ifCond .ne 17, 3) := by decide +kernel
theorem dX12_take_35 : decode cX12_take 35 = .ok (.aload_n 0, 1) := by decide +kernel
theorem dX12_take_36 : decode cX12_take 36 = .ok (.iconst 2, 1) := by decide +kernel
theorem dX12_take_37 : decode cX12_take 37 = .ok (.aload_n 0, 1) := by decide +kernel
theorem dX12_take_38 : decode cX12_take 38 = .ok (.getfield 125, 3) := by decide +kernel
theorem dX12_take_41 : decode cX12_take 41 = .ok (.invokevirtual 151, 3) := by decide +kernel
theorem dX12_take_44 : decode cX12_take 44 = .ok (.aload_n 0, 1) := by decide +kernel
theorem dX12_take_45 : decode cX12_take 45 = .ok (.iconst 0, 1) := by decide +kernel
theorem dX12_take_46 : decode cX12_take 46 = .ok (.putfield 155, 3) := by decide +kernel
theorem dX12_take_49 : decode cX12_take 49 = .ok (.aload_n 0, 1) := by decide +kernel
theorem dX12_take_50 : decode cX12_take 50 = .ok (.invokevirtual 159, 3) := by decide +kernel
theorem dX12_take_53 : decode cX12_take 53 = .ok (.iconst 1, 1) := by decide +kernel
theorem dX12_take_54 : decode cX12_take 54 = .ok (.ireturn, 1) := by decide +kernel
theorem dX12_takeFar_0 : decode cX12_takeFar 0 = .ok (.aload_n 0, 1) := by decide +kernel
theorem dX12_takeFar_1 : decode cX12_takeFar 1 = .ok (.iload_n 1, 1) := by decide +kernel
theorem dX12_takeFar_2 : decode cX12_takeFar 2 = .ok (.iconst 0, 1) := by decide +kernel
theorem dX12_takeFar_3 : decode cX12_takeFar 3 = .ok (.iload_n 2, 1) := by decide +kernel
theorem dX12_takeFar_4 : decode cX12_takeFar 4 = .ok (.invokevirtual 162, 3) := by decide +kernel
theorem dX12_takeFar_7 : decode cX12_takeFar 7 = .ok (.ifCond .ne 5, 3) := by decide +kernel
theorem dX12_takeFar_10 : decode cX12_takeFar 10 = .ok (.iconst 0, 1) := by decide +kernel
theorem dX12_takeFar_11 : decode cX12_takeFar 11 = .ok (.ireturn, 1) := by decide +kernel
theorem dX12_takeFar_12 : decode cX12_takeFar 12 = .ok (.aload_n 0, 1) := by decide +kernel
theorem dX12_takeFar_13 : decode cX12_takeFar 13 = .ok (.aload_n 0, 1) := by decide +kernel
theorem dX12_takeFar_14 : decode cX12_takeFar 14 = .ok (.getfield 165, 3) := by decide +kernel
theorem dX12_takeFar_17 : decode cX12_takeFar 17 = .ok (.aload_n 0, 1) := by decide +kernel
theorem dX12_takeFar_18 : decode cX12_takeFar 18 = .ok (.getfield 41, 3) := by decide +kernel
theorem dX12_takeFar_21 : decode cX12_takeFar 21 = .ok (.iload_n 1, 1) := by decide +kernel
theorem dX12_takeFar_22 : decode cX12_takeFar 22 = .ok (.iaload, 1) := by decide +kernel
theorem dX12_takeFar_23 : decode cX12_takeFar 23 = .ok (.iload_n 3, 1) := by decide +kernel
theorem dX12_takeFar_24 : decode cX12_takeFar 24 = .ok (.iadd, 1) := by decide +kernel
theorem dX12_takeFar_25 : decode cX12_takeFar 25 = .ok (.invokestatic 168, 3) := by decide +kernel
theorem dX12_takeFar_28 : decode cX12_takeFar 28 = .ok (.putfield 165, 3) := by decide +kernel
theorem dX12_takeFar_31 : decode cX12_takeFar 31 = .ok (.iconst 1, 1) := by decide +kernel
theorem dX12_takeFar_32 : decode cX12_takeFar 32 = .ok (.ireturn, 1) := by decide +kernel
theorem dX12_full_0 : decode cX12_full 0 = .ok (.aload_n 0, 1) := by decide +kernel
theorem dX12_full_1 : decode cX12_full 1 = .ok (.getfield 38, 3) := by decide +kernel
theorem dX12_full_4 : decode cX12_full 4 = .ok (.iload_n 1, 1) := by decide +kernel
theorem dX12_full_5 : decode cX12_full 5 = .ok (.iaload, 1) := by decide +kernel
theorem dX12_full_6 : decode cX12_full 6 = .ok (.iload_n 2, 1) := by decide +kernel
theorem dX12_full_7 : decode cX12_full 7 = .ok (.if_icmp .ne 9, 3) := by decide +kernel
theorem dX12_full_10 : decode cX12_full 10 = .ok (.aload_n 0, 1) := by decide +kernel
theorem dX12_full_11 : decode cX12_full 11 = .ok (.iconst 3, 1) := by decide +kernel
theorem dX12_full_12 : decode cX12_full 12 = .ok (.iload_n 3, 1) := by decide +kernel
theorem dX12_full_13 : decode cX12_full 13 = .ok (.invokevirtual 151, 3) := by decide +kernel
theorem dX12_full_16 : decode cX12_full 16 = .ok (.return_, 1) := by decide +kernel
theorem dX12_lineLine_0 : decode cX12_lineLine 0 = .ok (.aload_n 0, 1) := by decide +kernel
theorem dX12_lineLine_1 : decode cX12_lineLine 1 = .ok (.iconst 0, 1) := by decide +kernel
theorem dX12_lineLine_2 : decode cX12_lineLine 2 = .ok (.bipush 19, 2) := by decide +kernel
theorem dX12_lineLine_4 : decode cX12_lineLine 4 = .ok (.iconst 0, 1) := by decide +kernel
theorem dX12_lineLine_5 : decode cX12_lineLine 5 = .ok (.invokevirtual 172, 3) := by decide +kernel
theorem dX12_lineLine_8 : decode cX12_lineLine 8 = .ok (.ifCond .eq 35, 3) := by decide +kernel
theorem dX12_lineLine_11 : decode cX12_lineLine 11 = .ok (.aload_n 0, 1) := by decide +kernel
theorem dX12_lineLine_12 : decode cX12_lineLine 12 = .ok (.iconst 1, 1) := by decide +kernel
theorem dX12_lineLine_13 : decode cX12_lineLine 13 = .ok (.iconst 0, 1) := by decide +kernel
theorem dX12_lineLine_14 : decode cX12_lineLine 14 = .ok (.iconst 5, 1) := by decide +kernel
theorem dX12_lineLine_15 : decode cX12_lineLine 15 = .ok (.invokevirtual 162, 3) := by decide +kernel
theorem dX12_lineLine_18 : decode cX12_lineLine 18 = .ok (.ifCond .eq 25, 3) := by decide +kernel
theorem dX12_lineLine_21 : decode cX12_lineLine 21 = .ok (.aload_n 0, 1) := by decide +kernel
theorem dX12_lineLine_22 : decode cX12_lineLine 22 = .ok (.iconst 2, 1) := by decide +kernel
theorem dX12_lineLine_23 : decode cX12_lineLine 23 = .ok (.iconst 0, 1) := by decide +kernel
theorem dX12_lineLine_24 : decode cX12_lineLine 24 = .ok (.bipush 9, 2) := by decide +kernel
theorem dX12_lineLine_26 : decode cX12_lineLine 26 = .ok (.invokevirtual 162, 3) := by decide +kernel
theorem dX12_lineLine_29 : decode cX12_lineLine 29 = .ok (.ifCond .eq 14, 3) := by decide +kernel
theorem dX12_lineLine_32 : decode cX12_lineLine 32 = .ok (.aload_n 0, 1) := by decide +kernel
theorem dX12_lineLine_33 : decode cX12_lineLine 33 = .ok (.iconst 3, 1) := by decide +kernel
theorem dX12_lineLine_34 : decode cX12_lineLine 34 = .ok (.iconst 0, 1) := by decide +kernel
theorem dX12_lineLine_35 : decode cX12_lineLine 35 = .ok (.bipush 9, 2) := by decide +kernel
theorem dX12_lineLine_37 : decode cX12_lineLine 37 = .ok (.invokevirtual 162, 3) := by decide +kernel
theorem dX12_lineLine_40 : decode cX12_lineLine 40 = .ok (.ifCond .ne 5, 3) := by decide +kernel
theorem dX12_lineLine_43 : decode cX12_lineLine 43 = .ok (.iconst 0, 1) := by decide +kernel
theorem dX12_lineLine_44 : decode cX12_lineLine 44 = .ok (.ireturn, 1) := by decide +kernel
theorem dX12_lineLine_45 : decode cX12_lineLine 45 = .ok (.aload_n 0, 1) := by decide +kernel
theorem dX12_lineLine_46 : decode cX12_lineLine 46 = .ok (.getfield 38, 3) := by decide +kernel
theorem dX12_lineLine_49 : decode cX12_lineLine 49 = .ok (.iconst 0, 1) := by decide +kernel
theorem dX12_lineLine_50 : decode cX12_lineLine 50 = .ok (.iaload, 1) := by decide +kernel
theorem dX12_lineLine_51 : decode cX12_lineLine 51 = .ok (.istore_n 1, 1) := by decide +kernel
theorem dX12_lineLine_52 : decode cX12_lineLine 52 = .ok (.iload_n 1, 1) := by decide +kernel
theorem dX12_lineLine_53 : decode cX12_lineLine 53 = .ok (.bipush 20, 2) := by decide +kernel
theorem dX12_lineLine_55 : decode cX12_lineLine 55 = .ok (.if_icmp .ge 45, 3) := by decide +kernel
theorem dX12_lineLine_58 : decode cX12_lineLine 58 = .ok (.iconst 0, 1) := by decide +kernel
theorem dX12_lineLine_59 : decode cX12_lineLine 59 = .ok (.istore_n 2, 1) := by decide +kernel
theorem dX12_lineLine_60 : decode cX12_lineLine 60 = .ok (.iload_n 2, 1) := by decide +kernel
theorem dX12_lineLine_61 : decode cX12_lineLine 61 = .ok (.iconst 4, 1) := by decide +kernel
theorem dX12_lineLine_62 : decode cX12_lineLine 62 = .ok (.if_icmp .ge 28, 3) := by decide +kernel
theorem dX12_lineLine_65 : decode cX12_lineLine 65 = .ok (.aload_n 0, 1) := by decide +kernel
theorem dX12_lineLine_66 : decode cX12_lineLine 66 = .ok (.getfield 38, 3) := by decide +kernel
theorem dX12_lineLine_69 : decode cX12_lineLine 69 = .ok (.iconst 4, 1) := by decide +kernel
theorem dX12_lineLine_70 : decode cX12_lineLine 70 = .ok (.bipush 20, 2) := by decide +kernel
theorem dX12_lineLine_72 : decode cX12_lineLine 72 = .ok (.iload_n 2, 1) := by decide +kernel
theorem dX12_lineLine_73 : decode cX12_lineLine 73 = .ok (.imul, 1) := by decide +kernel
theorem dX12_lineLine_74 : decode cX12_lineLine 74 = .ok (.iadd, 1) := by decide +kernel
theorem dX12_lineLine_75 : decode cX12_lineLine 75 = .ok (.iload_n 1, 1) := by decide +kernel
theorem dX12_lineLine_76 : decode cX12_lineLine 76 = .ok (.iadd, 1) := by decide +kernel
theorem dX12_lineLine_77 : decode cX12_lineLine 77 = .ok (.aload_n 0, 1) := by decide +kernel
theorem dX12_lineLine_78 : decode cX12_lineLine 78 = .ok (.getfield 41, 3) := by decide +kernel
theorem dX12_lineLine_81 : decode cX12_lineLine 81 = .ok (.iload_n 2, 1) := by decide +kernel
theorem dX12_lineLine_82 : decode cX12_lineLine 82 = .ok (.iaload, 1) := by decide +kernel
theorem dX12_lineLine_83 : decode cX12_lineLine 83 = .ok (.iastore, 1) := by decide +kernel
theorem dX12_lineLine_84 : decode cX12_lineLine 84 = .ok (.iinc 2 1, 3) := by decide +kernel
theorem dX12_lineLine_87 : decode cX12_lineLine 87 = .ok (.goto (-27), 3) := by decide +kernel
theorem dX12_lineLine_90 : decode cX12_lineLine 90 = .ok (.aload_n 0, 1) := by decide +kernel
theorem dX12_lineLine_91 : decode cX12_lineLine 91 = .ok (.getfield 38, 3) := by decide +kernel
theorem dX12_lineLine_94 : decode cX12_lineLine 94 = .ok (.iconst 0, 1) := by decide +kernel
theorem dX12_lineLine_95 : decode cX12_lineLine 95 = .ok (.dup2, 1) := by decide +kernel
theorem dX12_lineLine_96 : decode cX12_lineLine 96 = .ok (.iaload, 1) := by decide +kernel
theorem dX12_lineLine_97 : decode cX12_lineLine 97 = .ok (.iconst 1, 1) := by decide +kernel
theorem dX12_lineLine_98 : decode cX12_lineLine 98 = .ok (.iadd, 1) := by decide +kernel
theorem dX12_lineLine_99 : decode cX12_lineLine 99 = .ok (.iastore, 1) := by decide +kernel
theorem dX12_lineLine_100 : decode cX12_lineLine 100 = .ok (.iconst 1, 1) := by decide +kernel
theorem dX12_lineLine_101 : decode cX12_lineLine 101 = .ok (.ireturn, 1) := by decide +kernel
theorem dX12_backLine_0 : decode cX12_backLine 0 = .ok (.aload_n 0, 1) := by decide +kernel
theorem dX12_backLine_1 : decode cX12_backLine 1 = .ok (.iconst 0, 1) := by decide +kernel
theorem dX12_backLine_2 : decode cX12_backLine 2 = .ok (.bipush 19, 2) := by decide +kernel
theorem dX12_backLine_4 : decode cX12_backLine 4 = .ok (.iconst 0, 1) := by decide +kernel
theorem dX12_backLine_5 : decode cX12_backLine 5 = .ok (.invokevirtual 172, 3) := by decide +kernel
theorem dX12_backLine_8 : decode cX12_backLine 8 = .ok (.ifCond .eq 14, 3) := by decide +kernel
theorem dX12_backLine_11 : decode cX12_backLine 11 = .ok (.aload_n 0, 1) := by decide +kernel
theorem dX12_backLine_12 : decode cX12_backLine 12 = .ok (.iconst 1, 1) := by decide +kernel
theorem dX12_backLine_13 : decode cX12_backLine 13 = .ok (.bipush 19, 2) := by decide +kernel
theorem dX12_backLine_15 : decode cX12_backLine 15 = .ok (.iconst 0, 1) := by decide +kernel
theorem dX12_backLine_16 : decode cX12_backLine 16 = .ok (.invokevirtual 172, 3) := by decide +kernel
theorem dX12_backLine_19 : decode cX12_backLine 19 = .ok (.ifCond .ne 5, 3) := by decide +kernel
theorem dX12_backLine_22 : decode cX12_backLine 22 = .ok (.iconst 0, 1) := by decide +kernel
theorem dX12_backLine_23 : decode cX12_backLine 23 = .ok (.ireturn, 1) := by decide +kernel
theorem dX12_backLine_24 : decode cX12_backLine 24 = .ok (.aload_n 0, 1) := by decide +kernel
theorem dX12_backLine_25 : decode cX12_backLine 25 = .ok (.getfield 38, 3) := by decide +kernel
theorem dX12_backLine_28 : decode cX12_backLine 28 = .ok (.iconst 1, 1) := by decide +kernel
theorem dX12_backLine_29 : decode cX12_backLine 29 = .ok (.iaload, 1) := by decide +kernel
theorem dX12_backLine_30 : decode cX12_backLine 30 = .ok (.istore_n 1, 1) := by decide +kernel
theorem dX12_backLine_31 : decode cX12_backLine 31 = .ok (.iload_n 1, 1) := by decide +kernel
theorem dX12_backLine_32 : decode cX12_backLine 32 = .ok (.bipush 8, 2) := by decide +kernel
theorem dX12_backLine_34 : decode cX12_backLine 34 = .ok (.if_icmp .ge 43, 3) := by decide +kernel
theorem dX12_backLine_37 : decode cX12_backLine 37 = .ok (.aload_n 0, 1) := by decide +kernel
theorem dX12_backLine_38 : decode cX12_backLine 38 = .ok (.getfield 38, 3) := by decide +kernel
theorem dX12_backLine_41 : decode cX12_backLine 41 = .ok (.bipush 84, 2) := by decide +kernel
theorem dX12_backLine_43 : decode cX12_backLine 43 = .ok (.iload_n 1, 1) := by decide +kernel
theorem dX12_backLine_44 : decode cX12_backLine 44 = .ok (.iadd, 1) := by decide +kernel
theorem dX12_backLine_45 : decode cX12_backLine 45 = .ok (.aload_n 0, 1) := by decide +kernel
theorem dX12_backLine_46 : decode cX12_backLine 46 = .ok (.getfield 41, 3) := by decide +kernel
theorem dX12_backLine_49 : decode cX12_backLine 49 = .ok (.iconst 0, 1) := by decide +kernel
theorem dX12_backLine_50 : decode cX12_backLine 50 = .ok (.iaload, 1) := by decide +kernel
theorem dX12_backLine_51 : decode cX12_backLine 51 = .ok (.iastore, 1) := by decide +kernel
theorem dX12_backLine_52 : decode cX12_backLine 52 = .ok (.aload_n 0, 1) := by decide +kernel
theorem dX12_backLine_53 : decode cX12_backLine 53 = .ok (.getfield 38, 3) := by decide +kernel
theorem dX12_backLine_56 : decode cX12_backLine 56 = .ok (.bipush 92, 2) := by decide +kernel
theorem dX12_backLine_58 : decode cX12_backLine 58 = .ok (.iload_n 1, 1) := by decide +kernel
theorem dX12_backLine_59 : decode cX12_backLine 59 = .ok (.iadd, 1) := by decide +kernel
theorem dX12_backLine_60 : decode cX12_backLine 60 = .ok (.aload_n 0, 1) := by decide +kernel
theorem dX12_backLine_61 : decode cX12_backLine 61 = .ok (.getfield 41, 3) := by decide +kernel
theorem dX12_backLine_64 : decode cX12_backLine 64 = .ok (.iconst 1, 1) := by decide +kernel
theorem dX12_backLine_65 : decode cX12_backLine 65 = .ok (.iaload, 1) := by decide +kernel
theorem dX12_backLine_66 : decode cX12_backLine 66 = .ok (.iastore, 1) := by decide +kernel
theorem dX12_backLine_67 : decode cX12_backLine 67 = .ok (.aload_n 0, 1) := by decide +kernel
theorem dX12_backLine_68 : decode cX12_backLine 68 = .ok (.getfield 38, 3) := by decide +kernel
theorem dX12_backLine_71 : decode cX12_backLine 71 = .ok (.iconst 1, 1) := by decide +kernel
theorem dX12_backLine_72 : decode cX12_backLine 72 = .ok (.dup2, 1) := by decide +kernel
theorem dX12_backLine_73 : decode cX12_backLine 73 = .ok (.iaload, 1) := by decide +kernel
theorem dX12_backLine_74 : decode cX12_backLine 74 = .ok (.iconst 1, 1) := by decide +kernel
theorem dX12_backLine_75 : decode cX12_backLine 75 = .ok (.iadd, 1) := by decide +kernel
theorem dX12_backLine_76 : decode cX12_backLine 76 = .ok (.iastore, 1) := by decide +kernel
theorem dX12_backLine_77 : decode cX12_backLine 77 = .ok (.iconst 1, 1) := by decide +kernel
theorem dX12_backLine_78 : decode cX12_backLine 78 = .ok (.ireturn, 1) := by decide +kernel
theorem dX12_ownLine_0 : decode cX12_ownLine 0 = .ok (.lload_n 1, 1) := by decide +kernel
theorem dX12_ownLine_1 : decode cX12_ownLine 1 = .ok (.ldc2_w 175, 3) := by decide +kernel
theorem dX12_ownLine_4 : decode cX12_ownLine 4 = .ok (.lcmp, 1) := by decide +kernel
theorem dX12_ownLine_5 : decode cX12_ownLine 5 = .ok (.ifCond .eq 11, 3) := by decide +kernel
theorem dX12_ownLine_8 : decode cX12_ownLine 8 = .ok (.lload_n 1, 1) := by decide +kernel
theorem dX12_ownLine_9 : decode cX12_ownLine 9 = .ok (.ldc2_w 177, 3) := by decide +kernel
theorem dX12_ownLine_12 : decode cX12_ownLine 12 = .ok (.lcmp, 1) := by decide +kernel
theorem dX12_ownLine_13 : decode cX12_ownLine 13 = .ok (.ifCond .ne 54, 3) := by decide +kernel
theorem dX12_ownLine_16 : decode cX12_ownLine 16 = .ok (.aload_n 0, 1) := by decide +kernel
theorem dX12_ownLine_17 : decode cX12_ownLine 17 = .ok (.iconst 0, 1) := by decide +kernel
theorem dX12_ownLine_18 : decode cX12_ownLine 18 = .ok (.lload_n 1, 1) := by decide +kernel
theorem dX12_ownLine_19 : decode cX12_ownLine 19 = .ok (.ldc2_w 175, 3) := by decide +kernel
theorem dX12_ownLine_22 : decode cX12_ownLine 22 = .ok (.lcmp, 1) := by decide +kernel
theorem dX12_ownLine_23 : decode cX12_ownLine 23 = .ok (.ifCond .ne 7, 3) := by decide +kernel
theorem dX12_ownLine_26 : decode cX12_ownLine 26 = .ok (.iconst 0, 1) := by decide +kernel
theorem dX12_ownLine_27 : decode cX12_ownLine 27 = .ok (.goto 4, 3) := by decide +kernel
theorem dX12_ownLine_30 : decode cX12_ownLine 30 = .ok (.iconst 1, 1) := by decide +kernel
theorem dX12_ownLine_31 : decode cX12_ownLine 31 = .ok (.bipush 9, 2) := by decide +kernel
theorem dX12_ownLine_33 : decode cX12_ownLine 33 = .ok (.invokevirtual 162, 3) := by decide +kernel
theorem dX12_ownLine_36 : decode cX12_ownLine 36 = .ok (.ifCond .ne 5, 3) := by decide +kernel
theorem dX12_ownLine_39 : decode cX12_ownLine 39 = .ok (.iconst 0, 1) := by decide +kernel
theorem dX12_ownLine_40 : decode cX12_ownLine 40 = .ok (.ireturn, 1) := by decide +kernel
theorem dX12_ownLine_41 : decode cX12_ownLine 41 = .ok (.aload_n 0, 1) := by decide +kernel
theorem dX12_ownLine_42 : decode cX12_ownLine 42 = .ok (.getfield 38, 3) := by decide +kernel
theorem dX12_ownLine_45 : decode cX12_ownLine 45 = .ok (.lload_n 1, 1) := by decide +kernel
theorem dX12_ownLine_46 : decode cX12_ownLine 46 = .ok (.ldc2_w 175, 3) := by decide +kernel
theorem dX12_ownLine_49 : decode cX12_ownLine 49 = .ok (.lcmp, 1) := by decide +kernel
theorem dX12_ownLine_50 : decode cX12_ownLine 50 = .ok (.ifCond .ne 7, 3) := by decide +kernel
theorem dX12_ownLine_53 : decode cX12_ownLine 53 = .ok (.iconst 2, 1) := by decide +kernel
theorem dX12_ownLine_54 : decode cX12_ownLine 54 = .ok (.goto 4, 3) := by decide +kernel
theorem dX12_ownLine_57 : decode cX12_ownLine 57 = .ok (.iconst 3, 1) := by decide +kernel
theorem dX12_ownLine_58 : decode cX12_ownLine 58 = .ok (.aload_n 0, 1) := by decide +kernel
theorem dX12_ownLine_59 : decode cX12_ownLine 59 = .ok (.getfield 41, 3) := by decide +kernel
theorem dX12_ownLine_62 : decode cX12_ownLine 62 = .ok (.iconst 0, 1) := by decide +kernel
theorem dX12_ownLine_63 : decode cX12_ownLine 63 = .ok (.iaload, 1) := by decide +kernel
theorem dX12_ownLine_64 : decode cX12_ownLine 64 = .ok (.iastore, 1) := by decide +kernel
theorem dX12_ownLine_65 : decode cX12_ownLine 65 = .ok (.iconst 1, 1) := by decide +kernel
theorem dX12_ownLine_66 : decode cX12_ownLine 66 = .ok (.ireturn, 1) := by decide +kernel
theorem dX12_ownLine_67 : decode cX12_ownLine 67 = .ok (.aload_n 0, 1) := by decide +kernel
theorem dX12_ownLine_68 : decode cX12_ownLine 68 = .ok (.iconst 0, 1) := by decide +kernel
theorem dX12_ownLine_69 : decode cX12_ownLine 69 = .ok (.iconst 0, 1) := by decide +kernel
theorem dX12_ownLine_70 : decode cX12_ownLine 70 = .ok (.iconst 5, 1) := by decide +kernel
theorem dX12_ownLine_71 : decode cX12_ownLine 71 = .ok (.invokevirtual 162, 3) := by decide +kernel
theorem dX12_ownLine_74 : decode cX12_ownLine 74 = .ok (.ifCond .eq 22, 3) := by decide +kernel
theorem dX12_ownLine_77 : decode cX12_ownLine 77 = .ok (.lload_n 1, 1) := by decide +kernel
theorem dX12_ownLine_78 : decode cX12_ownLine 78 = .ok (.ldc2_w 179, 3) := by decide +kernel
theorem dX12_ownLine_81 : decode cX12_ownLine 81 = .ok (.lcmp, 1) := by decide +kernel
theorem dX12_ownLine_82 : decode cX12_ownLine 82 = .ok (.ifCond .ne 16, 3) := by decide +kernel
theorem dX12_ownLine_85 : decode cX12_ownLine 85 = .ok (.aload_n 0, 1) := by decide +kernel
theorem dX12_ownLine_86 : decode cX12_ownLine 86 = .ok (.iconst 1, 1) := by decide +kernel
theorem dX12_ownLine_87 : decode cX12_ownLine 87 = .ok (.iconst 0, 1) := by decide +kernel
theorem dX12_ownLine_88 : decode cX12_ownLine 88 = .ok (.bipush 10, 2) := by decide +kernel
theorem dX12_ownLine_90 : decode cX12_ownLine 90 = .ok (.invokevirtual 162, 3) := by decide +kernel
theorem dX12_ownLine_93 : decode cX12_ownLine 93 = .ok (.ifCond .ne 5, 3) := by decide +kernel
theorem dX12_ownLine_96 : decode cX12_ownLine 96 = .ok (.iconst 0, 1) := by decide +kernel
theorem dX12_ownLine_97 : decode cX12_ownLine 97 = .ok (.ireturn, 1) := by decide +kernel
theorem dX12_ownLine_98 : decode cX12_ownLine 98 = .ok (.aload_n 0, 1) := by decide +kernel
theorem dX12_ownLine_99 : decode cX12_ownLine 99 = .ok (.getfield 155, 3) := by decide +kernel
theorem dX12_ownLine_102 : decode cX12_ownLine 102 = .ok (.ifCond .eq 48, 3) := by decide +kernel
theorem dX12_ownLine_105 : decode cX12_ownLine 105 = .ok (.aload_n 0, 1) := by decide +kernel
theorem dX12_ownLine_106 : decode cX12_ownLine 106 = .ok (.getfield 38, 3) := by decide +kernel
theorem dX12_ownLine_109 : decode cX12_ownLine 109 = .ok (.lload_n 1, 1) := by decide +kernel
theorem dX12_ownLine_110 : decode cX12_ownLine 110 = .ok (.ldc2_w 179, 3) := by decide +kernel
theorem dX12_ownLine_113 : decode cX12_ownLine 113 = .ok (.lcmp, 1) := by decide +kernel
theorem dX12_ownLine_114 : decode cX12_ownLine 114 = .ok (.ifCond .ne 8, 3) := by decide +kernel
theorem dX12_ownLine_117 : decode cX12_ownLine 117 = .ok (.bipush 100, 2) := by decide +kernel
theorem dX12_ownLine_119 : decode cX12_ownLine 119 = .ok (.goto 5, 3) := by decide +kernel
theorem dX12_ownLine_122 : decode cX12_ownLine 122 = .ok (.bipush 106, 2) := by decide +kernel
theorem dX12_ownLine_124 : decode cX12_ownLine 124 = .ok (.aload_n 0, 1) := by decide +kernel
theorem dX12_ownLine_125 : decode cX12_ownLine 125 = .ok (.getfield 41, 3) := by decide +kernel
theorem dX12_ownLine_128 : decode cX12_ownLine 128 = .ok (.iconst 0, 1) := by decide +kernel
theorem dX12_ownLine_129 : decode cX12_ownLine 129 = .ok (.iaload, 1) := by decide +kernel
theorem dX12_ownLine_130 : decode cX12_ownLine 130 = .ok (.iadd, 1) := by decide +kernel
theorem dX12_ownLine_131 : decode cX12_ownLine 131 = .ok (.lload_n 1, 1) := by decide +kernel
theorem dX12_ownLine_132 : decode cX12_ownLine 132 = .ok (.ldc2_w 179, 3) := by decide +kernel
theorem dX12_ownLine_135 : decode cX12_ownLine 135 = .ok (.lcmp, 1) := by decide +kernel
theorem dX12_ownLine_136 : decode cX12_ownLine 136 = .ok (.ifCond .ne 12, 3) := by decide +kernel
theorem dX12_ownLine_139 : decode cX12_ownLine 139 = .ok (.aload_n 0, 1) := by decide +kernel
theorem dX12_ownLine_140 : decode cX12_ownLine 140 = .ok (.getfield 41, 3) := by decide +kernel
theorem dX12_ownLine_143 : decode cX12_ownLine 143 = .ok (.iconst 1, 1) := by decide +kernel
theorem dX12_ownLine_144 : decode cX12_ownLine 144 = .ok (.iaload, 1) := by decide +kernel
theorem dX12_ownLine_145 : decode cX12_ownLine 145 = .ok (.goto 4, 3) := by decide +kernel
theorem dX12_ownLine_148 : decode cX12_ownLine 148 = .ok (.iconst 1, 1) := by decide +kernel
theorem dX12_ownLine_149 : decode cX12_ownLine 149 = .ok (.iastore, 1) := by decide +kernel
theorem dX12_ownLine_150 : decode cX12_ownLine 150 = .ok (.iconst 1, 1) := by decide +kernel
theorem dX12_ownLine_151 : decode cX12_ownLine 151 = .ok (.ireturn, 1) := by decide +kernel
theorem dX12_bookLine_0 : decode cX12_bookLine 0 = .ok (.lload_n 1, 1) := by decide +kernel
theorem dX12_bookLine_1 : decode cX12_bookLine 1 = .ok (.ldc2_w 181, 3) := by decide +kernel
theorem dX12_bookLine_4 : decode cX12_bookLine 4 = .ok (.lcmp, 1) := by decide +kernel
theorem dX12_bookLine_5 : decode cX12_bookLine 5 = .ok (.ifCond .eq 48, 3) := by decide +kernel
theorem dX12_bookLine_8 : decode cX12_bookLine 8 = .ok (.lload_n 1, 1) := by decide +kernel
theorem dX12_bookLine_9 : decode cX12_bookLine 9 = .ok (.ldc2_w 179, 3) := by decide +kernel
theorem dX12_bookLine_12 : decode cX12_bookLine 12 = .ok (.lcmp, 1) := by decide +kernel
theorem dX12_bookLine_13 : decode cX12_bookLine 13 = .ok (.ifCond .eq 40, 3) := by decide +kernel
theorem dX12_bookLine_16 : decode cX12_bookLine 16 = .ok (.lload_n 1, 1) := by decide +kernel
theorem dX12_bookLine_17 : decode cX12_bookLine 17 = .ok (.ldc2_w 183, 3) := by decide +kernel
theorem dX12_bookLine_20 : decode cX12_bookLine 20 = .ok (.lcmp, 1) := by decide +kernel
theorem dX12_bookLine_21 : decode cX12_bookLine 21 = .ok (.ifCond .eq 32, 3) := by decide +kernel
theorem dX12_bookLine_24 : decode cX12_bookLine 24 = .ok (.lload_n 1, 1) := by decide +kernel
theorem dX12_bookLine_25 : decode cX12_bookLine 25 = .ok (.ldc2_w 185, 3) := by decide +kernel
theorem dX12_bookLine_28 : decode cX12_bookLine 28 = .ok (.lcmp, 1) := by decide +kernel
theorem dX12_bookLine_29 : decode cX12_bookLine 29 = .ok (.ifCond .eq 24, 3) := by decide +kernel
theorem dX12_bookLine_32 : decode cX12_bookLine 32 = .ok (.lload_n 1, 1) := by decide +kernel
theorem dX12_bookLine_33 : decode cX12_bookLine 33 = .ok (.ldc2_w 175, 3) := by decide +kernel
theorem dX12_bookLine_36 : decode cX12_bookLine 36 = .ok (.lcmp, 1) := by decide +kernel
theorem dX12_bookLine_37 : decode cX12_bookLine 37 = .ok (.ifCond .eq 16, 3) := by decide +kernel
theorem dX12_bookLine_40 : decode cX12_bookLine 40 = .ok (.lload_n 1, 1) := by decide +kernel
theorem dX12_bookLine_41 : decode cX12_bookLine 41 = .ok (.ldc2_w 177, 3) := by decide +kernel
theorem dX12_bookLine_44 : decode cX12_bookLine 44 = .ok (.lcmp, 1) := by decide +kernel
theorem dX12_bookLine_45 : decode cX12_bookLine 45 = .ok (.ifCond .eq 8, 3) := by decide +kernel
theorem dX12_bookLine_48 : decode cX12_bookLine 48 = .ok (.aload_n 0, 1) := by decide +kernel
theorem dX12_bookLine_49 : decode cX12_bookLine 49 = .ok (.invokevirtual 147, 3) := by decide +kernel
theorem dX12_bookLine_52 : decode cX12_bookLine 52 = .ok (.ireturn, 1) := by decide +kernel
theorem dX12_bookLine_53 : decode cX12_bookLine 53 = .ok (.lload_n 1, 1) := by decide +kernel
theorem dX12_bookLine_54 : decode cX12_bookLine 54 = .ok (.ldc2_w 181, 3) := by decide +kernel
theorem dX12_bookLine_57 : decode cX12_bookLine 57 = .ok (.lcmp, 1) := by decide +kernel
theorem dX12_bookLine_58 : decode cX12_bookLine 58 = .ok (.ifCond .eq 11, 3) := by decide +kernel
theorem dX12_bookLine_61 : decode cX12_bookLine 61 = .ok (.lload_n 1, 1) := by decide +kernel
theorem dX12_bookLine_62 : decode cX12_bookLine 62 = .ok (.ldc2_w 183, 3) := by decide +kernel
theorem dX12_bookLine_65 : decode cX12_bookLine 65 = .ok (.lcmp, 1) := by decide +kernel
theorem dX12_bookLine_66 : decode cX12_bookLine 66 = .ok (.ifCond .ne 36, 3) := by decide +kernel
theorem dX12_bookLine_69 : decode cX12_bookLine 69 = .ok (.aload_n 0, 1) := by decide +kernel
theorem dX12_bookLine_70 : decode cX12_bookLine 70 = .ok (.lload_n 1, 1) := by decide +kernel
theorem dX12_bookLine_71 : decode cX12_bookLine 71 = .ok (.ldc2_w 181, 3) := by decide +kernel
theorem dX12_bookLine_74 : decode cX12_bookLine 74 = .ok (.lcmp, 1) := by decide +kernel
theorem dX12_bookLine_75 : decode cX12_bookLine 75 = .ok (.ifCond .ne 7, 3) := by decide +kernel
theorem dX12_bookLine_78 : decode cX12_bookLine 78 = .ok (.iconst 0, 1) := by decide +kernel
theorem dX12_bookLine_79 : decode cX12_bookLine 79 = .ok (.goto 4, 3) := by decide +kernel
theorem dX12_bookLine_82 : decode cX12_bookLine 82 = .ok (.iconst 1, 1) := by decide +kernel
theorem dX12_bookLine_83 : decode cX12_bookLine 83 = .ok (.lload_n 1, 1) := by decide +kernel
theorem dX12_bookLine_84 : decode cX12_bookLine 84 = .ok (.ldc2_w 181, 3) := by decide +kernel
theorem dX12_bookLine_87 : decode cX12_bookLine 87 = .ok (.lcmp, 1) := by decide +kernel
theorem dX12_bookLine_88 : decode cX12_bookLine 88 = .ok (.ifCond .ne 8, 3) := by decide +kernel
theorem dX12_bookLine_91 : decode cX12_bookLine 91 = .ok (.bipush 20, 2) := by decide +kernel
theorem dX12_bookLine_93 : decode cX12_bookLine 93 = .ok (.goto 5, 3) := by decide +kernel
theorem dX12_bookLine_96 : decode cX12_bookLine 96 = .ok (.bipush 8, 2) := by decide +kernel
theorem dX12_bookLine_98 : decode cX12_bookLine 98 = .ok (.iload_n 3, 1) := by decide +kernel
theorem dX12_bookLine_99 : decode cX12_bookLine 99 = .ok (.invokevirtual 187, 3) := by decide +kernel
theorem dX12_bookLine_102 : decode cX12_bookLine 102 = .ok (.aload_n 0, 1) := by decide +kernel
theorem dX12_bookLine_103 : decode cX12_bookLine 103 = .ok (.invokevirtual 159, 3) := by decide +kernel
theorem dX12_bookLine_106 : decode cX12_bookLine 106 = .ok (.lload_n 1, 1) := by decide +kernel
theorem dX12_bookLine_107 : decode cX12_bookLine 107 = .ok (.ldc2_w 181, 3) := by decide +kernel
theorem dX12_bookLine_110 : decode cX12_bookLine 110 = .ok (.lcmp, 1) := by decide +kernel
theorem dX12_bookLine_111 : decode cX12_bookLine 111 = .ok (.ifCond .ne 10, 3) := by decide +kernel
theorem dX12_bookLine_114 : decode cX12_bookLine 114 = .ok (.aload_n 0, 1) := by decide +kernel
theorem dX12_bookLine_115 : decode cX12_bookLine 115 = .ok (.invokevirtual 191, 3) := by decide +kernel
theorem dX12_bookLine_118 : decode cX12_bookLine 118 = .ok (.goto 23, 3) := by decide +kernel
theorem dX12_bookLine_121 : decode cX12_bookLine 121 = .ok (.lload_n 1, 1) := by decide +kernel
theorem dX12_bookLine_122 : decode cX12_bookLine 122 = .ok (.ldc2_w 183, 3) := by decide +kernel
theorem dX12_bookLine_125 : decode cX12_bookLine 125 = .ok (.lcmp, 1) := by decide +kernel
theorem dX12_bookLine_126 : decode cX12_bookLine 126 = .ok (.ifCond .ne 10, 3) := by decide +kernel
theorem dX12_bookLine_129 : decode cX12_bookLine 129 = .ok (.aload_n 0, 1) := by decide +kernel
theorem dX12_bookLine_130 : decode cX12_bookLine 130 = .ok (.invokevirtual 194, 3) := by decide +kernel
theorem dX12_bookLine_133 : decode cX12_bookLine 133 = .ok (.goto 8, 3) := by decide +kernel
theorem dX12_bookLine_136 : decode cX12_bookLine 136 = .ok (.aload_n 0, 1) := by decide +kernel
theorem dX12_bookLine_137 : decode cX12_bookLine 137 = .ok (.lload_n 1, 1) := by decide +kernel
theorem dX12_bookLine_138 : decode cX12_bookLine 138 = .ok (.invokevirtual 197, 3) := by decide +kernel
theorem dX12_bookLine_141 : decode cX12_bookLine 141 = .ok (.ireturn, 1) := by decide +kernel
theorem dX12_deedBy_0 : decode cX12_deedBy 0 = .ok (.lload_n 0, 1) := by decide +kernel
theorem dX12_deedBy_1 : decode cX12_deedBy 1 = .ok (.ldc2_w 201, 3) := by decide +kernel
theorem dX12_deedBy_4 : decode cX12_deedBy 4 = .ok (.lcmp, 1) := by decide +kernel
theorem dX12_deedBy_5 : decode cX12_deedBy 5 = .ok (.ifCond .ne 7, 3) := by decide +kernel
theorem dX12_deedBy_8 : decode cX12_deedBy 8 = .ok (.iconst 0, 1) := by decide +kernel
theorem dX12_deedBy_9 : decode cX12_deedBy 9 = .ok (.goto 77, 3) := by decide +kernel
theorem dX12_deedBy_12 : decode cX12_deedBy 12 = .ok (.lload_n 0, 1) := by decide +kernel
theorem dX12_deedBy_13 : decode cX12_deedBy 13 = .ok (.ldc2_w 203, 3) := by decide +kernel
theorem dX12_deedBy_16 : decode cX12_deedBy 16 = .ok (.lcmp, 1) := by decide +kernel
theorem dX12_deedBy_17 : decode cX12_deedBy 17 = .ok (.ifCond .ne 7, 3) := by decide +kernel
theorem dX12_deedBy_20 : decode cX12_deedBy 20 = .ok (.iconst 1, 1) := by decide +kernel
theorem dX12_deedBy_21 : decode cX12_deedBy 21 = .ok (.goto 65, 3) := by decide +kernel
theorem dX12_deedBy_24 : decode cX12_deedBy 24 = .ok (.lload_n 0, 1) := by decide +kernel
theorem dX12_deedBy_25 : decode cX12_deedBy 25 = .ok (.ldc2_w 205, 3) := by decide +kernel
theorem dX12_deedBy_28 : decode cX12_deedBy 28 = .ok (.lcmp, 1) := by decide +kernel
theorem dX12_deedBy_29 : decode cX12_deedBy 29 = .ok (.ifCond .ne 7, 3) := by decide +kernel
theorem dX12_deedBy_32 : decode cX12_deedBy 32 = .ok (.iconst 2, 1) := by decide +kernel
theorem dX12_deedBy_33 : decode cX12_deedBy 33 = .ok (.goto 53, 3) := by decide +kernel
theorem dX12_deedBy_36 : decode cX12_deedBy 36 = .ok (.lload_n 0, 1) := by decide +kernel
theorem dX12_deedBy_37 : decode cX12_deedBy 37 = .ok (.ldc2_w 179, 3) := by decide +kernel
theorem dX12_deedBy_40 : decode cX12_deedBy 40 = .ok (.lcmp, 1) := by decide +kernel
theorem dX12_deedBy_41 : decode cX12_deedBy 41 = .ok (.ifCond .ne 7, 3) := by decide +kernel
theorem dX12_deedBy_44 : decode cX12_deedBy 44 = .ok (.iconst 3, 1) := by decide +kernel
theorem dX12_deedBy_45 : decode cX12_deedBy 45 = .ok (.goto 41, 3) := by decide +kernel
theorem dX12_deedBy_48 : decode cX12_deedBy 48 = .ok (.lload_n 0, 1) := by decide +kernel
theorem dX12_deedBy_49 : decode cX12_deedBy 49 = .ok (.ldc2_w 207, 3) := by decide +kernel
theorem dX12_deedBy_52 : decode cX12_deedBy 52 = .ok (.lcmp, 1) := by decide +kernel
theorem dX12_deedBy_53 : decode cX12_deedBy 53 = .ok (.ifCond .ne 7, 3) := by decide +kernel
theorem dX12_deedBy_56 : decode cX12_deedBy 56 = .ok (.iconst 4, 1) := by decide +kernel
theorem dX12_deedBy_57 : decode cX12_deedBy 57 = .ok (.goto 29, 3) := by decide +kernel
theorem dX12_deedBy_60 : decode cX12_deedBy 60 = .ok (.lload_n 0, 1) := by decide +kernel
theorem dX12_deedBy_61 : decode cX12_deedBy 61 = .ok (.ldc2_w 209, 3) := by decide +kernel
theorem dX12_deedBy_64 : decode cX12_deedBy 64 = .ok (.lcmp, 1) := by decide +kernel
theorem dX12_deedBy_65 : decode cX12_deedBy 65 = .ok (.ifCond .ne 7, 3) := by decide +kernel
theorem dX12_deedBy_68 : decode cX12_deedBy 68 = .ok (.iconst 5, 1) := by decide +kernel
theorem dX12_deedBy_69 : decode cX12_deedBy 69 = .ok (.goto 17, 3) := by decide +kernel
theorem dX12_deedBy_72 : decode cX12_deedBy 72 = .ok (.lload_n 0, 1) := by decide +kernel
theorem dX12_deedBy_73 : decode cX12_deedBy 73 = .ok (.ldc2_w 211, 3) := by decide +kernel
theorem dX12_deedBy_76 : decode cX12_deedBy 76 = .ok (.lcmp, 1) := by decide +kernel
theorem dX12_deedBy_77 : decode cX12_deedBy 77 = .ok (.ifCond .ne 8, 3) := by decide +kernel
theorem dX12_deedBy_80 : decode cX12_deedBy 80 = .ok (.bipush 6, 2) := by decide +kernel
theorem dX12_deedBy_82 : decode cX12_deedBy 82 = .ok (.goto 4, 3) := by decide +kernel
theorem dX12_deedBy_85 : decode cX12_deedBy 85 = .ok (.iconst (-1), 1) := by decide +kernel
theorem dX12_deedBy_86 : decode cX12_deedBy 86 = .ok (.ireturn, 1) := by decide +kernel
theorem dX12_keep_0 : decode cX12_keep 0 = .ok (.aload_n 0, 1) := by decide +kernel
theorem dX12_keep_1 : decode cX12_keep 1 = .ok (.getfield 38, 3) := by decide +kernel
theorem dX12_keep_4 : decode cX12_keep 4 = .ok (.iconst 0, 1) := by decide +kernel
theorem dX12_keep_5 : decode cX12_keep 5 = .ok (.iaload, 1) := by decide +kernel
theorem dX12_keep_6 : decode cX12_keep 6 = .ok (.istore_n 3, 1) := by decide +kernel
theorem dX12_keep_7 : decode cX12_keep 7 = .ok (.iload_n 3, 1) := by decide +kernel
theorem dX12_keep_8 : decode cX12_keep 8 = .ok (.iload_n 2, 1) := by decide +kernel
theorem dX12_keep_9 : decode cX12_keep 9 = .ok (.if_icmp .ne 4, 3) := by decide +kernel
theorem dX12_keep_12 : decode cX12_keep 12 = .ok (.return_, 1) := by decide +kernel
theorem dX12_keep_13 : decode cX12_keep 13 = .ok (.iconst 0, 1) := by decide +kernel
theorem dX12_keep_14 : decode cX12_keep 14 = .ok (.istore 4, 2) := by decide +kernel
theorem dX12_keep_16 : decode cX12_keep 16 = .ok (.iload 4, 2) := by decide +kernel
theorem dX12_keep_18 : decode cX12_keep 18 = .ok (.iload_n 1, 1) := by decide +kernel
theorem dX12_keep_19 : decode cX12_keep 19 = .ok (.if_icmp .ge 29, 3) := by decide +kernel
theorem dX12_keep_22 : decode cX12_keep 22 = .ok (.aload_n 0, 1) := by decide +kernel
theorem dX12_keep_23 : decode cX12_keep 23 = .ok (.getfield 38, 3) := by decide +kernel
theorem dX12_keep_26 : decode cX12_keep 26 = .ok (.iconst 1, 1) := by decide +kernel
theorem dX12_keep_27 : decode cX12_keep 27 = .ok (.iload_n 1, 1) := by decide +kernel
theorem dX12_keep_28 : decode cX12_keep 28 = .ok (.iload_n 3, 1) := by decide +kernel
theorem dX12_keep_29 : decode cX12_keep 29 = .ok (.imul, 1) := by decide +kernel
theorem dX12_keep_30 : decode cX12_keep 30 = .ok (.iadd, 1) := by decide +kernel
theorem dX12_keep_31 : decode cX12_keep 31 = .ok (.iload 4, 2) := by decide +kernel
theorem dX12_keep_33 : decode cX12_keep 33 = .ok (.iadd, 1) := by decide +kernel
theorem dX12_keep_34 : decode cX12_keep 34 = .ok (.aload_n 0, 1) := by decide +kernel
theorem dX12_keep_35 : decode cX12_keep 35 = .ok (.getfield 41, 3) := by decide +kernel
theorem dX12_keep_38 : decode cX12_keep 38 = .ok (.iload 4, 2) := by decide +kernel
theorem dX12_keep_40 : decode cX12_keep 40 = .ok (.iaload, 1) := by decide +kernel
theorem dX12_keep_41 : decode cX12_keep 41 = .ok (.iastore, 1) := by decide +kernel
theorem dX12_keep_42 : decode cX12_keep 42 = .ok (.iinc 4 1, 3) := by decide +kernel
theorem dX12_keep_45 : decode cX12_keep 45 = .ok (.goto (-29), 3) := by decide +kernel
theorem dX12_keep_48 : decode cX12_keep 48 = .ok (.aload_n 0, 1) := by decide +kernel
theorem dX12_keep_49 : decode cX12_keep 49 = .ok (.getfield 38, 3) := by decide +kernel
theorem dX12_keep_52 : decode cX12_keep 52 = .ok (.iconst 0, 1) := by decide +kernel
theorem dX12_keep_53 : decode cX12_keep 53 = .ok (.dup2, 1) := by decide +kernel
theorem dX12_keep_54 : decode cX12_keep 54 = .ok (.iaload, 1) := by decide +kernel
theorem dX12_keep_55 : decode cX12_keep 55 = .ok (.iconst 1, 1) := by decide +kernel
theorem dX12_keep_56 : decode cX12_keep 56 = .ok (.iadd, 1) := by decide +kernel
theorem dX12_keep_57 : decode cX12_keep 57 = .ok (.iastore, 1) := by decide +kernel
theorem dX12_keep_58 : decode cX12_keep 58 = .ok (.return_, 1) := by decide +kernel
theorem dX12_eveningLine_0 : decode cX12_eveningLine 0 = .ok (.lload_n 1, 1) := by decide +kernel
theorem dX12_eveningLine_1 : decode cX12_eveningLine 1 = .ok (.invokestatic 213, 3) := by decide +kernel
theorem dX12_eveningLine_4 : decode cX12_eveningLine 4 = .ok (.istore 4, 2) := by decide +kernel
theorem dX12_eveningLine_6 : decode cX12_eveningLine 6 = .ok (.iload 4, 2) := by decide +kernel
theorem dX12_eveningLine_8 : decode cX12_eveningLine 8 = .ok (.iconst (-1), 1) := by decide +kernel
theorem dX12_eveningLine_9 : decode cX12_eveningLine 9 = .ok (.if_icmp .ne 8, 3) := by decide +kernel
theorem dX12_eveningLine_12 : decode cX12_eveningLine 12 = .ok (.aload_n 0, 1) := by decide +kernel
theorem dX12_eveningLine_13 : decode cX12_eveningLine 13 = .ok (.invokevirtual 147, 3) := by decide +kernel
theorem dX12_eveningLine_16 : decode cX12_eveningLine 16 = .ok (.ireturn, 1) := by decide +kernel
theorem dX12_eveningLine_17 : decode cX12_eveningLine 17 = .ok (.aload_n 0, 1) := by decide +kernel
theorem dX12_eveningLine_18 : decode cX12_eveningLine 18 = .ok (.iconst 0, 1) := by decide +kernel
theorem dX12_eveningLine_19 : decode cX12_eveningLine 19 = .ok (.bipush 40, 2) := by decide +kernel
theorem dX12_eveningLine_21 : decode cX12_eveningLine 21 = .ok (.iload_n 3, 1) := by decide +kernel
theorem dX12_eveningLine_22 : decode cX12_eveningLine 22 = .ok (.invokevirtual 187, 3) := by decide +kernel
theorem dX12_eveningLine_25 : decode cX12_eveningLine 25 = .ok (.aload_n 0, 1) := by decide +kernel
theorem dX12_eveningLine_26 : decode cX12_eveningLine 26 = .ok (.invokevirtual 159, 3) := by decide +kernel
theorem dX12_eveningLine_29 : decode cX12_eveningLine 29 = .ok (.aload_n 0, 1) := by decide +kernel
theorem dX12_eveningLine_30 : decode cX12_eveningLine 30 = .ok (.getfield 41, 3) := by decide +kernel
theorem dX12_eveningLine_33 : decode cX12_eveningLine 33 = .ok (.iconst 1, 1) := by decide +kernel
theorem dX12_eveningLine_34 : decode cX12_eveningLine 34 = .ok (.iconst (-1), 1) := by decide +kernel
theorem dX12_eveningLine_35 : decode cX12_eveningLine 35 = .ok (.iastore, 1) := by decide +kernel
theorem dX12_eveningLine_36 : decode cX12_eveningLine 36 = .ok (.iload 4, 2) := by decide +kernel
theorem dX12_eveningLine_38 : decode cX12_eveningLine 38 = .ok (.iconst 3, 1) := by decide +kernel
theorem dX12_eveningLine_39 : decode cX12_eveningLine 39 = .ok (.if_icmp .ge 25, 3) := by decide +kernel
theorem dX12_eveningLine_42 : decode cX12_eveningLine 42 = .ok (.aload_n 0, 1) := by decide +kernel
theorem dX12_eveningLine_43 : decode cX12_eveningLine 43 = .ok (.iconst 1, 1) := by decide +kernel
theorem dX12_eveningLine_44 : decode cX12_eveningLine 44 = .ok (.iconst 0, 1) := by decide +kernel
theorem dX12_eveningLine_45 : decode cX12_eveningLine 45 = .ok (.iload 4, 2) := by decide +kernel
theorem dX12_eveningLine_47 : decode cX12_eveningLine 47 = .ok (.ifCond .ne 8, 3) := by decide +kernel
theorem dX12_eveningLine_50 : decode cX12_eveningLine 50 = .ok (.bipush 19, 2) := by decide +kernel
theorem dX12_eveningLine_52 : decode cX12_eveningLine 52 = .ok (.goto 4, 3) := by decide +kernel
theorem dX12_eveningLine_55 : decode cX12_eveningLine 55 = .ok (.iconst 5, 1) := by decide +kernel
theorem dX12_eveningLine_56 : decode cX12_eveningLine 56 = .ok (.invokevirtual 162, 3) := by decide +kernel
theorem dX12_eveningLine_59 : decode cX12_eveningLine 59 = .ok (.ifCond .ne 5, 3) := by decide +kernel
theorem dX12_eveningLine_62 : decode cX12_eveningLine 62 = .ok (.iconst 0, 1) := by decide +kernel
theorem dX12_eveningLine_63 : decode cX12_eveningLine 63 = .ok (.ireturn, 1) := by decide +kernel
theorem dX12_eveningLine_64 : decode cX12_eveningLine 64 = .ok (.aload_n 0, 1) := by decide +kernel
theorem dX12_eveningLine_65 : decode cX12_eveningLine 65 = .ok (.getfield 41, 3) := by decide +kernel
theorem dX12_eveningLine_68 : decode cX12_eveningLine 68 = .ok (.iconst 0, 1) := by decide +kernel
theorem dX12_eveningLine_69 : decode cX12_eveningLine 69 = .ok (.iload 4, 2) := by decide +kernel
theorem dX12_eveningLine_71 : decode cX12_eveningLine 71 = .ok (.iastore, 1) := by decide +kernel
theorem dX12_eveningLine_72 : decode cX12_eveningLine 72 = .ok (.aload_n 0, 1) := by decide +kernel
theorem dX12_eveningLine_73 : decode cX12_eveningLine 73 = .ok (.iconst 2, 1) := by decide +kernel
theorem dX12_eveningLine_74 : decode cX12_eveningLine 74 = .ok (.bipush 40, 2) := by decide +kernel
theorem dX12_eveningLine_76 : decode cX12_eveningLine 76 = .ok (.invokevirtual 217, 3) := by decide +kernel
theorem dX12_eveningLine_79 : decode cX12_eveningLine 79 = .ok (.iconst 1, 1) := by decide +kernel
theorem dX12_eveningLine_80 : decode cX12_eveningLine 80 = .ok (.ireturn, 1) := by decide +kernel
theorem dX12_logLine_0 : decode cX12_logLine 0 = .ok (.lload_n 1, 1) := by decide +kernel
theorem dX12_logLine_1 : decode cX12_logLine 1 = .ok (.ldc2_w 220, 3) := by decide +kernel
theorem dX12_logLine_4 : decode cX12_logLine 4 = .ok (.lcmp, 1) := by decide +kernel
theorem dX12_logLine_5 : decode cX12_logLine 5 = .ok (.ifCond .eq 16, 3) := by decide +kernel
theorem dX12_logLine_8 : decode cX12_logLine 8 = .ok (.lload_n 1, 1) := by decide +kernel
theorem dX12_logLine_9 : decode cX12_logLine 9 = .ok (.ldc2_w 222, 3) := by decide +kernel
theorem dX12_logLine_12 : decode cX12_logLine 12 = .ok (.lcmp, 1) := by decide +kernel
theorem dX12_logLine_13 : decode cX12_logLine 13 = .ok (.ifCond .eq 8, 3) := by decide +kernel
theorem dX12_logLine_16 : decode cX12_logLine 16 = .ok (.aload_n 0, 1) := by decide +kernel
theorem dX12_logLine_17 : decode cX12_logLine 17 = .ok (.invokevirtual 147, 3) := by decide +kernel
theorem dX12_logLine_20 : decode cX12_logLine 20 = .ok (.ireturn, 1) := by decide +kernel
theorem dX12_logLine_21 : decode cX12_logLine 21 = .ok (.aload_n 0, 1) := by decide +kernel
theorem dX12_logLine_22 : decode cX12_logLine 22 = .ok (.iconst 0, 1) := by decide +kernel
theorem dX12_logLine_23 : decode cX12_logLine 23 = .ok (.bipush 12, 2) := by decide +kernel
theorem dX12_logLine_25 : decode cX12_logLine 25 = .ok (.iload_n 3, 1) := by decide +kernel
theorem dX12_logLine_26 : decode cX12_logLine 26 = .ok (.invokevirtual 187, 3) := by decide +kernel
theorem dX12_logLine_29 : decode cX12_logLine 29 = .ok (.aload_n 0, 1) := by decide +kernel
theorem dX12_logLine_30 : decode cX12_logLine 30 = .ok (.invokevirtual 159, 3) := by decide +kernel
theorem dX12_logLine_33 : decode cX12_logLine 33 = .ok (.aload_n 0, 1) := by decide +kernel
theorem dX12_logLine_34 : decode cX12_logLine 34 = .ok (.getfield 41, 3) := by decide +kernel
theorem dX12_logLine_37 : decode cX12_logLine 37 = .ok (.iconst 0, 1) := by decide +kernel
theorem dX12_logLine_38 : decode cX12_logLine 38 = .ok (.bipush 6, 2) := by decide +kernel
theorem dX12_logLine_40 : decode cX12_logLine 40 = .ok (.iastore, 1) := by decide +kernel
theorem dX12_logLine_41 : decode cX12_logLine 41 = .ok (.lload_n 1, 1) := by decide +kernel
theorem dX12_logLine_42 : decode cX12_logLine 42 = .ok (.ldc2_w 220, 3) := by decide +kernel
theorem dX12_logLine_45 : decode cX12_logLine 45 = .ok (.lcmp, 1) := by decide +kernel
theorem dX12_logLine_46 : decode cX12_logLine 46 = .ok (.ifCond .ne 15, 3) := by decide +kernel
theorem dX12_logLine_49 : decode cX12_logLine 49 = .ok (.aload_n 0, 1) := by decide +kernel
theorem dX12_logLine_50 : decode cX12_logLine 50 = .ok (.iconst 0, 1) := by decide +kernel
theorem dX12_logLine_51 : decode cX12_logLine 51 = .ok (.iconst 0, 1) := by decide +kernel
theorem dX12_logLine_52 : decode cX12_logLine 52 = .ok (.iconst 5, 1) := by decide +kernel
theorem dX12_logLine_53 : decode cX12_logLine 53 = .ok (.invokevirtual 162, 3) := by decide +kernel
theorem dX12_logLine_56 : decode cX12_logLine 56 = .ok (.ifCond .ne 5, 3) := by decide +kernel
theorem dX12_logLine_59 : decode cX12_logLine 59 = .ok (.iconst 0, 1) := by decide +kernel
theorem dX12_logLine_60 : decode cX12_logLine 60 = .ok (.ireturn, 1) := by decide +kernel
theorem dX12_logLine_61 : decode cX12_logLine 61 = .ok (.aload_n 0, 1) := by decide +kernel
theorem dX12_logLine_62 : decode cX12_logLine 62 = .ok (.iconst 1, 1) := by decide +kernel
theorem dX12_logLine_63 : decode cX12_logLine 63 = .ok (.bipush 12, 2) := by decide +kernel
theorem dX12_logLine_65 : decode cX12_logLine 65 = .ok (.invokevirtual 217, 3) := by decide +kernel
theorem dX12_logLine_68 : decode cX12_logLine 68 = .ok (.iconst 1, 1) := by decide +kernel
theorem dX12_logLine_69 : decode cX12_logLine 69 = .ok (.ireturn, 1) := by decide +kernel
theorem dX12_townLine_0 : decode cX12_townLine 0 = .ok (.lload_n 1, 1) := by decide +kernel
theorem dX12_townLine_1 : decode cX12_townLine 1 = .ok (.ldc2_w 224, 3) := by decide +kernel
theorem dX12_townLine_4 : decode cX12_townLine 4 = .ok (.lcmp, 1) := by decide +kernel
theorem dX12_townLine_5 : decode cX12_townLine 5 = .ok (.ifCond .eq 32, 3) := by decide +kernel
theorem dX12_townLine_8 : decode cX12_townLine 8 = .ok (.lload_n 1, 1) := by decide +kernel
theorem dX12_townLine_9 : decode cX12_townLine 9 = .ok (.ldc2_w 226, 3) := by decide +kernel
theorem dX12_townLine_12 : decode cX12_townLine 12 = .ok (.lcmp, 1) := by decide +kernel
theorem dX12_townLine_13 : decode cX12_townLine 13 = .ok (.ifCond .eq 24, 3) := by decide +kernel
theorem dX12_townLine_16 : decode cX12_townLine 16 = .ok (.lload_n 1, 1) := by decide +kernel
theorem dX12_townLine_17 : decode cX12_townLine 17 = .ok (.ldc2_w 228, 3) := by decide +kernel
theorem dX12_townLine_20 : decode cX12_townLine 20 = .ok (.lcmp, 1) := by decide +kernel
theorem dX12_townLine_21 : decode cX12_townLine 21 = .ok (.ifCond .eq 16, 3) := by decide +kernel
theorem dX12_townLine_24 : decode cX12_townLine 24 = .ok (.lload_n 1, 1) := by decide +kernel
theorem dX12_townLine_25 : decode cX12_townLine 25 = .ok (.ldc2_w 230, 3) := by decide +kernel
theorem dX12_townLine_28 : decode cX12_townLine 28 = .ok (.lcmp, 1) := by decide +kernel
theorem dX12_townLine_29 : decode cX12_townLine 29 = .ok (.ifCond .eq 8, 3) := by decide +kernel
theorem dX12_townLine_32 : decode cX12_townLine 32 = .ok (.aload_n 0, 1) := by decide +kernel
theorem dX12_townLine_33 : decode cX12_townLine 33 = .ok (.invokevirtual 147, 3) := by decide +kernel
theorem dX12_townLine_36 : decode cX12_townLine 36 = .ok (.ireturn, 1) := by decide +kernel
theorem dX12_townLine_37 : decode cX12_townLine 37 = .ok (.aload_n 0, 1) := by decide +kernel
theorem dX12_townLine_38 : decode cX12_townLine 38 = .ok (.invokevirtual 159, 3) := by decide +kernel
theorem dX12_townLine_41 : decode cX12_townLine 41 = .ok (.lload_n 1, 1) := by decide +kernel
theorem dX12_townLine_42 : decode cX12_townLine 42 = .ok (.ldc2_w 224, 3) := by decide +kernel
theorem dX12_townLine_45 : decode cX12_townLine 45 = .ok (.lcmp, 1) := by decide +kernel
theorem dX12_townLine_46 : decode cX12_townLine 46 = .ok (.ifCond .ne 30, 3) := by decide +kernel
theorem dX12_townLine_49 : decode cX12_townLine 49 = .ok (.aload_n 0, 1) := by decide +kernel
theorem dX12_townLine_50 : decode cX12_townLine 50 = .ok (.iconst 0, 1) := by decide +kernel
theorem dX12_townLine_51 : decode cX12_townLine 51 = .ok (.iconst 2, 1) := by decide +kernel
theorem dX12_townLine_52 : decode cX12_townLine 52 = .ok (.bipush 9, 2) := by decide +kernel
theorem dX12_townLine_54 : decode cX12_townLine 54 = .ok (.invokevirtual 162, 3) := by decide +kernel
theorem dX12_townLine_57 : decode cX12_townLine 57 = .ok (.ifCond .ne 5, 3) := by decide +kernel
theorem dX12_townLine_60 : decode cX12_townLine 60 = .ok (.iconst 0, 1) := by decide +kernel
theorem dX12_townLine_61 : decode cX12_townLine 61 = .ok (.ireturn, 1) := by decide +kernel
theorem dX12_townLine_62 : decode cX12_townLine 62 = .ok (.aload_n 0, 1) := by decide +kernel
theorem dX12_townLine_63 : decode cX12_townLine 63 = .ok (.getfield 38, 3) := by decide +kernel
theorem dX12_townLine_66 : decode cX12_townLine 66 = .ok (.iconst 0, 1) := by decide +kernel
theorem dX12_townLine_67 : decode cX12_townLine 67 = .ok (.aload_n 0, 1) := by decide +kernel
theorem dX12_townLine_68 : decode cX12_townLine 68 = .ok (.getfield 41, 3) := by decide +kernel
theorem dX12_townLine_71 : decode cX12_townLine 71 = .ok (.iconst 0, 1) := by decide +kernel
theorem dX12_townLine_72 : decode cX12_townLine 72 = .ok (.iaload, 1) := by decide +kernel
theorem dX12_townLine_73 : decode cX12_townLine 73 = .ok (.iastore, 1) := by decide +kernel
theorem dX12_townLine_74 : decode cX12_townLine 74 = .ok (.iconst 1, 1) := by decide +kernel
theorem dX12_townLine_75 : decode cX12_townLine 75 = .ok (.ireturn, 1) := by decide +kernel
theorem dX12_townLine_76 : decode cX12_townLine 76 = .ok (.lload_n 1, 1) := by decide +kernel
theorem dX12_townLine_77 : decode cX12_townLine 77 = .ok (.ldc2_w 226, 3) := by decide +kernel
theorem dX12_townLine_80 : decode cX12_townLine 80 = .ok (.lcmp, 1) := by decide +kernel
theorem dX12_townLine_81 : decode cX12_townLine 81 = .ok (.ifCond .ne 28, 3) := by decide +kernel
theorem dX12_townLine_84 : decode cX12_townLine 84 = .ok (.aload_n 0, 1) := by decide +kernel
theorem dX12_townLine_85 : decode cX12_townLine 85 = .ok (.iconst 0, 1) := by decide +kernel
theorem dX12_townLine_86 : decode cX12_townLine 86 = .ok (.bipush 7, 2) := by decide +kernel
theorem dX12_townLine_88 : decode cX12_townLine 88 = .ok (.iconst 1, 1) := by decide +kernel
theorem dX12_townLine_89 : decode cX12_townLine 89 = .ok (.invokevirtual 172, 3) := by decide +kernel
theorem dX12_townLine_92 : decode cX12_townLine 92 = .ok (.ifCond .eq 51, 3) := by decide +kernel
theorem dX12_townLine_95 : decode cX12_townLine 95 = .ok (.aload_n 0, 1) := by decide +kernel
theorem dX12_townLine_96 : decode cX12_townLine 96 = .ok (.iconst 1, 1) := by decide +kernel
theorem dX12_townLine_97 : decode cX12_townLine 97 = .ok (.iconst 1, 1) := by decide +kernel
theorem dX12_townLine_98 : decode cX12_townLine 98 = .ok (.bipush 9, 2) := by decide +kernel
theorem dX12_townLine_100 : decode cX12_townLine 100 = .ok (.invokevirtual 162, 3) := by decide +kernel
theorem dX12_townLine_103 : decode cX12_townLine 103 = .ok (.ifCond .ne 42, 3) := by decide +kernel
theorem dX12_townLine_106 : decode cX12_townLine 106 = .ok (.goto 37, 3) := by decide +kernel
theorem dX12_townLine_109 : decode cX12_townLine 109 = .ok (.aload_n 0, 1) := by decide +kernel
theorem dX12_townLine_110 : decode cX12_townLine 110 = .ok (.iconst 0, 1) := by decide +kernel
theorem dX12_townLine_111 : decode cX12_townLine 111 = .ok (.bipush 8, 2) := by decide +kernel
theorem dX12_townLine_113 : decode cX12_townLine 113 = .ok (.iconst 0, 1) := by decide +kernel
theorem dX12_townLine_114 : decode cX12_townLine 114 = .ok (.invokevirtual 172, 3) := by decide +kernel
theorem dX12_townLine_117 : decode cX12_townLine 117 = .ok (.ifCond .eq 26, 3) := by decide +kernel
theorem dX12_townLine_120 : decode cX12_townLine 120 = .ok (.aload_n 0, 1) := by decide +kernel
theorem dX12_townLine_121 : decode cX12_townLine 121 = .ok (.iconst 1, 1) := by decide +kernel
theorem dX12_townLine_122 : decode cX12_townLine 122 = .ok (.iconst 0, 1) := by decide +kernel
theorem dX12_townLine_123 : decode cX12_townLine 123 = .ok (.lload_n 1, 1) := by decide +kernel
theorem dX12_townLine_124 : decode cX12_townLine 124 = .ok (.ldc2_w 228, 3) := by decide +kernel
theorem dX12_townLine_127 : decode cX12_townLine 127 = .ok (.lcmp, 1) := by decide +kernel
theorem dX12_townLine_128 : decode cX12_townLine 128 = .ok (.ifCond .ne 7, 3) := by decide +kernel
theorem dX12_townLine_131 : decode cX12_townLine 131 = .ok (.iconst 1, 1) := by decide +kernel
theorem dX12_townLine_132 : decode cX12_townLine 132 = .ok (.goto 5, 3) := by decide +kernel
theorem dX12_townLine_135 : decode cX12_townLine 135 = .ok (.bipush 9, 2) := by decide +kernel
theorem dX12_townLine_137 : decode cX12_townLine 137 = .ok (.invokevirtual 162, 3) := by decide +kernel
theorem dX12_townLine_140 : decode cX12_townLine 140 = .ok (.ifCond .ne 5, 3) := by decide +kernel
theorem dX12_townLine_143 : decode cX12_townLine 143 = .ok (.iconst 0, 1) := by decide +kernel
theorem dX12_townLine_144 : decode cX12_townLine 144 = .ok (.ireturn, 1) := by decide +kernel
theorem dX12_townLine_145 : decode cX12_townLine 145 = .ok (.aload_n 0, 1) := by decide +kernel
theorem dX12_townLine_146 : decode cX12_townLine 146 = .ok (.getfield 155, 3) := by decide +kernel
theorem dX12_townLine_149 : decode cX12_townLine 149 = .ok (.ifCond .eq 48, 3) := by decide +kernel
theorem dX12_townLine_152 : decode cX12_townLine 152 = .ok (.aload_n 0, 1) := by decide +kernel
theorem dX12_townLine_153 : decode cX12_townLine 153 = .ok (.getfield 38, 3) := by decide +kernel
theorem dX12_townLine_156 : decode cX12_townLine 156 = .ok (.lload_n 1, 1) := by decide +kernel
theorem dX12_townLine_157 : decode cX12_townLine 157 = .ok (.ldc2_w 226, 3) := by decide +kernel
theorem dX12_townLine_160 : decode cX12_townLine 160 = .ok (.lcmp, 1) := by decide +kernel
theorem dX12_townLine_161 : decode cX12_townLine 161 = .ok (.ifCond .ne 7, 3) := by decide +kernel
theorem dX12_townLine_164 : decode cX12_townLine 164 = .ok (.iconst 1, 1) := by decide +kernel
theorem dX12_townLine_165 : decode cX12_townLine 165 = .ok (.goto 18, 3) := by decide +kernel
theorem dX12_townLine_168 : decode cX12_townLine 168 = .ok (.lload_n 1, 1) := by decide +kernel
theorem dX12_townLine_169 : decode cX12_townLine 169 = .ok (.ldc2_w 228, 3) := by decide +kernel
theorem dX12_townLine_172 : decode cX12_townLine 172 = .ok (.lcmp, 1) := by decide +kernel
theorem dX12_townLine_173 : decode cX12_townLine 173 = .ok (.ifCond .ne 8, 3) := by decide +kernel
theorem dX12_townLine_176 : decode cX12_townLine 176 = .ok (.bipush 9, 2) := by decide +kernel
theorem dX12_townLine_178 : decode cX12_townLine 178 = .ok (.goto 5, 3) := by decide +kernel
theorem dX12_townLine_181 : decode cX12_townLine 181 = .ok (.bipush 18, 2) := by decide +kernel
theorem dX12_townLine_183 : decode cX12_townLine 183 = .ok (.aload_n 0, 1) := by decide +kernel
theorem dX12_townLine_184 : decode cX12_townLine 184 = .ok (.getfield 41, 3) := by decide +kernel
theorem dX12_townLine_187 : decode cX12_townLine 187 = .ok (.iconst 0, 1) := by decide +kernel
theorem dX12_townLine_188 : decode cX12_townLine 188 = .ok (.iaload, 1) := by decide +kernel
theorem dX12_townLine_189 : decode cX12_townLine 189 = .ok (.iadd, 1) := by decide +kernel
theorem dX12_townLine_190 : decode cX12_townLine 190 = .ok (.aload_n 0, 1) := by decide +kernel
theorem dX12_townLine_191 : decode cX12_townLine 191 = .ok (.getfield 41, 3) := by decide +kernel
theorem dX12_townLine_194 : decode cX12_townLine 194 = .ok (.iconst 1, 1) := by decide +kernel
theorem dX12_townLine_195 : decode cX12_townLine 195 = .ok (.iaload, 1) := by decide +kernel
theorem dX12_townLine_196 : decode cX12_townLine 196 = .ok (.iastore, 1) := by decide +kernel
theorem dX12_townLine_197 : decode cX12_townLine 197 = .ok (.iconst 1, 1) := by decide +kernel
theorem dX12_townLine_198 : decode cX12_townLine 198 = .ok (.ireturn, 1) := by decide +kernel
theorem dX12_lineOf_0 : decode cX12_lineOf 0 = .ok (.iload_n 1, 1) := by decide +kernel
theorem dX12_lineOf_1 : decode cX12_lineOf 1 = .ok (.tableswitch 51 0 2 #[27, 35, 43], 27) := by decide +kernel
theorem dX12_lineOf_28 : decode cX12_lineOf 28 = .ok (.aload_n 0, 1) := by decide +kernel
theorem dX12_lineOf_29 : decode cX12_lineOf 29 = .ok (.lload_n 2, 1) := by decide +kernel
theorem dX12_lineOf_30 : decode cX12_lineOf 30 = .ok (.iload 4, 2) := by decide +kernel
theorem dX12_lineOf_32 : decode cX12_lineOf 32 = .ok (.invokevirtual 232, 3) := by decide +kernel
theorem dX12_lineOf_35 : decode cX12_lineOf 35 = .ok (.ireturn, 1) := by decide +kernel
theorem dX12_lineOf_36 : decode cX12_lineOf 36 = .ok (.aload_n 0, 1) := by decide +kernel
theorem dX12_lineOf_37 : decode cX12_lineOf 37 = .ok (.lload_n 2, 1) := by decide +kernel
theorem dX12_lineOf_38 : decode cX12_lineOf 38 = .ok (.iload 4, 2) := by decide +kernel
theorem dX12_lineOf_40 : decode cX12_lineOf 40 = .ok (.invokevirtual 236, 3) := by decide +kernel
theorem dX12_lineOf_43 : decode cX12_lineOf 43 = .ok (.ireturn, 1) := by decide +kernel
theorem dX12_lineOf_44 : decode cX12_lineOf 44 = .ok (.aload_n 0, 1) := by decide +kernel
theorem dX12_lineOf_45 : decode cX12_lineOf 45 = .ok (.lload_n 2, 1) := by decide +kernel
theorem dX12_lineOf_46 : decode cX12_lineOf 46 = .ok (.iload 4, 2) := by decide +kernel
theorem dX12_lineOf_48 : decode cX12_lineOf 48 = .ok (.invokevirtual 239, 3) := by decide +kernel
theorem dX12_lineOf_51 : decode cX12_lineOf 51 = .ok (.ireturn, 1) := by decide +kernel
theorem dX12_lineOf_52 : decode cX12_lineOf 52 = .ok (.aload_n 0, 1) := by decide +kernel
theorem dX12_lineOf_53 : decode cX12_lineOf 53 = .ok (.lload_n 2, 1) := by decide +kernel
theorem dX12_lineOf_54 : decode cX12_lineOf 54 = .ok (.invokevirtual 242, 3) := by decide +kernel
theorem dX12_lineOf_57 : decode cX12_lineOf 57 = .ok (.ireturn, 1) := by decide +kernel
theorem dX12_lines_0 : decode cX12_lines 0 = .ok (.iconst 1, 1) := by decide +kernel
theorem dX12_lines_1 : decode cX12_lines 1 = .ok (.istore_n 2, 1) := by decide +kernel
theorem dX12_lines_2 : decode cX12_lines 2 = .ok (.iload_n 2, 1) := by decide +kernel
theorem dX12_lines_3 : decode cX12_lines 3 = .ok (.ifCond .eq 71, 3) := by decide +kernel
theorem dX12_lines_6 : decode cX12_lines 6 = .ok (.aload_n 0, 1) := by decide +kernel
theorem dX12_lines_7 : decode cX12_lines 7 = .ok (.getfield 132, 3) := by decide +kernel
theorem dX12_lines_10 : decode cX12_lines 10 = .ok (.ifCond .eq 64, 3) := by decide +kernel
theorem dX12_lines_13 : decode cX12_lines 13 = .ok (.aload_n 0, 1) := by decide +kernel
theorem dX12_lines_14 : decode cX12_lines 14 = .ok (.getfield 125, 3) := by decide +kernel
theorem dX12_lines_17 : decode cX12_lines 17 = .ok (.istore_n 3, 1) := by decide +kernel
theorem dX12_lines_18 : decode cX12_lines 18 = .ok (.aload_n 0, 1) := by decide +kernel
theorem dX12_lines_19 : decode cX12_lines 19 = .ok (.iconst 1, 1) := by decide +kernel
theorem dX12_lines_20 : decode cX12_lines 20 = .ok (.putfield 155, 3) := by decide +kernel
theorem dX12_lines_23 : decode cX12_lines 23 = .ok (.aload_n 0, 1) := by decide +kernel
theorem dX12_lines_24 : decode cX12_lines 24 = .ok (.iload_n 1, 1) := by decide +kernel
theorem dX12_lines_25 : decode cX12_lines 25 = .ok (.aload_n 0, 1) := by decide +kernel
theorem dX12_lines_26 : decode cX12_lines 26 = .ok (.getfield 132, 3) := by decide +kernel
theorem dX12_lines_29 : decode cX12_lines 29 = .ok (.iconst 2, 1) := by decide +kernel
theorem dX12_lines_30 : decode cX12_lines 30 = .ok (.if_icmp .ne 10, 3) := by decide +kernel
theorem dX12_lines_33 : decode cX12_lines 33 = .ok (.aload_n 0, 1) := by decide +kernel
theorem dX12_lines_34 : decode cX12_lines 34 = .ok (.getfield 128, 3) := by decide +kernel
theorem dX12_lines_37 : decode cX12_lines 37 = .ok (.goto 4, 3) := by decide +kernel
theorem dX12_lines_40 : decode cX12_lines 40 = .ok (.lconst 0, 1) := by decide +kernel
theorem dX12_lines_41 : decode cX12_lines 41 = .ok (.iload_n 3, 1) := by decide +kernel
theorem dX12_lines_42 : decode cX12_lines 42 = .ok (.invokevirtual 245, 3) := by decide +kernel
theorem dX12_lines_45 : decode cX12_lines 45 = .ok (.istore_n 2, 1) := by decide +kernel
theorem dX12_lines_46 : decode cX12_lines 46 = .ok (.iload_n 2, 1) := by decide +kernel
theorem dX12_lines_47 : decode cX12_lines 47 = .ok (.ifCond .eq 16, 3) := by decide +kernel
theorem dX12_lines_50 : decode cX12_lines 50 = .ok (.aload_n 0, 1) := by decide +kernel
theorem dX12_lines_51 : decode cX12_lines 51 = .ok (.getfield 132, 3) := by decide +kernel
theorem dX12_lines_54 : decode cX12_lines 54 = .ok (.iconst 4, 1) := by decide +kernel
theorem dX12_lines_55 : decode cX12_lines 55 = .ok (.if_icmp .eq 8, 3) := by decide +kernel
theorem dX12_lines_58 : decode cX12_lines 58 = .ok (.aload_n 0, 1) := by decide +kernel
theorem dX12_lines_59 : decode cX12_lines 59 = .ok (.invokevirtual 147, 3) := by decide +kernel
theorem dX12_lines_62 : decode cX12_lines 62 = .ok (.istore_n 2, 1) := by decide +kernel
theorem dX12_lines_63 : decode cX12_lines 63 = .ok (.iload_n 2, 1) := by decide +kernel
theorem dX12_lines_64 : decode cX12_lines 64 = .ok (.ifCond .eq 7, 3) := by decide +kernel
theorem dX12_lines_67 : decode cX12_lines 67 = .ok (.aload_n 0, 1) := by decide +kernel
theorem dX12_lines_68 : decode cX12_lines 68 = .ok (.invokevirtual 159, 3) := by decide +kernel
theorem dX12_lines_71 : decode cX12_lines 71 = .ok (.goto (-69), 3) := by decide +kernel
theorem dX12_lines_74 : decode cX12_lines 74 = .ok (.iload_n 2, 1) := by decide +kernel
theorem dX12_lines_75 : decode cX12_lines 75 = .ok (.ireturn, 1) := by decide +kernel
theorem dX12_blank_0 : decode cX12_blank 0 = .ok (.iconst 0, 1) := by decide +kernel
theorem dX12_blank_1 : decode cX12_blank 1 = .ok (.istore_n 2, 1) := by decide +kernel
theorem dX12_blank_2 : decode cX12_blank 2 = .ok (.iload_n 2, 1) := by decide +kernel
theorem dX12_blank_3 : decode cX12_blank 3 = .ok (.bipush 112, 2) := by decide +kernel
theorem dX12_blank_5 : decode cX12_blank 5 = .ok (.if_icmp .ge 70, 3) := by decide +kernel
theorem dX12_blank_8 : decode cX12_blank 8 = .ok (.aload_n 0, 1) := by decide +kernel
theorem dX12_blank_9 : decode cX12_blank 9 = .ok (.getfield 38, 3) := by decide +kernel
theorem dX12_blank_12 : decode cX12_blank 12 = .ok (.iload_n 2, 1) := by decide +kernel
theorem dX12_blank_13 : decode cX12_blank 13 = .ok (.iload_n 1, 1) := by decide +kernel
theorem dX12_blank_14 : decode cX12_blank 14 = .ok (.ifCond .ne 14, 3) := by decide +kernel
theorem dX12_blank_17 : decode cX12_blank 17 = .ok (.iload_n 2, 1) := by decide +kernel
theorem dX12_blank_18 : decode cX12_blank 18 = .ok (.bipush 100, 2) := by decide +kernel
theorem dX12_blank_20 : decode cX12_blank 20 = .ok (.bipush 105, 2) := by decide +kernel
theorem dX12_blank_22 : decode cX12_blank 22 = .ok (.invokestatic 107, 3) := by decide +kernel
theorem dX12_blank_25 : decode cX12_blank 25 = .ok (.ifCond .ne 18, 3) := by decide +kernel
theorem dX12_blank_28 : decode cX12_blank 28 = .ok (.iload_n 1, 1) := by decide +kernel
theorem dX12_blank_29 : decode cX12_blank 29 = .ok (.iconst 3, 1) := by decide +kernel
theorem dX12_blank_30 : decode cX12_blank 30 = .ok (.if_icmp .ne 17, 3) := by decide +kernel
theorem dX12_blank_33 : decode cX12_blank 33 = .ok (.iload_n 2, 1) := by decide +kernel
theorem dX12_blank_34 : decode cX12_blank 34 = .ok (.iconst 1, 1) := by decide +kernel
theorem dX12_blank_35 : decode cX12_blank 35 = .ok (.bipush 8, 2) := by decide +kernel
theorem dX12_blank_37 : decode cX12_blank 37 = .ok (.invokestatic 107, 3) := by decide +kernel
theorem dX12_blank_40 : decode cX12_blank 40 = .ok (.ifCond .eq 7, 3) := by decide +kernel
theorem dX12_blank_43 : decode cX12_blank 43 = .ok (.iconst 2, 1) := by decide +kernel
theorem dX12_blank_44 : decode cX12_blank 44 = .ok (.goto 24, 3) := by decide +kernel
theorem dX12_blank_47 : decode cX12_blank 47 = .ok (.iload_n 1, 1) := by decide +kernel
theorem dX12_blank_48 : decode cX12_blank 48 = .ok (.iconst 3, 1) := by decide +kernel
theorem dX12_blank_49 : decode cX12_blank 49 = .ok (.if_icmp .ne 18, 3) := by decide +kernel
theorem dX12_blank_52 : decode cX12_blank 52 = .ok (.iload_n 2, 1) := by decide +kernel
theorem dX12_blank_53 : decode cX12_blank 53 = .ok (.bipush 18, 2) := by decide +kernel
theorem dX12_blank_55 : decode cX12_blank 55 = .ok (.bipush 26, 2) := by decide +kernel
theorem dX12_blank_57 : decode cX12_blank 57 = .ok (.invokestatic 107, 3) := by decide +kernel
theorem dX12_blank_60 : decode cX12_blank 60 = .ok (.ifCond .eq 7, 3) := by decide +kernel
theorem dX12_blank_63 : decode cX12_blank 63 = .ok (.iconst 3, 1) := by decide +kernel
theorem dX12_blank_64 : decode cX12_blank 64 = .ok (.goto 4, 3) := by decide +kernel
theorem dX12_blank_67 : decode cX12_blank 67 = .ok (.iconst 0, 1) := by decide +kernel
theorem dX12_blank_68 : decode cX12_blank 68 = .ok (.iastore, 1) := by decide +kernel
theorem dX12_blank_69 : decode cX12_blank 69 = .ok (.iinc 2 1, 3) := by decide +kernel
theorem dX12_blank_72 : decode cX12_blank 72 = .ok (.goto (-70), 3) := by decide +kernel
theorem dX12_blank_75 : decode cX12_blank 75 = .ok (.aload_n 0, 1) := by decide +kernel
theorem dX12_blank_76 : decode cX12_blank 76 = .ok (.getfield 38, 3) := by decide +kernel
theorem dX12_blank_79 : decode cX12_blank 79 = .ok (.iconst 0, 1) := by decide +kernel
theorem dX12_blank_80 : decode cX12_blank 80 = .ok (.iload_n 1, 1) := by decide +kernel
theorem dX12_blank_81 : decode cX12_blank 81 = .ok (.iconst 3, 1) := by decide +kernel
theorem dX12_blank_82 : decode cX12_blank 82 = .ok (.if_icmp .ne 7, 3) := by decide +kernel
theorem dX12_blank_85 : decode cX12_blank 85 = .ok (.iconst 4, 1) := by decide +kernel
theorem dX12_blank_86 : decode cX12_blank 86 = .ok (.goto 4, 3) := by decide +kernel
theorem dX12_blank_89 : decode cX12_blank 89 = .ok (.iconst 0, 1) := by decide +kernel
theorem dX12_blank_90 : decode cX12_blank 90 = .ok (.iastore, 1) := by decide +kernel
theorem dX12_blank_91 : decode cX12_blank 91 = .ok (.aload_n 0, 1) := by decide +kernel
theorem dX12_blank_92 : decode cX12_blank 92 = .ok (.getfield 38, 3) := by decide +kernel
theorem dX12_blank_95 : decode cX12_blank 95 = .ok (.iconst 2, 1) := by decide +kernel
theorem dX12_blank_96 : decode cX12_blank 96 = .ok (.iload_n 1, 1) := by decide +kernel
theorem dX12_blank_97 : decode cX12_blank 97 = .ok (.ifCond .ne 7, 3) := by decide +kernel
theorem dX12_blank_100 : decode cX12_blank 100 = .ok (.iconst 3, 1) := by decide +kernel
theorem dX12_blank_101 : decode cX12_blank 101 = .ok (.goto 9, 3) := by decide +kernel
theorem dX12_blank_104 : decode cX12_blank 104 = .ok (.aload_n 0, 1) := by decide +kernel
theorem dX12_blank_105 : decode cX12_blank 105 = .ok (.getfield 38, 3) := by decide +kernel
theorem dX12_blank_108 : decode cX12_blank 108 = .ok (.iconst 2, 1) := by decide +kernel
theorem dX12_blank_109 : decode cX12_blank 109 = .ok (.iaload, 1) := by decide +kernel
theorem dX12_blank_110 : decode cX12_blank 110 = .ok (.iastore, 1) := by decide +kernel
theorem dX12_blank_111 : decode cX12_blank 111 = .ok (.aload_n 0, 1) := by decide +kernel
theorem dX12_blank_112 : decode cX12_blank 112 = .ok (.getfield 38, 3) := by decide +kernel
theorem dX12_blank_115 : decode cX12_blank 115 = .ok (.iconst 3, 1) := by decide +kernel
theorem dX12_blank_116 : decode cX12_blank 116 = .ok (.iload_n 1, 1) := by decide +kernel
theorem dX12_blank_117 : decode cX12_blank 117 = .ok (.ifCond .ne 7, 3) := by decide +kernel
theorem dX12_blank_120 : decode cX12_blank 120 = .ok (.iconst 3, 1) := by decide +kernel
theorem dX12_blank_121 : decode cX12_blank 121 = .ok (.goto 9, 3) := by decide +kernel
theorem dX12_blank_124 : decode cX12_blank 124 = .ok (.aload_n 0, 1) := by decide +kernel
theorem dX12_blank_125 : decode cX12_blank 125 = .ok (.getfield 38, 3) := by decide +kernel
theorem dX12_blank_128 : decode cX12_blank 128 = .ok (.iconst 3, 1) := by decide +kernel
theorem dX12_blank_129 : decode cX12_blank 129 = .ok (.iaload, 1) := by decide +kernel
theorem dX12_blank_130 : decode cX12_blank 130 = .ok (.iastore, 1) := by decide +kernel
theorem dX12_blank_131 : decode cX12_blank 131 = .ok (.return_, 1) := by decide +kernel
theorem dX12_readText_0 : decode cX12_readText 0 = .ok (.aload_n 0, 1) := by decide +kernel
theorem dX12_readText_1 : decode cX12_readText 1 = .ok (.iload_n 1, 1) := by decide +kernel
theorem dX12_readText_2 : decode cX12_readText 2 = .ok (.invokevirtual 249, 3) := by decide +kernel
theorem dX12_readText_5 : decode cX12_readText 5 = .ok (.aload_n 0, 1) := by decide +kernel
theorem dX12_readText_6 : decode cX12_readText 6 = .ok (.iconst (-1), 1) := by decide +kernel
theorem dX12_readText_7 : decode cX12_readText 7 = .ok (.putfield 165, 3) := by decide +kernel
theorem dX12_readText_10 : decode cX12_readText 10 = .ok (.aload_n 0, 1) := by decide +kernel
theorem dX12_readText_11 : decode cX12_readText 11 = .ok (.iconst 0, 1) := by decide +kernel
theorem dX12_readText_12 : decode cX12_readText 12 = .ok (.putfield 115, 3) := by decide +kernel
theorem dX12_readText_15 : decode cX12_readText 15 = .ok (.aload_n 0, 1) := by decide +kernel
theorem dX12_readText_16 : decode cX12_readText 16 = .ok (.iconst 0, 1) := by decide +kernel
theorem dX12_readText_17 : decode cX12_readText 17 = .ok (.putfield 141, 3) := by decide +kernel
theorem dX12_readText_20 : decode cX12_readText 20 = .ok (.aload_n 0, 1) := by decide +kernel
theorem dX12_readText_21 : decode cX12_readText 21 = .ok (.invokevirtual 159, 3) := by decide +kernel
theorem dX12_readText_24 : decode cX12_readText 24 = .ok (.aload_n 0, 1) := by decide +kernel
theorem dX12_readText_25 : decode cX12_readText 25 = .ok (.iload_n 1, 1) := by decide +kernel
theorem dX12_readText_26 : decode cX12_readText 26 = .ok (.invokevirtual 252, 3) := by decide +kernel
theorem dX12_readText_29 : decode cX12_readText 29 = .ok (.istore_n 2, 1) := by decide +kernel
theorem dX12_readText_30 : decode cX12_readText 30 = .ok (.iload_n 2, 1) := by decide +kernel
theorem dX12_readText_31 : decode cX12_readText 31 = .ok (.ifCond .eq 41, 3) := by decide +kernel
theorem dX12_readText_34 : decode cX12_readText 34 = .ok (.aload_n 0, 1) := by decide +kernel
theorem dX12_readText_35 : decode cX12_readText 35 = .ok (.getfield 141, 3) := by decide +kernel
theorem dX12_readText_38 : decode cX12_readText 38 = .ok (.ifCond .ne 34, 3) := by decide +kernel
theorem dX12_readText_41 : decode cX12_readText 41 = .ok (.iload_n 1, 1) := by decide +kernel
theorem dX12_readText_42 : decode cX12_readText 42 = .ok (.ifCond .eq 8, 3) := by decide +kernel
theorem dX12_readText_45 : decode cX12_readText 45 = .ok (.iload_n 1, 1) := by decide +kernel
theorem dX12_readText_46 : decode cX12_readText 46 = .ok (.iconst 3, 1) := by decide +kernel
theorem dX12_readText_47 : decode cX12_readText 47 = .ok (.if_icmp .ne 25, 3) := by decide +kernel
theorem dX12_readText_50 : decode cX12_readText 50 = .ok (.aload_n 0, 1) := by decide +kernel
theorem dX12_readText_51 : decode cX12_readText 51 = .ok (.getfield 165, 3) := by decide +kernel
theorem dX12_readText_54 : decode cX12_readText 54 = .ok (.aload_n 0, 1) := by decide +kernel
theorem dX12_readText_55 : decode cX12_readText 55 = .ok (.getfield 38, 3) := by decide +kernel
theorem dX12_readText_58 : decode cX12_readText 58 = .ok (.iconst 0, 1) := by decide +kernel
theorem dX12_readText_59 : decode cX12_readText 59 = .ok (.iaload, 1) := by decide +kernel
theorem dX12_readText_60 : decode cX12_readText 60 = .ok (.if_icmp .lt 12, 3) := by decide +kernel
theorem dX12_readText_63 : decode cX12_readText 63 = .ok (.aload_n 0, 1) := by decide +kernel
theorem dX12_readText_64 : decode cX12_readText 64 = .ok (.iconst 4, 1) := by decide +kernel
theorem dX12_readText_65 : decode cX12_readText 65 = .ok (.aload_n 0, 1) := by decide +kernel
theorem dX12_readText_66 : decode cX12_readText 66 = .ok (.getfield 125, 3) := by decide +kernel
theorem dX12_readText_69 : decode cX12_readText 69 = .ok (.invokevirtual 151, 3) := by decide +kernel
theorem dX12_readText_72 : decode cX12_readText 72 = .ok (.aload_n 0, 1) := by decide +kernel
theorem dX12_readText_73 : decode cX12_readText 73 = .ok (.getfield 17, 3) := by decide +kernel
theorem dX12_readText_76 : decode cX12_readText 76 = .ok (.iconst 0, 1) := by decide +kernel
theorem dX12_readText_77 : decode cX12_readText 77 = .ok (.iload_n 2, 1) := by decide +kernel
theorem dX12_readText_78 : decode cX12_readText 78 = .ok (.ifCond .eq 10, 3) := by decide +kernel
theorem dX12_readText_81 : decode cX12_readText 81 = .ok (.aload_n 0, 1) := by decide +kernel
theorem dX12_readText_82 : decode cX12_readText 82 = .ok (.getfield 141, 3) := by decide +kernel
theorem dX12_readText_85 : decode cX12_readText 85 = .ok (.goto 4, 3) := by decide +kernel
theorem dX12_readText_88 : decode cX12_readText 88 = .ok (.iconst 1, 1) := by decide +kernel
theorem dX12_readText_89 : decode cX12_readText 89 = .ok (.iastore, 1) := by decide +kernel
theorem dX12_readText_90 : decode cX12_readText 90 = .ok (.aload_n 0, 1) := by decide +kernel
theorem dX12_readText_91 : decode cX12_readText 91 = .ok (.getfield 20, 3) := by decide +kernel
theorem dX12_readText_94 : decode cX12_readText 94 = .ok (.iconst 0, 1) := by decide +kernel
theorem dX12_readText_95 : decode cX12_readText 95 = .ok (.iload_n 2, 1) := by decide +kernel
theorem dX12_readText_96 : decode cX12_readText 96 = .ok (.ifCond .ne 10, 3) := by decide +kernel
theorem dX12_readText_99 : decode cX12_readText 99 = .ok (.aload_n 0, 1) := by decide +kernel
theorem dX12_readText_100 : decode cX12_readText 100 = .ok (.getfield 138, 3) := by decide +kernel
theorem dX12_readText_103 : decode cX12_readText 103 = .ok (.goto 18, 3) := by decide +kernel
theorem dX12_readText_106 : decode cX12_readText 106 = .ok (.aload_n 0, 1) := by decide +kernel
theorem dX12_readText_107 : decode cX12_readText 107 = .ok (.getfield 141, 3) := by decide +kernel
theorem dX12_readText_110 : decode cX12_readText 110 = .ok (.ifCond .le 10, 3) := by decide +kernel
theorem dX12_readText_113 : decode cX12_readText 113 = .ok (.aload_n 0, 1) := by decide +kernel
theorem dX12_readText_114 : decode cX12_readText 114 = .ok (.getfield 144, 3) := by decide +kernel
theorem dX12_readText_117 : decode cX12_readText 117 = .ok (.goto 4, 3) := by decide +kernel
theorem dX12_readText_120 : decode cX12_readText 120 = .ok (.iconst (-1), 1) := by decide +kernel
theorem dX12_readText_121 : decode cX12_readText 121 = .ok (.iastore, 1) := by decide +kernel
theorem dX12_readText_122 : decode cX12_readText 122 = .ok (.aload_n 0, 1) := by decide +kernel
theorem dX12_readText_123 : decode cX12_readText 123 = .ok (.getfield 17, 3) := by decide +kernel
theorem dX12_readText_126 : decode cX12_readText 126 = .ok (.iconst 0, 1) := by decide +kernel
theorem dX12_readText_127 : decode cX12_readText 127 = .ok (.iaload, 1) := by decide +kernel
