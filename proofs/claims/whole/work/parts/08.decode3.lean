theorem dX10_feeds_55 : decode cX10_feeds 55 = .ok (.aload_n 0, 1) := by decide +kernel
theorem dX10_feeds_56 : decode cX10_feeds 56 = .ok (.getfield 19, 3) := by decide +kernel
theorem dX10_feeds_59 : decode cX10_feeds 59 = .ok (.getfield 136, 3) := by decide +kernel
theorem dX10_feeds_62 : decode cX10_feeds 62 = .ok (.invokestatic 358, 3) := by decide +kernel
theorem dX10_feeds_65 : decode cX10_feeds 65 = .ok (.ireturn, 1) := by decide +kernel
theorem dX10_draw_0 : decode cX10_draw 0 = .ok (.aload_n 0, 1) := by decide +kernel
theorem dX10_draw_1 : decode cX10_draw 1 = .ok (.iload_n 1, 1) := by decide +kernel
theorem dX10_draw_2 : decode cX10_draw 2 = .ok (.invokevirtual 160, 3) := by decide +kernel
theorem dX10_draw_5 : decode cX10_draw 5 = .ok (.ifCond .eq 13, 3) := by decide +kernel
theorem dX10_draw_8 : decode cX10_draw 8 = .ok (.iload_n 2, 1) := by decide +kernel
theorem dX10_draw_9 : decode cX10_draw 9 = .ok (.ifCond .lt 9, 3) := by decide +kernel
theorem dX10_draw_12 : decode cX10_draw 12 = .ok (.iload_n 2, 1) := by decide +kernel
theorem dX10_draw_13 : decode cX10_draw 13 = .ok (.bipush 99, 2) := by decide +kernel
theorem dX10_draw_15 : decode cX10_draw 15 = .ok (.if_icmp .le 6, 3) := by decide +kernel
theorem dX10_draw_18 : decode cX10_draw 18 = .ok (.bipush (-2), 2) := by decide +kernel
theorem dX10_draw_20 : decode cX10_draw 20 = .ok (.ireturn, 1) := by decide +kernel
theorem dX10_draw_21 : decode cX10_draw 21 = .ok (.aload_n 0, 1) := by decide +kernel
theorem dX10_draw_22 : decode cX10_draw 22 = .ok (.getfield 19, 3) := by decide +kernel
theorem dX10_draw_25 : decode cX10_draw 25 = .ok (.getfield 170, 3) := by decide +kernel
theorem dX10_draw_28 : decode cX10_draw 28 = .ok (.iload_n 1, 1) := by decide +kernel
theorem dX10_draw_29 : decode cX10_draw 29 = .ok (.iaload, 1) := by decide +kernel
theorem dX10_draw_30 : decode cX10_draw 30 = .ok (.istore_n 3, 1) := by decide +kernel
theorem dX10_draw_31 : decode cX10_draw 31 = .ok (.iload_n 3, 1) := by decide +kernel
theorem dX10_draw_32 : decode cX10_draw 32 = .ok (.iload_n 2, 1) := by decide +kernel
theorem dX10_draw_33 : decode cX10_draw 33 = .ok (.if_icmp .eq 15, 3) := by decide +kernel
theorem dX10_draw_36 : decode cX10_draw 36 = .ok (.aload_n 0, 1) := by decide +kernel
theorem dX10_draw_37 : decode cX10_draw 37 = .ok (.getfield 19, 3) := by decide +kernel
theorem dX10_draw_40 : decode cX10_draw 40 = .ok (.getfield 133, 3) := by decide +kernel
theorem dX10_draw_43 : decode cX10_draw 43 = .ok (.bipush 20, 2) := by decide +kernel
theorem dX10_draw_45 : decode cX10_draw 45 = .ok (.if_icmp .lt 6, 3) := by decide +kernel
theorem dX10_draw_48 : decode cX10_draw 48 = .ok (.bipush (-5), 2) := by decide +kernel
theorem dX10_draw_50 : decode cX10_draw 50 = .ok (.ireturn, 1) := by decide +kernel
theorem dX10_draw_51 : decode cX10_draw 51 = .ok (.aload_n 0, 1) := by decide +kernel
theorem dX10_draw_52 : decode cX10_draw 52 = .ok (.getfield 19, 3) := by decide +kernel
theorem dX10_draw_55 : decode cX10_draw 55 = .ok (.getfield 170, 3) := by decide +kernel
theorem dX10_draw_58 : decode cX10_draw 58 = .ok (.iload_n 1, 1) := by decide +kernel
theorem dX10_draw_59 : decode cX10_draw 59 = .ok (.iload_n 2, 1) := by decide +kernel
theorem dX10_draw_60 : decode cX10_draw 60 = .ok (.iastore, 1) := by decide +kernel
theorem dX10_draw_61 : decode cX10_draw 61 = .ok (.aload_n 0, 1) := by decide +kernel
theorem dX10_draw_62 : decode cX10_draw 62 = .ok (.getfield 19, 3) := by decide +kernel
theorem dX10_draw_65 : decode cX10_draw 65 = .ok (.iconst 2, 1) := by decide +kernel
theorem dX10_draw_66 : decode cX10_draw 66 = .ok (.iload_n 1, 1) := by decide +kernel
theorem dX10_draw_67 : decode cX10_draw 67 = .ok (.iload_n 3, 1) := by decide +kernel
theorem dX10_draw_68 : decode cX10_draw 68 = .ok (.invokevirtual 354, 3) := by decide +kernel
theorem dX10_draw_71 : decode cX10_draw 71 = .ok (.aload_n 0, 1) := by decide +kernel
theorem dX10_draw_72 : decode cX10_draw 72 = .ok (.invokevirtual 106, 3) := by decide +kernel
theorem dX10_draw_75 : decode cX10_draw 75 = .ok (.iload_n 3, 1) := by decide +kernel
theorem dX10_draw_76 : decode cX10_draw 76 = .ok (.ireturn, 1) := by decide +kernel
theorem dX10_year_0 : decode cX10_year 0 = .ok (.aload_n 0, 1) := by decide +kernel
theorem dX10_year_1 : decode cX10_year 1 = .ok (.invokevirtual 179, 3) := by decide +kernel
theorem dX10_year_4 : decode cX10_year 4 = .ok (.ifCond .eq 6, 3) := by decide +kernel
theorem dX10_year_7 : decode cX10_year 7 = .ok (.bipush (-2), 2) := by decide +kernel
theorem dX10_year_9 : decode cX10_year 9 = .ok (.ireturn, 1) := by decide +kernel
theorem dX10_year_10 : decode cX10_year 10 = .ok (.aload_n 0, 1) := by decide +kernel
theorem dX10_year_11 : decode cX10_year 11 = .ok (.getfield 19, 3) := by decide +kernel
theorem dX10_year_14 : decode cX10_year 14 = .ok (.getfield 133, 3) := by decide +kernel
theorem dX10_year_17 : decode cX10_year 17 = .ok (.bipush 20, 2) := by decide +kernel
theorem dX10_year_19 : decode cX10_year 19 = .ok (.if_icmp .lt 6, 3) := by decide +kernel
theorem dX10_year_22 : decode cX10_year 22 = .ok (.bipush (-5), 2) := by decide +kernel
theorem dX10_year_24 : decode cX10_year 24 = .ok (.ireturn, 1) := by decide +kernel
theorem dX10_year_25 : decode cX10_year 25 = .ok (.aload_n 0, 1) := by decide +kernel
theorem dX10_year_26 : decode cX10_year 26 = .ok (.invokevirtual 139, 3) := by decide +kernel
theorem dX10_year_29 : decode cX10_year 29 = .ok (.aload_n 0, 1) := by decide +kernel
theorem dX10_year_30 : decode cX10_year 30 = .ok (.getfield 19, 3) := by decide +kernel
theorem dX10_year_33 : decode cX10_year 33 = .ok (.aload_n 0, 1) := by decide +kernel
theorem dX10_year_34 : decode cX10_year 34 = .ok (.getfield 19, 3) := by decide +kernel
theorem dX10_year_37 : decode cX10_year 37 = .ok (.getfield 157, 3) := by decide +kernel
theorem dX10_year_40 : decode cX10_year 40 = .ok (.invokevirtual 254, 3) := by decide +kernel
theorem dX10_year_43 : decode cX10_year 43 = .ok (.istore_n 1, 1) := by decide +kernel
theorem dX10_year_44 : decode cX10_year 44 = .ok (.aload_n 0, 1) := by decide +kernel
theorem dX10_year_45 : decode cX10_year 45 = .ok (.getfield 19, 3) := by decide +kernel
theorem dX10_year_48 : decode cX10_year 48 = .ok (.aload_n 0, 1) := by decide +kernel
theorem dX10_year_49 : decode cX10_year 49 = .ok (.getfield 19, 3) := by decide +kernel
theorem dX10_year_52 : decode cX10_year 52 = .ok (.getfield 157, 3) := by decide +kernel
theorem dX10_year_55 : decode cX10_year 55 = .ok (.iload_n 1, 1) := by decide +kernel
theorem dX10_year_56 : decode cX10_year 56 = .ok (.iconst (-1), 1) := by decide +kernel
theorem dX10_year_57 : decode cX10_year 57 = .ok (.invokevirtual 363, 3) := by decide +kernel
theorem dX10_year_60 : decode cX10_year 60 = .ok (.iload_n 1, 1) := by decide +kernel
theorem dX10_year_61 : decode cX10_year 61 = .ok (.invokestatic 358, 3) := by decide +kernel
theorem dX10_year_64 : decode cX10_year 64 = .ok (.istore_n 2, 1) := by decide +kernel
theorem dX10_year_65 : decode cX10_year 65 = .ok (.aload_n 0, 1) := by decide +kernel
theorem dX10_year_66 : decode cX10_year 66 = .ok (.getfield 19, 3) := by decide +kernel
theorem dX10_year_69 : decode cX10_year 69 = .ok (.iconst 3, 1) := by decide +kernel
theorem dX10_year_70 : decode cX10_year 70 = .ok (.iload_n 1, 1) := by decide +kernel
theorem dX10_year_71 : decode cX10_year 71 = .ok (.iload_n 2, 1) := by decide +kernel
theorem dX10_year_72 : decode cX10_year 72 = .ok (.invokevirtual 354, 3) := by decide +kernel
theorem dX10_year_75 : decode cX10_year 75 = .ok (.aload_n 0, 1) := by decide +kernel
theorem dX10_year_76 : decode cX10_year 76 = .ok (.invokevirtual 106, 3) := by decide +kernel
theorem dX10_year_79 : decode cX10_year 79 = .ok (.iload_n 2, 1) := by decide +kernel
theorem dX10_year_80 : decode cX10_year 80 = .ok (.ireturn, 1) := by decide +kernel
theorem dX10_did_0 : decode cX10_did 0 = .ok (.aload_n 0, 1) := by decide +kernel
theorem dX10_did_1 : decode cX10_did 1 = .ok (.invokevirtual 179, 3) := by decide +kernel
theorem dX10_did_4 : decode cX10_did 4 = .ok (.ifCond .ne 19, 3) := by decide +kernel
theorem dX10_did_7 : decode cX10_did 7 = .ok (.iload_n 1, 1) := by decide +kernel
theorem dX10_did_8 : decode cX10_did 8 = .ok (.ifCond .lt 15, 3) := by decide +kernel
theorem dX10_did_11 : decode cX10_did 11 = .ok (.iload_n 1, 1) := by decide +kernel
theorem dX10_did_12 : decode cX10_did 12 = .ok (.iconst 3, 1) := by decide +kernel
theorem dX10_did_13 : decode cX10_did 13 = .ok (.if_icmp .gt 10, 3) := by decide +kernel
theorem dX10_did_16 : decode cX10_did 16 = .ok (.iload_n 2, 1) := by decide +kernel
theorem dX10_did_17 : decode cX10_did 17 = .ok (.invokestatic 185, 3) := by decide +kernel
theorem dX10_did_20 : decode cX10_did 20 = .ok (.ifCond .ne 6, 3) := by decide +kernel
theorem dX10_did_23 : decode cX10_did 23 = .ok (.bipush (-2), 2) := by decide +kernel
theorem dX10_did_25 : decode cX10_did 25 = .ok (.ireturn, 1) := by decide +kernel
theorem dX10_did_26 : decode cX10_did 26 = .ok (.iconst 0, 1) := by decide +kernel
theorem dX10_did_27 : decode cX10_did 27 = .ok (.istore_n 3, 1) := by decide +kernel
theorem dX10_did_28 : decode cX10_did 28 = .ok (.iconst 0, 1) := by decide +kernel
theorem dX10_did_29 : decode cX10_did 29 = .ok (.istore 4, 2) := by decide +kernel
theorem dX10_did_31 : decode cX10_did 31 = .ok (.iconst 0, 1) := by decide +kernel
theorem dX10_did_32 : decode cX10_did 32 = .ok (.istore 5, 2) := by decide +kernel
theorem dX10_did_34 : decode cX10_did 34 = .ok (.iload 5, 2) := by decide +kernel
theorem dX10_did_36 : decode cX10_did 36 = .ok (.aload_n 0, 1) := by decide +kernel
theorem dX10_did_37 : decode cX10_did 37 = .ok (.getfield 19, 3) := by decide +kernel
theorem dX10_did_40 : decode cX10_did 40 = .ok (.getfield 133, 3) := by decide +kernel
theorem dX10_did_43 : decode cX10_did 43 = .ok (.if_icmp .ge 41, 3) := by decide +kernel
theorem dX10_did_46 : decode cX10_did 46 = .ok (.aload_n 0, 1) := by decide +kernel
theorem dX10_did_47 : decode cX10_did 47 = .ok (.getfield 19, 3) := by decide +kernel
theorem dX10_did_50 : decode cX10_did 50 = .ok (.getfield 367, 3) := by decide +kernel
theorem dX10_did_53 : decode cX10_did 53 = .ok (.iload 5, 2) := by decide +kernel
theorem dX10_did_55 : decode cX10_did 55 = .ok (.iaload, 1) := by decide +kernel
theorem dX10_did_56 : decode cX10_did 56 = .ok (.iload_n 1, 1) := by decide +kernel
theorem dX10_did_57 : decode cX10_did 57 = .ok (.if_icmp .ne 21, 3) := by decide +kernel
theorem dX10_did_60 : decode cX10_did 60 = .ok (.iinc 3 1, 3) := by decide +kernel
theorem dX10_did_63 : decode cX10_did 63 = .ok (.iload 4, 2) := by decide +kernel
theorem dX10_did_65 : decode cX10_did 65 = .ok (.aload_n 0, 1) := by decide +kernel
theorem dX10_did_66 : decode cX10_did 66 = .ok (.getfield 19, 3) := by decide +kernel
theorem dX10_did_69 : decode cX10_did 69 = .ok (.getfield 370, 3) := by decide +kernel
theorem dX10_did_72 : decode cX10_did 72 = .ok (.iload 5, 2) := by decide +kernel
theorem dX10_did_74 : decode cX10_did 74 = .ok (.iaload, 1) := by decide +kernel
theorem dX10_did_75 : decode cX10_did 75 = .ok (.iadd, 1) := by decide +kernel
theorem dX10_did_76 : decode cX10_did 76 = .ok (.istore 4, 2) := by decide +kernel
theorem dX10_did_78 : decode cX10_did 78 = .ok (.iinc 5 1, 3) := by decide +kernel
theorem dX10_did_81 : decode cX10_did 81 = .ok (.goto (-47), 3) := by decide +kernel
theorem dX10_did_84 : decode cX10_did 84 = .ok (.iload_n 2, 1) := by decide +kernel
theorem dX10_did_85 : decode cX10_did 85 = .ok (.ifCond .ne 7, 3) := by decide +kernel
theorem dX10_did_88 : decode cX10_did 88 = .ok (.iload_n 3, 1) := by decide +kernel
theorem dX10_did_89 : decode cX10_did 89 = .ok (.goto 5, 3) := by decide +kernel
theorem dX10_did_92 : decode cX10_did 92 = .ok (.iload 4, 2) := by decide +kernel
theorem dX10_did_94 : decode cX10_did 94 = .ok (.ireturn, 1) := by decide +kernel
theorem dX10_image_0 : decode cX10_image 0 = .ok (.iload_n 1, 1) := by decide +kernel
theorem dX10_image_1 : decode cX10_image 1 = .ok (.ifCond .lt 8, 3) := by decide +kernel
theorem dX10_image_4 : decode cX10_image 4 = .ok (.iload_n 1, 1) := by decide +kernel
theorem dX10_image_5 : decode cX10_image 5 = .ok (.iconst 3, 1) := by decide +kernel
theorem dX10_image_6 : decode cX10_image 6 = .ok (.if_icmp .lt 6, 3) := by decide +kernel
theorem dX10_image_9 : decode cX10_image 9 = .ok (.bipush (-2), 2) := by decide +kernel
theorem dX10_image_11 : decode cX10_image 11 = .ok (.ireturn, 1) := by decide +kernel
theorem dX10_image_12 : decode cX10_image 12 = .ok (.aload_n 0, 1) := by decide +kernel
theorem dX10_image_13 : decode cX10_image 13 = .ok (.getfield 23, 3) := by decide +kernel
theorem dX10_image_16 : decode cX10_image 16 = .ok (.iload_n 1, 1) := by decide +kernel
theorem dX10_image_17 : decode cX10_image 17 = .ok (.aaload, 1) := by decide +kernel
theorem dX10_image_18 : decode cX10_image 18 = .ok (.aload_n 0, 1) := by decide +kernel
theorem dX10_image_19 : decode cX10_image 19 = .ok (.getfield 19, 3) := by decide +kernel
theorem dX10_image_22 : decode cX10_image 22 = .ok (.invokevirtual 102, 3) := by decide +kernel
theorem dX10_image_25 : decode cX10_image 25 = .ok (.aload_n 0, 1) := by decide +kernel
theorem dX10_image_26 : decode cX10_image 26 = .ok (.getfield 27, 3) := by decide +kernel
theorem dX10_image_29 : decode cX10_image 29 = .ok (.iload_n 1, 1) := by decide +kernel
theorem dX10_image_30 : decode cX10_image 30 = .ok (.iconst 1, 1) := by decide +kernel
theorem dX10_image_31 : decode cX10_image 31 = .ok (.bastore, 1) := by decide +kernel
theorem dX10_image_32 : decode cX10_image 32 = .ok (.iconst 0, 1) := by decide +kernel
theorem dX10_image_33 : decode cX10_image 33 = .ok (.ireturn, 1) := by decide +kernel
theorem dX10_back_0 : decode cX10_back 0 = .ok (.iload_n 1, 1) := by decide +kernel
theorem dX10_back_1 : decode cX10_back 1 = .ok (.ifCond .lt 8, 3) := by decide +kernel
theorem dX10_back_4 : decode cX10_back 4 = .ok (.iload_n 1, 1) := by decide +kernel
theorem dX10_back_5 : decode cX10_back 5 = .ok (.iconst 3, 1) := by decide +kernel
theorem dX10_back_6 : decode cX10_back 6 = .ok (.if_icmp .lt 6, 3) := by decide +kernel
theorem dX10_back_9 : decode cX10_back 9 = .ok (.bipush (-2), 2) := by decide +kernel
theorem dX10_back_11 : decode cX10_back 11 = .ok (.ireturn, 1) := by decide +kernel
theorem dX10_back_12 : decode cX10_back 12 = .ok (.aload_n 0, 1) := by decide +kernel
theorem dX10_back_13 : decode cX10_back 13 = .ok (.getfield 27, 3) := by decide +kernel
theorem dX10_back_16 : decode cX10_back 16 = .ok (.iload_n 1, 1) := by decide +kernel
theorem dX10_back_17 : decode cX10_back 17 = .ok (.baload, 1) := by decide +kernel
theorem dX10_back_18 : decode cX10_back 18 = .ok (.ifCond .ne 6, 3) := by decide +kernel
theorem dX10_back_21 : decode cX10_back 21 = .ok (.bipush (-6), 2) := by decide +kernel
theorem dX10_back_23 : decode cX10_back 23 = .ok (.ireturn, 1) := by decide +kernel
theorem dX10_back_24 : decode cX10_back 24 = .ok (.aload_n 0, 1) := by decide +kernel
theorem dX10_back_25 : decode cX10_back 25 = .ok (.getfield 19, 3) := by decide +kernel
theorem dX10_back_28 : decode cX10_back 28 = .ok (.aload_n 0, 1) := by decide +kernel
theorem dX10_back_29 : decode cX10_back 29 = .ok (.getfield 23, 3) := by decide +kernel
theorem dX10_back_32 : decode cX10_back 32 = .ok (.iload_n 1, 1) := by decide +kernel
theorem dX10_back_33 : decode cX10_back 33 = .ok (.aaload, 1) := by decide +kernel
theorem dX10_back_34 : decode cX10_back 34 = .ok (.invokevirtual 102, 3) := by decide +kernel
theorem dX10_back_37 : decode cX10_back 37 = .ok (.aload_n 0, 1) := by decide +kernel
theorem dX10_back_38 : decode cX10_back 38 = .ok (.invokevirtual 106, 3) := by decide +kernel
theorem dX10_back_41 : decode cX10_back 41 = .ok (.iconst 0, 1) := by decide +kernel
theorem dX10_back_42 : decode cX10_back 42 = .ok (.ireturn, 1) := by decide +kernel
theorem dX10_undo_0 : decode cX10_undo 0 = .ok (.aload_n 0, 1) := by decide +kernel
theorem dX10_undo_1 : decode cX10_undo 1 = .ok (.invokevirtual 179, 3) := by decide +kernel
theorem dX10_undo_4 : decode cX10_undo 4 = .ok (.ifCond .eq 6, 3) := by decide +kernel
theorem dX10_undo_7 : decode cX10_undo 7 = .ok (.bipush (-2), 2) := by decide +kernel
theorem dX10_undo_9 : decode cX10_undo 9 = .ok (.ireturn, 1) := by decide +kernel
theorem dX10_undo_10 : decode cX10_undo 10 = .ok (.aload_n 0, 1) := by decide +kernel
theorem dX10_undo_11 : decode cX10_undo 11 = .ok (.getfield 19, 3) := by decide +kernel
theorem dX10_undo_14 : decode cX10_undo 14 = .ok (.getfield 133, 3) := by decide +kernel
theorem dX10_undo_17 : decode cX10_undo 17 = .ok (.ifCond .ne 6, 3) := by decide +kernel
theorem dX10_undo_20 : decode cX10_undo 20 = .ok (.bipush (-5), 2) := by decide +kernel
theorem dX10_undo_22 : decode cX10_undo 22 = .ok (.ireturn, 1) := by decide +kernel
theorem dX10_undo_23 : decode cX10_undo 23 = .ok (.aload_n 0, 1) := by decide +kernel
theorem dX10_undo_24 : decode cX10_undo 24 = .ok (.getfield 19, 3) := by decide +kernel
theorem dX10_undo_27 : decode cX10_undo 27 = .ok (.invokevirtual 373, 3) := by decide +kernel
theorem dX10_undo_30 : decode cX10_undo 30 = .ok (.aload_n 0, 1) := by decide +kernel
theorem dX10_undo_31 : decode cX10_undo 31 = .ok (.invokevirtual 106, 3) := by decide +kernel
theorem dX10_undo_34 : decode cX10_undo 34 = .ok (.aload_n 0, 1) := by decide +kernel
theorem dX10_undo_35 : decode cX10_undo 35 = .ok (.getfield 19, 3) := by decide +kernel
theorem dX10_undo_38 : decode cX10_undo 38 = .ok (.getfield 133, 3) := by decide +kernel
theorem dX10_undo_41 : decode cX10_undo 41 = .ok (.ireturn, 1) := by decide +kernel
theorem dX10_anew_0 : decode cX10_anew 0 = .ok (.aload_n 0, 1) := by decide +kernel
theorem dX10_anew_1 : decode cX10_anew 1 = .ok (.invokevirtual 179, 3) := by decide +kernel
theorem dX10_anew_4 : decode cX10_anew 4 = .ok (.ifCond .eq 6, 3) := by decide +kernel
theorem dX10_anew_7 : decode cX10_anew 7 = .ok (.bipush (-2), 2) := by decide +kernel
theorem dX10_anew_9 : decode cX10_anew 9 = .ok (.ireturn, 1) := by decide +kernel
theorem dX10_anew_10 : decode cX10_anew 10 = .ok (.aload_n 0, 1) := by decide +kernel
theorem dX10_anew_11 : decode cX10_anew 11 = .ok (.getfield 19, 3) := by decide +kernel
theorem dX10_anew_14 : decode cX10_anew 14 = .ok (.getfield 133, 3) := by decide +kernel
theorem dX10_anew_17 : decode cX10_anew 17 = .ok (.istore_n 1, 1) := by decide +kernel
theorem dX10_anew_18 : decode cX10_anew 18 = .ok (.iconst 0, 1) := by decide +kernel
theorem dX10_anew_19 : decode cX10_anew 19 = .ok (.istore_n 2, 1) := by decide +kernel
theorem dX10_anew_20 : decode cX10_anew 20 = .ok (.iload_n 2, 1) := by decide +kernel
theorem dX10_anew_21 : decode cX10_anew 21 = .ok (.iload_n 1, 1) := by decide +kernel
theorem dX10_anew_22 : decode cX10_anew 22 = .ok (.if_icmp .ge 16, 3) := by decide +kernel
theorem dX10_anew_25 : decode cX10_anew 25 = .ok (.aload_n 0, 1) := by decide +kernel
theorem dX10_anew_26 : decode cX10_anew 26 = .ok (.getfield 19, 3) := by decide +kernel
theorem dX10_anew_29 : decode cX10_anew 29 = .ok (.invokevirtual 373, 3) := by decide +kernel
theorem dX10_anew_32 : decode cX10_anew 32 = .ok (.iinc 2 1, 3) := by decide +kernel
theorem dX10_anew_35 : decode cX10_anew 35 = .ok (.goto (-15), 3) := by decide +kernel
theorem dX10_anew_38 : decode cX10_anew 38 = .ok (.aload_n 0, 1) := by decide +kernel
theorem dX10_anew_39 : decode cX10_anew 39 = .ok (.invokevirtual 106, 3) := by decide +kernel
theorem dX10_anew_42 : decode cX10_anew 42 = .ok (.iload_n 1, 1) := by decide +kernel
theorem dX10_anew_43 : decode cX10_anew 43 = .ok (.ireturn, 1) := by decide +kernel
theorem dX10_noGrid_0 : decode cX10_noGrid 0 = .ok (.aload_n 0, 1) := by decide +kernel
theorem dX10_noGrid_1 : decode cX10_noGrid 1 = .ok (.getfield 19, 3) := by decide +kernel
theorem dX10_noGrid_4 : decode cX10_noGrid 4 = .ok (.getfield 213, 3) := by decide +kernel
theorem dX10_noGrid_7 : decode cX10_noGrid 7 = .ok (.ifCond .ne 7, 3) := by decide +kernel
theorem dX10_noGrid_10 : decode cX10_noGrid 10 = .ok (.iconst 1, 1) := by decide +kernel
theorem dX10_noGrid_11 : decode cX10_noGrid 11 = .ok (.goto 4, 3) := by decide +kernel
theorem dX10_noGrid_14 : decode cX10_noGrid 14 = .ok (.iconst 0, 1) := by decide +kernel
theorem dX10_noGrid_15 : decode cX10_noGrid 15 = .ok (.ireturn, 1) := by decide +kernel
theorem dX10_hasNode_0 : decode cX10_hasNode 0 = .ok (.iload_n 1, 1) := by decide +kernel
theorem dX10_hasNode_1 : decode cX10_hasNode 1 = .ok (.ifCond .lt 18, 3) := by decide +kernel
theorem dX10_hasNode_4 : decode cX10_hasNode 4 = .ok (.iload_n 1, 1) := by decide +kernel
theorem dX10_hasNode_5 : decode cX10_hasNode 5 = .ok (.aload_n 0, 1) := by decide +kernel
theorem dX10_hasNode_6 : decode cX10_hasNode 6 = .ok (.getfield 19, 3) := by decide +kernel
theorem dX10_hasNode_9 : decode cX10_hasNode 9 = .ok (.getfield 213, 3) := by decide +kernel
theorem dX10_hasNode_12 : decode cX10_hasNode 12 = .ok (.if_icmp .ge 7, 3) := by decide +kernel
theorem dX10_hasNode_15 : decode cX10_hasNode 15 = .ok (.iconst 1, 1) := by decide +kernel
theorem dX10_hasNode_16 : decode cX10_hasNode 16 = .ok (.goto 4, 3) := by decide +kernel
theorem dX10_hasNode_19 : decode cX10_hasNode 19 = .ok (.iconst 0, 1) := by decide +kernel
theorem dX10_hasNode_20 : decode cX10_hasNode 20 = .ok (.ireturn, 1) := by decide +kernel
theorem dX10_hasStrap_0 : decode cX10_hasStrap 0 = .ok (.iload_n 1, 1) := by decide +kernel
theorem dX10_hasStrap_1 : decode cX10_hasStrap 1 = .ok (.ifCond .lt 18, 3) := by decide +kernel
theorem dX10_hasStrap_4 : decode cX10_hasStrap 4 = .ok (.iload_n 1, 1) := by decide +kernel
theorem dX10_hasStrap_5 : decode cX10_hasStrap 5 = .ok (.aload_n 0, 1) := by decide +kernel
theorem dX10_hasStrap_6 : decode cX10_hasStrap 6 = .ok (.getfield 19, 3) := by decide +kernel
theorem dX10_hasStrap_9 : decode cX10_hasStrap 9 = .ok (.getfield 130, 3) := by decide +kernel
theorem dX10_hasStrap_12 : decode cX10_hasStrap 12 = .ok (.if_icmp .ge 7, 3) := by decide +kernel
theorem dX10_hasStrap_15 : decode cX10_hasStrap 15 = .ok (.iconst 1, 1) := by decide +kernel
theorem dX10_hasStrap_16 : decode cX10_hasStrap 16 = .ok (.goto 4, 3) := by decide +kernel
theorem dX10_hasStrap_19 : decode cX10_hasStrap 19 = .ok (.iconst 0, 1) := by decide +kernel
theorem dX10_hasStrap_20 : decode cX10_hasStrap 20 = .ok (.ireturn, 1) := by decide +kernel
theorem dX10_isPart_0 : decode cX10_isPart 0 = .ok (.iload_n 0, 1) := by decide +kernel
theorem dX10_isPart_1 : decode cX10_isPart 1 = .ok (.ifCond .eq 8, 3) := by decide +kernel
theorem dX10_isPart_4 : decode cX10_isPart 4 = .ok (.iload_n 0, 1) := by decide +kernel
theorem dX10_isPart_5 : decode cX10_isPart 5 = .ok (.iconst 1, 1) := by decide +kernel
theorem dX10_isPart_6 : decode cX10_isPart 6 = .ok (.if_icmp .ne 7, 3) := by decide +kernel
theorem dX10_isPart_9 : decode cX10_isPart 9 = .ok (.iconst 1, 1) := by decide +kernel
theorem dX10_isPart_10 : decode cX10_isPart 10 = .ok (.goto 4, 3) := by decide +kernel
theorem dX10_isPart_13 : decode cX10_isPart 13 = .ok (.iconst 0, 1) := by decide +kernel
theorem dX10_isPart_14 : decode cX10_isPart 14 = .ok (.ireturn, 1) := by decide +kernel
theorem dX10_now_0 : decode cX10_now 0 = .ok (.aload_n 0, 1) := by decide +kernel
theorem dX10_now_1 : decode cX10_now 1 = .ok (.getfield 38, 3) := by decide +kernel
theorem dX10_now_4 : decode cX10_now 4 = .ok (.ifCond .ne 40, 3) := by decide +kernel
theorem dX10_now_7 : decode cX10_now 7 = .ok (.aload_n 0, 1) := by decide +kernel
theorem dX10_now_8 : decode cX10_now 8 = .ok (.getfield 34, 3) := by decide +kernel
theorem dX10_now_11 : decode cX10_now 11 = .ok (.aload_n 0, 1) := by decide +kernel
theorem dX10_now_12 : decode cX10_now 12 = .ok (.getfield 19, 3) := by decide +kernel
theorem dX10_now_15 : decode cX10_now 15 = .ok (.aload_n 0, 1) := by decide +kernel
theorem dX10_now_16 : decode cX10_now 16 = .ok (.getfield 19, 3) := by decide +kernel
theorem dX10_now_19 : decode cX10_now 19 = .ok (.getfield 157, 3) := by decide +kernel
theorem dX10_now_22 : decode cX10_now 22 = .ok (.aload_n 0, 1) := by decide +kernel
theorem dX10_now_23 : decode cX10_now 23 = .ok (.getfield 19, 3) := by decide +kernel
theorem dX10_now_26 : decode cX10_now 26 = .ok (.getfield 136, 3) := by decide +kernel
theorem dX10_now_29 : decode cX10_now 29 = .ok (.aload_n 0, 1) := by decide +kernel
theorem dX10_now_30 : decode cX10_now 30 = .ok (.getfield 19, 3) := by decide +kernel
theorem dX10_now_33 : decode cX10_now 33 = .ok (.getfield 170, 3) := by decide +kernel
theorem dX10_now_36 : decode cX10_now 36 = .ok (.invokevirtual 376, 3) := by decide +kernel
theorem dX10_now_39 : decode cX10_now 39 = .ok (.aload_n 0, 1) := by decide +kernel
theorem dX10_now_40 : decode cX10_now 40 = .ok (.iconst 1, 1) := by decide +kernel
theorem dX10_now_41 : decode cX10_now 41 = .ok (.putfield 38, 3) := by decide +kernel
theorem dX10_now_44 : decode cX10_now 44 = .ok (.aload_n 0, 1) := by decide +kernel
theorem dX10_now_45 : decode cX10_now 45 = .ok (.getfield 34, 3) := by decide +kernel
theorem dX10_now_48 : decode cX10_now 48 = .ok (.areturn, 1) := by decide +kernel
theorem dX10_forget_0 : decode cX10_forget 0 = .ok (.aload_n 0, 1) := by decide +kernel
theorem dX10_forget_1 : decode cX10_forget 1 = .ok (.iconst 0, 1) := by decide +kernel
theorem dX10_forget_2 : decode cX10_forget 2 = .ok (.putfield 38, 3) := by decide +kernel
theorem dX10_forget_5 : decode cX10_forget 5 = .ok (.aload_n 0, 1) := by decide +kernel
theorem dX10_forget_6 : decode cX10_forget 6 = .ok (.getfield 55, 3) := by decide +kernel
theorem dX10_forget_9 : decode cX10_forget 9 = .ok (.iconst 0, 1) := by decide +kernel
theorem dX10_forget_10 : decode cX10_forget 10 = .ok (.putfield 380, 3) := by decide +kernel
theorem dX10_forget_13 : decode cX10_forget 13 = .ok (.aload_n 0, 1) := by decide +kernel
theorem dX10_forget_14 : decode cX10_forget 14 = .ok (.getfield 62, 3) := by decide +kernel
theorem dX10_forget_17 : decode cX10_forget 17 = .ok (.invokevirtual 383, 3) := by decide +kernel
theorem dX10_forget_20 : decode cX10_forget 20 = .ok (.aload_n 0, 1) := by decide +kernel
theorem dX10_forget_21 : decode cX10_forget 21 = .ok (.getfield 69, 3) := by decide +kernel
theorem dX10_forget_24 : decode cX10_forget 24 = .ok (.invokevirtual 386, 3) := by decide +kernel
theorem dX10_forget_27 : decode cX10_forget 27 = .ok (.aload_n 0, 1) := by decide +kernel
theorem dX10_forget_28 : decode cX10_forget 28 = .ok (.getfield 76, 3) := by decide +kernel
theorem dX10_forget_31 : decode cX10_forget 31 = .ok (.invokevirtual 387, 3) := by decide +kernel
theorem dX10_forget_34 : decode cX10_forget 34 = .ok (.return_, 1) := by decide +kernel
theorem dX10_partOf_0 : decode cX10_partOf 0 = .ok (.lload_n 0, 1) := by decide +kernel
theorem dX10_partOf_1 : decode cX10_partOf 1 = .ok (.invokestatic 388, 3) := by decide +kernel
theorem dX10_partOf_4 : decode cX10_partOf 4 = .ok (.lload_n 2, 1) := by decide +kernel
theorem dX10_partOf_5 : decode cX10_partOf 5 = .ok (.invokestatic 392, 3) := by decide +kernel
theorem dX10_partOf_8 : decode cX10_partOf 8 = .ok (.lstore 5, 2) := by decide +kernel
theorem dX10_partOf_10 : decode cX10_partOf 10 = .ok (.lload 5, 2) := by decide +kernel
theorem dX10_partOf_12 : decode cX10_partOf 12 = .ok (.lconst 0, 1) := by decide +kernel
theorem dX10_partOf_13 : decode cX10_partOf 13 = .ok (.lcmp, 1) := by decide +kernel
theorem dX10_partOf_14 : decode cX10_partOf 14 = .ok (.ifCond .gt 14, 3) := by decide +kernel
theorem dX10_partOf_17 : decode cX10_partOf 17 = .ok (.iload 4, 2) := by decide +kernel
theorem dX10_partOf_19 : decode cX10_partOf 19 = .ok (.ifCond .ne 7, 3) := by decide +kernel
theorem dX10_partOf_22 : decode cX10_partOf 22 = .ok (.lconst 0, 1) := by decide +kernel
theorem dX10_partOf_23 : decode cX10_partOf 23 = .ok (.goto 4, 3) := by decide +kernel
theorem dX10_partOf_26 : decode cX10_partOf 26 = .ok (.lconst 1, 1) := by decide +kernel
theorem dX10_partOf_27 : decode cX10_partOf 27 = .ok (.lreturn, 1) := by decide +kernel
theorem dX10_partOf_28 : decode cX10_partOf 28 = .ok (.iload 4, 2) := by decide +kernel
theorem dX10_partOf_30 : decode cX10_partOf 30 = .ok (.ifCond .ne 10, 3) := by decide +kernel
theorem dX10_partOf_33 : decode cX10_partOf 33 = .ok (.lload_n 0, 1) := by decide +kernel
theorem dX10_partOf_34 : decode cX10_partOf 34 = .ok (.lload 5, 2) := by decide +kernel
theorem dX10_partOf_36 : decode cX10_partOf 36 = .ok (.ldiv, 1) := by decide +kernel
theorem dX10_partOf_37 : decode cX10_partOf 37 = .ok (.goto 7, 3) := by decide +kernel
theorem dX10_partOf_40 : decode cX10_partOf 40 = .ok (.lload_n 2, 1) := by decide +kernel
theorem dX10_partOf_41 : decode cX10_partOf 41 = .ok (.lload 5, 2) := by decide +kernel
theorem dX10_partOf_43 : decode cX10_partOf 43 = .ok (.ldiv, 1) := by decide +kernel
theorem dX10_partOf_44 : decode cX10_partOf 44 = .ok (.lreturn, 1) := by decide +kernel
theorem dX10_commonDivisor_0 : decode cX10_commonDivisor 0 = .ok (.lload_n 0, 1) := by decide +kernel
theorem dX10_commonDivisor_1 : decode cX10_commonDivisor 1 = .ok (.lstore 4, 2) := by decide +kernel
theorem dX10_commonDivisor_3 : decode cX10_commonDivisor 3 = .ok (.lload_n 2, 1) := by decide +kernel
theorem dX10_commonDivisor_4 : decode cX10_commonDivisor 4 = .ok (.lstore 6, 2) := by decide +kernel
theorem dX10_commonDivisor_6 : decode cX10_commonDivisor 6 = .ok (.iconst 0, 1) := by decide +kernel
theorem dX10_commonDivisor_7 : decode cX10_commonDivisor 7 = .ok (.istore 8, 2) := by decide +kernel
theorem dX10_commonDivisor_9 : decode cX10_commonDivisor 9 = .ok (.iload 8, 2) := by decide +kernel
theorem dX10_commonDivisor_11 : decode cX10_commonDivisor 11 = .ok (.bipush 100, 2) := by decide +kernel
theorem dX10_commonDivisor_13 : decode cX10_commonDivisor 13 = .ok (.if_icmp .ge 31, 3) := by decide +kernel
theorem dX10_commonDivisor_16 : decode cX10_commonDivisor 16 = .ok (.lload 6, 2) := by decide +kernel
theorem dX10_commonDivisor_18 : decode cX10_commonDivisor 18 = .ok (.lconst 0, 1) := by decide +kernel
theorem dX10_commonDivisor_19 : decode cX10_commonDivisor 19 = .ok (.lcmp, 1) := by decide +kernel
theorem dX10_commonDivisor_20 : decode cX10_commonDivisor 20 = .ok (.ifCond .eq 24, 3) := by decide +kernel
theorem dX10_commonDivisor_23 : decode cX10_commonDivisor 23 = .ok (.lload 4, 2) := by decide +kernel
theorem dX10_commonDivisor_25 : decode cX10_commonDivisor 25 = .ok (.lload 6, 2) := by decide +kernel
theorem dX10_commonDivisor_27 : decode cX10_commonDivisor 27 = .ok (.lrem, 1) := by decide +kernel
theorem dX10_commonDivisor_28 : decode cX10_commonDivisor 28 = .ok (.lstore 9, 2) := by decide +kernel
theorem dX10_commonDivisor_30 : decode cX10_commonDivisor 30 = .ok (.lload 6, 2) := by decide +kernel
theorem dX10_commonDivisor_32 : decode cX10_commonDivisor 32 = .ok (.lstore 4, 2) := by decide +kernel
theorem dX10_commonDivisor_34 : decode cX10_commonDivisor 34 = .ok (.lload 9, 2) := by decide +kernel
theorem dX10_commonDivisor_36 : decode cX10_commonDivisor 36 = .ok (.lstore 6, 2) := by decide +kernel
theorem dX10_commonDivisor_38 : decode cX10_commonDivisor 38 = .ok (.iinc 8 1, 3) := by decide +kernel
theorem dX10_commonDivisor_41 : decode cX10_commonDivisor 41 = .ok (.goto (-32), 3) := by decide +kernel
theorem dX10_commonDivisor_44 : decode cX10_commonDivisor 44 = .ok (.lload 4, 2) := by decide +kernel
theorem dX10_commonDivisor_46 : decode cX10_commonDivisor 46 = .ok (.lreturn, 1) := by decide +kernel
theorem dX11_init_0 : decode cX11_init 0 = .ok (.aload_n 0, 1) := by decide +kernel
theorem dX11_init_1 : decode cX11_init 1 = .ok (.invokespecial 3, 3) := by decide +kernel
theorem dX11_init_4 : decode cX11_init 4 = .ok (.aload_n 0, 1) := by decide +kernel
theorem dX11_init_5 : decode cX11_init 5 = .ok (.bipush 40, 2) := by decide +kernel
theorem dX11_init_7 : decode cX11_init 7 = .ok (.newarray .int, 2) := by decide +kernel
theorem dX11_init_9 : decode cX11_init 9 = .ok (.putfield 9, 3) := by decide +kernel
theorem dX11_init_12 : decode cX11_init 12 = .ok (.aload_n 0, 1) := by decide +kernel
theorem dX11_init_13 : decode cX11_init 13 = .ok (.bipush 40, 2) := by decide +kernel
theorem dX11_init_15 : decode cX11_init 15 = .ok (.newarray .int, 2) := by decide +kernel
theorem dX11_init_17 : decode cX11_init 17 = .ok (.putfield 13, 3) := by decide +kernel
theorem dX11_init_20 : decode cX11_init 20 = .ok (.aload_n 0, 1) := by decide +kernel
theorem dX11_init_21 : decode cX11_init 21 = .ok (.sipush 840, 3) := by decide +kernel
theorem dX11_init_24 : decode cX11_init 24 = .ok (.newarray .int, 2) := by decide +kernel
theorem dX11_init_26 : decode cX11_init 26 = .ok (.putfield 16, 3) := by decide +kernel
theorem dX11_init_29 : decode cX11_init 29 = .ok (.aload_n 0, 1) := by decide +kernel
theorem dX11_init_30 : decode cX11_init 30 = .ok (.sipush 2643, 3) := by decide +kernel
theorem dX11_init_33 : decode cX11_init 33 = .ok (.newarray .int, 2) := by decide +kernel
theorem dX11_init_35 : decode cX11_init 35 = .ok (.putfield 19, 3) := by decide +kernel
theorem dX11_init_38 : decode cX11_init 38 = .ok (.aload_n 0, 1) := by decide +kernel
theorem dX11_init_39 : decode cX11_init 39 = .ok (.iconst 3, 1) := by decide +kernel
theorem dX11_init_40 : decode cX11_init 40 = .ok (.newarray .boolean, 2) := by decide +kernel
theorem dX11_init_42 : decode cX11_init 42 = .ok (.putfield 22, 3) := by decide +kernel
theorem dX11_init_45 : decode cX11_init 45 = .ok (.aload_n 0, 1) := by decide +kernel
theorem dX11_init_46 : decode cX11_init 46 = .ok (.bipush 24, 2) := by decide +kernel
theorem dX11_init_48 : decode cX11_init 48 = .ok (.newarray .int, 2) := by decide +kernel
theorem dX11_init_50 : decode cX11_init 50 = .ok (.putfield 26, 3) := by decide +kernel
theorem dX11_init_53 : decode cX11_init 53 = .ok (.aload_n 0, 1) := by decide +kernel
theorem dX11_init_54 : decode cX11_init 54 = .ok (.sipush 700, 3) := by decide +kernel
theorem dX11_init_57 : decode cX11_init 57 = .ok (.newarray .byte, 2) := by decide +kernel
theorem dX11_init_59 : decode cX11_init 59 = .ok (.putfield 29, 3) := by decide +kernel
theorem dX11_init_62 : decode cX11_init 62 = .ok (.aload_n 0, 1) := by decide +kernel
theorem dX11_init_63 : decode cX11_init 63 = .ok (.iconst 5, 1) := by decide +kernel
theorem dX11_init_64 : decode cX11_init 64 = .ok (.newarray .int, 2) := by decide +kernel
theorem dX11_init_66 : decode cX11_init 66 = .ok (.putfield 33, 3) := by decide +kernel
theorem dX11_init_69 : decode cX11_init 69 = .ok (.aload_n 0, 1) := by decide +kernel
theorem dX11_init_70 : decode cX11_init 70 = .ok (.iconst (-1), 1) := by decide +kernel
theorem dX11_init_71 : decode cX11_init 71 = .ok (.putfield 36, 3) := by decide +kernel
theorem dX11_init_74 : decode cX11_init 74 = .ok (.aload_n 0, 1) := by decide +kernel
theorem dX11_init_75 : decode cX11_init 75 = .ok (.bipush 9, 2) := by decide +kernel
theorem dX11_init_77 : decode cX11_init 77 = .ok (.newarray .int, 2) := by decide +kernel
theorem dX11_init_79 : decode cX11_init 79 = .ok (.putfield 40, 3) := by decide +kernel
theorem dX11_init_82 : decode cX11_init 82 = .ok (.aload_n 0, 1) := by decide +kernel
theorem dX11_init_83 : decode cX11_init 83 = .ok (.bipush 9, 2) := by decide +kernel
theorem dX11_init_85 : decode cX11_init 85 = .ok (.newarray .int, 2) := by decide +kernel
theorem dX11_init_87 : decode cX11_init 87 = .ok (.putfield 43, 3) := by decide +kernel
theorem dX11_init_90 : decode cX11_init 90 = .ok (.aload_n 0, 1) := by decide +kernel
theorem dX11_init_91 : decode cX11_init 91 = .ok (.sipush 162, 3) := by decide +kernel
theorem dX11_init_94 : decode cX11_init 94 = .ok (.newarray .long, 2) := by decide +kernel
theorem dX11_init_96 : decode cX11_init 96 = .ok (.putfield 46, 3) := by decide +kernel
theorem dX11_init_99 : decode cX11_init 99 = .ok (.aload_n 0, 1) := by decide +kernel
theorem dX11_init_100 : decode cX11_init 100 = .ok (.lconst 1, 1) := by decide +kernel
theorem dX11_init_101 : decode cX11_init 101 = .ok (.putfield 50, 3) := by decide +kernel
theorem dX11_init_104 : decode cX11_init 104 = .ok (.aload_n 0, 1) := by decide +kernel
theorem dX11_init_105 : decode cX11_init 105 = .ok (.bipush 9, 2) := by decide +kernel
theorem dX11_init_107 : decode cX11_init 107 = .ok (.newarray .int, 2) := by decide +kernel
theorem dX11_init_109 : decode cX11_init 109 = .ok (.putfield 54, 3) := by decide +kernel
theorem dX11_init_112 : decode cX11_init 112 = .ok (.aload_n 0, 1) := by decide +kernel
theorem dX11_init_113 : decode cX11_init 113 = .ok (.bipush 9, 2) := by decide +kernel
theorem dX11_init_115 : decode cX11_init 115 = .ok (.newarray .int, 2) := by decide +kernel
theorem dX11_init_117 : decode cX11_init 117 = .ok (.putfield 57, 3) := by decide +kernel
theorem dX11_init_120 : decode cX11_init 120 = .ok (.aload_n 0, 1) := by decide +kernel
theorem dX11_init_121 : decode cX11_init 121 = .ok (.iconst 4, 1) := by decide +kernel
theorem dX11_init_122 : decode cX11_init 122 = .ok (.newarray .int, 2) := by decide +kernel
theorem dX11_init_124 : decode cX11_init 124 = .ok (.putfield 60, 3) := by decide +kernel
theorem dX11_init_127 : decode cX11_init 127 = .ok (.aload_n 0, 1) := by decide +kernel
theorem dX11_init_128 : decode cX11_init 128 = .ok (.bipush 40, 2) := by decide +kernel
theorem dX11_init_130 : decode cX11_init 130 = .ok (.newarray .int, 2) := by decide +kernel
theorem dX11_init_132 : decode cX11_init 132 = .ok (.putfield 63, 3) := by decide +kernel
theorem dX11_init_135 : decode cX11_init 135 = .ok (.aload_n 0, 1) := by decide +kernel
theorem dX11_init_136 : decode cX11_init 136 = .ok (.bipush 20, 2) := by decide +kernel
theorem dX11_init_138 : decode cX11_init 138 = .ok (.newarray .int, 2) := by decide +kernel
theorem dX11_init_140 : decode cX11_init 140 = .ok (.putfield 66, 3) := by decide +kernel
theorem dX11_init_143 : decode cX11_init 143 = .ok (.aload_n 0, 1) := by decide +kernel
theorem dX11_init_144 : decode cX11_init 144 = .ok (.iconst 3, 1) := by decide +kernel
theorem dX11_init_145 : decode cX11_init 145 = .ok (.newarray .int, 2) := by decide +kernel
theorem dX11_init_147 : decode cX11_init 147 = .ok (.putfield 69, 3) := by decide +kernel
theorem dX11_init_150 : decode cX11_init 150 = .ok (.return_, 1) := by decide +kernel
theorem dX11_in_0 : decode cX11_in 0 = .ok (.lload_n 0, 1) := by decide +kernel
theorem dX11_in_1 : decode cX11_in 1 = .ok (.lload_n 2, 1) := by decide +kernel
theorem dX11_in_2 : decode cX11_in 2 = .ok (.lcmp, 1) := by decide +kernel
theorem dX11_in_3 : decode cX11_in 3 = .ok (.ifCond .lt 14, 3) := by decide +kernel
theorem dX11_in_6 : decode cX11_in 6 = .ok (.lload_n 0, 1) := by decide +kernel
theorem dX11_in_7 : decode cX11_in 7 = .ok (.lload 4, 2) := by decide +kernel
theorem dX11_in_9 : decode cX11_in 9 = .ok (.lcmp, 1) := by decide +kernel
theorem dX11_in_10 : decode cX11_in 10 = .ok (.ifCond .gt 7, 3) := by decide +kernel
theorem dX11_in_13 : decode cX11_in 13 = .ok (.iconst 1, 1) := by decide +kernel
theorem dX11_in_14 : decode cX11_in 14 = .ok (.goto 4, 3) := by decide +kernel
theorem dX11_in_17 : decode cX11_in 17 = .ok (.iconst 0, 1) := by decide +kernel
theorem dX11_in_18 : decode cX11_in 18 = .ok (.ireturn, 1) := by decide +kernel
theorem dX11_isOf_0 : decode cX11_isOf 0 = .ok (.iload_n 0, 1) := by decide +kernel
theorem dX11_isOf_1 : decode cX11_isOf 1 = .ok (.iload_n 1, 1) := by decide +kernel
theorem dX11_isOf_2 : decode cX11_isOf 2 = .ok (.ishr, 1) := by decide +kernel
theorem dX11_isOf_3 : decode cX11_isOf 3 = .ok (.iconst 1, 1) := by decide +kernel
theorem dX11_isOf_4 : decode cX11_isOf 4 = .ok (.iand, 1) := by decide +kernel
theorem dX11_isOf_5 : decode cX11_isOf 5 = .ok (.iconst 1, 1) := by decide +kernel
theorem dX11_isOf_6 : decode cX11_isOf 6 = .ok (.if_icmp .ne 7, 3) := by decide +kernel
theorem dX11_isOf_9 : decode cX11_isOf 9 = .ok (.iconst 1, 1) := by decide +kernel
theorem dX11_isOf_10 : decode cX11_isOf 10 = .ok (.goto 4, 3) := by decide +kernel
theorem dX11_isOf_13 : decode cX11_isOf 13 = .ok (.iconst 0, 1) := by decide +kernel
theorem dX11_isOf_14 : decode cX11_isOf 14 = .ok (.ireturn, 1) := by decide +kernel
theorem dX11_bits_0 : decode cX11_bits 0 = .ok (.iconst 0, 1) := by decide +kernel
theorem dX11_bits_1 : decode cX11_bits 1 = .ok (.istore_n 1, 1) := by decide +kernel
theorem dX11_bits_2 : decode cX11_bits 2 = .ok (.iconst 0, 1) := by decide +kernel
theorem dX11_bits_3 : decode cX11_bits 3 = .ok (.istore_n 2, 1) := by decide +kernel
theorem dX11_bits_4 : decode cX11_bits 4 = .ok (.iload_n 2, 1) := by decide +kernel
theorem dX11_bits_5 : decode cX11_bits 5 = .ok (.bipush 9, 2) := by decide +kernel
theorem dX11_bits_7 : decode cX11_bits 7 = .ok (.if_icmp .ge 17, 3) := by decide +kernel
theorem dX11_bits_10 : decode cX11_bits 10 = .ok (.iload_n 1, 1) := by decide +kernel
theorem dX11_bits_11 : decode cX11_bits 11 = .ok (.iload_n 0, 1) := by decide +kernel
theorem dX11_bits_12 : decode cX11_bits 12 = .ok (.iload_n 2, 1) := by decide +kernel
theorem dX11_bits_13 : decode cX11_bits 13 = .ok (.ishr, 1) := by decide +kernel
theorem dX11_bits_14 : decode cX11_bits 14 = .ok (.iconst 1, 1) := by decide +kernel
theorem dX11_bits_15 : decode cX11_bits 15 = .ok (.iand, 1) := by decide +kernel
theorem dX11_bits_16 : decode cX11_bits 16 = .ok (.iadd, 1) := by decide +kernel
theorem dX11_bits_17 : decode cX11_bits 17 = .ok (.istore_n 1, 1) := by decide +kernel
theorem dX11_bits_18 : decode cX11_bits 18 = .ok (.iinc 2 1, 3) := by decide +kernel
theorem dX11_bits_21 : decode cX11_bits 21 = .ok (.goto (-17), 3) := by decide +kernel
theorem dX11_bits_24 : decode cX11_bits 24 = .ok (.iload_n 1, 1) := by decide +kernel
theorem dX11_bits_25 : decode cX11_bits 25 = .ok (.ireturn, 1) := by decide +kernel
theorem dX11_common_0 : decode cX11_common 0 = .ok (.lload_n 0, 1) := by decide +kernel
theorem dX11_common_1 : decode cX11_common 1 = .ok (.invokestatic 75, 3) := by decide +kernel
theorem dX11_common_4 : decode cX11_common 4 = .ok (.lstore 4, 2) := by decide +kernel
theorem dX11_common_6 : decode cX11_common 6 = .ok (.lload_n 2, 1) := by decide +kernel
theorem dX11_common_7 : decode cX11_common 7 = .ok (.invokestatic 75, 3) := by decide +kernel
theorem dX11_common_10 : decode cX11_common 10 = .ok (.lstore 6, 2) := by decide +kernel
theorem dX11_common_12 : decode cX11_common 12 = .ok (.lload 6, 2) := by decide +kernel
theorem dX11_common_14 : decode cX11_common 14 = .ok (.lconst 0, 1) := by decide +kernel
theorem dX11_common_15 : decode cX11_common 15 = .ok (.lcmp, 1) := by decide +kernel
theorem dX11_common_16 : decode cX11_common 16 = .ok (.ifCond .eq 21, 3) := by decide +kernel
theorem dX11_common_19 : decode cX11_common 19 = .ok (.lload 4, 2) := by decide +kernel
theorem dX11_common_21 : decode cX11_common 21 = .ok (.lload 6, 2) := by decide +kernel
theorem dX11_common_23 : decode cX11_common 23 = .ok (.lrem, 1) := by decide +kernel
theorem dX11_common_24 : decode cX11_common 24 = .ok (.lstore 8, 2) := by decide +kernel
theorem dX11_common_26 : decode cX11_common 26 = .ok (.lload 6, 2) := by decide +kernel
theorem dX11_common_28 : decode cX11_common 28 = .ok (.lstore 4, 2) := by decide +kernel
theorem dX11_common_30 : decode cX11_common 30 = .ok (.lload 8, 2) := by decide +kernel
theorem dX11_common_32 : decode cX11_common 32 = .ok (.lstore 6, 2) := by decide +kernel
theorem dX11_common_34 : decode cX11_common 34 = .ok (.goto (-22), 3) := by decide +kernel
theorem dX11_common_37 : decode cX11_common 37 = .ok (.lload 4, 2) := by decide +kernel
theorem dX11_common_39 : decode cX11_common 39 = .ok (.lreturn, 1) := by decide +kernel
theorem dX11_part_0 : decode cX11_part 0 = .ok (.lload_n 0, 1) := by decide +kernel
theorem dX11_part_1 : decode cX11_part 1 = .ok (.lload_n 2, 1) := by decide +kernel
theorem dX11_part_2 : decode cX11_part 2 = .ok (.invokestatic 81, 3) := by decide +kernel
theorem dX11_part_5 : decode cX11_part 5 = .ok (.lstore 5, 2) := by decide +kernel
theorem dX11_part_7 : decode cX11_part 7 = .ok (.iload 4, 2) := by decide +kernel
theorem dX11_part_9 : decode cX11_part 9 = .ok (.ifCond .ne 10, 3) := by decide +kernel
theorem dX11_part_12 : decode cX11_part 12 = .ok (.lload_n 0, 1) := by decide +kernel
theorem dX11_part_13 : decode cX11_part 13 = .ok (.lload 5, 2) := by decide +kernel
theorem dX11_part_15 : decode cX11_part 15 = .ok (.ldiv, 1) := by decide +kernel
theorem dX11_part_16 : decode cX11_part 16 = .ok (.goto 7, 3) := by decide +kernel
theorem dX11_part_19 : decode cX11_part 19 = .ok (.lload_n 2, 1) := by decide +kernel
theorem dX11_part_20 : decode cX11_part 20 = .ok (.lload 5, 2) := by decide +kernel
theorem dX11_part_22 : decode cX11_part 22 = .ok (.ldiv, 1) := by decide +kernel
theorem dX11_part_23 : decode cX11_part 23 = .ok (.lreturn, 1) := by decide +kernel
theorem dX11_compares_0 : decode cX11_compares 0 = .ok (.lload_n 0, 1) := by decide +kernel
theorem dX11_compares_1 : decode cX11_compares 1 = .ok (.lstore 8, 2) := by decide +kernel
theorem dX11_compares_3 : decode cX11_compares 3 = .ok (.lload_n 2, 1) := by decide +kernel
theorem dX11_compares_4 : decode cX11_compares 4 = .ok (.lstore 10, 2) := by decide +kernel
theorem dX11_compares_6 : decode cX11_compares 6 = .ok (.lload 4, 2) := by decide +kernel
theorem dX11_compares_8 : decode cX11_compares 8 = .ok (.lstore 12, 2) := by decide +kernel
theorem dX11_compares_10 : decode cX11_compares 10 = .ok (.lload 6, 2) := by decide +kernel
theorem dX11_compares_12 : decode cX11_compares 12 = .ok (.lstore 14, 2) := by decide +kernel
theorem dX11_compares_14 : decode cX11_compares 14 = .ok (.iconst 1, 1) := by decide +kernel
theorem dX11_compares_15 : decode cX11_compares 15 = .ok (.istore 16, 2) := by decide +kernel
theorem dX11_compares_17 : decode cX11_compares 17 = .ok (.lload 8, 2) := by decide +kernel
theorem dX11_compares_19 : decode cX11_compares 19 = .ok (.lload 10, 2) := by decide +kernel
theorem dX11_compares_21 : decode cX11_compares 21 = .ok (.ldiv, 1) := by decide +kernel
theorem dX11_compares_22 : decode cX11_compares 22 = .ok (.lload 12, 2) := by decide +kernel
theorem dX11_compares_24 : decode cX11_compares 24 = .ok (.lload 14, 2) := by decide +kernel
theorem dX11_compares_26 : decode cX11_compares 26 = .ok (.ldiv, 1) := by decide +kernel
theorem dX11_compares_27 : decode cX11_compares 27 = .ok (.lcmp, 1) := by decide +kernel
theorem dX11_compares_28 : decode cX11_compares 28 = .ok (.ifCond .eq 26, 3) := by decide +kernel
theorem dX11_compares_31 : decode cX11_compares 31 = .ok (.lload 8, 2) := by decide +kernel
theorem dX11_compares_33 : decode cX11_compares 33 = .ok (.lload 10, 2) := by decide +kernel
theorem dX11_compares_35 : decode cX11_compares 35 = .ok (.ldiv, 1) := by decide +kernel
theorem dX11_compares_36 : decode cX11_compares 36 = .ok (.lload 12, 2) := by decide +kernel
theorem dX11_compares_38 : decode cX11_compares 38 = .ok (.lload 14, 2) := by decide +kernel
theorem dX11_compares_40 : decode cX11_compares 40 = .ok (.ldiv, 1) := by decide +kernel
theorem dX11_compares_41 : decode cX11_compares 41 = .ok (.lcmp, 1) := by decide +kernel
theorem dX11_compares_42 : decode cX11_compares 42 = .ok (.ifCond .ge 9, 3) := by decide +kernel
theorem dX11_compares_45 : decode cX11_compares 45 = .ok (.iload 16, 2) := by decide +kernel
theorem dX11_compares_47 : decode cX11_compares 47 = .ok (.ineg, 1) := by decide +kernel
theorem dX11_compares_48 : decode cX11_compares 48 = .ok (.goto 5, 3) := by decide +kernel
theorem dX11_compares_51 : decode cX11_compares 51 = .ok (.iload 16, 2) := by decide +kernel
theorem dX11_compares_53 : decode cX11_compares 53 = .ok (.ireturn, 1) := by decide +kernel
theorem dX11_compares_54 : decode cX11_compares 54 = .ok (.lload 8, 2) := by decide +kernel
theorem dX11_compares_56 : decode cX11_compares 56 = .ok (.lload 10, 2) := by decide +kernel
theorem dX11_compares_58 : decode cX11_compares 58 = .ok (.lrem, 1) := by decide +kernel
theorem dX11_compares_59 : decode cX11_compares 59 = .ok (.lstore 17, 2) := by decide +kernel
theorem dX11_compares_61 : decode cX11_compares 61 = .ok (.lload 12, 2) := by decide +kernel
theorem dX11_compares_63 : decode cX11_compares 63 = .ok (.lload 14, 2) := by decide +kernel
theorem dX11_compares_65 : decode cX11_compares 65 = .ok (.lrem, 1) := by decide +kernel
theorem dX11_compares_66 : decode cX11_compares 66 = .ok (.lstore 19, 2) := by decide +kernel
theorem dX11_compares_68 : decode cX11_compares 68 = .ok (.lload 17, 2) := by decide +kernel
theorem dX11_compares_70 : decode cX11_compares 70 = .ok (.lconst 0, 1) := by decide +kernel
theorem dX11_compares_71 : decode cX11_compares 71 = .ok (.lcmp, 1) := by decide +kernel
theorem dX11_compares_72 : decode cX11_compares 72 = .ok (.ifCond .eq 10, 3) := by decide +kernel
theorem dX11_compares_75 : decode cX11_compares 75 = .ok (.lload 19, 2) := by decide +kernel
theorem dX11_compares_77 : decode cX11_compares 77 = .ok (.lconst 0, 1) := by decide +kernel
theorem dX11_compares_78 : decode cX11_compares 78 = .ok (.lcmp, 1) := by decide +kernel
theorem dX11_compares_79 : decode cX11_compares 79 = .ok (.ifCond .ne 31, 3) := by decide +kernel
theorem dX11_compares_82 : decode cX11_compares 82 = .ok (.lload 17, 2) := by decide +kernel
theorem dX11_compares_84 : decode cX11_compares 84 = .ok (.lload 19, 2) := by decide +kernel
theorem dX11_compares_86 : decode cX11_compares 86 = .ok (.lcmp, 1) := by decide +kernel
theorem dX11_compares_87 : decode cX11_compares 87 = .ok (.ifCond .ne 7, 3) := by decide +kernel
theorem dX11_compares_90 : decode cX11_compares 90 = .ok (.iconst 0, 1) := by decide +kernel
theorem dX11_compares_91 : decode cX11_compares 91 = .ok (.goto 18, 3) := by decide +kernel
theorem dX11_compares_94 : decode cX11_compares 94 = .ok (.lload 17, 2) := by decide +kernel
theorem dX11_compares_96 : decode cX11_compares 96 = .ok (.lconst 0, 1) := by decide +kernel
theorem dX11_compares_97 : decode cX11_compares 97 = .ok (.lcmp, 1) := by decide +kernel
theorem dX11_compares_98 : decode cX11_compares 98 = .ok (.ifCond .ne 9, 3) := by decide +kernel
theorem dX11_compares_101 : decode cX11_compares 101 = .ok (.iload 16, 2) := by decide +kernel
theorem dX11_compares_103 : decode cX11_compares 103 = .ok (.ineg, 1) := by decide +kernel
theorem dX11_compares_104 : decode cX11_compares 104 = .ok (.goto 5, 3) := by decide +kernel
theorem dX11_compares_107 : decode cX11_compares 107 = .ok (.iload 16, 2) := by decide +kernel
theorem dX11_compares_109 : decode cX11_compares 109 = .ok (.ireturn, 1) := by decide +kernel
theorem dX11_compares_110 : decode cX11_compares 110 = .ok (.lload 10, 2) := by decide +kernel
theorem dX11_compares_112 : decode cX11_compares 112 = .ok (.lstore 8, 2) := by decide +kernel
theorem dX11_compares_114 : decode cX11_compares 114 = .ok (.lload 17, 2) := by decide +kernel
theorem dX11_compares_116 : decode cX11_compares 116 = .ok (.lstore 10, 2) := by decide +kernel
theorem dX11_compares_118 : decode cX11_compares 118 = .ok (.lload 14, 2) := by decide +kernel
theorem dX11_compares_120 : decode cX11_compares 120 = .ok (.lstore 12, 2) := by decide +kernel
theorem dX11_compares_122 : decode cX11_compares 122 = .ok (.lload 19, 2) := by decide +kernel
theorem dX11_compares_124 : decode cX11_compares 124 = .ok (.lstore 14, 2) := by decide +kernel
theorem dX11_compares_126 : decode cX11_compares 126 = .ok (.iload 16, 2) := by decide +kernel
theorem dX11_compares_128 : decode cX11_compares 128 = .ok (.ineg, 1) := by decide +kernel
theorem dX11_compares_129 : decode cX11_compares 129 = .ok (.istore 16, 2) := by decide +kernel
theorem dX11_compares_131 : decode cX11_compares 131 = .ok (.goto (-114), 3) := by decide +kernel
theorem dX11_image_0 : decode cX11_image 0 = .ok (.iload_n 1, 1) := by decide +kernel
theorem dX11_image_1 : decode cX11_image 1 = .ok (.i2l, 1) := by decide +kernel
theorem dX11_image_2 : decode cX11_image 2 = .ok (.lconst 0, 1) := by decide +kernel
theorem dX11_image_3 : decode cX11_image 3 = .ok (.ldc2_w 85, 3) := by decide +kernel
theorem dX11_image_6 : decode cX11_image 6 = .ok (.invokestatic 87, 3) := by decide +kernel
theorem dX11_image_9 : decode cX11_image 9 = .ok (.ifCond .ne 6, 3) := by decide +kernel
theorem dX11_image_12 : decode cX11_image 12 = .ok (.bipush (-2), 2) := by decide +kernel
theorem dX11_image_14 : decode cX11_image 14 = .ok (.ireturn, 1) := by decide +kernel
theorem dX11_image_15 : decode cX11_image 15 = .ok (.sipush 881, 3) := by decide +kernel
theorem dX11_image_18 : decode cX11_image 18 = .ok (.iload_n 1, 1) := by decide +kernel
theorem dX11_image_19 : decode cX11_image 19 = .ok (.imul, 1) := by decide +kernel
theorem dX11_image_20 : decode cX11_image 20 = .ok (.istore_n 2, 1) := by decide +kernel
theorem dX11_image_21 : decode cX11_image 21 = .ok (.iconst 0, 1) := by decide +kernel
theorem dX11_image_22 : decode cX11_image 22 = .ok (.istore_n 3, 1) := by decide +kernel
theorem dX11_image_23 : decode cX11_image 23 = .ok (.iload_n 3, 1) := by decide +kernel
theorem dX11_image_24 : decode cX11_image 24 = .ok (.bipush 40, 2) := by decide +kernel
theorem dX11_image_26 : decode cX11_image 26 = .ok (.if_icmp .ge 23, 3) := by decide +kernel
theorem dX11_image_29 : decode cX11_image 29 = .ok (.aload_n 0, 1) := by decide +kernel
theorem dX11_image_30 : decode cX11_image 30 = .ok (.getfield 19, 3) := by decide +kernel
theorem dX11_image_33 : decode cX11_image 33 = .ok (.iload_n 2, 1) := by decide +kernel
theorem dX11_image_34 : decode cX11_image 34 = .ok (.iload_n 3, 1) := by decide +kernel
theorem dX11_image_35 : decode cX11_image 35 = .ok (.iadd, 1) := by decide +kernel
theorem dX11_image_36 : decode cX11_image 36 = .ok (.aload_n 0, 1) := by decide +kernel
theorem dX11_image_37 : decode cX11_image 37 = .ok (.getfield 9, 3) := by decide +kernel
theorem dX11_image_40 : decode cX11_image 40 = .ok (.iload_n 3, 1) := by decide +kernel
theorem dX11_image_41 : decode cX11_image 41 = .ok (.iaload, 1) := by decide +kernel
theorem dX11_image_42 : decode cX11_image 42 = .ok (.iastore, 1) := by decide +kernel
theorem dX11_image_43 : decode cX11_image 43 = .ok (.iinc 3 1, 3) := by decide +kernel
theorem dX11_image_46 : decode cX11_image 46 = .ok (.goto (-23), 3) := by decide +kernel
theorem dX11_image_49 : decode cX11_image 49 = .ok (.aload_n 0, 1) := by decide +kernel
theorem dX11_image_50 : decode cX11_image 50 = .ok (.getfield 19, 3) := by decide +kernel
theorem dX11_image_53 : decode cX11_image 53 = .ok (.iload_n 2, 1) := by decide +kernel
theorem dX11_image_54 : decode cX11_image 54 = .ok (.bipush 40, 2) := by decide +kernel
theorem dX11_image_56 : decode cX11_image 56 = .ok (.iadd, 1) := by decide +kernel
theorem dX11_image_57 : decode cX11_image 57 = .ok (.aload_n 0, 1) := by decide +kernel
theorem dX11_image_58 : decode cX11_image 58 = .ok (.getfield 91, 3) := by decide +kernel
theorem dX11_image_61 : decode cX11_image 61 = .ok (.iastore, 1) := by decide +kernel
theorem dX11_image_62 : decode cX11_image 62 = .ok (.iconst 0, 1) := by decide +kernel
theorem dX11_image_63 : decode cX11_image 63 = .ok (.istore_n 3, 1) := by decide +kernel
theorem dX11_image_64 : decode cX11_image 64 = .ok (.iload_n 3, 1) := by decide +kernel
theorem dX11_image_65 : decode cX11_image 65 = .ok (.sipush 840, 3) := by decide +kernel
theorem dX11_image_68 : decode cX11_image 68 = .ok (.if_icmp .ge 28, 3) := by decide +kernel
theorem dX11_image_71 : decode cX11_image 71 = .ok (.aload_n 0, 1) := by decide +kernel
theorem dX11_image_72 : decode cX11_image 72 = .ok (.getfield 19, 3) := by decide +kernel
theorem dX11_image_75 : decode cX11_image 75 = .ok (.iload_n 2, 1) := by decide +kernel
theorem dX11_image_76 : decode cX11_image 76 = .ok (.bipush 40, 2) := by decide +kernel
theorem dX11_image_78 : decode cX11_image 78 = .ok (.iadd, 1) := by decide +kernel
theorem dX11_image_79 : decode cX11_image 79 = .ok (.iconst 1, 1) := by decide +kernel
theorem dX11_image_80 : decode cX11_image 80 = .ok (.iadd, 1) := by decide +kernel
theorem dX11_image_81 : decode cX11_image 81 = .ok (.iload_n 3, 1) := by decide +kernel
theorem dX11_image_82 : decode cX11_image 82 = .ok (.iadd, 1) := by decide +kernel
theorem dX11_image_83 : decode cX11_image 83 = .ok (.aload_n 0, 1) := by decide +kernel
theorem dX11_image_84 : decode cX11_image 84 = .ok (.getfield 16, 3) := by decide +kernel
theorem dX11_image_87 : decode cX11_image 87 = .ok (.iload_n 3, 1) := by decide +kernel
theorem dX11_image_88 : decode cX11_image 88 = .ok (.iaload, 1) := by decide +kernel
theorem dX11_image_89 : decode cX11_image 89 = .ok (.iastore, 1) := by decide +kernel
theorem dX11_image_90 : decode cX11_image 90 = .ok (.iinc 3 1, 3) := by decide +kernel
theorem dX11_image_93 : decode cX11_image 93 = .ok (.goto (-29), 3) := by decide +kernel
theorem dX11_image_96 : decode cX11_image 96 = .ok (.aload_n 0, 1) := by decide +kernel
theorem dX11_image_97 : decode cX11_image 97 = .ok (.getfield 22, 3) := by decide +kernel
theorem dX11_image_100 : decode cX11_image 100 = .ok (.iload_n 1, 1) := by decide +kernel
theorem dX11_image_101 : decode cX11_image 101 = .ok (.iconst 1, 1) := by decide +kernel
theorem dX11_image_102 : decode cX11_image 102 = .ok (.bastore, 1) := by decide +kernel
theorem dX11_image_103 : decode cX11_image 103 = .ok (.iconst 0, 1) := by decide +kernel
theorem dX11_image_104 : decode cX11_image 104 = .ok (.ireturn, 1) := by decide +kernel
theorem dX11_back_0 : decode cX11_back 0 = .ok (.iload_n 1, 1) := by decide +kernel
theorem dX11_back_1 : decode cX11_back 1 = .ok (.i2l, 1) := by decide +kernel
theorem dX11_back_2 : decode cX11_back 2 = .ok (.lconst 0, 1) := by decide +kernel
theorem dX11_back_3 : decode cX11_back 3 = .ok (.ldc2_w 85, 3) := by decide +kernel
theorem dX11_back_6 : decode cX11_back 6 = .ok (.invokestatic 87, 3) := by decide +kernel
theorem dX11_back_9 : decode cX11_back 9 = .ok (.ifCond .ne 6, 3) := by decide +kernel
theorem dX11_back_12 : decode cX11_back 12 = .ok (.bipush (-2), 2) := by decide +kernel
theorem dX11_back_14 : decode cX11_back 14 = .ok (.ireturn, 1) := by decide +kernel
theorem dX11_back_15 : decode cX11_back 15 = .ok (.aload_n 0, 1) := by decide +kernel
theorem dX11_back_16 : decode cX11_back 16 = .ok (.getfield 22, 3) := by decide +kernel
theorem dX11_back_19 : decode cX11_back 19 = .ok (.iload_n 1, 1) := by decide +kernel
theorem dX11_back_20 : decode cX11_back 20 = .ok (.baload, 1) := by decide +kernel
theorem dX11_back_21 : decode cX11_back 21 = .ok (.ifCond .ne 6, 3) := by decide +kernel
theorem dX11_back_24 : decode cX11_back 24 = .ok (.bipush (-6), 2) := by decide +kernel
theorem dX11_back_26 : decode cX11_back 26 = .ok (.ireturn, 1) := by decide +kernel
theorem dX11_back_27 : decode cX11_back 27 = .ok (.sipush 881, 3) := by decide +kernel
theorem dX11_back_30 : decode cX11_back 30 = .ok (.iload_n 1, 1) := by decide +kernel
theorem dX11_back_31 : decode cX11_back 31 = .ok (.imul, 1) := by decide +kernel
theorem dX11_back_32 : decode cX11_back 32 = .ok (.istore_n 2, 1) := by decide +kernel
theorem dX11_back_33 : decode cX11_back 33 = .ok (.iconst 0, 1) := by decide +kernel
theorem dX11_back_34 : decode cX11_back 34 = .ok (.istore_n 3, 1) := by decide +kernel
theorem dX11_back_35 : decode cX11_back 35 = .ok (.iload_n 3, 1) := by decide +kernel
theorem dX11_back_36 : decode cX11_back 36 = .ok (.bipush 40, 2) := by decide +kernel
theorem dX11_back_38 : decode cX11_back 38 = .ok (.if_icmp .ge 23, 3) := by decide +kernel
theorem dX11_back_41 : decode cX11_back 41 = .ok (.aload_n 0, 1) := by decide +kernel
theorem dX11_back_42 : decode cX11_back 42 = .ok (.getfield 9, 3) := by decide +kernel
theorem dX11_back_45 : decode cX11_back 45 = .ok (.iload_n 3, 1) := by decide +kernel
theorem dX11_back_46 : decode cX11_back 46 = .ok (.aload_n 0, 1) := by decide +kernel
theorem dX11_back_47 : decode cX11_back 47 = .ok (.getfield 19, 3) := by decide +kernel
theorem dX11_back_50 : decode cX11_back 50 = .ok (.iload_n 2, 1) := by decide +kernel
theorem dX11_back_51 : decode cX11_back 51 = .ok (.iload_n 3, 1) := by decide +kernel
theorem dX11_back_52 : decode cX11_back 52 = .ok (.iadd, 1) := by decide +kernel
theorem dX11_back_53 : decode cX11_back 53 = .ok (.iaload, 1) := by decide +kernel
theorem dX11_back_54 : decode cX11_back 54 = .ok (.iastore, 1) := by decide +kernel
theorem dX11_back_55 : decode cX11_back 55 = .ok (.iinc 3 1, 3) := by decide +kernel
theorem dX11_back_58 : decode cX11_back 58 = .ok (.goto (-23), 3) := by decide +kernel
theorem dX11_back_61 : decode cX11_back 61 = .ok (.aload_n 0, 1) := by decide +kernel
theorem dX11_back_62 : decode cX11_back 62 = .ok (.aload_n 0, 1) := by decide +kernel
theorem dX11_back_63 : decode cX11_back 63 = .ok (.getfield 19, 3) := by decide +kernel
theorem dX11_back_66 : decode cX11_back 66 = .ok (.iload_n 2, 1) := by decide +kernel
theorem dX11_back_67 : decode cX11_back 67 = .ok (.bipush 40, 2) := by decide +kernel
theorem dX11_back_69 : decode cX11_back 69 = .ok (.iadd, 1) := by decide +kernel
theorem dX11_back_70 : decode cX11_back 70 = .ok (.iaload, 1) := by decide +kernel
theorem dX11_back_71 : decode cX11_back 71 = .ok (.putfield 91, 3) := by decide +kernel
theorem dX11_back_74 : decode cX11_back 74 = .ok (.iconst 0, 1) := by decide +kernel
theorem dX11_back_75 : decode cX11_back 75 = .ok (.istore_n 3, 1) := by decide +kernel
theorem dX11_back_76 : decode cX11_back 76 = .ok (.iload_n 3, 1) := by decide +kernel
theorem dX11_back_77 : decode cX11_back 77 = .ok (.sipush 840, 3) := by decide +kernel
theorem dX11_back_80 : decode cX11_back 80 = .ok (.if_icmp .ge 28, 3) := by decide +kernel
theorem dX11_back_83 : decode cX11_back 83 = .ok (.aload_n 0, 1) := by decide +kernel
theorem dX11_back_84 : decode cX11_back 84 = .ok (.getfield 16, 3) := by decide +kernel
theorem dX11_back_87 : decode cX11_back 87 = .ok (.iload_n 3, 1) := by decide +kernel
theorem dX11_back_88 : decode cX11_back 88 = .ok (.aload_n 0, 1) := by decide +kernel
theorem dX11_back_89 : decode cX11_back 89 = .ok (.getfield 19, 3) := by decide +kernel
theorem dX11_back_92 : decode cX11_back 92 = .ok (.iload_n 2, 1) := by decide +kernel
theorem dX11_back_93 : decode cX11_back 93 = .ok (.bipush 40, 2) := by decide +kernel
theorem dX11_back_95 : decode cX11_back 95 = .ok (.iadd, 1) := by decide +kernel
theorem dX11_back_96 : decode cX11_back 96 = .ok (.iconst 1, 1) := by decide +kernel
theorem dX11_back_97 : decode cX11_back 97 = .ok (.iadd, 1) := by decide +kernel
theorem dX11_back_98 : decode cX11_back 98 = .ok (.iload_n 3, 1) := by decide +kernel
theorem dX11_back_99 : decode cX11_back 99 = .ok (.iadd, 1) := by decide +kernel
theorem dX11_back_100 : decode cX11_back 100 = .ok (.iaload, 1) := by decide +kernel
theorem dX11_back_101 : decode cX11_back 101 = .ok (.iastore, 1) := by decide +kernel
theorem dX11_back_102 : decode cX11_back 102 = .ok (.iinc 3 1, 3) := by decide +kernel
theorem dX11_back_105 : decode cX11_back 105 = .ok (.goto (-29), 3) := by decide +kernel
theorem dX11_back_108 : decode cX11_back 108 = .ok (.iconst 0, 1) := by decide +kernel
theorem dX11_back_109 : decode cX11_back 109 = .ok (.ireturn, 1) := by decide +kernel
theorem dX11_isGrid_0 : decode cX11_isGrid 0 = .ok (.aload_n 0, 1) := by decide +kernel
theorem dX11_isGrid_1 : decode cX11_isGrid 1 = .ok (.getfield 9, 3) := by decide +kernel
theorem dX11_isGrid_4 : decode cX11_isGrid 4 = .ok (.iconst 4, 1) := by decide +kernel
theorem dX11_isGrid_5 : decode cX11_isGrid 5 = .ok (.iaload, 1) := by decide +kernel
theorem dX11_isGrid_6 : decode cX11_isGrid 6 = .ok (.ifCond .le 7, 3) := by decide +kernel
theorem dX11_isGrid_9 : decode cX11_isGrid 9 = .ok (.iconst 1, 1) := by decide +kernel
theorem dX11_isGrid_10 : decode cX11_isGrid 10 = .ok (.goto 4, 3) := by decide +kernel
theorem dX11_isGrid_13 : decode cX11_isGrid 13 = .ok (.iconst 0, 1) := by decide +kernel
theorem dX11_isGrid_14 : decode cX11_isGrid 14 = .ok (.ireturn, 1) := by decide +kernel
theorem dX11_nodesIn_0 : decode cX11_nodesIn 0 = .ok (.aload_n 0, 1) := by decide +kernel
theorem dX11_nodesIn_1 : decode cX11_nodesIn 1 = .ok (.iconst 0, 1) := by decide +kernel
theorem dX11_nodesIn_2 : decode cX11_nodesIn 2 = .ok (.iaload, 1) := by decide +kernel
theorem dX11_nodesIn_3 : decode cX11_nodesIn 3 = .ok (.aload_n 0, 1) := by decide +kernel
theorem dX11_nodesIn_4 : decode cX11_nodesIn 4 = .ok (.iconst 1, 1) := by decide +kernel
theorem dX11_nodesIn_5 : decode cX11_nodesIn 5 = .ok (.iaload, 1) := by decide +kernel
theorem dX11_nodesIn_6 : decode cX11_nodesIn 6 = .ok (.imul, 1) := by decide +kernel
theorem dX11_nodesIn_7 : decode cX11_nodesIn 7 = .ok (.ireturn, 1) := by decide +kernel
theorem dX11_nodes_0 : decode cX11_nodes 0 = .ok (.aload_n 0, 1) := by decide +kernel
theorem dX11_nodes_1 : decode cX11_nodes 1 = .ok (.getfield 9, 3) := by decide +kernel
theorem dX11_nodes_4 : decode cX11_nodes 4 = .ok (.invokestatic 94, 3) := by decide +kernel
theorem dX11_nodes_7 : decode cX11_nodes 7 = .ok (.ireturn, 1) := by decide +kernel
theorem dX11_isNode_0 : decode cX11_isNode 0 = .ok (.iload_n 1, 1) := by decide +kernel
theorem dX11_isNode_1 : decode cX11_isNode 1 = .ok (.i2l, 1) := by decide +kernel
theorem dX11_isNode_2 : decode cX11_isNode 2 = .ok (.lconst 0, 1) := by decide +kernel
theorem dX11_isNode_3 : decode cX11_isNode 3 = .ok (.aload_n 0, 1) := by decide +kernel
theorem dX11_isNode_4 : decode cX11_isNode 4 = .ok (.invokevirtual 98, 3) := by decide +kernel
theorem dX11_isNode_7 : decode cX11_isNode 7 = .ok (.iconst 1, 1) := by decide +kernel
theorem dX11_isNode_8 : decode cX11_isNode 8 = .ok (.isub, 1) := by decide +kernel
theorem dX11_isNode_9 : decode cX11_isNode 9 = .ok (.i2l, 1) := by decide +kernel
theorem dX11_isNode_10 : decode cX11_isNode 10 = .ok (.invokestatic 87, 3) := by decide +kernel
theorem dX11_isNode_13 : decode cX11_isNode 13 = .ok (.ireturn, 1) := by decide +kernel
theorem dX11_addsStrap_0 : decode cX11_addsStrap 0 = .ok (.aload_n 0, 1) := by decide +kernel
theorem dX11_addsStrap_1 : decode cX11_addsStrap 1 = .ok (.getfield 26, 3) := by decide +kernel
theorem dX11_addsStrap_4 : decode cX11_addsStrap 4 = .ok (.iconst 2, 1) := by decide +kernel
theorem dX11_addsStrap_5 : decode cX11_addsStrap 5 = .ok (.aload_n 0, 1) := by decide +kernel
theorem dX11_addsStrap_6 : decode cX11_addsStrap 6 = .ok (.getfield 102, 3) := by decide +kernel
theorem dX11_addsStrap_9 : decode cX11_addsStrap 9 = .ok (.imul, 1) := by decide +kernel
theorem dX11_addsStrap_10 : decode cX11_addsStrap 10 = .ok (.iload_n 1, 1) := by decide +kernel
theorem dX11_addsStrap_11 : decode cX11_addsStrap 11 = .ok (.iastore, 1) := by decide +kernel
theorem dX11_addsStrap_12 : decode cX11_addsStrap 12 = .ok (.aload_n 0, 1) := by decide +kernel
theorem dX11_addsStrap_13 : decode cX11_addsStrap 13 = .ok (.getfield 26, 3) := by decide +kernel
theorem dX11_addsStrap_16 : decode cX11_addsStrap 16 = .ok (.iconst 2, 1) := by decide +kernel
theorem dX11_addsStrap_17 : decode cX11_addsStrap 17 = .ok (.aload_n 0, 1) := by decide +kernel
theorem dX11_addsStrap_18 : decode cX11_addsStrap 18 = .ok (.getfield 102, 3) := by decide +kernel
theorem dX11_addsStrap_21 : decode cX11_addsStrap 21 = .ok (.imul, 1) := by decide +kernel
theorem dX11_addsStrap_22 : decode cX11_addsStrap 22 = .ok (.iconst 1, 1) := by decide +kernel
theorem dX11_addsStrap_23 : decode cX11_addsStrap 23 = .ok (.iadd, 1) := by decide +kernel
theorem dX11_addsStrap_24 : decode cX11_addsStrap 24 = .ok (.iload_n 2, 1) := by decide +kernel
theorem dX11_addsStrap_25 : decode cX11_addsStrap 25 = .ok (.iastore, 1) := by decide +kernel
theorem dX11_addsStrap_26 : decode cX11_addsStrap 26 = .ok (.aload_n 0, 1) := by decide +kernel
theorem dX11_addsStrap_27 : decode cX11_addsStrap 27 = .ok (.dup, 1) := by decide +kernel
theorem dX11_addsStrap_28 : decode cX11_addsStrap 28 = .ok (.getfield 102, 3) := by decide +kernel
theorem dX11_addsStrap_31 : decode cX11_addsStrap 31 = .ok (.iconst 1, 1) := by decide +kernel
theorem dX11_addsStrap_32 : decode cX11_addsStrap 32 = .ok (.iadd, 1) := by decide +kernel
theorem dX11_addsStrap_33 : decode cX11_addsStrap 33 = .ok (.putfield 102, 3) := by decide +kernel
theorem dX11_addsStrap_36 : decode cX11_addsStrap 36 = .ok (.return_, 1) := by decide +kernel
theorem dX11_laysStraps_0 : decode cX11_laysStraps 0 = .ok (.aload_n 0, 1) := by decide +kernel
theorem dX11_laysStraps_1 : decode cX11_laysStraps 1 = .ok (.iconst 0, 1) := by decide +kernel
theorem dX11_laysStraps_2 : decode cX11_laysStraps 2 = .ok (.putfield 102, 3) := by decide +kernel
theorem dX11_laysStraps_5 : decode cX11_laysStraps 5 = .ok (.iconst 0, 1) := by decide +kernel
theorem dX11_laysStraps_6 : decode cX11_laysStraps 6 = .ok (.istore_n 3, 1) := by decide +kernel
theorem dX11_laysStraps_7 : decode cX11_laysStraps 7 = .ok (.iload_n 3, 1) := by decide +kernel
theorem dX11_laysStraps_8 : decode cX11_laysStraps 8 = .ok (.iload_n 1, 1) := by decide +kernel
theorem dX11_laysStraps_9 : decode cX11_laysStraps 9 = .ok (.iload_n 2, 1) := by decide +kernel
theorem dX11_laysStraps_10 : decode cX11_laysStraps 10 = .ok (.imul, 1) := by decide +kernel
theorem dX11_laysStraps_11 : decode cX11_laysStraps 11 = .ok (.if_icmp .ge 43, 3) := by decide +kernel
theorem dX11_laysStraps_14 : decode cX11_laysStraps 14 = .ok (.iload_n 3, 1) := by decide +kernel
theorem dX11_laysStraps_15 : decode cX11_laysStraps 15 = .ok (.iload_n 1, 1) := by decide +kernel
theorem dX11_laysStraps_16 : decode cX11_laysStraps 16 = .ok (.irem, 1) := by decide +kernel
theorem dX11_laysStraps_17 : decode cX11_laysStraps 17 = .ok (.iload_n 1, 1) := by decide +kernel
theorem dX11_laysStraps_18 : decode cX11_laysStraps 18 = .ok (.iconst 1, 1) := by decide +kernel
theorem dX11_laysStraps_19 : decode cX11_laysStraps 19 = .ok (.isub, 1) := by decide +kernel
theorem dX11_laysStraps_20 : decode cX11_laysStraps 20 = .ok (.if_icmp .ge 11, 3) := by decide +kernel
theorem dX11_laysStraps_23 : decode cX11_laysStraps 23 = .ok (.aload_n 0, 1) := by decide +kernel
theorem dX11_laysStraps_24 : decode cX11_laysStraps 24 = .ok (.iload_n 3, 1) := by decide +kernel
theorem dX11_laysStraps_25 : decode cX11_laysStraps 25 = .ok (.iload_n 3, 1) := by decide +kernel
theorem dX11_laysStraps_26 : decode cX11_laysStraps 26 = .ok (.iconst 1, 1) := by decide +kernel
theorem dX11_laysStraps_27 : decode cX11_laysStraps 27 = .ok (.iadd, 1) := by decide +kernel
theorem dX11_laysStraps_28 : decode cX11_laysStraps 28 = .ok (.invokevirtual 105, 3) := by decide +kernel
theorem dX11_laysStraps_31 : decode cX11_laysStraps 31 = .ok (.iload_n 3, 1) := by decide +kernel
theorem dX11_laysStraps_32 : decode cX11_laysStraps 32 = .ok (.iload_n 1, 1) := by decide +kernel
theorem dX11_laysStraps_33 : decode cX11_laysStraps 33 = .ok (.idiv, 1) := by decide +kernel
theorem dX11_laysStraps_34 : decode cX11_laysStraps 34 = .ok (.iload_n 2, 1) := by decide +kernel
theorem dX11_laysStraps_35 : decode cX11_laysStraps 35 = .ok (.iconst 1, 1) := by decide +kernel
theorem dX11_laysStraps_36 : decode cX11_laysStraps 36 = .ok (.isub, 1) := by decide +kernel
theorem dX11_laysStraps_37 : decode cX11_laysStraps 37 = .ok (.if_icmp .ge 11, 3) := by decide +kernel
theorem dX11_laysStraps_40 : decode cX11_laysStraps 40 = .ok (.aload_n 0, 1) := by decide +kernel
theorem dX11_laysStraps_41 : decode cX11_laysStraps 41 = .ok (.iload_n 3, 1) := by decide +kernel
theorem dX11_laysStraps_42 : decode cX11_laysStraps 42 = .ok (.iload_n 3, 1) := by decide +kernel
theorem dX11_laysStraps_43 : decode cX11_laysStraps 43 = .ok (.iload_n 1, 1) := by decide +kernel
theorem dX11_laysStraps_44 : decode cX11_laysStraps 44 = .ok (.iadd, 1) := by decide +kernel
theorem dX11_laysStraps_45 : decode cX11_laysStraps 45 = .ok (.invokevirtual 105, 3) := by decide +kernel
theorem dX11_laysStraps_48 : decode cX11_laysStraps 48 = .ok (.iinc 3 1, 3) := by decide +kernel
theorem dX11_laysStraps_51 : decode cX11_laysStraps 51 = .ok (.goto (-44), 3) := by decide +kernel
theorem dX11_laysStraps_54 : decode cX11_laysStraps 54 = .ok (.return_, 1) := by decide +kernel
theorem dX11_straps_0 : decode cX11_straps 0 = .ok (.aload_n 0, 1) := by decide +kernel
theorem dX11_straps_1 : decode cX11_straps 1 = .ok (.invokevirtual 109, 3) := by decide +kernel
theorem dX11_straps_4 : decode cX11_straps 4 = .ok (.ifCond .ne 5, 3) := by decide +kernel
theorem dX11_straps_7 : decode cX11_straps 7 = .ok (.iconst 0, 1) := by decide +kernel
theorem dX11_straps_8 : decode cX11_straps 8 = .ok (.ireturn, 1) := by decide +kernel
theorem dX11_straps_9 : decode cX11_straps 9 = .ok (.aload_n 0, 1) := by decide +kernel
theorem dX11_straps_10 : decode cX11_straps 10 = .ok (.aload_n 0, 1) := by decide +kernel
theorem dX11_straps_11 : decode cX11_straps 11 = .ok (.getfield 9, 3) := by decide +kernel
theorem dX11_straps_14 : decode cX11_straps 14 = .ok (.iconst 0, 1) := by decide +kernel
theorem dX11_straps_15 : decode cX11_straps 15 = .ok (.iaload, 1) := by decide +kernel
theorem dX11_straps_16 : decode cX11_straps 16 = .ok (.aload_n 0, 1) := by decide +kernel
theorem dX11_straps_17 : decode cX11_straps 17 = .ok (.getfield 9, 3) := by decide +kernel
theorem dX11_straps_20 : decode cX11_straps 20 = .ok (.iconst 1, 1) := by decide +kernel
theorem dX11_straps_21 : decode cX11_straps 21 = .ok (.iaload, 1) := by decide +kernel
theorem dX11_straps_22 : decode cX11_straps 22 = .ok (.invokevirtual 113, 3) := by decide +kernel
theorem dX11_straps_25 : decode cX11_straps 25 = .ok (.aload_n 0, 1) := by decide +kernel
theorem dX11_straps_26 : decode cX11_straps 26 = .ok (.getfield 102, 3) := by decide +kernel
theorem dX11_straps_29 : decode cX11_straps 29 = .ok (.ireturn, 1) := by decide +kernel
theorem dX11_isStrap_0 : decode cX11_isStrap 0 = .ok (.iload_n 1, 1) := by decide +kernel
theorem dX11_isStrap_1 : decode cX11_isStrap 1 = .ok (.i2l, 1) := by decide +kernel
theorem dX11_isStrap_2 : decode cX11_isStrap 2 = .ok (.lconst 0, 1) := by decide +kernel
theorem dX11_isStrap_3 : decode cX11_isStrap 3 = .ok (.aload_n 0, 1) := by decide +kernel
theorem dX11_isStrap_4 : decode cX11_isStrap 4 = .ok (.invokevirtual 116, 3) := by decide +kernel
theorem dX11_isStrap_7 : decode cX11_isStrap 7 = .ok (.iconst 1, 1) := by decide +kernel
theorem dX11_isStrap_8 : decode cX11_isStrap 8 = .ok (.isub, 1) := by decide +kernel
theorem dX11_isStrap_9 : decode cX11_isStrap 9 = .ok (.i2l, 1) := by decide +kernel
theorem dX11_isStrap_10 : decode cX11_isStrap 10 = .ok (.invokestatic 87, 3) := by decide +kernel
theorem dX11_isStrap_13 : decode cX11_isStrap 13 = .ok (.ireturn, 1) := by decide +kernel
theorem dX11_strapOf_0 : decode cX11_strapOf 0 = .ok (.iconst 0, 1) := by decide +kernel
theorem dX11_strapOf_1 : decode cX11_strapOf 1 = .ok (.istore_n 3, 1) := by decide +kernel
theorem dX11_strapOf_2 : decode cX11_strapOf 2 = .ok (.iload_n 3, 1) := by decide +kernel
theorem dX11_strapOf_3 : decode cX11_strapOf 3 = .ok (.aload_n 0, 1) := by decide +kernel
theorem dX11_strapOf_4 : decode cX11_strapOf 4 = .ok (.getfield 102, 3) := by decide +kernel
theorem dX11_strapOf_7 : decode cX11_strapOf 7 = .ok (.if_icmp .ge 45, 3) := by decide +kernel
theorem dX11_strapOf_10 : decode cX11_strapOf 10 = .ok (.aload_n 0, 1) := by decide +kernel
theorem dX11_strapOf_11 : decode cX11_strapOf 11 = .ok (.getfield 26, 3) := by decide +kernel
theorem dX11_strapOf_14 : decode cX11_strapOf 14 = .ok (.iconst 2, 1) := by decide +kernel
theorem dX11_strapOf_15 : decode cX11_strapOf 15 = .ok (.iload_n 3, 1) := by decide +kernel
theorem dX11_strapOf_16 : decode cX11_strapOf 16 = .ok (.imul, 1) := by decide +kernel
theorem dX11_strapOf_17 : decode cX11_strapOf 17 = .ok (.iaload, 1) := by decide +kernel
theorem dX11_strapOf_18 : decode cX11_strapOf 18 = .ok (.iload_n 1, 1) := by decide +kernel
theorem dX11_strapOf_19 : decode cX11_strapOf 19 = .ok (.iload_n 2, 1) := by decide +kernel
theorem dX11_strapOf_20 : decode cX11_strapOf 20 = .ok (.invokestatic 119, 3) := by decide +kernel
theorem dX11_strapOf_23 : decode cX11_strapOf 23 = .ok (.if_icmp .ne 23, 3) := by decide +kernel
theorem dX11_strapOf_26 : decode cX11_strapOf 26 = .ok (.aload_n 0, 1) := by decide +kernel
theorem dX11_strapOf_27 : decode cX11_strapOf 27 = .ok (.getfield 26, 3) := by decide +kernel
theorem dX11_strapOf_30 : decode cX11_strapOf 30 = .ok (.iconst 2, 1) := by decide +kernel
theorem dX11_strapOf_31 : decode cX11_strapOf 31 = .ok (.iload_n 3, 1) := by decide +kernel
theorem dX11_strapOf_32 : decode cX11_strapOf 32 = .ok (.imul, 1) := by decide +kernel
theorem dX11_strapOf_33 : decode cX11_strapOf 33 = .ok (.iconst 1, 1) := by decide +kernel
theorem dX11_strapOf_34 : decode cX11_strapOf 34 = .ok (.iadd, 1) := by decide +kernel
theorem dX11_strapOf_35 : decode cX11_strapOf 35 = .ok (.iaload, 1) := by decide +kernel
theorem dX11_strapOf_36 : decode cX11_strapOf 36 = .ok (.iload_n 1, 1) := by decide +kernel
theorem dX11_strapOf_37 : decode cX11_strapOf 37 = .ok (.iload_n 2, 1) := by decide +kernel
theorem dX11_strapOf_38 : decode cX11_strapOf 38 = .ok (.invokestatic 123, 3) := by decide +kernel
theorem dX11_strapOf_41 : decode cX11_strapOf 41 = .ok (.if_icmp .ne 5, 3) := by decide +kernel
theorem dX11_strapOf_44 : decode cX11_strapOf 44 = .ok (.iload_n 3, 1) := by decide +kernel
theorem dX11_strapOf_45 : decode cX11_strapOf 45 = .ok (.ireturn, 1) := by decide +kernel
theorem dX11_strapOf_46 : decode cX11_strapOf 46 = .ok (.iinc 3 1, 3) := by decide +kernel
theorem dX11_strapOf_49 : decode cX11_strapOf 49 = .ok (.goto (-47), 3) := by decide +kernel
theorem dX11_strapOf_52 : decode cX11_strapOf 52 = .ok (.iconst (-1), 1) := by decide +kernel
theorem dX11_strapOf_53 : decode cX11_strapOf 53 = .ok (.ireturn, 1) := by decide +kernel
theorem dX11_feed_0 : decode cX11_feed 0 = .ok (.aload_n 0, 1) := by decide +kernel
theorem dX11_feed_1 : decode cX11_feed 1 = .ok (.getfield 126, 3) := by decide +kernel
theorem dX11_feed_4 : decode cX11_feed 4 = .ok (.bipush 20, 2) := by decide +kernel
theorem dX11_feed_6 : decode cX11_feed 6 = .ok (.iadd, 1) := by decide +kernel
theorem dX11_feed_7 : decode cX11_feed 7 = .ok (.sipush 700, 3) := by decide +kernel
theorem dX11_feed_10 : decode cX11_feed 10 = .ok (.if_icmp .le 5, 3) := by decide +kernel
theorem dX11_feed_13 : decode cX11_feed 13 = .ok (.iconst (-1), 1) := by decide +kernel
theorem dX11_feed_14 : decode cX11_feed 14 = .ok (.ireturn, 1) := by decide +kernel
theorem dX11_feed_15 : decode cX11_feed 15 = .ok (.aload_n 0, 1) := by decide +kernel
theorem dX11_feed_16 : decode cX11_feed 16 = .ok (.getfield 33, 3) := by decide +kernel
theorem dX11_feed_19 : decode cX11_feed 19 = .ok (.iconst 0, 1) := by decide +kernel
theorem dX11_feed_20 : decode cX11_feed 20 = .ok (.iload_n 1, 1) := by decide +kernel
theorem dX11_feed_21 : decode cX11_feed 21 = .ok (.iastore, 1) := by decide +kernel
theorem dX11_feed_22 : decode cX11_feed 22 = .ok (.aload_n 0, 1) := by decide +kernel
theorem dX11_feed_23 : decode cX11_feed 23 = .ok (.getfield 33, 3) := by decide +kernel
theorem dX11_feed_26 : decode cX11_feed 26 = .ok (.iconst 1, 1) := by decide +kernel
theorem dX11_feed_27 : decode cX11_feed 27 = .ok (.iload_n 2, 1) := by decide +kernel
theorem dX11_feed_28 : decode cX11_feed 28 = .ok (.iastore, 1) := by decide +kernel
theorem dX11_feed_29 : decode cX11_feed 29 = .ok (.aload_n 0, 1) := by decide +kernel
theorem dX11_feed_30 : decode cX11_feed 30 = .ok (.getfield 33, 3) := by decide +kernel
theorem dX11_feed_33 : decode cX11_feed 33 = .ok (.iconst 2, 1) := by decide +kernel
theorem dX11_feed_34 : decode cX11_feed 34 = .ok (.iload_n 3, 1) := by decide +kernel
theorem dX11_feed_35 : decode cX11_feed 35 = .ok (.iastore, 1) := by decide +kernel
theorem dX11_feed_36 : decode cX11_feed 36 = .ok (.aload_n 0, 1) := by decide +kernel
theorem dX11_feed_37 : decode cX11_feed 37 = .ok (.getfield 33, 3) := by decide +kernel
theorem dX11_feed_40 : decode cX11_feed 40 = .ok (.iconst 3, 1) := by decide +kernel
theorem dX11_feed_41 : decode cX11_feed 41 = .ok (.iload 4, 2) := by decide +kernel
theorem dX11_feed_43 : decode cX11_feed 43 = .ok (.iastore, 1) := by decide +kernel
theorem dX11_feed_44 : decode cX11_feed 44 = .ok (.aload_n 0, 1) := by decide +kernel
theorem dX11_feed_45 : decode cX11_feed 45 = .ok (.getfield 33, 3) := by decide +kernel
theorem dX11_feed_48 : decode cX11_feed 48 = .ok (.iconst 4, 1) := by decide +kernel
theorem dX11_feed_49 : decode cX11_feed 49 = .ok (.iload 5, 2) := by decide +kernel
theorem dX11_feed_51 : decode cX11_feed 51 = .ok (.iastore, 1) := by decide +kernel
theorem dX11_feed_52 : decode cX11_feed 52 = .ok (.iconst 0, 1) := by decide +kernel
theorem dX11_feed_53 : decode cX11_feed 53 = .ok (.istore 6, 2) := by decide +kernel
theorem dX11_feed_55 : decode cX11_feed 55 = .ok (.iload 6, 2) := by decide +kernel
theorem dX11_feed_57 : decode cX11_feed 57 = .ok (.bipush 20, 2) := by decide +kernel
theorem dX11_feed_59 : decode cX11_feed 59 = .ok (.if_icmp .ge 42, 3) := by decide +kernel
theorem dX11_feed_62 : decode cX11_feed 62 = .ok (.aload_n 0, 1) := by decide +kernel
theorem dX11_feed_63 : decode cX11_feed 63 = .ok (.getfield 29, 3) := by decide +kernel
theorem dX11_feed_66 : decode cX11_feed 66 = .ok (.aload_n 0, 1) := by decide +kernel
theorem dX11_feed_67 : decode cX11_feed 67 = .ok (.getfield 126, 3) := by decide +kernel
theorem dX11_feed_70 : decode cX11_feed 70 = .ok (.iload 6, 2) := by decide +kernel
theorem dX11_feed_72 : decode cX11_feed 72 = .ok (.iadd, 1) := by decide +kernel
theorem dX11_feed_73 : decode cX11_feed 73 = .ok (.aload_n 0, 1) := by decide +kernel
theorem dX11_feed_74 : decode cX11_feed 74 = .ok (.getfield 33, 3) := by decide +kernel
theorem dX11_feed_77 : decode cX11_feed 77 = .ok (.iload 6, 2) := by decide +kernel
theorem dX11_feed_79 : decode cX11_feed 79 = .ok (.iconst 4, 1) := by decide +kernel
theorem dX11_feed_80 : decode cX11_feed 80 = .ok (.idiv, 1) := by decide +kernel
theorem dX11_feed_81 : decode cX11_feed 81 = .ok (.iaload, 1) := by decide +kernel
theorem dX11_feed_82 : decode cX11_feed 82 = .ok (.bipush 24, 2) := by decide +kernel
theorem dX11_feed_84 : decode cX11_feed 84 = .ok (.bipush 8, 2) := by decide +kernel
theorem dX11_feed_86 : decode cX11_feed 86 = .ok (.iload 6, 2) := by decide +kernel
theorem dX11_feed_88 : decode cX11_feed 88 = .ok (.iconst 4, 1) := by decide +kernel
theorem dX11_feed_89 : decode cX11_feed 89 = .ok (.irem, 1) := by decide +kernel
theorem dX11_feed_90 : decode cX11_feed 90 = .ok (.imul, 1) := by decide +kernel
theorem dX11_feed_91 : decode cX11_feed 91 = .ok (.isub, 1) := by decide +kernel
theorem dX11_feed_92 : decode cX11_feed 92 = .ok (.ishr, 1) := by decide +kernel
theorem dX11_feed_93 : decode cX11_feed 93 = .ok (.i2b, 1) := by decide +kernel
theorem dX11_feed_94 : decode cX11_feed 94 = .ok (.bastore, 1) := by decide +kernel
theorem dX11_feed_95 : decode cX11_feed 95 = .ok (.iinc 6 1, 3) := by decide +kernel
theorem dX11_feed_98 : decode cX11_feed 98 = .ok (.goto (-43), 3) := by decide +kernel
theorem dX11_feed_101 : decode cX11_feed 101 = .ok (.aload_n 0, 1) := by decide +kernel
theorem dX11_feed_102 : decode cX11_feed 102 = .ok (.dup, 1) := by decide +kernel
theorem dX11_feed_103 : decode cX11_feed 103 = .ok (.getfield 126, 3) := by decide +kernel
theorem dX11_feed_106 : decode cX11_feed 106 = .ok (.bipush 20, 2) := by decide +kernel
theorem dX11_feed_108 : decode cX11_feed 108 = .ok (.iadd, 1) := by decide +kernel
theorem dX11_feed_109 : decode cX11_feed 109 = .ok (.putfield 126, 3) := by decide +kernel
theorem dX11_feed_112 : decode cX11_feed 112 = .ok (.aload_n 0, 1) := by decide +kernel
theorem dX11_feed_113 : decode cX11_feed 113 = .ok (.getfield 126, 3) := by decide +kernel
theorem dX11_feed_116 : decode cX11_feed 116 = .ok (.ireturn, 1) := by decide +kernel
theorem dX11_end_0 : decode cX11_end 0 = .ok (.iload_n 1, 1) := by decide +kernel
theorem dX11_end_1 : decode cX11_end 1 = .ok (.i2l, 1) := by decide +kernel
theorem dX11_end_2 : decode cX11_end 2 = .ok (.lconst 0, 1) := by decide +kernel
theorem dX11_end_3 : decode cX11_end 3 = .ok (.aload_n 0, 1) := by decide +kernel
theorem dX11_end_4 : decode cX11_end 4 = .ok (.getfield 126, 3) := by decide +kernel
theorem dX11_end_7 : decode cX11_end 7 = .ok (.i2l, 1) := by decide +kernel
theorem dX11_end_8 : decode cX11_end 8 = .ok (.invokestatic 87, 3) := by decide +kernel
theorem dX11_end_11 : decode cX11_end 11 = .ok (.ifCond .ne 5, 3) := by decide +kernel
theorem dX11_end_14 : decode cX11_end 14 = .ok (.iconst (-1), 1) := by decide +kernel
theorem dX11_end_15 : decode cX11_end 15 = .ok (.ireturn, 1) := by decide +kernel
theorem dX11_end_16 : decode cX11_end 16 = .ok (.aload_n 0, 1) := by decide +kernel
theorem dX11_end_17 : decode cX11_end 17 = .ok (.iload_n 1, 1) := by decide +kernel
theorem dX11_end_18 : decode cX11_end 18 = .ok (.putfield 126, 3) := by decide +kernel
theorem dX11_end_21 : decode cX11_end 21 = .ok (.iload_n 1, 1) := by decide +kernel
theorem dX11_end_22 : decode cX11_end 22 = .ok (.ireturn, 1) := by decide +kernel
theorem dX11_see_0 : decode cX11_see 0 = .ok (.iload_n 1, 1) := by decide +kernel
theorem dX11_see_1 : decode cX11_see 1 = .ok (.aload_n 0, 1) := by decide +kernel
theorem dX11_see_2 : decode cX11_see 2 = .ok (.getfield 129, 3) := by decide +kernel
theorem dX11_see_5 : decode cX11_see 5 = .ok (.if_icmp .ge 16, 3) := by decide +kernel
theorem dX11_see_8 : decode cX11_see 8 = .ok (.aload_n 0, 1) := by decide +kernel
theorem dX11_see_9 : decode cX11_see 9 = .ok (.getfield 29, 3) := by decide +kernel
theorem dX11_see_12 : decode cX11_see 12 = .ok (.iload_n 1, 1) := by decide +kernel
theorem dX11_see_13 : decode cX11_see 13 = .ok (.baload, 1) := by decide +kernel
theorem dX11_see_14 : decode cX11_see 14 = .ok (.sipush 255, 3) := by decide +kernel
theorem dX11_see_17 : decode cX11_see 17 = .ok (.iand, 1) := by decide +kernel
theorem dX11_see_18 : decode cX11_see 18 = .ok (.goto 4, 3) := by decide +kernel
theorem dX11_see_21 : decode cX11_see 21 = .ok (.iconst (-1), 1) := by decide +kernel
theorem dX11_see_22 : decode cX11_see 22 = .ok (.ireturn, 1) := by decide +kernel
theorem dX11_advance_0 : decode cX11_advance 0 = .ok (.aload_n 0, 1) := by decide +kernel
theorem dX11_advance_1 : decode cX11_advance 1 = .ok (.aload_n 0, 1) := by decide +kernel
theorem dX11_advance_2 : decode cX11_advance 2 = .ok (.getfield 132, 3) := by decide +kernel
theorem dX11_advance_5 : decode cX11_advance 5 = .ok (.invokevirtual 135, 3) := by decide +kernel
theorem dX11_advance_8 : decode cX11_advance 8 = .ok (.bipush 32, 2) := by decide +kernel
theorem dX11_advance_10 : decode cX11_advance 10 = .ok (.if_icmp .eq 16, 3) := by decide +kernel
theorem dX11_advance_13 : decode cX11_advance 13 = .ok (.aload_n 0, 1) := by decide +kernel
theorem dX11_advance_14 : decode cX11_advance 14 = .ok (.aload_n 0, 1) := by decide +kernel
theorem dX11_advance_15 : decode cX11_advance 15 = .ok (.getfield 132, 3) := by decide +kernel
theorem dX11_advance_18 : decode cX11_advance 18 = .ok (.invokevirtual 135, 3) := by decide +kernel
theorem dX11_advance_21 : decode cX11_advance 21 = .ok (.bipush 10, 2) := by decide +kernel
theorem dX11_advance_23 : decode cX11_advance 23 = .ok (.if_icmp .ne 16, 3) := by decide +kernel
theorem dX11_advance_26 : decode cX11_advance 26 = .ok (.aload_n 0, 1) := by decide +kernel
theorem dX11_advance_27 : decode cX11_advance 27 = .ok (.dup, 1) := by decide +kernel
theorem dX11_advance_28 : decode cX11_advance 28 = .ok (.getfield 132, 3) := by decide +kernel
theorem dX11_advance_31 : decode cX11_advance 31 = .ok (.iconst 1, 1) := by decide +kernel
theorem dX11_advance_32 : decode cX11_advance 32 = .ok (.iadd, 1) := by decide +kernel
theorem dX11_advance_33 : decode cX11_advance 33 = .ok (.putfield 132, 3) := by decide +kernel
theorem dX11_advance_36 : decode cX11_advance 36 = .ok (.goto (-36), 3) := by decide +kernel
theorem dX11_advance_39 : decode cX11_advance 39 = .ok (.aload_n 0, 1) := by decide +kernel
theorem dX11_advance_40 : decode cX11_advance 40 = .ok (.aload_n 0, 1) := by decide +kernel
theorem dX11_advance_41 : decode cX11_advance 41 = .ok (.getfield 132, 3) := by decide +kernel
theorem dX11_advance_44 : decode cX11_advance 44 = .ok (.putfield 139, 3) := by decide +kernel
theorem dX11_advance_47 : decode cX11_advance 47 = .ok (.aload_n 0, 1) := by decide +kernel
theorem dX11_advance_48 : decode cX11_advance 48 = .ok (.aload_n 0, 1) := by decide +kernel
theorem dX11_advance_49 : decode cX11_advance 49 = .ok (.getfield 132, 3) := by decide +kernel
theorem dX11_advance_52 : decode cX11_advance 52 = .ok (.invokevirtual 135, 3) := by decide +kernel
theorem dX11_advance_55 : decode cX11_advance 55 = .ok (.istore_n 1, 1) := by decide +kernel
theorem dX11_advance_56 : decode cX11_advance 56 = .ok (.iload_n 1, 1) := by decide +kernel
theorem dX11_advance_57 : decode cX11_advance 57 = .ok (.iconst (-1), 1) := by decide +kernel
theorem dX11_advance_58 : decode cX11_advance 58 = .ok (.if_icmp .ne 11, 3) := by decide +kernel
theorem dX11_advance_61 : decode cX11_advance 61 = .ok (.aload_n 0, 1) := by decide +kernel
theorem dX11_advance_62 : decode cX11_advance 62 = .ok (.iconst 0, 1) := by decide +kernel
theorem dX11_advance_63 : decode cX11_advance 63 = .ok (.putfield 142, 3) := by decide +kernel
theorem dX11_advance_66 : decode cX11_advance 66 = .ok (.goto 173, 3) := by decide +kernel
theorem dX11_advance_69 : decode cX11_advance 69 = .ok (.iload_n 1, 1) := by decide +kernel
theorem dX11_advance_70 : decode cX11_advance 70 = .ok (.i2l, 1) := by decide +kernel
theorem dX11_advance_71 : decode cX11_advance 71 = .ok (.ldc2_w 145, 3) := by decide +kernel
theorem dX11_advance_74 : decode cX11_advance 74 = .ok (.ldc2_w 147, 3) := by decide +kernel
theorem dX11_advance_77 : decode cX11_advance 77 = .ok (.invokestatic 87, 3) := by decide +kernel
theorem dX11_advance_80 : decode cX11_advance 80 = .ok (.ifCond .eq 45, 3) := by decide +kernel
theorem dX11_advance_83 : decode cX11_advance 83 = .ok (.aload_n 0, 1) := by decide +kernel
theorem dX11_advance_84 : decode cX11_advance 84 = .ok (.aload_n 0, 1) := by decide +kernel
theorem dX11_advance_85 : decode cX11_advance 85 = .ok (.getfield 132, 3) := by decide +kernel
theorem dX11_advance_88 : decode cX11_advance 88 = .ok (.invokevirtual 135, 3) := by decide +kernel
theorem dX11_advance_91 : decode cX11_advance 91 = .ok (.i2l, 1) := by decide +kernel
theorem dX11_advance_92 : decode cX11_advance 92 = .ok (.ldc2_w 145, 3) := by decide +kernel
theorem dX11_advance_95 : decode cX11_advance 95 = .ok (.ldc2_w 147, 3) := by decide +kernel
theorem dX11_advance_98 : decode cX11_advance 98 = .ok (.invokestatic 87, 3) := by decide +kernel
theorem dX11_advance_101 : decode cX11_advance 101 = .ok (.ifCond .eq 16, 3) := by decide +kernel
theorem dX11_advance_104 : decode cX11_advance 104 = .ok (.aload_n 0, 1) := by decide +kernel
theorem dX11_advance_105 : decode cX11_advance 105 = .ok (.dup, 1) := by decide +kernel
theorem dX11_advance_106 : decode cX11_advance 106 = .ok (.getfield 132, 3) := by decide +kernel
theorem dX11_advance_109 : decode cX11_advance 109 = .ok (.iconst 1, 1) := by decide +kernel
theorem dX11_advance_110 : decode cX11_advance 110 = .ok (.iadd, 1) := by decide +kernel
theorem dX11_advance_111 : decode cX11_advance 111 = .ok (.putfield 132, 3) := by decide +kernel
theorem dX11_advance_114 : decode cX11_advance 114 = .ok (.goto (-31), 3) := by decide +kernel
theorem dX11_advance_117 : decode cX11_advance 117 = .ok (.aload_n 0, 1) := by decide +kernel
theorem dX11_advance_118 : decode cX11_advance 118 = .ok (.iconst 1, 1) := by decide +kernel
theorem dX11_advance_119 : decode cX11_advance 119 = .ok (.putfield 142, 3) := by decide +kernel
theorem dX11_advance_122 : decode cX11_advance 122 = .ok (.goto 117, 3) := by decide +kernel
theorem dX11_advance_125 : decode cX11_advance 125 = .ok (.iload_n 1, 1) := by decide +kernel
theorem dX11_advance_126 : decode cX11_advance 126 = .ok (.i2l, 1) := by decide +kernel
theorem dX11_advance_127 : decode cX11_advance 127 = .ok (.ldc2_w 149, 3) := by decide +kernel
theorem dX11_advance_130 : decode cX11_advance 130 = .ok (.ldc2_w 151, 3) := by decide +kernel
theorem dX11_advance_133 : decode cX11_advance 133 = .ok (.invokestatic 87, 3) := by decide +kernel
theorem dX11_advance_136 : decode cX11_advance 136 = .ok (.ifCond .eq 78, 3) := by decide +kernel
theorem dX11_advance_139 : decode cX11_advance 139 = .ok (.aload_n 0, 1) := by decide +kernel
theorem dX11_advance_140 : decode cX11_advance 140 = .ok (.iconst 0, 1) := by decide +kernel
theorem dX11_advance_141 : decode cX11_advance 141 = .ok (.putfield 153, 3) := by decide +kernel
theorem dX11_advance_144 : decode cX11_advance 144 = .ok (.aload_n 0, 1) := by decide +kernel
theorem dX11_advance_145 : decode cX11_advance 145 = .ok (.aload_n 0, 1) := by decide +kernel
theorem dX11_advance_146 : decode cX11_advance 146 = .ok (.getfield 132, 3) := by decide +kernel
theorem dX11_advance_149 : decode cX11_advance 149 = .ok (.invokevirtual 135, 3) := by decide +kernel
theorem dX11_advance_152 : decode cX11_advance 152 = .ok (.i2l, 1) := by decide +kernel
theorem dX11_advance_153 : decode cX11_advance 153 = .ok (.ldc2_w 149, 3) := by decide +kernel
theorem dX11_advance_156 : decode cX11_advance 156 = .ok (.ldc2_w 151, 3) := by decide +kernel
theorem dX11_advance_159 : decode cX11_advance 159 = .ok (.invokestatic 87, 3) := by decide +kernel
theorem dX11_advance_162 : decode cX11_advance 162 = .ok (.ifCond .eq 44, 3) := by decide +kernel
theorem dX11_advance_165 : decode cX11_advance 165 = .ok (.aload_n 0, 1) := by decide +kernel
theorem dX11_advance_166 : decode cX11_advance 166 = .ok (.ldc 156, 2) := by decide +kernel
theorem dX11_advance_168 : decode cX11_advance 168 = .ok (.bipush 10, 2) := by decide +kernel
theorem dX11_advance_170 : decode cX11_advance 170 = .ok (.aload_n 0, 1) := by decide +kernel
theorem dX11_advance_171 : decode cX11_advance 171 = .ok (.getfield 153, 3) := by decide +kernel
theorem dX11_advance_174 : decode cX11_advance 174 = .ok (.imul, 1) := by decide +kernel
theorem dX11_advance_175 : decode cX11_advance 175 = .ok (.aload_n 0, 1) := by decide +kernel
theorem dX11_advance_176 : decode cX11_advance 176 = .ok (.aload_n 0, 1) := by decide +kernel
theorem dX11_advance_177 : decode cX11_advance 177 = .ok (.getfield 132, 3) := by decide +kernel
theorem dX11_advance_180 : decode cX11_advance 180 = .ok (.invokevirtual 135, 3) := by decide +kernel
theorem dX11_advance_183 : decode cX11_advance 183 = .ok (.iadd, 1) := by decide +kernel
theorem dX11_advance_184 : decode cX11_advance 184 = .ok (.bipush 48, 2) := by decide +kernel
theorem dX11_advance_186 : decode cX11_advance 186 = .ok (.isub, 1) := by decide +kernel
theorem dX11_advance_187 : decode cX11_advance 187 = .ok (.invokestatic 119, 3) := by decide +kernel
theorem dX11_advance_190 : decode cX11_advance 190 = .ok (.putfield 153, 3) := by decide +kernel
theorem dX11_advance_193 : decode cX11_advance 193 = .ok (.aload_n 0, 1) := by decide +kernel
theorem dX11_advance_194 : decode cX11_advance 194 = .ok (.dup, 1) := by decide +kernel
theorem dX11_advance_195 : decode cX11_advance 195 = .ok (.getfield 132, 3) := by decide +kernel
theorem dX11_advance_198 : decode cX11_advance 198 = .ok (.iconst 1, 1) := by decide +kernel
theorem dX11_advance_199 : decode cX11_advance 199 = .ok (.iadd, 1) := by decide +kernel
theorem dX11_advance_200 : decode cX11_advance 200 = .ok (.putfield 132, 3) := by decide +kernel
theorem dX11_advance_203 : decode cX11_advance 203 = .ok (.goto (-59), 3) := by decide +kernel
theorem dX11_advance_206 : decode cX11_advance 206 = .ok (.aload_n 0, 1) := by decide +kernel
theorem dX11_advance_207 : decode cX11_advance 207 = .ok (.iconst 2, 1) := by decide +kernel
theorem dX11_advance_208 : decode cX11_advance 208 = .ok (.putfield 142, 3) := by decide +kernel
theorem dX11_advance_211 : decode cX11_advance 211 = .ok (.goto 28, 3) := by decide +kernel
theorem dX11_advance_214 : decode cX11_advance 214 = .ok (.aload_n 0, 1) := by decide +kernel
theorem dX11_advance_215 : decode cX11_advance 215 = .ok (.iload_n 1, 1) := by decide +kernel
theorem dX11_advance_216 : decode cX11_advance 216 = .ok (.bipush 59, 2) := by decide +kernel
theorem dX11_advance_218 : decode cX11_advance 218 = .ok (.if_icmp .ne 7, 3) := by decide +kernel
theorem dX11_advance_221 : decode cX11_advance 221 = .ok (.iconst 3, 1) := by decide +kernel
theorem dX11_advance_222 : decode cX11_advance 222 = .ok (.goto 4, 3) := by decide +kernel
theorem dX11_advance_225 : decode cX11_advance 225 = .ok (.iconst 4, 1) := by decide +kernel
theorem dX11_advance_226 : decode cX11_advance 226 = .ok (.putfield 142, 3) := by decide +kernel
theorem dX11_advance_229 : decode cX11_advance 229 = .ok (.aload_n 0, 1) := by decide +kernel
theorem dX11_advance_230 : decode cX11_advance 230 = .ok (.dup, 1) := by decide +kernel
theorem dX11_advance_231 : decode cX11_advance 231 = .ok (.getfield 132, 3) := by decide +kernel
theorem dX11_advance_234 : decode cX11_advance 234 = .ok (.iconst 1, 1) := by decide +kernel
theorem dX11_advance_235 : decode cX11_advance 235 = .ok (.iadd, 1) := by decide +kernel
theorem dX11_advance_236 : decode cX11_advance 236 = .ok (.putfield 132, 3) := by decide +kernel
theorem dX11_advance_239 : decode cX11_advance 239 = .ok (.return_, 1) := by decide +kernel
theorem dX11_good_0 : decode cX11_good 0 = .ok (.aload_n 0, 1) := by decide +kernel
theorem dX11_good_1 : decode cX11_good 1 = .ok (.getfield 157, 3) := by decide +kernel
theorem dX11_good_4 : decode cX11_good 4 = .ok (.ifCond .ne 7, 3) := by decide +kernel
theorem dX11_good_7 : decode cX11_good 7 = .ok (.iconst 1, 1) := by decide +kernel
theorem dX11_good_8 : decode cX11_good 8 = .ok (.goto 4, 3) := by decide +kernel
theorem dX11_good_11 : decode cX11_good 11 = .ok (.iconst 0, 1) := by decide +kernel
theorem dX11_good_12 : decode cX11_good 12 = .ok (.ireturn, 1) := by decide +kernel
theorem dX11_errs_0 : decode cX11_errs 0 = .ok (.aload_n 0, 1) := by decide +kernel
theorem dX11_errs_1 : decode cX11_errs 1 = .ok (.invokevirtual 160, 3) := by decide +kernel
theorem dX11_errs_4 : decode cX11_errs 4 = .ok (.ifCond .ne 4, 3) := by decide +kernel
theorem dX11_errs_7 : decode cX11_errs 7 = .ok (.return_, 1) := by decide +kernel
theorem dX11_errs_8 : decode cX11_errs 8 = .ok (.aload_n 0, 1) := by decide +kernel
theorem dX11_errs_9 : decode cX11_errs 9 = .ok (.iload_n 1, 1) := by decide +kernel
theorem dX11_errs_10 : decode cX11_errs 10 = .ok (.putfield 157, 3) := by decide +kernel
theorem dX11_errs_13 : decode cX11_errs 13 = .ok (.aload_n 0, 1) := by decide +kernel
theorem dX11_errs_14 : decode cX11_errs 14 = .ok (.aload_n 0, 1) := by decide +kernel
theorem dX11_errs_15 : decode cX11_errs 15 = .ok (.getfield 139, 3) := by decide +kernel
theorem dX11_errs_18 : decode cX11_errs 18 = .ok (.putfield 36, 3) := by decide +kernel
theorem dX11_errs_21 : decode cX11_errs 21 = .ok (.return_, 1) := by decide +kernel
theorem dX11_is_0 : decode cX11_is 0 = .ok (.aload_n 0, 1) := by decide +kernel
theorem dX11_is_1 : decode cX11_is 1 = .ok (.invokevirtual 160, 3) := by decide +kernel
theorem dX11_is_4 : decode cX11_is 4 = .ok (.ifCond .eq 31, 3) := by decide +kernel
theorem dX11_is_7 : decode cX11_is 7 = .ok (.aload_n 0, 1) := by decide +kernel
theorem dX11_is_8 : decode cX11_is 8 = .ok (.getfield 142, 3) := by decide +kernel
theorem dX11_is_11 : decode cX11_is 11 = .ok (.iconst 1, 1) := by decide +kernel
theorem dX11_is_12 : decode cX11_is 12 = .ok (.if_icmp .ne 23, 3) := by decide +kernel
theorem dX11_is_15 : decode cX11_is 15 = .ok (.aload_n 0, 1) := by decide +kernel
theorem dX11_is_16 : decode cX11_is 16 = .ok (.getfield 132, 3) := by decide +kernel
theorem dX11_is_19 : decode cX11_is 19 = .ok (.aload_n 0, 1) := by decide +kernel
theorem dX11_is_20 : decode cX11_is 20 = .ok (.getfield 139, 3) := by decide +kernel
theorem dX11_is_23 : decode cX11_is 23 = .ok (.isub, 1) := by decide +kernel
theorem dX11_is_24 : decode cX11_is 24 = .ok (.aload_n 1, 1) := by decide +kernel
theorem dX11_is_25 : decode cX11_is 25 = .ok (.invokevirtual 163, 3) := by decide +kernel
theorem dX11_is_28 : decode cX11_is 28 = .ok (.if_icmp .ne 7, 3) := by decide +kernel
theorem dX11_is_31 : decode cX11_is 31 = .ok (.iconst 1, 1) := by decide +kernel
theorem dX11_is_32 : decode cX11_is 32 = .ok (.goto 4, 3) := by decide +kernel
theorem dX11_is_35 : decode cX11_is 35 = .ok (.iconst 0, 1) := by decide +kernel
theorem dX11_is_36 : decode cX11_is 36 = .ok (.istore_n 2, 1) := by decide +kernel
theorem dX11_is_37 : decode cX11_is 37 = .ok (.iconst 0, 1) := by decide +kernel
theorem dX11_is_38 : decode cX11_is 38 = .ok (.istore_n 3, 1) := by decide +kernel
theorem dX11_is_39 : decode cX11_is 39 = .ok (.iload_n 3, 1) := by decide +kernel
theorem dX11_is_40 : decode cX11_is 40 = .ok (.aload_n 1, 1) := by decide +kernel
theorem dX11_is_41 : decode cX11_is 41 = .ok (.invokevirtual 163, 3) := by decide +kernel
theorem dX11_is_44 : decode cX11_is 44 = .ok (.if_icmp .ge 38, 3) := by decide +kernel
theorem dX11_is_47 : decode cX11_is 47 = .ok (.iload_n 2, 1) := by decide +kernel
theorem dX11_is_48 : decode cX11_is 48 = .ok (.ifCond .eq 34, 3) := by decide +kernel
theorem dX11_is_51 : decode cX11_is 51 = .ok (.aload_n 0, 1) := by decide +kernel
theorem dX11_is_52 : decode cX11_is 52 = .ok (.getfield 29, 3) := by decide +kernel
theorem dX11_is_55 : decode cX11_is 55 = .ok (.aload_n 0, 1) := by decide +kernel
theorem dX11_is_56 : decode cX11_is 56 = .ok (.getfield 139, 3) := by decide +kernel
theorem dX11_is_59 : decode cX11_is 59 = .ok (.iload_n 3, 1) := by decide +kernel
theorem dX11_is_60 : decode cX11_is 60 = .ok (.iadd, 1) := by decide +kernel
theorem dX11_is_61 : decode cX11_is 61 = .ok (.baload, 1) := by decide +kernel
theorem dX11_is_62 : decode cX11_is 62 = .ok (.aload_n 1, 1) := by decide +kernel
theorem dX11_is_63 : decode cX11_is 63 = .ok (.iload_n 3, 1) := by decide +kernel
theorem dX11_is_64 : decode cX11_is 64 = .ok (.invokevirtual 168, 3) := by decide +kernel
theorem dX11_is_67 : decode cX11_is 67 = .ok (.if_icmp .ne 7, 3) := by decide +kernel
theorem dX11_is_70 : decode cX11_is 70 = .ok (.iconst 1, 1) := by decide +kernel
theorem dX11_is_71 : decode cX11_is 71 = .ok (.goto 4, 3) := by decide +kernel
theorem dX11_is_74 : decode cX11_is 74 = .ok (.iconst 0, 1) := by decide +kernel
theorem dX11_is_75 : decode cX11_is 75 = .ok (.istore_n 2, 1) := by decide +kernel
theorem dX11_is_76 : decode cX11_is 76 = .ok (.iinc 3 1, 3) := by decide +kernel
theorem dX11_is_79 : decode cX11_is 79 = .ok (.goto (-40), 3) := by decide +kernel
theorem dX11_is_82 : decode cX11_is 82 = .ok (.iload_n 2, 1) := by decide +kernel
theorem dX11_is_83 : decode cX11_is 83 = .ok (.ireturn, 1) := by decide +kernel
theorem dX11_expects_0 : decode cX11_expects 0 = .ok (.aload_n 0, 1) := by decide +kernel
theorem dX11_expects_1 : decode cX11_expects 1 = .ok (.aload_n 1, 1) := by decide +kernel
theorem dX11_expects_2 : decode cX11_expects 2 = .ok (.invokevirtual 172, 3) := by decide +kernel
theorem dX11_expects_5 : decode cX11_expects 5 = .ok (.ifCond .eq 10, 3) := by decide +kernel
theorem dX11_expects_8 : decode cX11_expects 8 = .ok (.aload_n 0, 1) := by decide +kernel
theorem dX11_expects_9 : decode cX11_expects 9 = .ok (.invokevirtual 176, 3) := by decide +kernel
theorem dX11_expects_12 : decode cX11_expects 12 = .ok (.goto 8, 3) := by decide +kernel
theorem dX11_expects_15 : decode cX11_expects 15 = .ok (.aload_n 0, 1) := by decide +kernel
theorem dX11_expects_16 : decode cX11_expects 16 = .ok (.iconst 1, 1) := by decide +kernel
theorem dX11_expects_17 : decode cX11_expects 17 = .ok (.invokevirtual 179, 3) := by decide +kernel
theorem dX11_expects_20 : decode cX11_expects 20 = .ok (.return_, 1) := by decide +kernel
theorem dX11_takes_0 : decode cX11_takes 0 = .ok (.aload_n 0, 1) := by decide +kernel
theorem dX11_takes_1 : decode cX11_takes 1 = .ok (.invokevirtual 160, 3) := by decide +kernel
theorem dX11_takes_4 : decode cX11_takes 4 = .ok (.ifCond .eq 16, 3) := by decide +kernel
theorem dX11_takes_7 : decode cX11_takes 7 = .ok (.aload_n 0, 1) := by decide +kernel
theorem dX11_takes_8 : decode cX11_takes 8 = .ok (.getfield 142, 3) := by decide +kernel
theorem dX11_takes_11 : decode cX11_takes 11 = .ok (.iconst 2, 1) := by decide +kernel
theorem dX11_takes_12 : decode cX11_takes 12 = .ok (.if_icmp .eq 8, 3) := by decide +kernel
theorem dX11_takes_15 : decode cX11_takes 15 = .ok (.aload_n 0, 1) := by decide +kernel
theorem dX11_takes_16 : decode cX11_takes 16 = .ok (.iconst 1, 1) := by decide +kernel
theorem dX11_takes_17 : decode cX11_takes 17 = .ok (.invokevirtual 179, 3) := by decide +kernel
theorem dX11_takes_20 : decode cX11_takes 20 = .ok (.aload_n 0, 1) := by decide +kernel
theorem dX11_takes_21 : decode cX11_takes 21 = .ok (.invokevirtual 160, 3) := by decide +kernel
theorem dX11_takes_24 : decode cX11_takes 24 = .ok (.ifCond .eq 23, 3) := by decide +kernel
theorem dX11_takes_27 : decode cX11_takes 27 = .ok (.aload_n 0, 1) := by decide +kernel
theorem dX11_takes_28 : decode cX11_takes 28 = .ok (.getfield 153, 3) := by decide +kernel
theorem dX11_takes_31 : decode cX11_takes 31 = .ok (.i2l, 1) := by decide +kernel
theorem dX11_takes_32 : decode cX11_takes 32 = .ok (.iload_n 1, 1) := by decide +kernel
theorem dX11_takes_33 : decode cX11_takes 33 = .ok (.i2l, 1) := by decide +kernel
theorem dX11_takes_34 : decode cX11_takes 34 = .ok (.iload_n 2, 1) := by decide +kernel
theorem dX11_takes_35 : decode cX11_takes 35 = .ok (.i2l, 1) := by decide +kernel
theorem dX11_takes_36 : decode cX11_takes 36 = .ok (.invokestatic 87, 3) := by decide +kernel
theorem dX11_takes_39 : decode cX11_takes 39 = .ok (.ifCond .ne 8, 3) := by decide +kernel
theorem dX11_takes_42 : decode cX11_takes 42 = .ok (.aload_n 0, 1) := by decide +kernel
theorem dX11_takes_43 : decode cX11_takes 43 = .ok (.iconst 2, 1) := by decide +kernel
theorem dX11_takes_44 : decode cX11_takes 44 = .ok (.invokevirtual 179, 3) := by decide +kernel
theorem dX11_takes_47 : decode cX11_takes 47 = .ok (.aload_n 0, 1) := by decide +kernel
theorem dX11_takes_48 : decode cX11_takes 48 = .ok (.invokevirtual 160, 3) := by decide +kernel
theorem dX11_takes_51 : decode cX11_takes 51 = .ok (.ifCond .ne 5, 3) := by decide +kernel
theorem dX11_takes_54 : decode cX11_takes 54 = .ok (.iconst 0, 1) := by decide +kernel
theorem dX11_takes_55 : decode cX11_takes 55 = .ok (.ireturn, 1) := by decide +kernel
theorem dX11_takes_56 : decode cX11_takes 56 = .ok (.aload_n 0, 1) := by decide +kernel
theorem dX11_takes_57 : decode cX11_takes 57 = .ok (.getfield 153, 3) := by decide +kernel
theorem dX11_takes_60 : decode cX11_takes 60 = .ok (.istore_n 3, 1) := by decide +kernel
theorem dX11_takes_61 : decode cX11_takes 61 = .ok (.aload_n 0, 1) := by decide +kernel
theorem dX11_takes_62 : decode cX11_takes 62 = .ok (.invokevirtual 176, 3) := by decide +kernel
theorem dX11_takes_65 : decode cX11_takes 65 = .ok (.iload_n 3, 1) := by decide +kernel
theorem dX11_takes_66 : decode cX11_takes 66 = .ok (.ireturn, 1) := by decide +kernel
theorem dX11_told_0 : decode cX11_told 0 = .ok (.aload_n 0, 1) := by decide +kernel
theorem dX11_told_1 : decode cX11_told 1 = .ok (.aload_n 1, 1) := by decide +kernel
theorem dX11_told_2 : decode cX11_told 2 = .ok (.invokevirtual 183, 3) := by decide +kernel
theorem dX11_told_5 : decode cX11_told 5 = .ok (.aload_n 0, 1) := by decide +kernel
theorem dX11_told_6 : decode cX11_told 6 = .ok (.iload_n 2, 1) := by decide +kernel
theorem dX11_told_7 : decode cX11_told 7 = .ok (.iload_n 3, 1) := by decide +kernel
theorem dX11_told_8 : decode cX11_told 8 = .ok (.invokevirtual 187, 3) := by decide +kernel
theorem dX11_told_11 : decode cX11_told 11 = .ok (.ireturn, 1) := by decide +kernel
theorem dX11_fault_0 : decode cX11_fault 0 = .ok (.iload_n 1, 1) := by decide +kernel
theorem dX11_fault_1 : decode cX11_fault 1 = .ok (.ifCond .ne 10, 3) := by decide +kernel
theorem dX11_fault_4 : decode cX11_fault 4 = .ok (.aload_n 0, 1) := by decide +kernel
theorem dX11_fault_5 : decode cX11_fault 5 = .ok (.getfield 157, 3) := by decide +kernel
theorem dX11_fault_8 : decode cX11_fault 8 = .ok (.goto 16, 3) := by decide +kernel
theorem dX11_fault_11 : decode cX11_fault 11 = .ok (.iload_n 1, 1) := by decide +kernel
theorem dX11_fault_12 : decode cX11_fault 12 = .ok (.iconst 1, 1) := by decide +kernel
theorem dX11_fault_13 : decode cX11_fault 13 = .ok (.if_icmp .ne 10, 3) := by decide +kernel
theorem dX11_fault_16 : decode cX11_fault 16 = .ok (.aload_n 0, 1) := by decide +kernel
theorem dX11_fault_17 : decode cX11_fault 17 = .ok (.getfield 36, 3) := by decide +kernel
theorem dX11_fault_20 : decode cX11_fault 20 = .ok (.goto 4, 3) := by decide +kernel
theorem dX11_fault_23 : decode cX11_fault 23 = .ok (.iconst (-1), 1) := by decide +kernel
theorem dX11_fault_24 : decode cX11_fault 24 = .ok (.ireturn, 1) := by decide +kernel
theorem dX11_readFirst_0 : decode cX11_readFirst 0 = .ok (.aload_n 0, 1) := by decide +kernel
theorem dX11_readFirst_1 : decode cX11_readFirst 1 = .ok (.ldc 190, 2) := by decide +kernel
theorem dX11_readFirst_3 : decode cX11_readFirst 3 = .ok (.invokevirtual 183, 3) := by decide +kernel
theorem dX11_readFirst_6 : decode cX11_readFirst 6 = .ok (.aload_n 0, 1) := by decide +kernel
theorem dX11_readFirst_7 : decode cX11_readFirst 7 = .ok (.getfield 13, 3) := by decide +kernel
theorem dX11_readFirst_10 : decode cX11_readFirst 10 = .ok (.iconst 0, 1) := by decide +kernel
theorem dX11_readFirst_11 : decode cX11_readFirst 11 = .ok (.aload_n 0, 1) := by decide +kernel
theorem dX11_readFirst_12 : decode cX11_readFirst 12 = .ok (.ldc 192, 2) := by decide +kernel
theorem dX11_readFirst_14 : decode cX11_readFirst 14 = .ok (.iconst 1, 1) := by decide +kernel
theorem dX11_readFirst_15 : decode cX11_readFirst 15 = .ok (.bipush 9, 2) := by decide +kernel
theorem dX11_readFirst_17 : decode cX11_readFirst 17 = .ok (.invokevirtual 194, 3) := by decide +kernel
theorem dX11_readFirst_20 : decode cX11_readFirst 20 = .ok (.iastore, 1) := by decide +kernel
theorem dX11_readFirst_21 : decode cX11_readFirst 21 = .ok (.aload_n 0, 1) := by decide +kernel
theorem dX11_readFirst_22 : decode cX11_readFirst 22 = .ok (.ldc 198, 2) := by decide +kernel
theorem dX11_readFirst_24 : decode cX11_readFirst 24 = .ok (.invokevirtual 183, 3) := by decide +kernel
theorem dX11_readFirst_27 : decode cX11_readFirst 27 = .ok (.aload_n 0, 1) := by decide +kernel
theorem dX11_readFirst_28 : decode cX11_readFirst 28 = .ok (.invokevirtual 160, 3) := by decide +kernel
theorem dX11_readFirst_31 : decode cX11_readFirst 31 = .ok (.ifCond .eq 47, 3) := by decide +kernel
theorem dX11_readFirst_34 : decode cX11_readFirst 34 = .ok (.aload_n 0, 1) := by decide +kernel
theorem dX11_readFirst_35 : decode cX11_readFirst 35 = .ok (.getfield 142, 3) := by decide +kernel
theorem dX11_readFirst_38 : decode cX11_readFirst 38 = .ok (.iconst 2, 1) := by decide +kernel
theorem dX11_readFirst_39 : decode cX11_readFirst 39 = .ok (.if_icmp .ne 39, 3) := by decide +kernel
theorem dX11_readFirst_42 : decode cX11_readFirst 42 = .ok (.aload_n 0, 1) := by decide +kernel
theorem dX11_readFirst_43 : decode cX11_readFirst 43 = .ok (.getfield 153, 3) := by decide +kernel
theorem dX11_readFirst_46 : decode cX11_readFirst 46 = .ok (.i2l, 1) := by decide +kernel
theorem dX11_readFirst_47 : decode cX11_readFirst 47 = .ok (.lconst 1, 1) := by decide +kernel
theorem dX11_readFirst_48 : decode cX11_readFirst 48 = .ok (.ldc2_w 200, 3) := by decide +kernel
theorem dX11_readFirst_51 : decode cX11_readFirst 51 = .ok (.invokestatic 87, 3) := by decide +kernel
theorem dX11_readFirst_54 : decode cX11_readFirst 54 = .ok (.ifCond .eq 24, 3) := by decide +kernel
theorem dX11_readFirst_57 : decode cX11_readFirst 57 = .ok (.aload_n 0, 1) := by decide +kernel
theorem dX11_readFirst_58 : decode cX11_readFirst 58 = .ok (.getfield 13, 3) := by decide +kernel
theorem dX11_readFirst_61 : decode cX11_readFirst 61 = .ok (.iconst 0, 1) := by decide +kernel
theorem dX11_readFirst_62 : decode cX11_readFirst 62 = .ok (.iaload, 1) := by decide +kernel
theorem dX11_readFirst_63 : decode cX11_readFirst 63 = .ok (.aload_n 0, 1) := by decide +kernel
theorem dX11_readFirst_64 : decode cX11_readFirst 64 = .ok (.getfield 153, 3) := by decide +kernel
theorem dX11_readFirst_67 : decode cX11_readFirst 67 = .ok (.imul, 1) := by decide +kernel
theorem dX11_readFirst_68 : decode cX11_readFirst 68 = .ok (.bipush 9, 2) := by decide +kernel
theorem dX11_readFirst_70 : decode cX11_readFirst 70 = .ok (.if_icmp .le 8, 3) := by decide +kernel
theorem dX11_readFirst_73 : decode cX11_readFirst 73 = .ok (.aload_n 0, 1) := by decide +kernel
theorem dX11_readFirst_74 : decode cX11_readFirst 74 = .ok (.iconst 2, 1) := by decide +kernel
theorem dX11_readFirst_75 : decode cX11_readFirst 75 = .ok (.invokevirtual 179, 3) := by decide +kernel
theorem dX11_readFirst_78 : decode cX11_readFirst 78 = .ok (.aload_n 0, 1) := by decide +kernel
theorem dX11_readFirst_79 : decode cX11_readFirst 79 = .ok (.getfield 13, 3) := by decide +kernel
theorem dX11_readFirst_82 : decode cX11_readFirst 82 = .ok (.iconst 1, 1) := by decide +kernel
theorem dX11_readFirst_83 : decode cX11_readFirst 83 = .ok (.aload_n 0, 1) := by decide +kernel
theorem dX11_readFirst_84 : decode cX11_readFirst 84 = .ok (.iconst 1, 1) := by decide +kernel
theorem dX11_readFirst_85 : decode cX11_readFirst 85 = .ok (.bipush 9, 2) := by decide +kernel
theorem dX11_readFirst_87 : decode cX11_readFirst 87 = .ok (.invokevirtual 187, 3) := by decide +kernel
theorem dX11_readFirst_90 : decode cX11_readFirst 90 = .ok (.iastore, 1) := by decide +kernel
theorem dX11_readFirst_91 : decode cX11_readFirst 91 = .ok (.aload_n 0, 1) := by decide +kernel
theorem dX11_readFirst_92 : decode cX11_readFirst 92 = .ok (.ldc 202, 2) := by decide +kernel
theorem dX11_readFirst_94 : decode cX11_readFirst 94 = .ok (.iconst 0, 1) := by decide +kernel
theorem dX11_readFirst_95 : decode cX11_readFirst 95 = .ok (.iconst 4, 1) := by decide +kernel
theorem dX11_readFirst_96 : decode cX11_readFirst 96 = .ok (.invokevirtual 194, 3) := by decide +kernel
theorem dX11_readFirst_99 : decode cX11_readFirst 99 = .ok (.istore_n 1, 1) := by decide +kernel
theorem dX11_readFirst_100 : decode cX11_readFirst 100 = .ok (.aload_n 0, 1) := by decide +kernel
theorem dX11_readFirst_101 : decode cX11_readFirst 101 = .ok (.getfield 13, 3) := by decide +kernel
theorem dX11_readFirst_104 : decode cX11_readFirst 104 = .ok (.iconst 2, 1) := by decide +kernel
theorem dX11_readFirst_105 : decode cX11_readFirst 105 = .ok (.aload_n 0, 1) := by decide +kernel
theorem dX11_readFirst_106 : decode cX11_readFirst 106 = .ok (.ldc 204, 2) := by decide +kernel
theorem dX11_readFirst_108 : decode cX11_readFirst 108 = .ok (.iconst 0, 1) := by decide +kernel
theorem dX11_readFirst_109 : decode cX11_readFirst 109 = .ok (.sipush 999, 3) := by decide +kernel
theorem dX11_readFirst_112 : decode cX11_readFirst 112 = .ok (.invokevirtual 194, 3) := by decide +kernel
theorem dX11_readFirst_115 : decode cX11_readFirst 115 = .ok (.iastore, 1) := by decide +kernel
theorem dX11_readFirst_116 : decode cX11_readFirst 116 = .ok (.aload_n 0, 1) := by decide +kernel
theorem dX11_readFirst_117 : decode cX11_readFirst 117 = .ok (.getfield 13, 3) := by decide +kernel
theorem dX11_readFirst_120 : decode cX11_readFirst 120 = .ok (.iconst 3, 1) := by decide +kernel
theorem dX11_readFirst_121 : decode cX11_readFirst 121 = .ok (.aload_n 0, 1) := by decide +kernel
theorem dX11_readFirst_122 : decode cX11_readFirst 122 = .ok (.ldc 206, 2) := by decide +kernel
theorem dX11_readFirst_124 : decode cX11_readFirst 124 = .ok (.iconst 1, 1) := by decide +kernel
theorem dX11_readFirst_125 : decode cX11_readFirst 125 = .ok (.sipush 999, 3) := by decide +kernel
theorem dX11_readFirst_128 : decode cX11_readFirst 128 = .ok (.invokevirtual 194, 3) := by decide +kernel
theorem dX11_readFirst_131 : decode cX11_readFirst 131 = .ok (.iastore, 1) := by decide +kernel
theorem dX11_readFirst_132 : decode cX11_readFirst 132 = .ok (.aload_n 0, 1) := by decide +kernel
theorem dX11_readFirst_133 : decode cX11_readFirst 133 = .ok (.invokevirtual 160, 3) := by decide +kernel
theorem dX11_readFirst_136 : decode cX11_readFirst 136 = .ok (.ifCond .ne 4, 3) := by decide +kernel
theorem dX11_readFirst_139 : decode cX11_readFirst 139 = .ok (.return_, 1) := by decide +kernel
theorem dX11_readFirst_140 : decode cX11_readFirst 140 = .ok (.aload_n 0, 1) := by decide +kernel
theorem dX11_readFirst_141 : decode cX11_readFirst 141 = .ok (.aload_n 0, 1) := by decide +kernel
theorem dX11_readFirst_142 : decode cX11_readFirst 142 = .ok (.getfield 13, 3) := by decide +kernel
theorem dX11_readFirst_145 : decode cX11_readFirst 145 = .ok (.iconst 0, 1) := by decide +kernel
theorem dX11_readFirst_146 : decode cX11_readFirst 146 = .ok (.iaload, 1) := by decide +kernel
theorem dX11_readFirst_147 : decode cX11_readFirst 147 = .ok (.aload_n 0, 1) := by decide +kernel
theorem dX11_readFirst_148 : decode cX11_readFirst 148 = .ok (.getfield 13, 3) := by decide +kernel
theorem dX11_readFirst_151 : decode cX11_readFirst 151 = .ok (.iconst 1, 1) := by decide +kernel
theorem dX11_readFirst_152 : decode cX11_readFirst 152 = .ok (.iaload, 1) := by decide +kernel
theorem dX11_readFirst_153 : decode cX11_readFirst 153 = .ok (.invokevirtual 113, 3) := by decide +kernel
theorem dX11_readFirst_156 : decode cX11_readFirst 156 = .ok (.iconst 0, 1) := by decide +kernel
theorem dX11_readFirst_157 : decode cX11_readFirst 157 = .ok (.istore_n 2, 1) := by decide +kernel
theorem dX11_readFirst_158 : decode cX11_readFirst 158 = .ok (.iload_n 2, 1) := by decide +kernel
theorem dX11_readFirst_159 : decode cX11_readFirst 159 = .ok (.aload_n 0, 1) := by decide +kernel
theorem dX11_readFirst_160 : decode cX11_readFirst 160 = .ok (.getfield 102, 3) := by decide +kernel
theorem dX11_readFirst_163 : decode cX11_readFirst 163 = .ok (.if_icmp .ge 19, 3) := by decide +kernel
theorem dX11_readFirst_166 : decode cX11_readFirst 166 = .ok (.aload_n 0, 1) := by decide +kernel
theorem dX11_readFirst_167 : decode cX11_readFirst 167 = .ok (.getfield 13, 3) := by decide +kernel
theorem dX11_readFirst_170 : decode cX11_readFirst 170 = .ok (.bipush 28, 2) := by decide +kernel
theorem dX11_readFirst_172 : decode cX11_readFirst 172 = .ok (.iload_n 2, 1) := by decide +kernel
theorem dX11_readFirst_173 : decode cX11_readFirst 173 = .ok (.iadd, 1) := by decide +kernel
theorem dX11_readFirst_174 : decode cX11_readFirst 174 = .ok (.iload_n 1, 1) := by decide +kernel
theorem dX11_readFirst_175 : decode cX11_readFirst 175 = .ok (.iastore, 1) := by decide +kernel
theorem dX11_readFirst_176 : decode cX11_readFirst 176 = .ok (.iinc 2 1, 3) := by decide +kernel
theorem dX11_readFirst_179 : decode cX11_readFirst 179 = .ok (.goto (-21), 3) := by decide +kernel
theorem dX11_readFirst_182 : decode cX11_readFirst 182 = .ok (.iconst 0, 1) := by decide +kernel
theorem dX11_readFirst_183 : decode cX11_readFirst 183 = .ok (.istore_n 2, 1) := by decide +kernel
theorem dX11_readFirst_184 : decode cX11_readFirst 184 = .ok (.iload_n 2, 1) := by decide +kernel
theorem dX11_readFirst_185 : decode cX11_readFirst 185 = .ok (.iconst 4, 1) := by decide +kernel
theorem dX11_readFirst_186 : decode cX11_readFirst 186 = .ok (.if_icmp .ge 21, 3) := by decide +kernel
theorem dX11_readFirst_189 : decode cX11_readFirst 189 = .ok (.aload_n 0, 1) := by decide +kernel
theorem dX11_readFirst_190 : decode cX11_readFirst 190 = .ok (.getfield 13, 3) := by decide +kernel
theorem dX11_readFirst_193 : decode cX11_readFirst 193 = .ok (.bipush 24, 2) := by decide +kernel
theorem dX11_readFirst_195 : decode cX11_readFirst 195 = .ok (.iload_n 2, 1) := by decide +kernel
theorem dX11_readFirst_196 : decode cX11_readFirst 196 = .ok (.iadd, 1) := by decide +kernel
theorem dX11_readFirst_197 : decode cX11_readFirst 197 = .ok (.sipush 999, 3) := by decide +kernel
theorem dX11_readFirst_200 : decode cX11_readFirst 200 = .ok (.iastore, 1) := by decide +kernel
theorem dX11_readFirst_201 : decode cX11_readFirst 201 = .ok (.iinc 2 1, 3) := by decide +kernel
theorem dX11_readFirst_204 : decode cX11_readFirst 204 = .ok (.goto (-20), 3) := by decide +kernel
theorem dX11_readFirst_207 : decode cX11_readFirst 207 = .ok (.return_, 1) := by decide +kernel
theorem dX11_readPlace_0 : decode cX11_readPlace 0 = .ok (.aload_n 0, 1) := by decide +kernel
theorem dX11_readPlace_1 : decode cX11_readPlace 1 = .ok (.ldc 208, 2) := by decide +kernel
theorem dX11_readPlace_3 : decode cX11_readPlace 3 = .ok (.invokevirtual 183, 3) := by decide +kernel
theorem dX11_readPlace_6 : decode cX11_readPlace 6 = .ok (.aload_n 0, 1) := by decide +kernel
theorem dX11_readPlace_7 : decode cX11_readPlace 7 = .ok (.iconst 0, 1) := by decide +kernel
theorem dX11_readPlace_8 : decode cX11_readPlace 8 = .ok (.aload_n 0, 1) := by decide +kernel
theorem dX11_readPlace_9 : decode cX11_readPlace 9 = .ok (.getfield 13, 3) := by decide +kernel
theorem dX11_readPlace_12 : decode cX11_readPlace 12 = .ok (.iconst 0, 1) := by decide +kernel
theorem dX11_readPlace_13 : decode cX11_readPlace 13 = .ok (.iaload, 1) := by decide +kernel
theorem dX11_readPlace_14 : decode cX11_readPlace 14 = .ok (.iconst 1, 1) := by decide +kernel
theorem dX11_readPlace_15 : decode cX11_readPlace 15 = .ok (.isub, 1) := by decide +kernel
theorem dX11_readPlace_16 : decode cX11_readPlace 16 = .ok (.invokevirtual 187, 3) := by decide +kernel
theorem dX11_readPlace_19 : decode cX11_readPlace 19 = .ok (.istore_n 2, 1) := by decide +kernel
theorem dX11_readPlace_20 : decode cX11_readPlace 20 = .ok (.aload_n 0, 1) := by decide +kernel
theorem dX11_readPlace_21 : decode cX11_readPlace 21 = .ok (.invokevirtual 160, 3) := by decide +kernel
theorem dX11_readPlace_24 : decode cX11_readPlace 24 = .ok (.ifCond .eq 49, 3) := by decide +kernel
theorem dX11_readPlace_27 : decode cX11_readPlace 27 = .ok (.aload_n 0, 1) := by decide +kernel
theorem dX11_readPlace_28 : decode cX11_readPlace 28 = .ok (.getfield 142, 3) := by decide +kernel
theorem dX11_readPlace_31 : decode cX11_readPlace 31 = .ok (.iconst 2, 1) := by decide +kernel
theorem dX11_readPlace_32 : decode cX11_readPlace 32 = .ok (.if_icmp .ne 41, 3) := by decide +kernel
theorem dX11_readPlace_35 : decode cX11_readPlace 35 = .ok (.aload_n 0, 1) := by decide +kernel
theorem dX11_readPlace_36 : decode cX11_readPlace 36 = .ok (.getfield 153, 3) := by decide +kernel
theorem dX11_readPlace_39 : decode cX11_readPlace 39 = .ok (.aload_n 0, 1) := by decide +kernel
theorem dX11_readPlace_40 : decode cX11_readPlace 40 = .ok (.getfield 13, 3) := by decide +kernel
theorem dX11_readPlace_43 : decode cX11_readPlace 43 = .ok (.iconst 1, 1) := by decide +kernel
theorem dX11_readPlace_44 : decode cX11_readPlace 44 = .ok (.iaload, 1) := by decide +kernel
theorem dX11_readPlace_45 : decode cX11_readPlace 45 = .ok (.if_icmp .ge 28, 3) := by decide +kernel
theorem dX11_readPlace_48 : decode cX11_readPlace 48 = .ok (.iload_n 1, 1) := by decide +kernel
theorem dX11_readPlace_49 : decode cX11_readPlace 49 = .ok (.aload_n 0, 1) := by decide +kernel
theorem dX11_readPlace_50 : decode cX11_readPlace 50 = .ok (.getfield 13, 3) := by decide +kernel
theorem dX11_readPlace_53 : decode cX11_readPlace 53 = .ok (.iconst 0, 1) := by decide +kernel
theorem dX11_readPlace_54 : decode cX11_readPlace 54 = .ok (.iaload, 1) := by decide +kernel
theorem dX11_readPlace_55 : decode cX11_readPlace 55 = .ok (.aload_n 0, 1) := by decide +kernel
theorem dX11_readPlace_56 : decode cX11_readPlace 56 = .ok (.getfield 153, 3) := by decide +kernel
theorem dX11_readPlace_59 : decode cX11_readPlace 59 = .ok (.imul, 1) := by decide +kernel
theorem dX11_readPlace_60 : decode cX11_readPlace 60 = .ok (.iload_n 2, 1) := by decide +kernel
theorem dX11_readPlace_61 : decode cX11_readPlace 61 = .ok (.iadd, 1) := by decide +kernel
theorem dX11_readPlace_62 : decode cX11_readPlace 62 = .ok (.invokestatic 209, 3) := by decide +kernel
theorem dX11_readPlace_65 : decode cX11_readPlace 65 = .ok (.ifCond .eq 8, 3) := by decide +kernel
theorem dX11_readPlace_68 : decode cX11_readPlace 68 = .ok (.aload_n 0, 1) := by decide +kernel
theorem dX11_readPlace_69 : decode cX11_readPlace 69 = .ok (.iconst 2, 1) := by decide +kernel
theorem dX11_readPlace_70 : decode cX11_readPlace 70 = .ok (.invokevirtual 179, 3) := by decide +kernel
theorem dX11_readPlace_73 : decode cX11_readPlace 73 = .ok (.aload_n 0, 1) := by decide +kernel
theorem dX11_readPlace_74 : decode cX11_readPlace 74 = .ok (.iconst 0, 1) := by decide +kernel
theorem dX11_readPlace_75 : decode cX11_readPlace 75 = .ok (.aload_n 0, 1) := by decide +kernel
theorem dX11_readPlace_76 : decode cX11_readPlace 76 = .ok (.getfield 13, 3) := by decide +kernel
theorem dX11_readPlace_79 : decode cX11_readPlace 79 = .ok (.iconst 1, 1) := by decide +kernel
theorem dX11_readPlace_80 : decode cX11_readPlace 80 = .ok (.iaload, 1) := by decide +kernel
theorem dX11_readPlace_81 : decode cX11_readPlace 81 = .ok (.iconst 1, 1) := by decide +kernel
theorem dX11_readPlace_82 : decode cX11_readPlace 82 = .ok (.isub, 1) := by decide +kernel
theorem dX11_readPlace_83 : decode cX11_readPlace 83 = .ok (.invokevirtual 187, 3) := by decide +kernel
theorem dX11_readPlace_86 : decode cX11_readPlace 86 = .ok (.istore_n 3, 1) := by decide +kernel
theorem dX11_readPlace_87 : decode cX11_readPlace 87 = .ok (.aload_n 0, 1) := by decide +kernel
theorem dX11_readPlace_88 : decode cX11_readPlace 88 = .ok (.getfield 13, 3) := by decide +kernel
theorem dX11_readPlace_91 : decode cX11_readPlace 91 = .ok (.iconst 0, 1) := by decide +kernel
theorem dX11_readPlace_92 : decode cX11_readPlace 92 = .ok (.iaload, 1) := by decide +kernel
theorem dX11_readPlace_93 : decode cX11_readPlace 93 = .ok (.iload_n 3, 1) := by decide +kernel
theorem dX11_readPlace_94 : decode cX11_readPlace 94 = .ok (.imul, 1) := by decide +kernel
theorem dX11_readPlace_95 : decode cX11_readPlace 95 = .ok (.iload_n 2, 1) := by decide +kernel
theorem dX11_readPlace_96 : decode cX11_readPlace 96 = .ok (.iadd, 1) := by decide +kernel
theorem dX11_readPlace_97 : decode cX11_readPlace 97 = .ok (.ireturn, 1) := by decide +kernel
theorem dX11_readStrap_0 : decode cX11_readStrap 0 = .ok (.aload_n 0, 1) := by decide +kernel
theorem dX11_readStrap_1 : decode cX11_readStrap 1 = .ok (.iconst 0, 1) := by decide +kernel
theorem dX11_readStrap_2 : decode cX11_readStrap 2 = .ok (.invokevirtual 213, 3) := by decide +kernel
theorem dX11_readStrap_5 : decode cX11_readStrap 5 = .ok (.istore_n 1, 1) := by decide +kernel
theorem dX11_readStrap_6 : decode cX11_readStrap 6 = .ok (.aload_n 0, 1) := by decide +kernel
theorem dX11_readStrap_7 : decode cX11_readStrap 7 = .ok (.ldc 216, 2) := by decide +kernel
theorem dX11_readStrap_9 : decode cX11_readStrap 9 = .ok (.invokevirtual 172, 3) := by decide +kernel
theorem dX11_readStrap_12 : decode cX11_readStrap 12 = .ok (.istore_n 2, 1) := by decide +kernel
theorem dX11_readStrap_13 : decode cX11_readStrap 13 = .ok (.aload_n 0, 1) := by decide +kernel
theorem dX11_readStrap_14 : decode cX11_readStrap 14 = .ok (.invokevirtual 160, 3) := by decide +kernel
theorem dX11_readStrap_17 : decode cX11_readStrap 17 = .ok (.ifCond .eq 21, 3) := by decide +kernel
theorem dX11_readStrap_20 : decode cX11_readStrap 20 = .ok (.iload_n 2, 1) := by decide +kernel
theorem dX11_readStrap_21 : decode cX11_readStrap 21 = .ok (.ifCond .ne 17, 3) := by decide +kernel
theorem dX11_readStrap_24 : decode cX11_readStrap 24 = .ok (.aload_n 0, 1) := by decide +kernel
theorem dX11_readStrap_25 : decode cX11_readStrap 25 = .ok (.ldc 218, 2) := by decide +kernel
theorem dX11_readStrap_27 : decode cX11_readStrap 27 = .ok (.invokevirtual 172, 3) := by decide +kernel
theorem dX11_readStrap_30 : decode cX11_readStrap 30 = .ok (.ifCond .ne 8, 3) := by decide +kernel
theorem dX11_readStrap_33 : decode cX11_readStrap 33 = .ok (.aload_n 0, 1) := by decide +kernel
theorem dX11_readStrap_34 : decode cX11_readStrap 34 = .ok (.iconst 1, 1) := by decide +kernel
theorem dX11_readStrap_35 : decode cX11_readStrap 35 = .ok (.invokevirtual 179, 3) := by decide +kernel
theorem dX11_readStrap_38 : decode cX11_readStrap 38 = .ok (.iload_n 2, 1) := by decide +kernel
theorem dX11_readStrap_39 : decode cX11_readStrap 39 = .ok (.ifCond .eq 9, 3) := by decide +kernel
theorem dX11_readStrap_42 : decode cX11_readStrap 42 = .ok (.iload_n 1, 1) := by decide +kernel
theorem dX11_readStrap_43 : decode cX11_readStrap 43 = .ok (.iconst 1, 1) := by decide +kernel
theorem dX11_readStrap_44 : decode cX11_readStrap 44 = .ok (.iadd, 1) := by decide +kernel
theorem dX11_readStrap_45 : decode cX11_readStrap 45 = .ok (.goto 11, 3) := by decide +kernel
theorem dX11_readStrap_48 : decode cX11_readStrap 48 = .ok (.iload_n 1, 1) := by decide +kernel
theorem dX11_readStrap_49 : decode cX11_readStrap 49 = .ok (.aload_n 0, 1) := by decide +kernel
theorem dX11_readStrap_50 : decode cX11_readStrap 50 = .ok (.getfield 13, 3) := by decide +kernel
theorem dX11_readStrap_53 : decode cX11_readStrap 53 = .ok (.iconst 0, 1) := by decide +kernel
theorem dX11_readStrap_54 : decode cX11_readStrap 54 = .ok (.iaload, 1) := by decide +kernel
theorem dX11_readStrap_55 : decode cX11_readStrap 55 = .ok (.iadd, 1) := by decide +kernel
theorem dX11_readStrap_56 : decode cX11_readStrap 56 = .ok (.istore_n 3, 1) := by decide +kernel
theorem dX11_readStrap_57 : decode cX11_readStrap 57 = .ok (.iload_n 2, 1) := by decide +kernel
theorem dX11_readStrap_58 : decode cX11_readStrap 58 = .ok (.ifCond .eq 30, 3) := by decide +kernel
theorem dX11_readStrap_61 : decode cX11_readStrap 61 = .ok (.iload_n 1, 1) := by decide +kernel
theorem dX11_readStrap_62 : decode cX11_readStrap 62 = .ok (.aload_n 0, 1) := by decide +kernel
theorem dX11_readStrap_63 : decode cX11_readStrap 63 = .ok (.getfield 13, 3) := by decide +kernel
theorem dX11_readStrap_66 : decode cX11_readStrap 66 = .ok (.iconst 0, 1) := by decide +kernel
theorem dX11_readStrap_67 : decode cX11_readStrap 67 = .ok (.iaload, 1) := by decide +kernel
theorem dX11_readStrap_68 : decode cX11_readStrap 68 = .ok (.irem, 1) := by decide +kernel
theorem dX11_readStrap_69 : decode cX11_readStrap 69 = .ok (.aload_n 0, 1) := by decide +kernel
theorem dX11_readStrap_70 : decode cX11_readStrap 70 = .ok (.getfield 13, 3) := by decide +kernel
theorem dX11_readStrap_73 : decode cX11_readStrap 73 = .ok (.iconst 0, 1) := by decide +kernel
theorem dX11_readStrap_74 : decode cX11_readStrap 74 = .ok (.iaload, 1) := by decide +kernel
theorem dX11_readStrap_75 : decode cX11_readStrap 75 = .ok (.iconst 1, 1) := by decide +kernel
theorem dX11_readStrap_76 : decode cX11_readStrap 76 = .ok (.isub, 1) := by decide +kernel
theorem dX11_readStrap_77 : decode cX11_readStrap 77 = .ok (.if_icmp .ge 7, 3) := by decide +kernel
theorem dX11_readStrap_80 : decode cX11_readStrap 80 = .ok (.iconst 1, 1) := by decide +kernel
theorem dX11_readStrap_81 : decode cX11_readStrap 81 = .ok (.goto 31, 3) := by decide +kernel
theorem dX11_readStrap_84 : decode cX11_readStrap 84 = .ok (.iconst 0, 1) := by decide +kernel
theorem dX11_readStrap_85 : decode cX11_readStrap 85 = .ok (.goto 27, 3) := by decide +kernel
theorem dX11_readStrap_88 : decode cX11_readStrap 88 = .ok (.iload_n 1, 1) := by decide +kernel
theorem dX11_readStrap_89 : decode cX11_readStrap 89 = .ok (.aload_n 0, 1) := by decide +kernel
theorem dX11_readStrap_90 : decode cX11_readStrap 90 = .ok (.getfield 13, 3) := by decide +kernel
theorem dX11_readStrap_93 : decode cX11_readStrap 93 = .ok (.iconst 0, 1) := by decide +kernel
theorem dX11_readStrap_94 : decode cX11_readStrap 94 = .ok (.iaload, 1) := by decide +kernel
theorem dX11_readStrap_95 : decode cX11_readStrap 95 = .ok (.idiv, 1) := by decide +kernel
theorem dX11_readStrap_96 : decode cX11_readStrap 96 = .ok (.aload_n 0, 1) := by decide +kernel
theorem dX11_readStrap_97 : decode cX11_readStrap 97 = .ok (.getfield 13, 3) := by decide +kernel
theorem dX11_readStrap_100 : decode cX11_readStrap 100 = .ok (.iconst 1, 1) := by decide +kernel
theorem dX11_readStrap_101 : decode cX11_readStrap 101 = .ok (.iaload, 1) := by decide +kernel
theorem dX11_readStrap_102 : decode cX11_readStrap 102 = .ok (.iconst 1, 1) := by decide +kernel
theorem dX11_readStrap_103 : decode cX11_readStrap 103 = .ok (.isub, 1) := by decide +kernel
theorem dX11_readStrap_104 : decode cX11_readStrap 104 = .ok (.if_icmp .ge 7, 3) := by decide +kernel
theorem dX11_readStrap_107 : decode cX11_readStrap 107 = .ok (.iconst 1, 1) := by decide +kernel
theorem dX11_readStrap_108 : decode cX11_readStrap 108 = .ok (.goto 4, 3) := by decide +kernel
theorem dX11_readStrap_111 : decode cX11_readStrap 111 = .ok (.iconst 0, 1) := by decide +kernel
theorem dX11_readStrap_112 : decode cX11_readStrap 112 = .ok (.istore 4, 2) := by decide +kernel
theorem dX11_readStrap_114 : decode cX11_readStrap 114 = .ok (.aload_n 0, 1) := by decide +kernel
theorem dX11_readStrap_115 : decode cX11_readStrap 115 = .ok (.invokevirtual 160, 3) := by decide +kernel
theorem dX11_readStrap_118 : decode cX11_readStrap 118 = .ok (.ifCond .eq 13, 3) := by decide +kernel
theorem dX11_readStrap_121 : decode cX11_readStrap 121 = .ok (.iload 4, 2) := by decide +kernel
theorem dX11_readStrap_123 : decode cX11_readStrap 123 = .ok (.ifCond .ne 8, 3) := by decide +kernel
theorem dX11_readStrap_126 : decode cX11_readStrap 126 = .ok (.aload_n 0, 1) := by decide +kernel
theorem dX11_readStrap_127 : decode cX11_readStrap 127 = .ok (.iconst 2, 1) := by decide +kernel
theorem dX11_readStrap_128 : decode cX11_readStrap 128 = .ok (.invokevirtual 179, 3) := by decide +kernel
theorem dX11_readStrap_131 : decode cX11_readStrap 131 = .ok (.aload_n 0, 1) := by decide +kernel
theorem dX11_readStrap_132 : decode cX11_readStrap 132 = .ok (.invokevirtual 160, 3) := by decide +kernel
theorem dX11_readStrap_135 : decode cX11_readStrap 135 = .ok (.ifCond .eq 7, 3) := by decide +kernel
theorem dX11_readStrap_138 : decode cX11_readStrap 138 = .ok (.aload_n 0, 1) := by decide +kernel
theorem dX11_readStrap_139 : decode cX11_readStrap 139 = .ok (.invokevirtual 176, 3) := by decide +kernel
theorem dX11_readStrap_142 : decode cX11_readStrap 142 = .ok (.aload_n 0, 1) := by decide +kernel
theorem dX11_readStrap_143 : decode cX11_readStrap 143 = .ok (.ldc 202, 2) := by decide +kernel
theorem dX11_readStrap_145 : decode cX11_readStrap 145 = .ok (.iconst 0, 1) := by decide +kernel
theorem dX11_readStrap_146 : decode cX11_readStrap 146 = .ok (.iconst 4, 1) := by decide +kernel
theorem dX11_readStrap_147 : decode cX11_readStrap 147 = .ok (.invokevirtual 194, 3) := by decide +kernel
theorem dX11_readStrap_150 : decode cX11_readStrap 150 = .ok (.istore 5, 2) := by decide +kernel
theorem dX11_readStrap_152 : decode cX11_readStrap 152 = .ok (.aload_n 0, 1) := by decide +kernel
theorem dX11_readStrap_153 : decode cX11_readStrap 153 = .ok (.invokevirtual 160, 3) := by decide +kernel
theorem dX11_readStrap_156 : decode cX11_readStrap 156 = .ok (.ifCond .eq 19, 3) := by decide +kernel
theorem dX11_readStrap_159 : decode cX11_readStrap 159 = .ok (.aload_n 0, 1) := by decide +kernel
theorem dX11_readStrap_160 : decode cX11_readStrap 160 = .ok (.getfield 13, 3) := by decide +kernel
theorem dX11_readStrap_163 : decode cX11_readStrap 163 = .ok (.bipush 28, 2) := by decide +kernel
theorem dX11_readStrap_165 : decode cX11_readStrap 165 = .ok (.aload_n 0, 1) := by decide +kernel
theorem dX11_readStrap_166 : decode cX11_readStrap 166 = .ok (.iload_n 1, 1) := by decide +kernel
theorem dX11_readStrap_167 : decode cX11_readStrap 167 = .ok (.iload_n 3, 1) := by decide +kernel
theorem dX11_readStrap_168 : decode cX11_readStrap 168 = .ok (.invokevirtual 220, 3) := by decide +kernel
theorem dX11_readStrap_171 : decode cX11_readStrap 171 = .ok (.iadd, 1) := by decide +kernel
theorem dX11_readStrap_172 : decode cX11_readStrap 172 = .ok (.iload 5, 2) := by decide +kernel
theorem dX11_readStrap_174 : decode cX11_readStrap 174 = .ok (.iastore, 1) := by decide +kernel
theorem dX11_readStrap_175 : decode cX11_readStrap 175 = .ok (.return_, 1) := by decide +kernel
theorem dX11_readLoad_0 : decode cX11_readLoad 0 = .ok (.aload_n 0, 1) := by decide +kernel
theorem dX11_readLoad_1 : decode cX11_readLoad 1 = .ok (.aload_n 0, 1) := by decide +kernel
theorem dX11_readLoad_2 : decode cX11_readLoad 2 = .ok (.getfield 223, 3) := by decide +kernel
theorem dX11_readLoad_5 : decode cX11_readLoad 5 = .ok (.invokevirtual 213, 3) := by decide +kernel
theorem dX11_readLoad_8 : decode cX11_readLoad 8 = .ok (.istore_n 1, 1) := by decide +kernel
theorem dX11_readLoad_9 : decode cX11_readLoad 9 = .ok (.aload_n 0, 1) := by decide +kernel
theorem dX11_readLoad_10 : decode cX11_readLoad 10 = .ok (.ldc 226, 2) := by decide +kernel
theorem dX11_readLoad_12 : decode cX11_readLoad 12 = .ok (.iconst 1, 1) := by decide +kernel
theorem dX11_readLoad_13 : decode cX11_readLoad 13 = .ok (.bipush 99, 2) := by decide +kernel
theorem dX11_readLoad_15 : decode cX11_readLoad 15 = .ok (.invokevirtual 194, 3) := by decide +kernel
theorem dX11_readLoad_18 : decode cX11_readLoad 18 = .ok (.istore_n 2, 1) := by decide +kernel
theorem dX11_readLoad_19 : decode cX11_readLoad 19 = .ok (.iconst 0, 1) := by decide +kernel
theorem dX11_readLoad_20 : decode cX11_readLoad 20 = .ok (.istore_n 3, 1) := by decide +kernel
theorem dX11_readLoad_21 : decode cX11_readLoad 21 = .ok (.aload_n 0, 1) := by decide +kernel
theorem dX11_readLoad_22 : decode cX11_readLoad 22 = .ok (.ldc 228, 2) := by decide +kernel
theorem dX11_readLoad_24 : decode cX11_readLoad 24 = .ok (.invokevirtual 172, 3) := by decide +kernel
theorem dX11_readLoad_27 : decode cX11_readLoad 27 = .ok (.ifCond .eq 14, 3) := by decide +kernel
theorem dX11_readLoad_30 : decode cX11_readLoad 30 = .ok (.aload_n 0, 1) := by decide +kernel
theorem dX11_readLoad_31 : decode cX11_readLoad 31 = .ok (.invokevirtual 176, 3) := by decide +kernel
theorem dX11_readLoad_34 : decode cX11_readLoad 34 = .ok (.aload_n 0, 1) := by decide +kernel
theorem dX11_readLoad_35 : decode cX11_readLoad 35 = .ok (.iconst 1, 1) := by decide +kernel
theorem dX11_readLoad_36 : decode cX11_readLoad 36 = .ok (.iconst 3, 1) := by decide +kernel
theorem dX11_readLoad_37 : decode cX11_readLoad 37 = .ok (.invokevirtual 187, 3) := by decide +kernel
theorem dX11_readLoad_40 : decode cX11_readLoad 40 = .ok (.istore_n 3, 1) := by decide +kernel
theorem dX11_readLoad_41 : decode cX11_readLoad 41 = .ok (.aload_n 0, 1) := by decide +kernel
theorem dX11_readLoad_42 : decode cX11_readLoad 42 = .ok (.invokevirtual 160, 3) := by decide +kernel
theorem dX11_readLoad_45 : decode cX11_readLoad 45 = .ok (.ifCond .ne 4, 3) := by decide +kernel
theorem dX11_readLoad_48 : decode cX11_readLoad 48 = .ok (.return_, 1) := by decide +kernel
theorem dX11_readLoad_49 : decode cX11_readLoad 49 = .ok (.aload_n 0, 1) := by decide +kernel
theorem dX11_readLoad_50 : decode cX11_readLoad 50 = .ok (.getfield 13, 3) := by decide +kernel
theorem dX11_readLoad_53 : decode cX11_readLoad 53 = .ok (.bipush 6, 2) := by decide +kernel
theorem dX11_readLoad_55 : decode cX11_readLoad 55 = .ok (.iload_n 1, 1) := by decide +kernel
theorem dX11_readLoad_56 : decode cX11_readLoad 56 = .ok (.iadd, 1) := by decide +kernel
theorem dX11_readLoad_57 : decode cX11_readLoad 57 = .ok (.iload_n 2, 1) := by decide +kernel
theorem dX11_readLoad_58 : decode cX11_readLoad 58 = .ok (.iastore, 1) := by decide +kernel
theorem dX11_readLoad_59 : decode cX11_readLoad 59 = .ok (.aload_n 0, 1) := by decide +kernel
theorem dX11_readLoad_60 : decode cX11_readLoad 60 = .ok (.getfield 13, 3) := by decide +kernel
theorem dX11_readLoad_63 : decode cX11_readLoad 63 = .ok (.bipush 15, 2) := by decide +kernel
theorem dX11_readLoad_65 : decode cX11_readLoad 65 = .ok (.iload_n 1, 1) := by decide +kernel
theorem dX11_readLoad_66 : decode cX11_readLoad 66 = .ok (.iadd, 1) := by decide +kernel
theorem dX11_readLoad_67 : decode cX11_readLoad 67 = .ok (.iload_n 3, 1) := by decide +kernel
theorem dX11_readLoad_68 : decode cX11_readLoad 68 = .ok (.iastore, 1) := by decide +kernel
theorem dX11_readLoad_69 : decode cX11_readLoad 69 = .ok (.aload_n 0, 1) := by decide +kernel
theorem dX11_readLoad_70 : decode cX11_readLoad 70 = .ok (.dup, 1) := by decide +kernel
theorem dX11_readLoad_71 : decode cX11_readLoad 71 = .ok (.getfield 223, 3) := by decide +kernel
theorem dX11_readLoad_74 : decode cX11_readLoad 74 = .ok (.iconst 1, 1) := by decide +kernel
theorem dX11_readLoad_75 : decode cX11_readLoad 75 = .ok (.iload_n 1, 1) := by decide +kernel
theorem dX11_readLoad_76 : decode cX11_readLoad 76 = .ok (.ishl, 1) := by decide +kernel
theorem dX11_readLoad_77 : decode cX11_readLoad 77 = .ok (.ior, 1) := by decide +kernel
theorem dX11_readLoad_78 : decode cX11_readLoad 78 = .ok (.putfield 223, 3) := by decide +kernel
theorem dX11_readLoad_81 : decode cX11_readLoad 81 = .ok (.return_, 1) := by decide +kernel
theorem dX11_readBudget_0 : decode cX11_readBudget 0 = .ok (.aload_n 0, 1) := by decide +kernel
theorem dX11_readBudget_1 : decode cX11_readBudget 1 = .ok (.invokevirtual 160, 3) := by decide +kernel
theorem dX11_readBudget_4 : decode cX11_readBudget 4 = .ok (.ifCond .eq 38, 3) := by decide +kernel
theorem dX11_readBudget_7 : decode cX11_readBudget 7 = .ok (.aload_n 0, 1) := by decide +kernel
theorem dX11_readBudget_8 : decode cX11_readBudget 8 = .ok (.getfield 142, 3) := by decide +kernel
theorem dX11_readBudget_11 : decode cX11_readBudget 11 = .ok (.iconst 2, 1) := by decide +kernel
theorem dX11_readBudget_12 : decode cX11_readBudget 12 = .ok (.if_icmp .ne 30, 3) := by decide +kernel
theorem dX11_readBudget_15 : decode cX11_readBudget 15 = .ok (.aload_n 0, 1) := by decide +kernel
theorem dX11_readBudget_16 : decode cX11_readBudget 16 = .ok (.getfield 153, 3) := by decide +kernel
theorem dX11_readBudget_19 : decode cX11_readBudget 19 = .ok (.iconst 4, 1) := by decide +kernel
theorem dX11_readBudget_20 : decode cX11_readBudget 20 = .ok (.if_icmp .ge 22, 3) := by decide +kernel
theorem dX11_readBudget_23 : decode cX11_readBudget 23 = .ok (.aload_n 0, 1) := by decide +kernel
theorem dX11_readBudget_24 : decode cX11_readBudget 24 = .ok (.getfield 230, 3) := by decide +kernel
theorem dX11_readBudget_27 : decode cX11_readBudget 27 = .ok (.aload_n 0, 1) := by decide +kernel
theorem dX11_readBudget_28 : decode cX11_readBudget 28 = .ok (.getfield 153, 3) := by decide +kernel
theorem dX11_readBudget_31 : decode cX11_readBudget 31 = .ok (.invokestatic 209, 3) := by decide +kernel
theorem dX11_readBudget_34 : decode cX11_readBudget 34 = .ok (.ifCond .eq 8, 3) := by decide +kernel
theorem dX11_readBudget_37 : decode cX11_readBudget 37 = .ok (.aload_n 0, 1) := by decide +kernel
theorem dX11_readBudget_38 : decode cX11_readBudget 38 = .ok (.iconst 2, 1) := by decide +kernel
theorem dX11_readBudget_39 : decode cX11_readBudget 39 = .ok (.invokevirtual 179, 3) := by decide +kernel
theorem dX11_readBudget_42 : decode cX11_readBudget 42 = .ok (.aload_n 0, 1) := by decide +kernel
theorem dX11_readBudget_43 : decode cX11_readBudget 43 = .ok (.iconst 0, 1) := by decide +kernel
theorem dX11_readBudget_44 : decode cX11_readBudget 44 = .ok (.iconst 3, 1) := by decide +kernel
theorem dX11_readBudget_45 : decode cX11_readBudget 45 = .ok (.invokevirtual 187, 3) := by decide +kernel
theorem dX11_readBudget_48 : decode cX11_readBudget 48 = .ok (.istore_n 1, 1) := by decide +kernel
theorem dX11_readBudget_49 : decode cX11_readBudget 49 = .ok (.aload_n 0, 1) := by decide +kernel
theorem dX11_readBudget_50 : decode cX11_readBudget 50 = .ok (.ldc 233, 2) := by decide +kernel
theorem dX11_readBudget_52 : decode cX11_readBudget 52 = .ok (.iconst 0, 1) := by decide +kernel
theorem dX11_readBudget_53 : decode cX11_readBudget 53 = .ok (.sipush 999, 3) := by decide +kernel
theorem dX11_readBudget_56 : decode cX11_readBudget 56 = .ok (.invokevirtual 194, 3) := by decide +kernel
theorem dX11_readBudget_59 : decode cX11_readBudget 59 = .ok (.istore_n 2, 1) := by decide +kernel
theorem dX11_readBudget_60 : decode cX11_readBudget 60 = .ok (.aload_n 0, 1) := by decide +kernel
theorem dX11_readBudget_61 : decode cX11_readBudget 61 = .ok (.invokevirtual 160, 3) := by decide +kernel
theorem dX11_readBudget_64 : decode cX11_readBudget 64 = .ok (.ifCond .ne 4, 3) := by decide +kernel
theorem dX11_readBudget_67 : decode cX11_readBudget 67 = .ok (.return_, 1) := by decide +kernel
theorem dX11_readBudget_68 : decode cX11_readBudget 68 = .ok (.aload_n 0, 1) := by decide +kernel
theorem dX11_readBudget_69 : decode cX11_readBudget 69 = .ok (.getfield 13, 3) := by decide +kernel
theorem dX11_readBudget_72 : decode cX11_readBudget 72 = .ok (.bipush 24, 2) := by decide +kernel
theorem dX11_readBudget_74 : decode cX11_readBudget 74 = .ok (.iload_n 1, 1) := by decide +kernel
theorem dX11_readBudget_75 : decode cX11_readBudget 75 = .ok (.iadd, 1) := by decide +kernel
theorem dX11_readBudget_76 : decode cX11_readBudget 76 = .ok (.iload_n 2, 1) := by decide +kernel
theorem dX11_readBudget_77 : decode cX11_readBudget 77 = .ok (.iastore, 1) := by decide +kernel
theorem dX11_readBudget_78 : decode cX11_readBudget 78 = .ok (.aload_n 0, 1) := by decide +kernel
theorem dX11_readBudget_79 : decode cX11_readBudget 79 = .ok (.dup, 1) := by decide +kernel
theorem dX11_readBudget_80 : decode cX11_readBudget 80 = .ok (.getfield 230, 3) := by decide +kernel
theorem dX11_readBudget_83 : decode cX11_readBudget 83 = .ok (.iconst 1, 1) := by decide +kernel
theorem dX11_readBudget_84 : decode cX11_readBudget 84 = .ok (.iload_n 1, 1) := by decide +kernel
theorem dX11_readBudget_85 : decode cX11_readBudget 85 = .ok (.ishl, 1) := by decide +kernel
theorem dX11_readBudget_86 : decode cX11_readBudget 86 = .ok (.ior, 1) := by decide +kernel
theorem dX11_readBudget_87 : decode cX11_readBudget 87 = .ok (.putfield 230, 3) := by decide +kernel
theorem dX11_readBudget_90 : decode cX11_readBudget 90 = .ok (.return_, 1) := by decide +kernel
theorem dX11_readLine_0 : decode cX11_readLine 0 = .ok (.aload_n 0, 1) := by decide +kernel
theorem dX11_readLine_1 : decode cX11_readLine 1 = .ok (.ldc 234, 2) := by decide +kernel
theorem dX11_readLine_3 : decode cX11_readLine 3 = .ok (.invokevirtual 172, 3) := by decide +kernel
theorem dX11_readLine_6 : decode cX11_readLine 6 = .ok (.ifCond .eq 14, 3) := by decide +kernel
theorem dX11_readLine_9 : decode cX11_readLine 9 = .ok (.aload_n 0, 1) := by decide +kernel
theorem dX11_readLine_10 : decode cX11_readLine 10 = .ok (.invokevirtual 176, 3) := by decide +kernel
theorem dX11_readLine_13 : decode cX11_readLine 13 = .ok (.aload_n 0, 1) := by decide +kernel
theorem dX11_readLine_14 : decode cX11_readLine 14 = .ok (.invokevirtual 236, 3) := by decide +kernel
theorem dX11_readLine_17 : decode cX11_readLine 17 = .ok (.goto 94, 3) := by decide +kernel
theorem dX11_readLine_20 : decode cX11_readLine 20 = .ok (.aload_n 0, 1) := by decide +kernel
theorem dX11_readLine_21 : decode cX11_readLine 21 = .ok (.ldc 239, 2) := by decide +kernel
theorem dX11_readLine_23 : decode cX11_readLine 23 = .ok (.invokevirtual 172, 3) := by decide +kernel
theorem dX11_readLine_26 : decode cX11_readLine 26 = .ok (.ifCond .eq 40, 3) := by decide +kernel
theorem dX11_readLine_29 : decode cX11_readLine 29 = .ok (.aload_n 0, 1) := by decide +kernel
theorem dX11_readLine_30 : decode cX11_readLine 30 = .ok (.invokevirtual 176, 3) := by decide +kernel
theorem dX11_readLine_33 : decode cX11_readLine 33 = .ok (.aload_n 0, 1) := by decide +kernel
theorem dX11_readLine_34 : decode cX11_readLine 34 = .ok (.aload_n 0, 1) := by decide +kernel
theorem dX11_readLine_35 : decode cX11_readLine 35 = .ok (.getfield 13, 3) := by decide +kernel
theorem dX11_readLine_38 : decode cX11_readLine 38 = .ok (.iconst 5, 1) := by decide +kernel
theorem dX11_readLine_39 : decode cX11_readLine 39 = .ok (.iaload, 1) := by decide +kernel
theorem dX11_readLine_40 : decode cX11_readLine 40 = .ok (.invokevirtual 213, 3) := by decide +kernel
theorem dX11_readLine_43 : decode cX11_readLine 43 = .ok (.istore_n 1, 1) := by decide +kernel
theorem dX11_readLine_44 : decode cX11_readLine 44 = .ok (.aload_n 0, 1) := by decide +kernel
theorem dX11_readLine_45 : decode cX11_readLine 45 = .ok (.invokevirtual 160, 3) := by decide +kernel
theorem dX11_readLine_48 : decode cX11_readLine 48 = .ok (.ifCond .eq 15, 3) := by decide +kernel
theorem dX11_readLine_51 : decode cX11_readLine 51 = .ok (.aload_n 0, 1) := by decide +kernel
theorem dX11_readLine_52 : decode cX11_readLine 52 = .ok (.getfield 13, 3) := by decide +kernel
theorem dX11_readLine_55 : decode cX11_readLine 55 = .ok (.iconst 5, 1) := by decide +kernel
theorem dX11_readLine_56 : decode cX11_readLine 56 = .ok (.dup2, 1) := by decide +kernel
theorem dX11_readLine_57 : decode cX11_readLine 57 = .ok (.iaload, 1) := by decide +kernel
theorem dX11_readLine_58 : decode cX11_readLine 58 = .ok (.iconst 1, 1) := by decide +kernel
theorem dX11_readLine_59 : decode cX11_readLine 59 = .ok (.iload_n 1, 1) := by decide +kernel
theorem dX11_readLine_60 : decode cX11_readLine 60 = .ok (.ishl, 1) := by decide +kernel
theorem dX11_readLine_61 : decode cX11_readLine 61 = .ok (.ior, 1) := by decide +kernel
theorem dX11_readLine_62 : decode cX11_readLine 62 = .ok (.iastore, 1) := by decide +kernel
theorem dX11_readLine_63 : decode cX11_readLine 63 = .ok (.goto 48, 3) := by decide +kernel
theorem dX11_readLine_66 : decode cX11_readLine 66 = .ok (.aload_n 0, 1) := by decide +kernel
theorem dX11_readLine_67 : decode cX11_readLine 67 = .ok (.ldc 241, 2) := by decide +kernel
theorem dX11_readLine_69 : decode cX11_readLine 69 = .ok (.invokevirtual 172, 3) := by decide +kernel
theorem dX11_readLine_72 : decode cX11_readLine 72 = .ok (.ifCond .eq 14, 3) := by decide +kernel
theorem dX11_readLine_75 : decode cX11_readLine 75 = .ok (.aload_n 0, 1) := by decide +kernel
theorem dX11_readLine_76 : decode cX11_readLine 76 = .ok (.invokevirtual 176, 3) := by decide +kernel
theorem dX11_readLine_79 : decode cX11_readLine 79 = .ok (.aload_n 0, 1) := by decide +kernel
theorem dX11_readLine_80 : decode cX11_readLine 80 = .ok (.invokevirtual 243, 3) := by decide +kernel
theorem dX11_readLine_83 : decode cX11_readLine 83 = .ok (.goto 28, 3) := by decide +kernel
theorem dX11_readLine_86 : decode cX11_readLine 86 = .ok (.aload_n 0, 1) := by decide +kernel
theorem dX11_readLine_87 : decode cX11_readLine 87 = .ok (.ldc 246, 2) := by decide +kernel
theorem dX11_readLine_89 : decode cX11_readLine 89 = .ok (.invokevirtual 172, 3) := by decide +kernel
theorem dX11_readLine_92 : decode cX11_readLine 92 = .ok (.ifCond .eq 14, 3) := by decide +kernel
theorem dX11_readLine_95 : decode cX11_readLine 95 = .ok (.aload_n 0, 1) := by decide +kernel
theorem dX11_readLine_96 : decode cX11_readLine 96 = .ok (.invokevirtual 176, 3) := by decide +kernel
theorem dX11_readLine_99 : decode cX11_readLine 99 = .ok (.aload_n 0, 1) := by decide +kernel
theorem dX11_readLine_100 : decode cX11_readLine 100 = .ok (.invokevirtual 248, 3) := by decide +kernel
theorem dX11_readLine_103 : decode cX11_readLine 103 = .ok (.goto 8, 3) := by decide +kernel
theorem dX11_readLine_106 : decode cX11_readLine 106 = .ok (.aload_n 0, 1) := by decide +kernel
theorem dX11_readLine_107 : decode cX11_readLine 107 = .ok (.iconst 1, 1) := by decide +kernel
theorem dX11_readLine_108 : decode cX11_readLine 108 = .ok (.invokevirtual 179, 3) := by decide +kernel
theorem dX11_readLine_111 : decode cX11_readLine 111 = .ok (.return_, 1) := by decide +kernel
theorem dX11_readText_0 : decode cX11_readText 0 = .ok (.aload_n 0, 1) := by decide +kernel
theorem dX11_readText_1 : decode cX11_readText 1 = .ok (.getfield 13, 3) := by decide +kernel
theorem dX11_readText_4 : decode cX11_readText 4 = .ok (.iconst 4, 1) := by decide +kernel
theorem dX11_readText_5 : decode cX11_readText 5 = .ok (.iaload, 1) := by decide +kernel
theorem dX11_readText_6 : decode cX11_readText 6 = .ok (.ifCond .ne 10, 3) := by decide +kernel
theorem dX11_readText_9 : decode cX11_readText 9 = .ok (.aload_n 0, 1) := by decide +kernel
theorem dX11_readText_10 : decode cX11_readText 10 = .ok (.invokevirtual 251, 3) := by decide +kernel
theorem dX11_readText_13 : decode cX11_readText 13 = .ok (.goto 7, 3) := by decide +kernel
theorem dX11_readText_16 : decode cX11_readText 16 = .ok (.aload_n 0, 1) := by decide +kernel
theorem dX11_readText_17 : decode cX11_readText 17 = .ok (.invokevirtual 254, 3) := by decide +kernel
theorem dX11_readText_20 : decode cX11_readText 20 = .ok (.aload_n 0, 1) := by decide +kernel
theorem dX11_readText_21 : decode cX11_readText 21 = .ok (.invokevirtual 160, 3) := by decide +kernel
theorem dX11_readText_24 : decode cX11_readText 24 = .ok (.ifCond .eq 16, 3) := by decide +kernel
theorem dX11_readText_27 : decode cX11_readText 27 = .ok (.aload_n 0, 1) := by decide +kernel
theorem dX11_readText_28 : decode cX11_readText 28 = .ok (.getfield 142, 3) := by decide +kernel
theorem dX11_readText_31 : decode cX11_readText 31 = .ok (.iconst 3, 1) := by decide +kernel
theorem dX11_readText_32 : decode cX11_readText 32 = .ok (.if_icmp .eq 8, 3) := by decide +kernel
theorem dX11_readText_35 : decode cX11_readText 35 = .ok (.aload_n 0, 1) := by decide +kernel
theorem dX11_readText_36 : decode cX11_readText 36 = .ok (.iconst 1, 1) := by decide +kernel
theorem dX11_readText_37 : decode cX11_readText 37 = .ok (.invokevirtual 179, 3) := by decide +kernel
theorem dX11_readText_40 : decode cX11_readText 40 = .ok (.aload_n 0, 1) := by decide +kernel
theorem dX11_readText_41 : decode cX11_readText 41 = .ok (.invokevirtual 160, 3) := by decide +kernel
theorem dX11_readText_44 : decode cX11_readText 44 = .ok (.ifCond .eq 7, 3) := by decide +kernel
theorem dX11_readText_47 : decode cX11_readText 47 = .ok (.aload_n 0, 1) := by decide +kernel
theorem dX11_readText_48 : decode cX11_readText 48 = .ok (.invokevirtual 176, 3) := by decide +kernel
theorem dX11_readText_51 : decode cX11_readText 51 = .ok (.aload_n 0, 1) := by decide +kernel
theorem dX11_readText_52 : decode cX11_readText 52 = .ok (.getfield 13, 3) := by decide +kernel
theorem dX11_readText_55 : decode cX11_readText 55 = .ok (.iconst 4, 1) := by decide +kernel
theorem dX11_readText_56 : decode cX11_readText 56 = .ok (.dup2, 1) := by decide +kernel
theorem dX11_readText_57 : decode cX11_readText 57 = .ok (.iaload, 1) := by decide +kernel
theorem dX11_readText_58 : decode cX11_readText 58 = .ok (.iconst 1, 1) := by decide +kernel
theorem dX11_readText_59 : decode cX11_readText 59 = .ok (.iadd, 1) := by decide +kernel
theorem dX11_readText_60 : decode cX11_readText 60 = .ok (.iastore, 1) := by decide +kernel
theorem dX11_readText_61 : decode cX11_readText 61 = .ok (.return_, 1) := by decide +kernel
theorem dX11_grid_0 : decode cX11_grid 0 = .ok (.aload_n 0, 1) := by decide +kernel
theorem dX11_grid_1 : decode cX11_grid 1 = .ok (.aload_n 0, 1) := by decide +kernel
theorem dX11_grid_2 : decode cX11_grid 2 = .ok (.getfield 126, 3) := by decide +kernel
theorem dX11_grid_5 : decode cX11_grid 5 = .ok (.putfield 129, 3) := by decide +kernel
theorem dX11_grid_8 : decode cX11_grid 8 = .ok (.aload_n 0, 1) := by decide +kernel
theorem dX11_grid_9 : decode cX11_grid 9 = .ok (.iconst 0, 1) := by decide +kernel
theorem dX11_grid_10 : decode cX11_grid 10 = .ok (.putfield 126, 3) := by decide +kernel
theorem dX11_grid_13 : decode cX11_grid 13 = .ok (.aload_n 0, 1) := by decide +kernel
theorem dX11_grid_14 : decode cX11_grid 14 = .ok (.iconst 0, 1) := by decide +kernel
theorem dX11_grid_15 : decode cX11_grid 15 = .ok (.putfield 132, 3) := by decide +kernel
theorem dX11_grid_18 : decode cX11_grid 18 = .ok (.aload_n 0, 1) := by decide +kernel
theorem dX11_grid_19 : decode cX11_grid 19 = .ok (.iconst 0, 1) := by decide +kernel
theorem dX11_grid_20 : decode cX11_grid 20 = .ok (.putfield 157, 3) := by decide +kernel
theorem dX11_grid_23 : decode cX11_grid 23 = .ok (.aload_n 0, 1) := by decide +kernel
theorem dX11_grid_24 : decode cX11_grid 24 = .ok (.iconst (-1), 1) := by decide +kernel
theorem dX11_grid_25 : decode cX11_grid 25 = .ok (.putfield 36, 3) := by decide +kernel
theorem dX11_grid_28 : decode cX11_grid 28 = .ok (.aload_n 0, 1) := by decide +kernel
theorem dX11_grid_29 : decode cX11_grid 29 = .ok (.iconst 0, 1) := by decide +kernel
theorem dX11_grid_30 : decode cX11_grid 30 = .ok (.putfield 230, 3) := by decide +kernel
theorem dX11_grid_33 : decode cX11_grid 33 = .ok (.aload_n 0, 1) := by decide +kernel
theorem dX11_grid_34 : decode cX11_grid 34 = .ok (.iconst 0, 1) := by decide +kernel
theorem dX11_grid_35 : decode cX11_grid 35 = .ok (.putfield 223, 3) := by decide +kernel
theorem dX11_grid_38 : decode cX11_grid 38 = .ok (.iconst 0, 1) := by decide +kernel
theorem dX11_grid_39 : decode cX11_grid 39 = .ok (.istore_n 1, 1) := by decide +kernel
theorem dX11_grid_40 : decode cX11_grid 40 = .ok (.iload_n 1, 1) := by decide +kernel
theorem dX11_grid_41 : decode cX11_grid 41 = .ok (.bipush 40, 2) := by decide +kernel
theorem dX11_grid_43 : decode cX11_grid 43 = .ok (.if_icmp .ge 16, 3) := by decide +kernel
theorem dX11_grid_46 : decode cX11_grid 46 = .ok (.aload_n 0, 1) := by decide +kernel
theorem dX11_grid_47 : decode cX11_grid 47 = .ok (.getfield 13, 3) := by decide +kernel
theorem dX11_grid_50 : decode cX11_grid 50 = .ok (.iload_n 1, 1) := by decide +kernel
theorem dX11_grid_51 : decode cX11_grid 51 = .ok (.iconst 0, 1) := by decide +kernel
theorem dX11_grid_52 : decode cX11_grid 52 = .ok (.iastore, 1) := by decide +kernel
theorem dX11_grid_53 : decode cX11_grid 53 = .ok (.iinc 1 1, 3) := by decide +kernel
theorem dX11_grid_56 : decode cX11_grid 56 = .ok (.goto (-16), 3) := by decide +kernel
theorem dX11_grid_59 : decode cX11_grid 59 = .ok (.aload_n 0, 1) := by decide +kernel
theorem dX11_grid_60 : decode cX11_grid 60 = .ok (.invokevirtual 176, 3) := by decide +kernel
theorem dX11_grid_63 : decode cX11_grid 63 = .ok (.aload_n 0, 1) := by decide +kernel
theorem dX11_grid_64 : decode cX11_grid 64 = .ok (.invokevirtual 160, 3) := by decide +kernel
theorem dX11_grid_67 : decode cX11_grid 67 = .ok (.ifCond .eq 17, 3) := by decide +kernel
theorem dX11_grid_70 : decode cX11_grid 70 = .ok (.aload_n 0, 1) := by decide +kernel
theorem dX11_grid_71 : decode cX11_grid 71 = .ok (.getfield 142, 3) := by decide +kernel
theorem dX11_grid_74 : decode cX11_grid 74 = .ok (.ifCond .eq 10, 3) := by decide +kernel
theorem dX11_grid_77 : decode cX11_grid 77 = .ok (.aload_n 0, 1) := by decide +kernel
theorem dX11_grid_78 : decode cX11_grid 78 = .ok (.invokevirtual 257, 3) := by decide +kernel
theorem dX11_grid_81 : decode cX11_grid 81 = .ok (.goto (-18), 3) := by decide +kernel
theorem dX11_grid_84 : decode cX11_grid 84 = .ok (.aload_n 0, 1) := by decide +kernel
theorem dX11_grid_85 : decode cX11_grid 85 = .ok (.invokevirtual 160, 3) := by decide +kernel
theorem dX11_grid_88 : decode cX11_grid 88 = .ok (.ifCond .ne 6, 3) := by decide +kernel
theorem dX11_grid_91 : decode cX11_grid 91 = .ok (.bipush (-4), 2) := by decide +kernel
theorem dX11_grid_93 : decode cX11_grid 93 = .ok (.ireturn, 1) := by decide +kernel
theorem dX11_grid_94 : decode cX11_grid 94 = .ok (.iconst 0, 1) := by decide +kernel
theorem dX11_grid_95 : decode cX11_grid 95 = .ok (.istore_n 1, 1) := by decide +kernel
theorem dX11_grid_96 : decode cX11_grid 96 = .ok (.iload_n 1, 1) := by decide +kernel
theorem dX11_grid_97 : decode cX11_grid 97 = .ok (.bipush 40, 2) := by decide +kernel
theorem dX11_grid_99 : decode cX11_grid 99 = .ok (.if_icmp .ge 21, 3) := by decide +kernel
theorem dX11_grid_102 : decode cX11_grid 102 = .ok (.aload_n 0, 1) := by decide +kernel
theorem dX11_grid_103 : decode cX11_grid 103 = .ok (.getfield 9, 3) := by decide +kernel
theorem dX11_grid_106 : decode cX11_grid 106 = .ok (.iload_n 1, 1) := by decide +kernel
theorem dX11_grid_107 : decode cX11_grid 107 = .ok (.aload_n 0, 1) := by decide +kernel
theorem dX11_grid_108 : decode cX11_grid 108 = .ok (.getfield 13, 3) := by decide +kernel
theorem dX11_grid_111 : decode cX11_grid 111 = .ok (.iload_n 1, 1) := by decide +kernel
theorem dX11_grid_112 : decode cX11_grid 112 = .ok (.iaload, 1) := by decide +kernel
theorem dX11_grid_113 : decode cX11_grid 113 = .ok (.iastore, 1) := by decide +kernel
theorem dX11_grid_114 : decode cX11_grid 114 = .ok (.iinc 1 1, 3) := by decide +kernel
theorem dX11_grid_117 : decode cX11_grid 117 = .ok (.goto (-21), 3) := by decide +kernel
theorem dX11_grid_120 : decode cX11_grid 120 = .ok (.aload_n 0, 1) := by decide +kernel
theorem dX11_grid_121 : decode cX11_grid 121 = .ok (.iconst 0, 1) := by decide +kernel
theorem dX11_grid_122 : decode cX11_grid 122 = .ok (.putfield 91, 3) := by decide +kernel
theorem dX11_grid_125 : decode cX11_grid 125 = .ok (.aload_n 0, 1) := by decide +kernel
theorem dX11_grid_126 : decode cX11_grid 126 = .ok (.getfield 9, 3) := by decide +kernel
theorem dX11_grid_129 : decode cX11_grid 129 = .ok (.iconst 4, 1) := by decide +kernel
theorem dX11_grid_130 : decode cX11_grid 130 = .ok (.iaload, 1) := by decide +kernel
theorem dX11_grid_131 : decode cX11_grid 131 = .ok (.ireturn, 1) := by decide +kernel
theorem dX11_comesTo_0 : decode cX11_comesTo 0 = .ok (.iload_n 1, 1) := by decide +kernel
theorem dX11_comesTo_1 : decode cX11_comesTo 1 = .ok (.istore_n 2, 1) := by decide +kernel
theorem dX11_comesTo_2 : decode cX11_comesTo 2 = .ok (.iconst 1, 1) := by decide +kernel
theorem dX11_comesTo_3 : decode cX11_comesTo 3 = .ok (.istore_n 3, 1) := by decide +kernel
theorem dX11_comesTo_4 : decode cX11_comesTo 4 = .ok (.iload_n 3, 1) := by decide +kernel
theorem dX11_comesTo_5 : decode cX11_comesTo 5 = .ok (.ifCond .eq 111, 3) := by decide +kernel
theorem dX11_comesTo_8 : decode cX11_comesTo 8 = .ok (.iconst 0, 1) := by decide +kernel
theorem dX11_comesTo_9 : decode cX11_comesTo 9 = .ok (.istore_n 3, 1) := by decide +kernel
theorem dX11_comesTo_10 : decode cX11_comesTo 10 = .ok (.iconst 0, 1) := by decide +kernel
theorem dX11_comesTo_11 : decode cX11_comesTo 11 = .ok (.istore 4, 2) := by decide +kernel
theorem dX11_comesTo_13 : decode cX11_comesTo 13 = .ok (.iload 4, 2) := by decide +kernel
theorem dX11_comesTo_15 : decode cX11_comesTo 15 = .ok (.aload_n 0, 1) := by decide +kernel
theorem dX11_comesTo_16 : decode cX11_comesTo 16 = .ok (.getfield 102, 3) := by decide +kernel
theorem dX11_comesTo_19 : decode cX11_comesTo 19 = .ok (.if_icmp .ge 94, 3) := by decide +kernel
theorem dX11_comesTo_22 : decode cX11_comesTo 22 = .ok (.iload_n 2, 1) := by decide +kernel
theorem dX11_comesTo_23 : decode cX11_comesTo 23 = .ok (.aload_n 0, 1) := by decide +kernel
theorem dX11_comesTo_24 : decode cX11_comesTo 24 = .ok (.getfield 26, 3) := by decide +kernel
theorem dX11_comesTo_27 : decode cX11_comesTo 27 = .ok (.iconst 2, 1) := by decide +kernel
theorem dX11_comesTo_28 : decode cX11_comesTo 28 = .ok (.iload 4, 2) := by decide +kernel
theorem dX11_comesTo_30 : decode cX11_comesTo 30 = .ok (.imul, 1) := by decide +kernel
theorem dX11_comesTo_31 : decode cX11_comesTo 31 = .ok (.iaload, 1) := by decide +kernel
theorem dX11_comesTo_32 : decode cX11_comesTo 32 = .ok (.invokestatic 209, 3) := by decide +kernel
theorem dX11_comesTo_35 : decode cX11_comesTo 35 = .ok (.istore 5, 2) := by decide +kernel
theorem dX11_comesTo_37 : decode cX11_comesTo 37 = .ok (.iload_n 2, 1) := by decide +kernel
theorem dX11_comesTo_38 : decode cX11_comesTo 38 = .ok (.aload_n 0, 1) := by decide +kernel
theorem dX11_comesTo_39 : decode cX11_comesTo 39 = .ok (.getfield 26, 3) := by decide +kernel
theorem dX11_comesTo_42 : decode cX11_comesTo 42 = .ok (.iconst 2, 1) := by decide +kernel
theorem dX11_comesTo_43 : decode cX11_comesTo 43 = .ok (.iload 4, 2) := by decide +kernel
theorem dX11_comesTo_45 : decode cX11_comesTo 45 = .ok (.imul, 1) := by decide +kernel
theorem dX11_comesTo_46 : decode cX11_comesTo 46 = .ok (.iconst 1, 1) := by decide +kernel
theorem dX11_comesTo_47 : decode cX11_comesTo 47 = .ok (.iadd, 1) := by decide +kernel
theorem dX11_comesTo_48 : decode cX11_comesTo 48 = .ok (.iaload, 1) := by decide +kernel
theorem dX11_comesTo_49 : decode cX11_comesTo 49 = .ok (.invokestatic 209, 3) := by decide +kernel
theorem dX11_comesTo_52 : decode cX11_comesTo 52 = .ok (.istore 6, 2) := by decide +kernel
theorem dX11_comesTo_54 : decode cX11_comesTo 54 = .ok (.aload_n 0, 1) := by decide +kernel
theorem dX11_comesTo_55 : decode cX11_comesTo 55 = .ok (.getfield 9, 3) := by decide +kernel
theorem dX11_comesTo_58 : decode cX11_comesTo 58 = .ok (.bipush 28, 2) := by decide +kernel
theorem dX11_comesTo_60 : decode cX11_comesTo 60 = .ok (.iload 4, 2) := by decide +kernel
theorem dX11_comesTo_62 : decode cX11_comesTo 62 = .ok (.iadd, 1) := by decide +kernel
theorem dX11_comesTo_63 : decode cX11_comesTo 63 = .ok (.iaload, 1) := by decide +kernel
theorem dX11_comesTo_64 : decode cX11_comesTo 64 = .ok (.ifCond .eq 43, 3) := by decide +kernel
theorem dX11_comesTo_67 : decode cX11_comesTo 67 = .ok (.iload 5, 2) := by decide +kernel
theorem dX11_comesTo_69 : decode cX11_comesTo 69 = .ok (.iload 6, 2) := by decide +kernel
theorem dX11_comesTo_71 : decode cX11_comesTo 71 = .ok (.if_icmp .ne 6, 3) := by decide +kernel
theorem dX11_comesTo_74 : decode cX11_comesTo 74 = .ok (.goto 33, 3) := by decide +kernel
theorem dX11_comesTo_77 : decode cX11_comesTo 77 = .ok (.iload_n 2, 1) := by decide +kernel
theorem dX11_comesTo_78 : decode cX11_comesTo 78 = .ok (.iconst 1, 1) := by decide +kernel
theorem dX11_comesTo_79 : decode cX11_comesTo 79 = .ok (.aload_n 0, 1) := by decide +kernel
theorem dX11_comesTo_80 : decode cX11_comesTo 80 = .ok (.getfield 26, 3) := by decide +kernel
theorem dX11_comesTo_83 : decode cX11_comesTo 83 = .ok (.iconst 2, 1) := by decide +kernel
theorem dX11_comesTo_84 : decode cX11_comesTo 84 = .ok (.iload 4, 2) := by decide +kernel
theorem dX11_comesTo_86 : decode cX11_comesTo 86 = .ok (.imul, 1) := by decide +kernel
theorem dX11_comesTo_87 : decode cX11_comesTo 87 = .ok (.iaload, 1) := by decide +kernel
theorem dX11_comesTo_88 : decode cX11_comesTo 88 = .ok (.ishl, 1) := by decide +kernel
theorem dX11_comesTo_89 : decode cX11_comesTo 89 = .ok (.iconst 1, 1) := by decide +kernel
theorem dX11_comesTo_90 : decode cX11_comesTo 90 = .ok (.aload_n 0, 1) := by decide +kernel
theorem dX11_comesTo_91 : decode cX11_comesTo 91 = .ok (.getfield 26, 3) := by decide +kernel
theorem dX11_comesTo_94 : decode cX11_comesTo 94 = .ok (.iconst 2, 1) := by decide +kernel
theorem dX11_comesTo_95 : decode cX11_comesTo 95 = .ok (.iload 4, 2) := by decide +kernel
theorem dX11_comesTo_97 : decode cX11_comesTo 97 = .ok (.imul, 1) := by decide +kernel
theorem dX11_comesTo_98 : decode cX11_comesTo 98 = .ok (.iconst 1, 1) := by decide +kernel
theorem dX11_comesTo_99 : decode cX11_comesTo 99 = .ok (.iadd, 1) := by decide +kernel
theorem dX11_comesTo_100 : decode cX11_comesTo 100 = .ok (.iaload, 1) := by decide +kernel
theorem dX11_comesTo_101 : decode cX11_comesTo 101 = .ok (.ishl, 1) := by decide +kernel
theorem dX11_comesTo_102 : decode cX11_comesTo 102 = .ok (.ior, 1) := by decide +kernel
theorem dX11_comesTo_103 : decode cX11_comesTo 103 = .ok (.ior, 1) := by decide +kernel
theorem dX11_comesTo_104 : decode cX11_comesTo 104 = .ok (.istore_n 2, 1) := by decide +kernel
theorem dX11_comesTo_105 : decode cX11_comesTo 105 = .ok (.iconst 1, 1) := by decide +kernel
theorem dX11_comesTo_106 : decode cX11_comesTo 106 = .ok (.istore_n 3, 1) := by decide +kernel
theorem dX11_comesTo_107 : decode cX11_comesTo 107 = .ok (.iinc 4 1, 3) := by decide +kernel
theorem dX11_comesTo_110 : decode cX11_comesTo 110 = .ok (.goto (-97), 3) := by decide +kernel
theorem dX11_comesTo_113 : decode cX11_comesTo 113 = .ok (.goto (-109), 3) := by decide +kernel
theorem dX11_comesTo_116 : decode cX11_comesTo 116 = .ok (.iload_n 2, 1) := by decide +kernel
theorem dX11_comesTo_117 : decode cX11_comesTo 117 = .ok (.ireturn, 1) := by decide +kernel
theorem dX11_laysCells_0 : decode cX11_laysCells 0 = .ok (.iconst 0, 1) := by decide +kernel
theorem dX11_laysCells_1 : decode cX11_laysCells 1 = .ok (.istore_n 1, 1) := by decide +kernel
theorem dX11_laysCells_2 : decode cX11_laysCells 2 = .ok (.iload_n 1, 1) := by decide +kernel
theorem dX11_laysCells_3 : decode cX11_laysCells 3 = .ok (.sipush 162, 3) := by decide +kernel
theorem dX11_laysCells_6 : decode cX11_laysCells 6 = .ok (.if_icmp .ge 16, 3) := by decide +kernel
theorem dX11_laysCells_9 : decode cX11_laysCells 9 = .ok (.aload_n 0, 1) := by decide +kernel
theorem dX11_laysCells_10 : decode cX11_laysCells 10 = .ok (.getfield 46, 3) := by decide +kernel
theorem dX11_laysCells_13 : decode cX11_laysCells 13 = .ok (.iload_n 1, 1) := by decide +kernel
theorem dX11_laysCells_14 : decode cX11_laysCells 14 = .ok (.lconst 0, 1) := by decide +kernel
theorem dX11_laysCells_15 : decode cX11_laysCells 15 = .ok (.lastore, 1) := by decide +kernel
theorem dX11_laysCells_16 : decode cX11_laysCells 16 = .ok (.iinc 1 1, 3) := by decide +kernel
theorem dX11_laysCells_19 : decode cX11_laysCells 19 = .ok (.goto (-17), 3) := by decide +kernel
theorem dX11_laysCells_22 : decode cX11_laysCells 22 = .ok (.iconst 0, 1) := by decide +kernel
theorem dX11_laysCells_23 : decode cX11_laysCells 23 = .ok (.istore_n 1, 1) := by decide +kernel
theorem dX11_laysCells_24 : decode cX11_laysCells 24 = .ok (.iload_n 1, 1) := by decide +kernel
theorem dX11_laysCells_25 : decode cX11_laysCells 25 = .ok (.aload_n 0, 1) := by decide +kernel
theorem dX11_laysCells_26 : decode cX11_laysCells 26 = .ok (.getfield 260, 3) := by decide +kernel
theorem dX11_laysCells_29 : decode cX11_laysCells 29 = .ok (.if_icmp .ge 24, 3) := by decide +kernel
theorem dX11_laysCells_32 : decode cX11_laysCells 32 = .ok (.aload_n 0, 1) := by decide +kernel
theorem dX11_laysCells_33 : decode cX11_laysCells 33 = .ok (.getfield 46, 3) := by decide +kernel
theorem dX11_laysCells_36 : decode cX11_laysCells 36 = .ok (.bipush 18, 2) := by decide +kernel
theorem dX11_laysCells_38 : decode cX11_laysCells 38 = .ok (.iload_n 1, 1) := by decide +kernel
theorem dX11_laysCells_39 : decode cX11_laysCells 39 = .ok (.imul, 1) := by decide +kernel
theorem dX11_laysCells_40 : decode cX11_laysCells 40 = .ok (.bipush 9, 2) := by decide +kernel
theorem dX11_laysCells_42 : decode cX11_laysCells 42 = .ok (.iadd, 1) := by decide +kernel
theorem dX11_laysCells_43 : decode cX11_laysCells 43 = .ok (.iload_n 1, 1) := by decide +kernel
theorem dX11_laysCells_44 : decode cX11_laysCells 44 = .ok (.iadd, 1) := by decide +kernel
theorem dX11_laysCells_45 : decode cX11_laysCells 45 = .ok (.lconst 1, 1) := by decide +kernel
theorem dX11_laysCells_46 : decode cX11_laysCells 46 = .ok (.lastore, 1) := by decide +kernel
theorem dX11_laysCells_47 : decode cX11_laysCells 47 = .ok (.iinc 1 1, 3) := by decide +kernel
theorem dX11_laysCells_50 : decode cX11_laysCells 50 = .ok (.goto (-26), 3) := by decide +kernel
theorem dX11_laysCells_53 : decode cX11_laysCells 53 = .ok (.iconst 0, 1) := by decide +kernel
theorem dX11_laysCells_54 : decode cX11_laysCells 54 = .ok (.istore_n 1, 1) := by decide +kernel
theorem dX11_laysCells_55 : decode cX11_laysCells 55 = .ok (.iload_n 1, 1) := by decide +kernel
theorem dX11_laysCells_56 : decode cX11_laysCells 56 = .ok (.aload_n 0, 1) := by decide +kernel
theorem dX11_laysCells_57 : decode cX11_laysCells 57 = .ok (.getfield 102, 3) := by decide +kernel
theorem dX11_laysCells_60 : decode cX11_laysCells 60 = .ok (.if_icmp .ge 138, 3) := by decide +kernel
theorem dX11_laysCells_63 : decode cX11_laysCells 63 = .ok (.aload_n 0, 1) := by decide +kernel
theorem dX11_laysCells_64 : decode cX11_laysCells 64 = .ok (.getfield 40, 3) := by decide +kernel
theorem dX11_laysCells_67 : decode cX11_laysCells 67 = .ok (.aload_n 0, 1) := by decide +kernel
theorem dX11_laysCells_68 : decode cX11_laysCells 68 = .ok (.getfield 26, 3) := by decide +kernel
theorem dX11_laysCells_71 : decode cX11_laysCells 71 = .ok (.iconst 2, 1) := by decide +kernel
theorem dX11_laysCells_72 : decode cX11_laysCells 72 = .ok (.iload_n 1, 1) := by decide +kernel
theorem dX11_laysCells_73 : decode cX11_laysCells 73 = .ok (.imul, 1) := by decide +kernel
theorem dX11_laysCells_74 : decode cX11_laysCells 74 = .ok (.iaload, 1) := by decide +kernel
theorem dX11_laysCells_75 : decode cX11_laysCells 75 = .ok (.iaload, 1) := by decide +kernel
theorem dX11_laysCells_76 : decode cX11_laysCells 76 = .ok (.istore_n 2, 1) := by decide +kernel
theorem dX11_laysCells_77 : decode cX11_laysCells 77 = .ok (.aload_n 0, 1) := by decide +kernel
theorem dX11_laysCells_78 : decode cX11_laysCells 78 = .ok (.getfield 40, 3) := by decide +kernel
theorem dX11_laysCells_81 : decode cX11_laysCells 81 = .ok (.aload_n 0, 1) := by decide +kernel
theorem dX11_laysCells_82 : decode cX11_laysCells 82 = .ok (.getfield 26, 3) := by decide +kernel
theorem dX11_laysCells_85 : decode cX11_laysCells 85 = .ok (.iconst 2, 1) := by decide +kernel
theorem dX11_laysCells_86 : decode cX11_laysCells 86 = .ok (.iload_n 1, 1) := by decide +kernel
theorem dX11_laysCells_87 : decode cX11_laysCells 87 = .ok (.imul, 1) := by decide +kernel
theorem dX11_laysCells_88 : decode cX11_laysCells 88 = .ok (.iconst 1, 1) := by decide +kernel
theorem dX11_laysCells_89 : decode cX11_laysCells 89 = .ok (.iadd, 1) := by decide +kernel
theorem dX11_laysCells_90 : decode cX11_laysCells 90 = .ok (.iaload, 1) := by decide +kernel
theorem dX11_laysCells_91 : decode cX11_laysCells 91 = .ok (.iaload, 1) := by decide +kernel
theorem dX11_laysCells_92 : decode cX11_laysCells 92 = .ok (.istore_n 3, 1) := by decide +kernel
theorem dX11_laysCells_93 : decode cX11_laysCells 93 = .ok (.aload_n 0, 1) := by decide +kernel
theorem dX11_laysCells_94 : decode cX11_laysCells 94 = .ok (.getfield 9, 3) := by decide +kernel
theorem dX11_laysCells_97 : decode cX11_laysCells 97 = .ok (.bipush 28, 2) := by decide +kernel
theorem dX11_laysCells_99 : decode cX11_laysCells 99 = .ok (.iload_n 1, 1) := by decide +kernel
theorem dX11_laysCells_100 : decode cX11_laysCells 100 = .ok (.iadd, 1) := by decide +kernel
theorem dX11_laysCells_101 : decode cX11_laysCells 101 = .ok (.iaload, 1) := by decide +kernel
theorem dX11_laysCells_102 : decode cX11_laysCells 102 = .ok (.i2l, 1) := by decide +kernel
theorem dX11_laysCells_103 : decode cX11_laysCells 103 = .ok (.lstore 4, 2) := by decide +kernel
theorem dX11_laysCells_105 : decode cX11_laysCells 105 = .ok (.iload_n 2, 1) := by decide +kernel
theorem dX11_laysCells_106 : decode cX11_laysCells 106 = .ok (.iconst (-1), 1) := by decide +kernel
theorem dX11_laysCells_107 : decode cX11_laysCells 107 = .ok (.if_icmp .eq 19, 3) := by decide +kernel
theorem dX11_laysCells_110 : decode cX11_laysCells 110 = .ok (.aload_n 0, 1) := by decide +kernel
theorem dX11_laysCells_111 : decode cX11_laysCells 111 = .ok (.getfield 46, 3) := by decide +kernel
theorem dX11_laysCells_114 : decode cX11_laysCells 114 = .ok (.bipush 18, 2) := by decide +kernel
theorem dX11_laysCells_116 : decode cX11_laysCells 116 = .ok (.iload_n 2, 1) := by decide +kernel
theorem dX11_laysCells_117 : decode cX11_laysCells 117 = .ok (.imul, 1) := by decide +kernel
theorem dX11_laysCells_118 : decode cX11_laysCells 118 = .ok (.iload_n 2, 1) := by decide +kernel
theorem dX11_laysCells_119 : decode cX11_laysCells 119 = .ok (.iadd, 1) := by decide +kernel
theorem dX11_laysCells_120 : decode cX11_laysCells 120 = .ok (.dup2, 1) := by decide +kernel
theorem dX11_laysCells_121 : decode cX11_laysCells 121 = .ok (.laload, 1) := by decide +kernel
theorem dX11_laysCells_122 : decode cX11_laysCells 122 = .ok (.lload 4, 2) := by decide +kernel
theorem dX11_laysCells_124 : decode cX11_laysCells 124 = .ok (.ladd, 1) := by decide +kernel
theorem dX11_laysCells_125 : decode cX11_laysCells 125 = .ok (.lastore, 1) := by decide +kernel
theorem dX11_laysCells_126 : decode cX11_laysCells 126 = .ok (.iload_n 3, 1) := by decide +kernel
theorem dX11_laysCells_127 : decode cX11_laysCells 127 = .ok (.iconst (-1), 1) := by decide +kernel
theorem dX11_laysCells_128 : decode cX11_laysCells 128 = .ok (.if_icmp .eq 19, 3) := by decide +kernel
theorem dX11_laysCells_131 : decode cX11_laysCells 131 = .ok (.aload_n 0, 1) := by decide +kernel
theorem dX11_laysCells_132 : decode cX11_laysCells 132 = .ok (.getfield 46, 3) := by decide +kernel
theorem dX11_laysCells_135 : decode cX11_laysCells 135 = .ok (.bipush 18, 2) := by decide +kernel
theorem dX11_laysCells_137 : decode cX11_laysCells 137 = .ok (.iload_n 3, 1) := by decide +kernel
theorem dX11_laysCells_138 : decode cX11_laysCells 138 = .ok (.imul, 1) := by decide +kernel
theorem dX11_laysCells_139 : decode cX11_laysCells 139 = .ok (.iload_n 3, 1) := by decide +kernel
theorem dX11_laysCells_140 : decode cX11_laysCells 140 = .ok (.iadd, 1) := by decide +kernel
theorem dX11_laysCells_141 : decode cX11_laysCells 141 = .ok (.dup2, 1) := by decide +kernel
theorem dX11_laysCells_142 : decode cX11_laysCells 142 = .ok (.laload, 1) := by decide +kernel
theorem dX11_laysCells_143 : decode cX11_laysCells 143 = .ok (.lload 4, 2) := by decide +kernel
theorem dX11_laysCells_145 : decode cX11_laysCells 145 = .ok (.ladd, 1) := by decide +kernel
theorem dX11_laysCells_146 : decode cX11_laysCells 146 = .ok (.lastore, 1) := by decide +kernel
theorem dX11_laysCells_147 : decode cX11_laysCells 147 = .ok (.iload_n 2, 1) := by decide +kernel
theorem dX11_laysCells_148 : decode cX11_laysCells 148 = .ok (.iconst (-1), 1) := by decide +kernel
theorem dX11_laysCells_149 : decode cX11_laysCells 149 = .ok (.if_icmp .eq 43, 3) := by decide +kernel
theorem dX11_laysCells_152 : decode cX11_laysCells 152 = .ok (.iload_n 3, 1) := by decide +kernel
theorem dX11_laysCells_153 : decode cX11_laysCells 153 = .ok (.iconst (-1), 1) := by decide +kernel
theorem dX11_laysCells_154 : decode cX11_laysCells 154 = .ok (.if_icmp .ne 6, 3) := by decide +kernel
theorem dX11_laysCells_157 : decode cX11_laysCells 157 = .ok (.goto 35, 3) := by decide +kernel
theorem dX11_laysCells_160 : decode cX11_laysCells 160 = .ok (.aload_n 0, 1) := by decide +kernel
theorem dX11_laysCells_161 : decode cX11_laysCells 161 = .ok (.getfield 46, 3) := by decide +kernel
theorem dX11_laysCells_164 : decode cX11_laysCells 164 = .ok (.bipush 18, 2) := by decide +kernel
theorem dX11_laysCells_166 : decode cX11_laysCells 166 = .ok (.iload_n 2, 1) := by decide +kernel
theorem dX11_laysCells_167 : decode cX11_laysCells 167 = .ok (.imul, 1) := by decide +kernel
theorem dX11_laysCells_168 : decode cX11_laysCells 168 = .ok (.iload_n 3, 1) := by decide +kernel
theorem dX11_laysCells_169 : decode cX11_laysCells 169 = .ok (.iadd, 1) := by decide +kernel
theorem dX11_laysCells_170 : decode cX11_laysCells 170 = .ok (.dup2, 1) := by decide +kernel
theorem dX11_laysCells_171 : decode cX11_laysCells 171 = .ok (.laload, 1) := by decide +kernel
theorem dX11_laysCells_172 : decode cX11_laysCells 172 = .ok (.lload 4, 2) := by decide +kernel
theorem dX11_laysCells_174 : decode cX11_laysCells 174 = .ok (.lsub, 1) := by decide +kernel
theorem dX11_laysCells_175 : decode cX11_laysCells 175 = .ok (.lastore, 1) := by decide +kernel
theorem dX11_laysCells_176 : decode cX11_laysCells 176 = .ok (.aload_n 0, 1) := by decide +kernel
theorem dX11_laysCells_177 : decode cX11_laysCells 177 = .ok (.getfield 46, 3) := by decide +kernel
theorem dX11_laysCells_180 : decode cX11_laysCells 180 = .ok (.bipush 18, 2) := by decide +kernel
theorem dX11_laysCells_182 : decode cX11_laysCells 182 = .ok (.iload_n 3, 1) := by decide +kernel
theorem dX11_laysCells_183 : decode cX11_laysCells 183 = .ok (.imul, 1) := by decide +kernel
theorem dX11_laysCells_184 : decode cX11_laysCells 184 = .ok (.iload_n 2, 1) := by decide +kernel
theorem dX11_laysCells_185 : decode cX11_laysCells 185 = .ok (.iadd, 1) := by decide +kernel
theorem dX11_laysCells_186 : decode cX11_laysCells 186 = .ok (.dup2, 1) := by decide +kernel
theorem dX11_laysCells_187 : decode cX11_laysCells 187 = .ok (.laload, 1) := by decide +kernel
theorem dX11_laysCells_188 : decode cX11_laysCells 188 = .ok (.lload 4, 2) := by decide +kernel
theorem dX11_laysCells_190 : decode cX11_laysCells 190 = .ok (.lsub, 1) := by decide +kernel
theorem dX11_laysCells_191 : decode cX11_laysCells 191 = .ok (.lastore, 1) := by decide +kernel
theorem dX11_laysCells_192 : decode cX11_laysCells 192 = .ok (.iinc 1 1, 3) := by decide +kernel
theorem dX11_laysCells_195 : decode cX11_laysCells 195 = .ok (.goto (-140), 3) := by decide +kernel
theorem dX11_laysCells_198 : decode cX11_laysCells 198 = .ok (.return_, 1) := by decide +kernel
theorem dX11_brings_0 : decode cX11_brings 0 = .ok (.aload_n 0, 1) := by decide +kernel
theorem dX11_brings_1 : decode cX11_brings 1 = .ok (.lconst 1, 1) := by decide +kernel
theorem dX11_brings_2 : decode cX11_brings 2 = .ok (.putfield 50, 3) := by decide +kernel
theorem dX11_brings_5 : decode cX11_brings 5 = .ok (.iconst 0, 1) := by decide +kernel
theorem dX11_brings_6 : decode cX11_brings 6 = .ok (.istore_n 1, 1) := by decide +kernel
theorem dX11_brings_7 : decode cX11_brings 7 = .ok (.iload_n 1, 1) := by decide +kernel
theorem dX11_brings_8 : decode cX11_brings 8 = .ok (.aload_n 0, 1) := by decide +kernel
theorem dX11_brings_9 : decode cX11_brings 9 = .ok (.getfield 260, 3) := by decide +kernel
theorem dX11_brings_12 : decode cX11_brings 12 = .ok (.if_icmp .ge 129, 3) := by decide +kernel
theorem dX11_brings_15 : decode cX11_brings 15 = .ok (.aload_n 0, 1) := by decide +kernel
theorem dX11_brings_16 : decode cX11_brings 16 = .ok (.getfield 46, 3) := by decide +kernel
theorem dX11_brings_19 : decode cX11_brings 19 = .ok (.bipush 18, 2) := by decide +kernel
theorem dX11_brings_21 : decode cX11_brings 21 = .ok (.iload_n 1, 1) := by decide +kernel
theorem dX11_brings_22 : decode cX11_brings 22 = .ok (.imul, 1) := by decide +kernel
theorem dX11_brings_23 : decode cX11_brings 23 = .ok (.iload_n 1, 1) := by decide +kernel
theorem dX11_brings_24 : decode cX11_brings 24 = .ok (.iadd, 1) := by decide +kernel
theorem dX11_brings_25 : decode cX11_brings 25 = .ok (.laload, 1) := by decide +kernel
theorem dX11_brings_26 : decode cX11_brings 26 = .ok (.lstore_n 2, 1) := by decide +kernel
theorem dX11_brings_27 : decode cX11_brings 27 = .ok (.iconst 0, 1) := by decide +kernel
theorem dX11_brings_28 : decode cX11_brings 28 = .ok (.istore 4, 2) := by decide +kernel
theorem dX11_brings_30 : decode cX11_brings 30 = .ok (.iload 4, 2) := by decide +kernel
theorem dX11_brings_32 : decode cX11_brings 32 = .ok (.aload_n 0, 1) := by decide +kernel
theorem dX11_brings_33 : decode cX11_brings 33 = .ok (.getfield 260, 3) := by decide +kernel
theorem dX11_brings_36 : decode cX11_brings 36 = .ok (.if_icmp .ge 94, 3) := by decide +kernel
theorem dX11_brings_39 : decode cX11_brings 39 = .ok (.aload_n 0, 1) := by decide +kernel
theorem dX11_brings_40 : decode cX11_brings 40 = .ok (.getfield 46, 3) := by decide +kernel
theorem dX11_brings_43 : decode cX11_brings 43 = .ok (.bipush 18, 2) := by decide +kernel
theorem dX11_brings_45 : decode cX11_brings 45 = .ok (.iload 4, 2) := by decide +kernel
theorem dX11_brings_47 : decode cX11_brings 47 = .ok (.imul, 1) := by decide +kernel
theorem dX11_brings_48 : decode cX11_brings 48 = .ok (.iload_n 1, 1) := by decide +kernel
theorem dX11_brings_49 : decode cX11_brings 49 = .ok (.iadd, 1) := by decide +kernel
theorem dX11_brings_50 : decode cX11_brings 50 = .ok (.laload, 1) := by decide +kernel
theorem dX11_brings_51 : decode cX11_brings 51 = .ok (.lstore 5, 2) := by decide +kernel
theorem dX11_brings_53 : decode cX11_brings 53 = .ok (.iconst 0, 1) := by decide +kernel
theorem dX11_brings_54 : decode cX11_brings 54 = .ok (.istore 7, 2) := by decide +kernel
theorem dX11_brings_56 : decode cX11_brings 56 = .ok (.iload 7, 2) := by decide +kernel
theorem dX11_brings_58 : decode cX11_brings 58 = .ok (.bipush 18, 2) := by decide +kernel
theorem dX11_brings_60 : decode cX11_brings 60 = .ok (.if_icmp .ge 64, 3) := by decide +kernel
theorem dX11_brings_63 : decode cX11_brings 63 = .ok (.iload 4, 2) := by decide +kernel
theorem dX11_brings_65 : decode cX11_brings 65 = .ok (.iload_n 1, 1) := by decide +kernel
theorem dX11_brings_66 : decode cX11_brings 66 = .ok (.if_icmp .eq 58, 3) := by decide +kernel
theorem dX11_brings_69 : decode cX11_brings 69 = .ok (.aload_n 0, 1) := by decide +kernel
theorem dX11_brings_70 : decode cX11_brings 70 = .ok (.getfield 46, 3) := by decide +kernel
theorem dX11_brings_73 : decode cX11_brings 73 = .ok (.bipush 18, 2) := by decide +kernel
theorem dX11_brings_75 : decode cX11_brings 75 = .ok (.iload 4, 2) := by decide +kernel
theorem dX11_brings_77 : decode cX11_brings 77 = .ok (.imul, 1) := by decide +kernel
theorem dX11_brings_78 : decode cX11_brings 78 = .ok (.iload 7, 2) := by decide +kernel
theorem dX11_brings_80 : decode cX11_brings 80 = .ok (.iadd, 1) := by decide +kernel
theorem dX11_brings_81 : decode cX11_brings 81 = .ok (.aload_n 0, 1) := by decide +kernel
theorem dX11_brings_82 : decode cX11_brings 82 = .ok (.getfield 46, 3) := by decide +kernel
theorem dX11_brings_85 : decode cX11_brings 85 = .ok (.bipush 18, 2) := by decide +kernel
theorem dX11_brings_87 : decode cX11_brings 87 = .ok (.iload 4, 2) := by decide +kernel
theorem dX11_brings_89 : decode cX11_brings 89 = .ok (.imul, 1) := by decide +kernel
theorem dX11_brings_90 : decode cX11_brings 90 = .ok (.iload 7, 2) := by decide +kernel
theorem dX11_brings_92 : decode cX11_brings 92 = .ok (.iadd, 1) := by decide +kernel
theorem dX11_brings_93 : decode cX11_brings 93 = .ok (.laload, 1) := by decide +kernel
theorem dX11_brings_94 : decode cX11_brings 94 = .ok (.lload_n 2, 1) := by decide +kernel
theorem dX11_brings_95 : decode cX11_brings 95 = .ok (.lmul, 1) := by decide +kernel
theorem dX11_brings_96 : decode cX11_brings 96 = .ok (.aload_n 0, 1) := by decide +kernel
theorem dX11_brings_97 : decode cX11_brings 97 = .ok (.getfield 46, 3) := by decide +kernel
theorem dX11_brings_100 : decode cX11_brings 100 = .ok (.bipush 18, 2) := by decide +kernel
theorem dX11_brings_102 : decode cX11_brings 102 = .ok (.iload_n 1, 1) := by decide +kernel
theorem dX11_brings_103 : decode cX11_brings 103 = .ok (.imul, 1) := by decide +kernel
theorem dX11_brings_104 : decode cX11_brings 104 = .ok (.iload 7, 2) := by decide +kernel
theorem dX11_brings_106 : decode cX11_brings 106 = .ok (.iadd, 1) := by decide +kernel
theorem dX11_brings_107 : decode cX11_brings 107 = .ok (.laload, 1) := by decide +kernel
theorem dX11_brings_108 : decode cX11_brings 108 = .ok (.lload 5, 2) := by decide +kernel
theorem dX11_brings_110 : decode cX11_brings 110 = .ok (.lmul, 1) := by decide +kernel
theorem dX11_brings_111 : decode cX11_brings 111 = .ok (.lsub, 1) := by decide +kernel
theorem dX11_brings_112 : decode cX11_brings 112 = .ok (.aload_n 0, 1) := by decide +kernel
theorem dX11_brings_113 : decode cX11_brings 113 = .ok (.getfield 50, 3) := by decide +kernel
theorem dX11_brings_116 : decode cX11_brings 116 = .ok (.ldiv, 1) := by decide +kernel
theorem dX11_brings_117 : decode cX11_brings 117 = .ok (.lastore, 1) := by decide +kernel
theorem dX11_brings_118 : decode cX11_brings 118 = .ok (.iinc 7 1, 3) := by decide +kernel
theorem dX11_brings_121 : decode cX11_brings 121 = .ok (.goto (-65), 3) := by decide +kernel
theorem dX11_brings_124 : decode cX11_brings 124 = .ok (.iinc 4 1, 3) := by decide +kernel
theorem dX11_brings_127 : decode cX11_brings 127 = .ok (.goto (-97), 3) := by decide +kernel
theorem dX11_brings_130 : decode cX11_brings 130 = .ok (.aload_n 0, 1) := by decide +kernel
theorem dX11_brings_131 : decode cX11_brings 131 = .ok (.lload_n 2, 1) := by decide +kernel
theorem dX11_brings_132 : decode cX11_brings 132 = .ok (.putfield 50, 3) := by decide +kernel
theorem dX11_brings_135 : decode cX11_brings 135 = .ok (.iinc 1 1, 3) := by decide +kernel
theorem dX11_brings_138 : decode cX11_brings 138 = .ok (.goto (-131), 3) := by decide +kernel
theorem dX11_brings_141 : decode cX11_brings 141 = .ok (.return_, 1) := by decide +kernel
theorem dX11_solves_0 : decode cX11_solves 0 = .ok (.aload_n 0, 1) := by decide +kernel
theorem dX11_solves_1 : decode cX11_solves 1 = .ok (.invokevirtual 116, 3) := by decide +kernel
theorem dX11_solves_4 : decode cX11_solves 4 = .ok (.pop, 1) := by decide +kernel
theorem dX11_solves_5 : decode cX11_solves 5 = .ok (.aload_n 0, 1) := by decide +kernel
theorem dX11_solves_6 : decode cX11_solves 6 = .ok (.iconst 1, 1) := by decide +kernel
theorem dX11_solves_7 : decode cX11_solves 7 = .ok (.aload_n 0, 1) := by decide +kernel
theorem dX11_solves_8 : decode cX11_solves 8 = .ok (.invokevirtual 98, 3) := by decide +kernel
theorem dX11_solves_11 : decode cX11_solves 11 = .ok (.ishl, 1) := by decide +kernel
theorem dX11_solves_12 : decode cX11_solves 12 = .ok (.iconst 1, 1) := by decide +kernel
theorem dX11_solves_13 : decode cX11_solves 13 = .ok (.isub, 1) := by decide +kernel
theorem dX11_solves_14 : decode cX11_solves 14 = .ok (.aload_n 0, 1) := by decide +kernel
theorem dX11_solves_15 : decode cX11_solves 15 = .ok (.iload_n 1, 1) := by decide +kernel
theorem dX11_solves_16 : decode cX11_solves 16 = .ok (.invokevirtual 263, 3) := by decide +kernel
theorem dX11_solves_19 : decode cX11_solves 19 = .ok (.iconst (-1), 1) := by decide +kernel
theorem dX11_solves_20 : decode cX11_solves 20 = .ok (.ixor, 1) := by decide +kernel
theorem dX11_solves_21 : decode cX11_solves 21 = .ok (.iand, 1) := by decide +kernel
theorem dX11_solves_22 : decode cX11_solves 22 = .ok (.putfield 266, 3) := by decide +kernel
theorem dX11_solves_25 : decode cX11_solves 25 = .ok (.aload_n 0, 1) := by decide +kernel
theorem dX11_solves_26 : decode cX11_solves 26 = .ok (.iconst 0, 1) := by decide +kernel
theorem dX11_solves_27 : decode cX11_solves 27 = .ok (.putfield 260, 3) := by decide +kernel
theorem dX11_solves_30 : decode cX11_solves 30 = .ok (.iconst 0, 1) := by decide +kernel
theorem dX11_solves_31 : decode cX11_solves 31 = .ok (.istore_n 2, 1) := by decide +kernel
theorem dX11_solves_32 : decode cX11_solves 32 = .ok (.iload_n 2, 1) := by decide +kernel
theorem dX11_solves_33 : decode cX11_solves 33 = .ok (.aload_n 0, 1) := by decide +kernel
theorem dX11_solves_34 : decode cX11_solves 34 = .ok (.invokevirtual 98, 3) := by decide +kernel
theorem dX11_solves_37 : decode cX11_solves 37 = .ok (.if_icmp .ge 68, 3) := by decide +kernel
theorem dX11_solves_40 : decode cX11_solves 40 = .ok (.aload_n 0, 1) := by decide +kernel
theorem dX11_solves_41 : decode cX11_solves 41 = .ok (.getfield 40, 3) := by decide +kernel
theorem dX11_solves_44 : decode cX11_solves 44 = .ok (.iload_n 2, 1) := by decide +kernel
theorem dX11_solves_45 : decode cX11_solves 45 = .ok (.iconst (-1), 1) := by decide +kernel
theorem dX11_solves_46 : decode cX11_solves 46 = .ok (.iastore, 1) := by decide +kernel
theorem dX11_solves_47 : decode cX11_solves 47 = .ok (.aload_n 0, 1) := by decide +kernel
theorem dX11_solves_48 : decode cX11_solves 48 = .ok (.getfield 266, 3) := by decide +kernel
theorem dX11_solves_51 : decode cX11_solves 51 = .ok (.iload_n 2, 1) := by decide +kernel
theorem dX11_solves_52 : decode cX11_solves 52 = .ok (.invokestatic 209, 3) := by decide +kernel
theorem dX11_solves_55 : decode cX11_solves 55 = .ok (.ifCond .ne 44, 3) := by decide +kernel
theorem dX11_solves_58 : decode cX11_solves 58 = .ok (.iload_n 1, 1) := by decide +kernel
theorem dX11_solves_59 : decode cX11_solves 59 = .ok (.iload_n 2, 1) := by decide +kernel
theorem dX11_solves_60 : decode cX11_solves 60 = .ok (.invokestatic 209, 3) := by decide +kernel
theorem dX11_solves_63 : decode cX11_solves 63 = .ok (.ifCond .eq 6, 3) := by decide +kernel
theorem dX11_solves_66 : decode cX11_solves 66 = .ok (.goto 33, 3) := by decide +kernel
theorem dX11_solves_69 : decode cX11_solves 69 = .ok (.aload_n 0, 1) := by decide +kernel
theorem dX11_solves_70 : decode cX11_solves 70 = .ok (.getfield 40, 3) := by decide +kernel
theorem dX11_solves_73 : decode cX11_solves 73 = .ok (.iload_n 2, 1) := by decide +kernel
theorem dX11_solves_74 : decode cX11_solves 74 = .ok (.aload_n 0, 1) := by decide +kernel
theorem dX11_solves_75 : decode cX11_solves 75 = .ok (.getfield 260, 3) := by decide +kernel
theorem dX11_solves_78 : decode cX11_solves 78 = .ok (.iastore, 1) := by decide +kernel
theorem dX11_solves_79 : decode cX11_solves 79 = .ok (.aload_n 0, 1) := by decide +kernel
theorem dX11_solves_80 : decode cX11_solves 80 = .ok (.getfield 43, 3) := by decide +kernel
theorem dX11_solves_83 : decode cX11_solves 83 = .ok (.aload_n 0, 1) := by decide +kernel
theorem dX11_solves_84 : decode cX11_solves 84 = .ok (.getfield 260, 3) := by decide +kernel
theorem dX11_solves_87 : decode cX11_solves 87 = .ok (.iload_n 2, 1) := by decide +kernel
theorem dX11_solves_88 : decode cX11_solves 88 = .ok (.iastore, 1) := by decide +kernel
theorem dX11_solves_89 : decode cX11_solves 89 = .ok (.aload_n 0, 1) := by decide +kernel
theorem dX11_solves_90 : decode cX11_solves 90 = .ok (.dup, 1) := by decide +kernel
theorem dX11_solves_91 : decode cX11_solves 91 = .ok (.getfield 260, 3) := by decide +kernel
theorem dX11_solves_94 : decode cX11_solves 94 = .ok (.iconst 1, 1) := by decide +kernel
theorem dX11_solves_95 : decode cX11_solves 95 = .ok (.iadd, 1) := by decide +kernel
theorem dX11_solves_96 : decode cX11_solves 96 = .ok (.putfield 260, 3) := by decide +kernel
theorem dX11_solves_99 : decode cX11_solves 99 = .ok (.iinc 2 1, 3) := by decide +kernel
theorem dX11_solves_102 : decode cX11_solves 102 = .ok (.goto (-70), 3) := by decide +kernel
theorem dX11_solves_105 : decode cX11_solves 105 = .ok (.aload_n 0, 1) := by decide +kernel
theorem dX11_solves_106 : decode cX11_solves 106 = .ok (.invokevirtual 269, 3) := by decide +kernel
theorem dX11_solves_109 : decode cX11_solves 109 = .ok (.aload_n 0, 1) := by decide +kernel
theorem dX11_solves_110 : decode cX11_solves 110 = .ok (.invokevirtual 272, 3) := by decide +kernel
theorem dX11_solves_113 : decode cX11_solves 113 = .ok (.return_, 1) := by decide +kernel
theorem dX11_lays_0 : decode cX11_lays 0 = .ok (.aload_n 0, 1) := by decide +kernel
theorem dX11_lays_1 : decode cX11_lays 1 = .ok (.aload_n 0, 1) := by decide +kernel
theorem dX11_lays_2 : decode cX11_lays 2 = .ok (.getfield 9, 3) := by decide +kernel
theorem dX11_lays_5 : decode cX11_lays 5 = .ok (.iconst 5, 1) := by decide +kernel
theorem dX11_lays_6 : decode cX11_lays 6 = .ok (.iaload, 1) := by decide +kernel
theorem dX11_lays_7 : decode cX11_lays 7 = .ok (.invokevirtual 275, 3) := by decide +kernel
theorem dX11_lays_10 : decode cX11_lays 10 = .ok (.return_, 1) := by decide +kernel
theorem dX11_isDead_0 : decode cX11_isDead 0 = .ok (.aload_n 0, 1) := by decide +kernel
theorem dX11_isDead_1 : decode cX11_isDead 1 = .ok (.getfield 266, 3) := by decide +kernel
theorem dX11_isDead_4 : decode cX11_isDead 4 = .ok (.iload_n 1, 1) := by decide +kernel
theorem dX11_isDead_5 : decode cX11_isDead 5 = .ok (.invokestatic 209, 3) := by decide +kernel
theorem dX11_isDead_8 : decode cX11_isDead 8 = .ok (.ireturn, 1) := by decide +kernel
theorem dX11_movesOf_0 : decode cX11_movesOf 0 = .ok (.aload_n 0, 1) := by decide +kernel
theorem dX11_movesOf_1 : decode cX11_movesOf 1 = .ok (.getfield 40, 3) := by decide +kernel
theorem dX11_movesOf_4 : decode cX11_movesOf 4 = .ok (.iload_n 1, 1) := by decide +kernel
theorem dX11_movesOf_5 : decode cX11_movesOf 5 = .ok (.iaload, 1) := by decide +kernel
theorem dX11_movesOf_6 : decode cX11_movesOf 6 = .ok (.istore_n 3, 1) := by decide +kernel
theorem dX11_movesOf_7 : decode cX11_movesOf 7 = .ok (.aload_n 0, 1) := by decide +kernel
theorem dX11_movesOf_8 : decode cX11_movesOf 8 = .ok (.getfield 40, 3) := by decide +kernel
theorem dX11_movesOf_11 : decode cX11_movesOf 11 = .ok (.iload_n 2, 1) := by decide +kernel
theorem dX11_movesOf_12 : decode cX11_movesOf 12 = .ok (.iaload, 1) := by decide +kernel
theorem dX11_movesOf_13 : decode cX11_movesOf 13 = .ok (.istore 4, 2) := by decide +kernel
theorem dX11_movesOf_15 : decode cX11_movesOf 15 = .ok (.iload_n 3, 1) := by decide +kernel
theorem dX11_movesOf_16 : decode cX11_movesOf 16 = .ok (.iconst (-1), 1) := by decide +kernel
theorem dX11_movesOf_17 : decode cX11_movesOf 17 = .ok (.if_icmp .eq 9, 3) := by decide +kernel
theorem dX11_movesOf_20 : decode cX11_movesOf 20 = .ok (.iload 4, 2) := by decide +kernel
theorem dX11_movesOf_22 : decode cX11_movesOf 22 = .ok (.iconst (-1), 1) := by decide +kernel
theorem dX11_movesOf_23 : decode cX11_movesOf 23 = .ok (.if_icmp .ne 7, 3) := by decide +kernel
theorem dX11_movesOf_26 : decode cX11_movesOf 26 = .ok (.lconst 0, 1) := by decide +kernel
theorem dX11_movesOf_27 : decode cX11_movesOf 27 = .ok (.goto 18, 3) := by decide +kernel
theorem dX11_movesOf_30 : decode cX11_movesOf 30 = .ok (.aload_n 0, 1) := by decide +kernel
theorem dX11_movesOf_31 : decode cX11_movesOf 31 = .ok (.getfield 46, 3) := by decide +kernel
theorem dX11_movesOf_34 : decode cX11_movesOf 34 = .ok (.bipush 18, 2) := by decide +kernel
theorem dX11_movesOf_36 : decode cX11_movesOf 36 = .ok (.iload_n 3, 1) := by decide +kernel
theorem dX11_movesOf_37 : decode cX11_movesOf 37 = .ok (.imul, 1) := by decide +kernel
theorem dX11_movesOf_38 : decode cX11_movesOf 38 = .ok (.bipush 9, 2) := by decide +kernel
theorem dX11_movesOf_40 : decode cX11_movesOf 40 = .ok (.iadd, 1) := by decide +kernel
theorem dX11_movesOf_41 : decode cX11_movesOf 41 = .ok (.iload 4, 2) := by decide +kernel
theorem dX11_movesOf_43 : decode cX11_movesOf 43 = .ok (.iadd, 1) := by decide +kernel
theorem dX11_movesOf_44 : decode cX11_movesOf 44 = .ok (.laload, 1) := by decide +kernel
theorem dX11_movesOf_45 : decode cX11_movesOf 45 = .ok (.lreturn, 1) := by decide +kernel
theorem dX11_dropOf_0 : decode cX11_dropOf 0 = .ok (.lconst 0, 1) := by decide +kernel
theorem dX11_dropOf_1 : decode cX11_dropOf 1 = .ok (.lstore_n 2, 1) := by decide +kernel
theorem dX11_dropOf_2 : decode cX11_dropOf 2 = .ok (.iconst 0, 1) := by decide +kernel
theorem dX11_dropOf_3 : decode cX11_dropOf 3 = .ok (.istore 4, 2) := by decide +kernel
theorem dX11_dropOf_5 : decode cX11_dropOf 5 = .ok (.iload 4, 2) := by decide +kernel
theorem dX11_dropOf_7 : decode cX11_dropOf 7 = .ok (.aload_n 0, 1) := by decide +kernel
theorem dX11_dropOf_8 : decode cX11_dropOf 8 = .ok (.getfield 260, 3) := by decide +kernel
theorem dX11_dropOf_11 : decode cX11_dropOf 11 = .ok (.if_icmp .ge 41, 3) := by decide +kernel
theorem dX11_dropOf_14 : decode cX11_dropOf 14 = .ok (.lload_n 2, 1) := by decide +kernel
theorem dX11_dropOf_15 : decode cX11_dropOf 15 = .ok (.aload_n 0, 1) := by decide +kernel
theorem dX11_dropOf_16 : decode cX11_dropOf 16 = .ok (.iload_n 1, 1) := by decide +kernel
theorem dX11_dropOf_17 : decode cX11_dropOf 17 = .ok (.aload_n 0, 1) := by decide +kernel
theorem dX11_dropOf_18 : decode cX11_dropOf 18 = .ok (.getfield 43, 3) := by decide +kernel
theorem dX11_dropOf_21 : decode cX11_dropOf 21 = .ok (.iload 4, 2) := by decide +kernel
theorem dX11_dropOf_23 : decode cX11_dropOf 23 = .ok (.iaload, 1) := by decide +kernel
theorem dX11_dropOf_24 : decode cX11_dropOf 24 = .ok (.invokevirtual 278, 3) := by decide +kernel
theorem dX11_dropOf_27 : decode cX11_dropOf 27 = .ok (.aload_n 0, 1) := by decide +kernel
theorem dX11_dropOf_28 : decode cX11_dropOf 28 = .ok (.getfield 9, 3) := by decide +kernel
theorem dX11_dropOf_31 : decode cX11_dropOf 31 = .ok (.bipush 6, 2) := by decide +kernel
theorem dX11_dropOf_33 : decode cX11_dropOf 33 = .ok (.aload_n 0, 1) := by decide +kernel
theorem dX11_dropOf_34 : decode cX11_dropOf 34 = .ok (.getfield 43, 3) := by decide +kernel
theorem dX11_dropOf_37 : decode cX11_dropOf 37 = .ok (.iload 4, 2) := by decide +kernel
theorem dX11_dropOf_39 : decode cX11_dropOf 39 = .ok (.iaload, 1) := by decide +kernel
theorem dX11_dropOf_40 : decode cX11_dropOf 40 = .ok (.iadd, 1) := by decide +kernel
theorem dX11_dropOf_41 : decode cX11_dropOf 41 = .ok (.iaload, 1) := by decide +kernel
theorem dX11_dropOf_42 : decode cX11_dropOf 42 = .ok (.i2l, 1) := by decide +kernel
theorem dX11_dropOf_43 : decode cX11_dropOf 43 = .ok (.lmul, 1) := by decide +kernel
theorem dX11_dropOf_44 : decode cX11_dropOf 44 = .ok (.ladd, 1) := by decide +kernel
theorem dX11_dropOf_45 : decode cX11_dropOf 45 = .ok (.lstore_n 2, 1) := by decide +kernel
theorem dX11_dropOf_46 : decode cX11_dropOf 46 = .ok (.iinc 4 1, 3) := by decide +kernel
theorem dX11_dropOf_49 : decode cX11_dropOf 49 = .ok (.goto (-44), 3) := by decide +kernel
theorem dX11_dropOf_52 : decode cX11_dropOf 52 = .ok (.lload_n 2, 1) := by decide +kernel
theorem dX11_dropOf_53 : decode cX11_dropOf 53 = .ok (.lreturn, 1) := by decide +kernel
theorem dX11_mostDrop_0 : decode cX11_mostDrop 0 = .ok (.lconst 0, 1) := by decide +kernel
theorem dX11_mostDrop_1 : decode cX11_mostDrop 1 = .ok (.lstore_n 1, 1) := by decide +kernel
theorem dX11_mostDrop_2 : decode cX11_mostDrop 2 = .ok (.iconst 0, 1) := by decide +kernel
theorem dX11_mostDrop_3 : decode cX11_mostDrop 3 = .ok (.istore_n 3, 1) := by decide +kernel
theorem dX11_mostDrop_4 : decode cX11_mostDrop 4 = .ok (.iload_n 3, 1) := by decide +kernel
theorem dX11_mostDrop_5 : decode cX11_mostDrop 5 = .ok (.aload_n 0, 1) := by decide +kernel
theorem dX11_mostDrop_6 : decode cX11_mostDrop 6 = .ok (.invokevirtual 98, 3) := by decide +kernel
theorem dX11_mostDrop_9 : decode cX11_mostDrop 9 = .ok (.if_icmp .ge 19, 3) := by decide +kernel
theorem dX11_mostDrop_12 : decode cX11_mostDrop 12 = .ok (.lload_n 1, 1) := by decide +kernel
theorem dX11_mostDrop_13 : decode cX11_mostDrop 13 = .ok (.aload_n 0, 1) := by decide +kernel
theorem dX11_mostDrop_14 : decode cX11_mostDrop 14 = .ok (.iload_n 3, 1) := by decide +kernel
theorem dX11_mostDrop_15 : decode cX11_mostDrop 15 = .ok (.invokevirtual 282, 3) := by decide +kernel
theorem dX11_mostDrop_18 : decode cX11_mostDrop 18 = .ok (.invokestatic 286, 3) := by decide +kernel
theorem dX11_mostDrop_21 : decode cX11_mostDrop 21 = .ok (.lstore_n 1, 1) := by decide +kernel
theorem dX11_mostDrop_22 : decode cX11_mostDrop 22 = .ok (.iinc 3 1, 3) := by decide +kernel
theorem dX11_mostDrop_25 : decode cX11_mostDrop 25 = .ok (.goto (-21), 3) := by decide +kernel
theorem dX11_mostDrop_28 : decode cX11_mostDrop 28 = .ok (.lload_n 1, 1) := by decide +kernel
theorem dX11_mostDrop_29 : decode cX11_mostDrop 29 = .ok (.lreturn, 1) := by decide +kernel
theorem dX11_deadLoads_0 : decode cX11_deadLoads 0 = .ok (.iconst 0, 1) := by decide +kernel
theorem dX11_deadLoads_1 : decode cX11_deadLoads 1 = .ok (.istore_n 1, 1) := by decide +kernel
theorem dX11_deadLoads_2 : decode cX11_deadLoads 2 = .ok (.iconst 0, 1) := by decide +kernel
theorem dX11_deadLoads_3 : decode cX11_deadLoads 3 = .ok (.istore_n 2, 1) := by decide +kernel
theorem dX11_deadLoads_4 : decode cX11_deadLoads 4 = .ok (.iload_n 2, 1) := by decide +kernel
theorem dX11_deadLoads_5 : decode cX11_deadLoads 5 = .ok (.aload_n 0, 1) := by decide +kernel
theorem dX11_deadLoads_6 : decode cX11_deadLoads 6 = .ok (.invokevirtual 98, 3) := by decide +kernel
theorem dX11_deadLoads_9 : decode cX11_deadLoads 9 = .ok (.if_icmp .ge 37, 3) := by decide +kernel
theorem dX11_deadLoads_12 : decode cX11_deadLoads 12 = .ok (.iload_n 1, 1) := by decide +kernel
theorem dX11_deadLoads_13 : decode cX11_deadLoads 13 = .ok (.aload_n 0, 1) := by decide +kernel
theorem dX11_deadLoads_14 : decode cX11_deadLoads 14 = .ok (.iload_n 2, 1) := by decide +kernel
theorem dX11_deadLoads_15 : decode cX11_deadLoads 15 = .ok (.invokevirtual 288, 3) := by decide +kernel
theorem dX11_deadLoads_18 : decode cX11_deadLoads 18 = .ok (.ifCond .eq 19, 3) := by decide +kernel
theorem dX11_deadLoads_21 : decode cX11_deadLoads 21 = .ok (.aload_n 0, 1) := by decide +kernel
theorem dX11_deadLoads_22 : decode cX11_deadLoads 22 = .ok (.getfield 9, 3) := by decide +kernel
theorem dX11_deadLoads_25 : decode cX11_deadLoads 25 = .ok (.bipush 6, 2) := by decide +kernel
theorem dX11_deadLoads_27 : decode cX11_deadLoads 27 = .ok (.iload_n 2, 1) := by decide +kernel
theorem dX11_deadLoads_28 : decode cX11_deadLoads 28 = .ok (.iadd, 1) := by decide +kernel
theorem dX11_deadLoads_29 : decode cX11_deadLoads 29 = .ok (.iaload, 1) := by decide +kernel
theorem dX11_deadLoads_30 : decode cX11_deadLoads 30 = .ok (.ifCond .le 7, 3) := by decide +kernel
theorem dX11_deadLoads_33 : decode cX11_deadLoads 33 = .ok (.iconst 1, 1) := by decide +kernel
theorem dX11_deadLoads_34 : decode cX11_deadLoads 34 = .ok (.goto 4, 3) := by decide +kernel
theorem dX11_deadLoads_37 : decode cX11_deadLoads 37 = .ok (.iconst 0, 1) := by decide +kernel
theorem dX11_deadLoads_38 : decode cX11_deadLoads 38 = .ok (.iadd, 1) := by decide +kernel
theorem dX11_deadLoads_39 : decode cX11_deadLoads 39 = .ok (.istore_n 1, 1) := by decide +kernel
theorem dX11_deadLoads_40 : decode cX11_deadLoads 40 = .ok (.iinc 2 1, 3) := by decide +kernel
theorem dX11_deadLoads_43 : decode cX11_deadLoads 43 = .ok (.goto (-39), 3) := by decide +kernel
theorem dX11_deadLoads_46 : decode cX11_deadLoads 46 = .ok (.iload_n 1, 1) := by decide +kernel
theorem dX11_deadLoads_47 : decode cX11_deadLoads 47 = .ok (.ireturn, 1) := by decide +kernel
theorem dX11_doesHold_0 : decode cX11_doesHold 0 = .ok (.aload_n 0, 1) := by decide +kernel
theorem dX11_doesHold_1 : decode cX11_doesHold 1 = .ok (.invokevirtual 292, 3) := by decide +kernel
theorem dX11_doesHold_4 : decode cX11_doesHold 4 = .ok (.aload_n 0, 1) := by decide +kernel
theorem dX11_doesHold_5 : decode cX11_doesHold 5 = .ok (.invokevirtual 295, 3) := by decide +kernel
theorem dX11_doesHold_8 : decode cX11_doesHold 8 = .ok (.ifCond .ne 27, 3) := by decide +kernel
theorem dX11_doesHold_11 : decode cX11_doesHold 11 = .ok (.aload_n 0, 1) := by decide +kernel
theorem dX11_doesHold_12 : decode cX11_doesHold 12 = .ok (.invokevirtual 298, 3) := by decide +kernel
theorem dX11_doesHold_15 : decode cX11_doesHold 15 = .ok (.aload_n 0, 1) := by decide +kernel
theorem dX11_doesHold_16 : decode cX11_doesHold 16 = .ok (.getfield 9, 3) := by decide +kernel
theorem dX11_doesHold_19 : decode cX11_doesHold 19 = .ok (.iconst 2, 1) := by decide +kernel
theorem dX11_doesHold_20 : decode cX11_doesHold 20 = .ok (.iaload, 1) := by decide +kernel
theorem dX11_doesHold_21 : decode cX11_doesHold 21 = .ok (.i2l, 1) := by decide +kernel
theorem dX11_doesHold_22 : decode cX11_doesHold 22 = .ok (.aload_n 0, 1) := by decide +kernel
theorem dX11_doesHold_23 : decode cX11_doesHold 23 = .ok (.getfield 50, 3) := by decide +kernel
theorem dX11_doesHold_26 : decode cX11_doesHold 26 = .ok (.lmul, 1) := by decide +kernel
theorem dX11_doesHold_27 : decode cX11_doesHold 27 = .ok (.lcmp, 1) := by decide +kernel
theorem dX11_doesHold_28 : decode cX11_doesHold 28 = .ok (.ifCond .gt 7, 3) := by decide +kernel
theorem dX11_doesHold_31 : decode cX11_doesHold 31 = .ok (.iconst 1, 1) := by decide +kernel
theorem dX11_doesHold_32 : decode cX11_doesHold 32 = .ok (.goto 4, 3) := by decide +kernel
theorem dX11_doesHold_35 : decode cX11_doesHold 35 = .ok (.iconst 0, 1) := by decide +kernel
theorem dX11_doesHold_36 : decode cX11_doesHold 36 = .ok (.ireturn, 1) := by decide +kernel
theorem dX11_asks_0 : decode cX11_asks 0 = .ok (.aload_n 0, 1) := by decide +kernel
theorem dX11_asks_1 : decode cX11_asks 1 = .ok (.invokevirtual 109, 3) := by decide +kernel
theorem dX11_asks_4 : decode cX11_asks 4 = .ok (.ifCond .eq 7, 3) := by decide +kernel
theorem dX11_asks_7 : decode cX11_asks 7 = .ok (.aload_n 0, 1) := by decide +kernel
theorem dX11_asks_8 : decode cX11_asks 8 = .ok (.invokevirtual 292, 3) := by decide +kernel
theorem dX11_asks_11 : decode cX11_asks 11 = .ok (.aload_n 0, 1) := by decide +kernel
theorem dX11_asks_12 : decode cX11_asks 12 = .ok (.invokevirtual 109, 3) := by decide +kernel
theorem dX11_asks_15 : decode cX11_asks 15 = .ok (.ireturn, 1) := by decide +kernel
theorem dX11_isPart_0 : decode cX11_isPart 0 = .ok (.iload_n 0, 1) := by decide +kernel
theorem dX11_isPart_1 : decode cX11_isPart 1 = .ok (.i2l, 1) := by decide +kernel
theorem dX11_isPart_2 : decode cX11_isPart 2 = .ok (.lconst 0, 1) := by decide +kernel
theorem dX11_isPart_3 : decode cX11_isPart 3 = .ok (.lconst 1, 1) := by decide +kernel
theorem dX11_isPart_4 : decode cX11_isPart 4 = .ok (.invokestatic 87, 3) := by decide +kernel
theorem dX11_isPart_7 : decode cX11_isPart 7 = .ok (.ireturn, 1) := by decide +kernel
theorem dX11_count_0 : decode cX11_count 0 = .ok (.iload_n 1, 1) := by decide +kernel
theorem dX11_count_1 : decode cX11_count 1 = .ok (.tableswitch 128 0 9 #[55, 62, 69, 76, 83, 88, 93, 100, 105, 112], 55) := by decide +kernel
theorem dX11_count_56 : decode cX11_count 56 = .ok (.aload_n 0, 1) := by decide +kernel
theorem dX11_count_57 : decode cX11_count 57 = .ok (.getfield 9, 3) := by decide +kernel
theorem dX11_count_60 : decode cX11_count 60 = .ok (.iconst 0, 1) := by decide +kernel
theorem dX11_count_61 : decode cX11_count 61 = .ok (.iaload, 1) := by decide +kernel
theorem dX11_count_62 : decode cX11_count 62 = .ok (.ireturn, 1) := by decide +kernel
theorem dX11_count_63 : decode cX11_count 63 = .ok (.aload_n 0, 1) := by decide +kernel
theorem dX11_count_64 : decode cX11_count 64 = .ok (.getfield 9, 3) := by decide +kernel
theorem dX11_count_67 : decode cX11_count 67 = .ok (.iconst 1, 1) := by decide +kernel
theorem dX11_count_68 : decode cX11_count 68 = .ok (.iaload, 1) := by decide +kernel
theorem dX11_count_69 : decode cX11_count 69 = .ok (.ireturn, 1) := by decide +kernel
theorem dX11_count_70 : decode cX11_count 70 = .ok (.aload_n 0, 1) := by decide +kernel
theorem dX11_count_71 : decode cX11_count 71 = .ok (.getfield 9, 3) := by decide +kernel
theorem dX11_count_74 : decode cX11_count 74 = .ok (.iconst 2, 1) := by decide +kernel
theorem dX11_count_75 : decode cX11_count 75 = .ok (.iaload, 1) := by decide +kernel
theorem dX11_count_76 : decode cX11_count 76 = .ok (.ireturn, 1) := by decide +kernel
theorem dX11_count_77 : decode cX11_count 77 = .ok (.aload_n 0, 1) := by decide +kernel
theorem dX11_count_78 : decode cX11_count 78 = .ok (.getfield 9, 3) := by decide +kernel
theorem dX11_count_81 : decode cX11_count 81 = .ok (.iconst 3, 1) := by decide +kernel
theorem dX11_count_82 : decode cX11_count 82 = .ok (.iaload, 1) := by decide +kernel
theorem dX11_count_83 : decode cX11_count 83 = .ok (.ireturn, 1) := by decide +kernel
theorem dX11_count_84 : decode cX11_count 84 = .ok (.aload_n 0, 1) := by decide +kernel
theorem dX11_count_85 : decode cX11_count 85 = .ok (.invokevirtual 116, 3) := by decide +kernel
theorem dX11_count_88 : decode cX11_count 88 = .ok (.ireturn, 1) := by decide +kernel
theorem dX11_count_89 : decode cX11_count 89 = .ok (.aload_n 0, 1) := by decide +kernel
theorem dX11_count_90 : decode cX11_count 90 = .ok (.getfield 91, 3) := by decide +kernel
theorem dX11_count_93 : decode cX11_count 93 = .ok (.ireturn, 1) := by decide +kernel
theorem dX11_count_94 : decode cX11_count 94 = .ok (.aload_n 0, 1) := by decide +kernel
theorem dX11_count_95 : decode cX11_count 95 = .ok (.getfield 9, 3) := by decide +kernel
theorem dX11_count_98 : decode cX11_count 98 = .ok (.iconst 4, 1) := by decide +kernel
theorem dX11_count_99 : decode cX11_count 99 = .ok (.iaload, 1) := by decide +kernel
theorem dX11_count_100 : decode cX11_count 100 = .ok (.ireturn, 1) := by decide +kernel
theorem dX11_count_101 : decode cX11_count 101 = .ok (.aload_n 0, 1) := by decide +kernel
theorem dX11_count_102 : decode cX11_count 102 = .ok (.getfield 126, 3) := by decide +kernel
theorem dX11_count_105 : decode cX11_count 105 = .ok (.ireturn, 1) := by decide +kernel
theorem dX11_count_106 : decode cX11_count 106 = .ok (.aload_n 0, 1) := by decide +kernel
theorem dX11_count_107 : decode cX11_count 107 = .ok (.getfield 9, 3) := by decide +kernel
theorem dX11_count_110 : decode cX11_count 110 = .ok (.iconst 5, 1) := by decide +kernel
theorem dX11_count_111 : decode cX11_count 111 = .ok (.iaload, 1) := by decide +kernel
theorem dX11_count_112 : decode cX11_count 112 = .ok (.ireturn, 1) := by decide +kernel
theorem dX11_count_113 : decode cX11_count 113 = .ok (.aload_n 0, 1) := by decide +kernel
theorem dX11_count_114 : decode cX11_count 114 = .ok (.invokevirtual 302, 3) := by decide +kernel
theorem dX11_count_117 : decode cX11_count 117 = .ok (.ifCond .eq 10, 3) := by decide +kernel
theorem dX11_count_120 : decode cX11_count 120 = .ok (.aload_n 0, 1) := by decide +kernel
theorem dX11_count_121 : decode cX11_count 121 = .ok (.getfield 266, 3) := by decide +kernel
theorem dX11_count_124 : decode cX11_count 124 = .ok (.goto 4, 3) := by decide +kernel
theorem dX11_count_127 : decode cX11_count 127 = .ok (.iconst 0, 1) := by decide +kernel
theorem dX11_count_128 : decode cX11_count 128 = .ok (.ireturn, 1) := by decide +kernel
theorem dX11_count_129 : decode cX11_count 129 = .ok (.iconst (-1), 1) := by decide +kernel
theorem dX11_count_130 : decode cX11_count 130 = .ok (.ireturn, 1) := by decide +kernel
theorem dX11_strap_0 : decode cX11_strap 0 = .ok (.aload_n 0, 1) := by decide +kernel
theorem dX11_strap_1 : decode cX11_strap 1 = .ok (.iload_n 1, 1) := by decide +kernel
theorem dX11_strap_2 : decode cX11_strap 2 = .ok (.invokevirtual 305, 3) := by decide +kernel
theorem dX11_strap_5 : decode cX11_strap 5 = .ok (.ifCond .eq 15, 3) := by decide +kernel
theorem dX11_strap_8 : decode cX11_strap 8 = .ok (.iload_n 2, 1) := by decide +kernel
theorem dX11_strap_9 : decode cX11_strap 9 = .ok (.i2l, 1) := by decide +kernel
theorem dX11_strap_10 : decode cX11_strap 10 = .ok (.lconst 0, 1) := by decide +kernel
theorem dX11_strap_11 : decode cX11_strap 11 = .ok (.ldc2_w 85, 3) := by decide +kernel
theorem dX11_strap_14 : decode cX11_strap 14 = .ok (.invokestatic 87, 3) := by decide +kernel
theorem dX11_strap_17 : decode cX11_strap 17 = .ok (.ifCond .ne 5, 3) := by decide +kernel
theorem dX11_strap_20 : decode cX11_strap 20 = .ok (.iconst (-1), 1) := by decide +kernel
theorem dX11_strap_21 : decode cX11_strap 21 = .ok (.ireturn, 1) := by decide +kernel
theorem dX11_strap_22 : decode cX11_strap 22 = .ok (.iload_n 2, 1) := by decide +kernel
theorem dX11_strap_23 : decode cX11_strap 23 = .ok (.iconst 2, 1) := by decide +kernel
theorem dX11_strap_24 : decode cX11_strap 24 = .ok (.if_icmp .ne 15, 3) := by decide +kernel
theorem dX11_strap_27 : decode cX11_strap 27 = .ok (.aload_n 0, 1) := by decide +kernel
theorem dX11_strap_28 : decode cX11_strap 28 = .ok (.getfield 9, 3) := by decide +kernel
theorem dX11_strap_31 : decode cX11_strap 31 = .ok (.bipush 28, 2) := by decide +kernel
theorem dX11_strap_33 : decode cX11_strap 33 = .ok (.iload_n 1, 1) := by decide +kernel
theorem dX11_strap_34 : decode cX11_strap 34 = .ok (.iadd, 1) := by decide +kernel
theorem dX11_strap_35 : decode cX11_strap 35 = .ok (.iaload, 1) := by decide +kernel
theorem dX11_strap_36 : decode cX11_strap 36 = .ok (.goto 13, 3) := by decide +kernel
theorem dX11_strap_39 : decode cX11_strap 39 = .ok (.aload_n 0, 1) := by decide +kernel
theorem dX11_strap_40 : decode cX11_strap 40 = .ok (.getfield 26, 3) := by decide +kernel
theorem dX11_strap_43 : decode cX11_strap 43 = .ok (.iconst 2, 1) := by decide +kernel
theorem dX11_strap_44 : decode cX11_strap 44 = .ok (.iload_n 1, 1) := by decide +kernel
theorem dX11_strap_45 : decode cX11_strap 45 = .ok (.imul, 1) := by decide +kernel
theorem dX11_strap_46 : decode cX11_strap 46 = .ok (.iload_n 2, 1) := by decide +kernel
theorem dX11_strap_47 : decode cX11_strap 47 = .ok (.iadd, 1) := by decide +kernel
theorem dX11_strap_48 : decode cX11_strap 48 = .ok (.iaload, 1) := by decide +kernel
theorem dX11_strap_49 : decode cX11_strap 49 = .ok (.ireturn, 1) := by decide +kernel
theorem dX11_between_0 : decode cX11_between 0 = .ok (.aload_n 0, 1) := by decide +kernel
theorem dX11_between_1 : decode cX11_between 1 = .ok (.iload_n 1, 1) := by decide +kernel
theorem dX11_between_2 : decode cX11_between 2 = .ok (.invokevirtual 308, 3) := by decide +kernel
theorem dX11_between_5 : decode cX11_between 5 = .ok (.ifCond .eq 11, 3) := by decide +kernel
theorem dX11_between_8 : decode cX11_between 8 = .ok (.aload_n 0, 1) := by decide +kernel
theorem dX11_between_9 : decode cX11_between 9 = .ok (.iload_n 2, 1) := by decide +kernel
theorem dX11_between_10 : decode cX11_between 10 = .ok (.invokevirtual 308, 3) := by decide +kernel
theorem dX11_between_13 : decode cX11_between 13 = .ok (.ifCond .ne 6, 3) := by decide +kernel
theorem dX11_between_16 : decode cX11_between 16 = .ok (.bipush (-2), 2) := by decide +kernel
theorem dX11_between_18 : decode cX11_between 18 = .ok (.ireturn, 1) := by decide +kernel
theorem dX11_between_19 : decode cX11_between 19 = .ok (.aload_n 0, 1) := by decide +kernel
theorem dX11_between_20 : decode cX11_between 20 = .ok (.invokevirtual 116, 3) := by decide +kernel
theorem dX11_between_23 : decode cX11_between 23 = .ok (.pop, 1) := by decide +kernel
theorem dX11_between_24 : decode cX11_between 24 = .ok (.aload_n 0, 1) := by decide +kernel
theorem dX11_between_25 : decode cX11_between 25 = .ok (.iload_n 1, 1) := by decide +kernel
theorem dX11_between_26 : decode cX11_between 26 = .ok (.iload_n 2, 1) := by decide +kernel
theorem dX11_between_27 : decode cX11_between 27 = .ok (.invokevirtual 220, 3) := by decide +kernel
theorem dX11_between_30 : decode cX11_between 30 = .ok (.ireturn, 1) := by decide +kernel
theorem dX11_node_0 : decode cX11_node 0 = .ok (.aload_n 0, 1) := by decide +kernel
theorem dX11_node_1 : decode cX11_node 1 = .ok (.iload_n 1, 1) := by decide +kernel
theorem dX11_node_2 : decode cX11_node 2 = .ok (.invokevirtual 308, 3) := by decide +kernel
theorem dX11_node_5 : decode cX11_node 5 = .ok (.ifCond .eq 15, 3) := by decide +kernel
theorem dX11_node_8 : decode cX11_node 8 = .ok (.iload_n 2, 1) := by decide +kernel
theorem dX11_node_9 : decode cX11_node 9 = .ok (.i2l, 1) := by decide +kernel
theorem dX11_node_10 : decode cX11_node 10 = .ok (.lconst 0, 1) := by decide +kernel
theorem dX11_node_11 : decode cX11_node 11 = .ok (.ldc2_w 311, 3) := by decide +kernel
theorem dX11_node_14 : decode cX11_node 14 = .ok (.invokestatic 87, 3) := by decide +kernel
theorem dX11_node_17 : decode cX11_node 17 = .ok (.ifCond .ne 5, 3) := by decide +kernel
theorem dX11_node_20 : decode cX11_node 20 = .ok (.iconst (-1), 1) := by decide +kernel
theorem dX11_node_21 : decode cX11_node 21 = .ok (.ireturn, 1) := by decide +kernel
theorem dX11_node_22 : decode cX11_node 22 = .ok (.aload_n 0, 1) := by decide +kernel
theorem dX11_node_23 : decode cX11_node 23 = .ok (.invokevirtual 292, 3) := by decide +kernel
theorem dX11_node_26 : decode cX11_node 26 = .ok (.iload_n 2, 1) := by decide +kernel
theorem dX11_node_27 : decode cX11_node 27 = .ok (.tableswitch 64 0 2 #[25, 44, 54], 25) := by decide +kernel
theorem dX11_node_52 : decode cX11_node 52 = .ok (.aload_n 0, 1) := by decide +kernel
theorem dX11_node_53 : decode cX11_node 53 = .ok (.getfield 9, 3) := by decide +kernel
theorem dX11_node_56 : decode cX11_node 56 = .ok (.iconst 5, 1) := by decide +kernel
theorem dX11_node_57 : decode cX11_node 57 = .ok (.iaload, 1) := by decide +kernel
theorem dX11_node_58 : decode cX11_node 58 = .ok (.iload_n 1, 1) := by decide +kernel
theorem dX11_node_59 : decode cX11_node 59 = .ok (.invokestatic 209, 3) := by decide +kernel
theorem dX11_node_62 : decode cX11_node 62 = .ok (.ifCond .eq 7, 3) := by decide +kernel
theorem dX11_node_65 : decode cX11_node 65 = .ok (.iconst 1, 1) := by decide +kernel
theorem dX11_node_66 : decode cX11_node 66 = .ok (.goto 4, 3) := by decide +kernel
theorem dX11_node_69 : decode cX11_node 69 = .ok (.iconst 0, 1) := by decide +kernel
theorem dX11_node_70 : decode cX11_node 70 = .ok (.ireturn, 1) := by decide +kernel
theorem dX11_node_71 : decode cX11_node 71 = .ok (.aload_n 0, 1) := by decide +kernel
theorem dX11_node_72 : decode cX11_node 72 = .ok (.getfield 9, 3) := by decide +kernel
theorem dX11_node_75 : decode cX11_node 75 = .ok (.bipush 6, 2) := by decide +kernel
theorem dX11_node_77 : decode cX11_node 77 = .ok (.iload_n 1, 1) := by decide +kernel
theorem dX11_node_78 : decode cX11_node 78 = .ok (.iadd, 1) := by decide +kernel
theorem dX11_node_79 : decode cX11_node 79 = .ok (.iaload, 1) := by decide +kernel
theorem dX11_node_80 : decode cX11_node 80 = .ok (.ireturn, 1) := by decide +kernel
theorem dX11_node_81 : decode cX11_node 81 = .ok (.aload_n 0, 1) := by decide +kernel
theorem dX11_node_82 : decode cX11_node 82 = .ok (.getfield 9, 3) := by decide +kernel
theorem dX11_node_85 : decode cX11_node 85 = .ok (.bipush 15, 2) := by decide +kernel
theorem dX11_node_87 : decode cX11_node 87 = .ok (.iload_n 1, 1) := by decide +kernel
theorem dX11_node_88 : decode cX11_node 88 = .ok (.iadd, 1) := by decide +kernel
theorem dX11_node_89 : decode cX11_node 89 = .ok (.iaload, 1) := by decide +kernel
theorem dX11_node_90 : decode cX11_node 90 = .ok (.ireturn, 1) := by decide +kernel
theorem dX11_node_91 : decode cX11_node 91 = .ok (.aload_n 0, 1) := by decide +kernel
theorem dX11_node_92 : decode cX11_node 92 = .ok (.iload_n 1, 1) := by decide +kernel
theorem dX11_node_93 : decode cX11_node 93 = .ok (.invokevirtual 288, 3) := by decide +kernel
theorem dX11_node_96 : decode cX11_node 96 = .ok (.ifCond .eq 7, 3) := by decide +kernel
theorem dX11_node_99 : decode cX11_node 99 = .ok (.iconst 1, 1) := by decide +kernel
theorem dX11_node_100 : decode cX11_node 100 = .ok (.goto 4, 3) := by decide +kernel
theorem dX11_node_103 : decode cX11_node 103 = .ok (.iconst 0, 1) := by decide +kernel
theorem dX11_node_104 : decode cX11_node 104 = .ok (.ireturn, 1) := by decide +kernel
theorem dX11_budget_0 : decode cX11_budget 0 = .ok (.aload_n 0, 1) := by decide +kernel
theorem dX11_budget_1 : decode cX11_budget 1 = .ok (.invokevirtual 109, 3) := by decide +kernel
theorem dX11_budget_4 : decode cX11_budget 4 = .ok (.ifCond .eq 27, 3) := by decide +kernel
theorem dX11_budget_7 : decode cX11_budget 7 = .ok (.iload_n 1, 1) := by decide +kernel
theorem dX11_budget_8 : decode cX11_budget 8 = .ok (.i2l, 1) := by decide +kernel
theorem dX11_budget_9 : decode cX11_budget 9 = .ok (.lconst 0, 1) := by decide +kernel
theorem dX11_budget_10 : decode cX11_budget 10 = .ok (.ldc2_w 311, 3) := by decide +kernel
theorem dX11_budget_13 : decode cX11_budget 13 = .ok (.invokestatic 87, 3) := by decide +kernel
theorem dX11_budget_16 : decode cX11_budget 16 = .ok (.ifCond .eq 15, 3) := by decide +kernel
theorem dX11_budget_19 : decode cX11_budget 19 = .ok (.aload_n 0, 1) := by decide +kernel
theorem dX11_budget_20 : decode cX11_budget 20 = .ok (.getfield 9, 3) := by decide +kernel
theorem dX11_budget_23 : decode cX11_budget 23 = .ok (.bipush 24, 2) := by decide +kernel
theorem dX11_budget_25 : decode cX11_budget 25 = .ok (.iload_n 1, 1) := by decide +kernel
theorem dX11_budget_26 : decode cX11_budget 26 = .ok (.iadd, 1) := by decide +kernel
theorem dX11_budget_27 : decode cX11_budget 27 = .ok (.iaload, 1) := by decide +kernel
theorem dX11_budget_28 : decode cX11_budget 28 = .ok (.goto 4, 3) := by decide +kernel
theorem dX11_budget_31 : decode cX11_budget 31 = .ok (.iconst (-1), 1) := by decide +kernel
theorem dX11_budget_32 : decode cX11_budget 32 = .ok (.ireturn, 1) := by decide +kernel
theorem dX11_drop_0 : decode cX11_drop 0 = .ok (.aload_n 0, 1) := by decide +kernel
theorem dX11_drop_1 : decode cX11_drop 1 = .ok (.iload_n 1, 1) := by decide +kernel
theorem dX11_drop_2 : decode cX11_drop 2 = .ok (.invokevirtual 308, 3) := by decide +kernel
theorem dX11_drop_5 : decode cX11_drop 5 = .ok (.ifCond .eq 10, 3) := by decide +kernel
theorem dX11_drop_8 : decode cX11_drop 8 = .ok (.iload_n 2, 1) := by decide +kernel
theorem dX11_drop_9 : decode cX11_drop 9 = .ok (.invokestatic 313, 3) := by decide +kernel
theorem dX11_drop_12 : decode cX11_drop 12 = .ok (.ifCond .ne 7, 3) := by decide +kernel
theorem dX11_drop_15 : decode cX11_drop 15 = .ok (.ldc2_w 316, 3) := by decide +kernel
theorem dX11_drop_18 : decode cX11_drop 18 = .ok (.lreturn, 1) := by decide +kernel
theorem dX11_drop_19 : decode cX11_drop 19 = .ok (.aload_n 0, 1) := by decide +kernel
theorem dX11_drop_20 : decode cX11_drop 20 = .ok (.invokevirtual 292, 3) := by decide +kernel
theorem dX11_drop_23 : decode cX11_drop 23 = .ok (.aload_n 0, 1) := by decide +kernel
theorem dX11_drop_24 : decode cX11_drop 24 = .ok (.iload_n 1, 1) := by decide +kernel
theorem dX11_drop_25 : decode cX11_drop 25 = .ok (.invokevirtual 288, 3) := by decide +kernel
theorem dX11_drop_28 : decode cX11_drop 28 = .ok (.ifCond .eq 9, 3) := by decide +kernel
theorem dX11_drop_31 : decode cX11_drop 31 = .ok (.ldc2_w 318, 3) := by decide +kernel
theorem dX11_drop_34 : decode cX11_drop 34 = .ok (.goto 16, 3) := by decide +kernel
theorem dX11_drop_37 : decode cX11_drop 37 = .ok (.aload_n 0, 1) := by decide +kernel
theorem dX11_drop_38 : decode cX11_drop 38 = .ok (.iload_n 1, 1) := by decide +kernel
theorem dX11_drop_39 : decode cX11_drop 39 = .ok (.invokevirtual 282, 3) := by decide +kernel
theorem dX11_drop_42 : decode cX11_drop 42 = .ok (.aload_n 0, 1) := by decide +kernel
theorem dX11_drop_43 : decode cX11_drop 43 = .ok (.getfield 50, 3) := by decide +kernel
theorem dX11_drop_46 : decode cX11_drop 46 = .ok (.iload_n 2, 1) := by decide +kernel
theorem dX11_drop_47 : decode cX11_drop 47 = .ok (.invokestatic 320, 3) := by decide +kernel
theorem dX11_drop_50 : decode cX11_drop 50 = .ok (.lreturn, 1) := by decide +kernel
theorem dX11_throughOf_0 : decode cX11_throughOf 0 = .ok (.aload_n 0, 1) := by decide +kernel
theorem dX11_throughOf_1 : decode cX11_throughOf 1 = .ok (.getfield 9, 3) := by decide +kernel
theorem dX11_throughOf_4 : decode cX11_throughOf 4 = .ok (.bipush 28, 2) := by decide +kernel
theorem dX11_throughOf_6 : decode cX11_throughOf 6 = .ok (.iload_n 1, 1) := by decide +kernel
theorem dX11_throughOf_7 : decode cX11_throughOf 7 = .ok (.iadd, 1) := by decide +kernel
theorem dX11_throughOf_8 : decode cX11_throughOf 8 = .ok (.iaload, 1) := by decide +kernel
theorem dX11_throughOf_9 : decode cX11_throughOf 9 = .ok (.i2l, 1) := by decide +kernel
theorem dX11_throughOf_10 : decode cX11_throughOf 10 = .ok (.aload_n 0, 1) := by decide +kernel
theorem dX11_throughOf_11 : decode cX11_throughOf 11 = .ok (.aload_n 0, 1) := by decide +kernel
theorem dX11_throughOf_12 : decode cX11_throughOf 12 = .ok (.getfield 26, 3) := by decide +kernel
theorem dX11_throughOf_15 : decode cX11_throughOf 15 = .ok (.iconst 2, 1) := by decide +kernel
theorem dX11_throughOf_16 : decode cX11_throughOf 16 = .ok (.iload_n 1, 1) := by decide +kernel
theorem dX11_throughOf_17 : decode cX11_throughOf 17 = .ok (.imul, 1) := by decide +kernel
theorem dX11_throughOf_18 : decode cX11_throughOf 18 = .ok (.iconst 1, 1) := by decide +kernel
theorem dX11_throughOf_19 : decode cX11_throughOf 19 = .ok (.iadd, 1) := by decide +kernel
theorem dX11_throughOf_20 : decode cX11_throughOf 20 = .ok (.iaload, 1) := by decide +kernel
theorem dX11_throughOf_21 : decode cX11_throughOf 21 = .ok (.invokevirtual 282, 3) := by decide +kernel
theorem dX11_throughOf_24 : decode cX11_throughOf 24 = .ok (.aload_n 0, 1) := by decide +kernel
theorem dX11_throughOf_25 : decode cX11_throughOf 25 = .ok (.aload_n 0, 1) := by decide +kernel
theorem dX11_throughOf_26 : decode cX11_throughOf 26 = .ok (.getfield 26, 3) := by decide +kernel
theorem dX11_throughOf_29 : decode cX11_throughOf 29 = .ok (.iconst 2, 1) := by decide +kernel
theorem dX11_throughOf_30 : decode cX11_throughOf 30 = .ok (.iload_n 1, 1) := by decide +kernel
theorem dX11_throughOf_31 : decode cX11_throughOf 31 = .ok (.imul, 1) := by decide +kernel
theorem dX11_throughOf_32 : decode cX11_throughOf 32 = .ok (.iaload, 1) := by decide +kernel
theorem dX11_throughOf_33 : decode cX11_throughOf 33 = .ok (.invokevirtual 282, 3) := by decide +kernel
theorem dX11_throughOf_36 : decode cX11_throughOf 36 = .ok (.lsub, 1) := by decide +kernel
theorem dX11_throughOf_37 : decode cX11_throughOf 37 = .ok (.lmul, 1) := by decide +kernel
theorem dX11_throughOf_38 : decode cX11_throughOf 38 = .ok (.lreturn, 1) := by decide +kernel
theorem dX11_through_0 : decode cX11_through 0 = .ok (.aload_n 0, 1) := by decide +kernel
theorem dX11_through_1 : decode cX11_through 1 = .ok (.iload_n 1, 1) := by decide +kernel
theorem dX11_through_2 : decode cX11_through 2 = .ok (.invokevirtual 305, 3) := by decide +kernel
theorem dX11_through_5 : decode cX11_through 5 = .ok (.ifCond .eq 10, 3) := by decide +kernel
theorem dX11_through_8 : decode cX11_through 8 = .ok (.iload_n 2, 1) := by decide +kernel
theorem dX11_through_9 : decode cX11_through 9 = .ok (.invokestatic 313, 3) := by decide +kernel
theorem dX11_through_12 : decode cX11_through 12 = .ok (.ifCond .ne 7, 3) := by decide +kernel
theorem dX11_through_15 : decode cX11_through 15 = .ok (.ldc2_w 326, 3) := by decide +kernel
theorem dX11_through_18 : decode cX11_through 18 = .ok (.lreturn, 1) := by decide +kernel
theorem dX11_through_19 : decode cX11_through 19 = .ok (.aload_n 0, 1) := by decide +kernel
theorem dX11_through_20 : decode cX11_through 20 = .ok (.invokevirtual 292, 3) := by decide +kernel
theorem dX11_through_23 : decode cX11_through 23 = .ok (.aload_n 0, 1) := by decide +kernel
theorem dX11_through_24 : decode cX11_through 24 = .ok (.iload_n 1, 1) := by decide +kernel
theorem dX11_through_25 : decode cX11_through 25 = .ok (.invokevirtual 328, 3) := by decide +kernel
theorem dX11_through_28 : decode cX11_through 28 = .ok (.aload_n 0, 1) := by decide +kernel
theorem dX11_through_29 : decode cX11_through 29 = .ok (.getfield 50, 3) := by decide +kernel
theorem dX11_through_32 : decode cX11_through 32 = .ok (.iload_n 2, 1) := by decide +kernel
theorem dX11_through_33 : decode cX11_through 33 = .ok (.invokestatic 320, 3) := by decide +kernel
theorem dX11_through_36 : decode cX11_through 36 = .ok (.lreturn, 1) := by decide +kernel
theorem dX11_chief_0 : decode cX11_chief 0 = .ok (.aload_n 0, 1) := by decide +kernel
theorem dX11_chief_1 : decode cX11_chief 1 = .ok (.invokevirtual 302, 3) := by decide +kernel
theorem dX11_chief_4 : decode cX11_chief 4 = .ok (.ifCond .ne 6, 3) := by decide +kernel
theorem dX11_chief_7 : decode cX11_chief 7 = .ok (.bipush (-2), 2) := by decide +kernel
theorem dX11_chief_9 : decode cX11_chief 9 = .ok (.ireturn, 1) := by decide +kernel
theorem dX11_chief_10 : decode cX11_chief 10 = .ok (.iconst (-1), 1) := by decide +kernel
theorem dX11_chief_11 : decode cX11_chief 11 = .ok (.istore_n 1, 1) := by decide +kernel
theorem dX11_chief_12 : decode cX11_chief 12 = .ok (.iconst 0, 1) := by decide +kernel
theorem dX11_chief_13 : decode cX11_chief 13 = .ok (.istore_n 2, 1) := by decide +kernel
theorem dX11_chief_14 : decode cX11_chief 14 = .ok (.iload_n 2, 1) := by decide +kernel
theorem dX11_chief_15 : decode cX11_chief 15 = .ok (.aload_n 0, 1) := by decide +kernel
theorem dX11_chief_16 : decode cX11_chief 16 = .ok (.invokevirtual 98, 3) := by decide +kernel
theorem dX11_chief_19 : decode cX11_chief 19 = .ok (.if_icmp .ge 43, 3) := by decide +kernel
theorem dX11_chief_22 : decode cX11_chief 22 = .ok (.aload_n 0, 1) := by decide +kernel
theorem dX11_chief_23 : decode cX11_chief 23 = .ok (.getfield 9, 3) := by decide +kernel
theorem dX11_chief_26 : decode cX11_chief 26 = .ok (.iconst 5, 1) := by decide +kernel
theorem dX11_chief_27 : decode cX11_chief 27 = .ok (.iaload, 1) := by decide +kernel
theorem dX11_chief_28 : decode cX11_chief 28 = .ok (.iload_n 2, 1) := by decide +kernel
theorem dX11_chief_29 : decode cX11_chief 29 = .ok (.invokestatic 209, 3) := by decide +kernel
theorem dX11_chief_32 : decode cX11_chief 32 = .ok (.ifCond .eq 24, 3) := by decide +kernel
theorem dX11_chief_35 : decode cX11_chief 35 = .ok (.iload_n 1, 1) := by decide +kernel
theorem dX11_chief_36 : decode cX11_chief 36 = .ok (.iconst (-1), 1) := by decide +kernel
theorem dX11_chief_37 : decode cX11_chief 37 = .ok (.if_icmp .eq 17, 3) := by decide +kernel
theorem dX11_chief_40 : decode cX11_chief 40 = .ok (.aload_n 0, 1) := by decide +kernel
theorem dX11_chief_41 : decode cX11_chief 41 = .ok (.iload_n 2, 1) := by decide +kernel
theorem dX11_chief_42 : decode cX11_chief 42 = .ok (.invokevirtual 331, 3) := by decide +kernel
theorem dX11_chief_45 : decode cX11_chief 45 = .ok (.aload_n 0, 1) := by decide +kernel
theorem dX11_chief_46 : decode cX11_chief 46 = .ok (.iload_n 1, 1) := by decide +kernel
theorem dX11_chief_47 : decode cX11_chief 47 = .ok (.invokevirtual 331, 3) := by decide +kernel
theorem dX11_chief_50 : decode cX11_chief 50 = .ok (.lcmp, 1) := by decide +kernel
theorem dX11_chief_51 : decode cX11_chief 51 = .ok (.ifCond .le 5, 3) := by decide +kernel
theorem dX11_chief_54 : decode cX11_chief 54 = .ok (.iload_n 2, 1) := by decide +kernel
theorem dX11_chief_55 : decode cX11_chief 55 = .ok (.istore_n 1, 1) := by decide +kernel
theorem dX11_chief_56 : decode cX11_chief 56 = .ok (.iinc 2 1, 3) := by decide +kernel
theorem dX11_chief_59 : decode cX11_chief 59 = .ok (.goto (-45), 3) := by decide +kernel
theorem dX11_chief_62 : decode cX11_chief 62 = .ok (.iload_n 1, 1) := by decide +kernel
theorem dX11_chief_63 : decode cX11_chief 63 = .ok (.ireturn, 1) := by decide +kernel
theorem dX11_area_0 : decode cX11_area 0 = .ok (.aload_n 0, 1) := by decide +kernel
theorem dX11_area_1 : decode cX11_area 1 = .ok (.invokevirtual 109, 3) := by decide +kernel
theorem dX11_area_4 : decode cX11_area 4 = .ok (.ifCond .ne 6, 3) := by decide +kernel
theorem dX11_area_7 : decode cX11_area 7 = .ok (.bipush (-2), 2) := by decide +kernel
theorem dX11_area_9 : decode cX11_area 9 = .ok (.ireturn, 1) := by decide +kernel
theorem dX11_area_10 : decode cX11_area 10 = .ok (.iconst 0, 1) := by decide +kernel
theorem dX11_area_11 : decode cX11_area 11 = .ok (.istore_n 1, 1) := by decide +kernel
theorem dX11_area_12 : decode cX11_area 12 = .ok (.iconst 0, 1) := by decide +kernel
theorem dX11_area_13 : decode cX11_area 13 = .ok (.istore_n 2, 1) := by decide +kernel
theorem dX11_area_14 : decode cX11_area 14 = .ok (.iload_n 2, 1) := by decide +kernel
theorem dX11_area_15 : decode cX11_area 15 = .ok (.bipush 12, 2) := by decide +kernel
theorem dX11_area_17 : decode cX11_area 17 = .ok (.if_icmp .ge 21, 3) := by decide +kernel
theorem dX11_area_20 : decode cX11_area 20 = .ok (.iload_n 1, 1) := by decide +kernel
theorem dX11_area_21 : decode cX11_area 21 = .ok (.aload_n 0, 1) := by decide +kernel
theorem dX11_area_22 : decode cX11_area 22 = .ok (.getfield 9, 3) := by decide +kernel
theorem dX11_area_25 : decode cX11_area 25 = .ok (.bipush 28, 2) := by decide +kernel
theorem dX11_area_27 : decode cX11_area 27 = .ok (.iload_n 2, 1) := by decide +kernel
theorem dX11_area_28 : decode cX11_area 28 = .ok (.iadd, 1) := by decide +kernel
theorem dX11_area_29 : decode cX11_area 29 = .ok (.iaload, 1) := by decide +kernel
theorem dX11_area_30 : decode cX11_area 30 = .ok (.iadd, 1) := by decide +kernel
theorem dX11_area_31 : decode cX11_area 31 = .ok (.istore_n 1, 1) := by decide +kernel
theorem dX11_area_32 : decode cX11_area 32 = .ok (.iinc 2 1, 3) := by decide +kernel
theorem dX11_area_35 : decode cX11_area 35 = .ok (.goto (-21), 3) := by decide +kernel
theorem dX11_area_38 : decode cX11_area 38 = .ok (.iload_n 1, 1) := by decide +kernel
theorem dX11_area_39 : decode cX11_area 39 = .ok (.ireturn, 1) := by decide +kernel
theorem dX11_gives_0 : decode cX11_gives 0 = .ok (.aload_n 0, 1) := by decide +kernel
theorem dX11_gives_1 : decode cX11_gives 1 = .ok (.iload_n 1, 1) := by decide +kernel
theorem dX11_gives_2 : decode cX11_gives 2 = .ok (.invokevirtual 308, 3) := by decide +kernel
theorem dX11_gives_5 : decode cX11_gives 5 = .ok (.ifCond .eq 10, 3) := by decide +kernel
theorem dX11_gives_8 : decode cX11_gives 8 = .ok (.iload_n 2, 1) := by decide +kernel
theorem dX11_gives_9 : decode cX11_gives 9 = .ok (.invokestatic 313, 3) := by decide +kernel
theorem dX11_gives_12 : decode cX11_gives 12 = .ok (.ifCond .ne 7, 3) := by decide +kernel
theorem dX11_gives_15 : decode cX11_gives 15 = .ok (.ldc2_w 316, 3) := by decide +kernel
theorem dX11_gives_18 : decode cX11_gives 18 = .ok (.lreturn, 1) := by decide +kernel
theorem dX11_gives_19 : decode cX11_gives 19 = .ok (.aload_n 0, 1) := by decide +kernel
theorem dX11_gives_20 : decode cX11_gives 20 = .ok (.getfield 9, 3) := by decide +kernel
theorem dX11_gives_23 : decode cX11_gives 23 = .ok (.iconst 5, 1) := by decide +kernel
theorem dX11_gives_24 : decode cX11_gives 24 = .ok (.iaload, 1) := by decide +kernel
theorem dX11_gives_25 : decode cX11_gives 25 = .ok (.iload_n 1, 1) := by decide +kernel
theorem dX11_gives_26 : decode cX11_gives 26 = .ok (.invokestatic 209, 3) := by decide +kernel
theorem dX11_gives_29 : decode cX11_gives 29 = .ok (.ifCond .ne 7, 3) := by decide +kernel
