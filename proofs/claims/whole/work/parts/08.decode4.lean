theorem dX11_gives_32 : decode cX11_gives 32 = .ok (.ldc2_w 318, 3) := by decide +kernel
theorem dX11_gives_35 : decode cX11_gives 35 = .ok (.lreturn, 1) := by decide +kernel
theorem dX11_gives_36 : decode cX11_gives 36 = .ok (.aload_n 0, 1) := by decide +kernel
theorem dX11_gives_37 : decode cX11_gives 37 = .ok (.invokevirtual 292, 3) := by decide +kernel
theorem dX11_gives_40 : decode cX11_gives 40 = .ok (.aload_n 0, 1) := by decide +kernel
theorem dX11_gives_41 : decode cX11_gives 41 = .ok (.iload_n 1, 1) := by decide +kernel
theorem dX11_gives_42 : decode cX11_gives 42 = .ok (.invokevirtual 331, 3) := by decide +kernel
theorem dX11_gives_45 : decode cX11_gives 45 = .ok (.aload_n 0, 1) := by decide +kernel
theorem dX11_gives_46 : decode cX11_gives 46 = .ok (.getfield 50, 3) := by decide +kernel
theorem dX11_gives_49 : decode cX11_gives 49 = .ok (.iload_n 2, 1) := by decide +kernel
theorem dX11_gives_50 : decode cX11_gives 50 = .ok (.invokestatic 320, 3) := by decide +kernel
theorem dX11_gives_53 : decode cX11_gives 53 = .ok (.lreturn, 1) := by decide +kernel
theorem dX11_givesOf_0 : decode cX11_givesOf 0 = .ok (.aload_n 0, 1) := by decide +kernel
theorem dX11_givesOf_1 : decode cX11_givesOf 1 = .ok (.getfield 9, 3) := by decide +kernel
theorem dX11_givesOf_4 : decode cX11_givesOf 4 = .ok (.bipush 6, 2) := by decide +kernel
theorem dX11_givesOf_6 : decode cX11_givesOf 6 = .ok (.iload_n 1, 1) := by decide +kernel
theorem dX11_givesOf_7 : decode cX11_givesOf 7 = .ok (.iadd, 1) := by decide +kernel
theorem dX11_givesOf_8 : decode cX11_givesOf 8 = .ok (.iaload, 1) := by decide +kernel
theorem dX11_givesOf_9 : decode cX11_givesOf 9 = .ok (.i2l, 1) := by decide +kernel
theorem dX11_givesOf_10 : decode cX11_givesOf 10 = .ok (.aload_n 0, 1) := by decide +kernel
theorem dX11_givesOf_11 : decode cX11_givesOf 11 = .ok (.getfield 50, 3) := by decide +kernel
theorem dX11_givesOf_14 : decode cX11_givesOf 14 = .ok (.lmul, 1) := by decide +kernel
theorem dX11_givesOf_15 : decode cX11_givesOf 15 = .ok (.lstore_n 2, 1) := by decide +kernel
theorem dX11_givesOf_16 : decode cX11_givesOf 16 = .ok (.iconst 0, 1) := by decide +kernel
theorem dX11_givesOf_17 : decode cX11_givesOf 17 = .ok (.istore 4, 2) := by decide +kernel
theorem dX11_givesOf_19 : decode cX11_givesOf 19 = .ok (.iload 4, 2) := by decide +kernel
theorem dX11_givesOf_21 : decode cX11_givesOf 21 = .ok (.aload_n 0, 1) := by decide +kernel
theorem dX11_givesOf_22 : decode cX11_givesOf 22 = .ok (.getfield 102, 3) := by decide +kernel
theorem dX11_givesOf_25 : decode cX11_givesOf 25 = .ok (.if_icmp .ge 55, 3) := by decide +kernel
theorem dX11_givesOf_28 : decode cX11_givesOf 28 = .ok (.aload_n 0, 1) := by decide +kernel
theorem dX11_givesOf_29 : decode cX11_givesOf 29 = .ok (.getfield 26, 3) := by decide +kernel
theorem dX11_givesOf_32 : decode cX11_givesOf 32 = .ok (.iconst 2, 1) := by decide +kernel
theorem dX11_givesOf_33 : decode cX11_givesOf 33 = .ok (.iload 4, 2) := by decide +kernel
theorem dX11_givesOf_35 : decode cX11_givesOf 35 = .ok (.imul, 1) := by decide +kernel
theorem dX11_givesOf_36 : decode cX11_givesOf 36 = .ok (.iaload, 1) := by decide +kernel
theorem dX11_givesOf_37 : decode cX11_givesOf 37 = .ok (.iload_n 1, 1) := by decide +kernel
theorem dX11_givesOf_38 : decode cX11_givesOf 38 = .ok (.if_icmp .ne 12, 3) := by decide +kernel
theorem dX11_givesOf_41 : decode cX11_givesOf 41 = .ok (.lload_n 2, 1) := by decide +kernel
theorem dX11_givesOf_42 : decode cX11_givesOf 42 = .ok (.aload_n 0, 1) := by decide +kernel
theorem dX11_givesOf_43 : decode cX11_givesOf 43 = .ok (.iload 4, 2) := by decide +kernel
theorem dX11_givesOf_45 : decode cX11_givesOf 45 = .ok (.invokevirtual 328, 3) := by decide +kernel
theorem dX11_givesOf_48 : decode cX11_givesOf 48 = .ok (.ladd, 1) := by decide +kernel
theorem dX11_givesOf_49 : decode cX11_givesOf 49 = .ok (.lstore_n 2, 1) := by decide +kernel
theorem dX11_givesOf_50 : decode cX11_givesOf 50 = .ok (.aload_n 0, 1) := by decide +kernel
theorem dX11_givesOf_51 : decode cX11_givesOf 51 = .ok (.getfield 26, 3) := by decide +kernel
theorem dX11_givesOf_54 : decode cX11_givesOf 54 = .ok (.iconst 2, 1) := by decide +kernel
theorem dX11_givesOf_55 : decode cX11_givesOf 55 = .ok (.iload 4, 2) := by decide +kernel
theorem dX11_givesOf_57 : decode cX11_givesOf 57 = .ok (.imul, 1) := by decide +kernel
theorem dX11_givesOf_58 : decode cX11_givesOf 58 = .ok (.iconst 1, 1) := by decide +kernel
theorem dX11_givesOf_59 : decode cX11_givesOf 59 = .ok (.iadd, 1) := by decide +kernel
theorem dX11_givesOf_60 : decode cX11_givesOf 60 = .ok (.iaload, 1) := by decide +kernel
theorem dX11_givesOf_61 : decode cX11_givesOf 61 = .ok (.iload_n 1, 1) := by decide +kernel
theorem dX11_givesOf_62 : decode cX11_givesOf 62 = .ok (.if_icmp .ne 12, 3) := by decide +kernel
theorem dX11_givesOf_65 : decode cX11_givesOf 65 = .ok (.lload_n 2, 1) := by decide +kernel
theorem dX11_givesOf_66 : decode cX11_givesOf 66 = .ok (.aload_n 0, 1) := by decide +kernel
theorem dX11_givesOf_67 : decode cX11_givesOf 67 = .ok (.iload 4, 2) := by decide +kernel
theorem dX11_givesOf_69 : decode cX11_givesOf 69 = .ok (.invokevirtual 328, 3) := by decide +kernel
theorem dX11_givesOf_72 : decode cX11_givesOf 72 = .ok (.lsub, 1) := by decide +kernel
theorem dX11_givesOf_73 : decode cX11_givesOf 73 = .ok (.lstore_n 2, 1) := by decide +kernel
theorem dX11_givesOf_74 : decode cX11_givesOf 74 = .ok (.iinc 4 1, 3) := by decide +kernel
theorem dX11_givesOf_77 : decode cX11_givesOf 77 = .ok (.goto (-58), 3) := by decide +kernel
theorem dX11_givesOf_80 : decode cX11_givesOf 80 = .ok (.lload_n 2, 1) := by decide +kernel
theorem dX11_givesOf_81 : decode cX11_givesOf 81 = .ok (.lreturn, 1) := by decide +kernel
theorem dX11_worst_0 : decode cX11_worst 0 = .ok (.aload_n 0, 1) := by decide +kernel
theorem dX11_worst_1 : decode cX11_worst 1 = .ok (.invokevirtual 302, 3) := by decide +kernel
theorem dX11_worst_4 : decode cX11_worst 4 = .ok (.ifCond .ne 6, 3) := by decide +kernel
theorem dX11_worst_7 : decode cX11_worst 7 = .ok (.bipush (-2), 2) := by decide +kernel
theorem dX11_worst_9 : decode cX11_worst 9 = .ok (.ireturn, 1) := by decide +kernel
theorem dX11_worst_10 : decode cX11_worst 10 = .ok (.iconst 0, 1) := by decide +kernel
theorem dX11_worst_11 : decode cX11_worst 11 = .ok (.istore_n 1, 1) := by decide +kernel
theorem dX11_worst_12 : decode cX11_worst 12 = .ok (.iload_n 1, 1) := by decide +kernel
theorem dX11_worst_13 : decode cX11_worst 13 = .ok (.aload_n 0, 1) := by decide +kernel
theorem dX11_worst_14 : decode cX11_worst 14 = .ok (.invokevirtual 98, 3) := by decide +kernel
theorem dX11_worst_17 : decode cX11_worst 17 = .ok (.if_icmp .ge 32, 3) := by decide +kernel
theorem dX11_worst_20 : decode cX11_worst 20 = .ok (.aload_n 0, 1) := by decide +kernel
theorem dX11_worst_21 : decode cX11_worst 21 = .ok (.iload_n 1, 1) := by decide +kernel
theorem dX11_worst_22 : decode cX11_worst 22 = .ok (.invokevirtual 288, 3) := by decide +kernel
theorem dX11_worst_25 : decode cX11_worst 25 = .ok (.ifCond .ne 18, 3) := by decide +kernel
theorem dX11_worst_28 : decode cX11_worst 28 = .ok (.aload_n 0, 1) := by decide +kernel
theorem dX11_worst_29 : decode cX11_worst 29 = .ok (.iload_n 1, 1) := by decide +kernel
theorem dX11_worst_30 : decode cX11_worst 30 = .ok (.invokevirtual 282, 3) := by decide +kernel
theorem dX11_worst_33 : decode cX11_worst 33 = .ok (.aload_n 0, 1) := by decide +kernel
theorem dX11_worst_34 : decode cX11_worst 34 = .ok (.invokevirtual 298, 3) := by decide +kernel
theorem dX11_worst_37 : decode cX11_worst 37 = .ok (.lcmp, 1) := by decide +kernel
theorem dX11_worst_38 : decode cX11_worst 38 = .ok (.ifCond .ne 5, 3) := by decide +kernel
theorem dX11_worst_41 : decode cX11_worst 41 = .ok (.iload_n 1, 1) := by decide +kernel
theorem dX11_worst_42 : decode cX11_worst 42 = .ok (.ireturn, 1) := by decide +kernel
theorem dX11_worst_43 : decode cX11_worst 43 = .ok (.iinc 1 1, 3) := by decide +kernel
theorem dX11_worst_46 : decode cX11_worst 46 = .ok (.goto (-34), 3) := by decide +kernel
theorem dX11_worst_49 : decode cX11_worst 49 = .ok (.iconst (-1), 1) := by decide +kernel
theorem dX11_worst_50 : decode cX11_worst 50 = .ok (.ireturn, 1) := by decide +kernel
theorem dX11_over_0 : decode cX11_over 0 = .ok (.aload_n 0, 1) := by decide +kernel
theorem dX11_over_1 : decode cX11_over 1 = .ok (.invokevirtual 302, 3) := by decide +kernel
theorem dX11_over_4 : decode cX11_over 4 = .ok (.ifCond .ne 6, 3) := by decide +kernel
theorem dX11_over_7 : decode cX11_over 7 = .ok (.bipush (-2), 2) := by decide +kernel
theorem dX11_over_9 : decode cX11_over 9 = .ok (.ireturn, 1) := by decide +kernel
theorem dX11_over_10 : decode cX11_over 10 = .ok (.iconst 0, 1) := by decide +kernel
theorem dX11_over_11 : decode cX11_over 11 = .ok (.istore_n 1, 1) := by decide +kernel
theorem dX11_over_12 : decode cX11_over 12 = .ok (.iconst 0, 1) := by decide +kernel
theorem dX11_over_13 : decode cX11_over 13 = .ok (.istore_n 2, 1) := by decide +kernel
theorem dX11_over_14 : decode cX11_over 14 = .ok (.iload_n 2, 1) := by decide +kernel
theorem dX11_over_15 : decode cX11_over 15 = .ok (.aload_n 0, 1) := by decide +kernel
theorem dX11_over_16 : decode cX11_over 16 = .ok (.invokevirtual 98, 3) := by decide +kernel
theorem dX11_over_19 : decode cX11_over 19 = .ok (.if_icmp .ge 40, 3) := by decide +kernel
theorem dX11_over_22 : decode cX11_over 22 = .ok (.iload_n 1, 1) := by decide +kernel
theorem dX11_over_23 : decode cX11_over 23 = .ok (.aload_n 0, 1) := by decide +kernel
theorem dX11_over_24 : decode cX11_over 24 = .ok (.iload_n 2, 1) := by decide +kernel
theorem dX11_over_25 : decode cX11_over 25 = .ok (.invokevirtual 282, 3) := by decide +kernel
theorem dX11_over_28 : decode cX11_over 28 = .ok (.aload_n 0, 1) := by decide +kernel
theorem dX11_over_29 : decode cX11_over 29 = .ok (.getfield 9, 3) := by decide +kernel
theorem dX11_over_32 : decode cX11_over 32 = .ok (.iconst 2, 1) := by decide +kernel
theorem dX11_over_33 : decode cX11_over 33 = .ok (.iaload, 1) := by decide +kernel
theorem dX11_over_34 : decode cX11_over 34 = .ok (.i2l, 1) := by decide +kernel
theorem dX11_over_35 : decode cX11_over 35 = .ok (.aload_n 0, 1) := by decide +kernel
theorem dX11_over_36 : decode cX11_over 36 = .ok (.getfield 50, 3) := by decide +kernel
theorem dX11_over_39 : decode cX11_over 39 = .ok (.lmul, 1) := by decide +kernel
theorem dX11_over_40 : decode cX11_over 40 = .ok (.lcmp, 1) := by decide +kernel
theorem dX11_over_41 : decode cX11_over 41 = .ok (.ifCond .le 9, 3) := by decide +kernel
theorem dX11_over_44 : decode cX11_over 44 = .ok (.iconst 1, 1) := by decide +kernel
theorem dX11_over_45 : decode cX11_over 45 = .ok (.iload_n 2, 1) := by decide +kernel
theorem dX11_over_46 : decode cX11_over 46 = .ok (.ishl, 1) := by decide +kernel
theorem dX11_over_47 : decode cX11_over 47 = .ok (.goto 4, 3) := by decide +kernel
theorem dX11_over_50 : decode cX11_over 50 = .ok (.iconst 0, 1) := by decide +kernel
theorem dX11_over_51 : decode cX11_over 51 = .ok (.ior, 1) := by decide +kernel
theorem dX11_over_52 : decode cX11_over 52 = .ok (.istore_n 1, 1) := by decide +kernel
theorem dX11_over_53 : decode cX11_over 53 = .ok (.iinc 2 1, 3) := by decide +kernel
theorem dX11_over_56 : decode cX11_over 56 = .ok (.goto (-42), 3) := by decide +kernel
theorem dX11_over_59 : decode cX11_over 59 = .ok (.iload_n 1, 1) := by decide +kernel
theorem dX11_over_60 : decode cX11_over 60 = .ok (.ireturn, 1) := by decide +kernel
theorem dX11_holds_0 : decode cX11_holds 0 = .ok (.aload_n 0, 1) := by decide +kernel
theorem dX11_holds_1 : decode cX11_holds 1 = .ok (.invokevirtual 109, 3) := by decide +kernel
theorem dX11_holds_4 : decode cX11_holds 4 = .ok (.ifCond .ne 6, 3) := by decide +kernel
theorem dX11_holds_7 : decode cX11_holds 7 = .ok (.bipush (-2), 2) := by decide +kernel
theorem dX11_holds_9 : decode cX11_holds 9 = .ok (.ireturn, 1) := by decide +kernel
theorem dX11_holds_10 : decode cX11_holds 10 = .ok (.aload_n 0, 1) := by decide +kernel
theorem dX11_holds_11 : decode cX11_holds 11 = .ok (.invokevirtual 334, 3) := by decide +kernel
theorem dX11_holds_14 : decode cX11_holds 14 = .ok (.ifCond .eq 7, 3) := by decide +kernel
theorem dX11_holds_17 : decode cX11_holds 17 = .ok (.iconst 1, 1) := by decide +kernel
theorem dX11_holds_18 : decode cX11_holds 18 = .ok (.goto 4, 3) := by decide +kernel
theorem dX11_holds_21 : decode cX11_holds 21 = .ok (.iconst 0, 1) := by decide +kernel
theorem dX11_holds_22 : decode cX11_holds 22 = .ok (.ireturn, 1) := by decide +kernel
theorem dX11_loss_0 : decode cX11_loss 0 = .ok (.iload_n 1, 1) := by decide +kernel
theorem dX11_loss_1 : decode cX11_loss 1 = .ok (.invokestatic 313, 3) := by decide +kernel
theorem dX11_loss_4 : decode cX11_loss 4 = .ok (.ifCond .eq 10, 3) := by decide +kernel
theorem dX11_loss_7 : decode cX11_loss 7 = .ok (.aload_n 0, 1) := by decide +kernel
theorem dX11_loss_8 : decode cX11_loss 8 = .ok (.invokevirtual 302, 3) := by decide +kernel
theorem dX11_loss_11 : decode cX11_loss 11 = .ok (.ifCond .ne 7, 3) := by decide +kernel
theorem dX11_loss_14 : decode cX11_loss 14 = .ok (.ldc2_w 316, 3) := by decide +kernel
theorem dX11_loss_17 : decode cX11_loss 17 = .ok (.lreturn, 1) := by decide +kernel
theorem dX11_loss_18 : decode cX11_loss 18 = .ok (.lconst 0, 1) := by decide +kernel
theorem dX11_loss_19 : decode cX11_loss 19 = .ok (.lstore_n 2, 1) := by decide +kernel
theorem dX11_loss_20 : decode cX11_loss 20 = .ok (.iconst 0, 1) := by decide +kernel
theorem dX11_loss_21 : decode cX11_loss 21 = .ok (.istore 4, 2) := by decide +kernel
theorem dX11_loss_23 : decode cX11_loss 23 = .ok (.iload 4, 2) := by decide +kernel
theorem dX11_loss_25 : decode cX11_loss 25 = .ok (.aload_n 0, 1) := by decide +kernel
theorem dX11_loss_26 : decode cX11_loss 26 = .ok (.invokevirtual 98, 3) := by decide +kernel
theorem dX11_loss_29 : decode cX11_loss 29 = .ok (.if_icmp .ge 30, 3) := by decide +kernel
theorem dX11_loss_32 : decode cX11_loss 32 = .ok (.lload_n 2, 1) := by decide +kernel
theorem dX11_loss_33 : decode cX11_loss 33 = .ok (.aload_n 0, 1) := by decide +kernel
theorem dX11_loss_34 : decode cX11_loss 34 = .ok (.getfield 9, 3) := by decide +kernel
theorem dX11_loss_37 : decode cX11_loss 37 = .ok (.bipush 6, 2) := by decide +kernel
theorem dX11_loss_39 : decode cX11_loss 39 = .ok (.iload 4, 2) := by decide +kernel
theorem dX11_loss_41 : decode cX11_loss 41 = .ok (.iadd, 1) := by decide +kernel
theorem dX11_loss_42 : decode cX11_loss 42 = .ok (.iaload, 1) := by decide +kernel
theorem dX11_loss_43 : decode cX11_loss 43 = .ok (.i2l, 1) := by decide +kernel
theorem dX11_loss_44 : decode cX11_loss 44 = .ok (.aload_n 0, 1) := by decide +kernel
theorem dX11_loss_45 : decode cX11_loss 45 = .ok (.iload 4, 2) := by decide +kernel
theorem dX11_loss_47 : decode cX11_loss 47 = .ok (.invokevirtual 282, 3) := by decide +kernel
theorem dX11_loss_50 : decode cX11_loss 50 = .ok (.lmul, 1) := by decide +kernel
theorem dX11_loss_51 : decode cX11_loss 51 = .ok (.ladd, 1) := by decide +kernel
theorem dX11_loss_52 : decode cX11_loss 52 = .ok (.lstore_n 2, 1) := by decide +kernel
theorem dX11_loss_53 : decode cX11_loss 53 = .ok (.iinc 4 1, 3) := by decide +kernel
theorem dX11_loss_56 : decode cX11_loss 56 = .ok (.goto (-33), 3) := by decide +kernel
theorem dX11_loss_59 : decode cX11_loss 59 = .ok (.lload_n 2, 1) := by decide +kernel
theorem dX11_loss_60 : decode cX11_loss 60 = .ok (.aload_n 0, 1) := by decide +kernel
theorem dX11_loss_61 : decode cX11_loss 61 = .ok (.getfield 50, 3) := by decide +kernel
theorem dX11_loss_64 : decode cX11_loss 64 = .ok (.iload_n 1, 1) := by decide +kernel
theorem dX11_loss_65 : decode cX11_loss 65 = .ok (.invokestatic 320, 3) := by decide +kernel
theorem dX11_loss_68 : decode cX11_loss 68 = .ok (.lreturn, 1) := by decide +kernel
theorem dX11_moves_0 : decode cX11_moves 0 = .ok (.aload_n 0, 1) := by decide +kernel
theorem dX11_moves_1 : decode cX11_moves 1 = .ok (.iload_n 1, 1) := by decide +kernel
theorem dX11_moves_2 : decode cX11_moves 2 = .ok (.invokevirtual 308, 3) := by decide +kernel
theorem dX11_moves_5 : decode cX11_moves 5 = .ok (.ifCond .eq 18, 3) := by decide +kernel
theorem dX11_moves_8 : decode cX11_moves 8 = .ok (.aload_n 0, 1) := by decide +kernel
theorem dX11_moves_9 : decode cX11_moves 9 = .ok (.iload_n 2, 1) := by decide +kernel
theorem dX11_moves_10 : decode cX11_moves 10 = .ok (.invokevirtual 308, 3) := by decide +kernel
theorem dX11_moves_13 : decode cX11_moves 13 = .ok (.ifCond .eq 10, 3) := by decide +kernel
theorem dX11_moves_16 : decode cX11_moves 16 = .ok (.iload_n 3, 1) := by decide +kernel
theorem dX11_moves_17 : decode cX11_moves 17 = .ok (.invokestatic 313, 3) := by decide +kernel
theorem dX11_moves_20 : decode cX11_moves 20 = .ok (.ifCond .ne 7, 3) := by decide +kernel
theorem dX11_moves_23 : decode cX11_moves 23 = .ok (.ldc2_w 316, 3) := by decide +kernel
theorem dX11_moves_26 : decode cX11_moves 26 = .ok (.lreturn, 1) := by decide +kernel
theorem dX11_moves_27 : decode cX11_moves 27 = .ok (.aload_n 0, 1) := by decide +kernel
theorem dX11_moves_28 : decode cX11_moves 28 = .ok (.invokevirtual 292, 3) := by decide +kernel
theorem dX11_moves_31 : decode cX11_moves 31 = .ok (.aload_n 0, 1) := by decide +kernel
theorem dX11_moves_32 : decode cX11_moves 32 = .ok (.iload_n 1, 1) := by decide +kernel
theorem dX11_moves_33 : decode cX11_moves 33 = .ok (.invokevirtual 288, 3) := by decide +kernel
theorem dX11_moves_36 : decode cX11_moves 36 = .ok (.ifCond .ne 11, 3) := by decide +kernel
theorem dX11_moves_39 : decode cX11_moves 39 = .ok (.aload_n 0, 1) := by decide +kernel
theorem dX11_moves_40 : decode cX11_moves 40 = .ok (.iload_n 2, 1) := by decide +kernel
theorem dX11_moves_41 : decode cX11_moves 41 = .ok (.invokevirtual 288, 3) := by decide +kernel
theorem dX11_moves_44 : decode cX11_moves 44 = .ok (.ifCond .eq 9, 3) := by decide +kernel
theorem dX11_moves_47 : decode cX11_moves 47 = .ok (.ldc2_w 318, 3) := by decide +kernel
theorem dX11_moves_50 : decode cX11_moves 50 = .ok (.goto 17, 3) := by decide +kernel
theorem dX11_moves_53 : decode cX11_moves 53 = .ok (.aload_n 0, 1) := by decide +kernel
theorem dX11_moves_54 : decode cX11_moves 54 = .ok (.iload_n 1, 1) := by decide +kernel
theorem dX11_moves_55 : decode cX11_moves 55 = .ok (.iload_n 2, 1) := by decide +kernel
theorem dX11_moves_56 : decode cX11_moves 56 = .ok (.invokevirtual 278, 3) := by decide +kernel
theorem dX11_moves_59 : decode cX11_moves 59 = .ok (.aload_n 0, 1) := by decide +kernel
theorem dX11_moves_60 : decode cX11_moves 60 = .ok (.getfield 50, 3) := by decide +kernel
theorem dX11_moves_63 : decode cX11_moves 63 = .ok (.iload_n 3, 1) := by decide +kernel
theorem dX11_moves_64 : decode cX11_moves 64 = .ok (.invokestatic 320, 3) := by decide +kernel
theorem dX11_moves_67 : decode cX11_moves 67 = .ok (.lreturn, 1) := by decide +kernel
theorem dX11_resists_0 : decode cX11_resists 0 = .ok (.aload_n 0, 1) := by decide +kernel
theorem dX11_resists_1 : decode cX11_resists 1 = .ok (.iload_n 1, 1) := by decide +kernel
theorem dX11_resists_2 : decode cX11_resists 2 = .ok (.invokevirtual 308, 3) := by decide +kernel
theorem dX11_resists_5 : decode cX11_resists 5 = .ok (.ifCond .eq 18, 3) := by decide +kernel
theorem dX11_resists_8 : decode cX11_resists 8 = .ok (.aload_n 0, 1) := by decide +kernel
theorem dX11_resists_9 : decode cX11_resists 9 = .ok (.iload_n 2, 1) := by decide +kernel
theorem dX11_resists_10 : decode cX11_resists 10 = .ok (.invokevirtual 308, 3) := by decide +kernel
theorem dX11_resists_13 : decode cX11_resists 13 = .ok (.ifCond .eq 10, 3) := by decide +kernel
theorem dX11_resists_16 : decode cX11_resists 16 = .ok (.iload_n 3, 1) := by decide +kernel
theorem dX11_resists_17 : decode cX11_resists 17 = .ok (.invokestatic 313, 3) := by decide +kernel
theorem dX11_resists_20 : decode cX11_resists 20 = .ok (.ifCond .ne 7, 3) := by decide +kernel
theorem dX11_resists_23 : decode cX11_resists 23 = .ok (.ldc2_w 316, 3) := by decide +kernel
theorem dX11_resists_26 : decode cX11_resists 26 = .ok (.lreturn, 1) := by decide +kernel
theorem dX11_resists_27 : decode cX11_resists 27 = .ok (.aload_n 0, 1) := by decide +kernel
theorem dX11_resists_28 : decode cX11_resists 28 = .ok (.iconst 1, 1) := by decide +kernel
theorem dX11_resists_29 : decode cX11_resists 29 = .ok (.iload_n 1, 1) := by decide +kernel
theorem dX11_resists_30 : decode cX11_resists 30 = .ok (.ishl, 1) := by decide +kernel
theorem dX11_resists_31 : decode cX11_resists 31 = .ok (.invokevirtual 275, 3) := by decide +kernel
theorem dX11_resists_34 : decode cX11_resists 34 = .ok (.aload_n 0, 1) := by decide +kernel
theorem dX11_resists_35 : decode cX11_resists 35 = .ok (.iload_n 2, 1) := by decide +kernel
theorem dX11_resists_36 : decode cX11_resists 36 = .ok (.invokevirtual 288, 3) := by decide +kernel
theorem dX11_resists_39 : decode cX11_resists 39 = .ok (.ifCond .eq 9, 3) := by decide +kernel
theorem dX11_resists_42 : decode cX11_resists 42 = .ok (.ldc2_w 318, 3) := by decide +kernel
theorem dX11_resists_45 : decode cX11_resists 45 = .ok (.goto 17, 3) := by decide +kernel
theorem dX11_resists_48 : decode cX11_resists 48 = .ok (.aload_n 0, 1) := by decide +kernel
theorem dX11_resists_49 : decode cX11_resists 49 = .ok (.iload_n 2, 1) := by decide +kernel
theorem dX11_resists_50 : decode cX11_resists 50 = .ok (.iload_n 2, 1) := by decide +kernel
theorem dX11_resists_51 : decode cX11_resists 51 = .ok (.invokevirtual 278, 3) := by decide +kernel
theorem dX11_resists_54 : decode cX11_resists 54 = .ok (.aload_n 0, 1) := by decide +kernel
theorem dX11_resists_55 : decode cX11_resists 55 = .ok (.getfield 50, 3) := by decide +kernel
theorem dX11_resists_58 : decode cX11_resists 58 = .ok (.iload_n 3, 1) := by decide +kernel
theorem dX11_resists_59 : decode cX11_resists 59 = .ok (.invokestatic 320, 3) := by decide +kernel
theorem dX11_resists_62 : decode cX11_resists 62 = .ok (.lreturn, 1) := by decide +kernel
theorem dX11_share_0 : decode cX11_share 0 = .ok (.aload_n 0, 1) := by decide +kernel
theorem dX11_share_1 : decode cX11_share 1 = .ok (.iload_n 1, 1) := by decide +kernel
theorem dX11_share_2 : decode cX11_share 2 = .ok (.invokevirtual 308, 3) := by decide +kernel
theorem dX11_share_5 : decode cX11_share 5 = .ok (.ifCond .eq 18, 3) := by decide +kernel
theorem dX11_share_8 : decode cX11_share 8 = .ok (.aload_n 0, 1) := by decide +kernel
theorem dX11_share_9 : decode cX11_share 9 = .ok (.iload_n 2, 1) := by decide +kernel
theorem dX11_share_10 : decode cX11_share 10 = .ok (.invokevirtual 308, 3) := by decide +kernel
theorem dX11_share_13 : decode cX11_share 13 = .ok (.ifCond .eq 10, 3) := by decide +kernel
theorem dX11_share_16 : decode cX11_share 16 = .ok (.iload_n 3, 1) := by decide +kernel
theorem dX11_share_17 : decode cX11_share 17 = .ok (.invokestatic 313, 3) := by decide +kernel
theorem dX11_share_20 : decode cX11_share 20 = .ok (.ifCond .ne 7, 3) := by decide +kernel
theorem dX11_share_23 : decode cX11_share 23 = .ok (.ldc2_w 316, 3) := by decide +kernel
theorem dX11_share_26 : decode cX11_share 26 = .ok (.lreturn, 1) := by decide +kernel
theorem dX11_share_27 : decode cX11_share 27 = .ok (.aload_n 0, 1) := by decide +kernel
theorem dX11_share_28 : decode cX11_share 28 = .ok (.invokevirtual 292, 3) := by decide +kernel
theorem dX11_share_31 : decode cX11_share 31 = .ok (.aload_n 0, 1) := by decide +kernel
theorem dX11_share_32 : decode cX11_share 32 = .ok (.iload_n 1, 1) := by decide +kernel
theorem dX11_share_33 : decode cX11_share 33 = .ok (.invokevirtual 288, 3) := by decide +kernel
theorem dX11_share_36 : decode cX11_share 36 = .ok (.ifCond .ne 11, 3) := by decide +kernel
theorem dX11_share_39 : decode cX11_share 39 = .ok (.aload_n 0, 1) := by decide +kernel
theorem dX11_share_40 : decode cX11_share 40 = .ok (.iload_n 2, 1) := by decide +kernel
theorem dX11_share_41 : decode cX11_share 41 = .ok (.invokevirtual 288, 3) := by decide +kernel
theorem dX11_share_44 : decode cX11_share 44 = .ok (.ifCond .eq 7, 3) := by decide +kernel
theorem dX11_share_47 : decode cX11_share 47 = .ok (.ldc2_w 318, 3) := by decide +kernel
theorem dX11_share_50 : decode cX11_share 50 = .ok (.lreturn, 1) := by decide +kernel
theorem dX11_share_51 : decode cX11_share 51 = .ok (.aload_n 0, 1) := by decide +kernel
theorem dX11_share_52 : decode cX11_share 52 = .ok (.iload_n 1, 1) := by decide +kernel
theorem dX11_share_53 : decode cX11_share 53 = .ok (.iload_n 2, 1) := by decide +kernel
theorem dX11_share_54 : decode cX11_share 54 = .ok (.invokevirtual 278, 3) := by decide +kernel
theorem dX11_share_57 : decode cX11_share 57 = .ok (.aload_n 0, 1) := by decide +kernel
theorem dX11_share_58 : decode cX11_share 58 = .ok (.getfield 9, 3) := by decide +kernel
theorem dX11_share_61 : decode cX11_share 61 = .ok (.bipush 6, 2) := by decide +kernel
theorem dX11_share_63 : decode cX11_share 63 = .ok (.iload_n 2, 1) := by decide +kernel
theorem dX11_share_64 : decode cX11_share 64 = .ok (.iadd, 1) := by decide +kernel
theorem dX11_share_65 : decode cX11_share 65 = .ok (.iaload, 1) := by decide +kernel
theorem dX11_share_66 : decode cX11_share 66 = .ok (.i2l, 1) := by decide +kernel
theorem dX11_share_67 : decode cX11_share 67 = .ok (.lmul, 1) := by decide +kernel
theorem dX11_share_68 : decode cX11_share 68 = .ok (.lstore 4, 2) := by decide +kernel
theorem dX11_share_70 : decode cX11_share 70 = .ok (.lload 4, 2) := by decide +kernel
theorem dX11_share_72 : decode cX11_share 72 = .ok (.lconst 0, 1) := by decide +kernel
theorem dX11_share_73 : decode cX11_share 73 = .ok (.lcmp, 1) := by decide +kernel
theorem dX11_share_74 : decode cX11_share 74 = .ok (.ifCond .ne 8, 3) := by decide +kernel
theorem dX11_share_77 : decode cX11_share 77 = .ok (.iload_n 3, 1) := by decide +kernel
theorem dX11_share_78 : decode cX11_share 78 = .ok (.i2l, 1) := by decide +kernel
theorem dX11_share_79 : decode cX11_share 79 = .ok (.goto 14, 3) := by decide +kernel
theorem dX11_share_82 : decode cX11_share 82 = .ok (.lload 4, 2) := by decide +kernel
theorem dX11_share_84 : decode cX11_share 84 = .ok (.aload_n 0, 1) := by decide +kernel
theorem dX11_share_85 : decode cX11_share 85 = .ok (.iload_n 1, 1) := by decide +kernel
theorem dX11_share_86 : decode cX11_share 86 = .ok (.invokevirtual 282, 3) := by decide +kernel
theorem dX11_share_89 : decode cX11_share 89 = .ok (.iload_n 3, 1) := by decide +kernel
theorem dX11_share_90 : decode cX11_share 90 = .ok (.invokestatic 320, 3) := by decide +kernel
theorem dX11_share_93 : decode cX11_share 93 = .ok (.lreturn, 1) := by decide +kernel
theorem dX11_comesBy_0 : decode cX11_comesBy 0 = .ok (.aload_n 0, 1) := by decide +kernel
theorem dX11_comesBy_1 : decode cX11_comesBy 1 = .ok (.getfield 26, 3) := by decide +kernel
theorem dX11_comesBy_4 : decode cX11_comesBy 4 = .ok (.iconst 2, 1) := by decide +kernel
theorem dX11_comesBy_5 : decode cX11_comesBy 5 = .ok (.iload_n 1, 1) := by decide +kernel
theorem dX11_comesBy_6 : decode cX11_comesBy 6 = .ok (.imul, 1) := by decide +kernel
theorem dX11_comesBy_7 : decode cX11_comesBy 7 = .ok (.iconst 1, 1) := by decide +kernel
theorem dX11_comesBy_8 : decode cX11_comesBy 8 = .ok (.iadd, 1) := by decide +kernel
theorem dX11_comesBy_9 : decode cX11_comesBy 9 = .ok (.iaload, 1) := by decide +kernel
theorem dX11_comesBy_10 : decode cX11_comesBy 10 = .ok (.iload_n 2, 1) := by decide +kernel
theorem dX11_comesBy_11 : decode cX11_comesBy 11 = .ok (.if_icmp .ne 11, 3) := by decide +kernel
theorem dX11_comesBy_14 : decode cX11_comesBy 14 = .ok (.aload_n 0, 1) := by decide +kernel
theorem dX11_comesBy_15 : decode cX11_comesBy 15 = .ok (.iload_n 1, 1) := by decide +kernel
theorem dX11_comesBy_16 : decode cX11_comesBy 16 = .ok (.invokevirtual 328, 3) := by decide +kernel
theorem dX11_comesBy_19 : decode cX11_comesBy 19 = .ok (.goto 25, 3) := by decide +kernel
theorem dX11_comesBy_22 : decode cX11_comesBy 22 = .ok (.aload_n 0, 1) := by decide +kernel
theorem dX11_comesBy_23 : decode cX11_comesBy 23 = .ok (.getfield 26, 3) := by decide +kernel
theorem dX11_comesBy_26 : decode cX11_comesBy 26 = .ok (.iconst 2, 1) := by decide +kernel
theorem dX11_comesBy_27 : decode cX11_comesBy 27 = .ok (.iload_n 1, 1) := by decide +kernel
theorem dX11_comesBy_28 : decode cX11_comesBy 28 = .ok (.imul, 1) := by decide +kernel
theorem dX11_comesBy_29 : decode cX11_comesBy 29 = .ok (.iaload, 1) := by decide +kernel
theorem dX11_comesBy_30 : decode cX11_comesBy 30 = .ok (.iload_n 2, 1) := by decide +kernel
theorem dX11_comesBy_31 : decode cX11_comesBy 31 = .ok (.if_icmp .ne 12, 3) := by decide +kernel
theorem dX11_comesBy_34 : decode cX11_comesBy 34 = .ok (.aload_n 0, 1) := by decide +kernel
theorem dX11_comesBy_35 : decode cX11_comesBy 35 = .ok (.iload_n 1, 1) := by decide +kernel
theorem dX11_comesBy_36 : decode cX11_comesBy 36 = .ok (.invokevirtual 328, 3) := by decide +kernel
theorem dX11_comesBy_39 : decode cX11_comesBy 39 = .ok (.lneg, 1) := by decide +kernel
theorem dX11_comesBy_40 : decode cX11_comesBy 40 = .ok (.goto 4, 3) := by decide +kernel
theorem dX11_comesBy_43 : decode cX11_comesBy 43 = .ok (.lconst 0, 1) := by decide +kernel
theorem dX11_comesBy_44 : decode cX11_comesBy 44 = .ok (.lreturn, 1) := by decide +kernel
theorem dX11_feederOf_0 : decode cX11_feederOf 0 = .ok (.aload_n 0, 1) := by decide +kernel
theorem dX11_feederOf_1 : decode cX11_feederOf 1 = .ok (.getfield 9, 3) := by decide +kernel
theorem dX11_feederOf_4 : decode cX11_feederOf 4 = .ok (.iconst 5, 1) := by decide +kernel
theorem dX11_feederOf_5 : decode cX11_feederOf 5 = .ok (.iaload, 1) := by decide +kernel
theorem dX11_feederOf_6 : decode cX11_feederOf 6 = .ok (.iload_n 1, 1) := by decide +kernel
theorem dX11_feederOf_7 : decode cX11_feederOf 7 = .ok (.invokestatic 209, 3) := by decide +kernel
theorem dX11_feederOf_10 : decode cX11_feederOf 10 = .ok (.ifCond .eq 5, 3) := by decide +kernel
theorem dX11_feederOf_13 : decode cX11_feederOf 13 = .ok (.iconst (-1), 1) := by decide +kernel
theorem dX11_feederOf_14 : decode cX11_feederOf 14 = .ok (.ireturn, 1) := by decide +kernel
theorem dX11_feederOf_15 : decode cX11_feederOf 15 = .ok (.lconst 0, 1) := by decide +kernel
theorem dX11_feederOf_16 : decode cX11_feederOf 16 = .ok (.lstore_n 2, 1) := by decide +kernel
theorem dX11_feederOf_17 : decode cX11_feederOf 17 = .ok (.iconst (-1), 1) := by decide +kernel
theorem dX11_feederOf_18 : decode cX11_feederOf 18 = .ok (.istore 4, 2) := by decide +kernel
theorem dX11_feederOf_20 : decode cX11_feederOf 20 = .ok (.iconst 0, 1) := by decide +kernel
theorem dX11_feederOf_21 : decode cX11_feederOf 21 = .ok (.istore 5, 2) := by decide +kernel
theorem dX11_feederOf_23 : decode cX11_feederOf 23 = .ok (.iload 5, 2) := by decide +kernel
theorem dX11_feederOf_25 : decode cX11_feederOf 25 = .ok (.aload_n 0, 1) := by decide +kernel
theorem dX11_feederOf_26 : decode cX11_feederOf 26 = .ok (.getfield 102, 3) := by decide +kernel
theorem dX11_feederOf_29 : decode cX11_feederOf 29 = .ok (.if_icmp .ge 57, 3) := by decide +kernel
theorem dX11_feederOf_32 : decode cX11_feederOf 32 = .ok (.aload_n 0, 1) := by decide +kernel
theorem dX11_feederOf_33 : decode cX11_feederOf 33 = .ok (.iload 5, 2) := by decide +kernel
theorem dX11_feederOf_35 : decode cX11_feederOf 35 = .ok (.iload_n 1, 1) := by decide +kernel
theorem dX11_feederOf_36 : decode cX11_feederOf 36 = .ok (.invokevirtual 337, 3) := by decide +kernel
theorem dX11_feederOf_39 : decode cX11_feederOf 39 = .ok (.lload_n 2, 1) := by decide +kernel
theorem dX11_feederOf_40 : decode cX11_feederOf 40 = .ok (.lcmp, 1) := by decide +kernel
theorem dX11_feederOf_41 : decode cX11_feederOf 41 = .ok (.ifCond .gt 6, 3) := by decide +kernel
theorem dX11_feederOf_44 : decode cX11_feederOf 44 = .ok (.goto 36, 3) := by decide +kernel
theorem dX11_feederOf_47 : decode cX11_feederOf 47 = .ok (.aload_n 0, 1) := by decide +kernel
theorem dX11_feederOf_48 : decode cX11_feederOf 48 = .ok (.iload 5, 2) := by decide +kernel
theorem dX11_feederOf_50 : decode cX11_feederOf 50 = .ok (.iload_n 1, 1) := by decide +kernel
theorem dX11_feederOf_51 : decode cX11_feederOf 51 = .ok (.invokevirtual 337, 3) := by decide +kernel
theorem dX11_feederOf_54 : decode cX11_feederOf 54 = .ok (.lstore_n 2, 1) := by decide +kernel
theorem dX11_feederOf_55 : decode cX11_feederOf 55 = .ok (.aload_n 0, 1) := by decide +kernel
theorem dX11_feederOf_56 : decode cX11_feederOf 56 = .ok (.getfield 26, 3) := by decide +kernel
theorem dX11_feederOf_59 : decode cX11_feederOf 59 = .ok (.iconst 2, 1) := by decide +kernel
theorem dX11_feederOf_60 : decode cX11_feederOf 60 = .ok (.iload 5, 2) := by decide +kernel
theorem dX11_feederOf_62 : decode cX11_feederOf 62 = .ok (.imul, 1) := by decide +kernel
theorem dX11_feederOf_63 : decode cX11_feederOf 63 = .ok (.iaload, 1) := by decide +kernel
theorem dX11_feederOf_64 : decode cX11_feederOf 64 = .ok (.aload_n 0, 1) := by decide +kernel
theorem dX11_feederOf_65 : decode cX11_feederOf 65 = .ok (.getfield 26, 3) := by decide +kernel
theorem dX11_feederOf_68 : decode cX11_feederOf 68 = .ok (.iconst 2, 1) := by decide +kernel
theorem dX11_feederOf_69 : decode cX11_feederOf 69 = .ok (.iload 5, 2) := by decide +kernel
theorem dX11_feederOf_71 : decode cX11_feederOf 71 = .ok (.imul, 1) := by decide +kernel
theorem dX11_feederOf_72 : decode cX11_feederOf 72 = .ok (.iconst 1, 1) := by decide +kernel
theorem dX11_feederOf_73 : decode cX11_feederOf 73 = .ok (.iadd, 1) := by decide +kernel
theorem dX11_feederOf_74 : decode cX11_feederOf 74 = .ok (.iaload, 1) := by decide +kernel
theorem dX11_feederOf_75 : decode cX11_feederOf 75 = .ok (.iadd, 1) := by decide +kernel
theorem dX11_feederOf_76 : decode cX11_feederOf 76 = .ok (.iload_n 1, 1) := by decide +kernel
theorem dX11_feederOf_77 : decode cX11_feederOf 77 = .ok (.isub, 1) := by decide +kernel
theorem dX11_feederOf_78 : decode cX11_feederOf 78 = .ok (.istore 4, 2) := by decide +kernel
theorem dX11_feederOf_80 : decode cX11_feederOf 80 = .ok (.iinc 5 1, 3) := by decide +kernel
theorem dX11_feederOf_83 : decode cX11_feederOf 83 = .ok (.goto (-60), 3) := by decide +kernel
theorem dX11_feederOf_86 : decode cX11_feederOf 86 = .ok (.iload 4, 2) := by decide +kernel
theorem dX11_feederOf_88 : decode cX11_feederOf 88 = .ok (.ireturn, 1) := by decide +kernel
theorem dX11_feeder_0 : decode cX11_feeder 0 = .ok (.aload_n 0, 1) := by decide +kernel
theorem dX11_feeder_1 : decode cX11_feeder 1 = .ok (.iload_n 1, 1) := by decide +kernel
theorem dX11_feeder_2 : decode cX11_feeder 2 = .ok (.invokevirtual 308, 3) := by decide +kernel
theorem dX11_feeder_5 : decode cX11_feeder 5 = .ok (.ifCond .eq 7, 3) := by decide +kernel
theorem dX11_feeder_8 : decode cX11_feeder 8 = .ok (.iload_n 2, 1) := by decide +kernel
theorem dX11_feeder_9 : decode cX11_feeder 9 = .ok (.ifCond .ge 6, 3) := by decide +kernel
theorem dX11_feeder_12 : decode cX11_feeder 12 = .ok (.bipush (-2), 2) := by decide +kernel
theorem dX11_feeder_14 : decode cX11_feeder 14 = .ok (.ireturn, 1) := by decide +kernel
theorem dX11_feeder_15 : decode cX11_feeder 15 = .ok (.aload_n 0, 1) := by decide +kernel
theorem dX11_feeder_16 : decode cX11_feeder 16 = .ok (.invokevirtual 292, 3) := by decide +kernel
theorem dX11_feeder_19 : decode cX11_feeder 19 = .ok (.iload_n 1, 1) := by decide +kernel
theorem dX11_feeder_20 : decode cX11_feeder 20 = .ok (.istore_n 3, 1) := by decide +kernel
theorem dX11_feeder_21 : decode cX11_feeder 21 = .ok (.iconst 0, 1) := by decide +kernel
theorem dX11_feeder_22 : decode cX11_feeder 22 = .ok (.istore 4, 2) := by decide +kernel
theorem dX11_feeder_24 : decode cX11_feeder 24 = .ok (.iload 4, 2) := by decide +kernel
theorem dX11_feeder_26 : decode cX11_feeder 26 = .ok (.iload_n 2, 1) := by decide +kernel
theorem dX11_feeder_27 : decode cX11_feeder 27 = .ok (.if_icmp .ge 20, 3) := by decide +kernel
theorem dX11_feeder_30 : decode cX11_feeder 30 = .ok (.iload_n 3, 1) := by decide +kernel
theorem dX11_feeder_31 : decode cX11_feeder 31 = .ok (.iconst (-1), 1) := by decide +kernel
theorem dX11_feeder_32 : decode cX11_feeder 32 = .ok (.if_icmp .eq 15, 3) := by decide +kernel
theorem dX11_feeder_35 : decode cX11_feeder 35 = .ok (.aload_n 0, 1) := by decide +kernel
theorem dX11_feeder_36 : decode cX11_feeder 36 = .ok (.iload_n 3, 1) := by decide +kernel
theorem dX11_feeder_37 : decode cX11_feeder 37 = .ok (.invokevirtual 340, 3) := by decide +kernel
theorem dX11_feeder_40 : decode cX11_feeder 40 = .ok (.istore_n 3, 1) := by decide +kernel
theorem dX11_feeder_41 : decode cX11_feeder 41 = .ok (.iinc 4 1, 3) := by decide +kernel
theorem dX11_feeder_44 : decode cX11_feeder 44 = .ok (.goto (-20), 3) := by decide +kernel
theorem dX11_feeder_47 : decode cX11_feeder 47 = .ok (.iload_n 3, 1) := by decide +kernel
theorem dX11_feeder_48 : decode cX11_feeder 48 = .ok (.ireturn, 1) := by decide +kernel
theorem dX11_parts_0 : decode cX11_parts 0 = .ok (.aload_n 0, 1) := by decide +kernel
theorem dX11_parts_1 : decode cX11_parts 1 = .ok (.invokevirtual 109, 3) := by decide +kernel
theorem dX11_parts_4 : decode cX11_parts 4 = .ok (.ifCond .ne 6, 3) := by decide +kernel
theorem dX11_parts_7 : decode cX11_parts 7 = .ok (.bipush (-2), 2) := by decide +kernel
theorem dX11_parts_9 : decode cX11_parts 9 = .ok (.ireturn, 1) := by decide +kernel
theorem dX11_parts_10 : decode cX11_parts 10 = .ok (.aload_n 0, 1) := by decide +kernel
theorem dX11_parts_11 : decode cX11_parts 11 = .ok (.invokevirtual 116, 3) := by decide +kernel
theorem dX11_parts_14 : decode cX11_parts 14 = .ok (.pop, 1) := by decide +kernel
theorem dX11_parts_15 : decode cX11_parts 15 = .ok (.iconst 0, 1) := by decide +kernel
theorem dX11_parts_16 : decode cX11_parts 16 = .ok (.istore_n 1, 1) := by decide +kernel
theorem dX11_parts_17 : decode cX11_parts 17 = .ok (.iconst 0, 1) := by decide +kernel
theorem dX11_parts_18 : decode cX11_parts 18 = .ok (.istore_n 2, 1) := by decide +kernel
theorem dX11_parts_19 : decode cX11_parts 19 = .ok (.iconst 0, 1) := by decide +kernel
theorem dX11_parts_20 : decode cX11_parts 20 = .ok (.istore_n 3, 1) := by decide +kernel
theorem dX11_parts_21 : decode cX11_parts 21 = .ok (.iload_n 3, 1) := by decide +kernel
theorem dX11_parts_22 : decode cX11_parts 22 = .ok (.aload_n 0, 1) := by decide +kernel
theorem dX11_parts_23 : decode cX11_parts 23 = .ok (.invokevirtual 98, 3) := by decide +kernel
theorem dX11_parts_26 : decode cX11_parts 26 = .ok (.if_icmp .ge 33, 3) := by decide +kernel
theorem dX11_parts_29 : decode cX11_parts 29 = .ok (.iload_n 2, 1) := by decide +kernel
theorem dX11_parts_30 : decode cX11_parts 30 = .ok (.iload_n 3, 1) := by decide +kernel
theorem dX11_parts_31 : decode cX11_parts 31 = .ok (.invokestatic 209, 3) := by decide +kernel
theorem dX11_parts_34 : decode cX11_parts 34 = .ok (.ifCond .eq 6, 3) := by decide +kernel
theorem dX11_parts_37 : decode cX11_parts 37 = .ok (.goto 16, 3) := by decide +kernel
theorem dX11_parts_40 : decode cX11_parts 40 = .ok (.iload_n 2, 1) := by decide +kernel
theorem dX11_parts_41 : decode cX11_parts 41 = .ok (.aload_n 0, 1) := by decide +kernel
theorem dX11_parts_42 : decode cX11_parts 42 = .ok (.iconst 1, 1) := by decide +kernel
theorem dX11_parts_43 : decode cX11_parts 43 = .ok (.iload_n 3, 1) := by decide +kernel
theorem dX11_parts_44 : decode cX11_parts 44 = .ok (.ishl, 1) := by decide +kernel
theorem dX11_parts_45 : decode cX11_parts 45 = .ok (.invokevirtual 263, 3) := by decide +kernel
theorem dX11_parts_48 : decode cX11_parts 48 = .ok (.ior, 1) := by decide +kernel
theorem dX11_parts_49 : decode cX11_parts 49 = .ok (.istore_n 2, 1) := by decide +kernel
theorem dX11_parts_50 : decode cX11_parts 50 = .ok (.iinc 1 1, 3) := by decide +kernel
theorem dX11_parts_53 : decode cX11_parts 53 = .ok (.iinc 3 1, 3) := by decide +kernel
theorem dX11_parts_56 : decode cX11_parts 56 = .ok (.goto (-35), 3) := by decide +kernel
theorem dX11_parts_59 : decode cX11_parts 59 = .ok (.iload_n 1, 1) := by decide +kernel
theorem dX11_parts_60 : decode cX11_parts 60 = .ok (.ireturn, 1) := by decide +kernel
theorem dX11_reached_0 : decode cX11_reached 0 = .ok (.aload_n 0, 1) := by decide +kernel
theorem dX11_reached_1 : decode cX11_reached 1 = .ok (.iload_n 1, 1) := by decide +kernel
theorem dX11_reached_2 : decode cX11_reached 2 = .ok (.invokevirtual 308, 3) := by decide +kernel
theorem dX11_reached_5 : decode cX11_reached 5 = .ok (.ifCond .ne 6, 3) := by decide +kernel
theorem dX11_reached_8 : decode cX11_reached 8 = .ok (.bipush (-2), 2) := by decide +kernel
theorem dX11_reached_10 : decode cX11_reached 10 = .ok (.ireturn, 1) := by decide +kernel
theorem dX11_reached_11 : decode cX11_reached 11 = .ok (.aload_n 0, 1) := by decide +kernel
theorem dX11_reached_12 : decode cX11_reached 12 = .ok (.invokevirtual 116, 3) := by decide +kernel
theorem dX11_reached_15 : decode cX11_reached 15 = .ok (.pop, 1) := by decide +kernel
theorem dX11_reached_16 : decode cX11_reached 16 = .ok (.aload_n 0, 1) := by decide +kernel
theorem dX11_reached_17 : decode cX11_reached 17 = .ok (.iconst 1, 1) := by decide +kernel
theorem dX11_reached_18 : decode cX11_reached 18 = .ok (.iload_n 1, 1) := by decide +kernel
theorem dX11_reached_19 : decode cX11_reached 19 = .ok (.ishl, 1) := by decide +kernel
theorem dX11_reached_20 : decode cX11_reached 20 = .ok (.invokevirtual 263, 3) := by decide +kernel
theorem dX11_reached_23 : decode cX11_reached 23 = .ok (.ireturn, 1) := by decide +kernel
theorem dX11_isAhead_0 : decode cX11_isAhead 0 = .ok (.aload_n 0, 1) := by decide +kernel
theorem dX11_isAhead_1 : decode cX11_isAhead 1 = .ok (.iload_n 1, 1) := by decide +kernel
theorem dX11_isAhead_2 : decode cX11_isAhead 2 = .ok (.iload_n 2, 1) := by decide +kernel
theorem dX11_isAhead_3 : decode cX11_isAhead 3 = .ok (.invokevirtual 278, 3) := by decide +kernel
theorem dX11_isAhead_6 : decode cX11_isAhead 6 = .ok (.aload_n 0, 1) := by decide +kernel
theorem dX11_isAhead_7 : decode cX11_isAhead 7 = .ok (.iload_n 1, 1) := by decide +kernel
theorem dX11_isAhead_8 : decode cX11_isAhead 8 = .ok (.iload_n 3, 1) := by decide +kernel
theorem dX11_isAhead_9 : decode cX11_isAhead 9 = .ok (.invokevirtual 278, 3) := by decide +kernel
theorem dX11_isAhead_12 : decode cX11_isAhead 12 = .ok (.lcmp, 1) := by decide +kernel
theorem dX11_isAhead_13 : decode cX11_isAhead 13 = .ok (.ifCond .eq 27, 3) := by decide +kernel
theorem dX11_isAhead_16 : decode cX11_isAhead 16 = .ok (.aload_n 0, 1) := by decide +kernel
theorem dX11_isAhead_17 : decode cX11_isAhead 17 = .ok (.iload_n 1, 1) := by decide +kernel
theorem dX11_isAhead_18 : decode cX11_isAhead 18 = .ok (.iload_n 2, 1) := by decide +kernel
theorem dX11_isAhead_19 : decode cX11_isAhead 19 = .ok (.invokevirtual 278, 3) := by decide +kernel
theorem dX11_isAhead_22 : decode cX11_isAhead 22 = .ok (.aload_n 0, 1) := by decide +kernel
theorem dX11_isAhead_23 : decode cX11_isAhead 23 = .ok (.iload_n 1, 1) := by decide +kernel
theorem dX11_isAhead_24 : decode cX11_isAhead 24 = .ok (.iload_n 3, 1) := by decide +kernel
theorem dX11_isAhead_25 : decode cX11_isAhead 25 = .ok (.invokevirtual 278, 3) := by decide +kernel
theorem dX11_isAhead_28 : decode cX11_isAhead 28 = .ok (.lcmp, 1) := by decide +kernel
theorem dX11_isAhead_29 : decode cX11_isAhead 29 = .ok (.ifCond .le 7, 3) := by decide +kernel
theorem dX11_isAhead_32 : decode cX11_isAhead 32 = .ok (.iconst 1, 1) := by decide +kernel
theorem dX11_isAhead_33 : decode cX11_isAhead 33 = .ok (.goto 17, 3) := by decide +kernel
theorem dX11_isAhead_36 : decode cX11_isAhead 36 = .ok (.iconst 0, 1) := by decide +kernel
theorem dX11_isAhead_37 : decode cX11_isAhead 37 = .ok (.goto 13, 3) := by decide +kernel
theorem dX11_isAhead_40 : decode cX11_isAhead 40 = .ok (.iload_n 2, 1) := by decide +kernel
theorem dX11_isAhead_41 : decode cX11_isAhead 41 = .ok (.iload_n 3, 1) := by decide +kernel
theorem dX11_isAhead_42 : decode cX11_isAhead 42 = .ok (.if_icmp .ge 7, 3) := by decide +kernel
theorem dX11_isAhead_45 : decode cX11_isAhead 45 = .ok (.iconst 1, 1) := by decide +kernel
theorem dX11_isAhead_46 : decode cX11_isAhead 46 = .ok (.goto 4, 3) := by decide +kernel
theorem dX11_isAhead_49 : decode cX11_isAhead 49 = .ok (.iconst 0, 1) := by decide +kernel
theorem dX11_isAhead_50 : decode cX11_isAhead 50 = .ok (.ireturn, 1) := by decide +kernel
theorem dX11_draws_0 : decode cX11_draws 0 = .ok (.iconst 0, 1) := by decide +kernel
theorem dX11_draws_1 : decode cX11_draws 1 = .ok (.istore_n 2, 1) := by decide +kernel
theorem dX11_draws_2 : decode cX11_draws 2 = .ok (.iconst 0, 1) := by decide +kernel
theorem dX11_draws_3 : decode cX11_draws 3 = .ok (.istore_n 3, 1) := by decide +kernel
theorem dX11_draws_4 : decode cX11_draws 4 = .ok (.iload_n 3, 1) := by decide +kernel
theorem dX11_draws_5 : decode cX11_draws 5 = .ok (.aload_n 0, 1) := by decide +kernel
theorem dX11_draws_6 : decode cX11_draws 6 = .ok (.invokevirtual 98, 3) := by decide +kernel
theorem dX11_draws_9 : decode cX11_draws 9 = .ok (.if_icmp .ge 86, 3) := by decide +kernel
theorem dX11_draws_12 : decode cX11_draws 12 = .ok (.aload_n 0, 1) := by decide +kernel
theorem dX11_draws_13 : decode cX11_draws 13 = .ok (.getfield 57, 3) := by decide +kernel
theorem dX11_draws_16 : decode cX11_draws 16 = .ok (.iload_n 3, 1) := by decide +kernel
theorem dX11_draws_17 : decode cX11_draws 17 = .ok (.iconst 0, 1) := by decide +kernel
theorem dX11_draws_18 : decode cX11_draws 18 = .ok (.iastore, 1) := by decide +kernel
theorem dX11_draws_19 : decode cX11_draws 19 = .ok (.aload_n 0, 1) := by decide +kernel
theorem dX11_draws_20 : decode cX11_draws 20 = .ok (.iload_n 3, 1) := by decide +kernel
theorem dX11_draws_21 : decode cX11_draws 21 = .ok (.invokevirtual 288, 3) := by decide +kernel
theorem dX11_draws_24 : decode cX11_draws 24 = .ok (.ifCond .eq 6, 3) := by decide +kernel
theorem dX11_draws_27 : decode cX11_draws 27 = .ok (.goto 62, 3) := by decide +kernel
theorem dX11_draws_30 : decode cX11_draws 30 = .ok (.iload_n 2, 1) := by decide +kernel
theorem dX11_draws_31 : decode cX11_draws 31 = .ok (.istore 4, 2) := by decide +kernel
theorem dX11_draws_33 : decode cX11_draws 33 = .ok (.iload 4, 2) := by decide +kernel
theorem dX11_draws_35 : decode cX11_draws 35 = .ok (.ifCond .le 43, 3) := by decide +kernel
theorem dX11_draws_38 : decode cX11_draws 38 = .ok (.aload_n 0, 1) := by decide +kernel
theorem dX11_draws_39 : decode cX11_draws 39 = .ok (.iload_n 1, 1) := by decide +kernel
theorem dX11_draws_40 : decode cX11_draws 40 = .ok (.iload_n 3, 1) := by decide +kernel
theorem dX11_draws_41 : decode cX11_draws 41 = .ok (.aload_n 0, 1) := by decide +kernel
theorem dX11_draws_42 : decode cX11_draws 42 = .ok (.getfield 54, 3) := by decide +kernel
theorem dX11_draws_45 : decode cX11_draws 45 = .ok (.iload 4, 2) := by decide +kernel
theorem dX11_draws_47 : decode cX11_draws 47 = .ok (.iconst 1, 1) := by decide +kernel
theorem dX11_draws_48 : decode cX11_draws 48 = .ok (.isub, 1) := by decide +kernel
theorem dX11_draws_49 : decode cX11_draws 49 = .ok (.iaload, 1) := by decide +kernel
theorem dX11_draws_50 : decode cX11_draws 50 = .ok (.invokevirtual 343, 3) := by decide +kernel
theorem dX11_draws_53 : decode cX11_draws 53 = .ok (.ifCond .eq 25, 3) := by decide +kernel
theorem dX11_draws_56 : decode cX11_draws 56 = .ok (.aload_n 0, 1) := by decide +kernel
theorem dX11_draws_57 : decode cX11_draws 57 = .ok (.getfield 54, 3) := by decide +kernel
theorem dX11_draws_60 : decode cX11_draws 60 = .ok (.iload 4, 2) := by decide +kernel
theorem dX11_draws_62 : decode cX11_draws 62 = .ok (.aload_n 0, 1) := by decide +kernel
theorem dX11_draws_63 : decode cX11_draws 63 = .ok (.getfield 54, 3) := by decide +kernel
theorem dX11_draws_66 : decode cX11_draws 66 = .ok (.iload 4, 2) := by decide +kernel
theorem dX11_draws_68 : decode cX11_draws 68 = .ok (.iconst 1, 1) := by decide +kernel
theorem dX11_draws_69 : decode cX11_draws 69 = .ok (.isub, 1) := by decide +kernel
theorem dX11_draws_70 : decode cX11_draws 70 = .ok (.iaload, 1) := by decide +kernel
theorem dX11_draws_71 : decode cX11_draws 71 = .ok (.iastore, 1) := by decide +kernel
theorem dX11_draws_72 : decode cX11_draws 72 = .ok (.iinc 4 (-1), 3) := by decide +kernel
theorem dX11_draws_75 : decode cX11_draws 75 = .ok (.goto (-42), 3) := by decide +kernel
theorem dX11_draws_78 : decode cX11_draws 78 = .ok (.aload_n 0, 1) := by decide +kernel
theorem dX11_draws_79 : decode cX11_draws 79 = .ok (.getfield 54, 3) := by decide +kernel
theorem dX11_draws_82 : decode cX11_draws 82 = .ok (.iload 4, 2) := by decide +kernel
theorem dX11_draws_84 : decode cX11_draws 84 = .ok (.iload_n 3, 1) := by decide +kernel
theorem dX11_draws_85 : decode cX11_draws 85 = .ok (.iastore, 1) := by decide +kernel
theorem dX11_draws_86 : decode cX11_draws 86 = .ok (.iinc 2 1, 3) := by decide +kernel
theorem dX11_draws_89 : decode cX11_draws 89 = .ok (.iinc 3 1, 3) := by decide +kernel
theorem dX11_draws_92 : decode cX11_draws 92 = .ok (.goto (-88), 3) := by decide +kernel
theorem dX11_draws_95 : decode cX11_draws 95 = .ok (.iconst 0, 1) := by decide +kernel
theorem dX11_draws_96 : decode cX11_draws 96 = .ok (.istore_n 3, 1) := by decide +kernel
theorem dX11_draws_97 : decode cX11_draws 97 = .ok (.iload_n 3, 1) := by decide +kernel
theorem dX11_draws_98 : decode cX11_draws 98 = .ok (.iconst 4, 1) := by decide +kernel
theorem dX11_draws_99 : decode cX11_draws 99 = .ok (.if_icmp .ge 24, 3) := by decide +kernel
theorem dX11_draws_102 : decode cX11_draws 102 = .ok (.aload_n 0, 1) := by decide +kernel
theorem dX11_draws_103 : decode cX11_draws 103 = .ok (.getfield 60, 3) := by decide +kernel
theorem dX11_draws_106 : decode cX11_draws 106 = .ok (.iload_n 3, 1) := by decide +kernel
theorem dX11_draws_107 : decode cX11_draws 107 = .ok (.aload_n 0, 1) := by decide +kernel
theorem dX11_draws_108 : decode cX11_draws 108 = .ok (.getfield 9, 3) := by decide +kernel
theorem dX11_draws_111 : decode cX11_draws 111 = .ok (.bipush 24, 2) := by decide +kernel
theorem dX11_draws_113 : decode cX11_draws 113 = .ok (.iload_n 3, 1) := by decide +kernel
theorem dX11_draws_114 : decode cX11_draws 114 = .ok (.iadd, 1) := by decide +kernel
theorem dX11_draws_115 : decode cX11_draws 115 = .ok (.iaload, 1) := by decide +kernel
theorem dX11_draws_116 : decode cX11_draws 116 = .ok (.iastore, 1) := by decide +kernel
theorem dX11_draws_117 : decode cX11_draws 117 = .ok (.iinc 3 1, 3) := by decide +kernel
theorem dX11_draws_120 : decode cX11_draws 120 = .ok (.goto (-23), 3) := by decide +kernel
theorem dX11_draws_123 : decode cX11_draws 123 = .ok (.iconst 0, 1) := by decide +kernel
theorem dX11_draws_124 : decode cX11_draws 124 = .ok (.istore_n 3, 1) := by decide +kernel
theorem dX11_draws_125 : decode cX11_draws 125 = .ok (.iload_n 3, 1) := by decide +kernel
theorem dX11_draws_126 : decode cX11_draws 126 = .ok (.iload_n 2, 1) := by decide +kernel
theorem dX11_draws_127 : decode cX11_draws 127 = .ok (.if_icmp .ge 97, 3) := by decide +kernel
theorem dX11_draws_130 : decode cX11_draws 130 = .ok (.aload_n 0, 1) := by decide +kernel
theorem dX11_draws_131 : decode cX11_draws 131 = .ok (.getfield 54, 3) := by decide +kernel
theorem dX11_draws_134 : decode cX11_draws 134 = .ok (.iload_n 3, 1) := by decide +kernel
theorem dX11_draws_135 : decode cX11_draws 135 = .ok (.iaload, 1) := by decide +kernel
theorem dX11_draws_136 : decode cX11_draws 136 = .ok (.istore 4, 2) := by decide +kernel
theorem dX11_draws_138 : decode cX11_draws 138 = .ok (.aload_n 0, 1) := by decide +kernel
theorem dX11_draws_139 : decode cX11_draws 139 = .ok (.getfield 9, 3) := by decide +kernel
theorem dX11_draws_142 : decode cX11_draws 142 = .ok (.bipush 15, 2) := by decide +kernel
theorem dX11_draws_144 : decode cX11_draws 144 = .ok (.iload 4, 2) := by decide +kernel
theorem dX11_draws_146 : decode cX11_draws 146 = .ok (.iadd, 1) := by decide +kernel
theorem dX11_draws_147 : decode cX11_draws 147 = .ok (.iaload, 1) := by decide +kernel
theorem dX11_draws_148 : decode cX11_draws 148 = .ok (.istore 5, 2) := by decide +kernel
theorem dX11_draws_150 : decode cX11_draws 150 = .ok (.aload_n 0, 1) := by decide +kernel
theorem dX11_draws_151 : decode cX11_draws 151 = .ok (.getfield 9, 3) := by decide +kernel
theorem dX11_draws_154 : decode cX11_draws 154 = .ok (.bipush 6, 2) := by decide +kernel
theorem dX11_draws_156 : decode cX11_draws 156 = .ok (.iload 4, 2) := by decide +kernel
theorem dX11_draws_158 : decode cX11_draws 158 = .ok (.iadd, 1) := by decide +kernel
theorem dX11_draws_159 : decode cX11_draws 159 = .ok (.iaload, 1) := by decide +kernel
theorem dX11_draws_160 : decode cX11_draws 160 = .ok (.aload_n 0, 1) := by decide +kernel
theorem dX11_draws_161 : decode cX11_draws 161 = .ok (.getfield 60, 3) := by decide +kernel
theorem dX11_draws_164 : decode cX11_draws 164 = .ok (.iconst 0, 1) := by decide +kernel
theorem dX11_draws_165 : decode cX11_draws 165 = .ok (.iaload, 1) := by decide +kernel
theorem dX11_draws_166 : decode cX11_draws 166 = .ok (.aload_n 0, 1) := by decide +kernel
theorem dX11_draws_167 : decode cX11_draws 167 = .ok (.getfield 60, 3) := by decide +kernel
theorem dX11_draws_170 : decode cX11_draws 170 = .ok (.iload 5, 2) := by decide +kernel
theorem dX11_draws_172 : decode cX11_draws 172 = .ok (.iaload, 1) := by decide +kernel
theorem dX11_draws_173 : decode cX11_draws 173 = .ok (.invokestatic 119, 3) := by decide +kernel
theorem dX11_draws_176 : decode cX11_draws 176 = .ok (.invokestatic 119, 3) := by decide +kernel
theorem dX11_draws_179 : decode cX11_draws 179 = .ok (.istore 6, 2) := by decide +kernel
theorem dX11_draws_181 : decode cX11_draws 181 = .ok (.aload_n 0, 1) := by decide +kernel
theorem dX11_draws_182 : decode cX11_draws 182 = .ok (.getfield 57, 3) := by decide +kernel
theorem dX11_draws_185 : decode cX11_draws 185 = .ok (.iload 4, 2) := by decide +kernel
theorem dX11_draws_187 : decode cX11_draws 187 = .ok (.iload 6, 2) := by decide +kernel
theorem dX11_draws_189 : decode cX11_draws 189 = .ok (.iastore, 1) := by decide +kernel
theorem dX11_draws_190 : decode cX11_draws 190 = .ok (.aload_n 0, 1) := by decide +kernel
theorem dX11_draws_191 : decode cX11_draws 191 = .ok (.getfield 60, 3) := by decide +kernel
theorem dX11_draws_194 : decode cX11_draws 194 = .ok (.iconst 0, 1) := by decide +kernel
theorem dX11_draws_195 : decode cX11_draws 195 = .ok (.dup2, 1) := by decide +kernel
theorem dX11_draws_196 : decode cX11_draws 196 = .ok (.iaload, 1) := by decide +kernel
theorem dX11_draws_197 : decode cX11_draws 197 = .ok (.iload 6, 2) := by decide +kernel
theorem dX11_draws_199 : decode cX11_draws 199 = .ok (.isub, 1) := by decide +kernel
theorem dX11_draws_200 : decode cX11_draws 200 = .ok (.iastore, 1) := by decide +kernel
theorem dX11_draws_201 : decode cX11_draws 201 = .ok (.iload 5, 2) := by decide +kernel
theorem dX11_draws_203 : decode cX11_draws 203 = .ok (.ifCond .le 15, 3) := by decide +kernel
theorem dX11_draws_206 : decode cX11_draws 206 = .ok (.aload_n 0, 1) := by decide +kernel
theorem dX11_draws_207 : decode cX11_draws 207 = .ok (.getfield 60, 3) := by decide +kernel
theorem dX11_draws_210 : decode cX11_draws 210 = .ok (.iload 5, 2) := by decide +kernel
theorem dX11_draws_212 : decode cX11_draws 212 = .ok (.dup2, 1) := by decide +kernel
theorem dX11_draws_213 : decode cX11_draws 213 = .ok (.iaload, 1) := by decide +kernel
theorem dX11_draws_214 : decode cX11_draws 214 = .ok (.iload 6, 2) := by decide +kernel
theorem dX11_draws_216 : decode cX11_draws 216 = .ok (.isub, 1) := by decide +kernel
theorem dX11_draws_217 : decode cX11_draws 217 = .ok (.iastore, 1) := by decide +kernel
theorem dX11_draws_218 : decode cX11_draws 218 = .ok (.iinc 3 1, 3) := by decide +kernel
theorem dX11_draws_221 : decode cX11_draws 221 = .ok (.goto (-96), 3) := by decide +kernel
theorem dX11_draws_224 : decode cX11_draws 224 = .ok (.return_, 1) := by decide +kernel
theorem dX11_mostOf_0 : decode cX11_mostOf 0 = .ok (.aload_n 0, 1) := by decide +kernel
theorem dX11_mostOf_1 : decode cX11_mostOf 1 = .ok (.iload_n 1, 1) := by decide +kernel
theorem dX11_mostOf_2 : decode cX11_mostOf 2 = .ok (.invokevirtual 347, 3) := by decide +kernel
theorem dX11_mostOf_5 : decode cX11_mostOf 5 = .ok (.lconst 0, 1) := by decide +kernel
theorem dX11_mostOf_6 : decode cX11_mostOf 6 = .ok (.lstore_n 2, 1) := by decide +kernel
theorem dX11_mostOf_7 : decode cX11_mostOf 7 = .ok (.iconst 0, 1) := by decide +kernel
theorem dX11_mostOf_8 : decode cX11_mostOf 8 = .ok (.istore 4, 2) := by decide +kernel
theorem dX11_mostOf_10 : decode cX11_mostOf 10 = .ok (.iload 4, 2) := by decide +kernel
theorem dX11_mostOf_12 : decode cX11_mostOf 12 = .ok (.aload_n 0, 1) := by decide +kernel
theorem dX11_mostOf_13 : decode cX11_mostOf 13 = .ok (.invokevirtual 98, 3) := by decide +kernel
theorem dX11_mostOf_16 : decode cX11_mostOf 16 = .ok (.if_icmp .ge 28, 3) := by decide +kernel
theorem dX11_mostOf_19 : decode cX11_mostOf 19 = .ok (.lload_n 2, 1) := by decide +kernel
theorem dX11_mostOf_20 : decode cX11_mostOf 20 = .ok (.aload_n 0, 1) := by decide +kernel
theorem dX11_mostOf_21 : decode cX11_mostOf 21 = .ok (.iload_n 1, 1) := by decide +kernel
theorem dX11_mostOf_22 : decode cX11_mostOf 22 = .ok (.iload 4, 2) := by decide +kernel
theorem dX11_mostOf_24 : decode cX11_mostOf 24 = .ok (.invokevirtual 278, 3) := by decide +kernel
theorem dX11_mostOf_27 : decode cX11_mostOf 27 = .ok (.aload_n 0, 1) := by decide +kernel
theorem dX11_mostOf_28 : decode cX11_mostOf 28 = .ok (.getfield 57, 3) := by decide +kernel
theorem dX11_mostOf_31 : decode cX11_mostOf 31 = .ok (.iload 4, 2) := by decide +kernel
theorem dX11_mostOf_33 : decode cX11_mostOf 33 = .ok (.iaload, 1) := by decide +kernel
theorem dX11_mostOf_34 : decode cX11_mostOf 34 = .ok (.i2l, 1) := by decide +kernel
theorem dX11_mostOf_35 : decode cX11_mostOf 35 = .ok (.lmul, 1) := by decide +kernel
theorem dX11_mostOf_36 : decode cX11_mostOf 36 = .ok (.ladd, 1) := by decide +kernel
theorem dX11_mostOf_37 : decode cX11_mostOf 37 = .ok (.lstore_n 2, 1) := by decide +kernel
theorem dX11_mostOf_38 : decode cX11_mostOf 38 = .ok (.iinc 4 1, 3) := by decide +kernel
theorem dX11_mostOf_41 : decode cX11_mostOf 41 = .ok (.goto (-31), 3) := by decide +kernel
theorem dX11_mostOf_44 : decode cX11_mostOf 44 = .ok (.lload_n 2, 1) := by decide +kernel
theorem dX11_mostOf_45 : decode cX11_mostOf 45 = .ok (.lreturn, 1) := by decide +kernel
theorem dX11_most_0 : decode cX11_most 0 = .ok (.aload_n 0, 1) := by decide +kernel
theorem dX11_most_1 : decode cX11_most 1 = .ok (.iload_n 1, 1) := by decide +kernel
theorem dX11_most_2 : decode cX11_most 2 = .ok (.invokevirtual 308, 3) := by decide +kernel
theorem dX11_most_5 : decode cX11_most 5 = .ok (.ifCond .eq 10, 3) := by decide +kernel
theorem dX11_most_8 : decode cX11_most 8 = .ok (.iload_n 2, 1) := by decide +kernel
theorem dX11_most_9 : decode cX11_most 9 = .ok (.invokestatic 313, 3) := by decide +kernel
theorem dX11_most_12 : decode cX11_most 12 = .ok (.ifCond .ne 7, 3) := by decide +kernel
theorem dX11_most_15 : decode cX11_most 15 = .ok (.ldc2_w 316, 3) := by decide +kernel
theorem dX11_most_18 : decode cX11_most 18 = .ok (.lreturn, 1) := by decide +kernel
theorem dX11_most_19 : decode cX11_most 19 = .ok (.aload_n 0, 1) := by decide +kernel
theorem dX11_most_20 : decode cX11_most 20 = .ok (.invokevirtual 292, 3) := by decide +kernel
theorem dX11_most_23 : decode cX11_most 23 = .ok (.aload_n 0, 1) := by decide +kernel
theorem dX11_most_24 : decode cX11_most 24 = .ok (.iload_n 1, 1) := by decide +kernel
theorem dX11_most_25 : decode cX11_most 25 = .ok (.invokevirtual 288, 3) := by decide +kernel
theorem dX11_most_28 : decode cX11_most 28 = .ok (.ifCond .eq 9, 3) := by decide +kernel
theorem dX11_most_31 : decode cX11_most 31 = .ok (.ldc2_w 318, 3) := by decide +kernel
theorem dX11_most_34 : decode cX11_most 34 = .ok (.goto 16, 3) := by decide +kernel
theorem dX11_most_37 : decode cX11_most 37 = .ok (.aload_n 0, 1) := by decide +kernel
theorem dX11_most_38 : decode cX11_most 38 = .ok (.iload_n 1, 1) := by decide +kernel
theorem dX11_most_39 : decode cX11_most 39 = .ok (.invokevirtual 349, 3) := by decide +kernel
theorem dX11_most_42 : decode cX11_most 42 = .ok (.aload_n 0, 1) := by decide +kernel
theorem dX11_most_43 : decode cX11_most 43 = .ok (.getfield 50, 3) := by decide +kernel
theorem dX11_most_46 : decode cX11_most 46 = .ok (.iload_n 2, 1) := by decide +kernel
theorem dX11_most_47 : decode cX11_most 47 = .ok (.invokestatic 320, 3) := by decide +kernel
theorem dX11_most_50 : decode cX11_most 50 = .ok (.lreturn, 1) := by decide +kernel
theorem dX11_drawn_0 : decode cX11_drawn 0 = .ok (.aload_n 0, 1) := by decide +kernel
theorem dX11_drawn_1 : decode cX11_drawn 1 = .ok (.iload_n 1, 1) := by decide +kernel
theorem dX11_drawn_2 : decode cX11_drawn 2 = .ok (.invokevirtual 308, 3) := by decide +kernel
theorem dX11_drawn_5 : decode cX11_drawn 5 = .ok (.ifCond .eq 11, 3) := by decide +kernel
theorem dX11_drawn_8 : decode cX11_drawn 8 = .ok (.aload_n 0, 1) := by decide +kernel
theorem dX11_drawn_9 : decode cX11_drawn 9 = .ok (.iload_n 2, 1) := by decide +kernel
theorem dX11_drawn_10 : decode cX11_drawn 10 = .ok (.invokevirtual 308, 3) := by decide +kernel
theorem dX11_drawn_13 : decode cX11_drawn 13 = .ok (.ifCond .ne 6, 3) := by decide +kernel
theorem dX11_drawn_16 : decode cX11_drawn 16 = .ok (.bipush (-2), 2) := by decide +kernel
theorem dX11_drawn_18 : decode cX11_drawn 18 = .ok (.ireturn, 1) := by decide +kernel
theorem dX11_drawn_19 : decode cX11_drawn 19 = .ok (.aload_n 0, 1) := by decide +kernel
theorem dX11_drawn_20 : decode cX11_drawn 20 = .ok (.invokevirtual 292, 3) := by decide +kernel
theorem dX11_drawn_23 : decode cX11_drawn 23 = .ok (.aload_n 0, 1) := by decide +kernel
theorem dX11_drawn_24 : decode cX11_drawn 24 = .ok (.iload_n 1, 1) := by decide +kernel
theorem dX11_drawn_25 : decode cX11_drawn 25 = .ok (.invokevirtual 288, 3) := by decide +kernel
theorem dX11_drawn_28 : decode cX11_drawn 28 = .ok (.ifCond .eq 5, 3) := by decide +kernel
theorem dX11_drawn_31 : decode cX11_drawn 31 = .ok (.iconst (-1), 1) := by decide +kernel
theorem dX11_drawn_32 : decode cX11_drawn 32 = .ok (.ireturn, 1) := by decide +kernel
theorem dX11_drawn_33 : decode cX11_drawn 33 = .ok (.aload_n 0, 1) := by decide +kernel
theorem dX11_drawn_34 : decode cX11_drawn 34 = .ok (.iload_n 1, 1) := by decide +kernel
theorem dX11_drawn_35 : decode cX11_drawn 35 = .ok (.invokevirtual 347, 3) := by decide +kernel
theorem dX11_drawn_38 : decode cX11_drawn 38 = .ok (.aload_n 0, 1) := by decide +kernel
theorem dX11_drawn_39 : decode cX11_drawn 39 = .ok (.getfield 57, 3) := by decide +kernel
theorem dX11_drawn_42 : decode cX11_drawn 42 = .ok (.iload_n 2, 1) := by decide +kernel
theorem dX11_drawn_43 : decode cX11_drawn 43 = .ok (.iaload, 1) := by decide +kernel
theorem dX11_drawn_44 : decode cX11_drawn 44 = .ok (.ireturn, 1) := by decide +kernel
theorem dX11_tight_0 : decode cX11_tight 0 = .ok (.aload_n 0, 1) := by decide +kernel
theorem dX11_tight_1 : decode cX11_tight 1 = .ok (.iload_n 1, 1) := by decide +kernel
theorem dX11_tight_2 : decode cX11_tight 2 = .ok (.invokevirtual 308, 3) := by decide +kernel
theorem dX11_tight_5 : decode cX11_tight 5 = .ok (.ifCond .ne 6, 3) := by decide +kernel
theorem dX11_tight_8 : decode cX11_tight 8 = .ok (.bipush (-2), 2) := by decide +kernel
theorem dX11_tight_10 : decode cX11_tight 10 = .ok (.ireturn, 1) := by decide +kernel
theorem dX11_tight_11 : decode cX11_tight 11 = .ok (.aload_n 0, 1) := by decide +kernel
theorem dX11_tight_12 : decode cX11_tight 12 = .ok (.invokevirtual 292, 3) := by decide +kernel
theorem dX11_tight_15 : decode cX11_tight 15 = .ok (.aload_n 0, 1) := by decide +kernel
theorem dX11_tight_16 : decode cX11_tight 16 = .ok (.iload_n 1, 1) := by decide +kernel
theorem dX11_tight_17 : decode cX11_tight 17 = .ok (.invokevirtual 288, 3) := by decide +kernel
theorem dX11_tight_20 : decode cX11_tight 20 = .ok (.ifCond .eq 5, 3) := by decide +kernel
theorem dX11_tight_23 : decode cX11_tight 23 = .ok (.iconst (-1), 1) := by decide +kernel
theorem dX11_tight_24 : decode cX11_tight 24 = .ok (.ireturn, 1) := by decide +kernel
theorem dX11_tight_25 : decode cX11_tight 25 = .ok (.aload_n 0, 1) := by decide +kernel
theorem dX11_tight_26 : decode cX11_tight 26 = .ok (.iload_n 1, 1) := by decide +kernel
theorem dX11_tight_27 : decode cX11_tight 27 = .ok (.invokevirtual 347, 3) := by decide +kernel
theorem dX11_tight_30 : decode cX11_tight 30 = .ok (.iconst 0, 1) := by decide +kernel
theorem dX11_tight_31 : decode cX11_tight 31 = .ok (.istore_n 2, 1) := by decide +kernel
theorem dX11_tight_32 : decode cX11_tight 32 = .ok (.iconst 0, 1) := by decide +kernel
theorem dX11_tight_33 : decode cX11_tight 33 = .ok (.istore_n 3, 1) := by decide +kernel
theorem dX11_tight_34 : decode cX11_tight 34 = .ok (.iload_n 3, 1) := by decide +kernel
theorem dX11_tight_35 : decode cX11_tight 35 = .ok (.iconst 4, 1) := by decide +kernel
theorem dX11_tight_36 : decode cX11_tight 36 = .ok (.if_icmp .ge 28, 3) := by decide +kernel
theorem dX11_tight_39 : decode cX11_tight 39 = .ok (.iload_n 2, 1) := by decide +kernel
theorem dX11_tight_40 : decode cX11_tight 40 = .ok (.aload_n 0, 1) := by decide +kernel
theorem dX11_tight_41 : decode cX11_tight 41 = .ok (.getfield 60, 3) := by decide +kernel
theorem dX11_tight_44 : decode cX11_tight 44 = .ok (.iload_n 3, 1) := by decide +kernel
theorem dX11_tight_45 : decode cX11_tight 45 = .ok (.iaload, 1) := by decide +kernel
theorem dX11_tight_46 : decode cX11_tight 46 = .ok (.ifCond .ne 9, 3) := by decide +kernel
theorem dX11_tight_49 : decode cX11_tight 49 = .ok (.iconst 1, 1) := by decide +kernel
theorem dX11_tight_50 : decode cX11_tight 50 = .ok (.iload_n 3, 1) := by decide +kernel
theorem dX11_tight_51 : decode cX11_tight 51 = .ok (.ishl, 1) := by decide +kernel
theorem dX11_tight_52 : decode cX11_tight 52 = .ok (.goto 4, 3) := by decide +kernel
theorem dX11_tight_55 : decode cX11_tight 55 = .ok (.iconst 0, 1) := by decide +kernel
theorem dX11_tight_56 : decode cX11_tight 56 = .ok (.ior, 1) := by decide +kernel
theorem dX11_tight_57 : decode cX11_tight 57 = .ok (.istore_n 2, 1) := by decide +kernel
theorem dX11_tight_58 : decode cX11_tight 58 = .ok (.iinc 3 1, 3) := by decide +kernel
theorem dX11_tight_61 : decode cX11_tight 61 = .ok (.goto (-27), 3) := by decide +kernel
theorem dX11_tight_64 : decode cX11_tight 64 = .ok (.iload_n 2, 1) := by decide +kernel
theorem dX11_tight_65 : decode cX11_tight 65 = .ok (.ireturn, 1) := by decide +kernel
theorem dX11_foe_0 : decode cX11_foe 0 = .ok (.aload_n 0, 1) := by decide +kernel
theorem dX11_foe_1 : decode cX11_foe 1 = .ok (.invokevirtual 302, 3) := by decide +kernel
theorem dX11_foe_4 : decode cX11_foe 4 = .ok (.ifCond .ne 6, 3) := by decide +kernel
theorem dX11_foe_7 : decode cX11_foe 7 = .ok (.bipush (-2), 2) := by decide +kernel
theorem dX11_foe_9 : decode cX11_foe 9 = .ok (.ireturn, 1) := by decide +kernel
theorem dX11_foe_10 : decode cX11_foe 10 = .ok (.iconst (-1), 1) := by decide +kernel
theorem dX11_foe_11 : decode cX11_foe 11 = .ok (.istore_n 1, 1) := by decide +kernel
theorem dX11_foe_12 : decode cX11_foe 12 = .ok (.ldc2_w 318, 3) := by decide +kernel
theorem dX11_foe_15 : decode cX11_foe 15 = .ok (.lstore_n 2, 1) := by decide +kernel
theorem dX11_foe_16 : decode cX11_foe 16 = .ok (.iconst 0, 1) := by decide +kernel
theorem dX11_foe_17 : decode cX11_foe 17 = .ok (.istore 4, 2) := by decide +kernel
theorem dX11_foe_19 : decode cX11_foe 19 = .ok (.iload 4, 2) := by decide +kernel
theorem dX11_foe_21 : decode cX11_foe 21 = .ok (.aload_n 0, 1) := by decide +kernel
theorem dX11_foe_22 : decode cX11_foe 22 = .ok (.invokevirtual 98, 3) := by decide +kernel
theorem dX11_foe_25 : decode cX11_foe 25 = .ok (.if_icmp .ge 42, 3) := by decide +kernel
theorem dX11_foe_28 : decode cX11_foe 28 = .ok (.aload_n 0, 1) := by decide +kernel
theorem dX11_foe_29 : decode cX11_foe 29 = .ok (.iload 4, 2) := by decide +kernel
theorem dX11_foe_31 : decode cX11_foe 31 = .ok (.invokevirtual 288, 3) := by decide +kernel
theorem dX11_foe_34 : decode cX11_foe 34 = .ok (.ifCond .ne 27, 3) := by decide +kernel
theorem dX11_foe_37 : decode cX11_foe 37 = .ok (.aload_n 0, 1) := by decide +kernel
theorem dX11_foe_38 : decode cX11_foe 38 = .ok (.iload 4, 2) := by decide +kernel
theorem dX11_foe_40 : decode cX11_foe 40 = .ok (.invokevirtual 349, 3) := by decide +kernel
theorem dX11_foe_43 : decode cX11_foe 43 = .ok (.lload_n 2, 1) := by decide +kernel
theorem dX11_foe_44 : decode cX11_foe 44 = .ok (.lcmp, 1) := by decide +kernel
theorem dX11_foe_45 : decode cX11_foe 45 = .ok (.ifCond .gt 6, 3) := by decide +kernel
theorem dX11_foe_48 : decode cX11_foe 48 = .ok (.goto 13, 3) := by decide +kernel
theorem dX11_foe_51 : decode cX11_foe 51 = .ok (.iload 4, 2) := by decide +kernel
theorem dX11_foe_53 : decode cX11_foe 53 = .ok (.istore_n 1, 1) := by decide +kernel
theorem dX11_foe_54 : decode cX11_foe 54 = .ok (.aload_n 0, 1) := by decide +kernel
theorem dX11_foe_55 : decode cX11_foe 55 = .ok (.iload 4, 2) := by decide +kernel
theorem dX11_foe_57 : decode cX11_foe 57 = .ok (.invokevirtual 349, 3) := by decide +kernel
theorem dX11_foe_60 : decode cX11_foe 60 = .ok (.lstore_n 2, 1) := by decide +kernel
theorem dX11_foe_61 : decode cX11_foe 61 = .ok (.iinc 4 1, 3) := by decide +kernel
theorem dX11_foe_64 : decode cX11_foe 64 = .ok (.goto (-45), 3) := by decide +kernel
theorem dX11_foe_67 : decode cX11_foe 67 = .ok (.iload_n 1, 1) := by decide +kernel
theorem dX11_foe_68 : decode cX11_foe 68 = .ok (.ireturn, 1) := by decide +kernel
theorem dX11_unsafe_0 : decode cX11_unsafe 0 = .ok (.aload_n 0, 1) := by decide +kernel
theorem dX11_unsafe_1 : decode cX11_unsafe 1 = .ok (.invokevirtual 302, 3) := by decide +kernel
theorem dX11_unsafe_4 : decode cX11_unsafe 4 = .ok (.ifCond .ne 6, 3) := by decide +kernel
theorem dX11_unsafe_7 : decode cX11_unsafe 7 = .ok (.bipush (-2), 2) := by decide +kernel
theorem dX11_unsafe_9 : decode cX11_unsafe 9 = .ok (.ireturn, 1) := by decide +kernel
theorem dX11_unsafe_10 : decode cX11_unsafe 10 = .ok (.iconst 0, 1) := by decide +kernel
theorem dX11_unsafe_11 : decode cX11_unsafe 11 = .ok (.istore_n 1, 1) := by decide +kernel
theorem dX11_unsafe_12 : decode cX11_unsafe 12 = .ok (.iconst 0, 1) := by decide +kernel
theorem dX11_unsafe_13 : decode cX11_unsafe 13 = .ok (.istore_n 2, 1) := by decide +kernel
theorem dX11_unsafe_14 : decode cX11_unsafe 14 = .ok (.iload_n 2, 1) := by decide +kernel
theorem dX11_unsafe_15 : decode cX11_unsafe 15 = .ok (.aload_n 0, 1) := by decide +kernel
theorem dX11_unsafe_16 : decode cX11_unsafe 16 = .ok (.invokevirtual 98, 3) := by decide +kernel
theorem dX11_unsafe_19 : decode cX11_unsafe 19 = .ok (.if_icmp .ge 48, 3) := by decide +kernel
theorem dX11_unsafe_22 : decode cX11_unsafe 22 = .ok (.iload_n 1, 1) := by decide +kernel
theorem dX11_unsafe_23 : decode cX11_unsafe 23 = .ok (.aload_n 0, 1) := by decide +kernel
theorem dX11_unsafe_24 : decode cX11_unsafe 24 = .ok (.iload_n 2, 1) := by decide +kernel
theorem dX11_unsafe_25 : decode cX11_unsafe 25 = .ok (.invokevirtual 288, 3) := by decide +kernel
theorem dX11_unsafe_28 : decode cX11_unsafe 28 = .ok (.ifCond .ne 30, 3) := by decide +kernel
theorem dX11_unsafe_31 : decode cX11_unsafe 31 = .ok (.aload_n 0, 1) := by decide +kernel
theorem dX11_unsafe_32 : decode cX11_unsafe 32 = .ok (.iload_n 2, 1) := by decide +kernel
theorem dX11_unsafe_33 : decode cX11_unsafe 33 = .ok (.invokevirtual 349, 3) := by decide +kernel
theorem dX11_unsafe_36 : decode cX11_unsafe 36 = .ok (.aload_n 0, 1) := by decide +kernel
theorem dX11_unsafe_37 : decode cX11_unsafe 37 = .ok (.getfield 9, 3) := by decide +kernel
theorem dX11_unsafe_40 : decode cX11_unsafe 40 = .ok (.iconst 2, 1) := by decide +kernel
theorem dX11_unsafe_41 : decode cX11_unsafe 41 = .ok (.iaload, 1) := by decide +kernel
theorem dX11_unsafe_42 : decode cX11_unsafe 42 = .ok (.i2l, 1) := by decide +kernel
theorem dX11_unsafe_43 : decode cX11_unsafe 43 = .ok (.aload_n 0, 1) := by decide +kernel
theorem dX11_unsafe_44 : decode cX11_unsafe 44 = .ok (.getfield 50, 3) := by decide +kernel
theorem dX11_unsafe_47 : decode cX11_unsafe 47 = .ok (.lmul, 1) := by decide +kernel
theorem dX11_unsafe_48 : decode cX11_unsafe 48 = .ok (.lcmp, 1) := by decide +kernel
theorem dX11_unsafe_49 : decode cX11_unsafe 49 = .ok (.ifCond .le 9, 3) := by decide +kernel
theorem dX11_unsafe_52 : decode cX11_unsafe 52 = .ok (.iconst 1, 1) := by decide +kernel
theorem dX11_unsafe_53 : decode cX11_unsafe 53 = .ok (.iload_n 2, 1) := by decide +kernel
theorem dX11_unsafe_54 : decode cX11_unsafe 54 = .ok (.ishl, 1) := by decide +kernel
theorem dX11_unsafe_55 : decode cX11_unsafe 55 = .ok (.goto 4, 3) := by decide +kernel
theorem dX11_unsafe_58 : decode cX11_unsafe 58 = .ok (.iconst 0, 1) := by decide +kernel
theorem dX11_unsafe_59 : decode cX11_unsafe 59 = .ok (.ior, 1) := by decide +kernel
theorem dX11_unsafe_60 : decode cX11_unsafe 60 = .ok (.istore_n 1, 1) := by decide +kernel
theorem dX11_unsafe_61 : decode cX11_unsafe 61 = .ok (.iinc 2 1, 3) := by decide +kernel
theorem dX11_unsafe_64 : decode cX11_unsafe 64 = .ok (.goto (-50), 3) := by decide +kernel
theorem dX11_unsafe_67 : decode cX11_unsafe 67 = .ok (.iload_n 1, 1) := by decide +kernel
theorem dX11_unsafe_68 : decode cX11_unsafe 68 = .ok (.ireturn, 1) := by decide +kernel
theorem dX11_heatOf_0 : decode cX11_heatOf 0 = .ok (.aload_n 0, 1) := by decide +kernel
theorem dX11_heatOf_1 : decode cX11_heatOf 1 = .ok (.getfield 9, 3) := by decide +kernel
theorem dX11_heatOf_4 : decode cX11_heatOf 4 = .ok (.bipush 28, 2) := by decide +kernel
theorem dX11_heatOf_6 : decode cX11_heatOf 6 = .ok (.iload_n 1, 1) := by decide +kernel
theorem dX11_heatOf_7 : decode cX11_heatOf 7 = .ok (.iadd, 1) := by decide +kernel
theorem dX11_heatOf_8 : decode cX11_heatOf 8 = .ok (.iaload, 1) := by decide +kernel
theorem dX11_heatOf_9 : decode cX11_heatOf 9 = .ok (.ifCond .ne 7, 3) := by decide +kernel
theorem dX11_heatOf_12 : decode cX11_heatOf 12 = .ok (.lconst 0, 1) := by decide +kernel
theorem dX11_heatOf_13 : decode cX11_heatOf 13 = .ok (.goto 33, 3) := by decide +kernel
theorem dX11_heatOf_16 : decode cX11_heatOf 16 = .ok (.aload_n 0, 1) := by decide +kernel
theorem dX11_heatOf_17 : decode cX11_heatOf 17 = .ok (.aload_n 0, 1) := by decide +kernel
theorem dX11_heatOf_18 : decode cX11_heatOf 18 = .ok (.getfield 26, 3) := by decide +kernel
theorem dX11_heatOf_21 : decode cX11_heatOf 21 = .ok (.iconst 2, 1) := by decide +kernel
theorem dX11_heatOf_22 : decode cX11_heatOf 22 = .ok (.iload_n 1, 1) := by decide +kernel
theorem dX11_heatOf_23 : decode cX11_heatOf 23 = .ok (.imul, 1) := by decide +kernel
theorem dX11_heatOf_24 : decode cX11_heatOf 24 = .ok (.iconst 1, 1) := by decide +kernel
theorem dX11_heatOf_25 : decode cX11_heatOf 25 = .ok (.iadd, 1) := by decide +kernel
theorem dX11_heatOf_26 : decode cX11_heatOf 26 = .ok (.iaload, 1) := by decide +kernel
theorem dX11_heatOf_27 : decode cX11_heatOf 27 = .ok (.invokevirtual 282, 3) := by decide +kernel
theorem dX11_heatOf_30 : decode cX11_heatOf 30 = .ok (.aload_n 0, 1) := by decide +kernel
theorem dX11_heatOf_31 : decode cX11_heatOf 31 = .ok (.aload_n 0, 1) := by decide +kernel
theorem dX11_heatOf_32 : decode cX11_heatOf 32 = .ok (.getfield 26, 3) := by decide +kernel
theorem dX11_heatOf_35 : decode cX11_heatOf 35 = .ok (.iconst 2, 1) := by decide +kernel
theorem dX11_heatOf_36 : decode cX11_heatOf 36 = .ok (.iload_n 1, 1) := by decide +kernel
theorem dX11_heatOf_37 : decode cX11_heatOf 37 = .ok (.imul, 1) := by decide +kernel
theorem dX11_heatOf_38 : decode cX11_heatOf 38 = .ok (.iaload, 1) := by decide +kernel
theorem dX11_heatOf_39 : decode cX11_heatOf 39 = .ok (.invokevirtual 282, 3) := by decide +kernel
theorem dX11_heatOf_42 : decode cX11_heatOf 42 = .ok (.lsub, 1) := by decide +kernel
theorem dX11_heatOf_43 : decode cX11_heatOf 43 = .ok (.invokestatic 75, 3) := by decide +kernel
theorem dX11_heatOf_46 : decode cX11_heatOf 46 = .ok (.lreturn, 1) := by decide +kernel
theorem dX11_heat_0 : decode cX11_heat 0 = .ok (.aload_n 0, 1) := by decide +kernel
theorem dX11_heat_1 : decode cX11_heat 1 = .ok (.iload_n 1, 1) := by decide +kernel
theorem dX11_heat_2 : decode cX11_heat 2 = .ok (.invokevirtual 305, 3) := by decide +kernel
theorem dX11_heat_5 : decode cX11_heat 5 = .ok (.ifCond .eq 10, 3) := by decide +kernel
theorem dX11_heat_8 : decode cX11_heat 8 = .ok (.iload_n 2, 1) := by decide +kernel
theorem dX11_heat_9 : decode cX11_heat 9 = .ok (.invokestatic 313, 3) := by decide +kernel
theorem dX11_heat_12 : decode cX11_heat 12 = .ok (.ifCond .ne 7, 3) := by decide +kernel
theorem dX11_heat_15 : decode cX11_heat 15 = .ok (.ldc2_w 316, 3) := by decide +kernel
theorem dX11_heat_18 : decode cX11_heat 18 = .ok (.lreturn, 1) := by decide +kernel
theorem dX11_heat_19 : decode cX11_heat 19 = .ok (.aload_n 0, 1) := by decide +kernel
theorem dX11_heat_20 : decode cX11_heat 20 = .ok (.invokevirtual 292, 3) := by decide +kernel
theorem dX11_heat_23 : decode cX11_heat 23 = .ok (.aload_n 0, 1) := by decide +kernel
theorem dX11_heat_24 : decode cX11_heat 24 = .ok (.iload_n 1, 1) := by decide +kernel
theorem dX11_heat_25 : decode cX11_heat 25 = .ok (.invokevirtual 352, 3) := by decide +kernel
theorem dX11_heat_28 : decode cX11_heat 28 = .ok (.aload_n 0, 1) := by decide +kernel
theorem dX11_heat_29 : decode cX11_heat 29 = .ok (.getfield 50, 3) := by decide +kernel
theorem dX11_heat_32 : decode cX11_heat 32 = .ok (.iload_n 2, 1) := by decide +kernel
theorem dX11_heat_33 : decode cX11_heat 33 = .ok (.invokestatic 320, 3) := by decide +kernel
theorem dX11_heat_36 : decode cX11_heat 36 = .ok (.lreturn, 1) := by decide +kernel
theorem dX11_hottest_0 : decode cX11_hottest 0 = .ok (.aload_n 0, 1) := by decide +kernel
theorem dX11_hottest_1 : decode cX11_hottest 1 = .ok (.invokevirtual 302, 3) := by decide +kernel
theorem dX11_hottest_4 : decode cX11_hottest 4 = .ok (.ifCond .ne 6, 3) := by decide +kernel
theorem dX11_hottest_7 : decode cX11_hottest 7 = .ok (.bipush (-2), 2) := by decide +kernel
theorem dX11_hottest_9 : decode cX11_hottest 9 = .ok (.ireturn, 1) := by decide +kernel
theorem dX11_hottest_10 : decode cX11_hottest 10 = .ok (.iconst (-1), 1) := by decide +kernel
theorem dX11_hottest_11 : decode cX11_hottest 11 = .ok (.istore_n 1, 1) := by decide +kernel
theorem dX11_hottest_12 : decode cX11_hottest 12 = .ok (.lconst 0, 1) := by decide +kernel
theorem dX11_hottest_13 : decode cX11_hottest 13 = .ok (.lstore_n 2, 1) := by decide +kernel
theorem dX11_hottest_14 : decode cX11_hottest 14 = .ok (.iconst 0, 1) := by decide +kernel
theorem dX11_hottest_15 : decode cX11_hottest 15 = .ok (.istore 4, 2) := by decide +kernel
theorem dX11_hottest_17 : decode cX11_hottest 17 = .ok (.iload 4, 2) := by decide +kernel
theorem dX11_hottest_19 : decode cX11_hottest 19 = .ok (.aload_n 0, 1) := by decide +kernel
theorem dX11_hottest_20 : decode cX11_hottest 20 = .ok (.getfield 102, 3) := by decide +kernel
theorem dX11_hottest_23 : decode cX11_hottest 23 = .ok (.if_icmp .ge 33, 3) := by decide +kernel
theorem dX11_hottest_26 : decode cX11_hottest 26 = .ok (.aload_n 0, 1) := by decide +kernel
theorem dX11_hottest_27 : decode cX11_hottest 27 = .ok (.iload 4, 2) := by decide +kernel
theorem dX11_hottest_29 : decode cX11_hottest 29 = .ok (.invokevirtual 352, 3) := by decide +kernel
theorem dX11_hottest_32 : decode cX11_hottest 32 = .ok (.lload_n 2, 1) := by decide +kernel
theorem dX11_hottest_33 : decode cX11_hottest 33 = .ok (.lcmp, 1) := by decide +kernel
theorem dX11_hottest_34 : decode cX11_hottest 34 = .ok (.ifCond .gt 6, 3) := by decide +kernel
theorem dX11_hottest_37 : decode cX11_hottest 37 = .ok (.goto 13, 3) := by decide +kernel
theorem dX11_hottest_40 : decode cX11_hottest 40 = .ok (.iload 4, 2) := by decide +kernel
theorem dX11_hottest_42 : decode cX11_hottest 42 = .ok (.istore_n 1, 1) := by decide +kernel
theorem dX11_hottest_43 : decode cX11_hottest 43 = .ok (.aload_n 0, 1) := by decide +kernel
theorem dX11_hottest_44 : decode cX11_hottest 44 = .ok (.iload 4, 2) := by decide +kernel
theorem dX11_hottest_46 : decode cX11_hottest 46 = .ok (.invokevirtual 352, 3) := by decide +kernel
theorem dX11_hottest_49 : decode cX11_hottest 49 = .ok (.lstore_n 2, 1) := by decide +kernel
theorem dX11_hottest_50 : decode cX11_hottest 50 = .ok (.iinc 4 1, 3) := by decide +kernel
theorem dX11_hottest_53 : decode cX11_hottest 53 = .ok (.goto (-36), 3) := by decide +kernel
theorem dX11_hottest_56 : decode cX11_hottest 56 = .ok (.iload_n 1, 1) := by decide +kernel
theorem dX11_hottest_57 : decode cX11_hottest 57 = .ok (.ireturn, 1) := by decide +kernel
theorem dX11_wears_0 : decode cX11_wears 0 = .ok (.aload_n 0, 1) := by decide +kernel
theorem dX11_wears_1 : decode cX11_wears 1 = .ok (.invokevirtual 292, 3) := by decide +kernel
theorem dX11_wears_4 : decode cX11_wears 4 = .ok (.iconst 0, 1) := by decide +kernel
theorem dX11_wears_5 : decode cX11_wears 5 = .ok (.istore_n 1, 1) := by decide +kernel
theorem dX11_wears_6 : decode cX11_wears 6 = .ok (.iconst 0, 1) := by decide +kernel
theorem dX11_wears_7 : decode cX11_wears 7 = .ok (.istore_n 2, 1) := by decide +kernel
theorem dX11_wears_8 : decode cX11_wears 8 = .ok (.iload_n 2, 1) := by decide +kernel
theorem dX11_wears_9 : decode cX11_wears 9 = .ok (.aload_n 0, 1) := by decide +kernel
theorem dX11_wears_10 : decode cX11_wears 10 = .ok (.getfield 102, 3) := by decide +kernel
theorem dX11_wears_13 : decode cX11_wears 13 = .ok (.if_icmp .ge 40, 3) := by decide +kernel
theorem dX11_wears_16 : decode cX11_wears 16 = .ok (.iload_n 1, 1) := by decide +kernel
theorem dX11_wears_17 : decode cX11_wears 17 = .ok (.aload_n 0, 1) := by decide +kernel
theorem dX11_wears_18 : decode cX11_wears 18 = .ok (.iload_n 2, 1) := by decide +kernel
theorem dX11_wears_19 : decode cX11_wears 19 = .ok (.invokevirtual 352, 3) := by decide +kernel
theorem dX11_wears_22 : decode cX11_wears 22 = .ok (.aload_n 0, 1) := by decide +kernel
theorem dX11_wears_23 : decode cX11_wears 23 = .ok (.getfield 9, 3) := by decide +kernel
theorem dX11_wears_26 : decode cX11_wears 26 = .ok (.iconst 3, 1) := by decide +kernel
theorem dX11_wears_27 : decode cX11_wears 27 = .ok (.iaload, 1) := by decide +kernel
theorem dX11_wears_28 : decode cX11_wears 28 = .ok (.i2l, 1) := by decide +kernel
theorem dX11_wears_29 : decode cX11_wears 29 = .ok (.aload_n 0, 1) := by decide +kernel
theorem dX11_wears_30 : decode cX11_wears 30 = .ok (.getfield 50, 3) := by decide +kernel
theorem dX11_wears_33 : decode cX11_wears 33 = .ok (.lmul, 1) := by decide +kernel
theorem dX11_wears_34 : decode cX11_wears 34 = .ok (.lcmp, 1) := by decide +kernel
theorem dX11_wears_35 : decode cX11_wears 35 = .ok (.ifCond .le 9, 3) := by decide +kernel
theorem dX11_wears_38 : decode cX11_wears 38 = .ok (.iconst 1, 1) := by decide +kernel
theorem dX11_wears_39 : decode cX11_wears 39 = .ok (.iload_n 2, 1) := by decide +kernel
theorem dX11_wears_40 : decode cX11_wears 40 = .ok (.ishl, 1) := by decide +kernel
theorem dX11_wears_41 : decode cX11_wears 41 = .ok (.goto 4, 3) := by decide +kernel
theorem dX11_wears_44 : decode cX11_wears 44 = .ok (.iconst 0, 1) := by decide +kernel
theorem dX11_wears_45 : decode cX11_wears 45 = .ok (.ior, 1) := by decide +kernel
theorem dX11_wears_46 : decode cX11_wears 46 = .ok (.istore_n 1, 1) := by decide +kernel
theorem dX11_wears_47 : decode cX11_wears 47 = .ok (.iinc 2 1, 3) := by decide +kernel
theorem dX11_wears_50 : decode cX11_wears 50 = .ok (.goto (-42), 3) := by decide +kernel
theorem dX11_wears_53 : decode cX11_wears 53 = .ok (.iload_n 1, 1) := by decide +kernel
theorem dX11_wears_54 : decode cX11_wears 54 = .ok (.ireturn, 1) := by decide +kernel
theorem dX11_wearing_0 : decode cX11_wearing 0 = .ok (.aload_n 0, 1) := by decide +kernel
theorem dX11_wearing_1 : decode cX11_wearing 1 = .ok (.invokevirtual 109, 3) := by decide +kernel
theorem dX11_wearing_4 : decode cX11_wearing 4 = .ok (.ifCond .eq 10, 3) := by decide +kernel
theorem dX11_wearing_7 : decode cX11_wearing 7 = .ok (.aload_n 0, 1) := by decide +kernel
theorem dX11_wearing_8 : decode cX11_wearing 8 = .ok (.invokevirtual 355, 3) := by decide +kernel
theorem dX11_wearing_11 : decode cX11_wearing 11 = .ok (.goto 5, 3) := by decide +kernel
theorem dX11_wearing_14 : decode cX11_wearing 14 = .ok (.bipush (-2), 2) := by decide +kernel
theorem dX11_wearing_16 : decode cX11_wearing 16 = .ok (.ireturn, 1) := by decide +kernel
theorem dX11_ages_0 : decode cX11_ages 0 = .ok (.aload_n 0, 1) := by decide +kernel
theorem dX11_ages_1 : decode cX11_ages 1 = .ok (.invokevirtual 355, 3) := by decide +kernel
theorem dX11_ages_4 : decode cX11_ages 4 = .ok (.istore_n 1, 1) := by decide +kernel
theorem dX11_ages_5 : decode cX11_ages 5 = .ok (.iconst 0, 1) := by decide +kernel
theorem dX11_ages_6 : decode cX11_ages 6 = .ok (.istore_n 2, 1) := by decide +kernel
theorem dX11_ages_7 : decode cX11_ages 7 = .ok (.iload_n 2, 1) := by decide +kernel
theorem dX11_ages_8 : decode cX11_ages 8 = .ok (.aload_n 0, 1) := by decide +kernel
theorem dX11_ages_9 : decode cX11_ages 9 = .ok (.getfield 102, 3) := by decide +kernel
theorem dX11_ages_12 : decode cX11_ages 12 = .ok (.if_icmp .ge 30, 3) := by decide +kernel
theorem dX11_ages_15 : decode cX11_ages 15 = .ok (.iload_n 1, 1) := by decide +kernel
theorem dX11_ages_16 : decode cX11_ages 16 = .ok (.iload_n 2, 1) := by decide +kernel
theorem dX11_ages_17 : decode cX11_ages 17 = .ok (.invokestatic 209, 3) := by decide +kernel
theorem dX11_ages_20 : decode cX11_ages 20 = .ok (.ifCond .eq 16, 3) := by decide +kernel
theorem dX11_ages_23 : decode cX11_ages 23 = .ok (.aload_n 0, 1) := by decide +kernel
theorem dX11_ages_24 : decode cX11_ages 24 = .ok (.getfield 9, 3) := by decide +kernel
theorem dX11_ages_27 : decode cX11_ages 27 = .ok (.bipush 28, 2) := by decide +kernel
theorem dX11_ages_29 : decode cX11_ages 29 = .ok (.iload_n 2, 1) := by decide +kernel
theorem dX11_ages_30 : decode cX11_ages 30 = .ok (.iadd, 1) := by decide +kernel
theorem dX11_ages_31 : decode cX11_ages 31 = .ok (.dup2, 1) := by decide +kernel
theorem dX11_ages_32 : decode cX11_ages 32 = .ok (.iaload, 1) := by decide +kernel
theorem dX11_ages_33 : decode cX11_ages 33 = .ok (.iconst 1, 1) := by decide +kernel
theorem dX11_ages_34 : decode cX11_ages 34 = .ok (.isub, 1) := by decide +kernel
theorem dX11_ages_35 : decode cX11_ages 35 = .ok (.iastore, 1) := by decide +kernel
theorem dX11_ages_36 : decode cX11_ages 36 = .ok (.iinc 2 1, 3) := by decide +kernel
theorem dX11_ages_39 : decode cX11_ages 39 = .ok (.goto (-32), 3) := by decide +kernel
theorem dX11_ages_42 : decode cX11_ages 42 = .ok (.iload_n 1, 1) := by decide +kernel
theorem dX11_ages_43 : decode cX11_ages 43 = .ok (.ireturn, 1) := by decide +kernel
theorem dX11_puts_0 : decode cX11_puts 0 = .ok (.iconst 0, 1) := by decide +kernel
theorem dX11_puts_1 : decode cX11_puts 1 = .ok (.istore_n 1, 1) := by decide +kernel
theorem dX11_puts_2 : decode cX11_puts 2 = .ok (.iload_n 1, 1) := by decide +kernel
theorem dX11_puts_3 : decode cX11_puts 3 = .ok (.bipush 40, 2) := by decide +kernel
theorem dX11_puts_5 : decode cX11_puts 5 = .ok (.if_icmp .ge 21, 3) := by decide +kernel
theorem dX11_puts_8 : decode cX11_puts 8 = .ok (.aload_n 0, 1) := by decide +kernel
theorem dX11_puts_9 : decode cX11_puts 9 = .ok (.getfield 63, 3) := by decide +kernel
theorem dX11_puts_12 : decode cX11_puts 12 = .ok (.iload_n 1, 1) := by decide +kernel
theorem dX11_puts_13 : decode cX11_puts 13 = .ok (.aload_n 0, 1) := by decide +kernel
theorem dX11_puts_14 : decode cX11_puts 14 = .ok (.getfield 9, 3) := by decide +kernel
theorem dX11_puts_17 : decode cX11_puts 17 = .ok (.iload_n 1, 1) := by decide +kernel
theorem dX11_puts_18 : decode cX11_puts 18 = .ok (.iaload, 1) := by decide +kernel
theorem dX11_puts_19 : decode cX11_puts 19 = .ok (.iastore, 1) := by decide +kernel
theorem dX11_puts_20 : decode cX11_puts 20 = .ok (.iinc 1 1, 3) := by decide +kernel
theorem dX11_puts_23 : decode cX11_puts 23 = .ok (.goto (-21), 3) := by decide +kernel
theorem dX11_puts_26 : decode cX11_puts 26 = .ok (.return_, 1) := by decide +kernel
theorem dX11_takesOut_0 : decode cX11_takesOut 0 = .ok (.iconst 0, 1) := by decide +kernel
theorem dX11_takesOut_1 : decode cX11_takesOut 1 = .ok (.istore_n 1, 1) := by decide +kernel
theorem dX11_takesOut_2 : decode cX11_takesOut 2 = .ok (.iload_n 1, 1) := by decide +kernel
theorem dX11_takesOut_3 : decode cX11_takesOut 3 = .ok (.bipush 40, 2) := by decide +kernel
theorem dX11_takesOut_5 : decode cX11_takesOut 5 = .ok (.if_icmp .ge 21, 3) := by decide +kernel
theorem dX11_takesOut_8 : decode cX11_takesOut 8 = .ok (.aload_n 0, 1) := by decide +kernel
theorem dX11_takesOut_9 : decode cX11_takesOut 9 = .ok (.getfield 9, 3) := by decide +kernel
theorem dX11_takesOut_12 : decode cX11_takesOut 12 = .ok (.iload_n 1, 1) := by decide +kernel
theorem dX11_takesOut_13 : decode cX11_takesOut 13 = .ok (.aload_n 0, 1) := by decide +kernel
theorem dX11_takesOut_14 : decode cX11_takesOut 14 = .ok (.getfield 63, 3) := by decide +kernel
theorem dX11_takesOut_17 : decode cX11_takesOut 17 = .ok (.iload_n 1, 1) := by decide +kernel
theorem dX11_takesOut_18 : decode cX11_takesOut 18 = .ok (.iaload, 1) := by decide +kernel
theorem dX11_takesOut_19 : decode cX11_takesOut 19 = .ok (.iastore, 1) := by decide +kernel
theorem dX11_takesOut_20 : decode cX11_takesOut 20 = .ok (.iinc 1 1, 3) := by decide +kernel
theorem dX11_takesOut_23 : decode cX11_takesOut 23 = .ok (.goto (-21), 3) := by decide +kernel
theorem dX11_takesOut_26 : decode cX11_takesOut 26 = .ok (.return_, 1) := by decide +kernel
theorem dX11_aged_0 : decode cX11_aged 0 = .ok (.iload_n 1, 1) := by decide +kernel
theorem dX11_aged_1 : decode cX11_aged 1 = .ok (.i2l, 1) := by decide +kernel
theorem dX11_aged_2 : decode cX11_aged 2 = .ok (.lconst 0, 1) := by decide +kernel
theorem dX11_aged_3 : decode cX11_aged 3 = .ok (.ldc2_w 358, 3) := by decide +kernel
theorem dX11_aged_6 : decode cX11_aged 6 = .ok (.invokestatic 87, 3) := by decide +kernel
theorem dX11_aged_9 : decode cX11_aged 9 = .ok (.ifCond .eq 11, 3) := by decide +kernel
theorem dX11_aged_12 : decode cX11_aged 12 = .ok (.aload_n 0, 1) := by decide +kernel
theorem dX11_aged_13 : decode cX11_aged 13 = .ok (.iload_n 2, 1) := by decide +kernel
theorem dX11_aged_14 : decode cX11_aged 14 = .ok (.invokevirtual 305, 3) := by decide +kernel
theorem dX11_aged_17 : decode cX11_aged 17 = .ok (.ifCond .ne 6, 3) := by decide +kernel
theorem dX11_aged_20 : decode cX11_aged 20 = .ok (.bipush (-2), 2) := by decide +kernel
theorem dX11_aged_22 : decode cX11_aged 22 = .ok (.ireturn, 1) := by decide +kernel
theorem dX11_aged_23 : decode cX11_aged 23 = .ok (.aload_n 0, 1) := by decide +kernel
theorem dX11_aged_24 : decode cX11_aged 24 = .ok (.invokevirtual 360, 3) := by decide +kernel
theorem dX11_aged_27 : decode cX11_aged 27 = .ok (.iconst 0, 1) := by decide +kernel
theorem dX11_aged_28 : decode cX11_aged 28 = .ok (.istore_n 3, 1) := by decide +kernel
theorem dX11_aged_29 : decode cX11_aged 29 = .ok (.iload_n 3, 1) := by decide +kernel
theorem dX11_aged_30 : decode cX11_aged 30 = .ok (.iload_n 1, 1) := by decide +kernel
theorem dX11_aged_31 : decode cX11_aged 31 = .ok (.if_icmp .ge 14, 3) := by decide +kernel
theorem dX11_aged_34 : decode cX11_aged 34 = .ok (.aload_n 0, 1) := by decide +kernel
theorem dX11_aged_35 : decode cX11_aged 35 = .ok (.invokevirtual 363, 3) := by decide +kernel
theorem dX11_aged_38 : decode cX11_aged 38 = .ok (.pop, 1) := by decide +kernel
theorem dX11_aged_39 : decode cX11_aged 39 = .ok (.iinc 3 1, 3) := by decide +kernel
theorem dX11_aged_42 : decode cX11_aged 42 = .ok (.goto (-13), 3) := by decide +kernel
theorem dX11_aged_45 : decode cX11_aged 45 = .ok (.aload_n 0, 1) := by decide +kernel
theorem dX11_aged_46 : decode cX11_aged 46 = .ok (.getfield 9, 3) := by decide +kernel
theorem dX11_aged_49 : decode cX11_aged 49 = .ok (.bipush 28, 2) := by decide +kernel
theorem dX11_aged_51 : decode cX11_aged 51 = .ok (.iload_n 2, 1) := by decide +kernel
theorem dX11_aged_52 : decode cX11_aged 52 = .ok (.iadd, 1) := by decide +kernel
theorem dX11_aged_53 : decode cX11_aged 53 = .ok (.iaload, 1) := by decide +kernel
theorem dX11_aged_54 : decode cX11_aged 54 = .ok (.istore_n 3, 1) := by decide +kernel
theorem dX11_aged_55 : decode cX11_aged 55 = .ok (.aload_n 0, 1) := by decide +kernel
theorem dX11_aged_56 : decode cX11_aged 56 = .ok (.invokevirtual 366, 3) := by decide +kernel
theorem dX11_aged_59 : decode cX11_aged 59 = .ok (.iload_n 3, 1) := by decide +kernel
theorem dX11_aged_60 : decode cX11_aged 60 = .ok (.ireturn, 1) := by decide +kernel
theorem dX11_lasts_0 : decode cX11_lasts 0 = .ok (.aload_n 0, 1) := by decide +kernel
theorem dX11_lasts_1 : decode cX11_lasts 1 = .ok (.invokevirtual 109, 3) := by decide +kernel
theorem dX11_lasts_4 : decode cX11_lasts 4 = .ok (.ifCond .ne 6, 3) := by decide +kernel
theorem dX11_lasts_7 : decode cX11_lasts 7 = .ok (.bipush (-2), 2) := by decide +kernel
theorem dX11_lasts_9 : decode cX11_lasts 9 = .ok (.ireturn, 1) := by decide +kernel
theorem dX11_lasts_10 : decode cX11_lasts 10 = .ok (.aload_n 0, 1) := by decide +kernel
theorem dX11_lasts_11 : decode cX11_lasts 11 = .ok (.invokevirtual 360, 3) := by decide +kernel
theorem dX11_lasts_14 : decode cX11_lasts 14 = .ok (.iconst 0, 1) := by decide +kernel
theorem dX11_lasts_15 : decode cX11_lasts 15 = .ok (.istore_n 1, 1) := by decide +kernel
theorem dX11_lasts_16 : decode cX11_lasts 16 = .ok (.aload_n 0, 1) := by decide +kernel
theorem dX11_lasts_17 : decode cX11_lasts 17 = .ok (.invokevirtual 334, 3) := by decide +kernel
theorem dX11_lasts_20 : decode cX11_lasts 20 = .ok (.istore_n 2, 1) := by decide +kernel
theorem dX11_lasts_21 : decode cX11_lasts 21 = .ok (.iload_n 2, 1) := by decide +kernel
theorem dX11_lasts_22 : decode cX11_lasts 22 = .ok (.ifCond .eq 21, 3) := by decide +kernel
theorem dX11_lasts_25 : decode cX11_lasts 25 = .ok (.aload_n 0, 1) := by decide +kernel
theorem dX11_lasts_26 : decode cX11_lasts 26 = .ok (.invokevirtual 363, 3) := by decide +kernel
theorem dX11_lasts_29 : decode cX11_lasts 29 = .ok (.ifCond .eq 14, 3) := by decide +kernel
theorem dX11_lasts_32 : decode cX11_lasts 32 = .ok (.iinc 1 1, 3) := by decide +kernel
theorem dX11_lasts_35 : decode cX11_lasts 35 = .ok (.aload_n 0, 1) := by decide +kernel
theorem dX11_lasts_36 : decode cX11_lasts 36 = .ok (.invokevirtual 334, 3) := by decide +kernel
theorem dX11_lasts_39 : decode cX11_lasts 39 = .ok (.istore_n 2, 1) := by decide +kernel
theorem dX11_lasts_40 : decode cX11_lasts 40 = .ok (.goto (-19), 3) := by decide +kernel
theorem dX11_lasts_43 : decode cX11_lasts 43 = .ok (.aload_n 0, 1) := by decide +kernel
theorem dX11_lasts_44 : decode cX11_lasts 44 = .ok (.invokevirtual 366, 3) := by decide +kernel
theorem dX11_lasts_47 : decode cX11_lasts 47 = .ok (.iload_n 2, 1) := by decide +kernel
theorem dX11_lasts_48 : decode cX11_lasts 48 = .ok (.ifCond .eq 7, 3) := by decide +kernel
theorem dX11_lasts_51 : decode cX11_lasts 51 = .ok (.iconst (-1), 1) := by decide +kernel
theorem dX11_lasts_52 : decode cX11_lasts 52 = .ok (.goto 4, 3) := by decide +kernel
theorem dX11_lasts_55 : decode cX11_lasts 55 = .ok (.iload_n 1, 1) := by decide +kernel
theorem dX11_lasts_56 : decode cX11_lasts 56 = .ok (.ireturn, 1) := by decide +kernel
theorem dX11_worn_0 : decode cX11_worn 0 = .ok (.aload_n 0, 1) := by decide +kernel
theorem dX11_worn_1 : decode cX11_worn 1 = .ok (.iload_n 1, 1) := by decide +kernel
theorem dX11_worn_2 : decode cX11_worn 2 = .ok (.invokevirtual 305, 3) := by decide +kernel
theorem dX11_worn_5 : decode cX11_worn 5 = .ok (.ifCond .ne 6, 3) := by decide +kernel
theorem dX11_worn_8 : decode cX11_worn 8 = .ok (.bipush (-2), 2) := by decide +kernel
theorem dX11_worn_10 : decode cX11_worn 10 = .ok (.ireturn, 1) := by decide +kernel
theorem dX11_worn_11 : decode cX11_worn 11 = .ok (.aload_n 0, 1) := by decide +kernel
theorem dX11_worn_12 : decode cX11_worn 12 = .ok (.invokevirtual 360, 3) := by decide +kernel
theorem dX11_worn_15 : decode cX11_worn 15 = .ok (.iconst 0, 1) := by decide +kernel
theorem dX11_worn_16 : decode cX11_worn 16 = .ok (.istore_n 2, 1) := by decide +kernel
theorem dX11_worn_17 : decode cX11_worn 17 = .ok (.aload_n 0, 1) := by decide +kernel
theorem dX11_worn_18 : decode cX11_worn 18 = .ok (.getfield 9, 3) := by decide +kernel
theorem dX11_worn_21 : decode cX11_worn 21 = .ok (.bipush 28, 2) := by decide +kernel
theorem dX11_worn_23 : decode cX11_worn 23 = .ok (.iload_n 1, 1) := by decide +kernel
theorem dX11_worn_24 : decode cX11_worn 24 = .ok (.iadd, 1) := by decide +kernel
theorem dX11_worn_25 : decode cX11_worn 25 = .ok (.iaload, 1) := by decide +kernel
theorem dX11_worn_26 : decode cX11_worn 26 = .ok (.ifCond .le 16, 3) := by decide +kernel
theorem dX11_worn_29 : decode cX11_worn 29 = .ok (.aload_n 0, 1) := by decide +kernel
theorem dX11_worn_30 : decode cX11_worn 30 = .ok (.invokevirtual 363, 3) := by decide +kernel
theorem dX11_worn_33 : decode cX11_worn 33 = .ok (.ifCond .eq 9, 3) := by decide +kernel
theorem dX11_worn_36 : decode cX11_worn 36 = .ok (.iinc 2 1, 3) := by decide +kernel
theorem dX11_worn_39 : decode cX11_worn 39 = .ok (.goto (-22), 3) := by decide +kernel
theorem dX11_worn_42 : decode cX11_worn 42 = .ok (.aload_n 0, 1) := by decide +kernel
theorem dX11_worn_43 : decode cX11_worn 43 = .ok (.getfield 9, 3) := by decide +kernel
theorem dX11_worn_46 : decode cX11_worn 46 = .ok (.bipush 28, 2) := by decide +kernel
theorem dX11_worn_48 : decode cX11_worn 48 = .ok (.iload_n 1, 1) := by decide +kernel
theorem dX11_worn_49 : decode cX11_worn 49 = .ok (.iadd, 1) := by decide +kernel
theorem dX11_worn_50 : decode cX11_worn 50 = .ok (.iaload, 1) := by decide +kernel
theorem dX11_worn_51 : decode cX11_worn 51 = .ok (.ifCond .ne 7, 3) := by decide +kernel
theorem dX11_worn_54 : decode cX11_worn 54 = .ok (.iconst 1, 1) := by decide +kernel
theorem dX11_worn_55 : decode cX11_worn 55 = .ok (.goto 4, 3) := by decide +kernel
theorem dX11_worn_58 : decode cX11_worn 58 = .ok (.iconst 0, 1) := by decide +kernel
theorem dX11_worn_59 : decode cX11_worn 59 = .ok (.istore_n 3, 1) := by decide +kernel
theorem dX11_worn_60 : decode cX11_worn 60 = .ok (.aload_n 0, 1) := by decide +kernel
theorem dX11_worn_61 : decode cX11_worn 61 = .ok (.invokevirtual 366, 3) := by decide +kernel
theorem dX11_worn_64 : decode cX11_worn 64 = .ok (.iload_n 3, 1) := by decide +kernel
theorem dX11_worn_65 : decode cX11_worn 65 = .ok (.ifCond .eq 7, 3) := by decide +kernel
theorem dX11_worn_68 : decode cX11_worn 68 = .ok (.iload_n 2, 1) := by decide +kernel
theorem dX11_worn_69 : decode cX11_worn 69 = .ok (.goto 4, 3) := by decide +kernel
theorem dX11_worn_72 : decode cX11_worn 72 = .ok (.iconst (-1), 1) := by decide +kernel
theorem dX11_worn_73 : decode cX11_worn 73 = .ok (.ireturn, 1) := by decide +kernel
theorem dX11_calms_0 : decode cX11_calms 0 = .ok (.aload_n 0, 1) := by decide +kernel
theorem dX11_calms_1 : decode cX11_calms 1 = .ok (.invokevirtual 109, 3) := by decide +kernel
theorem dX11_calms_4 : decode cX11_calms 4 = .ok (.ifCond .ne 6, 3) := by decide +kernel
theorem dX11_calms_7 : decode cX11_calms 7 = .ok (.bipush (-2), 2) := by decide +kernel
theorem dX11_calms_9 : decode cX11_calms 9 = .ok (.ireturn, 1) := by decide +kernel
theorem dX11_calms_10 : decode cX11_calms 10 = .ok (.aload_n 0, 1) := by decide +kernel
theorem dX11_calms_11 : decode cX11_calms 11 = .ok (.invokevirtual 360, 3) := by decide +kernel
theorem dX11_calms_14 : decode cX11_calms 14 = .ok (.iconst 0, 1) := by decide +kernel
theorem dX11_calms_15 : decode cX11_calms 15 = .ok (.istore_n 1, 1) := by decide +kernel
theorem dX11_calms_16 : decode cX11_calms 16 = .ok (.aload_n 0, 1) := by decide +kernel
theorem dX11_calms_17 : decode cX11_calms 17 = .ok (.invokevirtual 363, 3) := by decide +kernel
theorem dX11_calms_20 : decode cX11_calms 20 = .ok (.ifCond .eq 9, 3) := by decide +kernel
theorem dX11_calms_23 : decode cX11_calms 23 = .ok (.iinc 1 1, 3) := by decide +kernel
theorem dX11_calms_26 : decode cX11_calms 26 = .ok (.goto (-10), 3) := by decide +kernel
theorem dX11_calms_29 : decode cX11_calms 29 = .ok (.aload_n 0, 1) := by decide +kernel
theorem dX11_calms_30 : decode cX11_calms 30 = .ok (.invokevirtual 366, 3) := by decide +kernel
theorem dX11_calms_33 : decode cX11_calms 33 = .ok (.iload_n 1, 1) := by decide +kernel
theorem dX11_calms_34 : decode cX11_calms 34 = .ok (.ireturn, 1) := by decide +kernel
theorem dX11_scores_0 : decode cX11_scores 0 = .ok (.aload_n 0, 1) := by decide +kernel
theorem dX11_scores_1 : decode cX11_scores 1 = .ok (.invokevirtual 292, 3) := by decide +kernel
theorem dX11_scores_4 : decode cX11_scores 4 = .ok (.aload_n 0, 1) := by decide +kernel
theorem dX11_scores_5 : decode cX11_scores 5 = .ok (.invokevirtual 295, 3) := by decide +kernel
theorem dX11_scores_8 : decode cX11_scores 8 = .ok (.aload_n 0, 1) := by decide +kernel
theorem dX11_scores_9 : decode cX11_scores 9 = .ok (.getfield 369, 3) := by decide +kernel
theorem dX11_scores_12 : decode cX11_scores 12 = .ok (.if_icmp .eq 20, 3) := by decide +kernel
theorem dX11_scores_15 : decode cX11_scores 15 = .ok (.aload_n 0, 1) := by decide +kernel
theorem dX11_scores_16 : decode cX11_scores 16 = .ok (.invokevirtual 295, 3) := by decide +kernel
theorem dX11_scores_19 : decode cX11_scores 19 = .ok (.aload_n 0, 1) := by decide +kernel
theorem dX11_scores_20 : decode cX11_scores 20 = .ok (.getfield 369, 3) := by decide +kernel
theorem dX11_scores_23 : decode cX11_scores 23 = .ok (.if_icmp .ge 7, 3) := by decide +kernel
theorem dX11_scores_26 : decode cX11_scores 26 = .ok (.iconst (-1), 1) := by decide +kernel
theorem dX11_scores_27 : decode cX11_scores 27 = .ok (.goto 4, 3) := by decide +kernel
theorem dX11_scores_30 : decode cX11_scores 30 = .ok (.iconst 1, 1) := by decide +kernel
theorem dX11_scores_31 : decode cX11_scores 31 = .ok (.ireturn, 1) := by decide +kernel
theorem dX11_scores_32 : decode cX11_scores 32 = .ok (.aload_n 0, 1) := by decide +kernel
theorem dX11_scores_33 : decode cX11_scores 33 = .ok (.invokevirtual 298, 3) := by decide +kernel
theorem dX11_scores_36 : decode cX11_scores 36 = .ok (.aload_n 0, 1) := by decide +kernel
theorem dX11_scores_37 : decode cX11_scores 37 = .ok (.getfield 50, 3) := by decide +kernel
theorem dX11_scores_40 : decode cX11_scores 40 = .ok (.aload_n 0, 1) := by decide +kernel
theorem dX11_scores_41 : decode cX11_scores 41 = .ok (.getfield 372, 3) := by decide +kernel
theorem dX11_scores_44 : decode cX11_scores 44 = .ok (.aload_n 0, 1) := by decide +kernel
theorem dX11_scores_45 : decode cX11_scores 45 = .ok (.getfield 375, 3) := by decide +kernel
theorem dX11_scores_48 : decode cX11_scores 48 = .ok (.invokestatic 378, 3) := by decide +kernel
theorem dX11_scores_51 : decode cX11_scores 51 = .ok (.ireturn, 1) := by decide +kernel
theorem dX11_keeps_0 : decode cX11_keeps 0 = .ok (.aload_n 0, 1) := by decide +kernel
theorem dX11_keeps_1 : decode cX11_keeps 1 = .ok (.aload_n 0, 1) := by decide +kernel
theorem dX11_keeps_2 : decode cX11_keeps 2 = .ok (.invokevirtual 295, 3) := by decide +kernel
theorem dX11_keeps_5 : decode cX11_keeps 5 = .ok (.putfield 369, 3) := by decide +kernel
theorem dX11_keeps_8 : decode cX11_keeps 8 = .ok (.aload_n 0, 1) := by decide +kernel
theorem dX11_keeps_9 : decode cX11_keeps 9 = .ok (.aload_n 0, 1) := by decide +kernel
theorem dX11_keeps_10 : decode cX11_keeps 10 = .ok (.invokevirtual 298, 3) := by decide +kernel
theorem dX11_keeps_13 : decode cX11_keeps 13 = .ok (.putfield 372, 3) := by decide +kernel
theorem dX11_keeps_16 : decode cX11_keeps 16 = .ok (.aload_n 0, 1) := by decide +kernel
theorem dX11_keeps_17 : decode cX11_keeps 17 = .ok (.aload_n 0, 1) := by decide +kernel
theorem dX11_keeps_18 : decode cX11_keeps 18 = .ok (.getfield 50, 3) := by decide +kernel
theorem dX11_keeps_21 : decode cX11_keeps 21 = .ok (.putfield 375, 3) := by decide +kernel
theorem dX11_keeps_24 : decode cX11_keeps 24 = .ok (.return_, 1) := by decide +kernel
theorem dX11_beginsWith_0 : decode cX11_beginsWith 0 = .ok (.aload_n 0, 1) := by decide +kernel
theorem dX11_beginsWith_1 : decode cX11_beginsWith 1 = .ok (.invokevirtual 292, 3) := by decide +kernel
theorem dX11_beginsWith_4 : decode cX11_beginsWith 4 = .ok (.aload_n 0, 1) := by decide +kernel
theorem dX11_beginsWith_5 : decode cX11_beginsWith 5 = .ok (.invokevirtual 382, 3) := by decide +kernel
theorem dX11_beginsWith_8 : decode cX11_beginsWith 8 = .ok (.return_, 1) := by decide +kernel
theorem dX11_beginsWithout_0 : decode cX11_beginsWithout 0 = .ok (.aload_n 0, 1) := by decide +kernel
theorem dX11_beginsWithout_1 : decode cX11_beginsWithout 1 = .ok (.bipush 10, 2) := by decide +kernel
theorem dX11_beginsWithout_3 : decode cX11_beginsWithout 3 = .ok (.putfield 369, 3) := by decide +kernel
theorem dX11_beginsWithout_6 : decode cX11_beginsWithout 6 = .ok (.aload_n 0, 1) := by decide +kernel
theorem dX11_beginsWithout_7 : decode cX11_beginsWithout 7 = .ok (.lconst 0, 1) := by decide +kernel
theorem dX11_beginsWithout_8 : decode cX11_beginsWithout 8 = .ok (.putfield 372, 3) := by decide +kernel
theorem dX11_beginsWithout_11 : decode cX11_beginsWithout 11 = .ok (.aload_n 0, 1) := by decide +kernel
theorem dX11_beginsWithout_12 : decode cX11_beginsWithout 12 = .ok (.lconst 1, 1) := by decide +kernel
theorem dX11_beginsWithout_13 : decode cX11_beginsWithout 13 = .ok (.putfield 375, 3) := by decide +kernel
theorem dX11_beginsWithout_16 : decode cX11_beginsWithout 16 = .ok (.return_, 1) := by decide +kernel
theorem dX11_nextPad_0 : decode cX11_nextPad 0 = .ok (.aload_n 0, 1) := by decide +kernel
theorem dX11_nextPad_1 : decode cX11_nextPad 1 = .ok (.invokevirtual 385, 3) := by decide +kernel
theorem dX11_nextPad_4 : decode cX11_nextPad 4 = .ok (.iconst (-1), 1) := by decide +kernel
theorem dX11_nextPad_5 : decode cX11_nextPad 5 = .ok (.istore_n 1, 1) := by decide +kernel
theorem dX11_nextPad_6 : decode cX11_nextPad 6 = .ok (.iconst 0, 1) := by decide +kernel
theorem dX11_nextPad_7 : decode cX11_nextPad 7 = .ok (.istore_n 2, 1) := by decide +kernel
theorem dX11_nextPad_8 : decode cX11_nextPad 8 = .ok (.iload_n 2, 1) := by decide +kernel
theorem dX11_nextPad_9 : decode cX11_nextPad 9 = .ok (.aload_n 0, 1) := by decide +kernel
theorem dX11_nextPad_10 : decode cX11_nextPad 10 = .ok (.invokevirtual 98, 3) := by decide +kernel
theorem dX11_nextPad_13 : decode cX11_nextPad 13 = .ok (.if_icmp .ge 64, 3) := by decide +kernel
theorem dX11_nextPad_16 : decode cX11_nextPad 16 = .ok (.aload_n 0, 1) := by decide +kernel
theorem dX11_nextPad_17 : decode cX11_nextPad 17 = .ok (.getfield 9, 3) := by decide +kernel
theorem dX11_nextPad_20 : decode cX11_nextPad 20 = .ok (.iconst 5, 1) := by decide +kernel
theorem dX11_nextPad_21 : decode cX11_nextPad 21 = .ok (.iaload, 1) := by decide +kernel
theorem dX11_nextPad_22 : decode cX11_nextPad 22 = .ok (.iload_n 2, 1) := by decide +kernel
theorem dX11_nextPad_23 : decode cX11_nextPad 23 = .ok (.invokestatic 209, 3) := by decide +kernel
theorem dX11_nextPad_26 : decode cX11_nextPad 26 = .ok (.ifCond .eq 6, 3) := by decide +kernel
theorem dX11_nextPad_29 : decode cX11_nextPad 29 = .ok (.goto 42, 3) := by decide +kernel
theorem dX11_nextPad_32 : decode cX11_nextPad 32 = .ok (.aload_n 0, 1) := by decide +kernel
theorem dX11_nextPad_33 : decode cX11_nextPad 33 = .ok (.getfield 9, 3) := by decide +kernel
theorem dX11_nextPad_36 : decode cX11_nextPad 36 = .ok (.iconst 5, 1) := by decide +kernel
theorem dX11_nextPad_37 : decode cX11_nextPad 37 = .ok (.dup2, 1) := by decide +kernel
theorem dX11_nextPad_38 : decode cX11_nextPad 38 = .ok (.iaload, 1) := by decide +kernel
theorem dX11_nextPad_39 : decode cX11_nextPad 39 = .ok (.iconst 1, 1) := by decide +kernel
theorem dX11_nextPad_40 : decode cX11_nextPad 40 = .ok (.iload_n 2, 1) := by decide +kernel
theorem dX11_nextPad_41 : decode cX11_nextPad 41 = .ok (.ishl, 1) := by decide +kernel
theorem dX11_nextPad_42 : decode cX11_nextPad 42 = .ok (.ior, 1) := by decide +kernel
theorem dX11_nextPad_43 : decode cX11_nextPad 43 = .ok (.iastore, 1) := by decide +kernel
theorem dX11_nextPad_44 : decode cX11_nextPad 44 = .ok (.aload_n 0, 1) := by decide +kernel
theorem dX11_nextPad_45 : decode cX11_nextPad 45 = .ok (.invokevirtual 388, 3) := by decide +kernel
theorem dX11_nextPad_48 : decode cX11_nextPad 48 = .ok (.ifCond .ge 9, 3) := by decide +kernel
theorem dX11_nextPad_51 : decode cX11_nextPad 51 = .ok (.iload_n 2, 1) := by decide +kernel
theorem dX11_nextPad_52 : decode cX11_nextPad 52 = .ok (.istore_n 1, 1) := by decide +kernel
theorem dX11_nextPad_53 : decode cX11_nextPad 53 = .ok (.aload_n 0, 1) := by decide +kernel
theorem dX11_nextPad_54 : decode cX11_nextPad 54 = .ok (.invokevirtual 382, 3) := by decide +kernel
theorem dX11_nextPad_57 : decode cX11_nextPad 57 = .ok (.aload_n 0, 1) := by decide +kernel
theorem dX11_nextPad_58 : decode cX11_nextPad 58 = .ok (.getfield 9, 3) := by decide +kernel
theorem dX11_nextPad_61 : decode cX11_nextPad 61 = .ok (.iconst 5, 1) := by decide +kernel
theorem dX11_nextPad_62 : decode cX11_nextPad 62 = .ok (.dup2, 1) := by decide +kernel
theorem dX11_nextPad_63 : decode cX11_nextPad 63 = .ok (.iaload, 1) := by decide +kernel
theorem dX11_nextPad_64 : decode cX11_nextPad 64 = .ok (.iconst 1, 1) := by decide +kernel
theorem dX11_nextPad_65 : decode cX11_nextPad 65 = .ok (.iload_n 2, 1) := by decide +kernel
theorem dX11_nextPad_66 : decode cX11_nextPad 66 = .ok (.ishl, 1) := by decide +kernel
theorem dX11_nextPad_67 : decode cX11_nextPad 67 = .ok (.iconst (-1), 1) := by decide +kernel
theorem dX11_nextPad_68 : decode cX11_nextPad 68 = .ok (.ixor, 1) := by decide +kernel
theorem dX11_nextPad_69 : decode cX11_nextPad 69 = .ok (.iand, 1) := by decide +kernel
theorem dX11_nextPad_70 : decode cX11_nextPad 70 = .ok (.iastore, 1) := by decide +kernel
theorem dX11_nextPad_71 : decode cX11_nextPad 71 = .ok (.iinc 2 1, 3) := by decide +kernel
theorem dX11_nextPad_74 : decode cX11_nextPad 74 = .ok (.goto (-66), 3) := by decide +kernel
theorem dX11_nextPad_77 : decode cX11_nextPad 77 = .ok (.iload_n 1, 1) := by decide +kernel
theorem dX11_nextPad_78 : decode cX11_nextPad 78 = .ok (.ireturn, 1) := by decide +kernel
theorem dX11_pad_0 : decode cX11_pad 0 = .ok (.aload_n 0, 1) := by decide +kernel
theorem dX11_pad_1 : decode cX11_pad 1 = .ok (.invokevirtual 109, 3) := by decide +kernel
theorem dX11_pad_4 : decode cX11_pad 4 = .ok (.ifCond .eq 7, 3) := by decide +kernel
theorem dX11_pad_7 : decode cX11_pad 7 = .ok (.iload_n 1, 1) := by decide +kernel
theorem dX11_pad_8 : decode cX11_pad 8 = .ok (.ifCond .ge 6, 3) := by decide +kernel
theorem dX11_pad_11 : decode cX11_pad 11 = .ok (.bipush (-2), 2) := by decide +kernel
theorem dX11_pad_13 : decode cX11_pad 13 = .ok (.ireturn, 1) := by decide +kernel
theorem dX11_pad_14 : decode cX11_pad 14 = .ok (.aload_n 0, 1) := by decide +kernel
theorem dX11_pad_15 : decode cX11_pad 15 = .ok (.invokevirtual 360, 3) := by decide +kernel
theorem dX11_pad_18 : decode cX11_pad 18 = .ok (.aload_n 0, 1) := by decide +kernel
theorem dX11_pad_19 : decode cX11_pad 19 = .ok (.invokevirtual 391, 3) := by decide +kernel
theorem dX11_pad_22 : decode cX11_pad 22 = .ok (.istore_n 2, 1) := by decide +kernel
theorem dX11_pad_23 : decode cX11_pad 23 = .ok (.iconst 0, 1) := by decide +kernel
theorem dX11_pad_24 : decode cX11_pad 24 = .ok (.istore_n 3, 1) := by decide +kernel
theorem dX11_pad_25 : decode cX11_pad 25 = .ok (.iload_n 3, 1) := by decide +kernel
theorem dX11_pad_26 : decode cX11_pad 26 = .ok (.iload_n 1, 1) := by decide +kernel
theorem dX11_pad_27 : decode cX11_pad 27 = .ok (.if_icmp .ge 31, 3) := by decide +kernel
theorem dX11_pad_30 : decode cX11_pad 30 = .ok (.iload_n 2, 1) := by decide +kernel
theorem dX11_pad_31 : decode cX11_pad 31 = .ok (.iconst (-1), 1) := by decide +kernel
theorem dX11_pad_32 : decode cX11_pad 32 = .ok (.if_icmp .eq 26, 3) := by decide +kernel
theorem dX11_pad_35 : decode cX11_pad 35 = .ok (.aload_n 0, 1) := by decide +kernel
theorem dX11_pad_36 : decode cX11_pad 36 = .ok (.getfield 9, 3) := by decide +kernel
theorem dX11_pad_39 : decode cX11_pad 39 = .ok (.iconst 5, 1) := by decide +kernel
theorem dX11_pad_40 : decode cX11_pad 40 = .ok (.dup2, 1) := by decide +kernel
theorem dX11_pad_41 : decode cX11_pad 41 = .ok (.iaload, 1) := by decide +kernel
theorem dX11_pad_42 : decode cX11_pad 42 = .ok (.iconst 1, 1) := by decide +kernel
theorem dX11_pad_43 : decode cX11_pad 43 = .ok (.iload_n 2, 1) := by decide +kernel
theorem dX11_pad_44 : decode cX11_pad 44 = .ok (.ishl, 1) := by decide +kernel
theorem dX11_pad_45 : decode cX11_pad 45 = .ok (.ior, 1) := by decide +kernel
theorem dX11_pad_46 : decode cX11_pad 46 = .ok (.iastore, 1) := by decide +kernel
theorem dX11_pad_47 : decode cX11_pad 47 = .ok (.aload_n 0, 1) := by decide +kernel
theorem dX11_pad_48 : decode cX11_pad 48 = .ok (.invokevirtual 391, 3) := by decide +kernel
theorem dX11_pad_51 : decode cX11_pad 51 = .ok (.istore_n 2, 1) := by decide +kernel
theorem dX11_pad_52 : decode cX11_pad 52 = .ok (.iinc 3 1, 3) := by decide +kernel
theorem dX11_pad_55 : decode cX11_pad 55 = .ok (.goto (-30), 3) := by decide +kernel
theorem dX11_pad_58 : decode cX11_pad 58 = .ok (.aload_n 0, 1) := by decide +kernel
theorem dX11_pad_59 : decode cX11_pad 59 = .ok (.invokevirtual 366, 3) := by decide +kernel
theorem dX11_pad_62 : decode cX11_pad 62 = .ok (.iload_n 2, 1) := by decide +kernel
theorem dX11_pad_63 : decode cX11_pad 63 = .ok (.ireturn, 1) := by decide +kernel
theorem dX11_bestPads_0 : decode cX11_bestPads 0 = .ok (.aload_n 0, 1) := by decide +kernel
theorem dX11_bestPads_1 : decode cX11_bestPads 1 = .ok (.invokevirtual 385, 3) := by decide +kernel
theorem dX11_bestPads_4 : decode cX11_bestPads 4 = .ok (.iconst (-1), 1) := by decide +kernel
theorem dX11_bestPads_5 : decode cX11_bestPads 5 = .ok (.istore_n 2, 1) := by decide +kernel
theorem dX11_bestPads_6 : decode cX11_bestPads 6 = .ok (.aload_n 0, 1) := by decide +kernel
theorem dX11_bestPads_7 : decode cX11_bestPads 7 = .ok (.getfield 9, 3) := by decide +kernel
theorem dX11_bestPads_10 : decode cX11_bestPads 10 = .ok (.iconst 5, 1) := by decide +kernel
theorem dX11_bestPads_11 : decode cX11_bestPads 11 = .ok (.iaload, 1) := by decide +kernel
theorem dX11_bestPads_12 : decode cX11_bestPads 12 = .ok (.istore_n 3, 1) := by decide +kernel
theorem dX11_bestPads_13 : decode cX11_bestPads 13 = .ok (.iconst 0, 1) := by decide +kernel
theorem dX11_bestPads_14 : decode cX11_bestPads 14 = .ok (.istore 4, 2) := by decide +kernel
theorem dX11_bestPads_16 : decode cX11_bestPads 16 = .ok (.iload 4, 2) := by decide +kernel
theorem dX11_bestPads_18 : decode cX11_bestPads 18 = .ok (.sipush 512, 3) := by decide +kernel
theorem dX11_bestPads_21 : decode cX11_bestPads 21 = .ok (.if_icmp .ge 63, 3) := by decide +kernel
theorem dX11_bestPads_24 : decode cX11_bestPads 24 = .ok (.iload 4, 2) := by decide +kernel
theorem dX11_bestPads_26 : decode cX11_bestPads 26 = .ok (.iconst 1, 1) := by decide +kernel
theorem dX11_bestPads_27 : decode cX11_bestPads 27 = .ok (.aload_n 0, 1) := by decide +kernel
theorem dX11_bestPads_28 : decode cX11_bestPads 28 = .ok (.invokevirtual 98, 3) := by decide +kernel
theorem dX11_bestPads_31 : decode cX11_bestPads 31 = .ok (.ishl, 1) := by decide +kernel
theorem dX11_bestPads_32 : decode cX11_bestPads 32 = .ok (.if_icmp .ge 46, 3) := by decide +kernel
theorem dX11_bestPads_35 : decode cX11_bestPads 35 = .ok (.iload 4, 2) := by decide +kernel
theorem dX11_bestPads_37 : decode cX11_bestPads 37 = .ok (.invokestatic 394, 3) := by decide +kernel
theorem dX11_bestPads_40 : decode cX11_bestPads 40 = .ok (.iload_n 1, 1) := by decide +kernel
theorem dX11_bestPads_41 : decode cX11_bestPads 41 = .ok (.if_icmp .ne 37, 3) := by decide +kernel
theorem dX11_bestPads_44 : decode cX11_bestPads 44 = .ok (.iload 4, 2) := by decide +kernel
theorem dX11_bestPads_46 : decode cX11_bestPads 46 = .ok (.iload_n 3, 1) := by decide +kernel
theorem dX11_bestPads_47 : decode cX11_bestPads 47 = .ok (.iand, 1) := by decide +kernel
theorem dX11_bestPads_48 : decode cX11_bestPads 48 = .ok (.ifCond .eq 6, 3) := by decide +kernel
theorem dX11_bestPads_51 : decode cX11_bestPads 51 = .ok (.goto 27, 3) := by decide +kernel
theorem dX11_bestPads_54 : decode cX11_bestPads 54 = .ok (.aload_n 0, 1) := by decide +kernel
theorem dX11_bestPads_55 : decode cX11_bestPads 55 = .ok (.getfield 9, 3) := by decide +kernel
theorem dX11_bestPads_58 : decode cX11_bestPads 58 = .ok (.iconst 5, 1) := by decide +kernel
theorem dX11_bestPads_59 : decode cX11_bestPads 59 = .ok (.iload_n 3, 1) := by decide +kernel
theorem dX11_bestPads_60 : decode cX11_bestPads 60 = .ok (.iload 4, 2) := by decide +kernel
theorem dX11_bestPads_62 : decode cX11_bestPads 62 = .ok (.ior, 1) := by decide +kernel
theorem dX11_bestPads_63 : decode cX11_bestPads 63 = .ok (.iastore, 1) := by decide +kernel
theorem dX11_bestPads_64 : decode cX11_bestPads 64 = .ok (.aload_n 0, 1) := by decide +kernel
theorem dX11_bestPads_65 : decode cX11_bestPads 65 = .ok (.invokevirtual 388, 3) := by decide +kernel
theorem dX11_bestPads_68 : decode cX11_bestPads 68 = .ok (.ifCond .ge 10, 3) := by decide +kernel
theorem dX11_bestPads_71 : decode cX11_bestPads 71 = .ok (.iload 4, 2) := by decide +kernel
theorem dX11_bestPads_73 : decode cX11_bestPads 73 = .ok (.istore_n 2, 1) := by decide +kernel
theorem dX11_bestPads_74 : decode cX11_bestPads 74 = .ok (.aload_n 0, 1) := by decide +kernel
theorem dX11_bestPads_75 : decode cX11_bestPads 75 = .ok (.invokevirtual 382, 3) := by decide +kernel
theorem dX11_bestPads_78 : decode cX11_bestPads 78 = .ok (.iinc 4 1, 3) := by decide +kernel
theorem dX11_bestPads_81 : decode cX11_bestPads 81 = .ok (.goto (-65), 3) := by decide +kernel
theorem dX11_bestPads_84 : decode cX11_bestPads 84 = .ok (.aload_n 0, 1) := by decide +kernel
theorem dX11_bestPads_85 : decode cX11_bestPads 85 = .ok (.getfield 9, 3) := by decide +kernel
theorem dX11_bestPads_88 : decode cX11_bestPads 88 = .ok (.iconst 5, 1) := by decide +kernel
theorem dX11_bestPads_89 : decode cX11_bestPads 89 = .ok (.iload_n 3, 1) := by decide +kernel
theorem dX11_bestPads_90 : decode cX11_bestPads 90 = .ok (.iastore, 1) := by decide +kernel
theorem dX11_bestPads_91 : decode cX11_bestPads 91 = .ok (.iload_n 2, 1) := by decide +kernel
theorem dX11_bestPads_92 : decode cX11_bestPads 92 = .ok (.ireturn, 1) := by decide +kernel
theorem dX11_pads_0 : decode cX11_pads 0 = .ok (.aload_n 0, 1) := by decide +kernel
theorem dX11_pads_1 : decode cX11_pads 1 = .ok (.invokevirtual 109, 3) := by decide +kernel
theorem dX11_pads_4 : decode cX11_pads 4 = .ok (.ifCond .eq 23, 3) := by decide +kernel
theorem dX11_pads_7 : decode cX11_pads 7 = .ok (.iload_n 1, 1) := by decide +kernel
theorem dX11_pads_8 : decode cX11_pads 8 = .ok (.i2l, 1) := by decide +kernel
theorem dX11_pads_9 : decode cX11_pads 9 = .ok (.lconst 0, 1) := by decide +kernel
theorem dX11_pads_10 : decode cX11_pads 10 = .ok (.ldc2_w 200, 3) := by decide +kernel
theorem dX11_pads_13 : decode cX11_pads 13 = .ok (.invokestatic 87, 3) := by decide +kernel
theorem dX11_pads_16 : decode cX11_pads 16 = .ok (.ifCond .eq 11, 3) := by decide +kernel
theorem dX11_pads_19 : decode cX11_pads 19 = .ok (.aload_n 0, 1) := by decide +kernel
theorem dX11_pads_20 : decode cX11_pads 20 = .ok (.iload_n 1, 1) := by decide +kernel
theorem dX11_pads_21 : decode cX11_pads 21 = .ok (.invokevirtual 397, 3) := by decide +kernel
theorem dX11_pads_24 : decode cX11_pads 24 = .ok (.goto 5, 3) := by decide +kernel
theorem dX11_pads_27 : decode cX11_pads 27 = .ok (.bipush (-2), 2) := by decide +kernel
theorem dX11_pads_29 : decode cX11_pads 29 = .ok (.ireturn, 1) := by decide +kernel
theorem dX11_padded_0 : decode cX11_padded 0 = .ok (.aload_n 0, 1) := by decide +kernel
theorem dX11_padded_1 : decode cX11_padded 1 = .ok (.invokevirtual 109, 3) := by decide +kernel
theorem dX11_padded_4 : decode cX11_padded 4 = .ok (.ifCond .eq 22, 3) := by decide +kernel
theorem dX11_padded_7 : decode cX11_padded 7 = .ok (.iload_n 1, 1) := by decide +kernel
theorem dX11_padded_8 : decode cX11_padded 8 = .ok (.i2l, 1) := by decide +kernel
theorem dX11_padded_9 : decode cX11_padded 9 = .ok (.lconst 0, 1) := by decide +kernel
theorem dX11_padded_10 : decode cX11_padded 10 = .ok (.ldc2_w 200, 3) := by decide +kernel
theorem dX11_padded_13 : decode cX11_padded 13 = .ok (.invokestatic 87, 3) := by decide +kernel
theorem dX11_padded_16 : decode cX11_padded 16 = .ok (.ifCond .eq 10, 3) := by decide +kernel
theorem dX11_padded_19 : decode cX11_padded 19 = .ok (.iload_n 2, 1) := by decide +kernel
theorem dX11_padded_20 : decode cX11_padded 20 = .ok (.invokestatic 313, 3) := by decide +kernel
theorem dX11_padded_23 : decode cX11_padded 23 = .ok (.ifCond .ne 7, 3) := by decide +kernel
theorem dX11_padded_26 : decode cX11_padded 26 = .ok (.ldc2_w 316, 3) := by decide +kernel
theorem dX11_padded_29 : decode cX11_padded 29 = .ok (.lreturn, 1) := by decide +kernel
theorem dX11_padded_30 : decode cX11_padded 30 = .ok (.aload_n 0, 1) := by decide +kernel
theorem dX11_padded_31 : decode cX11_padded 31 = .ok (.iload_n 1, 1) := by decide +kernel
theorem dX11_padded_32 : decode cX11_padded 32 = .ok (.invokevirtual 397, 3) := by decide +kernel
theorem dX11_padded_35 : decode cX11_padded 35 = .ok (.iconst (-1), 1) := by decide +kernel
theorem dX11_padded_36 : decode cX11_padded 36 = .ok (.if_icmp .ne 9, 3) := by decide +kernel
theorem dX11_padded_39 : decode cX11_padded 39 = .ok (.ldc2_w 318, 3) := by decide +kernel
theorem dX11_padded_42 : decode cX11_padded 42 = .ok (.goto 15, 3) := by decide +kernel
theorem dX11_padded_45 : decode cX11_padded 45 = .ok (.aload_n 0, 1) := by decide +kernel
theorem dX11_padded_46 : decode cX11_padded 46 = .ok (.getfield 372, 3) := by decide +kernel
theorem dX11_padded_49 : decode cX11_padded 49 = .ok (.aload_n 0, 1) := by decide +kernel
theorem dX11_padded_50 : decode cX11_padded 50 = .ok (.getfield 375, 3) := by decide +kernel
theorem dX11_padded_53 : decode cX11_padded 53 = .ok (.iload_n 2, 1) := by decide +kernel
theorem dX11_padded_54 : decode cX11_padded 54 = .ok (.invokestatic 320, 3) := by decide +kernel
theorem dX11_padded_57 : decode cX11_padded 57 = .ok (.lreturn, 1) := by decide +kernel
theorem dX11_enough_0 : decode cX11_enough 0 = .ok (.aload_n 0, 1) := by decide +kernel
theorem dX11_enough_1 : decode cX11_enough 1 = .ok (.invokevirtual 109, 3) := by decide +kernel
theorem dX11_enough_4 : decode cX11_enough 4 = .ok (.ifCond .ne 6, 3) := by decide +kernel
theorem dX11_enough_7 : decode cX11_enough 7 = .ok (.bipush (-2), 2) := by decide +kernel
theorem dX11_enough_9 : decode cX11_enough 9 = .ok (.ireturn, 1) := by decide +kernel
theorem dX11_enough_10 : decode cX11_enough 10 = .ok (.iconst 0, 1) := by decide +kernel
theorem dX11_enough_11 : decode cX11_enough 11 = .ok (.istore_n 1, 1) := by decide +kernel
theorem dX11_enough_12 : decode cX11_enough 12 = .ok (.iload_n 1, 1) := by decide +kernel
theorem dX11_enough_13 : decode cX11_enough 13 = .ok (.aload_n 0, 1) := by decide +kernel
theorem dX11_enough_14 : decode cX11_enough 14 = .ok (.invokevirtual 98, 3) := by decide +kernel
theorem dX11_enough_17 : decode cX11_enough 17 = .ok (.aload_n 0, 1) := by decide +kernel
theorem dX11_enough_18 : decode cX11_enough 18 = .ok (.getfield 9, 3) := by decide +kernel
theorem dX11_enough_21 : decode cX11_enough 21 = .ok (.iconst 5, 1) := by decide +kernel
theorem dX11_enough_22 : decode cX11_enough 22 = .ok (.iaload, 1) := by decide +kernel
theorem dX11_enough_23 : decode cX11_enough 23 = .ok (.invokestatic 394, 3) := by decide +kernel
theorem dX11_enough_26 : decode cX11_enough 26 = .ok (.isub, 1) := by decide +kernel
theorem dX11_enough_27 : decode cX11_enough 27 = .ok (.if_icmp .gt 47, 3) := by decide +kernel
theorem dX11_enough_30 : decode cX11_enough 30 = .ok (.aload_n 0, 1) := by decide +kernel
theorem dX11_enough_31 : decode cX11_enough 31 = .ok (.getfield 9, 3) := by decide +kernel
theorem dX11_enough_34 : decode cX11_enough 34 = .ok (.iconst 5, 1) := by decide +kernel
theorem dX11_enough_35 : decode cX11_enough 35 = .ok (.iaload, 1) := by decide +kernel
theorem dX11_enough_36 : decode cX11_enough 36 = .ok (.istore_n 2, 1) := by decide +kernel
theorem dX11_enough_37 : decode cX11_enough 37 = .ok (.aload_n 0, 1) := by decide +kernel
theorem dX11_enough_38 : decode cX11_enough 38 = .ok (.getfield 9, 3) := by decide +kernel
theorem dX11_enough_41 : decode cX11_enough 41 = .ok (.iconst 5, 1) := by decide +kernel
theorem dX11_enough_42 : decode cX11_enough 42 = .ok (.iload_n 2, 1) := by decide +kernel
theorem dX11_enough_43 : decode cX11_enough 43 = .ok (.aload_n 0, 1) := by decide +kernel
theorem dX11_enough_44 : decode cX11_enough 44 = .ok (.iload_n 1, 1) := by decide +kernel
theorem dX11_enough_45 : decode cX11_enough 45 = .ok (.invokevirtual 397, 3) := by decide +kernel
theorem dX11_enough_48 : decode cX11_enough 48 = .ok (.ior, 1) := by decide +kernel
theorem dX11_enough_49 : decode cX11_enough 49 = .ok (.iastore, 1) := by decide +kernel
theorem dX11_enough_50 : decode cX11_enough 50 = .ok (.aload_n 0, 1) := by decide +kernel
theorem dX11_enough_51 : decode cX11_enough 51 = .ok (.invokevirtual 334, 3) := by decide +kernel
theorem dX11_enough_54 : decode cX11_enough 54 = .ok (.istore_n 3, 1) := by decide +kernel
theorem dX11_enough_55 : decode cX11_enough 55 = .ok (.aload_n 0, 1) := by decide +kernel
theorem dX11_enough_56 : decode cX11_enough 56 = .ok (.getfield 9, 3) := by decide +kernel
theorem dX11_enough_59 : decode cX11_enough 59 = .ok (.iconst 5, 1) := by decide +kernel
theorem dX11_enough_60 : decode cX11_enough 60 = .ok (.iload_n 2, 1) := by decide +kernel
theorem dX11_enough_61 : decode cX11_enough 61 = .ok (.iastore, 1) := by decide +kernel
theorem dX11_enough_62 : decode cX11_enough 62 = .ok (.iload_n 3, 1) := by decide +kernel
theorem dX11_enough_63 : decode cX11_enough 63 = .ok (.ifCond .eq 5, 3) := by decide +kernel
theorem dX11_enough_66 : decode cX11_enough 66 = .ok (.iload_n 1, 1) := by decide +kernel
theorem dX11_enough_67 : decode cX11_enough 67 = .ok (.ireturn, 1) := by decide +kernel
theorem dX11_enough_68 : decode cX11_enough 68 = .ok (.iinc 1 1, 3) := by decide +kernel
theorem dX11_enough_71 : decode cX11_enough 71 = .ok (.goto (-59), 3) := by decide +kernel
theorem dX11_enough_74 : decode cX11_enough 74 = .ok (.iconst (-1), 1) := by decide +kernel
theorem dX11_enough_75 : decode cX11_enough 75 = .ok (.ireturn, 1) := by decide +kernel
theorem dX11_nextWider_0 : decode cX11_nextWider 0 = .ok (.aload_n 0, 1) := by decide +kernel
theorem dX11_nextWider_1 : decode cX11_nextWider 1 = .ok (.invokevirtual 400, 3) := by decide +kernel
theorem dX11_nextWider_4 : decode cX11_nextWider 4 = .ok (.iconst (-1), 1) := by decide +kernel
theorem dX11_nextWider_5 : decode cX11_nextWider 5 = .ok (.istore_n 1, 1) := by decide +kernel
theorem dX11_nextWider_6 : decode cX11_nextWider 6 = .ok (.iconst 0, 1) := by decide +kernel
theorem dX11_nextWider_7 : decode cX11_nextWider 7 = .ok (.istore_n 2, 1) := by decide +kernel
theorem dX11_nextWider_8 : decode cX11_nextWider 8 = .ok (.iload_n 2, 1) := by decide +kernel
theorem dX11_nextWider_9 : decode cX11_nextWider 9 = .ok (.aload_n 0, 1) := by decide +kernel
theorem dX11_nextWider_10 : decode cX11_nextWider 10 = .ok (.getfield 102, 3) := by decide +kernel
theorem dX11_nextWider_13 : decode cX11_nextWider 13 = .ok (.if_icmp .ge 64, 3) := by decide +kernel
theorem dX11_nextWider_16 : decode cX11_nextWider 16 = .ok (.aload_n 0, 1) := by decide +kernel
theorem dX11_nextWider_17 : decode cX11_nextWider 17 = .ok (.getfield 9, 3) := by decide +kernel
theorem dX11_nextWider_20 : decode cX11_nextWider 20 = .ok (.bipush 28, 2) := by decide +kernel
theorem dX11_nextWider_22 : decode cX11_nextWider 22 = .ok (.iload_n 2, 1) := by decide +kernel
theorem dX11_nextWider_23 : decode cX11_nextWider 23 = .ok (.iadd, 1) := by decide +kernel
theorem dX11_nextWider_24 : decode cX11_nextWider 24 = .ok (.iaload, 1) := by decide +kernel
theorem dX11_nextWider_25 : decode cX11_nextWider 25 = .ok (.iconst 4, 1) := by decide +kernel
theorem dX11_nextWider_26 : decode cX11_nextWider 26 = .ok (.if_icmp .ne 6, 3) := by decide +kernel
theorem dX11_nextWider_29 : decode cX11_nextWider 29 = .ok (.goto 42, 3) := by decide +kernel
theorem dX11_nextWider_32 : decode cX11_nextWider 32 = .ok (.aload_n 0, 1) := by decide +kernel
theorem dX11_nextWider_33 : decode cX11_nextWider 33 = .ok (.getfield 9, 3) := by decide +kernel
theorem dX11_nextWider_36 : decode cX11_nextWider 36 = .ok (.bipush 28, 2) := by decide +kernel
theorem dX11_nextWider_38 : decode cX11_nextWider 38 = .ok (.iload_n 2, 1) := by decide +kernel
theorem dX11_nextWider_39 : decode cX11_nextWider 39 = .ok (.iadd, 1) := by decide +kernel
theorem dX11_nextWider_40 : decode cX11_nextWider 40 = .ok (.dup2, 1) := by decide +kernel
theorem dX11_nextWider_41 : decode cX11_nextWider 41 = .ok (.iaload, 1) := by decide +kernel
theorem dX11_nextWider_42 : decode cX11_nextWider 42 = .ok (.iconst 1, 1) := by decide +kernel
theorem dX11_nextWider_43 : decode cX11_nextWider 43 = .ok (.iadd, 1) := by decide +kernel
theorem dX11_nextWider_44 : decode cX11_nextWider 44 = .ok (.iastore, 1) := by decide +kernel
theorem dX11_nextWider_45 : decode cX11_nextWider 45 = .ok (.aload_n 0, 1) := by decide +kernel
theorem dX11_nextWider_46 : decode cX11_nextWider 46 = .ok (.invokevirtual 388, 3) := by decide +kernel
theorem dX11_nextWider_49 : decode cX11_nextWider 49 = .ok (.ifCond .ge 9, 3) := by decide +kernel
theorem dX11_nextWider_52 : decode cX11_nextWider 52 = .ok (.iload_n 2, 1) := by decide +kernel
theorem dX11_nextWider_53 : decode cX11_nextWider 53 = .ok (.istore_n 1, 1) := by decide +kernel
theorem dX11_nextWider_54 : decode cX11_nextWider 54 = .ok (.aload_n 0, 1) := by decide +kernel
theorem dX11_nextWider_55 : decode cX11_nextWider 55 = .ok (.invokevirtual 382, 3) := by decide +kernel
theorem dX11_nextWider_58 : decode cX11_nextWider 58 = .ok (.aload_n 0, 1) := by decide +kernel
theorem dX11_nextWider_59 : decode cX11_nextWider 59 = .ok (.getfield 9, 3) := by decide +kernel
theorem dX11_nextWider_62 : decode cX11_nextWider 62 = .ok (.bipush 28, 2) := by decide +kernel
theorem dX11_nextWider_64 : decode cX11_nextWider 64 = .ok (.iload_n 2, 1) := by decide +kernel
theorem dX11_nextWider_65 : decode cX11_nextWider 65 = .ok (.iadd, 1) := by decide +kernel
theorem dX11_nextWider_66 : decode cX11_nextWider 66 = .ok (.dup2, 1) := by decide +kernel
theorem dX11_nextWider_67 : decode cX11_nextWider 67 = .ok (.iaload, 1) := by decide +kernel
theorem dX11_nextWider_68 : decode cX11_nextWider 68 = .ok (.iconst 1, 1) := by decide +kernel
theorem dX11_nextWider_69 : decode cX11_nextWider 69 = .ok (.isub, 1) := by decide +kernel
theorem dX11_nextWider_70 : decode cX11_nextWider 70 = .ok (.iastore, 1) := by decide +kernel
theorem dX11_nextWider_71 : decode cX11_nextWider 71 = .ok (.iinc 2 1, 3) := by decide +kernel
theorem dX11_nextWider_74 : decode cX11_nextWider 74 = .ok (.goto (-66), 3) := by decide +kernel
theorem dX11_nextWider_77 : decode cX11_nextWider 77 = .ok (.iload_n 1, 1) := by decide +kernel
theorem dX11_nextWider_78 : decode cX11_nextWider 78 = .ok (.ireturn, 1) := by decide +kernel
theorem dX11_widensAll_0 : decode cX11_widensAll 0 = .ok (.aload_n 0, 1) := by decide +kernel
theorem dX11_widensAll_1 : decode cX11_widensAll 1 = .ok (.iconst 0, 1) := by decide +kernel
theorem dX11_widensAll_2 : decode cX11_widensAll 2 = .ok (.putfield 403, 3) := by decide +kernel
theorem dX11_widensAll_5 : decode cX11_widensAll 5 = .ok (.aload_n 0, 1) := by decide +kernel
theorem dX11_widensAll_6 : decode cX11_widensAll 6 = .ok (.getfield 403, 3) := by decide +kernel
theorem dX11_widensAll_9 : decode cX11_widensAll 9 = .ok (.bipush 20, 2) := by decide +kernel
theorem dX11_widensAll_11 : decode cX11_widensAll 11 = .ok (.if_icmp .ge 57, 3) := by decide +kernel
theorem dX11_widensAll_14 : decode cX11_widensAll 14 = .ok (.aload_n 0, 1) := by decide +kernel
theorem dX11_widensAll_15 : decode cX11_widensAll 15 = .ok (.invokevirtual 334, 3) := by decide +kernel
theorem dX11_widensAll_18 : decode cX11_widensAll 18 = .ok (.ifCond .ne 50, 3) := by decide +kernel
theorem dX11_widensAll_21 : decode cX11_widensAll 21 = .ok (.aload_n 0, 1) := by decide +kernel
theorem dX11_widensAll_22 : decode cX11_widensAll 22 = .ok (.invokevirtual 406, 3) := by decide +kernel
theorem dX11_widensAll_25 : decode cX11_widensAll 25 = .ok (.istore_n 1, 1) := by decide +kernel
theorem dX11_widensAll_26 : decode cX11_widensAll 26 = .ok (.iload_n 1, 1) := by decide +kernel
theorem dX11_widensAll_27 : decode cX11_widensAll 27 = .ok (.iconst (-1), 1) := by decide +kernel
theorem dX11_widensAll_28 : decode cX11_widensAll 28 = .ok (.if_icmp .ne 4, 3) := by decide +kernel
theorem dX11_widensAll_31 : decode cX11_widensAll 31 = .ok (.return_, 1) := by decide +kernel
theorem dX11_widensAll_32 : decode cX11_widensAll 32 = .ok (.aload_n 0, 1) := by decide +kernel
theorem dX11_widensAll_33 : decode cX11_widensAll 33 = .ok (.getfield 9, 3) := by decide +kernel
theorem dX11_widensAll_36 : decode cX11_widensAll 36 = .ok (.bipush 28, 2) := by decide +kernel
theorem dX11_widensAll_38 : decode cX11_widensAll 38 = .ok (.iload_n 1, 1) := by decide +kernel
theorem dX11_widensAll_39 : decode cX11_widensAll 39 = .ok (.iadd, 1) := by decide +kernel
theorem dX11_widensAll_40 : decode cX11_widensAll 40 = .ok (.dup2, 1) := by decide +kernel
theorem dX11_widensAll_41 : decode cX11_widensAll 41 = .ok (.iaload, 1) := by decide +kernel
theorem dX11_widensAll_42 : decode cX11_widensAll 42 = .ok (.iconst 1, 1) := by decide +kernel
theorem dX11_widensAll_43 : decode cX11_widensAll 43 = .ok (.iadd, 1) := by decide +kernel
theorem dX11_widensAll_44 : decode cX11_widensAll 44 = .ok (.iastore, 1) := by decide +kernel
theorem dX11_widensAll_45 : decode cX11_widensAll 45 = .ok (.aload_n 0, 1) := by decide +kernel
theorem dX11_widensAll_46 : decode cX11_widensAll 46 = .ok (.getfield 66, 3) := by decide +kernel
theorem dX11_widensAll_49 : decode cX11_widensAll 49 = .ok (.aload_n 0, 1) := by decide +kernel
theorem dX11_widensAll_50 : decode cX11_widensAll 50 = .ok (.getfield 403, 3) := by decide +kernel
theorem dX11_widensAll_53 : decode cX11_widensAll 53 = .ok (.iload_n 1, 1) := by decide +kernel
theorem dX11_widensAll_54 : decode cX11_widensAll 54 = .ok (.iastore, 1) := by decide +kernel
theorem dX11_widensAll_55 : decode cX11_widensAll 55 = .ok (.aload_n 0, 1) := by decide +kernel
theorem dX11_widensAll_56 : decode cX11_widensAll 56 = .ok (.dup, 1) := by decide +kernel
theorem dX11_widensAll_57 : decode cX11_widensAll 57 = .ok (.getfield 403, 3) := by decide +kernel
theorem dX11_widensAll_60 : decode cX11_widensAll 60 = .ok (.iconst 1, 1) := by decide +kernel
theorem dX11_widensAll_61 : decode cX11_widensAll 61 = .ok (.iadd, 1) := by decide +kernel
theorem dX11_widensAll_62 : decode cX11_widensAll 62 = .ok (.putfield 403, 3) := by decide +kernel
theorem dX11_widensAll_65 : decode cX11_widensAll 65 = .ok (.goto (-60), 3) := by decide +kernel
theorem dX11_widensAll_68 : decode cX11_widensAll 68 = .ok (.return_, 1) := by decide +kernel
theorem dX11_laysWidened_0 : decode cX11_laysWidened 0 = .ok (.aload_n 0, 1) := by decide +kernel
theorem dX11_laysWidened_1 : decode cX11_laysWidened 1 = .ok (.invokevirtual 109, 3) := by decide +kernel
theorem dX11_laysWidened_4 : decode cX11_laysWidened 4 = .ok (.ifCond .ne 5, 3) := by decide +kernel
theorem dX11_laysWidened_7 : decode cX11_laysWidened 7 = .ok (.iconst 0, 1) := by decide +kernel
theorem dX11_laysWidened_8 : decode cX11_laysWidened 8 = .ok (.ireturn, 1) := by decide +kernel
theorem dX11_laysWidened_9 : decode cX11_laysWidened 9 = .ok (.aload_n 0, 1) := by decide +kernel
theorem dX11_laysWidened_10 : decode cX11_laysWidened 10 = .ok (.invokevirtual 360, 3) := by decide +kernel
theorem dX11_laysWidened_13 : decode cX11_laysWidened 13 = .ok (.aload_n 0, 1) := by decide +kernel
theorem dX11_laysWidened_14 : decode cX11_laysWidened 14 = .ok (.invokevirtual 409, 3) := by decide +kernel
theorem dX11_laysWidened_17 : decode cX11_laysWidened 17 = .ok (.aload_n 0, 1) := by decide +kernel
theorem dX11_laysWidened_18 : decode cX11_laysWidened 18 = .ok (.invokevirtual 366, 3) := by decide +kernel
theorem dX11_laysWidened_21 : decode cX11_laysWidened 21 = .ok (.iconst 1, 1) := by decide +kernel
theorem dX11_laysWidened_22 : decode cX11_laysWidened 22 = .ok (.ireturn, 1) := by decide +kernel
theorem dX11_widens_0 : decode cX11_widens 0 = .ok (.aload_n 0, 1) := by decide +kernel
theorem dX11_widens_1 : decode cX11_widens 1 = .ok (.invokevirtual 412, 3) := by decide +kernel
theorem dX11_widens_4 : decode cX11_widens 4 = .ok (.ifCond .eq 10, 3) := by decide +kernel
theorem dX11_widens_7 : decode cX11_widens 7 = .ok (.aload_n 0, 1) := by decide +kernel
theorem dX11_widens_8 : decode cX11_widens 8 = .ok (.getfield 403, 3) := by decide +kernel
theorem dX11_widens_11 : decode cX11_widens 11 = .ok (.goto 5, 3) := by decide +kernel
theorem dX11_widens_14 : decode cX11_widens 14 = .ok (.bipush (-2), 2) := by decide +kernel
theorem dX11_widens_16 : decode cX11_widens 16 = .ok (.ireturn, 1) := by decide +kernel
theorem dX11_widen_0 : decode cX11_widen 0 = .ok (.iload_n 1, 1) := by decide +kernel
theorem dX11_widen_1 : decode cX11_widen 1 = .ok (.ifCond .lt 10, 3) := by decide +kernel
theorem dX11_widen_4 : decode cX11_widen 4 = .ok (.aload_n 0, 1) := by decide +kernel
theorem dX11_widen_5 : decode cX11_widen 5 = .ok (.invokevirtual 412, 3) := by decide +kernel
theorem dX11_widen_8 : decode cX11_widen 8 = .ok (.ifCond .ne 6, 3) := by decide +kernel
theorem dX11_widen_11 : decode cX11_widen 11 = .ok (.bipush (-2), 2) := by decide +kernel
theorem dX11_widen_13 : decode cX11_widen 13 = .ok (.ireturn, 1) := by decide +kernel
theorem dX11_widen_14 : decode cX11_widen 14 = .ok (.iload_n 1, 1) := by decide +kernel
theorem dX11_widen_15 : decode cX11_widen 15 = .ok (.aload_n 0, 1) := by decide +kernel
theorem dX11_widen_16 : decode cX11_widen 16 = .ok (.getfield 403, 3) := by decide +kernel
theorem dX11_widen_19 : decode cX11_widen 19 = .ok (.if_icmp .ge 12, 3) := by decide +kernel
theorem dX11_widen_22 : decode cX11_widen 22 = .ok (.aload_n 0, 1) := by decide +kernel
theorem dX11_widen_23 : decode cX11_widen 23 = .ok (.getfield 66, 3) := by decide +kernel
theorem dX11_widen_26 : decode cX11_widen 26 = .ok (.iload_n 1, 1) := by decide +kernel
theorem dX11_widen_27 : decode cX11_widen 27 = .ok (.iaload, 1) := by decide +kernel
theorem dX11_widen_28 : decode cX11_widen 28 = .ok (.goto 4, 3) := by decide +kernel
theorem dX11_widen_31 : decode cX11_widen 31 = .ok (.iconst (-1), 1) := by decide +kernel
theorem dX11_widen_32 : decode cX11_widen 32 = .ok (.ireturn, 1) := by decide +kernel
theorem dX11_wide_0 : decode cX11_wide 0 = .ok (.aload_n 0, 1) := by decide +kernel
theorem dX11_wide_1 : decode cX11_wide 1 = .ok (.invokevirtual 109, 3) := by decide +kernel
theorem dX11_wide_4 : decode cX11_wide 4 = .ok (.ifCond .ne 6, 3) := by decide +kernel
theorem dX11_wide_7 : decode cX11_wide 7 = .ok (.bipush (-2), 2) := by decide +kernel
theorem dX11_wide_9 : decode cX11_wide 9 = .ok (.ireturn, 1) := by decide +kernel
theorem dX11_wide_10 : decode cX11_wide 10 = .ok (.aload_n 0, 1) := by decide +kernel
theorem dX11_wide_11 : decode cX11_wide 11 = .ok (.invokevirtual 360, 3) := by decide +kernel
theorem dX11_wide_14 : decode cX11_wide 14 = .ok (.aload_n 0, 1) := by decide +kernel
theorem dX11_wide_15 : decode cX11_wide 15 = .ok (.invokevirtual 409, 3) := by decide +kernel
theorem dX11_wide_18 : decode cX11_wide 18 = .ok (.aload_n 0, 1) := by decide +kernel
theorem dX11_wide_19 : decode cX11_wide 19 = .ok (.invokevirtual 334, 3) := by decide +kernel
theorem dX11_wide_22 : decode cX11_wide 22 = .ok (.ifCond .eq 7, 3) := by decide +kernel
theorem dX11_wide_25 : decode cX11_wide 25 = .ok (.iconst 1, 1) := by decide +kernel
theorem dX11_wide_26 : decode cX11_wide 26 = .ok (.goto 4, 3) := by decide +kernel
theorem dX11_wide_29 : decode cX11_wide 29 = .ok (.iconst 0, 1) := by decide +kernel
theorem dX11_wide_30 : decode cX11_wide 30 = .ok (.istore_n 1, 1) := by decide +kernel
theorem dX11_wide_31 : decode cX11_wide 31 = .ok (.aload_n 0, 1) := by decide +kernel
theorem dX11_wide_32 : decode cX11_wide 32 = .ok (.invokevirtual 366, 3) := by decide +kernel
theorem dX11_wide_35 : decode cX11_wide 35 = .ok (.iload_n 1, 1) := by decide +kernel
theorem dX11_wide_36 : decode cX11_wide 36 = .ok (.ireturn, 1) := by decide +kernel
theorem dX11_does_0 : decode cX11_does 0 = .ok (.iload_n 1, 1) := by decide +kernel
theorem dX11_does_1 : decode cX11_does 1 = .ok (.iload_n 2, 1) := by decide +kernel
theorem dX11_does_2 : decode cX11_does 2 = .ok (.if_icmp .ne 8, 3) := by decide +kernel
theorem dX11_does_5 : decode cX11_does 5 = .ok (.aload_n 0, 1) := by decide +kernel
theorem dX11_does_6 : decode cX11_does 6 = .ok (.invokevirtual 334, 3) := by decide +kernel
theorem dX11_does_9 : decode cX11_does 9 = .ok (.ireturn, 1) := by decide +kernel
theorem dX11_does_10 : decode cX11_does 10 = .ok (.iload_n 3, 1) := by decide +kernel
theorem dX11_does_11 : decode cX11_does 11 = .ok (.istore 4, 2) := by decide +kernel
theorem dX11_does_13 : decode cX11_does 13 = .ok (.iload 4, 2) := by decide +kernel
theorem dX11_does_15 : decode cX11_does 15 = .ok (.aload_n 0, 1) := by decide +kernel
theorem dX11_does_16 : decode cX11_does 16 = .ok (.invokevirtual 116, 3) := by decide +kernel
theorem dX11_does_19 : decode cX11_does 19 = .ok (.if_icmp .ge 81, 3) := by decide +kernel
theorem dX11_does_22 : decode cX11_does 22 = .ok (.aload_n 0, 1) := by decide +kernel
theorem dX11_does_23 : decode cX11_does 23 = .ok (.getfield 9, 3) := by decide +kernel
theorem dX11_does_26 : decode cX11_does 26 = .ok (.bipush 28, 2) := by decide +kernel
theorem dX11_does_28 : decode cX11_does 28 = .ok (.iload 4, 2) := by decide +kernel
theorem dX11_does_30 : decode cX11_does 30 = .ok (.iadd, 1) := by decide +kernel
theorem dX11_does_31 : decode cX11_does 31 = .ok (.iaload, 1) := by decide +kernel
theorem dX11_does_32 : decode cX11_does 32 = .ok (.iconst 4, 1) := by decide +kernel
theorem dX11_does_33 : decode cX11_does 33 = .ok (.if_icmp .ne 6, 3) := by decide +kernel
theorem dX11_does_36 : decode cX11_does 36 = .ok (.goto 58, 3) := by decide +kernel
theorem dX11_does_39 : decode cX11_does 39 = .ok (.aload_n 0, 1) := by decide +kernel
theorem dX11_does_40 : decode cX11_does 40 = .ok (.getfield 9, 3) := by decide +kernel
theorem dX11_does_43 : decode cX11_does 43 = .ok (.bipush 28, 2) := by decide +kernel
theorem dX11_does_45 : decode cX11_does 45 = .ok (.iload 4, 2) := by decide +kernel
theorem dX11_does_47 : decode cX11_does 47 = .ok (.iadd, 1) := by decide +kernel
theorem dX11_does_48 : decode cX11_does 48 = .ok (.dup2, 1) := by decide +kernel
theorem dX11_does_49 : decode cX11_does 49 = .ok (.iaload, 1) := by decide +kernel
theorem dX11_does_50 : decode cX11_does 50 = .ok (.iconst 1, 1) := by decide +kernel
theorem dX11_does_51 : decode cX11_does 51 = .ok (.iadd, 1) := by decide +kernel
theorem dX11_does_52 : decode cX11_does 52 = .ok (.iastore, 1) := by decide +kernel
theorem dX11_does_53 : decode cX11_does 53 = .ok (.aload_n 0, 1) := by decide +kernel
theorem dX11_does_54 : decode cX11_does 54 = .ok (.getfield 69, 3) := by decide +kernel
theorem dX11_does_57 : decode cX11_does 57 = .ok (.iload_n 1, 1) := by decide +kernel
theorem dX11_does_58 : decode cX11_does 58 = .ok (.iload 4, 2) := by decide +kernel
theorem dX11_does_60 : decode cX11_does 60 = .ok (.iastore, 1) := by decide +kernel
theorem dX11_does_61 : decode cX11_does 61 = .ok (.aload_n 0, 1) := by decide +kernel
theorem dX11_does_62 : decode cX11_does 62 = .ok (.iload_n 1, 1) := by decide +kernel
theorem dX11_does_63 : decode cX11_does 63 = .ok (.iconst 1, 1) := by decide +kernel
theorem dX11_does_64 : decode cX11_does 64 = .ok (.iadd, 1) := by decide +kernel
theorem dX11_does_65 : decode cX11_does 65 = .ok (.iload_n 2, 1) := by decide +kernel
theorem dX11_does_66 : decode cX11_does 66 = .ok (.iload 4, 2) := by decide +kernel
theorem dX11_does_68 : decode cX11_does 68 = .ok (.invokevirtual 415, 3) := by decide +kernel
theorem dX11_does_71 : decode cX11_does 71 = .ok (.istore 5, 2) := by decide +kernel
theorem dX11_does_73 : decode cX11_does 73 = .ok (.aload_n 0, 1) := by decide +kernel
theorem dX11_does_74 : decode cX11_does 74 = .ok (.getfield 9, 3) := by decide +kernel
theorem dX11_does_77 : decode cX11_does 77 = .ok (.bipush 28, 2) := by decide +kernel
theorem dX11_does_79 : decode cX11_does 79 = .ok (.iload 4, 2) := by decide +kernel
theorem dX11_does_81 : decode cX11_does 81 = .ok (.iadd, 1) := by decide +kernel
theorem dX11_does_82 : decode cX11_does 82 = .ok (.dup2, 1) := by decide +kernel
theorem dX11_does_83 : decode cX11_does 83 = .ok (.iaload, 1) := by decide +kernel
theorem dX11_does_84 : decode cX11_does 84 = .ok (.iconst 1, 1) := by decide +kernel
theorem dX11_does_85 : decode cX11_does 85 = .ok (.isub, 1) := by decide +kernel
theorem dX11_does_86 : decode cX11_does 86 = .ok (.iastore, 1) := by decide +kernel
theorem dX11_does_87 : decode cX11_does 87 = .ok (.iload 5, 2) := by decide +kernel
theorem dX11_does_89 : decode cX11_does 89 = .ok (.ifCond .eq 5, 3) := by decide +kernel
theorem dX11_does_92 : decode cX11_does 92 = .ok (.iconst 1, 1) := by decide +kernel
theorem dX11_does_93 : decode cX11_does 93 = .ok (.ireturn, 1) := by decide +kernel
theorem dX11_does_94 : decode cX11_does 94 = .ok (.iinc 4 1, 3) := by decide +kernel
theorem dX11_does_97 : decode cX11_does 97 = .ok (.goto (-84), 3) := by decide +kernel
theorem dX11_does_100 : decode cX11_does 100 = .ok (.iconst 0, 1) := by decide +kernel
theorem dX11_does_101 : decode cX11_does 101 = .ok (.ireturn, 1) := by decide +kernel
theorem dX11_fewestOf_0 : decode cX11_fewestOf 0 = .ok (.iconst 0, 1) := by decide +kernel
theorem dX11_fewestOf_1 : decode cX11_fewestOf 1 = .ok (.istore_n 1, 1) := by decide +kernel
theorem dX11_fewestOf_2 : decode cX11_fewestOf 2 = .ok (.iload_n 1, 1) := by decide +kernel
theorem dX11_fewestOf_3 : decode cX11_fewestOf 3 = .ok (.iconst 3, 1) := by decide +kernel
theorem dX11_fewestOf_4 : decode cX11_fewestOf 4 = .ok (.if_icmp .gt 21, 3) := by decide +kernel
theorem dX11_fewestOf_7 : decode cX11_fewestOf 7 = .ok (.aload_n 0, 1) := by decide +kernel
theorem dX11_fewestOf_8 : decode cX11_fewestOf 8 = .ok (.iconst 0, 1) := by decide +kernel
theorem dX11_fewestOf_9 : decode cX11_fewestOf 9 = .ok (.iload_n 1, 1) := by decide +kernel
theorem dX11_fewestOf_10 : decode cX11_fewestOf 10 = .ok (.iconst 0, 1) := by decide +kernel
theorem dX11_fewestOf_11 : decode cX11_fewestOf 11 = .ok (.invokevirtual 415, 3) := by decide +kernel
theorem dX11_fewestOf_14 : decode cX11_fewestOf 14 = .ok (.ifCond .eq 5, 3) := by decide +kernel
theorem dX11_fewestOf_17 : decode cX11_fewestOf 17 = .ok (.iload_n 1, 1) := by decide +kernel
theorem dX11_fewestOf_18 : decode cX11_fewestOf 18 = .ok (.ireturn, 1) := by decide +kernel
theorem dX11_fewestOf_19 : decode cX11_fewestOf 19 = .ok (.iinc 1 1, 3) := by decide +kernel
theorem dX11_fewestOf_22 : decode cX11_fewestOf 22 = .ok (.goto (-20), 3) := by decide +kernel
theorem dX11_fewestOf_25 : decode cX11_fewestOf 25 = .ok (.iconst (-1), 1) := by decide +kernel
theorem dX11_fewestOf_26 : decode cX11_fewestOf 26 = .ok (.ireturn, 1) := by decide +kernel
theorem dX11_fewest_0 : decode cX11_fewest 0 = .ok (.aload_n 0, 1) := by decide +kernel
theorem dX11_fewest_1 : decode cX11_fewest 1 = .ok (.invokevirtual 109, 3) := by decide +kernel
theorem dX11_fewest_4 : decode cX11_fewest 4 = .ok (.ifCond .eq 10, 3) := by decide +kernel
theorem dX11_fewest_7 : decode cX11_fewest 7 = .ok (.aload_n 0, 1) := by decide +kernel
theorem dX11_fewest_8 : decode cX11_fewest 8 = .ok (.invokevirtual 418, 3) := by decide +kernel
theorem dX11_fewest_11 : decode cX11_fewest 11 = .ok (.goto 5, 3) := by decide +kernel
theorem dX11_fewest_14 : decode cX11_fewest 14 = .ok (.bipush (-2), 2) := by decide +kernel
theorem dX11_fewest_16 : decode cX11_fewest 16 = .ok (.ireturn, 1) := by decide +kernel
theorem dX11_few_0 : decode cX11_few 0 = .ok (.aload_n 0, 1) := by decide +kernel
theorem dX11_few_1 : decode cX11_few 1 = .ok (.invokevirtual 109, 3) := by decide +kernel
theorem dX11_few_4 : decode cX11_few 4 = .ok (.ifCond .eq 7, 3) := by decide +kernel
theorem dX11_few_7 : decode cX11_few 7 = .ok (.iload_n 1, 1) := by decide +kernel
theorem dX11_few_8 : decode cX11_few 8 = .ok (.ifCond .ge 6, 3) := by decide +kernel
theorem dX11_few_11 : decode cX11_few 11 = .ok (.bipush (-2), 2) := by decide +kernel
theorem dX11_few_13 : decode cX11_few 13 = .ok (.ireturn, 1) := by decide +kernel
theorem dX11_few_14 : decode cX11_few 14 = .ok (.aload_n 0, 1) := by decide +kernel
theorem dX11_few_15 : decode cX11_few 15 = .ok (.invokevirtual 418, 3) := by decide +kernel
theorem dX11_few_18 : decode cX11_few 18 = .ok (.istore_n 2, 1) := by decide +kernel
theorem dX11_few_19 : decode cX11_few 19 = .ok (.iload_n 1, 1) := by decide +kernel
theorem dX11_few_20 : decode cX11_few 20 = .ok (.iload_n 2, 1) := by decide +kernel
theorem dX11_few_21 : decode cX11_few 21 = .ok (.if_icmp .ge 12, 3) := by decide +kernel
theorem dX11_few_24 : decode cX11_few 24 = .ok (.aload_n 0, 1) := by decide +kernel
theorem dX11_few_25 : decode cX11_few 25 = .ok (.getfield 69, 3) := by decide +kernel
theorem dX11_few_28 : decode cX11_few 28 = .ok (.iload_n 1, 1) := by decide +kernel
theorem dX11_few_29 : decode cX11_few 29 = .ok (.iaload, 1) := by decide +kernel
theorem dX11_few_30 : decode cX11_few 30 = .ok (.goto 4, 3) := by decide +kernel
theorem dX11_few_33 : decode cX11_few 33 = .ok (.iconst (-1), 1) := by decide +kernel
theorem dX11_few_34 : decode cX11_few 34 = .ok (.ireturn, 1) := by decide +kernel
theorem dX11_nextSlim_0 : decode cX11_nextSlim 0 = .ok (.aload_n 0, 1) := by decide +kernel
theorem dX11_nextSlim_1 : decode cX11_nextSlim 1 = .ok (.invokevirtual 385, 3) := by decide +kernel
theorem dX11_nextSlim_4 : decode cX11_nextSlim 4 = .ok (.iconst (-1), 1) := by decide +kernel
theorem dX11_nextSlim_5 : decode cX11_nextSlim 5 = .ok (.istore_n 1, 1) := by decide +kernel
theorem dX11_nextSlim_6 : decode cX11_nextSlim 6 = .ok (.iconst 0, 1) := by decide +kernel
theorem dX11_nextSlim_7 : decode cX11_nextSlim 7 = .ok (.istore_n 2, 1) := by decide +kernel
theorem dX11_nextSlim_8 : decode cX11_nextSlim 8 = .ok (.iload_n 2, 1) := by decide +kernel
theorem dX11_nextSlim_9 : decode cX11_nextSlim 9 = .ok (.aload_n 0, 1) := by decide +kernel
theorem dX11_nextSlim_10 : decode cX11_nextSlim 10 = .ok (.getfield 102, 3) := by decide +kernel
theorem dX11_nextSlim_13 : decode cX11_nextSlim 13 = .ok (.if_icmp .ge 70, 3) := by decide +kernel
theorem dX11_nextSlim_16 : decode cX11_nextSlim 16 = .ok (.aload_n 0, 1) := by decide +kernel
theorem dX11_nextSlim_17 : decode cX11_nextSlim 17 = .ok (.getfield 9, 3) := by decide +kernel
theorem dX11_nextSlim_20 : decode cX11_nextSlim 20 = .ok (.bipush 28, 2) := by decide +kernel
theorem dX11_nextSlim_22 : decode cX11_nextSlim 22 = .ok (.iload_n 2, 1) := by decide +kernel
theorem dX11_nextSlim_23 : decode cX11_nextSlim 23 = .ok (.iadd, 1) := by decide +kernel
theorem dX11_nextSlim_24 : decode cX11_nextSlim 24 = .ok (.iaload, 1) := by decide +kernel
theorem dX11_nextSlim_25 : decode cX11_nextSlim 25 = .ok (.ifCond .ne 6, 3) := by decide +kernel
theorem dX11_nextSlim_28 : decode cX11_nextSlim 28 = .ok (.goto 49, 3) := by decide +kernel
theorem dX11_nextSlim_31 : decode cX11_nextSlim 31 = .ok (.aload_n 0, 1) := by decide +kernel
theorem dX11_nextSlim_32 : decode cX11_nextSlim 32 = .ok (.getfield 9, 3) := by decide +kernel
theorem dX11_nextSlim_35 : decode cX11_nextSlim 35 = .ok (.bipush 28, 2) := by decide +kernel
theorem dX11_nextSlim_37 : decode cX11_nextSlim 37 = .ok (.iload_n 2, 1) := by decide +kernel
theorem dX11_nextSlim_38 : decode cX11_nextSlim 38 = .ok (.iadd, 1) := by decide +kernel
theorem dX11_nextSlim_39 : decode cX11_nextSlim 39 = .ok (.dup2, 1) := by decide +kernel
theorem dX11_nextSlim_40 : decode cX11_nextSlim 40 = .ok (.iaload, 1) := by decide +kernel
theorem dX11_nextSlim_41 : decode cX11_nextSlim 41 = .ok (.iconst 1, 1) := by decide +kernel
theorem dX11_nextSlim_42 : decode cX11_nextSlim 42 = .ok (.isub, 1) := by decide +kernel
theorem dX11_nextSlim_43 : decode cX11_nextSlim 43 = .ok (.iastore, 1) := by decide +kernel
theorem dX11_nextSlim_44 : decode cX11_nextSlim 44 = .ok (.aload_n 0, 1) := by decide +kernel
theorem dX11_nextSlim_45 : decode cX11_nextSlim 45 = .ok (.invokevirtual 334, 3) := by decide +kernel
theorem dX11_nextSlim_48 : decode cX11_nextSlim 48 = .ok (.ifCond .eq 16, 3) := by decide +kernel
theorem dX11_nextSlim_51 : decode cX11_nextSlim 51 = .ok (.aload_n 0, 1) := by decide +kernel
theorem dX11_nextSlim_52 : decode cX11_nextSlim 52 = .ok (.invokevirtual 388, 3) := by decide +kernel
theorem dX11_nextSlim_55 : decode cX11_nextSlim 55 = .ok (.ifCond .ge 9, 3) := by decide +kernel
theorem dX11_nextSlim_58 : decode cX11_nextSlim 58 = .ok (.iload_n 2, 1) := by decide +kernel
theorem dX11_nextSlim_59 : decode cX11_nextSlim 59 = .ok (.istore_n 1, 1) := by decide +kernel
theorem dX11_nextSlim_60 : decode cX11_nextSlim 60 = .ok (.aload_n 0, 1) := by decide +kernel
theorem dX11_nextSlim_61 : decode cX11_nextSlim 61 = .ok (.invokevirtual 382, 3) := by decide +kernel
theorem dX11_nextSlim_64 : decode cX11_nextSlim 64 = .ok (.aload_n 0, 1) := by decide +kernel
theorem dX11_nextSlim_65 : decode cX11_nextSlim 65 = .ok (.getfield 9, 3) := by decide +kernel
theorem dX11_nextSlim_68 : decode cX11_nextSlim 68 = .ok (.bipush 28, 2) := by decide +kernel
theorem dX11_nextSlim_70 : decode cX11_nextSlim 70 = .ok (.iload_n 2, 1) := by decide +kernel
theorem dX11_nextSlim_71 : decode cX11_nextSlim 71 = .ok (.iadd, 1) := by decide +kernel
theorem dX11_nextSlim_72 : decode cX11_nextSlim 72 = .ok (.dup2, 1) := by decide +kernel
theorem dX11_nextSlim_73 : decode cX11_nextSlim 73 = .ok (.iaload, 1) := by decide +kernel
theorem dX11_nextSlim_74 : decode cX11_nextSlim 74 = .ok (.iconst 1, 1) := by decide +kernel
theorem dX11_nextSlim_75 : decode cX11_nextSlim 75 = .ok (.iadd, 1) := by decide +kernel
theorem dX11_nextSlim_76 : decode cX11_nextSlim 76 = .ok (.iastore, 1) := by decide +kernel
theorem dX11_nextSlim_77 : decode cX11_nextSlim 77 = .ok (.iinc 2 1, 3) := by decide +kernel
theorem dX11_nextSlim_80 : decode cX11_nextSlim 80 = .ok (.goto (-72), 3) := by decide +kernel
theorem dX11_nextSlim_83 : decode cX11_nextSlim 83 = .ok (.iload_n 1, 1) := by decide +kernel
theorem dX11_nextSlim_84 : decode cX11_nextSlim 84 = .ok (.ireturn, 1) := by decide +kernel
theorem dX11_slimsAll_0 : decode cX11_slimsAll 0 = .ok (.iconst 0, 1) := by decide +kernel
theorem dX11_slimsAll_1 : decode cX11_slimsAll 1 = .ok (.istore_n 1, 1) := by decide +kernel
theorem dX11_slimsAll_2 : decode cX11_slimsAll 2 = .ok (.aload_n 0, 1) := by decide +kernel
theorem dX11_slimsAll_3 : decode cX11_slimsAll 3 = .ok (.invokevirtual 421, 3) := by decide +kernel
theorem dX11_slimsAll_6 : decode cX11_slimsAll 6 = .ok (.istore_n 2, 1) := by decide +kernel
theorem dX11_slimsAll_7 : decode cX11_slimsAll 7 = .ok (.iload_n 2, 1) := by decide +kernel
theorem dX11_slimsAll_8 : decode cX11_slimsAll 8 = .ok (.iconst (-1), 1) := by decide +kernel
theorem dX11_slimsAll_9 : decode cX11_slimsAll 9 = .ok (.if_icmp .eq 27, 3) := by decide +kernel
theorem dX11_slimsAll_12 : decode cX11_slimsAll 12 = .ok (.aload_n 0, 1) := by decide +kernel
theorem dX11_slimsAll_13 : decode cX11_slimsAll 13 = .ok (.getfield 9, 3) := by decide +kernel
theorem dX11_slimsAll_16 : decode cX11_slimsAll 16 = .ok (.bipush 28, 2) := by decide +kernel
theorem dX11_slimsAll_18 : decode cX11_slimsAll 18 = .ok (.iload_n 2, 1) := by decide +kernel
theorem dX11_slimsAll_19 : decode cX11_slimsAll 19 = .ok (.iadd, 1) := by decide +kernel
theorem dX11_slimsAll_20 : decode cX11_slimsAll 20 = .ok (.dup2, 1) := by decide +kernel
theorem dX11_slimsAll_21 : decode cX11_slimsAll 21 = .ok (.iaload, 1) := by decide +kernel
theorem dX11_slimsAll_22 : decode cX11_slimsAll 22 = .ok (.iconst 1, 1) := by decide +kernel
theorem dX11_slimsAll_23 : decode cX11_slimsAll 23 = .ok (.isub, 1) := by decide +kernel
theorem dX11_slimsAll_24 : decode cX11_slimsAll 24 = .ok (.iastore, 1) := by decide +kernel
theorem dX11_slimsAll_25 : decode cX11_slimsAll 25 = .ok (.iinc 1 1, 3) := by decide +kernel
theorem dX11_slimsAll_28 : decode cX11_slimsAll 28 = .ok (.aload_n 0, 1) := by decide +kernel
theorem dX11_slimsAll_29 : decode cX11_slimsAll 29 = .ok (.invokevirtual 421, 3) := by decide +kernel
theorem dX11_slimsAll_32 : decode cX11_slimsAll 32 = .ok (.istore_n 2, 1) := by decide +kernel
theorem dX11_slimsAll_33 : decode cX11_slimsAll 33 = .ok (.goto (-26), 3) := by decide +kernel
theorem dX11_slimsAll_36 : decode cX11_slimsAll 36 = .ok (.iload_n 1, 1) := by decide +kernel
theorem dX11_slimsAll_37 : decode cX11_slimsAll 37 = .ok (.ireturn, 1) := by decide +kernel
theorem dX11_slims_0 : decode cX11_slims 0 = .ok (.aload_n 0, 1) := by decide +kernel
theorem dX11_slims_1 : decode cX11_slims 1 = .ok (.invokevirtual 109, 3) := by decide +kernel
theorem dX11_slims_4 : decode cX11_slims 4 = .ok (.ifCond .ne 6, 3) := by decide +kernel
theorem dX11_slims_7 : decode cX11_slims 7 = .ok (.bipush (-2), 2) := by decide +kernel
theorem dX11_slims_9 : decode cX11_slims 9 = .ok (.ireturn, 1) := by decide +kernel
theorem dX11_slims_10 : decode cX11_slims 10 = .ok (.aload_n 0, 1) := by decide +kernel
theorem dX11_slims_11 : decode cX11_slims 11 = .ok (.invokevirtual 334, 3) := by decide +kernel
theorem dX11_slims_14 : decode cX11_slims 14 = .ok (.ifCond .ne 5, 3) := by decide +kernel
theorem dX11_slims_17 : decode cX11_slims 17 = .ok (.iconst (-1), 1) := by decide +kernel
theorem dX11_slims_18 : decode cX11_slims 18 = .ok (.ireturn, 1) := by decide +kernel
theorem dX11_slims_19 : decode cX11_slims 19 = .ok (.aload_n 0, 1) := by decide +kernel
theorem dX11_slims_20 : decode cX11_slims 20 = .ok (.invokevirtual 360, 3) := by decide +kernel
theorem dX11_slims_23 : decode cX11_slims 23 = .ok (.aload_n 0, 1) := by decide +kernel
theorem dX11_slims_24 : decode cX11_slims 24 = .ok (.invokevirtual 424, 3) := by decide +kernel
theorem dX11_slims_27 : decode cX11_slims 27 = .ok (.istore_n 1, 1) := by decide +kernel
theorem dX11_slims_28 : decode cX11_slims 28 = .ok (.aload_n 0, 1) := by decide +kernel
theorem dX11_slims_29 : decode cX11_slims 29 = .ok (.invokevirtual 366, 3) := by decide +kernel
theorem dX11_slims_32 : decode cX11_slims 32 = .ok (.iload_n 1, 1) := by decide +kernel
theorem dX11_slims_33 : decode cX11_slims 33 = .ok (.ireturn, 1) := by decide +kernel
theorem dX11_slim_0 : decode cX11_slim 0 = .ok (.aload_n 0, 1) := by decide +kernel
theorem dX11_slim_1 : decode cX11_slim 1 = .ok (.iload_n 1, 1) := by decide +kernel
theorem dX11_slim_2 : decode cX11_slim 2 = .ok (.invokevirtual 305, 3) := by decide +kernel
theorem dX11_slim_5 : decode cX11_slim 5 = .ok (.ifCond .ne 6, 3) := by decide +kernel
theorem dX11_slim_8 : decode cX11_slim 8 = .ok (.bipush (-2), 2) := by decide +kernel
theorem dX11_slim_10 : decode cX11_slim 10 = .ok (.ireturn, 1) := by decide +kernel
theorem dX11_slim_11 : decode cX11_slim 11 = .ok (.aload_n 0, 1) := by decide +kernel
theorem dX11_slim_12 : decode cX11_slim 12 = .ok (.invokevirtual 334, 3) := by decide +kernel
theorem dX11_slim_15 : decode cX11_slim 15 = .ok (.ifCond .ne 5, 3) := by decide +kernel
theorem dX11_slim_18 : decode cX11_slim 18 = .ok (.iconst (-1), 1) := by decide +kernel
theorem dX11_slim_19 : decode cX11_slim 19 = .ok (.ireturn, 1) := by decide +kernel
theorem dX11_slim_20 : decode cX11_slim 20 = .ok (.aload_n 0, 1) := by decide +kernel
theorem dX11_slim_21 : decode cX11_slim 21 = .ok (.invokevirtual 360, 3) := by decide +kernel
theorem dX11_slim_24 : decode cX11_slim 24 = .ok (.aload_n 0, 1) := by decide +kernel
theorem dX11_slim_25 : decode cX11_slim 25 = .ok (.invokevirtual 424, 3) := by decide +kernel
theorem dX11_slim_28 : decode cX11_slim 28 = .ok (.pop, 1) := by decide +kernel
theorem dX11_slim_29 : decode cX11_slim 29 = .ok (.aload_n 0, 1) := by decide +kernel
theorem dX11_slim_30 : decode cX11_slim 30 = .ok (.getfield 9, 3) := by decide +kernel
theorem dX11_slim_33 : decode cX11_slim 33 = .ok (.bipush 28, 2) := by decide +kernel
theorem dX11_slim_35 : decode cX11_slim 35 = .ok (.iload_n 1, 1) := by decide +kernel
theorem dX11_slim_36 : decode cX11_slim 36 = .ok (.iadd, 1) := by decide +kernel
theorem dX11_slim_37 : decode cX11_slim 37 = .ok (.iaload, 1) := by decide +kernel
theorem dX11_slim_38 : decode cX11_slim 38 = .ok (.istore_n 2, 1) := by decide +kernel
theorem dX11_slim_39 : decode cX11_slim 39 = .ok (.aload_n 0, 1) := by decide +kernel
theorem dX11_slim_40 : decode cX11_slim 40 = .ok (.invokevirtual 366, 3) := by decide +kernel
theorem dX11_slim_43 : decode cX11_slim 43 = .ok (.iload_n 2, 1) := by decide +kernel
theorem dX11_slim_44 : decode cX11_slim 44 = .ok (.ireturn, 1) := by decide +kernel
theorem dX11_holdsWithout_0 : decode cX11_holdsWithout 0 = .ok (.aload_n 0, 1) := by decide +kernel
theorem dX11_holdsWithout_1 : decode cX11_holdsWithout 1 = .ok (.getfield 9, 3) := by decide +kernel
theorem dX11_holdsWithout_4 : decode cX11_holdsWithout 4 = .ok (.bipush 28, 2) := by decide +kernel
theorem dX11_holdsWithout_6 : decode cX11_holdsWithout 6 = .ok (.iload_n 1, 1) := by decide +kernel
theorem dX11_holdsWithout_7 : decode cX11_holdsWithout 7 = .ok (.iadd, 1) := by decide +kernel
theorem dX11_holdsWithout_8 : decode cX11_holdsWithout 8 = .ok (.iaload, 1) := by decide +kernel
theorem dX11_holdsWithout_9 : decode cX11_holdsWithout 9 = .ok (.istore_n 3, 1) := by decide +kernel
theorem dX11_holdsWithout_10 : decode cX11_holdsWithout 10 = .ok (.aload_n 0, 1) := by decide +kernel
theorem dX11_holdsWithout_11 : decode cX11_holdsWithout 11 = .ok (.getfield 9, 3) := by decide +kernel
theorem dX11_holdsWithout_14 : decode cX11_holdsWithout 14 = .ok (.bipush 28, 2) := by decide +kernel
theorem dX11_holdsWithout_16 : decode cX11_holdsWithout 16 = .ok (.iload_n 2, 1) := by decide +kernel
theorem dX11_holdsWithout_17 : decode cX11_holdsWithout 17 = .ok (.iadd, 1) := by decide +kernel
theorem dX11_holdsWithout_18 : decode cX11_holdsWithout 18 = .ok (.iaload, 1) := by decide +kernel
theorem dX11_holdsWithout_19 : decode cX11_holdsWithout 19 = .ok (.istore 4, 2) := by decide +kernel
theorem dX11_holdsWithout_21 : decode cX11_holdsWithout 21 = .ok (.aload_n 0, 1) := by decide +kernel
theorem dX11_holdsWithout_22 : decode cX11_holdsWithout 22 = .ok (.getfield 9, 3) := by decide +kernel
theorem dX11_holdsWithout_25 : decode cX11_holdsWithout 25 = .ok (.bipush 28, 2) := by decide +kernel
theorem dX11_holdsWithout_27 : decode cX11_holdsWithout 27 = .ok (.iload_n 1, 1) := by decide +kernel
theorem dX11_holdsWithout_28 : decode cX11_holdsWithout 28 = .ok (.iadd, 1) := by decide +kernel
theorem dX11_holdsWithout_29 : decode cX11_holdsWithout 29 = .ok (.iconst 0, 1) := by decide +kernel
theorem dX11_holdsWithout_30 : decode cX11_holdsWithout 30 = .ok (.iastore, 1) := by decide +kernel
theorem dX11_holdsWithout_31 : decode cX11_holdsWithout 31 = .ok (.aload_n 0, 1) := by decide +kernel
theorem dX11_holdsWithout_32 : decode cX11_holdsWithout 32 = .ok (.getfield 9, 3) := by decide +kernel
theorem dX11_holdsWithout_35 : decode cX11_holdsWithout 35 = .ok (.bipush 28, 2) := by decide +kernel
theorem dX11_holdsWithout_37 : decode cX11_holdsWithout 37 = .ok (.iload_n 2, 1) := by decide +kernel
theorem dX11_holdsWithout_38 : decode cX11_holdsWithout 38 = .ok (.iadd, 1) := by decide +kernel
theorem dX11_holdsWithout_39 : decode cX11_holdsWithout 39 = .ok (.iconst 0, 1) := by decide +kernel
theorem dX11_holdsWithout_40 : decode cX11_holdsWithout 40 = .ok (.iastore, 1) := by decide +kernel
theorem dX11_holdsWithout_41 : decode cX11_holdsWithout 41 = .ok (.aload_n 0, 1) := by decide +kernel
theorem dX11_holdsWithout_42 : decode cX11_holdsWithout 42 = .ok (.invokevirtual 334, 3) := by decide +kernel
theorem dX11_holdsWithout_45 : decode cX11_holdsWithout 45 = .ok (.istore 5, 2) := by decide +kernel
theorem dX11_holdsWithout_47 : decode cX11_holdsWithout 47 = .ok (.aload_n 0, 1) := by decide +kernel
theorem dX11_holdsWithout_48 : decode cX11_holdsWithout 48 = .ok (.getfield 9, 3) := by decide +kernel
theorem dX11_holdsWithout_51 : decode cX11_holdsWithout 51 = .ok (.bipush 28, 2) := by decide +kernel
theorem dX11_holdsWithout_53 : decode cX11_holdsWithout 53 = .ok (.iload_n 2, 1) := by decide +kernel
theorem dX11_holdsWithout_54 : decode cX11_holdsWithout 54 = .ok (.iadd, 1) := by decide +kernel
theorem dX11_holdsWithout_55 : decode cX11_holdsWithout 55 = .ok (.iload 4, 2) := by decide +kernel
theorem dX11_holdsWithout_57 : decode cX11_holdsWithout 57 = .ok (.iastore, 1) := by decide +kernel
theorem dX11_holdsWithout_58 : decode cX11_holdsWithout 58 = .ok (.aload_n 0, 1) := by decide +kernel
theorem dX11_holdsWithout_59 : decode cX11_holdsWithout 59 = .ok (.getfield 9, 3) := by decide +kernel
theorem dX11_holdsWithout_62 : decode cX11_holdsWithout 62 = .ok (.bipush 28, 2) := by decide +kernel
theorem dX11_holdsWithout_64 : decode cX11_holdsWithout 64 = .ok (.iload_n 1, 1) := by decide +kernel
theorem dX11_holdsWithout_65 : decode cX11_holdsWithout 65 = .ok (.iadd, 1) := by decide +kernel
theorem dX11_holdsWithout_66 : decode cX11_holdsWithout 66 = .ok (.iload_n 3, 1) := by decide +kernel
theorem dX11_holdsWithout_67 : decode cX11_holdsWithout 67 = .ok (.iastore, 1) := by decide +kernel
theorem dX11_holdsWithout_68 : decode cX11_holdsWithout 68 = .ok (.iload 5, 2) := by decide +kernel
theorem dX11_holdsWithout_70 : decode cX11_holdsWithout 70 = .ok (.ireturn, 1) := by decide +kernel
theorem dX11_isPair_0 : decode cX11_isPair 0 = .ok (.aload_n 0, 1) := by decide +kernel
theorem dX11_isPair_1 : decode cX11_isPair 1 = .ok (.getfield 9, 3) := by decide +kernel
theorem dX11_isPair_4 : decode cX11_isPair 4 = .ok (.bipush 28, 2) := by decide +kernel
theorem dX11_isPair_6 : decode cX11_isPair 6 = .ok (.iload_n 1, 1) := by decide +kernel
theorem dX11_isPair_7 : decode cX11_isPair 7 = .ok (.iadd, 1) := by decide +kernel
theorem dX11_isPair_8 : decode cX11_isPair 8 = .ok (.iaload, 1) := by decide +kernel
theorem dX11_isPair_9 : decode cX11_isPair 9 = .ok (.ifCond .eq 15, 3) := by decide +kernel
theorem dX11_isPair_12 : decode cX11_isPair 12 = .ok (.aload_n 0, 1) := by decide +kernel
theorem dX11_isPair_13 : decode cX11_isPair 13 = .ok (.getfield 9, 3) := by decide +kernel
theorem dX11_isPair_16 : decode cX11_isPair 16 = .ok (.bipush 28, 2) := by decide +kernel
theorem dX11_isPair_18 : decode cX11_isPair 18 = .ok (.iload_n 2, 1) := by decide +kernel
theorem dX11_isPair_19 : decode cX11_isPair 19 = .ok (.iadd, 1) := by decide +kernel
theorem dX11_isPair_20 : decode cX11_isPair 20 = .ok (.iaload, 1) := by decide +kernel
theorem dX11_isPair_21 : decode cX11_isPair 21 = .ok (.ifCond .ne 5, 3) := by decide +kernel
theorem dX11_isPair_24 : decode cX11_isPair 24 = .ok (.iconst 0, 1) := by decide +kernel
theorem dX11_isPair_25 : decode cX11_isPair 25 = .ok (.ireturn, 1) := by decide +kernel
theorem dX11_isPair_26 : decode cX11_isPair 26 = .ok (.aload_n 0, 1) := by decide +kernel
theorem dX11_isPair_27 : decode cX11_isPair 27 = .ok (.iload_n 1, 1) := by decide +kernel
theorem dX11_isPair_28 : decode cX11_isPair 28 = .ok (.iload_n 2, 1) := by decide +kernel
theorem dX11_isPair_29 : decode cX11_isPair 29 = .ok (.invokevirtual 427, 3) := by decide +kernel
theorem dX11_isPair_32 : decode cX11_isPair 32 = .ok (.ifCond .ne 25, 3) := by decide +kernel
theorem dX11_isPair_35 : decode cX11_isPair 35 = .ok (.aload_n 0, 1) := by decide +kernel
theorem dX11_isPair_36 : decode cX11_isPair 36 = .ok (.iload_n 1, 1) := by decide +kernel
theorem dX11_isPair_37 : decode cX11_isPair 37 = .ok (.iload_n 1, 1) := by decide +kernel
theorem dX11_isPair_38 : decode cX11_isPair 38 = .ok (.invokevirtual 427, 3) := by decide +kernel
theorem dX11_isPair_41 : decode cX11_isPair 41 = .ok (.ifCond .eq 16, 3) := by decide +kernel
theorem dX11_isPair_44 : decode cX11_isPair 44 = .ok (.aload_n 0, 1) := by decide +kernel
theorem dX11_isPair_45 : decode cX11_isPair 45 = .ok (.iload_n 2, 1) := by decide +kernel
theorem dX11_isPair_46 : decode cX11_isPair 46 = .ok (.iload_n 2, 1) := by decide +kernel
theorem dX11_isPair_47 : decode cX11_isPair 47 = .ok (.invokevirtual 427, 3) := by decide +kernel
theorem dX11_isPair_50 : decode cX11_isPair 50 = .ok (.ifCond .eq 7, 3) := by decide +kernel
theorem dX11_isPair_53 : decode cX11_isPair 53 = .ok (.iconst 1, 1) := by decide +kernel
theorem dX11_isPair_54 : decode cX11_isPair 54 = .ok (.goto 4, 3) := by decide +kernel
theorem dX11_isPair_57 : decode cX11_isPair 57 = .ok (.iconst 0, 1) := by decide +kernel
theorem dX11_isPair_58 : decode cX11_isPair 58 = .ok (.ireturn, 1) := by decide +kernel
theorem dX11_pairBy_0 : decode cX11_pairBy 0 = .ok (.iconst 0, 1) := by decide +kernel
theorem dX11_pairBy_1 : decode cX11_pairBy 1 = .ok (.istore_n 2, 1) := by decide +kernel
theorem dX11_pairBy_2 : decode cX11_pairBy 2 = .ok (.iconst 0, 1) := by decide +kernel
theorem dX11_pairBy_3 : decode cX11_pairBy 3 = .ok (.istore_n 3, 1) := by decide +kernel
theorem dX11_pairBy_4 : decode cX11_pairBy 4 = .ok (.iload_n 3, 1) := by decide +kernel
theorem dX11_pairBy_5 : decode cX11_pairBy 5 = .ok (.aload_n 0, 1) := by decide +kernel
theorem dX11_pairBy_6 : decode cX11_pairBy 6 = .ok (.invokevirtual 116, 3) := by decide +kernel
theorem dX11_pairBy_9 : decode cX11_pairBy 9 = .ok (.if_icmp .ge 58, 3) := by decide +kernel
theorem dX11_pairBy_12 : decode cX11_pairBy 12 = .ok (.iload_n 3, 1) := by decide +kernel
theorem dX11_pairBy_13 : decode cX11_pairBy 13 = .ok (.iconst 1, 1) := by decide +kernel
theorem dX11_pairBy_14 : decode cX11_pairBy 14 = .ok (.iadd, 1) := by decide +kernel
theorem dX11_pairBy_15 : decode cX11_pairBy 15 = .ok (.istore 4, 2) := by decide +kernel
theorem dX11_pairBy_17 : decode cX11_pairBy 17 = .ok (.iload 4, 2) := by decide +kernel
theorem dX11_pairBy_19 : decode cX11_pairBy 19 = .ok (.aload_n 0, 1) := by decide +kernel
theorem dX11_pairBy_20 : decode cX11_pairBy 20 = .ok (.invokevirtual 116, 3) := by decide +kernel
theorem dX11_pairBy_23 : decode cX11_pairBy 23 = .ok (.if_icmp .ge 38, 3) := by decide +kernel
theorem dX11_pairBy_26 : decode cX11_pairBy 26 = .ok (.aload_n 0, 1) := by decide +kernel
theorem dX11_pairBy_27 : decode cX11_pairBy 27 = .ok (.iload_n 3, 1) := by decide +kernel
theorem dX11_pairBy_28 : decode cX11_pairBy 28 = .ok (.iload 4, 2) := by decide +kernel
theorem dX11_pairBy_30 : decode cX11_pairBy 30 = .ok (.invokevirtual 430, 3) := by decide +kernel
theorem dX11_pairBy_33 : decode cX11_pairBy 33 = .ok (.ifCond .ne 6, 3) := by decide +kernel
theorem dX11_pairBy_36 : decode cX11_pairBy 36 = .ok (.goto 19, 3) := by decide +kernel
theorem dX11_pairBy_39 : decode cX11_pairBy 39 = .ok (.iload_n 2, 1) := by decide +kernel
theorem dX11_pairBy_40 : decode cX11_pairBy 40 = .ok (.iload_n 1, 1) := by decide +kernel
theorem dX11_pairBy_41 : decode cX11_pairBy 41 = .ok (.if_icmp .ne 11, 3) := by decide +kernel
theorem dX11_pairBy_44 : decode cX11_pairBy 44 = .ok (.bipush 100, 2) := by decide +kernel
theorem dX11_pairBy_46 : decode cX11_pairBy 46 = .ok (.iload_n 3, 1) := by decide +kernel
theorem dX11_pairBy_47 : decode cX11_pairBy 47 = .ok (.imul, 1) := by decide +kernel
theorem dX11_pairBy_48 : decode cX11_pairBy 48 = .ok (.iload 4, 2) := by decide +kernel
theorem dX11_pairBy_50 : decode cX11_pairBy 50 = .ok (.iadd, 1) := by decide +kernel
theorem dX11_pairBy_51 : decode cX11_pairBy 51 = .ok (.ireturn, 1) := by decide +kernel
theorem dX11_pairBy_52 : decode cX11_pairBy 52 = .ok (.iinc 2 1, 3) := by decide +kernel
theorem dX11_pairBy_55 : decode cX11_pairBy 55 = .ok (.iinc 4 1, 3) := by decide +kernel
theorem dX11_pairBy_58 : decode cX11_pairBy 58 = .ok (.goto (-41), 3) := by decide +kernel
theorem dX11_pairBy_61 : decode cX11_pairBy 61 = .ok (.iinc 3 1, 3) := by decide +kernel
theorem dX11_pairBy_64 : decode cX11_pairBy 64 = .ok (.goto (-60), 3) := by decide +kernel
theorem dX11_pairBy_67 : decode cX11_pairBy 67 = .ok (.iload_n 1, 1) := by decide +kernel
theorem dX11_pairBy_68 : decode cX11_pairBy 68 = .ok (.ifCond .ge 7, 3) := by decide +kernel
theorem dX11_pairBy_71 : decode cX11_pairBy 71 = .ok (.iload_n 2, 1) := by decide +kernel
theorem dX11_pairBy_72 : decode cX11_pairBy 72 = .ok (.goto 4, 3) := by decide +kernel
theorem dX11_pairBy_75 : decode cX11_pairBy 75 = .ok (.iconst (-1), 1) := by decide +kernel
theorem dX11_pairBy_76 : decode cX11_pairBy 76 = .ok (.ireturn, 1) := by decide +kernel
theorem dX11_pairs_0 : decode cX11_pairs 0 = .ok (.aload_n 0, 1) := by decide +kernel
theorem dX11_pairs_1 : decode cX11_pairs 1 = .ok (.invokevirtual 109, 3) := by decide +kernel
theorem dX11_pairs_4 : decode cX11_pairs 4 = .ok (.ifCond .eq 11, 3) := by decide +kernel
theorem dX11_pairs_7 : decode cX11_pairs 7 = .ok (.aload_n 0, 1) := by decide +kernel
theorem dX11_pairs_8 : decode cX11_pairs 8 = .ok (.iconst (-1), 1) := by decide +kernel
theorem dX11_pairs_9 : decode cX11_pairs 9 = .ok (.invokevirtual 433, 3) := by decide +kernel
theorem dX11_pairs_12 : decode cX11_pairs 12 = .ok (.goto 5, 3) := by decide +kernel
theorem dX11_pairs_15 : decode cX11_pairs 15 = .ok (.bipush (-2), 2) := by decide +kernel
theorem dX11_pairs_17 : decode cX11_pairs 17 = .ok (.ireturn, 1) := by decide +kernel
theorem dX11_pair_0 : decode cX11_pair 0 = .ok (.aload_n 0, 1) := by decide +kernel
theorem dX11_pair_1 : decode cX11_pair 1 = .ok (.invokevirtual 109, 3) := by decide +kernel
theorem dX11_pair_4 : decode cX11_pair 4 = .ok (.ifCond .eq 15, 3) := by decide +kernel
theorem dX11_pair_7 : decode cX11_pair 7 = .ok (.iload_n 1, 1) := by decide +kernel
theorem dX11_pair_8 : decode cX11_pair 8 = .ok (.ifCond .lt 11, 3) := by decide +kernel
theorem dX11_pair_11 : decode cX11_pair 11 = .ok (.aload_n 0, 1) := by decide +kernel
theorem dX11_pair_12 : decode cX11_pair 12 = .ok (.iload_n 1, 1) := by decide +kernel
theorem dX11_pair_13 : decode cX11_pair 13 = .ok (.invokevirtual 433, 3) := by decide +kernel
theorem dX11_pair_16 : decode cX11_pair 16 = .ok (.goto 5, 3) := by decide +kernel
theorem dX11_pair_19 : decode cX11_pair 19 = .ok (.bipush (-2), 2) := by decide +kernel
theorem dX11_pair_21 : decode cX11_pair 21 = .ok (.ireturn, 1) := by decide +kernel
theorem dX11_draws1_0 : decode cX11_draws1 0 = .ok (.aload_n 0, 1) := by decide +kernel
theorem dX11_draws1_1 : decode cX11_draws1 1 = .ok (.ldc2_w 436, 3) := by decide +kernel
theorem dX11_draws1_4 : decode cX11_draws1 4 = .ok (.aload_n 0, 1) := by decide +kernel
theorem dX11_draws1_5 : decode cX11_draws1 5 = .ok (.getfield 438, 3) := by decide +kernel
theorem dX11_draws1_8 : decode cX11_draws1 8 = .ok (.lmul, 1) := by decide +kernel
theorem dX11_draws1_9 : decode cX11_draws1 9 = .ok (.ldc2_w 441, 3) := by decide +kernel
theorem dX11_draws1_12 : decode cX11_draws1 12 = .ok (.ladd, 1) := by decide +kernel
theorem dX11_draws1_13 : decode cX11_draws1 13 = .ok (.ldc2_w 443, 3) := by decide +kernel
theorem dX11_draws1_16 : decode cX11_draws1 16 = .ok (.lrem, 1) := by decide +kernel
theorem dX11_draws1_17 : decode cX11_draws1 17 = .ok (.putfield 438, 3) := by decide +kernel
theorem dX11_draws1_20 : decode cX11_draws1 20 = .ok (.aload_n 0, 1) := by decide +kernel
theorem dX11_draws1_21 : decode cX11_draws1 21 = .ok (.getfield 438, 3) := by decide +kernel
theorem dX11_draws1_24 : decode cX11_draws1 24 = .ok (.ldc2_w 445, 3) := by decide +kernel
theorem dX11_draws1_27 : decode cX11_draws1 27 = .ok (.ldiv, 1) := by decide +kernel
theorem dX11_draws1_28 : decode cX11_draws1 28 = .ok (.iload_n 1, 1) := by decide +kernel
theorem dX11_draws1_29 : decode cX11_draws1 29 = .ok (.iconst 1, 1) := by decide +kernel
theorem dX11_draws1_30 : decode cX11_draws1 30 = .ok (.iadd, 1) := by decide +kernel
theorem dX11_draws1_31 : decode cX11_draws1 31 = .ok (.i2l, 1) := by decide +kernel
theorem dX11_draws1_32 : decode cX11_draws1 32 = .ok (.lrem, 1) := by decide +kernel
theorem dX11_draws1_33 : decode cX11_draws1 33 = .ok (.l2i, 1) := by decide +kernel
theorem dX11_draws1_34 : decode cX11_draws1 34 = .ok (.ireturn, 1) := by decide +kernel
theorem dX11_tries_0 : decode cX11_tries 0 = .ok (.aload_n 0, 1) := by decide +kernel
theorem dX11_tries_1 : decode cX11_tries 1 = .ok (.invokevirtual 360, 3) := by decide +kernel
theorem dX11_tries_4 : decode cX11_tries 4 = .ok (.aload_n 0, 1) := by decide +kernel
theorem dX11_tries_5 : decode cX11_tries 5 = .ok (.iload_n 1, 1) := by decide +kernel
theorem dX11_tries_6 : decode cX11_tries 6 = .ok (.i2l, 1) := by decide +kernel
theorem dX11_tries_7 : decode cX11_tries 7 = .ok (.putfield 438, 3) := by decide +kernel
theorem dX11_tries_10 : decode cX11_tries 10 = .ok (.iconst 0, 1) := by decide +kernel
theorem dX11_tries_11 : decode cX11_tries 11 = .ok (.istore_n 3, 1) := by decide +kernel
theorem dX11_tries_12 : decode cX11_tries 12 = .ok (.aload_n 0, 1) := by decide +kernel
theorem dX11_tries_13 : decode cX11_tries 13 = .ok (.lconst 0, 1) := by decide +kernel
theorem dX11_tries_14 : decode cX11_tries 14 = .ok (.putfield 372, 3) := by decide +kernel
theorem dX11_tries_17 : decode cX11_tries 17 = .ok (.aload_n 0, 1) := by decide +kernel
theorem dX11_tries_18 : decode cX11_tries 18 = .ok (.lconst 1, 1) := by decide +kernel
theorem dX11_tries_19 : decode cX11_tries 19 = .ok (.putfield 375, 3) := by decide +kernel
theorem dX11_tries_22 : decode cX11_tries 22 = .ok (.iconst 0, 1) := by decide +kernel
theorem dX11_tries_23 : decode cX11_tries 23 = .ok (.istore 4, 2) := by decide +kernel
theorem dX11_tries_25 : decode cX11_tries 25 = .ok (.iload 4, 2) := by decide +kernel
theorem dX11_tries_27 : decode cX11_tries 27 = .ok (.iload_n 2, 1) := by decide +kernel
theorem dX11_tries_28 : decode cX11_tries 28 = .ok (.if_icmp .ge 107, 3) := by decide +kernel
theorem dX11_tries_31 : decode cX11_tries 31 = .ok (.iconst 0, 1) := by decide +kernel
theorem dX11_tries_32 : decode cX11_tries 32 = .ok (.istore 5, 2) := by decide +kernel
theorem dX11_tries_34 : decode cX11_tries 34 = .ok (.iload 5, 2) := by decide +kernel
theorem dX11_tries_36 : decode cX11_tries 36 = .ok (.aload_n 0, 1) := by decide +kernel
theorem dX11_tries_37 : decode cX11_tries 37 = .ok (.invokevirtual 98, 3) := by decide +kernel
theorem dX11_tries_40 : decode cX11_tries 40 = .ok (.if_icmp .ge 33, 3) := by decide +kernel
theorem dX11_tries_43 : decode cX11_tries 43 = .ok (.aload_n 0, 1) := by decide +kernel
theorem dX11_tries_44 : decode cX11_tries 44 = .ok (.getfield 9, 3) := by decide +kernel
theorem dX11_tries_47 : decode cX11_tries 47 = .ok (.bipush 6, 2) := by decide +kernel
theorem dX11_tries_49 : decode cX11_tries 49 = .ok (.iload 5, 2) := by decide +kernel
theorem dX11_tries_51 : decode cX11_tries 51 = .ok (.iadd, 1) := by decide +kernel
theorem dX11_tries_52 : decode cX11_tries 52 = .ok (.aload_n 0, 1) := by decide +kernel
theorem dX11_tries_53 : decode cX11_tries 53 = .ok (.aload_n 0, 1) := by decide +kernel
theorem dX11_tries_54 : decode cX11_tries 54 = .ok (.getfield 63, 3) := by decide +kernel
theorem dX11_tries_57 : decode cX11_tries 57 = .ok (.bipush 6, 2) := by decide +kernel
theorem dX11_tries_59 : decode cX11_tries 59 = .ok (.iload 5, 2) := by decide +kernel
theorem dX11_tries_61 : decode cX11_tries 61 = .ok (.iadd, 1) := by decide +kernel
theorem dX11_tries_62 : decode cX11_tries 62 = .ok (.iaload, 1) := by decide +kernel
theorem dX11_tries_63 : decode cX11_tries 63 = .ok (.invokevirtual 447, 3) := by decide +kernel
theorem dX11_tries_66 : decode cX11_tries 66 = .ok (.iastore, 1) := by decide +kernel
theorem dX11_tries_67 : decode cX11_tries 67 = .ok (.iinc 5 1, 3) := by decide +kernel
theorem dX11_tries_70 : decode cX11_tries 70 = .ok (.goto (-36), 3) := by decide +kernel
theorem dX11_tries_73 : decode cX11_tries 73 = .ok (.iload_n 3, 1) := by decide +kernel
theorem dX11_tries_74 : decode cX11_tries 74 = .ok (.aload_n 0, 1) := by decide +kernel
theorem dX11_tries_75 : decode cX11_tries 75 = .ok (.invokevirtual 334, 3) := by decide +kernel
theorem dX11_tries_78 : decode cX11_tries 78 = .ok (.ifCond .eq 7, 3) := by decide +kernel
theorem dX11_tries_81 : decode cX11_tries 81 = .ok (.iconst 1, 1) := by decide +kernel
theorem dX11_tries_82 : decode cX11_tries 82 = .ok (.goto 4, 3) := by decide +kernel
theorem dX11_tries_85 : decode cX11_tries 85 = .ok (.iconst 0, 1) := by decide +kernel
theorem dX11_tries_86 : decode cX11_tries 86 = .ok (.iadd, 1) := by decide +kernel
theorem dX11_tries_87 : decode cX11_tries 87 = .ok (.istore_n 3, 1) := by decide +kernel
theorem dX11_tries_88 : decode cX11_tries 88 = .ok (.aload_n 0, 1) := by decide +kernel
theorem dX11_tries_89 : decode cX11_tries 89 = .ok (.invokevirtual 298, 3) := by decide +kernel
theorem dX11_tries_92 : decode cX11_tries 92 = .ok (.aload_n 0, 1) := by decide +kernel
theorem dX11_tries_93 : decode cX11_tries 93 = .ok (.getfield 50, 3) := by decide +kernel
theorem dX11_tries_96 : decode cX11_tries 96 = .ok (.aload_n 0, 1) := by decide +kernel
theorem dX11_tries_97 : decode cX11_tries 97 = .ok (.getfield 372, 3) := by decide +kernel
theorem dX11_tries_100 : decode cX11_tries 100 = .ok (.aload_n 0, 1) := by decide +kernel
theorem dX11_tries_101 : decode cX11_tries 101 = .ok (.getfield 375, 3) := by decide +kernel
theorem dX11_tries_104 : decode cX11_tries 104 = .ok (.invokestatic 378, 3) := by decide +kernel
theorem dX11_tries_107 : decode cX11_tries 107 = .ok (.ifCond .gt 6, 3) := by decide +kernel
theorem dX11_tries_110 : decode cX11_tries 110 = .ok (.goto 19, 3) := by decide +kernel
theorem dX11_tries_113 : decode cX11_tries 113 = .ok (.aload_n 0, 1) := by decide +kernel
theorem dX11_tries_114 : decode cX11_tries 114 = .ok (.aload_n 0, 1) := by decide +kernel
theorem dX11_tries_115 : decode cX11_tries 115 = .ok (.invokevirtual 298, 3) := by decide +kernel
theorem dX11_tries_118 : decode cX11_tries 118 = .ok (.putfield 372, 3) := by decide +kernel
theorem dX11_tries_121 : decode cX11_tries 121 = .ok (.aload_n 0, 1) := by decide +kernel
theorem dX11_tries_122 : decode cX11_tries 122 = .ok (.aload_n 0, 1) := by decide +kernel
theorem dX11_tries_123 : decode cX11_tries 123 = .ok (.getfield 50, 3) := by decide +kernel
theorem dX11_tries_126 : decode cX11_tries 126 = .ok (.putfield 375, 3) := by decide +kernel
theorem dX11_tries_129 : decode cX11_tries 129 = .ok (.iinc 4 1, 3) := by decide +kernel
theorem dX11_tries_132 : decode cX11_tries 132 = .ok (.goto (-107), 3) := by decide +kernel
theorem dX11_tries_135 : decode cX11_tries 135 = .ok (.aload_n 0, 1) := by decide +kernel
theorem dX11_tries_136 : decode cX11_tries 136 = .ok (.invokevirtual 366, 3) := by decide +kernel
theorem dX11_tries_139 : decode cX11_tries 139 = .ok (.iload_n 3, 1) := by decide +kernel
theorem dX11_tries_140 : decode cX11_tries 140 = .ok (.ireturn, 1) := by decide +kernel
theorem dX11_chance_0 : decode cX11_chance 0 = .ok (.aload_n 0, 1) := by decide +kernel
theorem dX11_chance_1 : decode cX11_chance 1 = .ok (.invokevirtual 109, 3) := by decide +kernel
theorem dX11_chance_4 : decode cX11_chance 4 = .ok (.ifCond .eq 28, 3) := by decide +kernel
theorem dX11_chance_7 : decode cX11_chance 7 = .ok (.iload_n 1, 1) := by decide +kernel
theorem dX11_chance_8 : decode cX11_chance 8 = .ok (.ifCond .lt 24, 3) := by decide +kernel
theorem dX11_chance_11 : decode cX11_chance 11 = .ok (.iload_n 2, 1) := by decide +kernel
theorem dX11_chance_12 : decode cX11_chance 12 = .ok (.i2l, 1) := by decide +kernel
theorem dX11_chance_13 : decode cX11_chance 13 = .ok (.lconst 1, 1) := by decide +kernel
theorem dX11_chance_14 : decode cX11_chance 14 = .ok (.ldc2_w 358, 3) := by decide +kernel
theorem dX11_chance_17 : decode cX11_chance 17 = .ok (.invokestatic 87, 3) := by decide +kernel
theorem dX11_chance_20 : decode cX11_chance 20 = .ok (.ifCond .eq 12, 3) := by decide +kernel
theorem dX11_chance_23 : decode cX11_chance 23 = .ok (.aload_n 0, 1) := by decide +kernel
theorem dX11_chance_24 : decode cX11_chance 24 = .ok (.iload_n 1, 1) := by decide +kernel
theorem dX11_chance_25 : decode cX11_chance 25 = .ok (.iload_n 2, 1) := by decide +kernel
theorem dX11_chance_26 : decode cX11_chance 26 = .ok (.invokevirtual 450, 3) := by decide +kernel
theorem dX11_chance_29 : decode cX11_chance 29 = .ok (.goto 5, 3) := by decide +kernel
theorem dX11_chance_32 : decode cX11_chance 32 = .ok (.bipush (-2), 2) := by decide +kernel
theorem dX11_chance_34 : decode cX11_chance 34 = .ok (.ireturn, 1) := by decide +kernel
theorem dX11_luck_0 : decode cX11_luck 0 = .ok (.aload_n 0, 1) := by decide +kernel
theorem dX11_luck_1 : decode cX11_luck 1 = .ok (.invokevirtual 109, 3) := by decide +kernel
theorem dX11_luck_4 : decode cX11_luck 4 = .ok (.ifCond .eq 26, 3) := by decide +kernel
theorem dX11_luck_7 : decode cX11_luck 7 = .ok (.iload_n 1, 1) := by decide +kernel
theorem dX11_luck_8 : decode cX11_luck 8 = .ok (.ifCond .lt 22, 3) := by decide +kernel
theorem dX11_luck_11 : decode cX11_luck 11 = .ok (.iload_n 2, 1) := by decide +kernel
theorem dX11_luck_12 : decode cX11_luck 12 = .ok (.i2l, 1) := by decide +kernel
theorem dX11_luck_13 : decode cX11_luck 13 = .ok (.lconst 1, 1) := by decide +kernel
theorem dX11_luck_14 : decode cX11_luck 14 = .ok (.ldc2_w 358, 3) := by decide +kernel
theorem dX11_luck_17 : decode cX11_luck 17 = .ok (.invokestatic 87, 3) := by decide +kernel
theorem dX11_luck_20 : decode cX11_luck 20 = .ok (.ifCond .eq 10, 3) := by decide +kernel
theorem dX11_luck_23 : decode cX11_luck 23 = .ok (.iload_n 3, 1) := by decide +kernel
theorem dX11_luck_24 : decode cX11_luck 24 = .ok (.invokestatic 313, 3) := by decide +kernel
theorem dX11_luck_27 : decode cX11_luck 27 = .ok (.ifCond .ne 7, 3) := by decide +kernel
theorem dX11_luck_30 : decode cX11_luck 30 = .ok (.ldc2_w 316, 3) := by decide +kernel
theorem dX11_luck_33 : decode cX11_luck 33 = .ok (.lreturn, 1) := by decide +kernel
theorem dX11_luck_34 : decode cX11_luck 34 = .ok (.aload_n 0, 1) := by decide +kernel
theorem dX11_luck_35 : decode cX11_luck 35 = .ok (.iload_n 1, 1) := by decide +kernel
theorem dX11_luck_36 : decode cX11_luck 36 = .ok (.iload_n 2, 1) := by decide +kernel
theorem dX11_luck_37 : decode cX11_luck 37 = .ok (.invokevirtual 450, 3) := by decide +kernel
theorem dX11_luck_40 : decode cX11_luck 40 = .ok (.pop, 1) := by decide +kernel
theorem dX11_luck_41 : decode cX11_luck 41 = .ok (.aload_n 0, 1) := by decide +kernel
theorem dX11_luck_42 : decode cX11_luck 42 = .ok (.getfield 372, 3) := by decide +kernel
theorem dX11_luck_45 : decode cX11_luck 45 = .ok (.aload_n 0, 1) := by decide +kernel
theorem dX11_luck_46 : decode cX11_luck 46 = .ok (.getfield 375, 3) := by decide +kernel
theorem dX11_luck_49 : decode cX11_luck 49 = .ok (.iload_n 3, 1) := by decide +kernel
theorem dX11_luck_50 : decode cX11_luck 50 = .ok (.invokestatic 320, 3) := by decide +kernel
theorem dX11_luck_53 : decode cX11_luck 53 = .ok (.lreturn, 1) := by decide +kernel
theorem dX11_without_0 : decode cX11_without 0 = .ok (.aload_n 0, 1) := by decide +kernel
theorem dX11_without_1 : decode cX11_without 1 = .ok (.iload_n 1, 1) := by decide +kernel
theorem dX11_without_2 : decode cX11_without 2 = .ok (.invokevirtual 305, 3) := by decide +kernel
theorem dX11_without_5 : decode cX11_without 5 = .ok (.ifCond .eq 10, 3) := by decide +kernel
theorem dX11_without_8 : decode cX11_without 8 = .ok (.iload_n 2, 1) := by decide +kernel
theorem dX11_without_9 : decode cX11_without 9 = .ok (.invokestatic 313, 3) := by decide +kernel
theorem dX11_without_12 : decode cX11_without 12 = .ok (.ifCond .ne 7, 3) := by decide +kernel
theorem dX11_without_15 : decode cX11_without 15 = .ok (.ldc2_w 316, 3) := by decide +kernel
theorem dX11_without_18 : decode cX11_without 18 = .ok (.lreturn, 1) := by decide +kernel
theorem dX11_without_19 : decode cX11_without 19 = .ok (.aload_n 0, 1) := by decide +kernel
theorem dX11_without_20 : decode cX11_without 20 = .ok (.getfield 9, 3) := by decide +kernel
theorem dX11_without_23 : decode cX11_without 23 = .ok (.bipush 28, 2) := by decide +kernel
theorem dX11_without_25 : decode cX11_without 25 = .ok (.iload_n 1, 1) := by decide +kernel
theorem dX11_without_26 : decode cX11_without 26 = .ok (.iadd, 1) := by decide +kernel
theorem dX11_without_27 : decode cX11_without 27 = .ok (.iaload, 1) := by decide +kernel
theorem dX11_without_28 : decode cX11_without 28 = .ok (.istore_n 3, 1) := by decide +kernel
theorem dX11_without_29 : decode cX11_without 29 = .ok (.aload_n 0, 1) := by decide +kernel
theorem dX11_without_30 : decode cX11_without 30 = .ok (.getfield 9, 3) := by decide +kernel
theorem dX11_without_33 : decode cX11_without 33 = .ok (.bipush 28, 2) := by decide +kernel
theorem dX11_without_35 : decode cX11_without 35 = .ok (.iload_n 1, 1) := by decide +kernel
theorem dX11_without_36 : decode cX11_without 36 = .ok (.iadd, 1) := by decide +kernel
theorem dX11_without_37 : decode cX11_without 37 = .ok (.iconst 0, 1) := by decide +kernel
theorem dX11_without_38 : decode cX11_without 38 = .ok (.iastore, 1) := by decide +kernel
theorem dX11_without_39 : decode cX11_without 39 = .ok (.aload_n 0, 1) := by decide +kernel
theorem dX11_without_40 : decode cX11_without 40 = .ok (.invokevirtual 292, 3) := by decide +kernel
theorem dX11_without_43 : decode cX11_without 43 = .ok (.aload_n 0, 1) := by decide +kernel
theorem dX11_without_44 : decode cX11_without 44 = .ok (.invokevirtual 298, 3) := by decide +kernel
theorem dX11_without_47 : decode cX11_without 47 = .ok (.aload_n 0, 1) := by decide +kernel
theorem dX11_without_48 : decode cX11_without 48 = .ok (.getfield 50, 3) := by decide +kernel
theorem dX11_without_51 : decode cX11_without 51 = .ok (.iload_n 2, 1) := by decide +kernel
theorem dX11_without_52 : decode cX11_without 52 = .ok (.invokestatic 320, 3) := by decide +kernel
theorem dX11_without_55 : decode cX11_without 55 = .ok (.lstore 4, 2) := by decide +kernel
theorem dX11_without_57 : decode cX11_without 57 = .ok (.aload_n 0, 1) := by decide +kernel
theorem dX11_without_58 : decode cX11_without 58 = .ok (.getfield 9, 3) := by decide +kernel
theorem dX11_without_61 : decode cX11_without 61 = .ok (.bipush 28, 2) := by decide +kernel
theorem dX11_without_63 : decode cX11_without 63 = .ok (.iload_n 1, 1) := by decide +kernel
theorem dX11_without_64 : decode cX11_without 64 = .ok (.iadd, 1) := by decide +kernel
theorem dX11_without_65 : decode cX11_without 65 = .ok (.iload_n 3, 1) := by decide +kernel
theorem dX11_without_66 : decode cX11_without 66 = .ok (.iastore, 1) := by decide +kernel
theorem dX11_without_67 : decode cX11_without 67 = .ok (.lload 4, 2) := by decide +kernel
theorem dX11_without_69 : decode cX11_without 69 = .ok (.lreturn, 1) := by decide +kernel
theorem dX11_lost_0 : decode cX11_lost 0 = .ok (.aload_n 0, 1) := by decide +kernel
theorem dX11_lost_1 : decode cX11_lost 1 = .ok (.iload_n 1, 1) := by decide +kernel
theorem dX11_lost_2 : decode cX11_lost 2 = .ok (.invokevirtual 305, 3) := by decide +kernel
theorem dX11_lost_5 : decode cX11_lost 5 = .ok (.ifCond .ne 6, 3) := by decide +kernel
theorem dX11_lost_8 : decode cX11_lost 8 = .ok (.bipush (-2), 2) := by decide +kernel
theorem dX11_lost_10 : decode cX11_lost 10 = .ok (.ireturn, 1) := by decide +kernel
theorem dX11_lost_11 : decode cX11_lost 11 = .ok (.aload_n 0, 1) := by decide +kernel
theorem dX11_lost_12 : decode cX11_lost 12 = .ok (.getfield 9, 3) := by decide +kernel
theorem dX11_lost_15 : decode cX11_lost 15 = .ok (.bipush 28, 2) := by decide +kernel
theorem dX11_lost_17 : decode cX11_lost 17 = .ok (.iload_n 1, 1) := by decide +kernel
theorem dX11_lost_18 : decode cX11_lost 18 = .ok (.iadd, 1) := by decide +kernel
theorem dX11_lost_19 : decode cX11_lost 19 = .ok (.iaload, 1) := by decide +kernel
theorem dX11_lost_20 : decode cX11_lost 20 = .ok (.istore_n 2, 1) := by decide +kernel
theorem dX11_lost_21 : decode cX11_lost 21 = .ok (.aload_n 0, 1) := by decide +kernel
theorem dX11_lost_22 : decode cX11_lost 22 = .ok (.getfield 9, 3) := by decide +kernel
theorem dX11_lost_25 : decode cX11_lost 25 = .ok (.bipush 28, 2) := by decide +kernel
theorem dX11_lost_27 : decode cX11_lost 27 = .ok (.iload_n 1, 1) := by decide +kernel
theorem dX11_lost_28 : decode cX11_lost 28 = .ok (.iadd, 1) := by decide +kernel
theorem dX11_lost_29 : decode cX11_lost 29 = .ok (.iconst 0, 1) := by decide +kernel
theorem dX11_lost_30 : decode cX11_lost 30 = .ok (.iastore, 1) := by decide +kernel
theorem dX11_lost_31 : decode cX11_lost 31 = .ok (.aload_n 0, 1) := by decide +kernel
theorem dX11_lost_32 : decode cX11_lost 32 = .ok (.invokevirtual 292, 3) := by decide +kernel
theorem dX11_lost_35 : decode cX11_lost 35 = .ok (.aload_n 0, 1) := by decide +kernel
theorem dX11_lost_36 : decode cX11_lost 36 = .ok (.getfield 9, 3) := by decide +kernel
theorem dX11_lost_39 : decode cX11_lost 39 = .ok (.bipush 28, 2) := by decide +kernel
theorem dX11_lost_41 : decode cX11_lost 41 = .ok (.iload_n 1, 1) := by decide +kernel
theorem dX11_lost_42 : decode cX11_lost 42 = .ok (.iadd, 1) := by decide +kernel
theorem dX11_lost_43 : decode cX11_lost 43 = .ok (.iload_n 2, 1) := by decide +kernel
theorem dX11_lost_44 : decode cX11_lost 44 = .ok (.iastore, 1) := by decide +kernel
theorem dX11_lost_45 : decode cX11_lost 45 = .ok (.aload_n 0, 1) := by decide +kernel
theorem dX11_lost_46 : decode cX11_lost 46 = .ok (.getfield 266, 3) := by decide +kernel
theorem dX11_lost_49 : decode cX11_lost 49 = .ok (.ireturn, 1) := by decide +kernel
theorem dX11_vital_0 : decode cX11_vital 0 = .ok (.aload_n 0, 1) := by decide +kernel
theorem dX11_vital_1 : decode cX11_vital 1 = .ok (.invokevirtual 109, 3) := by decide +kernel
theorem dX11_vital_4 : decode cX11_vital 4 = .ok (.ifCond .ne 6, 3) := by decide +kernel
theorem dX11_vital_7 : decode cX11_vital 7 = .ok (.bipush (-2), 2) := by decide +kernel
theorem dX11_vital_9 : decode cX11_vital 9 = .ok (.ireturn, 1) := by decide +kernel
theorem dX11_vital_10 : decode cX11_vital 10 = .ok (.iconst (-1), 1) := by decide +kernel
theorem dX11_vital_11 : decode cX11_vital 11 = .ok (.istore_n 1, 1) := by decide +kernel
theorem dX11_vital_12 : decode cX11_vital 12 = .ok (.aload_n 0, 1) := by decide +kernel
theorem dX11_vital_13 : decode cX11_vital 13 = .ok (.iconst (-1), 1) := by decide +kernel
theorem dX11_vital_14 : decode cX11_vital 14 = .ok (.putfield 369, 3) := by decide +kernel
theorem dX11_vital_17 : decode cX11_vital 17 = .ok (.aload_n 0, 1) := by decide +kernel
theorem dX11_vital_18 : decode cX11_vital 18 = .ok (.lconst 0, 1) := by decide +kernel
theorem dX11_vital_19 : decode cX11_vital 19 = .ok (.putfield 372, 3) := by decide +kernel
theorem dX11_vital_22 : decode cX11_vital 22 = .ok (.aload_n 0, 1) := by decide +kernel
theorem dX11_vital_23 : decode cX11_vital 23 = .ok (.lconst 1, 1) := by decide +kernel
theorem dX11_vital_24 : decode cX11_vital 24 = .ok (.putfield 375, 3) := by decide +kernel
theorem dX11_vital_27 : decode cX11_vital 27 = .ok (.iconst 0, 1) := by decide +kernel
theorem dX11_vital_28 : decode cX11_vital 28 = .ok (.istore_n 2, 1) := by decide +kernel
theorem dX11_vital_29 : decode cX11_vital 29 = .ok (.iload_n 2, 1) := by decide +kernel
theorem dX11_vital_30 : decode cX11_vital 30 = .ok (.aload_n 0, 1) := by decide +kernel
theorem dX11_vital_31 : decode cX11_vital 31 = .ok (.invokevirtual 116, 3) := by decide +kernel
theorem dX11_vital_34 : decode cX11_vital 34 = .ok (.if_icmp .ge 56, 3) := by decide +kernel
theorem dX11_vital_37 : decode cX11_vital 37 = .ok (.aload_n 0, 1) := by decide +kernel
theorem dX11_vital_38 : decode cX11_vital 38 = .ok (.getfield 9, 3) := by decide +kernel
theorem dX11_vital_41 : decode cX11_vital 41 = .ok (.bipush 28, 2) := by decide +kernel
theorem dX11_vital_43 : decode cX11_vital 43 = .ok (.iload_n 2, 1) := by decide +kernel
theorem dX11_vital_44 : decode cX11_vital 44 = .ok (.iadd, 1) := by decide +kernel
theorem dX11_vital_45 : decode cX11_vital 45 = .ok (.iaload, 1) := by decide +kernel
theorem dX11_vital_46 : decode cX11_vital 46 = .ok (.istore_n 3, 1) := by decide +kernel
theorem dX11_vital_47 : decode cX11_vital 47 = .ok (.aload_n 0, 1) := by decide +kernel
theorem dX11_vital_48 : decode cX11_vital 48 = .ok (.getfield 9, 3) := by decide +kernel
theorem dX11_vital_51 : decode cX11_vital 51 = .ok (.bipush 28, 2) := by decide +kernel
theorem dX11_vital_53 : decode cX11_vital 53 = .ok (.iload_n 2, 1) := by decide +kernel
theorem dX11_vital_54 : decode cX11_vital 54 = .ok (.iadd, 1) := by decide +kernel
theorem dX11_vital_55 : decode cX11_vital 55 = .ok (.iconst 0, 1) := by decide +kernel
theorem dX11_vital_56 : decode cX11_vital 56 = .ok (.iastore, 1) := by decide +kernel
theorem dX11_vital_57 : decode cX11_vital 57 = .ok (.iload_n 3, 1) := by decide +kernel
theorem dX11_vital_58 : decode cX11_vital 58 = .ok (.ifCond .le 16, 3) := by decide +kernel
theorem dX11_vital_61 : decode cX11_vital 61 = .ok (.aload_n 0, 1) := by decide +kernel
theorem dX11_vital_62 : decode cX11_vital 62 = .ok (.invokevirtual 388, 3) := by decide +kernel
theorem dX11_vital_65 : decode cX11_vital 65 = .ok (.ifCond .le 9, 3) := by decide +kernel
theorem dX11_vital_68 : decode cX11_vital 68 = .ok (.iload_n 2, 1) := by decide +kernel
theorem dX11_vital_69 : decode cX11_vital 69 = .ok (.istore_n 1, 1) := by decide +kernel
theorem dX11_vital_70 : decode cX11_vital 70 = .ok (.aload_n 0, 1) := by decide +kernel
theorem dX11_vital_71 : decode cX11_vital 71 = .ok (.invokevirtual 382, 3) := by decide +kernel
theorem dX11_vital_74 : decode cX11_vital 74 = .ok (.aload_n 0, 1) := by decide +kernel
theorem dX11_vital_75 : decode cX11_vital 75 = .ok (.getfield 9, 3) := by decide +kernel
theorem dX11_vital_78 : decode cX11_vital 78 = .ok (.bipush 28, 2) := by decide +kernel
theorem dX11_vital_80 : decode cX11_vital 80 = .ok (.iload_n 2, 1) := by decide +kernel
theorem dX11_vital_81 : decode cX11_vital 81 = .ok (.iadd, 1) := by decide +kernel
theorem dX11_vital_82 : decode cX11_vital 82 = .ok (.iload_n 3, 1) := by decide +kernel
theorem dX11_vital_83 : decode cX11_vital 83 = .ok (.iastore, 1) := by decide +kernel
theorem dX11_vital_84 : decode cX11_vital 84 = .ok (.iinc 2 1, 3) := by decide +kernel
theorem dX11_vital_87 : decode cX11_vital 87 = .ok (.goto (-58), 3) := by decide +kernel
theorem dX11_vital_90 : decode cX11_vital 90 = .ok (.iload_n 1, 1) := by decide +kernel
theorem dX11_vital_91 : decode cX11_vital 91 = .ok (.ireturn, 1) := by decide +kernel
theorem dX11_spare_0 : decode cX11_spare 0 = .ok (.aload_n 0, 1) := by decide +kernel
theorem dX11_spare_1 : decode cX11_spare 1 = .ok (.invokevirtual 109, 3) := by decide +kernel
theorem dX11_spare_4 : decode cX11_spare 4 = .ok (.ifCond .ne 6, 3) := by decide +kernel
theorem dX11_spare_7 : decode cX11_spare 7 = .ok (.bipush (-2), 2) := by decide +kernel
theorem dX11_spare_9 : decode cX11_spare 9 = .ok (.ireturn, 1) := by decide +kernel
theorem dX11_spare_10 : decode cX11_spare 10 = .ok (.iconst 0, 1) := by decide +kernel
theorem dX11_spare_11 : decode cX11_spare 11 = .ok (.istore_n 1, 1) := by decide +kernel
theorem dX11_spare_12 : decode cX11_spare 12 = .ok (.iconst 0, 1) := by decide +kernel
theorem dX11_spare_13 : decode cX11_spare 13 = .ok (.istore_n 2, 1) := by decide +kernel
theorem dX11_spare_14 : decode cX11_spare 14 = .ok (.iload_n 2, 1) := by decide +kernel
theorem dX11_spare_15 : decode cX11_spare 15 = .ok (.aload_n 0, 1) := by decide +kernel
theorem dX11_spare_16 : decode cX11_spare 16 = .ok (.invokevirtual 116, 3) := by decide +kernel
theorem dX11_spare_19 : decode cX11_spare 19 = .ok (.if_icmp .ge 60, 3) := by decide +kernel
theorem dX11_spare_22 : decode cX11_spare 22 = .ok (.aload_n 0, 1) := by decide +kernel
theorem dX11_spare_23 : decode cX11_spare 23 = .ok (.getfield 9, 3) := by decide +kernel
theorem dX11_spare_26 : decode cX11_spare 26 = .ok (.bipush 28, 2) := by decide +kernel
theorem dX11_spare_28 : decode cX11_spare 28 = .ok (.iload_n 2, 1) := by decide +kernel
theorem dX11_spare_29 : decode cX11_spare 29 = .ok (.iadd, 1) := by decide +kernel
theorem dX11_spare_30 : decode cX11_spare 30 = .ok (.iaload, 1) := by decide +kernel
theorem dX11_spare_31 : decode cX11_spare 31 = .ok (.istore_n 3, 1) := by decide +kernel
theorem dX11_spare_32 : decode cX11_spare 32 = .ok (.aload_n 0, 1) := by decide +kernel
theorem dX11_spare_33 : decode cX11_spare 33 = .ok (.getfield 9, 3) := by decide +kernel
theorem dX11_spare_36 : decode cX11_spare 36 = .ok (.bipush 28, 2) := by decide +kernel
theorem dX11_spare_38 : decode cX11_spare 38 = .ok (.iload_n 2, 1) := by decide +kernel
theorem dX11_spare_39 : decode cX11_spare 39 = .ok (.iadd, 1) := by decide +kernel
theorem dX11_spare_40 : decode cX11_spare 40 = .ok (.iconst 0, 1) := by decide +kernel
theorem dX11_spare_41 : decode cX11_spare 41 = .ok (.iastore, 1) := by decide +kernel
theorem dX11_spare_42 : decode cX11_spare 42 = .ok (.iload_n 1, 1) := by decide +kernel
theorem dX11_spare_43 : decode cX11_spare 43 = .ok (.iload_n 3, 1) := by decide +kernel
theorem dX11_spare_44 : decode cX11_spare 44 = .ok (.ifCond .le 16, 3) := by decide +kernel
theorem dX11_spare_47 : decode cX11_spare 47 = .ok (.aload_n 0, 1) := by decide +kernel
theorem dX11_spare_48 : decode cX11_spare 48 = .ok (.invokevirtual 334, 3) := by decide +kernel
theorem dX11_spare_51 : decode cX11_spare 51 = .ok (.ifCond .eq 9, 3) := by decide +kernel
theorem dX11_spare_54 : decode cX11_spare 54 = .ok (.iconst 1, 1) := by decide +kernel
theorem dX11_spare_55 : decode cX11_spare 55 = .ok (.iload_n 2, 1) := by decide +kernel
theorem dX11_spare_56 : decode cX11_spare 56 = .ok (.ishl, 1) := by decide +kernel
theorem dX11_spare_57 : decode cX11_spare 57 = .ok (.goto 4, 3) := by decide +kernel
theorem dX11_spare_60 : decode cX11_spare 60 = .ok (.iconst 0, 1) := by decide +kernel
theorem dX11_spare_61 : decode cX11_spare 61 = .ok (.ior, 1) := by decide +kernel
theorem dX11_spare_62 : decode cX11_spare 62 = .ok (.istore_n 1, 1) := by decide +kernel
theorem dX11_spare_63 : decode cX11_spare 63 = .ok (.aload_n 0, 1) := by decide +kernel
theorem dX11_spare_64 : decode cX11_spare 64 = .ok (.getfield 9, 3) := by decide +kernel
theorem dX11_spare_67 : decode cX11_spare 67 = .ok (.bipush 28, 2) := by decide +kernel
theorem dX11_spare_69 : decode cX11_spare 69 = .ok (.iload_n 2, 1) := by decide +kernel
theorem dX11_spare_70 : decode cX11_spare 70 = .ok (.iadd, 1) := by decide +kernel
theorem dX11_spare_71 : decode cX11_spare 71 = .ok (.iload_n 3, 1) := by decide +kernel
theorem dX11_spare_72 : decode cX11_spare 72 = .ok (.iastore, 1) := by decide +kernel
theorem dX11_spare_73 : decode cX11_spare 73 = .ok (.iinc 2 1, 3) := by decide +kernel
theorem dX11_spare_76 : decode cX11_spare 76 = .ok (.goto (-62), 3) := by decide +kernel
theorem dX11_spare_79 : decode cX11_spare 79 = .ok (.iload_n 1, 1) := by decide +kernel
theorem dX11_spare_80 : decode cX11_spare 80 = .ok (.ireturn, 1) := by decide +kernel
theorem dX11_room_0 : decode cX11_room 0 = .ok (.aload_n 0, 1) := by decide +kernel
theorem dX11_room_1 : decode cX11_room 1 = .ok (.iload_n 1, 1) := by decide +kernel
theorem dX11_room_2 : decode cX11_room 2 = .ok (.invokevirtual 308, 3) := by decide +kernel
theorem dX11_room_5 : decode cX11_room 5 = .ok (.ifCond .ne 6, 3) := by decide +kernel
theorem dX11_room_8 : decode cX11_room 8 = .ok (.bipush (-2), 2) := by decide +kernel
theorem dX11_room_10 : decode cX11_room 10 = .ok (.ireturn, 1) := by decide +kernel
theorem dX11_room_11 : decode cX11_room 11 = .ok (.aload_n 0, 1) := by decide +kernel
theorem dX11_room_12 : decode cX11_room 12 = .ok (.getfield 9, 3) := by decide +kernel
theorem dX11_room_15 : decode cX11_room 15 = .ok (.bipush 6, 2) := by decide +kernel
theorem dX11_room_17 : decode cX11_room 17 = .ok (.iload_n 1, 1) := by decide +kernel
theorem dX11_room_18 : decode cX11_room 18 = .ok (.iadd, 1) := by decide +kernel
theorem dX11_room_19 : decode cX11_room 19 = .ok (.iaload, 1) := by decide +kernel
theorem dX11_room_20 : decode cX11_room 20 = .ok (.istore_n 2, 1) := by decide +kernel
theorem dX11_room_21 : decode cX11_room 21 = .ok (.bipush 99, 2) := by decide +kernel
theorem dX11_room_23 : decode cX11_room 23 = .ok (.istore_n 3, 1) := by decide +kernel
theorem dX11_room_24 : decode cX11_room 24 = .ok (.aload_n 0, 1) := by decide +kernel
theorem dX11_room_25 : decode cX11_room 25 = .ok (.getfield 9, 3) := by decide +kernel
theorem dX11_room_28 : decode cX11_room 28 = .ok (.bipush 6, 2) := by decide +kernel
theorem dX11_room_30 : decode cX11_room 30 = .ok (.iload_n 1, 1) := by decide +kernel
theorem dX11_room_31 : decode cX11_room 31 = .ok (.iadd, 1) := by decide +kernel
theorem dX11_room_32 : decode cX11_room 32 = .ok (.iload_n 3, 1) := by decide +kernel
theorem dX11_room_33 : decode cX11_room 33 = .ok (.iastore, 1) := by decide +kernel
theorem dX11_room_34 : decode cX11_room 34 = .ok (.iload_n 3, 1) := by decide +kernel
theorem dX11_room_35 : decode cX11_room 35 = .ok (.ifCond .lt 26, 3) := by decide +kernel
theorem dX11_room_38 : decode cX11_room 38 = .ok (.aload_n 0, 1) := by decide +kernel
theorem dX11_room_39 : decode cX11_room 39 = .ok (.invokevirtual 334, 3) := by decide +kernel
theorem dX11_room_42 : decode cX11_room 42 = .ok (.ifCond .ne 19, 3) := by decide +kernel
theorem dX11_room_45 : decode cX11_room 45 = .ok (.iinc 3 (-1), 3) := by decide +kernel
theorem dX11_room_48 : decode cX11_room 48 = .ok (.aload_n 0, 1) := by decide +kernel
theorem dX11_room_49 : decode cX11_room 49 = .ok (.getfield 9, 3) := by decide +kernel
theorem dX11_room_52 : decode cX11_room 52 = .ok (.bipush 6, 2) := by decide +kernel
theorem dX11_room_54 : decode cX11_room 54 = .ok (.iload_n 1, 1) := by decide +kernel
theorem dX11_room_55 : decode cX11_room 55 = .ok (.iadd, 1) := by decide +kernel
theorem dX11_room_56 : decode cX11_room 56 = .ok (.iload_n 3, 1) := by decide +kernel
theorem dX11_room_57 : decode cX11_room 57 = .ok (.iastore, 1) := by decide +kernel
theorem dX11_room_58 : decode cX11_room 58 = .ok (.goto (-24), 3) := by decide +kernel
theorem dX11_room_61 : decode cX11_room 61 = .ok (.aload_n 0, 1) := by decide +kernel
theorem dX11_room_62 : decode cX11_room 62 = .ok (.getfield 9, 3) := by decide +kernel
theorem dX11_room_65 : decode cX11_room 65 = .ok (.bipush 6, 2) := by decide +kernel
theorem dX11_room_67 : decode cX11_room 67 = .ok (.iload_n 1, 1) := by decide +kernel
theorem dX11_room_68 : decode cX11_room 68 = .ok (.iadd, 1) := by decide +kernel
theorem dX11_room_69 : decode cX11_room 69 = .ok (.iload_n 2, 1) := by decide +kernel
theorem dX11_room_70 : decode cX11_room 70 = .ok (.iastore, 1) := by decide +kernel
theorem dX11_room_71 : decode cX11_room 71 = .ok (.iload_n 3, 1) := by decide +kernel
theorem dX11_room_72 : decode cX11_room 72 = .ok (.ireturn, 1) := by decide +kernel
theorem dX11_isFull_0 : decode cX11_isFull 0 = .ok (.aload_n 0, 1) := by decide +kernel
theorem dX11_isFull_1 : decode cX11_isFull 1 = .ok (.getfield 91, 3) := by decide +kernel
theorem dX11_isFull_4 : decode cX11_isFull 4 = .ok (.bipush 20, 2) := by decide +kernel
theorem dX11_isFull_6 : decode cX11_isFull 6 = .ok (.if_icmp .ne 7, 3) := by decide +kernel
theorem dX11_isFull_9 : decode cX11_isFull 9 = .ok (.iconst 1, 1) := by decide +kernel
theorem dX11_isFull_10 : decode cX11_isFull 10 = .ok (.goto 4, 3) := by decide +kernel
theorem dX11_isFull_13 : decode cX11_isFull 13 = .ok (.iconst 0, 1) := by decide +kernel
theorem dX11_isFull_14 : decode cX11_isFull 14 = .ok (.ireturn, 1) := by decide +kernel
theorem dX11_remembers_0 : decode cX11_remembers 0 = .ok (.iconst 0, 1) := by decide +kernel
theorem dX11_remembers_1 : decode cX11_remembers 1 = .ok (.istore_n 3, 1) := by decide +kernel
theorem dX11_remembers_2 : decode cX11_remembers 2 = .ok (.iload_n 3, 1) := by decide +kernel
theorem dX11_remembers_3 : decode cX11_remembers 3 = .ok (.bipush 40, 2) := by decide +kernel
theorem dX11_remembers_5 : decode cX11_remembers 5 = .ok (.if_icmp .ge 29, 3) := by decide +kernel
theorem dX11_remembers_8 : decode cX11_remembers 8 = .ok (.aload_n 0, 1) := by decide +kernel
theorem dX11_remembers_9 : decode cX11_remembers 9 = .ok (.getfield 16, 3) := by decide +kernel
theorem dX11_remembers_12 : decode cX11_remembers 12 = .ok (.bipush 42, 2) := by decide +kernel
theorem dX11_remembers_14 : decode cX11_remembers 14 = .ok (.aload_n 0, 1) := by decide +kernel
theorem dX11_remembers_15 : decode cX11_remembers 15 = .ok (.getfield 91, 3) := by decide +kernel
theorem dX11_remembers_18 : decode cX11_remembers 18 = .ok (.imul, 1) := by decide +kernel
theorem dX11_remembers_19 : decode cX11_remembers 19 = .ok (.iload_n 3, 1) := by decide +kernel
theorem dX11_remembers_20 : decode cX11_remembers 20 = .ok (.iadd, 1) := by decide +kernel
theorem dX11_remembers_21 : decode cX11_remembers 21 = .ok (.aload_n 0, 1) := by decide +kernel
theorem dX11_remembers_22 : decode cX11_remembers 22 = .ok (.getfield 9, 3) := by decide +kernel
theorem dX11_remembers_25 : decode cX11_remembers 25 = .ok (.iload_n 3, 1) := by decide +kernel
theorem dX11_remembers_26 : decode cX11_remembers 26 = .ok (.iaload, 1) := by decide +kernel
theorem dX11_remembers_27 : decode cX11_remembers 27 = .ok (.iastore, 1) := by decide +kernel
theorem dX11_remembers_28 : decode cX11_remembers 28 = .ok (.iinc 3 1, 3) := by decide +kernel
theorem dX11_remembers_31 : decode cX11_remembers 31 = .ok (.goto (-29), 3) := by decide +kernel
theorem dX11_remembers_34 : decode cX11_remembers 34 = .ok (.aload_n 0, 1) := by decide +kernel
theorem dX11_remembers_35 : decode cX11_remembers 35 = .ok (.getfield 16, 3) := by decide +kernel
theorem dX11_remembers_38 : decode cX11_remembers 38 = .ok (.bipush 42, 2) := by decide +kernel
theorem dX11_remembers_40 : decode cX11_remembers 40 = .ok (.aload_n 0, 1) := by decide +kernel
theorem dX11_remembers_41 : decode cX11_remembers 41 = .ok (.getfield 91, 3) := by decide +kernel
theorem dX11_remembers_44 : decode cX11_remembers 44 = .ok (.imul, 1) := by decide +kernel
theorem dX11_remembers_45 : decode cX11_remembers 45 = .ok (.bipush 40, 2) := by decide +kernel
theorem dX11_remembers_47 : decode cX11_remembers 47 = .ok (.iadd, 1) := by decide +kernel
theorem dX11_remembers_48 : decode cX11_remembers 48 = .ok (.iload_n 1, 1) := by decide +kernel
theorem dX11_remembers_49 : decode cX11_remembers 49 = .ok (.iastore, 1) := by decide +kernel
theorem dX11_remembers_50 : decode cX11_remembers 50 = .ok (.aload_n 0, 1) := by decide +kernel
theorem dX11_remembers_51 : decode cX11_remembers 51 = .ok (.getfield 16, 3) := by decide +kernel
theorem dX11_remembers_54 : decode cX11_remembers 54 = .ok (.bipush 42, 2) := by decide +kernel
theorem dX11_remembers_56 : decode cX11_remembers 56 = .ok (.aload_n 0, 1) := by decide +kernel
theorem dX11_remembers_57 : decode cX11_remembers 57 = .ok (.getfield 91, 3) := by decide +kernel
theorem dX11_remembers_60 : decode cX11_remembers 60 = .ok (.imul, 1) := by decide +kernel
theorem dX11_remembers_61 : decode cX11_remembers 61 = .ok (.bipush 40, 2) := by decide +kernel
theorem dX11_remembers_63 : decode cX11_remembers 63 = .ok (.iadd, 1) := by decide +kernel
theorem dX11_remembers_64 : decode cX11_remembers 64 = .ok (.iconst 1, 1) := by decide +kernel
theorem dX11_remembers_65 : decode cX11_remembers 65 = .ok (.iadd, 1) := by decide +kernel
theorem dX11_remembers_66 : decode cX11_remembers 66 = .ok (.iload_n 2, 1) := by decide +kernel
theorem dX11_remembers_67 : decode cX11_remembers 67 = .ok (.iastore, 1) := by decide +kernel
theorem dX11_remembers_68 : decode cX11_remembers 68 = .ok (.aload_n 0, 1) := by decide +kernel
theorem dX11_remembers_69 : decode cX11_remembers 69 = .ok (.dup, 1) := by decide +kernel
theorem dX11_remembers_70 : decode cX11_remembers 70 = .ok (.getfield 91, 3) := by decide +kernel
theorem dX11_remembers_73 : decode cX11_remembers 73 = .ok (.iconst 1, 1) := by decide +kernel
theorem dX11_remembers_74 : decode cX11_remembers 74 = .ok (.iadd, 1) := by decide +kernel
theorem dX11_remembers_75 : decode cX11_remembers 75 = .ok (.putfield 91, 3) := by decide +kernel
theorem dX11_remembers_78 : decode cX11_remembers 78 = .ok (.return_, 1) := by decide +kernel
theorem dX11_did_0 : decode cX11_did 0 = .ok (.aload_n 0, 1) := by decide +kernel
theorem dX11_did_1 : decode cX11_did 1 = .ok (.invokevirtual 109, 3) := by decide +kernel
theorem dX11_did_4 : decode cX11_did 4 = .ok (.ifCond .eq 22, 3) := by decide +kernel
theorem dX11_did_7 : decode cX11_did 7 = .ok (.iload_n 1, 1) := by decide +kernel
theorem dX11_did_8 : decode cX11_did 8 = .ok (.i2l, 1) := by decide +kernel
theorem dX11_did_9 : decode cX11_did 9 = .ok (.lconst 0, 1) := by decide +kernel
theorem dX11_did_10 : decode cX11_did 10 = .ok (.ldc2_w 311, 3) := by decide +kernel
theorem dX11_did_13 : decode cX11_did 13 = .ok (.invokestatic 87, 3) := by decide +kernel
theorem dX11_did_16 : decode cX11_did 16 = .ok (.ifCond .eq 10, 3) := by decide +kernel
theorem dX11_did_19 : decode cX11_did 19 = .ok (.iload_n 2, 1) := by decide +kernel
theorem dX11_did_20 : decode cX11_did 20 = .ok (.invokestatic 313, 3) := by decide +kernel
theorem dX11_did_23 : decode cX11_did 23 = .ok (.ifCond .ne 6, 3) := by decide +kernel
theorem dX11_did_26 : decode cX11_did 26 = .ok (.bipush (-2), 2) := by decide +kernel
theorem dX11_did_28 : decode cX11_did 28 = .ok (.ireturn, 1) := by decide +kernel
theorem dX11_did_29 : decode cX11_did 29 = .ok (.iconst 0, 1) := by decide +kernel
theorem dX11_did_30 : decode cX11_did 30 = .ok (.istore_n 3, 1) := by decide +kernel
theorem dX11_did_31 : decode cX11_did 31 = .ok (.iconst 0, 1) := by decide +kernel
theorem dX11_did_32 : decode cX11_did 32 = .ok (.istore 4, 2) := by decide +kernel
theorem dX11_did_34 : decode cX11_did 34 = .ok (.iload 4, 2) := by decide +kernel
theorem dX11_did_36 : decode cX11_did 36 = .ok (.aload_n 0, 1) := by decide +kernel
theorem dX11_did_37 : decode cX11_did 37 = .ok (.getfield 91, 3) := by decide +kernel
theorem dX11_did_40 : decode cX11_did 40 = .ok (.if_icmp .ge 52, 3) := by decide +kernel
theorem dX11_did_43 : decode cX11_did 43 = .ok (.aload_n 0, 1) := by decide +kernel
theorem dX11_did_44 : decode cX11_did 44 = .ok (.getfield 16, 3) := by decide +kernel
theorem dX11_did_47 : decode cX11_did 47 = .ok (.bipush 42, 2) := by decide +kernel
theorem dX11_did_49 : decode cX11_did 49 = .ok (.iload 4, 2) := by decide +kernel
theorem dX11_did_51 : decode cX11_did 51 = .ok (.imul, 1) := by decide +kernel
theorem dX11_did_52 : decode cX11_did 52 = .ok (.bipush 40, 2) := by decide +kernel
theorem dX11_did_54 : decode cX11_did 54 = .ok (.iadd, 1) := by decide +kernel
theorem dX11_did_55 : decode cX11_did 55 = .ok (.iaload, 1) := by decide +kernel
theorem dX11_did_56 : decode cX11_did 56 = .ok (.iload_n 1, 1) := by decide +kernel
theorem dX11_did_57 : decode cX11_did 57 = .ok (.if_icmp .ne 29, 3) := by decide +kernel
theorem dX11_did_60 : decode cX11_did 60 = .ok (.iload_n 3, 1) := by decide +kernel
theorem dX11_did_61 : decode cX11_did 61 = .ok (.iload_n 2, 1) := by decide +kernel
theorem dX11_did_62 : decode cX11_did 62 = .ok (.ifCond .ne 7, 3) := by decide +kernel
theorem dX11_did_65 : decode cX11_did 65 = .ok (.iconst 1, 1) := by decide +kernel
theorem dX11_did_66 : decode cX11_did 66 = .ok (.goto 18, 3) := by decide +kernel
theorem dX11_did_69 : decode cX11_did 69 = .ok (.aload_n 0, 1) := by decide +kernel
theorem dX11_did_70 : decode cX11_did 70 = .ok (.getfield 16, 3) := by decide +kernel
theorem dX11_did_73 : decode cX11_did 73 = .ok (.bipush 42, 2) := by decide +kernel
theorem dX11_did_75 : decode cX11_did 75 = .ok (.iload 4, 2) := by decide +kernel
theorem dX11_did_77 : decode cX11_did 77 = .ok (.imul, 1) := by decide +kernel
theorem dX11_did_78 : decode cX11_did 78 = .ok (.bipush 40, 2) := by decide +kernel
theorem dX11_did_80 : decode cX11_did 80 = .ok (.iadd, 1) := by decide +kernel
theorem dX11_did_81 : decode cX11_did 81 = .ok (.iconst 1, 1) := by decide +kernel
theorem dX11_did_82 : decode cX11_did 82 = .ok (.iadd, 1) := by decide +kernel
theorem dX11_did_83 : decode cX11_did 83 = .ok (.iaload, 1) := by decide +kernel
theorem dX11_did_84 : decode cX11_did 84 = .ok (.iadd, 1) := by decide +kernel
theorem dX11_did_85 : decode cX11_did 85 = .ok (.istore_n 3, 1) := by decide +kernel
theorem dX11_did_86 : decode cX11_did 86 = .ok (.iinc 4 1, 3) := by decide +kernel
theorem dX11_did_89 : decode cX11_did 89 = .ok (.goto (-55), 3) := by decide +kernel
theorem dX11_did_92 : decode cX11_did 92 = .ok (.iload_n 3, 1) := by decide +kernel
theorem dX11_did_93 : decode cX11_did 93 = .ok (.ireturn, 1) := by decide +kernel
theorem dX11_lay_0 : decode cX11_lay 0 = .ok (.aload_n 0, 1) := by decide +kernel
theorem dX11_lay_1 : decode cX11_lay 1 = .ok (.iload_n 1, 1) := by decide +kernel
theorem dX11_lay_2 : decode cX11_lay 2 = .ok (.invokevirtual 305, 3) := by decide +kernel
theorem dX11_lay_5 : decode cX11_lay 5 = .ok (.ifCond .eq 15, 3) := by decide +kernel
theorem dX11_lay_8 : decode cX11_lay 8 = .ok (.iload_n 2, 1) := by decide +kernel
theorem dX11_lay_9 : decode cX11_lay 9 = .ok (.i2l, 1) := by decide +kernel
theorem dX11_lay_10 : decode cX11_lay 10 = .ok (.lconst 0, 1) := by decide +kernel
theorem dX11_lay_11 : decode cX11_lay 11 = .ok (.ldc2_w 453, 3) := by decide +kernel
theorem dX11_lay_14 : decode cX11_lay 14 = .ok (.invokestatic 87, 3) := by decide +kernel
theorem dX11_lay_17 : decode cX11_lay 17 = .ok (.ifCond .ne 6, 3) := by decide +kernel
theorem dX11_lay_20 : decode cX11_lay 20 = .ok (.bipush (-2), 2) := by decide +kernel
theorem dX11_lay_22 : decode cX11_lay 22 = .ok (.ireturn, 1) := by decide +kernel
theorem dX11_lay_23 : decode cX11_lay 23 = .ok (.aload_n 0, 1) := by decide +kernel
theorem dX11_lay_24 : decode cX11_lay 24 = .ok (.getfield 9, 3) := by decide +kernel
theorem dX11_lay_27 : decode cX11_lay 27 = .ok (.bipush 28, 2) := by decide +kernel
theorem dX11_lay_29 : decode cX11_lay 29 = .ok (.iload_n 1, 1) := by decide +kernel
theorem dX11_lay_30 : decode cX11_lay 30 = .ok (.iadd, 1) := by decide +kernel
theorem dX11_lay_31 : decode cX11_lay 31 = .ok (.iaload, 1) := by decide +kernel
theorem dX11_lay_32 : decode cX11_lay 32 = .ok (.istore_n 3, 1) := by decide +kernel
theorem dX11_lay_33 : decode cX11_lay 33 = .ok (.iload_n 3, 1) := by decide +kernel
theorem dX11_lay_34 : decode cX11_lay 34 = .ok (.iload_n 2, 1) := by decide +kernel
theorem dX11_lay_35 : decode cX11_lay 35 = .ok (.if_icmp .eq 10, 3) := by decide +kernel
theorem dX11_lay_38 : decode cX11_lay 38 = .ok (.aload_n 0, 1) := by decide +kernel
theorem dX11_lay_39 : decode cX11_lay 39 = .ok (.invokevirtual 455, 3) := by decide +kernel
theorem dX11_lay_42 : decode cX11_lay 42 = .ok (.ifCond .eq 6, 3) := by decide +kernel
theorem dX11_lay_45 : decode cX11_lay 45 = .ok (.bipush (-5), 2) := by decide +kernel
theorem dX11_lay_47 : decode cX11_lay 47 = .ok (.ireturn, 1) := by decide +kernel
theorem dX11_lay_48 : decode cX11_lay 48 = .ok (.aload_n 0, 1) := by decide +kernel
theorem dX11_lay_49 : decode cX11_lay 49 = .ok (.iconst 0, 1) := by decide +kernel
theorem dX11_lay_50 : decode cX11_lay 50 = .ok (.iload_n 3, 1) := by decide +kernel
theorem dX11_lay_51 : decode cX11_lay 51 = .ok (.invokevirtual 458, 3) := by decide +kernel
theorem dX11_lay_54 : decode cX11_lay 54 = .ok (.aload_n 0, 1) := by decide +kernel
theorem dX11_lay_55 : decode cX11_lay 55 = .ok (.getfield 9, 3) := by decide +kernel
theorem dX11_lay_58 : decode cX11_lay 58 = .ok (.bipush 28, 2) := by decide +kernel
theorem dX11_lay_60 : decode cX11_lay 60 = .ok (.iload_n 1, 1) := by decide +kernel
theorem dX11_lay_61 : decode cX11_lay 61 = .ok (.iadd, 1) := by decide +kernel
theorem dX11_lay_62 : decode cX11_lay 62 = .ok (.iload_n 2, 1) := by decide +kernel
theorem dX11_lay_63 : decode cX11_lay 63 = .ok (.iastore, 1) := by decide +kernel
theorem dX11_lay_64 : decode cX11_lay 64 = .ok (.iload_n 3, 1) := by decide +kernel
theorem dX11_lay_65 : decode cX11_lay 65 = .ok (.ireturn, 1) := by decide +kernel
theorem dX11_feeds_0 : decode cX11_feeds 0 = .ok (.aload_n 0, 1) := by decide +kernel
theorem dX11_feeds_1 : decode cX11_feeds 1 = .ok (.iload_n 1, 1) := by decide +kernel
theorem dX11_feeds_2 : decode cX11_feeds 2 = .ok (.invokevirtual 308, 3) := by decide +kernel
theorem dX11_feeds_5 : decode cX11_feeds 5 = .ok (.ifCond .ne 6, 3) := by decide +kernel
theorem dX11_feeds_8 : decode cX11_feeds 8 = .ok (.bipush (-2), 2) := by decide +kernel
theorem dX11_feeds_10 : decode cX11_feeds 10 = .ok (.ireturn, 1) := by decide +kernel
theorem dX11_feeds_11 : decode cX11_feeds 11 = .ok (.aload_n 0, 1) := by decide +kernel
theorem dX11_feeds_12 : decode cX11_feeds 12 = .ok (.invokevirtual 455, 3) := by decide +kernel
theorem dX11_feeds_15 : decode cX11_feeds 15 = .ok (.ifCond .eq 6, 3) := by decide +kernel
theorem dX11_feeds_18 : decode cX11_feeds 18 = .ok (.bipush (-5), 2) := by decide +kernel
theorem dX11_feeds_20 : decode cX11_feeds 20 = .ok (.ireturn, 1) := by decide +kernel
theorem dX11_feeds_21 : decode cX11_feeds 21 = .ok (.aload_n 0, 1) := by decide +kernel
theorem dX11_feeds_22 : decode cX11_feeds 22 = .ok (.iconst 1, 1) := by decide +kernel
theorem dX11_feeds_23 : decode cX11_feeds 23 = .ok (.iconst 0, 1) := by decide +kernel
theorem dX11_feeds_24 : decode cX11_feeds 24 = .ok (.invokevirtual 458, 3) := by decide +kernel
theorem dX11_feeds_27 : decode cX11_feeds 27 = .ok (.aload_n 0, 1) := by decide +kernel
theorem dX11_feeds_28 : decode cX11_feeds 28 = .ok (.getfield 9, 3) := by decide +kernel
theorem dX11_feeds_31 : decode cX11_feeds 31 = .ok (.iconst 5, 1) := by decide +kernel
theorem dX11_feeds_32 : decode cX11_feeds 32 = .ok (.dup2, 1) := by decide +kernel
theorem dX11_feeds_33 : decode cX11_feeds 33 = .ok (.iaload, 1) := by decide +kernel
theorem dX11_feeds_34 : decode cX11_feeds 34 = .ok (.iconst 1, 1) := by decide +kernel
theorem dX11_feeds_35 : decode cX11_feeds 35 = .ok (.iload_n 1, 1) := by decide +kernel
theorem dX11_feeds_36 : decode cX11_feeds 36 = .ok (.ishl, 1) := by decide +kernel
theorem dX11_feeds_37 : decode cX11_feeds 37 = .ok (.ixor, 1) := by decide +kernel
theorem dX11_feeds_38 : decode cX11_feeds 38 = .ok (.iastore, 1) := by decide +kernel
theorem dX11_feeds_39 : decode cX11_feeds 39 = .ok (.aload_n 0, 1) := by decide +kernel
theorem dX11_feeds_40 : decode cX11_feeds 40 = .ok (.getfield 9, 3) := by decide +kernel
theorem dX11_feeds_43 : decode cX11_feeds 43 = .ok (.iconst 5, 1) := by decide +kernel
theorem dX11_feeds_44 : decode cX11_feeds 44 = .ok (.iaload, 1) := by decide +kernel
theorem dX11_feeds_45 : decode cX11_feeds 45 = .ok (.invokestatic 394, 3) := by decide +kernel
theorem dX11_feeds_48 : decode cX11_feeds 48 = .ok (.ireturn, 1) := by decide +kernel
theorem dX11_draw_0 : decode cX11_draw 0 = .ok (.aload_n 0, 1) := by decide +kernel
theorem dX11_draw_1 : decode cX11_draw 1 = .ok (.iload_n 1, 1) := by decide +kernel
theorem dX11_draw_2 : decode cX11_draw 2 = .ok (.invokevirtual 308, 3) := by decide +kernel
theorem dX11_draw_5 : decode cX11_draw 5 = .ok (.ifCond .eq 15, 3) := by decide +kernel
theorem dX11_draw_8 : decode cX11_draw 8 = .ok (.iload_n 2, 1) := by decide +kernel
theorem dX11_draw_9 : decode cX11_draw 9 = .ok (.i2l, 1) := by decide +kernel
theorem dX11_draw_10 : decode cX11_draw 10 = .ok (.lconst 0, 1) := by decide +kernel
theorem dX11_draw_11 : decode cX11_draw 11 = .ok (.ldc2_w 461, 3) := by decide +kernel
theorem dX11_draw_14 : decode cX11_draw 14 = .ok (.invokestatic 87, 3) := by decide +kernel
theorem dX11_draw_17 : decode cX11_draw 17 = .ok (.ifCond .ne 6, 3) := by decide +kernel
theorem dX11_draw_20 : decode cX11_draw 20 = .ok (.bipush (-2), 2) := by decide +kernel
theorem dX11_draw_22 : decode cX11_draw 22 = .ok (.ireturn, 1) := by decide +kernel
theorem dX11_draw_23 : decode cX11_draw 23 = .ok (.aload_n 0, 1) := by decide +kernel
theorem dX11_draw_24 : decode cX11_draw 24 = .ok (.getfield 9, 3) := by decide +kernel
theorem dX11_draw_27 : decode cX11_draw 27 = .ok (.bipush 6, 2) := by decide +kernel
theorem dX11_draw_29 : decode cX11_draw 29 = .ok (.iload_n 1, 1) := by decide +kernel
theorem dX11_draw_30 : decode cX11_draw 30 = .ok (.iadd, 1) := by decide +kernel
theorem dX11_draw_31 : decode cX11_draw 31 = .ok (.iaload, 1) := by decide +kernel
theorem dX11_draw_32 : decode cX11_draw 32 = .ok (.istore_n 3, 1) := by decide +kernel
theorem dX11_draw_33 : decode cX11_draw 33 = .ok (.iload_n 3, 1) := by decide +kernel
theorem dX11_draw_34 : decode cX11_draw 34 = .ok (.iload_n 2, 1) := by decide +kernel
theorem dX11_draw_35 : decode cX11_draw 35 = .ok (.if_icmp .eq 10, 3) := by decide +kernel
theorem dX11_draw_38 : decode cX11_draw 38 = .ok (.aload_n 0, 1) := by decide +kernel
theorem dX11_draw_39 : decode cX11_draw 39 = .ok (.invokevirtual 455, 3) := by decide +kernel
theorem dX11_draw_42 : decode cX11_draw 42 = .ok (.ifCond .eq 6, 3) := by decide +kernel
theorem dX11_draw_45 : decode cX11_draw 45 = .ok (.bipush (-5), 2) := by decide +kernel
theorem dX11_draw_47 : decode cX11_draw 47 = .ok (.ireturn, 1) := by decide +kernel
theorem dX11_draw_48 : decode cX11_draw 48 = .ok (.aload_n 0, 1) := by decide +kernel
theorem dX11_draw_49 : decode cX11_draw 49 = .ok (.iconst 2, 1) := by decide +kernel
theorem dX11_draw_50 : decode cX11_draw 50 = .ok (.iload_n 3, 1) := by decide +kernel
theorem dX11_draw_51 : decode cX11_draw 51 = .ok (.invokevirtual 458, 3) := by decide +kernel
theorem dX11_draw_54 : decode cX11_draw 54 = .ok (.aload_n 0, 1) := by decide +kernel
theorem dX11_draw_55 : decode cX11_draw 55 = .ok (.getfield 9, 3) := by decide +kernel
theorem dX11_draw_58 : decode cX11_draw 58 = .ok (.bipush 6, 2) := by decide +kernel
theorem dX11_draw_60 : decode cX11_draw 60 = .ok (.iload_n 1, 1) := by decide +kernel
theorem dX11_draw_61 : decode cX11_draw 61 = .ok (.iadd, 1) := by decide +kernel
theorem dX11_draw_62 : decode cX11_draw 62 = .ok (.iload_n 2, 1) := by decide +kernel
theorem dX11_draw_63 : decode cX11_draw 63 = .ok (.iastore, 1) := by decide +kernel
theorem dX11_draw_64 : decode cX11_draw 64 = .ok (.iload_n 3, 1) := by decide +kernel
theorem dX11_draw_65 : decode cX11_draw 65 = .ok (.ireturn, 1) := by decide +kernel
theorem dX11_year_0 : decode cX11_year 0 = .ok (.aload_n 0, 1) := by decide +kernel
theorem dX11_year_1 : decode cX11_year 1 = .ok (.invokevirtual 109, 3) := by decide +kernel
theorem dX11_year_4 : decode cX11_year 4 = .ok (.ifCond .ne 6, 3) := by decide +kernel
theorem dX11_year_7 : decode cX11_year 7 = .ok (.bipush (-2), 2) := by decide +kernel
theorem dX11_year_9 : decode cX11_year 9 = .ok (.ireturn, 1) := by decide +kernel
theorem dX11_year_10 : decode cX11_year 10 = .ok (.aload_n 0, 1) := by decide +kernel
theorem dX11_year_11 : decode cX11_year 11 = .ok (.invokevirtual 455, 3) := by decide +kernel
theorem dX11_year_14 : decode cX11_year 14 = .ok (.ifCond .eq 6, 3) := by decide +kernel
theorem dX11_year_17 : decode cX11_year 17 = .ok (.bipush (-5), 2) := by decide +kernel
theorem dX11_year_19 : decode cX11_year 19 = .ok (.ireturn, 1) := by decide +kernel
theorem dX11_year_20 : decode cX11_year 20 = .ok (.aload_n 0, 1) := by decide +kernel
theorem dX11_year_21 : decode cX11_year 21 = .ok (.invokevirtual 355, 3) := by decide +kernel
theorem dX11_year_24 : decode cX11_year 24 = .ok (.istore_n 1, 1) := by decide +kernel
theorem dX11_year_25 : decode cX11_year 25 = .ok (.iconst 0, 1) := by decide +kernel
theorem dX11_year_26 : decode cX11_year 26 = .ok (.istore_n 2, 1) := by decide +kernel
theorem dX11_year_27 : decode cX11_year 27 = .ok (.iconst 0, 1) := by decide +kernel
theorem dX11_year_28 : decode cX11_year 28 = .ok (.istore_n 3, 1) := by decide +kernel
theorem dX11_year_29 : decode cX11_year 29 = .ok (.iload_n 3, 1) := by decide +kernel
theorem dX11_year_30 : decode cX11_year 30 = .ok (.aload_n 0, 1) := by decide +kernel
theorem dX11_year_31 : decode cX11_year 31 = .ok (.getfield 102, 3) := by decide +kernel
theorem dX11_year_34 : decode cX11_year 34 = .ok (.if_icmp .ge 25, 3) := by decide +kernel
theorem dX11_year_37 : decode cX11_year 37 = .ok (.iload_n 2, 1) := by decide +kernel
theorem dX11_year_38 : decode cX11_year 38 = .ok (.iload_n 1, 1) := by decide +kernel
theorem dX11_year_39 : decode cX11_year 39 = .ok (.iload_n 3, 1) := by decide +kernel
theorem dX11_year_40 : decode cX11_year 40 = .ok (.invokestatic 209, 3) := by decide +kernel
theorem dX11_year_43 : decode cX11_year 43 = .ok (.ifCond .eq 7, 3) := by decide +kernel
theorem dX11_year_46 : decode cX11_year 46 = .ok (.iconst 1, 1) := by decide +kernel
theorem dX11_year_47 : decode cX11_year 47 = .ok (.goto 4, 3) := by decide +kernel
theorem dX11_year_50 : decode cX11_year 50 = .ok (.iconst 0, 1) := by decide +kernel
theorem dX11_year_51 : decode cX11_year 51 = .ok (.iadd, 1) := by decide +kernel
theorem dX11_year_52 : decode cX11_year 52 = .ok (.istore_n 2, 1) := by decide +kernel
theorem dX11_year_53 : decode cX11_year 53 = .ok (.iinc 3 1, 3) := by decide +kernel
theorem dX11_year_56 : decode cX11_year 56 = .ok (.goto (-27), 3) := by decide +kernel
theorem dX11_year_59 : decode cX11_year 59 = .ok (.aload_n 0, 1) := by decide +kernel
theorem dX11_year_60 : decode cX11_year 60 = .ok (.iconst 3, 1) := by decide +kernel
theorem dX11_year_61 : decode cX11_year 61 = .ok (.iload_n 2, 1) := by decide +kernel
theorem dX11_year_62 : decode cX11_year 62 = .ok (.invokevirtual 458, 3) := by decide +kernel
theorem dX11_year_65 : decode cX11_year 65 = .ok (.aload_n 0, 1) := by decide +kernel
theorem dX11_year_66 : decode cX11_year 66 = .ok (.invokevirtual 363, 3) := by decide +kernel
theorem dX11_year_69 : decode cX11_year 69 = .ok (.pop, 1) := by decide +kernel
theorem dX11_year_70 : decode cX11_year 70 = .ok (.iload_n 2, 1) := by decide +kernel
theorem dX11_year_71 : decode cX11_year 71 = .ok (.ireturn, 1) := by decide +kernel
theorem dX11_takesBack_0 : decode cX11_takesBack 0 = .ok (.aload_n 0, 1) := by decide +kernel
theorem dX11_takesBack_1 : decode cX11_takesBack 1 = .ok (.dup, 1) := by decide +kernel
theorem dX11_takesBack_2 : decode cX11_takesBack 2 = .ok (.getfield 91, 3) := by decide +kernel
theorem dX11_takesBack_5 : decode cX11_takesBack 5 = .ok (.iconst 1, 1) := by decide +kernel
theorem dX11_takesBack_6 : decode cX11_takesBack 6 = .ok (.isub, 1) := by decide +kernel
theorem dX11_takesBack_7 : decode cX11_takesBack 7 = .ok (.putfield 91, 3) := by decide +kernel
theorem dX11_takesBack_10 : decode cX11_takesBack 10 = .ok (.iconst 0, 1) := by decide +kernel
theorem dX11_takesBack_11 : decode cX11_takesBack 11 = .ok (.istore_n 1, 1) := by decide +kernel
theorem dX11_takesBack_12 : decode cX11_takesBack 12 = .ok (.iload_n 1, 1) := by decide +kernel
theorem dX11_takesBack_13 : decode cX11_takesBack 13 = .ok (.bipush 40, 2) := by decide +kernel
theorem dX11_takesBack_15 : decode cX11_takesBack 15 = .ok (.if_icmp .ge 29, 3) := by decide +kernel
theorem dX11_takesBack_18 : decode cX11_takesBack 18 = .ok (.aload_n 0, 1) := by decide +kernel
theorem dX11_takesBack_19 : decode cX11_takesBack 19 = .ok (.getfield 9, 3) := by decide +kernel
theorem dX11_takesBack_22 : decode cX11_takesBack 22 = .ok (.iload_n 1, 1) := by decide +kernel
theorem dX11_takesBack_23 : decode cX11_takesBack 23 = .ok (.aload_n 0, 1) := by decide +kernel
theorem dX11_takesBack_24 : decode cX11_takesBack 24 = .ok (.getfield 16, 3) := by decide +kernel
theorem dX11_takesBack_27 : decode cX11_takesBack 27 = .ok (.bipush 42, 2) := by decide +kernel
theorem dX11_takesBack_29 : decode cX11_takesBack 29 = .ok (.aload_n 0, 1) := by decide +kernel
theorem dX11_takesBack_30 : decode cX11_takesBack 30 = .ok (.getfield 91, 3) := by decide +kernel
theorem dX11_takesBack_33 : decode cX11_takesBack 33 = .ok (.imul, 1) := by decide +kernel
theorem dX11_takesBack_34 : decode cX11_takesBack 34 = .ok (.iload_n 1, 1) := by decide +kernel
theorem dX11_takesBack_35 : decode cX11_takesBack 35 = .ok (.iadd, 1) := by decide +kernel
theorem dX11_takesBack_36 : decode cX11_takesBack 36 = .ok (.iaload, 1) := by decide +kernel
theorem dX11_takesBack_37 : decode cX11_takesBack 37 = .ok (.iastore, 1) := by decide +kernel
theorem dX11_takesBack_38 : decode cX11_takesBack 38 = .ok (.iinc 1 1, 3) := by decide +kernel
theorem dX11_takesBack_41 : decode cX11_takesBack 41 = .ok (.goto (-29), 3) := by decide +kernel
theorem dX11_takesBack_44 : decode cX11_takesBack 44 = .ok (.return_, 1) := by decide +kernel
theorem dX11_undo_0 : decode cX11_undo 0 = .ok (.aload_n 0, 1) := by decide +kernel
theorem dX11_undo_1 : decode cX11_undo 1 = .ok (.invokevirtual 109, 3) := by decide +kernel
theorem dX11_undo_4 : decode cX11_undo 4 = .ok (.ifCond .ne 6, 3) := by decide +kernel
theorem dX11_undo_7 : decode cX11_undo 7 = .ok (.bipush (-2), 2) := by decide +kernel
theorem dX11_undo_9 : decode cX11_undo 9 = .ok (.ireturn, 1) := by decide +kernel
theorem dX11_undo_10 : decode cX11_undo 10 = .ok (.aload_n 0, 1) := by decide +kernel
theorem dX11_undo_11 : decode cX11_undo 11 = .ok (.getfield 91, 3) := by decide +kernel
