theorem dX0_init_0 : decode cX0_init 0 = .ok (.aload_n 0, 1) := by decide +kernel
theorem dX0_init_1 : decode cX0_init 1 = .ok (.invokespecial 3, 3) := by decide +kernel
theorem dX0_init_4 : decode cX0_init 4 = .ok (.aload_n 0, 1) := by decide +kernel
theorem dX0_init_5 : decode cX0_init 5 = .ok (.lconst 0, 1) := by decide +kernel
theorem dX0_init_6 : decode cX0_init 6 = .ok (.putfield 9, 3) := by decide +kernel
theorem dX0_init_9 : decode cX0_init 9 = .ok (.aload_n 0, 1) := by decide +kernel
theorem dX0_init_10 : decode cX0_init 10 = .ok (.lconst 1, 1) := by decide +kernel
theorem dX0_init_11 : decode cX0_init 11 = .ok (.putfield 15, 3) := by decide +kernel
theorem dX0_init_14 : decode cX0_init 14 = .ok (.aload_n 0, 1) := by decide +kernel
theorem dX0_init_15 : decode cX0_init 15 = .ok (.bipush 9, 2) := by decide +kernel
theorem dX0_init_17 : decode cX0_init 17 = .ok (.newarray .int, 2) := by decide +kernel
theorem dX0_init_19 : decode cX0_init 19 = .ok (.putfield 18, 3) := by decide +kernel
theorem dX0_init_22 : decode cX0_init 22 = .ok (.aload_n 0, 1) := by decide +kernel
theorem dX0_init_23 : decode cX0_init 23 = .ok (.iconst 4, 1) := by decide +kernel
theorem dX0_init_24 : decode cX0_init 24 = .ok (.newarray .int, 2) := by decide +kernel
theorem dX0_init_26 : decode cX0_init 26 = .ok (.putfield 22, 3) := by decide +kernel
theorem dX0_init_29 : decode cX0_init 29 = .ok (.aload_n 0, 1) := by decide +kernel
theorem dX0_init_30 : decode cX0_init 30 = .ok (.new 25, 3) := by decide +kernel
theorem dX0_init_33 : decode cX0_init 33 = .ok (.dup, 1) := by decide +kernel
theorem dX0_init_34 : decode cX0_init 34 = .ok (.invokespecial 27, 3) := by decide +kernel
theorem dX0_init_37 : decode cX0_init 37 = .ok (.putfield 28, 3) := by decide +kernel
theorem dX0_init_40 : decode cX0_init 40 = .ok (.return_, 1) := by decide +kernel
theorem dX0_drawAgainst_0 : decode cX0_drawAgainst 0 = .ok (.aload_n 0, 1) := by decide +kernel
theorem dX0_drawAgainst_1 : decode cX0_drawAgainst 1 = .ok (.getfield 28, 3) := by decide +kernel
theorem dX0_drawAgainst_4 : decode cX0_drawAgainst 4 = .ok (.aload_n 1, 1) := by decide +kernel
theorem dX0_drawAgainst_5 : decode cX0_drawAgainst 5 = .ok (.aload_n 1, 1) := by decide +kernel
theorem dX0_drawAgainst_6 : decode cX0_drawAgainst 6 = .ok (.getfield 32, 3) := by decide +kernel
theorem dX0_drawAgainst_9 : decode cX0_drawAgainst 9 = .ok (.iload_n 2, 1) := by decide +kernel
theorem dX0_drawAgainst_10 : decode cX0_drawAgainst 10 = .ok (.invokevirtual 38, 3) := by decide +kernel
theorem dX0_drawAgainst_13 : decode cX0_drawAgainst 13 = .ok (.aload_n 0, 1) := by decide +kernel
theorem dX0_drawAgainst_14 : decode cX0_drawAgainst 14 = .ok (.lconst 0, 1) := by decide +kernel
theorem dX0_drawAgainst_15 : decode cX0_drawAgainst 15 = .ok (.putfield 9, 3) := by decide +kernel
theorem dX0_drawAgainst_18 : decode cX0_drawAgainst 18 = .ok (.aload_n 0, 1) := by decide +kernel
theorem dX0_drawAgainst_19 : decode cX0_drawAgainst 19 = .ok (.aload_n 0, 1) := by decide +kernel
theorem dX0_drawAgainst_20 : decode cX0_drawAgainst 20 = .ok (.getfield 28, 3) := by decide +kernel
theorem dX0_drawAgainst_23 : decode cX0_drawAgainst 23 = .ok (.getfield 42, 3) := by decide +kernel
theorem dX0_drawAgainst_26 : decode cX0_drawAgainst 26 = .ok (.putfield 15, 3) := by decide +kernel
theorem dX0_drawAgainst_29 : decode cX0_drawAgainst 29 = .ok (.aload_n 0, 1) := by decide +kernel
theorem dX0_drawAgainst_30 : decode cX0_drawAgainst 30 = .ok (.getfield 18, 3) := by decide +kernel
theorem dX0_drawAgainst_33 : decode cX0_drawAgainst 33 = .ok (.iconst 0, 1) := by decide +kernel
theorem dX0_drawAgainst_34 : decode cX0_drawAgainst 34 = .ok (.invokestatic 43, 3) := by decide +kernel
theorem dX0_drawAgainst_37 : decode cX0_drawAgainst 37 = .ok (.aload_n 1, 1) := by decide +kernel
theorem dX0_drawAgainst_38 : decode cX0_drawAgainst 38 = .ok (.getfield 49, 3) := by decide +kernel
theorem dX0_drawAgainst_41 : decode cX0_drawAgainst 41 = .ok (.iconst 0, 1) := by decide +kernel
theorem dX0_drawAgainst_42 : decode cX0_drawAgainst 42 = .ok (.aload_n 0, 1) := by decide +kernel
theorem dX0_drawAgainst_43 : decode cX0_drawAgainst 43 = .ok (.getfield 22, 3) := by decide +kernel
theorem dX0_drawAgainst_46 : decode cX0_drawAgainst 46 = .ok (.iconst 0, 1) := by decide +kernel
theorem dX0_drawAgainst_47 : decode cX0_drawAgainst 47 = .ok (.iconst 4, 1) := by decide +kernel
theorem dX0_drawAgainst_48 : decode cX0_drawAgainst 48 = .ok (.invokestatic 52, 3) := by decide +kernel
theorem dX0_drawAgainst_51 : decode cX0_drawAgainst 51 = .ok (.iconst 1, 1) := by decide +kernel
theorem dX0_drawAgainst_52 : decode cX0_drawAgainst 52 = .ok (.aload_n 1, 1) := by decide +kernel
theorem dX0_drawAgainst_53 : decode cX0_drawAgainst 53 = .ok (.getfield 58, 3) := by decide +kernel
theorem dX0_drawAgainst_56 : decode cX0_drawAgainst 56 = .ok (.ishl, 1) := by decide +kernel
theorem dX0_drawAgainst_57 : decode cX0_drawAgainst 57 = .ok (.iconst 1, 1) := by decide +kernel
theorem dX0_drawAgainst_58 : decode cX0_drawAgainst 58 = .ok (.isub, 1) := by decide +kernel
theorem dX0_drawAgainst_59 : decode cX0_drawAgainst 59 = .ok (.aload_n 0, 1) := by decide +kernel
theorem dX0_drawAgainst_60 : decode cX0_drawAgainst 60 = .ok (.getfield 28, 3) := by decide +kernel
theorem dX0_drawAgainst_63 : decode cX0_drawAgainst 63 = .ok (.getfield 61, 3) := by decide +kernel
theorem dX0_drawAgainst_66 : decode cX0_drawAgainst 66 = .ok (.iconst (-1), 1) := by decide +kernel
theorem dX0_drawAgainst_67 : decode cX0_drawAgainst 67 = .ok (.ixor, 1) := by decide +kernel
theorem dX0_drawAgainst_68 : decode cX0_drawAgainst 68 = .ok (.iand, 1) := by decide +kernel
theorem dX0_drawAgainst_69 : decode cX0_drawAgainst 69 = .ok (.istore_n 3, 1) := by decide +kernel
theorem dX0_drawAgainst_70 : decode cX0_drawAgainst 70 = .ok (.iconst 0, 1) := by decide +kernel
theorem dX0_drawAgainst_71 : decode cX0_drawAgainst 71 = .ok (.istore 4, 2) := by decide +kernel
theorem dX0_drawAgainst_73 : decode cX0_drawAgainst 73 = .ok (.iload 4, 2) := by decide +kernel
theorem dX0_drawAgainst_75 : decode cX0_drawAgainst 75 = .ok (.aload_n 1, 1) := by decide +kernel
theorem dX0_drawAgainst_76 : decode cX0_drawAgainst 76 = .ok (.getfield 58, 3) := by decide +kernel
theorem dX0_drawAgainst_79 : decode cX0_drawAgainst 79 = .ok (.if_icmp .ge 37, 3) := by decide +kernel
theorem dX0_drawAgainst_82 : decode cX0_drawAgainst 82 = .ok (.iload_n 3, 1) := by decide +kernel
theorem dX0_drawAgainst_83 : decode cX0_drawAgainst 83 = .ok (.ifCond .eq 33, 3) := by decide +kernel
theorem dX0_drawAgainst_86 : decode cX0_drawAgainst 86 = .ok (.aload_n 0, 1) := by decide +kernel
theorem dX0_drawAgainst_87 : decode cX0_drawAgainst 87 = .ok (.aload_n 1, 1) := by decide +kernel
theorem dX0_drawAgainst_88 : decode cX0_drawAgainst 88 = .ok (.iload_n 3, 1) := by decide +kernel
theorem dX0_drawAgainst_89 : decode cX0_drawAgainst 89 = .ok (.invokevirtual 64, 3) := by decide +kernel
theorem dX0_drawAgainst_92 : decode cX0_drawAgainst 92 = .ok (.istore 5, 2) := by decide +kernel
theorem dX0_drawAgainst_94 : decode cX0_drawAgainst 94 = .ok (.aload_n 0, 1) := by decide +kernel
theorem dX0_drawAgainst_95 : decode cX0_drawAgainst 95 = .ok (.aload_n 1, 1) := by decide +kernel
theorem dX0_drawAgainst_96 : decode cX0_drawAgainst 96 = .ok (.iload 5, 2) := by decide +kernel
theorem dX0_drawAgainst_98 : decode cX0_drawAgainst 98 = .ok (.invokevirtual 68, 3) := by decide +kernel
theorem dX0_drawAgainst_101 : decode cX0_drawAgainst 101 = .ok (.iload_n 3, 1) := by decide +kernel
theorem dX0_drawAgainst_102 : decode cX0_drawAgainst 102 = .ok (.iconst 1, 1) := by decide +kernel
theorem dX0_drawAgainst_103 : decode cX0_drawAgainst 103 = .ok (.iload 5, 2) := by decide +kernel
theorem dX0_drawAgainst_105 : decode cX0_drawAgainst 105 = .ok (.ishl, 1) := by decide +kernel
theorem dX0_drawAgainst_106 : decode cX0_drawAgainst 106 = .ok (.iconst (-1), 1) := by decide +kernel
theorem dX0_drawAgainst_107 : decode cX0_drawAgainst 107 = .ok (.ixor, 1) := by decide +kernel
theorem dX0_drawAgainst_108 : decode cX0_drawAgainst 108 = .ok (.iand, 1) := by decide +kernel
theorem dX0_drawAgainst_109 : decode cX0_drawAgainst 109 = .ok (.istore_n 3, 1) := by decide +kernel
theorem dX0_drawAgainst_110 : decode cX0_drawAgainst 110 = .ok (.iinc 4 1, 3) := by decide +kernel
theorem dX0_drawAgainst_113 : decode cX0_drawAgainst 113 = .ok (.goto (-40), 3) := by decide +kernel
theorem dX0_drawAgainst_116 : decode cX0_drawAgainst 116 = .ok (.return_, 1) := by decide +kernel
theorem dX0_strongest_0 : decode cX0_strongest 0 = .ok (.iconst 0, 1) := by decide +kernel
theorem dX0_strongest_1 : decode cX0_strongest 1 = .ok (.istore_n 3, 1) := by decide +kernel
theorem dX0_strongest_2 : decode cX0_strongest 2 = .ok (.ldc2_w 72, 3) := by decide +kernel
theorem dX0_strongest_5 : decode cX0_strongest 5 = .ok (.lstore 4, 2) := by decide +kernel
theorem dX0_strongest_7 : decode cX0_strongest 7 = .ok (.iconst 0, 1) := by decide +kernel
theorem dX0_strongest_8 : decode cX0_strongest 8 = .ok (.istore 6, 2) := by decide +kernel
theorem dX0_strongest_10 : decode cX0_strongest 10 = .ok (.iload 6, 2) := by decide +kernel
theorem dX0_strongest_12 : decode cX0_strongest 12 = .ok (.aload_n 1, 1) := by decide +kernel
theorem dX0_strongest_13 : decode cX0_strongest 13 = .ok (.getfield 58, 3) := by decide +kernel
theorem dX0_strongest_16 : decode cX0_strongest 16 = .ok (.if_icmp .ge 50, 3) := by decide +kernel
theorem dX0_strongest_19 : decode cX0_strongest 19 = .ok (.iload_n 2, 1) := by decide +kernel
theorem dX0_strongest_20 : decode cX0_strongest 20 = .ok (.iload 6, 2) := by decide +kernel
theorem dX0_strongest_22 : decode cX0_strongest 22 = .ok (.ishr, 1) := by decide +kernel
theorem dX0_strongest_23 : decode cX0_strongest 23 = .ok (.iconst 1, 1) := by decide +kernel
theorem dX0_strongest_24 : decode cX0_strongest 24 = .ok (.iand, 1) := by decide +kernel
theorem dX0_strongest_25 : decode cX0_strongest 25 = .ok (.iconst 1, 1) := by decide +kernel
theorem dX0_strongest_26 : decode cX0_strongest 26 = .ok (.if_icmp .ne 34, 3) := by decide +kernel
theorem dX0_strongest_29 : decode cX0_strongest 29 = .ok (.aload_n 0, 1) := by decide +kernel
theorem dX0_strongest_30 : decode cX0_strongest 30 = .ok (.getfield 28, 3) := by decide +kernel
theorem dX0_strongest_33 : decode cX0_strongest 33 = .ok (.getfield 74, 3) := by decide +kernel
theorem dX0_strongest_36 : decode cX0_strongest 36 = .ok (.iload 6, 2) := by decide +kernel
theorem dX0_strongest_38 : decode cX0_strongest 38 = .ok (.laload, 1) := by decide +kernel
theorem dX0_strongest_39 : decode cX0_strongest 39 = .ok (.lload 4, 2) := by decide +kernel
theorem dX0_strongest_41 : decode cX0_strongest 41 = .ok (.lcmp, 1) := by decide +kernel
theorem dX0_strongest_42 : decode cX0_strongest 42 = .ok (.ifCond .le 18, 3) := by decide +kernel
theorem dX0_strongest_45 : decode cX0_strongest 45 = .ok (.iload 6, 2) := by decide +kernel
theorem dX0_strongest_47 : decode cX0_strongest 47 = .ok (.istore_n 3, 1) := by decide +kernel
theorem dX0_strongest_48 : decode cX0_strongest 48 = .ok (.aload_n 0, 1) := by decide +kernel
theorem dX0_strongest_49 : decode cX0_strongest 49 = .ok (.getfield 28, 3) := by decide +kernel
theorem dX0_strongest_52 : decode cX0_strongest 52 = .ok (.getfield 74, 3) := by decide +kernel
theorem dX0_strongest_55 : decode cX0_strongest 55 = .ok (.iload 6, 2) := by decide +kernel
theorem dX0_strongest_57 : decode cX0_strongest 57 = .ok (.laload, 1) := by decide +kernel
theorem dX0_strongest_58 : decode cX0_strongest 58 = .ok (.lstore 4, 2) := by decide +kernel
theorem dX0_strongest_60 : decode cX0_strongest 60 = .ok (.iinc 6 1, 3) := by decide +kernel
theorem dX0_strongest_63 : decode cX0_strongest 63 = .ok (.goto (-53), 3) := by decide +kernel
theorem dX0_strongest_66 : decode cX0_strongest 66 = .ok (.iload_n 3, 1) := by decide +kernel
theorem dX0_strongest_67 : decode cX0_strongest 67 = .ok (.ireturn, 1) := by decide +kernel
theorem dX0_drawAll_0 : decode cX0_drawAll 0 = .ok (.aload_n 1, 1) := by decide +kernel
theorem dX0_drawAll_1 : decode cX0_drawAll 1 = .ok (.getfield 77, 3) := by decide +kernel
theorem dX0_drawAll_4 : decode cX0_drawAll 4 = .ok (.iload_n 2, 1) := by decide +kernel
theorem dX0_drawAll_5 : decode cX0_drawAll 5 = .ok (.iaload, 1) := by decide +kernel
theorem dX0_drawAll_6 : decode cX0_drawAll 6 = .ok (.istore_n 3, 1) := by decide +kernel
theorem dX0_drawAll_7 : decode cX0_drawAll 7 = .ok (.aload_n 1, 1) := by decide +kernel
theorem dX0_drawAll_8 : decode cX0_drawAll 8 = .ok (.getfield 80, 3) := by decide +kernel
theorem dX0_drawAll_11 : decode cX0_drawAll 11 = .ok (.iload_n 2, 1) := by decide +kernel
theorem dX0_drawAll_12 : decode cX0_drawAll 12 = .ok (.iaload, 1) := by decide +kernel
theorem dX0_drawAll_13 : decode cX0_drawAll 13 = .ok (.aload_n 0, 1) := by decide +kernel
theorem dX0_drawAll_14 : decode cX0_drawAll 14 = .ok (.getfield 22, 3) := by decide +kernel
theorem dX0_drawAll_17 : decode cX0_drawAll 17 = .ok (.iconst 0, 1) := by decide +kernel
theorem dX0_drawAll_18 : decode cX0_drawAll 18 = .ok (.iaload, 1) := by decide +kernel
theorem dX0_drawAll_19 : decode cX0_drawAll 19 = .ok (.invokestatic 83, 3) := by decide +kernel
theorem dX0_drawAll_22 : decode cX0_drawAll 22 = .ok (.istore 4, 2) := by decide +kernel
theorem dX0_drawAll_24 : decode cX0_drawAll 24 = .ok (.iload_n 3, 1) := by decide +kernel
theorem dX0_drawAll_25 : decode cX0_drawAll 25 = .ok (.ifCond .le 27, 3) := by decide +kernel
theorem dX0_drawAll_28 : decode cX0_drawAll 28 = .ok (.iload 4, 2) := by decide +kernel
theorem dX0_drawAll_30 : decode cX0_drawAll 30 = .ok (.aload_n 0, 1) := by decide +kernel
theorem dX0_drawAll_31 : decode cX0_drawAll 31 = .ok (.getfield 22, 3) := by decide +kernel
theorem dX0_drawAll_34 : decode cX0_drawAll 34 = .ok (.iload_n 3, 1) := by decide +kernel
theorem dX0_drawAll_35 : decode cX0_drawAll 35 = .ok (.iaload, 1) := by decide +kernel
theorem dX0_drawAll_36 : decode cX0_drawAll 36 = .ok (.invokestatic 83, 3) := by decide +kernel
theorem dX0_drawAll_39 : decode cX0_drawAll 39 = .ok (.istore 4, 2) := by decide +kernel
theorem dX0_drawAll_41 : decode cX0_drawAll 41 = .ok (.aload_n 0, 1) := by decide +kernel
theorem dX0_drawAll_42 : decode cX0_drawAll 42 = .ok (.getfield 22, 3) := by decide +kernel
theorem dX0_drawAll_45 : decode cX0_drawAll 45 = .ok (.iload_n 3, 1) := by decide +kernel
theorem dX0_drawAll_46 : decode cX0_drawAll 46 = .ok (.dup2, 1) := by decide +kernel
theorem dX0_drawAll_47 : decode cX0_drawAll 47 = .ok (.iaload, 1) := by decide +kernel
theorem dX0_drawAll_48 : decode cX0_drawAll 48 = .ok (.iload 4, 2) := by decide +kernel
theorem dX0_drawAll_50 : decode cX0_drawAll 50 = .ok (.isub, 1) := by decide +kernel
theorem dX0_drawAll_51 : decode cX0_drawAll 51 = .ok (.iastore, 1) := by decide +kernel
theorem dX0_drawAll_52 : decode cX0_drawAll 52 = .ok (.aload_n 0, 1) := by decide +kernel
theorem dX0_drawAll_53 : decode cX0_drawAll 53 = .ok (.getfield 22, 3) := by decide +kernel
theorem dX0_drawAll_56 : decode cX0_drawAll 56 = .ok (.iconst 0, 1) := by decide +kernel
theorem dX0_drawAll_57 : decode cX0_drawAll 57 = .ok (.dup2, 1) := by decide +kernel
theorem dX0_drawAll_58 : decode cX0_drawAll 58 = .ok (.iaload, 1) := by decide +kernel
theorem dX0_drawAll_59 : decode cX0_drawAll 59 = .ok (.iload 4, 2) := by decide +kernel
theorem dX0_drawAll_61 : decode cX0_drawAll 61 = .ok (.isub, 1) := by decide +kernel
theorem dX0_drawAll_62 : decode cX0_drawAll 62 = .ok (.iastore, 1) := by decide +kernel
theorem dX0_drawAll_63 : decode cX0_drawAll 63 = .ok (.aload_n 0, 1) := by decide +kernel
theorem dX0_drawAll_64 : decode cX0_drawAll 64 = .ok (.getfield 18, 3) := by decide +kernel
theorem dX0_drawAll_67 : decode cX0_drawAll 67 = .ok (.iload_n 2, 1) := by decide +kernel
theorem dX0_drawAll_68 : decode cX0_drawAll 68 = .ok (.iload 4, 2) := by decide +kernel
theorem dX0_drawAll_70 : decode cX0_drawAll 70 = .ok (.iastore, 1) := by decide +kernel
theorem dX0_drawAll_71 : decode cX0_drawAll 71 = .ok (.aload_n 0, 1) := by decide +kernel
theorem dX0_drawAll_72 : decode cX0_drawAll 72 = .ok (.dup, 1) := by decide +kernel
theorem dX0_drawAll_73 : decode cX0_drawAll 73 = .ok (.getfield 9, 3) := by decide +kernel
theorem dX0_drawAll_76 : decode cX0_drawAll 76 = .ok (.iload 4, 2) := by decide +kernel
theorem dX0_drawAll_78 : decode cX0_drawAll 78 = .ok (.i2l, 1) := by decide +kernel
theorem dX0_drawAll_79 : decode cX0_drawAll 79 = .ok (.aload_n 0, 1) := by decide +kernel
theorem dX0_drawAll_80 : decode cX0_drawAll 80 = .ok (.getfield 28, 3) := by decide +kernel
theorem dX0_drawAll_83 : decode cX0_drawAll 83 = .ok (.getfield 74, 3) := by decide +kernel
theorem dX0_drawAll_86 : decode cX0_drawAll 86 = .ok (.iload_n 2, 1) := by decide +kernel
theorem dX0_drawAll_87 : decode cX0_drawAll 87 = .ok (.laload, 1) := by decide +kernel
theorem dX0_drawAll_88 : decode cX0_drawAll 88 = .ok (.lmul, 1) := by decide +kernel
theorem dX0_drawAll_89 : decode cX0_drawAll 89 = .ok (.ladd, 1) := by decide +kernel
theorem dX0_drawAll_90 : decode cX0_drawAll 90 = .ok (.putfield 9, 3) := by decide +kernel
theorem dX0_drawAll_93 : decode cX0_drawAll 93 = .ok (.return_, 1) := by decide +kernel
theorem dX1_init_0 : decode cX1_init 0 = .ok (.aload_n 0, 1) := by decide +kernel
theorem dX1_init_1 : decode cX1_init 1 = .ok (.invokespecial 3, 3) := by decide +kernel
theorem dX1_init_4 : decode cX1_init 4 = .ok (.aload_n 0, 1) := by decide +kernel
theorem dX1_init_5 : decode cX1_init 5 = .ok (.iconst 0, 1) := by decide +kernel
theorem dX1_init_6 : decode cX1_init 6 = .ok (.putfield 9, 3) := by decide +kernel
theorem dX1_init_9 : decode cX1_init 9 = .ok (.aload_n 0, 1) := by decide +kernel
theorem dX1_init_10 : decode cX1_init 10 = .ok (.lconst 1, 1) := by decide +kernel
theorem dX1_init_11 : decode cX1_init 11 = .ok (.putfield 15, 3) := by decide +kernel
theorem dX1_init_14 : decode cX1_init 14 = .ok (.aload_n 0, 1) := by decide +kernel
theorem dX1_init_15 : decode cX1_init 15 = .ok (.bipush 9, 2) := by decide +kernel
theorem dX1_init_17 : decode cX1_init 17 = .ok (.newarray .long, 2) := by decide +kernel
theorem dX1_init_19 : decode cX1_init 19 = .ok (.putfield 19, 3) := by decide +kernel
theorem dX1_init_22 : decode cX1_init 22 = .ok (.aload_n 0, 1) := by decide +kernel
theorem dX1_init_23 : decode cX1_init 23 = .ok (.new 23, 3) := by decide +kernel
theorem dX1_init_26 : decode cX1_init 26 = .ok (.dup, 1) := by decide +kernel
theorem dX1_init_27 : decode cX1_init 27 = .ok (.invokespecial 25, 3) := by decide +kernel
theorem dX1_init_30 : decode cX1_init 30 = .ok (.putfield 26, 3) := by decide +kernel
theorem dX1_init_33 : decode cX1_init 33 = .ok (.aload_n 0, 1) := by decide +kernel
theorem dX1_init_34 : decode cX1_init 34 = .ok (.iconst 0, 1) := by decide +kernel
theorem dX1_init_35 : decode cX1_init 35 = .ok (.putfield 30, 3) := by decide +kernel
theorem dX1_init_38 : decode cX1_init 38 = .ok (.aload_n 0, 1) := by decide +kernel
theorem dX1_init_39 : decode cX1_init 39 = .ok (.bipush 9, 2) := by decide +kernel
theorem dX1_init_41 : decode cX1_init 41 = .ok (.newarray .int, 2) := by decide +kernel
theorem dX1_init_43 : decode cX1_init 43 = .ok (.putfield 33, 3) := by decide +kernel
theorem dX1_init_46 : decode cX1_init 46 = .ok (.aload_n 0, 1) := by decide +kernel
theorem dX1_init_47 : decode cX1_init 47 = .ok (.bipush 9, 2) := by decide +kernel
theorem dX1_init_49 : decode cX1_init 49 = .ok (.newarray .int, 2) := by decide +kernel
theorem dX1_init_51 : decode cX1_init 51 = .ok (.putfield 37, 3) := by decide +kernel
theorem dX1_init_54 : decode cX1_init 54 = .ok (.aload_n 0, 1) := by decide +kernel
theorem dX1_init_55 : decode cX1_init 55 = .ok (.bipush 9, 2) := by decide +kernel
theorem dX1_init_57 : decode cX1_init 57 = .ok (.bipush 10, 2) := by decide +kernel
theorem dX1_init_59 : decode cX1_init 59 = .ok (.multianewarray 40 2, 4) := by decide +kernel
theorem dX1_init_63 : decode cX1_init 63 = .ok (.putfield 42, 3) := by decide +kernel
theorem dX1_init_66 : decode cX1_init 66 = .ok (.aload_n 0, 1) := by decide +kernel
theorem dX1_init_67 : decode cX1_init 67 = .ok (.bipush 9, 2) := by decide +kernel
theorem dX1_init_69 : decode cX1_init 69 = .ok (.newarray .int, 2) := by decide +kernel
theorem dX1_init_71 : decode cX1_init 71 = .ok (.putfield 45, 3) := by decide +kernel
theorem dX1_init_74 : decode cX1_init 74 = .ok (.return_, 1) := by decide +kernel
theorem dX1_settle_0 : decode cX1_settle 0 = .ok (.aload_n 0, 1) := by decide +kernel
theorem dX1_settle_1 : decode cX1_settle 1 = .ok (.iconst 1, 1) := by decide +kernel
theorem dX1_settle_2 : decode cX1_settle 2 = .ok (.aload_n 1, 1) := by decide +kernel
theorem dX1_settle_3 : decode cX1_settle 3 = .ok (.getfield 48, 3) := by decide +kernel
theorem dX1_settle_6 : decode cX1_settle 6 = .ok (.ishl, 1) := by decide +kernel
theorem dX1_settle_7 : decode cX1_settle 7 = .ok (.iconst 1, 1) := by decide +kernel
theorem dX1_settle_8 : decode cX1_settle 8 = .ok (.isub, 1) := by decide +kernel
theorem dX1_settle_9 : decode cX1_settle 9 = .ok (.aload_n 1, 1) := by decide +kernel
theorem dX1_settle_10 : decode cX1_settle 10 = .ok (.aload_n 2, 1) := by decide +kernel
theorem dX1_settle_11 : decode cX1_settle 11 = .ok (.iload_n 3, 1) := by decide +kernel
theorem dX1_settle_12 : decode cX1_settle 12 = .ok (.invokevirtual 53, 3) := by decide +kernel
theorem dX1_settle_15 : decode cX1_settle 15 = .ok (.iconst (-1), 1) := by decide +kernel
theorem dX1_settle_16 : decode cX1_settle 16 = .ok (.ixor, 1) := by decide +kernel
theorem dX1_settle_17 : decode cX1_settle 17 = .ok (.iand, 1) := by decide +kernel
theorem dX1_settle_18 : decode cX1_settle 18 = .ok (.putfield 9, 3) := by decide +kernel
theorem dX1_settle_21 : decode cX1_settle 21 = .ok (.aload_n 0, 1) := by decide +kernel
theorem dX1_settle_22 : decode cX1_settle 22 = .ok (.aload_n 1, 1) := by decide +kernel
theorem dX1_settle_23 : decode cX1_settle 23 = .ok (.iload_n 3, 1) := by decide +kernel
theorem dX1_settle_24 : decode cX1_settle 24 = .ok (.invokevirtual 57, 3) := by decide +kernel
theorem dX1_settle_27 : decode cX1_settle 27 = .ok (.aload_n 0, 1) := by decide +kernel
theorem dX1_settle_28 : decode cX1_settle 28 = .ok (.aload_n 1, 1) := by decide +kernel
theorem dX1_settle_29 : decode cX1_settle 29 = .ok (.aload_n 2, 1) := by decide +kernel
theorem dX1_settle_30 : decode cX1_settle 30 = .ok (.aload 4, 2) := by decide +kernel
theorem dX1_settle_32 : decode cX1_settle 32 = .ok (.invokevirtual 61, 3) := by decide +kernel
theorem dX1_settle_35 : decode cX1_settle 35 = .ok (.aload_n 0, 1) := by decide +kernel
theorem dX1_settle_36 : decode cX1_settle 36 = .ok (.invokevirtual 65, 3) := by decide +kernel
theorem dX1_settle_39 : decode cX1_settle 39 = .ok (.aload_n 0, 1) := by decide +kernel
theorem dX1_settle_40 : decode cX1_settle 40 = .ok (.getfield 19, 3) := by decide +kernel
theorem dX1_settle_43 : decode cX1_settle 43 = .ok (.lconst 0, 1) := by decide +kernel
theorem dX1_settle_44 : decode cX1_settle 44 = .ok (.invokestatic 68, 3) := by decide +kernel
theorem dX1_settle_47 : decode cX1_settle 47 = .ok (.iconst 0, 1) := by decide +kernel
theorem dX1_settle_48 : decode cX1_settle 48 = .ok (.istore 5, 2) := by decide +kernel
theorem dX1_settle_50 : decode cX1_settle 50 = .ok (.iload 5, 2) := by decide +kernel
theorem dX1_settle_52 : decode cX1_settle 52 = .ok (.aload_n 0, 1) := by decide +kernel
theorem dX1_settle_53 : decode cX1_settle 53 = .ok (.getfield 30, 3) := by decide +kernel
theorem dX1_settle_56 : decode cX1_settle 56 = .ok (.if_icmp .ge 33, 3) := by decide +kernel
theorem dX1_settle_59 : decode cX1_settle 59 = .ok (.aload_n 0, 1) := by decide +kernel
theorem dX1_settle_60 : decode cX1_settle 60 = .ok (.getfield 19, 3) := by decide +kernel
theorem dX1_settle_63 : decode cX1_settle 63 = .ok (.aload_n 0, 1) := by decide +kernel
theorem dX1_settle_64 : decode cX1_settle 64 = .ok (.getfield 33, 3) := by decide +kernel
theorem dX1_settle_67 : decode cX1_settle 67 = .ok (.iload 5, 2) := by decide +kernel
theorem dX1_settle_69 : decode cX1_settle 69 = .ok (.iaload, 1) := by decide +kernel
theorem dX1_settle_70 : decode cX1_settle 70 = .ok (.aload_n 0, 1) := by decide +kernel
theorem dX1_settle_71 : decode cX1_settle 71 = .ok (.getfield 42, 3) := by decide +kernel
theorem dX1_settle_74 : decode cX1_settle 74 = .ok (.iload 5, 2) := by decide +kernel
theorem dX1_settle_76 : decode cX1_settle 76 = .ok (.aaload, 1) := by decide +kernel
theorem dX1_settle_77 : decode cX1_settle 77 = .ok (.aload_n 0, 1) := by decide +kernel
theorem dX1_settle_78 : decode cX1_settle 78 = .ok (.getfield 30, 3) := by decide +kernel
theorem dX1_settle_81 : decode cX1_settle 81 = .ok (.laload, 1) := by decide +kernel
theorem dX1_settle_82 : decode cX1_settle 82 = .ok (.lastore, 1) := by decide +kernel
theorem dX1_settle_83 : decode cX1_settle 83 = .ok (.iinc 5 1, 3) := by decide +kernel
theorem dX1_settle_86 : decode cX1_settle 86 = .ok (.goto (-36), 3) := by decide +kernel
theorem dX1_settle_89 : decode cX1_settle 89 = .ok (.aload_n 0, 1) := by decide +kernel
theorem dX1_settle_90 : decode cX1_settle 90 = .ok (.aload_n 1, 1) := by decide +kernel
theorem dX1_settle_91 : decode cX1_settle 91 = .ok (.aload 4, 2) := by decide +kernel
theorem dX1_settle_93 : decode cX1_settle 93 = .ok (.invokevirtual 74, 3) := by decide +kernel
theorem dX1_settle_96 : decode cX1_settle 96 = .ok (.return_, 1) := by decide +kernel
theorem dX1_settleUnit_0 : decode cX1_settleUnit 0 = .ok (.aload_n 0, 1) := by decide +kernel
theorem dX1_settleUnit_1 : decode cX1_settleUnit 1 = .ok (.getfield 45, 3) := by decide +kernel
theorem dX1_settleUnit_4 : decode cX1_settleUnit 4 = .ok (.iconst 0, 1) := by decide +kernel
theorem dX1_settleUnit_5 : decode cX1_settleUnit 5 = .ok (.invokestatic 78, 3) := by decide +kernel
theorem dX1_settleUnit_8 : decode cX1_settleUnit 8 = .ok (.aload_n 0, 1) := by decide +kernel
theorem dX1_settleUnit_9 : decode cX1_settleUnit 9 = .ok (.getfield 45, 3) := by decide +kernel
theorem dX1_settleUnit_12 : decode cX1_settleUnit 12 = .ok (.iload_n 3, 1) := by decide +kernel
theorem dX1_settleUnit_13 : decode cX1_settleUnit 13 = .ok (.iconst 1, 1) := by decide +kernel
theorem dX1_settleUnit_14 : decode cX1_settleUnit 14 = .ok (.iastore, 1) := by decide +kernel
theorem dX1_settleUnit_15 : decode cX1_settleUnit 15 = .ok (.aload_n 0, 1) := by decide +kernel
theorem dX1_settleUnit_16 : decode cX1_settleUnit 16 = .ok (.aload_n 1, 1) := by decide +kernel
theorem dX1_settleUnit_17 : decode cX1_settleUnit 17 = .ok (.aload_n 1, 1) := by decide +kernel
theorem dX1_settleUnit_18 : decode cX1_settleUnit 18 = .ok (.getfield 81, 3) := by decide +kernel
theorem dX1_settleUnit_21 : decode cX1_settleUnit 21 = .ok (.iload_n 2, 1) := by decide +kernel
theorem dX1_settleUnit_22 : decode cX1_settleUnit 22 = .ok (.aload_n 0, 1) := by decide +kernel
theorem dX1_settleUnit_23 : decode cX1_settleUnit 23 = .ok (.getfield 45, 3) := by decide +kernel
theorem dX1_settleUnit_26 : decode cX1_settleUnit 26 = .ok (.invokevirtual 84, 3) := by decide +kernel
theorem dX1_settleUnit_29 : decode cX1_settleUnit 29 = .ok (.return_, 1) := by decide +kernel
theorem dX1_numberRows_0 : decode cX1_numberRows 0 = .ok (.aload_n 0, 1) := by decide +kernel
theorem dX1_numberRows_1 : decode cX1_numberRows 1 = .ok (.iconst 0, 1) := by decide +kernel
theorem dX1_numberRows_2 : decode cX1_numberRows 2 = .ok (.putfield 30, 3) := by decide +kernel
theorem dX1_numberRows_5 : decode cX1_numberRows 5 = .ok (.iconst 0, 1) := by decide +kernel
theorem dX1_numberRows_6 : decode cX1_numberRows 6 = .ok (.istore_n 3, 1) := by decide +kernel
theorem dX1_numberRows_7 : decode cX1_numberRows 7 = .ok (.iload_n 3, 1) := by decide +kernel
theorem dX1_numberRows_8 : decode cX1_numberRows 8 = .ok (.aload_n 1, 1) := by decide +kernel
theorem dX1_numberRows_9 : decode cX1_numberRows 9 = .ok (.getfield 48, 3) := by decide +kernel
theorem dX1_numberRows_12 : decode cX1_numberRows 12 = .ok (.if_icmp .ge 59, 3) := by decide +kernel
theorem dX1_numberRows_15 : decode cX1_numberRows 15 = .ok (.aload_n 0, 1) := by decide +kernel
theorem dX1_numberRows_16 : decode cX1_numberRows 16 = .ok (.getfield 37, 3) := by decide +kernel
theorem dX1_numberRows_19 : decode cX1_numberRows 19 = .ok (.iload_n 3, 1) := by decide +kernel
theorem dX1_numberRows_20 : decode cX1_numberRows 20 = .ok (.iconst (-1), 1) := by decide +kernel
theorem dX1_numberRows_21 : decode cX1_numberRows 21 = .ok (.iastore, 1) := by decide +kernel
theorem dX1_numberRows_22 : decode cX1_numberRows 22 = .ok (.aload_n 0, 1) := by decide +kernel
theorem dX1_numberRows_23 : decode cX1_numberRows 23 = .ok (.getfield 9, 3) := by decide +kernel
theorem dX1_numberRows_26 : decode cX1_numberRows 26 = .ok (.iload_n 2, 1) := by decide +kernel
theorem dX1_numberRows_27 : decode cX1_numberRows 27 = .ok (.ior, 1) := by decide +kernel
theorem dX1_numberRows_28 : decode cX1_numberRows 28 = .ok (.iload_n 3, 1) := by decide +kernel
theorem dX1_numberRows_29 : decode cX1_numberRows 29 = .ok (.ishr, 1) := by decide +kernel
theorem dX1_numberRows_30 : decode cX1_numberRows 30 = .ok (.iconst 1, 1) := by decide +kernel
theorem dX1_numberRows_31 : decode cX1_numberRows 31 = .ok (.iand, 1) := by decide +kernel
theorem dX1_numberRows_32 : decode cX1_numberRows 32 = .ok (.ifCond .ne 33, 3) := by decide +kernel
theorem dX1_numberRows_35 : decode cX1_numberRows 35 = .ok (.aload_n 0, 1) := by decide +kernel
theorem dX1_numberRows_36 : decode cX1_numberRows 36 = .ok (.getfield 33, 3) := by decide +kernel
theorem dX1_numberRows_39 : decode cX1_numberRows 39 = .ok (.aload_n 0, 1) := by decide +kernel
theorem dX1_numberRows_40 : decode cX1_numberRows 40 = .ok (.getfield 30, 3) := by decide +kernel
theorem dX1_numberRows_43 : decode cX1_numberRows 43 = .ok (.iload_n 3, 1) := by decide +kernel
theorem dX1_numberRows_44 : decode cX1_numberRows 44 = .ok (.iastore, 1) := by decide +kernel
theorem dX1_numberRows_45 : decode cX1_numberRows 45 = .ok (.aload_n 0, 1) := by decide +kernel
theorem dX1_numberRows_46 : decode cX1_numberRows 46 = .ok (.getfield 37, 3) := by decide +kernel
theorem dX1_numberRows_49 : decode cX1_numberRows 49 = .ok (.iload_n 3, 1) := by decide +kernel
theorem dX1_numberRows_50 : decode cX1_numberRows 50 = .ok (.aload_n 0, 1) := by decide +kernel
theorem dX1_numberRows_51 : decode cX1_numberRows 51 = .ok (.getfield 30, 3) := by decide +kernel
theorem dX1_numberRows_54 : decode cX1_numberRows 54 = .ok (.iastore, 1) := by decide +kernel
theorem dX1_numberRows_55 : decode cX1_numberRows 55 = .ok (.aload_n 0, 1) := by decide +kernel
theorem dX1_numberRows_56 : decode cX1_numberRows 56 = .ok (.dup, 1) := by decide +kernel
theorem dX1_numberRows_57 : decode cX1_numberRows 57 = .ok (.getfield 30, 3) := by decide +kernel
theorem dX1_numberRows_60 : decode cX1_numberRows 60 = .ok (.iconst 1, 1) := by decide +kernel
theorem dX1_numberRows_61 : decode cX1_numberRows 61 = .ok (.iadd, 1) := by decide +kernel
theorem dX1_numberRows_62 : decode cX1_numberRows 62 = .ok (.putfield 30, 3) := by decide +kernel
theorem dX1_numberRows_65 : decode cX1_numberRows 65 = .ok (.iinc 3 1, 3) := by decide +kernel
theorem dX1_numberRows_68 : decode cX1_numberRows 68 = .ok (.goto (-61), 3) := by decide +kernel
theorem dX1_numberRows_71 : decode cX1_numberRows 71 = .ok (.return_, 1) := by decide +kernel
theorem dX1_fillRows_0 : decode cX1_fillRows 0 = .ok (.iconst 0, 1) := by decide +kernel
theorem dX1_fillRows_1 : decode cX1_fillRows 1 = .ok (.istore 4, 2) := by decide +kernel
theorem dX1_fillRows_3 : decode cX1_fillRows 3 = .ok (.iload 4, 2) := by decide +kernel
theorem dX1_fillRows_5 : decode cX1_fillRows 5 = .ok (.aload_n 0, 1) := by decide +kernel
theorem dX1_fillRows_6 : decode cX1_fillRows 6 = .ok (.getfield 30, 3) := by decide +kernel
theorem dX1_fillRows_9 : decode cX1_fillRows 9 = .ok (.if_icmp .ge 42, 3) := by decide +kernel
theorem dX1_fillRows_12 : decode cX1_fillRows 12 = .ok (.aload_n 0, 1) := by decide +kernel
theorem dX1_fillRows_13 : decode cX1_fillRows 13 = .ok (.getfield 42, 3) := by decide +kernel
theorem dX1_fillRows_16 : decode cX1_fillRows 16 = .ok (.iload 4, 2) := by decide +kernel
theorem dX1_fillRows_18 : decode cX1_fillRows 18 = .ok (.aaload, 1) := by decide +kernel
theorem dX1_fillRows_19 : decode cX1_fillRows 19 = .ok (.lconst 0, 1) := by decide +kernel
theorem dX1_fillRows_20 : decode cX1_fillRows 20 = .ok (.invokestatic 68, 3) := by decide +kernel
theorem dX1_fillRows_23 : decode cX1_fillRows 23 = .ok (.aload_n 0, 1) := by decide +kernel
theorem dX1_fillRows_24 : decode cX1_fillRows 24 = .ok (.getfield 42, 3) := by decide +kernel
theorem dX1_fillRows_27 : decode cX1_fillRows 27 = .ok (.iload 4, 2) := by decide +kernel
theorem dX1_fillRows_29 : decode cX1_fillRows 29 = .ok (.aaload, 1) := by decide +kernel
theorem dX1_fillRows_30 : decode cX1_fillRows 30 = .ok (.aload_n 0, 1) := by decide +kernel
theorem dX1_fillRows_31 : decode cX1_fillRows 31 = .ok (.getfield 30, 3) := by decide +kernel
theorem dX1_fillRows_34 : decode cX1_fillRows 34 = .ok (.aload_n 3, 1) := by decide +kernel
theorem dX1_fillRows_35 : decode cX1_fillRows 35 = .ok (.aload_n 0, 1) := by decide +kernel
theorem dX1_fillRows_36 : decode cX1_fillRows 36 = .ok (.getfield 33, 3) := by decide +kernel
theorem dX1_fillRows_39 : decode cX1_fillRows 39 = .ok (.iload 4, 2) := by decide +kernel
theorem dX1_fillRows_41 : decode cX1_fillRows 41 = .ok (.iaload, 1) := by decide +kernel
theorem dX1_fillRows_42 : decode cX1_fillRows 42 = .ok (.iaload, 1) := by decide +kernel
theorem dX1_fillRows_43 : decode cX1_fillRows 43 = .ok (.i2l, 1) := by decide +kernel
theorem dX1_fillRows_44 : decode cX1_fillRows 44 = .ok (.lastore, 1) := by decide +kernel
theorem dX1_fillRows_45 : decode cX1_fillRows 45 = .ok (.iinc 4 1, 3) := by decide +kernel
theorem dX1_fillRows_48 : decode cX1_fillRows 48 = .ok (.goto (-45), 3) := by decide +kernel
theorem dX1_fillRows_51 : decode cX1_fillRows 51 = .ok (.iconst 0, 1) := by decide +kernel
theorem dX1_fillRows_52 : decode cX1_fillRows 52 = .ok (.istore 4, 2) := by decide +kernel
theorem dX1_fillRows_54 : decode cX1_fillRows 54 = .ok (.iload 4, 2) := by decide +kernel
theorem dX1_fillRows_56 : decode cX1_fillRows 56 = .ok (.aload_n 1, 1) := by decide +kernel
theorem dX1_fillRows_57 : decode cX1_fillRows 57 = .ok (.getfield 88, 3) := by decide +kernel
theorem dX1_fillRows_60 : decode cX1_fillRows 60 = .ok (.if_icmp .ge 133, 3) := by decide +kernel
theorem dX1_fillRows_63 : decode cX1_fillRows 63 = .ok (.aload_n 0, 1) := by decide +kernel
theorem dX1_fillRows_64 : decode cX1_fillRows 64 = .ok (.getfield 37, 3) := by decide +kernel
theorem dX1_fillRows_67 : decode cX1_fillRows 67 = .ok (.aload_n 1, 1) := by decide +kernel
theorem dX1_fillRows_68 : decode cX1_fillRows 68 = .ok (.getfield 91, 3) := by decide +kernel
theorem dX1_fillRows_71 : decode cX1_fillRows 71 = .ok (.iload 4, 2) := by decide +kernel
theorem dX1_fillRows_73 : decode cX1_fillRows 73 = .ok (.iaload, 1) := by decide +kernel
theorem dX1_fillRows_74 : decode cX1_fillRows 74 = .ok (.iaload, 1) := by decide +kernel
theorem dX1_fillRows_75 : decode cX1_fillRows 75 = .ok (.istore 5, 2) := by decide +kernel
theorem dX1_fillRows_77 : decode cX1_fillRows 77 = .ok (.aload_n 0, 1) := by decide +kernel
theorem dX1_fillRows_78 : decode cX1_fillRows 78 = .ok (.getfield 37, 3) := by decide +kernel
theorem dX1_fillRows_81 : decode cX1_fillRows 81 = .ok (.aload_n 1, 1) := by decide +kernel
theorem dX1_fillRows_82 : decode cX1_fillRows 82 = .ok (.getfield 94, 3) := by decide +kernel
theorem dX1_fillRows_85 : decode cX1_fillRows 85 = .ok (.iload 4, 2) := by decide +kernel
theorem dX1_fillRows_87 : decode cX1_fillRows 87 = .ok (.iaload, 1) := by decide +kernel
theorem dX1_fillRows_88 : decode cX1_fillRows 88 = .ok (.iaload, 1) := by decide +kernel
theorem dX1_fillRows_89 : decode cX1_fillRows 89 = .ok (.istore 6, 2) := by decide +kernel
theorem dX1_fillRows_91 : decode cX1_fillRows 91 = .ok (.iload 5, 2) := by decide +kernel
theorem dX1_fillRows_93 : decode cX1_fillRows 93 = .ok (.iconst (-1), 1) := by decide +kernel
theorem dX1_fillRows_94 : decode cX1_fillRows 94 = .ok (.if_icmp .eq 21, 3) := by decide +kernel
theorem dX1_fillRows_97 : decode cX1_fillRows 97 = .ok (.aload_n 0, 1) := by decide +kernel
theorem dX1_fillRows_98 : decode cX1_fillRows 98 = .ok (.getfield 42, 3) := by decide +kernel
theorem dX1_fillRows_101 : decode cX1_fillRows 101 = .ok (.iload 5, 2) := by decide +kernel
theorem dX1_fillRows_103 : decode cX1_fillRows 103 = .ok (.aaload, 1) := by decide +kernel
theorem dX1_fillRows_104 : decode cX1_fillRows 104 = .ok (.iload 5, 2) := by decide +kernel
theorem dX1_fillRows_106 : decode cX1_fillRows 106 = .ok (.dup2, 1) := by decide +kernel
theorem dX1_fillRows_107 : decode cX1_fillRows 107 = .ok (.laload, 1) := by decide +kernel
theorem dX1_fillRows_108 : decode cX1_fillRows 108 = .ok (.aload_n 2, 1) := by decide +kernel
theorem dX1_fillRows_109 : decode cX1_fillRows 109 = .ok (.iload 4, 2) := by decide +kernel
theorem dX1_fillRows_111 : decode cX1_fillRows 111 = .ok (.iaload, 1) := by decide +kernel
theorem dX1_fillRows_112 : decode cX1_fillRows 112 = .ok (.i2l, 1) := by decide +kernel
theorem dX1_fillRows_113 : decode cX1_fillRows 113 = .ok (.ladd, 1) := by decide +kernel
theorem dX1_fillRows_114 : decode cX1_fillRows 114 = .ok (.lastore, 1) := by decide +kernel
theorem dX1_fillRows_115 : decode cX1_fillRows 115 = .ok (.iload 6, 2) := by decide +kernel
theorem dX1_fillRows_117 : decode cX1_fillRows 117 = .ok (.iconst (-1), 1) := by decide +kernel
theorem dX1_fillRows_118 : decode cX1_fillRows 118 = .ok (.if_icmp .eq 21, 3) := by decide +kernel
theorem dX1_fillRows_121 : decode cX1_fillRows 121 = .ok (.aload_n 0, 1) := by decide +kernel
theorem dX1_fillRows_122 : decode cX1_fillRows 122 = .ok (.getfield 42, 3) := by decide +kernel
theorem dX1_fillRows_125 : decode cX1_fillRows 125 = .ok (.iload 6, 2) := by decide +kernel
theorem dX1_fillRows_127 : decode cX1_fillRows 127 = .ok (.aaload, 1) := by decide +kernel
theorem dX1_fillRows_128 : decode cX1_fillRows 128 = .ok (.iload 6, 2) := by decide +kernel
theorem dX1_fillRows_130 : decode cX1_fillRows 130 = .ok (.dup2, 1) := by decide +kernel
theorem dX1_fillRows_131 : decode cX1_fillRows 131 = .ok (.laload, 1) := by decide +kernel
theorem dX1_fillRows_132 : decode cX1_fillRows 132 = .ok (.aload_n 2, 1) := by decide +kernel
theorem dX1_fillRows_133 : decode cX1_fillRows 133 = .ok (.iload 4, 2) := by decide +kernel
theorem dX1_fillRows_135 : decode cX1_fillRows 135 = .ok (.iaload, 1) := by decide +kernel
theorem dX1_fillRows_136 : decode cX1_fillRows 136 = .ok (.i2l, 1) := by decide +kernel
theorem dX1_fillRows_137 : decode cX1_fillRows 137 = .ok (.ladd, 1) := by decide +kernel
theorem dX1_fillRows_138 : decode cX1_fillRows 138 = .ok (.lastore, 1) := by decide +kernel
theorem dX1_fillRows_139 : decode cX1_fillRows 139 = .ok (.iload 5, 2) := by decide +kernel
theorem dX1_fillRows_141 : decode cX1_fillRows 141 = .ok (.iconst (-1), 1) := by decide +kernel
theorem dX1_fillRows_142 : decode cX1_fillRows 142 = .ok (.if_icmp .eq 45, 3) := by decide +kernel
theorem dX1_fillRows_145 : decode cX1_fillRows 145 = .ok (.iload 6, 2) := by decide +kernel
theorem dX1_fillRows_147 : decode cX1_fillRows 147 = .ok (.iconst (-1), 1) := by decide +kernel
theorem dX1_fillRows_148 : decode cX1_fillRows 148 = .ok (.if_icmp .eq 39, 3) := by decide +kernel
theorem dX1_fillRows_151 : decode cX1_fillRows 151 = .ok (.aload_n 0, 1) := by decide +kernel
theorem dX1_fillRows_152 : decode cX1_fillRows 152 = .ok (.getfield 42, 3) := by decide +kernel
theorem dX1_fillRows_155 : decode cX1_fillRows 155 = .ok (.iload 5, 2) := by decide +kernel
theorem dX1_fillRows_157 : decode cX1_fillRows 157 = .ok (.aaload, 1) := by decide +kernel
theorem dX1_fillRows_158 : decode cX1_fillRows 158 = .ok (.iload 6, 2) := by decide +kernel
theorem dX1_fillRows_160 : decode cX1_fillRows 160 = .ok (.dup2, 1) := by decide +kernel
theorem dX1_fillRows_161 : decode cX1_fillRows 161 = .ok (.laload, 1) := by decide +kernel
theorem dX1_fillRows_162 : decode cX1_fillRows 162 = .ok (.aload_n 2, 1) := by decide +kernel
theorem dX1_fillRows_163 : decode cX1_fillRows 163 = .ok (.iload 4, 2) := by decide +kernel
theorem dX1_fillRows_165 : decode cX1_fillRows 165 = .ok (.iaload, 1) := by decide +kernel
theorem dX1_fillRows_166 : decode cX1_fillRows 166 = .ok (.i2l, 1) := by decide +kernel
theorem dX1_fillRows_167 : decode cX1_fillRows 167 = .ok (.lsub, 1) := by decide +kernel
theorem dX1_fillRows_168 : decode cX1_fillRows 168 = .ok (.lastore, 1) := by decide +kernel
theorem dX1_fillRows_169 : decode cX1_fillRows 169 = .ok (.aload_n 0, 1) := by decide +kernel
theorem dX1_fillRows_170 : decode cX1_fillRows 170 = .ok (.getfield 42, 3) := by decide +kernel
theorem dX1_fillRows_173 : decode cX1_fillRows 173 = .ok (.iload 6, 2) := by decide +kernel
theorem dX1_fillRows_175 : decode cX1_fillRows 175 = .ok (.aaload, 1) := by decide +kernel
theorem dX1_fillRows_176 : decode cX1_fillRows 176 = .ok (.iload 5, 2) := by decide +kernel
theorem dX1_fillRows_178 : decode cX1_fillRows 178 = .ok (.dup2, 1) := by decide +kernel
theorem dX1_fillRows_179 : decode cX1_fillRows 179 = .ok (.laload, 1) := by decide +kernel
theorem dX1_fillRows_180 : decode cX1_fillRows 180 = .ok (.aload_n 2, 1) := by decide +kernel
theorem dX1_fillRows_181 : decode cX1_fillRows 181 = .ok (.iload 4, 2) := by decide +kernel
theorem dX1_fillRows_183 : decode cX1_fillRows 183 = .ok (.iaload, 1) := by decide +kernel
theorem dX1_fillRows_184 : decode cX1_fillRows 184 = .ok (.i2l, 1) := by decide +kernel
theorem dX1_fillRows_185 : decode cX1_fillRows 185 = .ok (.lsub, 1) := by decide +kernel
theorem dX1_fillRows_186 : decode cX1_fillRows 186 = .ok (.lastore, 1) := by decide +kernel
theorem dX1_fillRows_187 : decode cX1_fillRows 187 = .ok (.iinc 4 1, 3) := by decide +kernel
theorem dX1_fillRows_190 : decode cX1_fillRows 190 = .ok (.goto (-136), 3) := by decide +kernel
theorem dX1_fillRows_193 : decode cX1_fillRows 193 = .ok (.return_, 1) := by decide +kernel
theorem dX1_clearRows_0 : decode cX1_clearRows 0 = .ok (.lconst 1, 1) := by decide +kernel
theorem dX1_clearRows_1 : decode cX1_clearRows 1 = .ok (.lstore_n 1, 1) := by decide +kernel
theorem dX1_clearRows_2 : decode cX1_clearRows 2 = .ok (.iconst 0, 1) := by decide +kernel
theorem dX1_clearRows_3 : decode cX1_clearRows 3 = .ok (.istore_n 3, 1) := by decide +kernel
theorem dX1_clearRows_4 : decode cX1_clearRows 4 = .ok (.iload_n 3, 1) := by decide +kernel
theorem dX1_clearRows_5 : decode cX1_clearRows 5 = .ok (.aload_n 0, 1) := by decide +kernel
theorem dX1_clearRows_6 : decode cX1_clearRows 6 = .ok (.getfield 30, 3) := by decide +kernel
theorem dX1_clearRows_9 : decode cX1_clearRows 9 = .ok (.if_icmp .ge 50, 3) := by decide +kernel
theorem dX1_clearRows_12 : decode cX1_clearRows 12 = .ok (.iconst 0, 1) := by decide +kernel
theorem dX1_clearRows_13 : decode cX1_clearRows 13 = .ok (.istore 4, 2) := by decide +kernel
theorem dX1_clearRows_15 : decode cX1_clearRows 15 = .ok (.iload 4, 2) := by decide +kernel
theorem dX1_clearRows_17 : decode cX1_clearRows 17 = .ok (.aload_n 0, 1) := by decide +kernel
theorem dX1_clearRows_18 : decode cX1_clearRows 18 = .ok (.getfield 30, 3) := by decide +kernel
theorem dX1_clearRows_21 : decode cX1_clearRows 21 = .ok (.if_icmp .ge 23, 3) := by decide +kernel
theorem dX1_clearRows_24 : decode cX1_clearRows 24 = .ok (.iload 4, 2) := by decide +kernel
theorem dX1_clearRows_26 : decode cX1_clearRows 26 = .ok (.iload_n 3, 1) := by decide +kernel
theorem dX1_clearRows_27 : decode cX1_clearRows 27 = .ok (.if_icmp .eq 11, 3) := by decide +kernel
theorem dX1_clearRows_30 : decode cX1_clearRows 30 = .ok (.aload_n 0, 1) := by decide +kernel
theorem dX1_clearRows_31 : decode cX1_clearRows 31 = .ok (.iload 4, 2) := by decide +kernel
theorem dX1_clearRows_33 : decode cX1_clearRows 33 = .ok (.iload_n 3, 1) := by decide +kernel
theorem dX1_clearRows_34 : decode cX1_clearRows 34 = .ok (.lload_n 1, 1) := by decide +kernel
theorem dX1_clearRows_35 : decode cX1_clearRows 35 = .ok (.invokevirtual 97, 3) := by decide +kernel
theorem dX1_clearRows_38 : decode cX1_clearRows 38 = .ok (.iinc 4 1, 3) := by decide +kernel
theorem dX1_clearRows_41 : decode cX1_clearRows 41 = .ok (.goto (-26), 3) := by decide +kernel
theorem dX1_clearRows_44 : decode cX1_clearRows 44 = .ok (.aload_n 0, 1) := by decide +kernel
theorem dX1_clearRows_45 : decode cX1_clearRows 45 = .ok (.getfield 42, 3) := by decide +kernel
theorem dX1_clearRows_48 : decode cX1_clearRows 48 = .ok (.iload_n 3, 1) := by decide +kernel
theorem dX1_clearRows_49 : decode cX1_clearRows 49 = .ok (.aaload, 1) := by decide +kernel
theorem dX1_clearRows_50 : decode cX1_clearRows 50 = .ok (.iload_n 3, 1) := by decide +kernel
theorem dX1_clearRows_51 : decode cX1_clearRows 51 = .ok (.laload, 1) := by decide +kernel
theorem dX1_clearRows_52 : decode cX1_clearRows 52 = .ok (.lstore_n 1, 1) := by decide +kernel
theorem dX1_clearRows_53 : decode cX1_clearRows 53 = .ok (.iinc 3 1, 3) := by decide +kernel
theorem dX1_clearRows_56 : decode cX1_clearRows 56 = .ok (.goto (-52), 3) := by decide +kernel
theorem dX1_clearRows_59 : decode cX1_clearRows 59 = .ok (.aload_n 0, 1) := by decide +kernel
theorem dX1_clearRows_60 : decode cX1_clearRows 60 = .ok (.lload_n 1, 1) := by decide +kernel
theorem dX1_clearRows_61 : decode cX1_clearRows 61 = .ok (.putfield 15, 3) := by decide +kernel
theorem dX1_clearRows_64 : decode cX1_clearRows 64 = .ok (.return_, 1) := by decide +kernel
theorem dX1_clearRow_0 : decode cX1_clearRow 0 = .ok (.lload_n 3, 1) := by decide +kernel
theorem dX1_clearRow_1 : decode cX1_clearRow 1 = .ok (.lconst 0, 1) := by decide +kernel
theorem dX1_clearRow_2 : decode cX1_clearRow 2 = .ok (.lcmp, 1) := by decide +kernel
theorem dX1_clearRow_3 : decode cX1_clearRow 3 = .ok (.ifCond .ne 4, 3) := by decide +kernel
theorem dX1_clearRow_6 : decode cX1_clearRow 6 = .ok (.return_, 1) := by decide +kernel
theorem dX1_clearRow_7 : decode cX1_clearRow 7 = .ok (.aload_n 0, 1) := by decide +kernel
theorem dX1_clearRow_8 : decode cX1_clearRow 8 = .ok (.getfield 42, 3) := by decide +kernel
theorem dX1_clearRow_11 : decode cX1_clearRow 11 = .ok (.iload_n 2, 1) := by decide +kernel
theorem dX1_clearRow_12 : decode cX1_clearRow 12 = .ok (.aaload, 1) := by decide +kernel
theorem dX1_clearRow_13 : decode cX1_clearRow 13 = .ok (.iload_n 2, 1) := by decide +kernel
theorem dX1_clearRow_14 : decode cX1_clearRow 14 = .ok (.laload, 1) := by decide +kernel
theorem dX1_clearRow_15 : decode cX1_clearRow 15 = .ok (.lstore 5, 2) := by decide +kernel
theorem dX1_clearRow_17 : decode cX1_clearRow 17 = .ok (.aload_n 0, 1) := by decide +kernel
theorem dX1_clearRow_18 : decode cX1_clearRow 18 = .ok (.getfield 42, 3) := by decide +kernel
theorem dX1_clearRow_21 : decode cX1_clearRow 21 = .ok (.iload_n 1, 1) := by decide +kernel
theorem dX1_clearRow_22 : decode cX1_clearRow 22 = .ok (.aaload, 1) := by decide +kernel
theorem dX1_clearRow_23 : decode cX1_clearRow 23 = .ok (.iload_n 2, 1) := by decide +kernel
theorem dX1_clearRow_24 : decode cX1_clearRow 24 = .ok (.laload, 1) := by decide +kernel
theorem dX1_clearRow_25 : decode cX1_clearRow 25 = .ok (.lstore 7, 2) := by decide +kernel
theorem dX1_clearRow_27 : decode cX1_clearRow 27 = .ok (.iload_n 2, 1) := by decide +kernel
theorem dX1_clearRow_28 : decode cX1_clearRow 28 = .ok (.iconst 1, 1) := by decide +kernel
theorem dX1_clearRow_29 : decode cX1_clearRow 29 = .ok (.iadd, 1) := by decide +kernel
theorem dX1_clearRow_30 : decode cX1_clearRow 30 = .ok (.istore 9, 2) := by decide +kernel
theorem dX1_clearRow_32 : decode cX1_clearRow 32 = .ok (.iload 9, 2) := by decide +kernel
theorem dX1_clearRow_34 : decode cX1_clearRow 34 = .ok (.aload_n 0, 1) := by decide +kernel
theorem dX1_clearRow_35 : decode cX1_clearRow 35 = .ok (.getfield 30, 3) := by decide +kernel
theorem dX1_clearRow_38 : decode cX1_clearRow 38 = .ok (.if_icmp .gt 45, 3) := by decide +kernel
theorem dX1_clearRow_41 : decode cX1_clearRow 41 = .ok (.aload_n 0, 1) := by decide +kernel
theorem dX1_clearRow_42 : decode cX1_clearRow 42 = .ok (.getfield 42, 3) := by decide +kernel
theorem dX1_clearRow_45 : decode cX1_clearRow 45 = .ok (.iload_n 1, 1) := by decide +kernel
theorem dX1_clearRow_46 : decode cX1_clearRow 46 = .ok (.aaload, 1) := by decide +kernel
theorem dX1_clearRow_47 : decode cX1_clearRow 47 = .ok (.iload 9, 2) := by decide +kernel
theorem dX1_clearRow_49 : decode cX1_clearRow 49 = .ok (.lload 5, 2) := by decide +kernel
theorem dX1_clearRow_51 : decode cX1_clearRow 51 = .ok (.aload_n 0, 1) := by decide +kernel
theorem dX1_clearRow_52 : decode cX1_clearRow 52 = .ok (.getfield 42, 3) := by decide +kernel
theorem dX1_clearRow_55 : decode cX1_clearRow 55 = .ok (.iload_n 1, 1) := by decide +kernel
theorem dX1_clearRow_56 : decode cX1_clearRow 56 = .ok (.aaload, 1) := by decide +kernel
theorem dX1_clearRow_57 : decode cX1_clearRow 57 = .ok (.iload 9, 2) := by decide +kernel
theorem dX1_clearRow_59 : decode cX1_clearRow 59 = .ok (.laload, 1) := by decide +kernel
theorem dX1_clearRow_60 : decode cX1_clearRow 60 = .ok (.lmul, 1) := by decide +kernel
theorem dX1_clearRow_61 : decode cX1_clearRow 61 = .ok (.lload 7, 2) := by decide +kernel
theorem dX1_clearRow_63 : decode cX1_clearRow 63 = .ok (.aload_n 0, 1) := by decide +kernel
theorem dX1_clearRow_64 : decode cX1_clearRow 64 = .ok (.getfield 42, 3) := by decide +kernel
theorem dX1_clearRow_67 : decode cX1_clearRow 67 = .ok (.iload_n 2, 1) := by decide +kernel
theorem dX1_clearRow_68 : decode cX1_clearRow 68 = .ok (.aaload, 1) := by decide +kernel
theorem dX1_clearRow_69 : decode cX1_clearRow 69 = .ok (.iload 9, 2) := by decide +kernel
theorem dX1_clearRow_71 : decode cX1_clearRow 71 = .ok (.laload, 1) := by decide +kernel
theorem dX1_clearRow_72 : decode cX1_clearRow 72 = .ok (.lmul, 1) := by decide +kernel
theorem dX1_clearRow_73 : decode cX1_clearRow 73 = .ok (.lsub, 1) := by decide +kernel
theorem dX1_clearRow_74 : decode cX1_clearRow 74 = .ok (.lload_n 3, 1) := by decide +kernel
theorem dX1_clearRow_75 : decode cX1_clearRow 75 = .ok (.ldiv, 1) := by decide +kernel
theorem dX1_clearRow_76 : decode cX1_clearRow 76 = .ok (.lastore, 1) := by decide +kernel
theorem dX1_clearRow_77 : decode cX1_clearRow 77 = .ok (.iinc 9 1, 3) := by decide +kernel
theorem dX1_clearRow_80 : decode cX1_clearRow 80 = .ok (.goto (-48), 3) := by decide +kernel
theorem dX1_clearRow_83 : decode cX1_clearRow 83 = .ok (.return_, 1) := by decide +kernel
theorem dX1_keepScore_0 : decode cX1_keepScore 0 = .ok (.aload_n 0, 1) := by decide +kernel
theorem dX1_keepScore_1 : decode cX1_keepScore 1 = .ok (.getfield 26, 3) := by decide +kernel
theorem dX1_keepScore_4 : decode cX1_keepScore 4 = .ok (.iconst 0, 1) := by decide +kernel
theorem dX1_keepScore_5 : decode cX1_keepScore 5 = .ok (.putfield 101, 3) := by decide +kernel
theorem dX1_keepScore_8 : decode cX1_keepScore 8 = .ok (.aload_n 0, 1) := by decide +kernel
theorem dX1_keepScore_9 : decode cX1_keepScore 9 = .ok (.getfield 26, 3) := by decide +kernel
theorem dX1_keepScore_12 : decode cX1_keepScore 12 = .ok (.lconst 0, 1) := by decide +kernel
theorem dX1_keepScore_13 : decode cX1_keepScore 13 = .ok (.putfield 104, 3) := by decide +kernel
theorem dX1_keepScore_16 : decode cX1_keepScore 16 = .ok (.aload_n 0, 1) := by decide +kernel
theorem dX1_keepScore_17 : decode cX1_keepScore 17 = .ok (.getfield 26, 3) := by decide +kernel
theorem dX1_keepScore_20 : decode cX1_keepScore 20 = .ok (.aload_n 0, 1) := by decide +kernel
theorem dX1_keepScore_21 : decode cX1_keepScore 21 = .ok (.getfield 15, 3) := by decide +kernel
theorem dX1_keepScore_24 : decode cX1_keepScore 24 = .ok (.putfield 106, 3) := by decide +kernel
theorem dX1_keepScore_27 : decode cX1_keepScore 27 = .ok (.iconst 0, 1) := by decide +kernel
theorem dX1_keepScore_28 : decode cX1_keepScore 28 = .ok (.istore_n 3, 1) := by decide +kernel
theorem dX1_keepScore_29 : decode cX1_keepScore 29 = .ok (.iload_n 3, 1) := by decide +kernel
theorem dX1_keepScore_30 : decode cX1_keepScore 30 = .ok (.aload_n 1, 1) := by decide +kernel
theorem dX1_keepScore_31 : decode cX1_keepScore 31 = .ok (.getfield 48, 3) := by decide +kernel
theorem dX1_keepScore_34 : decode cX1_keepScore 34 = .ok (.if_icmp .ge 59, 3) := by decide +kernel
theorem dX1_keepScore_37 : decode cX1_keepScore 37 = .ok (.aload_n 0, 1) := by decide +kernel
theorem dX1_keepScore_38 : decode cX1_keepScore 38 = .ok (.iload_n 3, 1) := by decide +kernel
theorem dX1_keepScore_39 : decode cX1_keepScore 39 = .ok (.invokevirtual 107, 3) := by decide +kernel
theorem dX1_keepScore_42 : decode cX1_keepScore 42 = .ok (.ifCond .eq 22, 3) := by decide +kernel
theorem dX1_keepScore_45 : decode cX1_keepScore 45 = .ok (.aload_n 2, 1) := by decide +kernel
theorem dX1_keepScore_46 : decode cX1_keepScore 46 = .ok (.iload_n 3, 1) := by decide +kernel
theorem dX1_keepScore_47 : decode cX1_keepScore 47 = .ok (.iaload, 1) := by decide +kernel
theorem dX1_keepScore_48 : decode cX1_keepScore 48 = .ok (.ifCond .le 16, 3) := by decide +kernel
theorem dX1_keepScore_51 : decode cX1_keepScore 51 = .ok (.aload_n 0, 1) := by decide +kernel
theorem dX1_keepScore_52 : decode cX1_keepScore 52 = .ok (.getfield 26, 3) := by decide +kernel
theorem dX1_keepScore_55 : decode cX1_keepScore 55 = .ok (.dup, 1) := by decide +kernel
theorem dX1_keepScore_56 : decode cX1_keepScore 56 = .ok (.getfield 101, 3) := by decide +kernel
theorem dX1_keepScore_59 : decode cX1_keepScore 59 = .ok (.iconst 1, 1) := by decide +kernel
theorem dX1_keepScore_60 : decode cX1_keepScore 60 = .ok (.iadd, 1) := by decide +kernel
theorem dX1_keepScore_61 : decode cX1_keepScore 61 = .ok (.putfield 101, 3) := by decide +kernel
theorem dX1_keepScore_64 : decode cX1_keepScore 64 = .ok (.aload_n 0, 1) := by decide +kernel
theorem dX1_keepScore_65 : decode cX1_keepScore 65 = .ok (.getfield 26, 3) := by decide +kernel
theorem dX1_keepScore_68 : decode cX1_keepScore 68 = .ok (.aload_n 0, 1) := by decide +kernel
theorem dX1_keepScore_69 : decode cX1_keepScore 69 = .ok (.getfield 26, 3) := by decide +kernel
theorem dX1_keepScore_72 : decode cX1_keepScore 72 = .ok (.getfield 104, 3) := by decide +kernel
theorem dX1_keepScore_75 : decode cX1_keepScore 75 = .ok (.aload_n 0, 1) := by decide +kernel
theorem dX1_keepScore_76 : decode cX1_keepScore 76 = .ok (.getfield 19, 3) := by decide +kernel
theorem dX1_keepScore_79 : decode cX1_keepScore 79 = .ok (.iload_n 3, 1) := by decide +kernel
theorem dX1_keepScore_80 : decode cX1_keepScore 80 = .ok (.laload, 1) := by decide +kernel
theorem dX1_keepScore_81 : decode cX1_keepScore 81 = .ok (.invokestatic 111, 3) := by decide +kernel
theorem dX1_keepScore_84 : decode cX1_keepScore 84 = .ok (.putfield 104, 3) := by decide +kernel
theorem dX1_keepScore_87 : decode cX1_keepScore 87 = .ok (.iinc 3 1, 3) := by decide +kernel
theorem dX1_keepScore_90 : decode cX1_keepScore 90 = .ok (.goto (-61), 3) := by decide +kernel
theorem dX1_keepScore_93 : decode cX1_keepScore 93 = .ok (.return_, 1) := by decide +kernel
theorem dX1_isDead_0 : decode cX1_isDead 0 = .ok (.aload_n 0, 1) := by decide +kernel
theorem dX1_isDead_1 : decode cX1_isDead 1 = .ok (.getfield 9, 3) := by decide +kernel
theorem dX1_isDead_4 : decode cX1_isDead 4 = .ok (.iload_n 1, 1) := by decide +kernel
theorem dX1_isDead_5 : decode cX1_isDead 5 = .ok (.ishr, 1) := by decide +kernel
theorem dX1_isDead_6 : decode cX1_isDead 6 = .ok (.iconst 1, 1) := by decide +kernel
theorem dX1_isDead_7 : decode cX1_isDead 7 = .ok (.iand, 1) := by decide +kernel
theorem dX1_isDead_8 : decode cX1_isDead 8 = .ok (.iconst 1, 1) := by decide +kernel
theorem dX1_isDead_9 : decode cX1_isDead 9 = .ok (.if_icmp .ne 7, 3) := by decide +kernel
theorem dX1_isDead_12 : decode cX1_isDead 12 = .ok (.iconst 1, 1) := by decide +kernel
theorem dX1_isDead_13 : decode cX1_isDead 13 = .ok (.goto 4, 3) := by decide +kernel
theorem dX1_isDead_16 : decode cX1_isDead 16 = .ok (.iconst 0, 1) := by decide +kernel
theorem dX1_isDead_17 : decode cX1_isDead 17 = .ok (.ireturn, 1) := by decide +kernel
theorem dX1_rise_0 : decode cX1_rise 0 = .ok (.aload_n 0, 1) := by decide +kernel
theorem dX1_rise_1 : decode cX1_rise 1 = .ok (.getfield 19, 3) := by decide +kernel
theorem dX1_rise_4 : decode cX1_rise 4 = .ok (.aload_n 1, 1) := by decide +kernel
theorem dX1_rise_5 : decode cX1_rise 5 = .ok (.getfield 94, 3) := by decide +kernel
theorem dX1_rise_8 : decode cX1_rise 8 = .ok (.iload_n 2, 1) := by decide +kernel
theorem dX1_rise_9 : decode cX1_rise 9 = .ok (.iaload, 1) := by decide +kernel
theorem dX1_rise_10 : decode cX1_rise 10 = .ok (.laload, 1) := by decide +kernel
theorem dX1_rise_11 : decode cX1_rise 11 = .ok (.aload_n 0, 1) := by decide +kernel
theorem dX1_rise_12 : decode cX1_rise 12 = .ok (.getfield 19, 3) := by decide +kernel
theorem dX1_rise_15 : decode cX1_rise 15 = .ok (.aload_n 1, 1) := by decide +kernel
theorem dX1_rise_16 : decode cX1_rise 16 = .ok (.getfield 91, 3) := by decide +kernel
theorem dX1_rise_19 : decode cX1_rise 19 = .ok (.iload_n 2, 1) := by decide +kernel
theorem dX1_rise_20 : decode cX1_rise 20 = .ok (.iaload, 1) := by decide +kernel
theorem dX1_rise_21 : decode cX1_rise 21 = .ok (.laload, 1) := by decide +kernel
theorem dX1_rise_22 : decode cX1_rise 22 = .ok (.lsub, 1) := by decide +kernel
theorem dX1_rise_23 : decode cX1_rise 23 = .ok (.lreturn, 1) := by decide +kernel
theorem dX1_givenBy_0 : decode cX1_givenBy 0 = .ok (.aload_n 1, 1) := by decide +kernel
theorem dX1_givenBy_1 : decode cX1_givenBy 1 = .ok (.getfield 117, 3) := by decide +kernel
theorem dX1_givenBy_4 : decode cX1_givenBy 4 = .ok (.iload_n 2, 1) := by decide +kernel
theorem dX1_givenBy_5 : decode cX1_givenBy 5 = .ok (.iaload, 1) := by decide +kernel
theorem dX1_givenBy_6 : decode cX1_givenBy 6 = .ok (.i2l, 1) := by decide +kernel
theorem dX1_givenBy_7 : decode cX1_givenBy 7 = .ok (.aload_n 0, 1) := by decide +kernel
theorem dX1_givenBy_8 : decode cX1_givenBy 8 = .ok (.getfield 15, 3) := by decide +kernel
theorem dX1_givenBy_11 : decode cX1_givenBy 11 = .ok (.lmul, 1) := by decide +kernel
theorem dX1_givenBy_12 : decode cX1_givenBy 12 = .ok (.lstore_n 3, 1) := by decide +kernel
theorem dX1_givenBy_13 : decode cX1_givenBy 13 = .ok (.iconst 0, 1) := by decide +kernel
theorem dX1_givenBy_14 : decode cX1_givenBy 14 = .ok (.istore 5, 2) := by decide +kernel
theorem dX1_givenBy_16 : decode cX1_givenBy 16 = .ok (.iload 5, 2) := by decide +kernel
theorem dX1_givenBy_18 : decode cX1_givenBy 18 = .ok (.aload_n 1, 1) := by decide +kernel
theorem dX1_givenBy_19 : decode cX1_givenBy 19 = .ok (.getfield 88, 3) := by decide +kernel
theorem dX1_givenBy_22 : decode cX1_givenBy 22 = .ok (.if_icmp .ge 82, 3) := by decide +kernel
theorem dX1_givenBy_25 : decode cX1_givenBy 25 = .ok (.aload_n 1, 1) := by decide +kernel
theorem dX1_givenBy_26 : decode cX1_givenBy 26 = .ok (.getfield 91, 3) := by decide +kernel
theorem dX1_givenBy_29 : decode cX1_givenBy 29 = .ok (.iload 5, 2) := by decide +kernel
theorem dX1_givenBy_31 : decode cX1_givenBy 31 = .ok (.iaload, 1) := by decide +kernel
theorem dX1_givenBy_32 : decode cX1_givenBy 32 = .ok (.iload_n 2, 1) := by decide +kernel
theorem dX1_givenBy_33 : decode cX1_givenBy 33 = .ok (.if_icmp .ne 30, 3) := by decide +kernel
theorem dX1_givenBy_36 : decode cX1_givenBy 36 = .ok (.lload_n 3, 1) := by decide +kernel
theorem dX1_givenBy_37 : decode cX1_givenBy 37 = .ok (.aload_n 1, 1) := by decide +kernel
theorem dX1_givenBy_38 : decode cX1_givenBy 38 = .ok (.getfield 81, 3) := by decide +kernel
theorem dX1_givenBy_41 : decode cX1_givenBy 41 = .ok (.iload 5, 2) := by decide +kernel
theorem dX1_givenBy_43 : decode cX1_givenBy 43 = .ok (.iaload, 1) := by decide +kernel
theorem dX1_givenBy_44 : decode cX1_givenBy 44 = .ok (.i2l, 1) := by decide +kernel
theorem dX1_givenBy_45 : decode cX1_givenBy 45 = .ok (.aload_n 0, 1) := by decide +kernel
theorem dX1_givenBy_46 : decode cX1_givenBy 46 = .ok (.getfield 19, 3) := by decide +kernel
theorem dX1_givenBy_49 : decode cX1_givenBy 49 = .ok (.aload_n 1, 1) := by decide +kernel
theorem dX1_givenBy_50 : decode cX1_givenBy 50 = .ok (.getfield 94, 3) := by decide +kernel
theorem dX1_givenBy_53 : decode cX1_givenBy 53 = .ok (.iload 5, 2) := by decide +kernel
theorem dX1_givenBy_55 : decode cX1_givenBy 55 = .ok (.iaload, 1) := by decide +kernel
theorem dX1_givenBy_56 : decode cX1_givenBy 56 = .ok (.laload, 1) := by decide +kernel
theorem dX1_givenBy_57 : decode cX1_givenBy 57 = .ok (.lmul, 1) := by decide +kernel
theorem dX1_givenBy_58 : decode cX1_givenBy 58 = .ok (.ladd, 1) := by decide +kernel
theorem dX1_givenBy_59 : decode cX1_givenBy 59 = .ok (.lstore_n 3, 1) := by decide +kernel
theorem dX1_givenBy_60 : decode cX1_givenBy 60 = .ok (.goto 38, 3) := by decide +kernel
theorem dX1_givenBy_63 : decode cX1_givenBy 63 = .ok (.aload_n 1, 1) := by decide +kernel
theorem dX1_givenBy_64 : decode cX1_givenBy 64 = .ok (.getfield 94, 3) := by decide +kernel
theorem dX1_givenBy_67 : decode cX1_givenBy 67 = .ok (.iload 5, 2) := by decide +kernel
theorem dX1_givenBy_69 : decode cX1_givenBy 69 = .ok (.iaload, 1) := by decide +kernel
theorem dX1_givenBy_70 : decode cX1_givenBy 70 = .ok (.iload_n 2, 1) := by decide +kernel
theorem dX1_givenBy_71 : decode cX1_givenBy 71 = .ok (.if_icmp .ne 27, 3) := by decide +kernel
theorem dX1_givenBy_74 : decode cX1_givenBy 74 = .ok (.lload_n 3, 1) := by decide +kernel
theorem dX1_givenBy_75 : decode cX1_givenBy 75 = .ok (.aload_n 1, 1) := by decide +kernel
theorem dX1_givenBy_76 : decode cX1_givenBy 76 = .ok (.getfield 81, 3) := by decide +kernel
theorem dX1_givenBy_79 : decode cX1_givenBy 79 = .ok (.iload 5, 2) := by decide +kernel
theorem dX1_givenBy_81 : decode cX1_givenBy 81 = .ok (.iaload, 1) := by decide +kernel
theorem dX1_givenBy_82 : decode cX1_givenBy 82 = .ok (.i2l, 1) := by decide +kernel
theorem dX1_givenBy_83 : decode cX1_givenBy 83 = .ok (.aload_n 0, 1) := by decide +kernel
theorem dX1_givenBy_84 : decode cX1_givenBy 84 = .ok (.getfield 19, 3) := by decide +kernel
theorem dX1_givenBy_87 : decode cX1_givenBy 87 = .ok (.aload_n 1, 1) := by decide +kernel
theorem dX1_givenBy_88 : decode cX1_givenBy 88 = .ok (.getfield 91, 3) := by decide +kernel
theorem dX1_givenBy_91 : decode cX1_givenBy 91 = .ok (.iload 5, 2) := by decide +kernel
theorem dX1_givenBy_93 : decode cX1_givenBy 93 = .ok (.iaload, 1) := by decide +kernel
theorem dX1_givenBy_94 : decode cX1_givenBy 94 = .ok (.laload, 1) := by decide +kernel
theorem dX1_givenBy_95 : decode cX1_givenBy 95 = .ok (.lmul, 1) := by decide +kernel
theorem dX1_givenBy_96 : decode cX1_givenBy 96 = .ok (.ladd, 1) := by decide +kernel
theorem dX1_givenBy_97 : decode cX1_givenBy 97 = .ok (.lstore_n 3, 1) := by decide +kernel
theorem dX1_givenBy_98 : decode cX1_givenBy 98 = .ok (.iinc 5 1, 3) := by decide +kernel
theorem dX1_givenBy_101 : decode cX1_givenBy 101 = .ok (.goto (-85), 3) := by decide +kernel
theorem dX1_givenBy_104 : decode cX1_givenBy 104 = .ok (.lload_n 3, 1) := by decide +kernel
theorem dX1_givenBy_105 : decode cX1_givenBy 105 = .ok (.lreturn, 1) := by decide +kernel
theorem dX1_heatAbove_0 : decode cX1_heatAbove 0 = .ok (.aload_n 2, 1) := by decide +kernel
theorem dX1_heatAbove_1 : decode cX1_heatAbove 1 = .ok (.iload_n 3, 1) := by decide +kernel
theorem dX1_heatAbove_2 : decode cX1_heatAbove 2 = .ok (.iaload, 1) := by decide +kernel
theorem dX1_heatAbove_3 : decode cX1_heatAbove 3 = .ok (.ifCond .le 15, 3) := by decide +kernel
theorem dX1_heatAbove_6 : decode cX1_heatAbove 6 = .ok (.aload_n 0, 1) := by decide +kernel
theorem dX1_heatAbove_7 : decode cX1_heatAbove 7 = .ok (.aload_n 1, 1) := by decide +kernel
theorem dX1_heatAbove_8 : decode cX1_heatAbove 8 = .ok (.iload_n 3, 1) := by decide +kernel
theorem dX1_heatAbove_9 : decode cX1_heatAbove 9 = .ok (.invokevirtual 120, 3) := by decide +kernel
theorem dX1_heatAbove_12 : decode cX1_heatAbove 12 = .ok (.invokestatic 124, 3) := by decide +kernel
theorem dX1_heatAbove_15 : decode cX1_heatAbove 15 = .ok (.goto 4, 3) := by decide +kernel
theorem dX1_heatAbove_18 : decode cX1_heatAbove 18 = .ok (.lconst 0, 1) := by decide +kernel
theorem dX1_heatAbove_19 : decode cX1_heatAbove 19 = .ok (.lreturn, 1) := by decide +kernel
theorem dX1_wearBits_0 : decode cX1_wearBits 0 = .ok (.iconst 0, 1) := by decide +kernel
theorem dX1_wearBits_1 : decode cX1_wearBits 1 = .ok (.istore_n 3, 1) := by decide +kernel
theorem dX1_wearBits_2 : decode cX1_wearBits 2 = .ok (.iconst 0, 1) := by decide +kernel
theorem dX1_wearBits_3 : decode cX1_wearBits 3 = .ok (.istore 4, 2) := by decide +kernel
theorem dX1_wearBits_5 : decode cX1_wearBits 5 = .ok (.iload 4, 2) := by decide +kernel
theorem dX1_wearBits_7 : decode cX1_wearBits 7 = .ok (.aload_n 1, 1) := by decide +kernel
theorem dX1_wearBits_8 : decode cX1_wearBits 8 = .ok (.getfield 88, 3) := by decide +kernel
theorem dX1_wearBits_11 : decode cX1_wearBits 11 = .ok (.if_icmp .ge 38, 3) := by decide +kernel
theorem dX1_wearBits_14 : decode cX1_wearBits 14 = .ok (.aload_n 0, 1) := by decide +kernel
theorem dX1_wearBits_15 : decode cX1_wearBits 15 = .ok (.aload_n 1, 1) := by decide +kernel
theorem dX1_wearBits_16 : decode cX1_wearBits 16 = .ok (.aload_n 2, 1) := by decide +kernel
theorem dX1_wearBits_17 : decode cX1_wearBits 17 = .ok (.iload 4, 2) := by decide +kernel
theorem dX1_wearBits_19 : decode cX1_wearBits 19 = .ok (.invokevirtual 128, 3) := by decide +kernel
theorem dX1_wearBits_22 : decode cX1_wearBits 22 = .ok (.aload_n 1, 1) := by decide +kernel
theorem dX1_wearBits_23 : decode cX1_wearBits 23 = .ok (.getfield 132, 3) := by decide +kernel
theorem dX1_wearBits_26 : decode cX1_wearBits 26 = .ok (.i2l, 1) := by decide +kernel
theorem dX1_wearBits_27 : decode cX1_wearBits 27 = .ok (.aload_n 0, 1) := by decide +kernel
theorem dX1_wearBits_28 : decode cX1_wearBits 28 = .ok (.getfield 15, 3) := by decide +kernel
theorem dX1_wearBits_31 : decode cX1_wearBits 31 = .ok (.lmul, 1) := by decide +kernel
theorem dX1_wearBits_32 : decode cX1_wearBits 32 = .ok (.lcmp, 1) := by decide +kernel
theorem dX1_wearBits_33 : decode cX1_wearBits 33 = .ok (.ifCond .le 10, 3) := by decide +kernel
theorem dX1_wearBits_36 : decode cX1_wearBits 36 = .ok (.iload_n 3, 1) := by decide +kernel
theorem dX1_wearBits_37 : decode cX1_wearBits 37 = .ok (.iconst 1, 1) := by decide +kernel
theorem dX1_wearBits_38 : decode cX1_wearBits 38 = .ok (.iload 4, 2) := by decide +kernel
theorem dX1_wearBits_40 : decode cX1_wearBits 40 = .ok (.ishl, 1) := by decide +kernel
theorem dX1_wearBits_41 : decode cX1_wearBits 41 = .ok (.ior, 1) := by decide +kernel
theorem dX1_wearBits_42 : decode cX1_wearBits 42 = .ok (.istore_n 3, 1) := by decide +kernel
theorem dX1_wearBits_43 : decode cX1_wearBits 43 = .ok (.iinc 4 1, 3) := by decide +kernel
theorem dX1_wearBits_46 : decode cX1_wearBits 46 = .ok (.goto (-41), 3) := by decide +kernel
theorem dX1_wearBits_49 : decode cX1_wearBits 49 = .ok (.iload_n 3, 1) := by decide +kernel
theorem dX1_wearBits_50 : decode cX1_wearBits 50 = .ok (.ireturn, 1) := by decide +kernel
theorem dX2_init_0 : decode cX2_init 0 = .ok (.aload_n 0, 1) := by decide +kernel
theorem dX2_init_1 : decode cX2_init 1 = .ok (.invokespecial 3, 3) := by decide +kernel
theorem dX2_init_4 : decode cX2_init 4 = .ok (.aload_n 0, 1) := by decide +kernel
theorem dX2_init_5 : decode cX2_init 5 = .ok (.iconst 0, 1) := by decide +kernel
theorem dX2_init_6 : decode cX2_init 6 = .ok (.putfield 9, 3) := by decide +kernel
theorem dX2_init_9 : decode cX2_init 9 = .ok (.aload_n 0, 1) := by decide +kernel
theorem dX2_init_10 : decode cX2_init 10 = .ok (.new 15, 3) := by decide +kernel
theorem dX2_init_13 : decode cX2_init 13 = .ok (.dup, 1) := by decide +kernel
theorem dX2_init_14 : decode cX2_init 14 = .ok (.invokespecial 17, 3) := by decide +kernel
theorem dX2_init_17 : decode cX2_init 17 = .ok (.putfield 18, 3) := by decide +kernel
theorem dX2_init_20 : decode cX2_init 20 = .ok (.aload_n 0, 1) := by decide +kernel
theorem dX2_init_21 : decode cX2_init 21 = .ok (.lconst 0, 1) := by decide +kernel
theorem dX2_init_22 : decode cX2_init 22 = .ok (.putfield 22, 3) := by decide +kernel
theorem dX2_init_25 : decode cX2_init 25 = .ok (.aload_n 0, 1) := by decide +kernel
theorem dX2_init_26 : decode cX2_init 26 = .ok (.bipush 9, 2) := by decide +kernel
theorem dX2_init_28 : decode cX2_init 28 = .ok (.newarray .int, 2) := by decide +kernel
theorem dX2_init_30 : decode cX2_init 30 = .ok (.putfield 26, 3) := by decide +kernel
theorem dX2_init_33 : decode cX2_init 33 = .ok (.aload_n 0, 1) := by decide +kernel
theorem dX2_init_34 : decode cX2_init 34 = .ok (.new 30, 3) := by decide +kernel
theorem dX2_init_37 : decode cX2_init 37 = .ok (.dup, 1) := by decide +kernel
theorem dX2_init_38 : decode cX2_init 38 = .ok (.invokespecial 32, 3) := by decide +kernel
theorem dX2_init_41 : decode cX2_init 41 = .ok (.putfield 33, 3) := by decide +kernel
theorem dX2_init_44 : decode cX2_init 44 = .ok (.return_, 1) := by decide +kernel
theorem dX2_play_0 : decode cX2_play 0 = .ok (.aload_n 0, 1) := by decide +kernel
theorem dX2_play_1 : decode cX2_play 1 = .ok (.iconst 0, 1) := by decide +kernel
theorem dX2_play_2 : decode cX2_play 2 = .ok (.putfield 9, 3) := by decide +kernel
theorem dX2_play_5 : decode cX2_play 5 = .ok (.aload_n 0, 1) := by decide +kernel
theorem dX2_play_6 : decode cX2_play 6 = .ok (.getfield 18, 3) := by decide +kernel
theorem dX2_play_9 : decode cX2_play 9 = .ok (.lconst 0, 1) := by decide +kernel
theorem dX2_play_10 : decode cX2_play 10 = .ok (.putfield 37, 3) := by decide +kernel
theorem dX2_play_13 : decode cX2_play 13 = .ok (.aload_n 0, 1) := by decide +kernel
theorem dX2_play_14 : decode cX2_play 14 = .ok (.getfield 18, 3) := by decide +kernel
theorem dX2_play_17 : decode cX2_play 17 = .ok (.lconst 1, 1) := by decide +kernel
theorem dX2_play_18 : decode cX2_play 18 = .ok (.putfield 40, 3) := by decide +kernel
theorem dX2_play_21 : decode cX2_play 21 = .ok (.aload_n 0, 1) := by decide +kernel
theorem dX2_play_22 : decode cX2_play 22 = .ok (.iload_n 2, 1) := by decide +kernel
theorem dX2_play_23 : decode cX2_play 23 = .ok (.i2l, 1) := by decide +kernel
theorem dX2_play_24 : decode cX2_play 24 = .ok (.putfield 22, 3) := by decide +kernel
theorem dX2_play_27 : decode cX2_play 27 = .ok (.iconst 0, 1) := by decide +kernel
theorem dX2_play_28 : decode cX2_play 28 = .ok (.istore 4, 2) := by decide +kernel
theorem dX2_play_30 : decode cX2_play 30 = .ok (.iload 4, 2) := by decide +kernel
theorem dX2_play_32 : decode cX2_play 32 = .ok (.iload_n 3, 1) := by decide +kernel
theorem dX2_play_33 : decode cX2_play 33 = .ok (.if_icmp .ge 123, 3) := by decide +kernel
theorem dX2_play_36 : decode cX2_play 36 = .ok (.iconst 0, 1) := by decide +kernel
theorem dX2_play_37 : decode cX2_play 37 = .ok (.istore 5, 2) := by decide +kernel
theorem dX2_play_39 : decode cX2_play 39 = .ok (.iload 5, 2) := by decide +kernel
theorem dX2_play_41 : decode cX2_play 41 = .ok (.aload_n 1, 1) := by decide +kernel
theorem dX2_play_42 : decode cX2_play 42 = .ok (.getfield 43, 3) := by decide +kernel
theorem dX2_play_45 : decode cX2_play 45 = .ok (.if_icmp .ge 27, 3) := by decide +kernel
theorem dX2_play_48 : decode cX2_play 48 = .ok (.aload_n 0, 1) := by decide +kernel
theorem dX2_play_49 : decode cX2_play 49 = .ok (.getfield 26, 3) := by decide +kernel
theorem dX2_play_52 : decode cX2_play 52 = .ok (.iload 5, 2) := by decide +kernel
theorem dX2_play_54 : decode cX2_play 54 = .ok (.aload_n 0, 1) := by decide +kernel
theorem dX2_play_55 : decode cX2_play 55 = .ok (.aload_n 1, 1) := by decide +kernel
theorem dX2_play_56 : decode cX2_play 56 = .ok (.getfield 48, 3) := by decide +kernel
theorem dX2_play_59 : decode cX2_play 59 = .ok (.iload 5, 2) := by decide +kernel
theorem dX2_play_61 : decode cX2_play 61 = .ok (.iaload, 1) := by decide +kernel
theorem dX2_play_62 : decode cX2_play 62 = .ok (.invokevirtual 49, 3) := by decide +kernel
theorem dX2_play_65 : decode cX2_play 65 = .ok (.iastore, 1) := by decide +kernel
theorem dX2_play_66 : decode cX2_play 66 = .ok (.iinc 5 1, 3) := by decide +kernel
theorem dX2_play_69 : decode cX2_play 69 = .ok (.goto (-30), 3) := by decide +kernel
theorem dX2_play_72 : decode cX2_play 72 = .ok (.aload_n 0, 1) := by decide +kernel
theorem dX2_play_73 : decode cX2_play 73 = .ok (.getfield 33, 3) := by decide +kernel
theorem dX2_play_76 : decode cX2_play 76 = .ok (.aload_n 1, 1) := by decide +kernel
theorem dX2_play_77 : decode cX2_play 77 = .ok (.aload_n 1, 1) := by decide +kernel
theorem dX2_play_78 : decode cX2_play 78 = .ok (.getfield 53, 3) := by decide +kernel
theorem dX2_play_81 : decode cX2_play 81 = .ok (.aload_n 1, 1) := by decide +kernel
theorem dX2_play_82 : decode cX2_play 82 = .ok (.getfield 56, 3) := by decide +kernel
theorem dX2_play_85 : decode cX2_play 85 = .ok (.aload_n 0, 1) := by decide +kernel
theorem dX2_play_86 : decode cX2_play 86 = .ok (.getfield 26, 3) := by decide +kernel
theorem dX2_play_89 : decode cX2_play 89 = .ok (.invokevirtual 59, 3) := by decide +kernel
theorem dX2_play_92 : decode cX2_play 92 = .ok (.aload_n 0, 1) := by decide +kernel
theorem dX2_play_93 : decode cX2_play 93 = .ok (.getfield 33, 3) := by decide +kernel
theorem dX2_play_96 : decode cX2_play 96 = .ok (.getfield 63, 3) := by decide +kernel
theorem dX2_play_99 : decode cX2_play 99 = .ok (.aload_n 1, 1) := by decide +kernel
theorem dX2_play_100 : decode cX2_play 100 = .ok (.getfield 66, 3) := by decide +kernel
theorem dX2_play_103 : decode cX2_play 103 = .ok (.invokevirtual 69, 3) := by decide +kernel
theorem dX2_play_106 : decode cX2_play 106 = .ok (.ifCond .eq 13, 3) := by decide +kernel
theorem dX2_play_109 : decode cX2_play 109 = .ok (.aload_n 0, 1) := by decide +kernel
theorem dX2_play_110 : decode cX2_play 110 = .ok (.dup, 1) := by decide +kernel
theorem dX2_play_111 : decode cX2_play 111 = .ok (.getfield 9, 3) := by decide +kernel
theorem dX2_play_114 : decode cX2_play 114 = .ok (.iconst 1, 1) := by decide +kernel
theorem dX2_play_115 : decode cX2_play 115 = .ok (.iadd, 1) := by decide +kernel
theorem dX2_play_116 : decode cX2_play 116 = .ok (.putfield 9, 3) := by decide +kernel
theorem dX2_play_119 : decode cX2_play 119 = .ok (.aload_n 0, 1) := by decide +kernel
theorem dX2_play_120 : decode cX2_play 120 = .ok (.getfield 33, 3) := by decide +kernel
theorem dX2_play_123 : decode cX2_play 123 = .ok (.getfield 63, 3) := by decide +kernel
theorem dX2_play_126 : decode cX2_play 126 = .ok (.aload_n 0, 1) := by decide +kernel
theorem dX2_play_127 : decode cX2_play 127 = .ok (.getfield 18, 3) := by decide +kernel
theorem dX2_play_130 : decode cX2_play 130 = .ok (.invokevirtual 73, 3) := by decide +kernel
theorem dX2_play_133 : decode cX2_play 133 = .ok (.ifCond .eq 17, 3) := by decide +kernel
theorem dX2_play_136 : decode cX2_play 136 = .ok (.aload_n 0, 1) := by decide +kernel
theorem dX2_play_137 : decode cX2_play 137 = .ok (.getfield 18, 3) := by decide +kernel
theorem dX2_play_140 : decode cX2_play 140 = .ok (.aload_n 0, 1) := by decide +kernel
theorem dX2_play_141 : decode cX2_play 141 = .ok (.getfield 33, 3) := by decide +kernel
theorem dX2_play_144 : decode cX2_play 144 = .ok (.getfield 63, 3) := by decide +kernel
theorem dX2_play_147 : decode cX2_play 147 = .ok (.invokevirtual 77, 3) := by decide +kernel
theorem dX2_play_150 : decode cX2_play 150 = .ok (.iinc 4 1, 3) := by decide +kernel
theorem dX2_play_153 : decode cX2_play 153 = .ok (.goto (-123), 3) := by decide +kernel
theorem dX2_play_156 : decode cX2_play 156 = .ok (.return_, 1) := by decide +kernel
theorem dX2_nextDraw_0 : decode cX2_nextDraw 0 = .ok (.aload_n 0, 1) := by decide +kernel
theorem dX2_nextDraw_1 : decode cX2_nextDraw 1 = .ok (.ldc2_w 81, 3) := by decide +kernel
theorem dX2_nextDraw_4 : decode cX2_nextDraw 4 = .ok (.aload_n 0, 1) := by decide +kernel
theorem dX2_nextDraw_5 : decode cX2_nextDraw 5 = .ok (.getfield 22, 3) := by decide +kernel
theorem dX2_nextDraw_8 : decode cX2_nextDraw 8 = .ok (.lmul, 1) := by decide +kernel
theorem dX2_nextDraw_9 : decode cX2_nextDraw 9 = .ok (.ldc2_w 83, 3) := by decide +kernel
theorem dX2_nextDraw_12 : decode cX2_nextDraw 12 = .ok (.ladd, 1) := by decide +kernel
theorem dX2_nextDraw_13 : decode cX2_nextDraw 13 = .ok (.ldc2_w 85, 3) := by decide +kernel
theorem dX2_nextDraw_16 : decode cX2_nextDraw 16 = .ok (.land, 1) := by decide +kernel
theorem dX2_nextDraw_17 : decode cX2_nextDraw 17 = .ok (.putfield 22, 3) := by decide +kernel
theorem dX2_nextDraw_20 : decode cX2_nextDraw 20 = .ok (.iload_n 1, 1) := by decide +kernel
theorem dX2_nextDraw_21 : decode cX2_nextDraw 21 = .ok (.ifCond .le 20, 3) := by decide +kernel
theorem dX2_nextDraw_24 : decode cX2_nextDraw 24 = .ok (.aload_n 0, 1) := by decide +kernel
theorem dX2_nextDraw_25 : decode cX2_nextDraw 25 = .ok (.getfield 22, 3) := by decide +kernel
theorem dX2_nextDraw_28 : decode cX2_nextDraw 28 = .ok (.ldc2_w 87, 3) := by decide +kernel
theorem dX2_nextDraw_31 : decode cX2_nextDraw 31 = .ok (.ldiv, 1) := by decide +kernel
theorem dX2_nextDraw_32 : decode cX2_nextDraw 32 = .ok (.iload_n 1, 1) := by decide +kernel
theorem dX2_nextDraw_33 : decode cX2_nextDraw 33 = .ok (.iconst 1, 1) := by decide +kernel
theorem dX2_nextDraw_34 : decode cX2_nextDraw 34 = .ok (.iadd, 1) := by decide +kernel
theorem dX2_nextDraw_35 : decode cX2_nextDraw 35 = .ok (.i2l, 1) := by decide +kernel
theorem dX2_nextDraw_36 : decode cX2_nextDraw 36 = .ok (.lrem, 1) := by decide +kernel
theorem dX2_nextDraw_37 : decode cX2_nextDraw 37 = .ok (.l2i, 1) := by decide +kernel
theorem dX2_nextDraw_38 : decode cX2_nextDraw 38 = .ok (.goto 4, 3) := by decide +kernel
theorem dX2_nextDraw_41 : decode cX2_nextDraw 41 = .ok (.iconst 0, 1) := by decide +kernel
theorem dX2_nextDraw_42 : decode cX2_nextDraw 42 = .ok (.ireturn, 1) := by decide +kernel
theorem dX2_greatestDraw_0 : decode cX2_greatestDraw 0 = .ok (.aload_n 1, 1) := by decide +kernel
theorem dX2_greatestDraw_1 : decode cX2_greatestDraw 1 = .ok (.getfield 48, 3) := by decide +kernel
theorem dX2_greatestDraw_4 : decode cX2_greatestDraw 4 = .ok (.iconst 0, 1) := by decide +kernel
theorem dX2_greatestDraw_5 : decode cX2_greatestDraw 5 = .ok (.aload_n 0, 1) := by decide +kernel
theorem dX2_greatestDraw_6 : decode cX2_greatestDraw 6 = .ok (.getfield 26, 3) := by decide +kernel
theorem dX2_greatestDraw_9 : decode cX2_greatestDraw 9 = .ok (.iconst 0, 1) := by decide +kernel
theorem dX2_greatestDraw_10 : decode cX2_greatestDraw 10 = .ok (.bipush 9, 2) := by decide +kernel
theorem dX2_greatestDraw_12 : decode cX2_greatestDraw 12 = .ok (.invokestatic 89, 3) := by decide +kernel
theorem dX2_greatestDraw_15 : decode cX2_greatestDraw 15 = .ok (.iconst (-1), 1) := by decide +kernel
theorem dX2_greatestDraw_16 : decode cX2_greatestDraw 16 = .ok (.istore_n 3, 1) := by decide +kernel
theorem dX2_greatestDraw_17 : decode cX2_greatestDraw 17 = .ok (.bipush 99, 2) := by decide +kernel
theorem dX2_greatestDraw_19 : decode cX2_greatestDraw 19 = .ok (.istore 4, 2) := by decide +kernel
theorem dX2_greatestDraw_21 : decode cX2_greatestDraw 21 = .ok (.iconst 0, 1) := by decide +kernel
theorem dX2_greatestDraw_22 : decode cX2_greatestDraw 22 = .ok (.istore 5, 2) := by decide +kernel
theorem dX2_greatestDraw_24 : decode cX2_greatestDraw 24 = .ok (.iload 5, 2) := by decide +kernel
theorem dX2_greatestDraw_26 : decode cX2_greatestDraw 26 = .ok (.bipush 8, 2) := by decide +kernel
theorem dX2_greatestDraw_28 : decode cX2_greatestDraw 28 = .ok (.if_icmp .ge 82, 3) := by decide +kernel
theorem dX2_greatestDraw_31 : decode cX2_greatestDraw 31 = .ok (.iload_n 3, 1) := by decide +kernel
theorem dX2_greatestDraw_32 : decode cX2_greatestDraw 32 = .ok (.iload 4, 2) := by decide +kernel
theorem dX2_greatestDraw_34 : decode cX2_greatestDraw 34 = .ok (.if_icmp .ge 76, 3) := by decide +kernel
theorem dX2_greatestDraw_37 : decode cX2_greatestDraw 37 = .ok (.iload_n 3, 1) := by decide +kernel
theorem dX2_greatestDraw_38 : decode cX2_greatestDraw 38 = .ok (.iload 4, 2) := by decide +kernel
theorem dX2_greatestDraw_40 : decode cX2_greatestDraw 40 = .ok (.iadd, 1) := by decide +kernel
theorem dX2_greatestDraw_41 : decode cX2_greatestDraw 41 = .ok (.iconst 1, 1) := by decide +kernel
theorem dX2_greatestDraw_42 : decode cX2_greatestDraw 42 = .ok (.iadd, 1) := by decide +kernel
theorem dX2_greatestDraw_43 : decode cX2_greatestDraw 43 = .ok (.iconst 2, 1) := by decide +kernel
theorem dX2_greatestDraw_44 : decode cX2_greatestDraw 44 = .ok (.idiv, 1) := by decide +kernel
theorem dX2_greatestDraw_45 : decode cX2_greatestDraw 45 = .ok (.istore 6, 2) := by decide +kernel
theorem dX2_greatestDraw_47 : decode cX2_greatestDraw 47 = .ok (.aload_n 0, 1) := by decide +kernel
theorem dX2_greatestDraw_48 : decode cX2_greatestDraw 48 = .ok (.getfield 26, 3) := by decide +kernel
theorem dX2_greatestDraw_51 : decode cX2_greatestDraw 51 = .ok (.iload_n 2, 1) := by decide +kernel
theorem dX2_greatestDraw_52 : decode cX2_greatestDraw 52 = .ok (.iload 6, 2) := by decide +kernel
theorem dX2_greatestDraw_54 : decode cX2_greatestDraw 54 = .ok (.iastore, 1) := by decide +kernel
theorem dX2_greatestDraw_55 : decode cX2_greatestDraw 55 = .ok (.aload_n 0, 1) := by decide +kernel
theorem dX2_greatestDraw_56 : decode cX2_greatestDraw 56 = .ok (.getfield 33, 3) := by decide +kernel
theorem dX2_greatestDraw_59 : decode cX2_greatestDraw 59 = .ok (.aload_n 1, 1) := by decide +kernel
theorem dX2_greatestDraw_60 : decode cX2_greatestDraw 60 = .ok (.aload_n 1, 1) := by decide +kernel
theorem dX2_greatestDraw_61 : decode cX2_greatestDraw 61 = .ok (.getfield 53, 3) := by decide +kernel
theorem dX2_greatestDraw_64 : decode cX2_greatestDraw 64 = .ok (.aload_n 1, 1) := by decide +kernel
theorem dX2_greatestDraw_65 : decode cX2_greatestDraw 65 = .ok (.getfield 56, 3) := by decide +kernel
theorem dX2_greatestDraw_68 : decode cX2_greatestDraw 68 = .ok (.aload_n 0, 1) := by decide +kernel
theorem dX2_greatestDraw_69 : decode cX2_greatestDraw 69 = .ok (.getfield 26, 3) := by decide +kernel
theorem dX2_greatestDraw_72 : decode cX2_greatestDraw 72 = .ok (.invokevirtual 59, 3) := by decide +kernel
theorem dX2_greatestDraw_75 : decode cX2_greatestDraw 75 = .ok (.aload_n 0, 1) := by decide +kernel
theorem dX2_greatestDraw_76 : decode cX2_greatestDraw 76 = .ok (.getfield 33, 3) := by decide +kernel
theorem dX2_greatestDraw_79 : decode cX2_greatestDraw 79 = .ok (.getfield 63, 3) := by decide +kernel
theorem dX2_greatestDraw_82 : decode cX2_greatestDraw 82 = .ok (.aload_n 1, 1) := by decide +kernel
theorem dX2_greatestDraw_83 : decode cX2_greatestDraw 83 = .ok (.getfield 66, 3) := by decide +kernel
theorem dX2_greatestDraw_86 : decode cX2_greatestDraw 86 = .ok (.invokevirtual 69, 3) := by decide +kernel
theorem dX2_greatestDraw_89 : decode cX2_greatestDraw 89 = .ok (.ifCond .eq 9, 3) := by decide +kernel
theorem dX2_greatestDraw_92 : decode cX2_greatestDraw 92 = .ok (.iload 6, 2) := by decide +kernel
theorem dX2_greatestDraw_94 : decode cX2_greatestDraw 94 = .ok (.istore_n 3, 1) := by decide +kernel
theorem dX2_greatestDraw_95 : decode cX2_greatestDraw 95 = .ok (.goto 9, 3) := by decide +kernel
theorem dX2_greatestDraw_98 : decode cX2_greatestDraw 98 = .ok (.iload 6, 2) := by decide +kernel
theorem dX2_greatestDraw_100 : decode cX2_greatestDraw 100 = .ok (.iconst 1, 1) := by decide +kernel
theorem dX2_greatestDraw_101 : decode cX2_greatestDraw 101 = .ok (.isub, 1) := by decide +kernel
theorem dX2_greatestDraw_102 : decode cX2_greatestDraw 102 = .ok (.istore 4, 2) := by decide +kernel
theorem dX2_greatestDraw_104 : decode cX2_greatestDraw 104 = .ok (.iinc 5 1, 3) := by decide +kernel
theorem dX2_greatestDraw_107 : decode cX2_greatestDraw 107 = .ok (.goto (-83), 3) := by decide +kernel
theorem dX2_greatestDraw_110 : decode cX2_greatestDraw 110 = .ok (.iload_n 3, 1) := by decide +kernel
theorem dX2_greatestDraw_111 : decode cX2_greatestDraw 111 = .ok (.ireturn, 1) := by decide +kernel
theorem dX3_init_0 : decode cX3_init 0 = .ok (.aload_n 0, 1) := by decide +kernel
theorem dX3_init_1 : decode cX3_init 1 = .ok (.invokespecial 3, 3) := by decide +kernel
theorem dX3_init_4 : decode cX3_init 4 = .ok (.aload_n 0, 1) := by decide +kernel
theorem dX3_init_5 : decode cX3_init 5 = .ok (.iconst (-1), 1) := by decide +kernel
theorem dX3_init_6 : decode cX3_init 6 = .ok (.putfield 9, 3) := by decide +kernel
theorem dX3_init_9 : decode cX3_init 9 = .ok (.aload_n 0, 1) := by decide +kernel
theorem dX3_init_10 : decode cX3_init 10 = .ok (.iconst 0, 1) := by decide +kernel
theorem dX3_init_11 : decode cX3_init 11 = .ok (.putfield 15, 3) := by decide +kernel
theorem dX3_init_14 : decode cX3_init 14 = .ok (.aload_n 0, 1) := by decide +kernel
theorem dX3_init_15 : decode cX3_init 15 = .ok (.iconst 0, 1) := by decide +kernel
theorem dX3_init_16 : decode cX3_init 16 = .ok (.putfield 18, 3) := by decide +kernel
theorem dX3_init_19 : decode cX3_init 19 = .ok (.aload_n 0, 1) := by decide +kernel
theorem dX3_init_20 : decode cX3_init 20 = .ok (.bipush 66, 2) := by decide +kernel
theorem dX3_init_22 : decode cX3_init 22 = .ok (.newarray .int, 2) := by decide +kernel
theorem dX3_init_24 : decode cX3_init 24 = .ok (.putfield 21, 3) := by decide +kernel
theorem dX3_init_27 : decode cX3_init 27 = .ok (.aload_n 0, 1) := by decide +kernel
theorem dX3_init_28 : decode cX3_init 28 = .ok (.iconst 0, 1) := by decide +kernel
theorem dX3_init_29 : decode cX3_init 29 = .ok (.putfield 25, 3) := by decide +kernel
theorem dX3_init_32 : decode cX3_init 32 = .ok (.aload_n 0, 1) := by decide +kernel
theorem dX3_init_33 : decode cX3_init 33 = .ok (.iconst 0, 1) := by decide +kernel
theorem dX3_init_34 : decode cX3_init 34 = .ok (.putfield 29, 3) := by decide +kernel
theorem dX3_init_37 : decode cX3_init 37 = .ok (.aload_n 0, 1) := by decide +kernel
theorem dX3_init_38 : decode cX3_init 38 = .ok (.bipush 12, 2) := by decide +kernel
theorem dX3_init_40 : decode cX3_init 40 = .ok (.newarray .int, 2) := by decide +kernel
theorem dX3_init_42 : decode cX3_init 42 = .ok (.putfield 32, 3) := by decide +kernel
theorem dX3_init_45 : decode cX3_init 45 = .ok (.aload_n 0, 1) := by decide +kernel
theorem dX3_init_46 : decode cX3_init 46 = .ok (.new 35, 3) := by decide +kernel
theorem dX3_init_49 : decode cX3_init 49 = .ok (.dup, 1) := by decide +kernel
theorem dX3_init_50 : decode cX3_init 50 = .ok (.invokespecial 37, 3) := by decide +kernel
theorem dX3_init_53 : decode cX3_init 53 = .ok (.putfield 38, 3) := by decide +kernel
theorem dX3_init_56 : decode cX3_init 56 = .ok (.aload_n 0, 1) := by decide +kernel
theorem dX3_init_57 : decode cX3_init 57 = .ok (.new 42, 3) := by decide +kernel
theorem dX3_init_60 : decode cX3_init 60 = .ok (.dup, 1) := by decide +kernel
theorem dX3_init_61 : decode cX3_init 61 = .ok (.invokespecial 44, 3) := by decide +kernel
theorem dX3_init_64 : decode cX3_init 64 = .ok (.putfield 45, 3) := by decide +kernel
theorem dX3_init_67 : decode cX3_init 67 = .ok (.return_, 1) := by decide +kernel
theorem dX3_forgetAll_0 : decode cX3_forgetAll 0 = .ok (.aload_n 0, 1) := by decide +kernel
theorem dX3_forgetAll_1 : decode cX3_forgetAll 1 = .ok (.iconst 0, 1) := by decide +kernel
theorem dX3_forgetAll_2 : decode cX3_forgetAll 2 = .ok (.putfield 25, 3) := by decide +kernel
theorem dX3_forgetAll_5 : decode cX3_forgetAll 5 = .ok (.aload_n 0, 1) := by decide +kernel
theorem dX3_forgetAll_6 : decode cX3_forgetAll 6 = .ok (.iconst 0, 1) := by decide +kernel
theorem dX3_forgetAll_7 : decode cX3_forgetAll 7 = .ok (.putfield 29, 3) := by decide +kernel
theorem dX3_forgetAll_10 : decode cX3_forgetAll 10 = .ok (.return_, 1) := by decide +kernel
theorem dX3_settleWithout_0 : decode cX3_settleWithout 0 = .ok (.aload_n 1, 1) := by decide +kernel
theorem dX3_settleWithout_1 : decode cX3_settleWithout 1 = .ok (.getfield 49, 3) := by decide +kernel
theorem dX3_settleWithout_4 : decode cX3_settleWithout 4 = .ok (.iconst 0, 1) := by decide +kernel
theorem dX3_settleWithout_5 : decode cX3_settleWithout 5 = .ok (.aload_n 0, 1) := by decide +kernel
theorem dX3_settleWithout_6 : decode cX3_settleWithout 6 = .ok (.getfield 32, 3) := by decide +kernel
theorem dX3_settleWithout_9 : decode cX3_settleWithout 9 = .ok (.iconst 0, 1) := by decide +kernel
theorem dX3_settleWithout_10 : decode cX3_settleWithout 10 = .ok (.bipush 12, 2) := by decide +kernel
theorem dX3_settleWithout_12 : decode cX3_settleWithout 12 = .ok (.invokestatic 52, 3) := by decide +kernel
theorem dX3_settleWithout_15 : decode cX3_settleWithout 15 = .ok (.aload_n 0, 1) := by decide +kernel
theorem dX3_settleWithout_16 : decode cX3_settleWithout 16 = .ok (.getfield 32, 3) := by decide +kernel
theorem dX3_settleWithout_19 : decode cX3_settleWithout 19 = .ok (.iload_n 2, 1) := by decide +kernel
theorem dX3_settleWithout_20 : decode cX3_settleWithout 20 = .ok (.iconst 0, 1) := by decide +kernel
theorem dX3_settleWithout_21 : decode cX3_settleWithout 21 = .ok (.iastore, 1) := by decide +kernel
theorem dX3_settleWithout_22 : decode cX3_settleWithout 22 = .ok (.aload_n 0, 1) := by decide +kernel
theorem dX3_settleWithout_23 : decode cX3_settleWithout 23 = .ok (.getfield 32, 3) := by decide +kernel
theorem dX3_settleWithout_26 : decode cX3_settleWithout 26 = .ok (.iload_n 3, 1) := by decide +kernel
theorem dX3_settleWithout_27 : decode cX3_settleWithout 27 = .ok (.iconst 0, 1) := by decide +kernel
theorem dX3_settleWithout_28 : decode cX3_settleWithout 28 = .ok (.iastore, 1) := by decide +kernel
theorem dX3_settleWithout_29 : decode cX3_settleWithout 29 = .ok (.aload_n 0, 1) := by decide +kernel
theorem dX3_settleWithout_30 : decode cX3_settleWithout 30 = .ok (.getfield 45, 3) := by decide +kernel
theorem dX3_settleWithout_33 : decode cX3_settleWithout 33 = .ok (.aload_n 1, 1) := by decide +kernel
theorem dX3_settleWithout_34 : decode cX3_settleWithout 34 = .ok (.aload_n 0, 1) := by decide +kernel
theorem dX3_settleWithout_35 : decode cX3_settleWithout 35 = .ok (.getfield 32, 3) := by decide +kernel
theorem dX3_settleWithout_38 : decode cX3_settleWithout 38 = .ok (.aload_n 1, 1) := by decide +kernel
theorem dX3_settleWithout_39 : decode cX3_settleWithout 39 = .ok (.getfield 58, 3) := by decide +kernel
theorem dX3_settleWithout_42 : decode cX3_settleWithout 42 = .ok (.aload_n 1, 1) := by decide +kernel
theorem dX3_settleWithout_43 : decode cX3_settleWithout 43 = .ok (.getfield 61, 3) := by decide +kernel
theorem dX3_settleWithout_46 : decode cX3_settleWithout 46 = .ok (.invokevirtual 64, 3) := by decide +kernel
theorem dX3_settleWithout_49 : decode cX3_settleWithout 49 = .ok (.return_, 1) := by decide +kernel
theorem dX3_lookSingles_0 : decode cX3_lookSingles 0 = .ok (.aload_n 0, 1) := by decide +kernel
theorem dX3_lookSingles_1 : decode cX3_lookSingles 1 = .ok (.getfield 25, 3) := by decide +kernel
theorem dX3_lookSingles_4 : decode cX3_lookSingles 4 = .ok (.ifCond .eq 4, 3) := by decide +kernel
theorem dX3_lookSingles_7 : decode cX3_lookSingles 7 = .ok (.return_, 1) := by decide +kernel
theorem dX3_lookSingles_8 : decode cX3_lookSingles 8 = .ok (.aload_n 0, 1) := by decide +kernel
theorem dX3_lookSingles_9 : decode cX3_lookSingles 9 = .ok (.iconst 1, 1) := by decide +kernel
theorem dX3_lookSingles_10 : decode cX3_lookSingles 10 = .ok (.putfield 25, 3) := by decide +kernel
theorem dX3_lookSingles_13 : decode cX3_lookSingles 13 = .ok (.aload_n 0, 1) := by decide +kernel
theorem dX3_lookSingles_14 : decode cX3_lookSingles 14 = .ok (.iconst (-1), 1) := by decide +kernel
theorem dX3_lookSingles_15 : decode cX3_lookSingles 15 = .ok (.putfield 9, 3) := by decide +kernel
theorem dX3_lookSingles_18 : decode cX3_lookSingles 18 = .ok (.aload_n 0, 1) := by decide +kernel
theorem dX3_lookSingles_19 : decode cX3_lookSingles 19 = .ok (.iconst 0, 1) := by decide +kernel
theorem dX3_lookSingles_20 : decode cX3_lookSingles 20 = .ok (.putfield 15, 3) := by decide +kernel
theorem dX3_lookSingles_23 : decode cX3_lookSingles 23 = .ok (.iconst 0, 1) := by decide +kernel
theorem dX3_lookSingles_24 : decode cX3_lookSingles 24 = .ok (.istore_n 2, 1) := by decide +kernel
theorem dX3_lookSingles_25 : decode cX3_lookSingles 25 = .ok (.iload_n 2, 1) := by decide +kernel
theorem dX3_lookSingles_26 : decode cX3_lookSingles 26 = .ok (.aload_n 1, 1) := by decide +kernel
theorem dX3_lookSingles_27 : decode cX3_lookSingles 27 = .ok (.getfield 68, 3) := by decide +kernel
theorem dX3_lookSingles_30 : decode cX3_lookSingles 30 = .ok (.if_icmp .ge 98, 3) := by decide +kernel
theorem dX3_lookSingles_33 : decode cX3_lookSingles 33 = .ok (.aload_n 1, 1) := by decide +kernel
theorem dX3_lookSingles_34 : decode cX3_lookSingles 34 = .ok (.getfield 49, 3) := by decide +kernel
theorem dX3_lookSingles_37 : decode cX3_lookSingles 37 = .ok (.iload_n 2, 1) := by decide +kernel
theorem dX3_lookSingles_38 : decode cX3_lookSingles 38 = .ok (.iaload, 1) := by decide +kernel
theorem dX3_lookSingles_39 : decode cX3_lookSingles 39 = .ok (.ifCond .le 83, 3) := by decide +kernel
theorem dX3_lookSingles_42 : decode cX3_lookSingles 42 = .ok (.aload_n 0, 1) := by decide +kernel
theorem dX3_lookSingles_43 : decode cX3_lookSingles 43 = .ok (.aload_n 1, 1) := by decide +kernel
theorem dX3_lookSingles_44 : decode cX3_lookSingles 44 = .ok (.iload_n 2, 1) := by decide +kernel
theorem dX3_lookSingles_45 : decode cX3_lookSingles 45 = .ok (.iload_n 2, 1) := by decide +kernel
theorem dX3_lookSingles_46 : decode cX3_lookSingles 46 = .ok (.invokevirtual 71, 3) := by decide +kernel
theorem dX3_lookSingles_49 : decode cX3_lookSingles 49 = .ok (.aload_n 0, 1) := by decide +kernel
theorem dX3_lookSingles_50 : decode cX3_lookSingles 50 = .ok (.getfield 9, 3) := by decide +kernel
theorem dX3_lookSingles_53 : decode cX3_lookSingles 53 = .ok (.iconst (-1), 1) := by decide +kernel
theorem dX3_lookSingles_54 : decode cX3_lookSingles 54 = .ok (.if_icmp .eq 20, 3) := by decide +kernel
theorem dX3_lookSingles_57 : decode cX3_lookSingles 57 = .ok (.aload_n 0, 1) := by decide +kernel
theorem dX3_lookSingles_58 : decode cX3_lookSingles 58 = .ok (.getfield 38, 3) := by decide +kernel
theorem dX3_lookSingles_61 : decode cX3_lookSingles 61 = .ok (.aload_n 0, 1) := by decide +kernel
theorem dX3_lookSingles_62 : decode cX3_lookSingles 62 = .ok (.getfield 45, 3) := by decide +kernel
theorem dX3_lookSingles_65 : decode cX3_lookSingles 65 = .ok (.getfield 75, 3) := by decide +kernel
theorem dX3_lookSingles_68 : decode cX3_lookSingles 68 = .ok (.invokevirtual 78, 3) := by decide +kernel
theorem dX3_lookSingles_71 : decode cX3_lookSingles 71 = .ok (.ifCond .eq 22, 3) := by decide +kernel
theorem dX3_lookSingles_74 : decode cX3_lookSingles 74 = .ok (.aload_n 0, 1) := by decide +kernel
theorem dX3_lookSingles_75 : decode cX3_lookSingles 75 = .ok (.iload_n 2, 1) := by decide +kernel
theorem dX3_lookSingles_76 : decode cX3_lookSingles 76 = .ok (.putfield 9, 3) := by decide +kernel
theorem dX3_lookSingles_79 : decode cX3_lookSingles 79 = .ok (.aload_n 0, 1) := by decide +kernel
theorem dX3_lookSingles_80 : decode cX3_lookSingles 80 = .ok (.getfield 38, 3) := by decide +kernel
theorem dX3_lookSingles_83 : decode cX3_lookSingles 83 = .ok (.aload_n 0, 1) := by decide +kernel
theorem dX3_lookSingles_84 : decode cX3_lookSingles 84 = .ok (.getfield 45, 3) := by decide +kernel
theorem dX3_lookSingles_87 : decode cX3_lookSingles 87 = .ok (.getfield 75, 3) := by decide +kernel
theorem dX3_lookSingles_90 : decode cX3_lookSingles 90 = .ok (.invokevirtual 82, 3) := by decide +kernel
theorem dX3_lookSingles_93 : decode cX3_lookSingles 93 = .ok (.aload_n 0, 1) := by decide +kernel
theorem dX3_lookSingles_94 : decode cX3_lookSingles 94 = .ok (.getfield 45, 3) := by decide +kernel
theorem dX3_lookSingles_97 : decode cX3_lookSingles 97 = .ok (.getfield 75, 3) := by decide +kernel
theorem dX3_lookSingles_100 : decode cX3_lookSingles 100 = .ok (.aload_n 1, 1) := by decide +kernel
theorem dX3_lookSingles_101 : decode cX3_lookSingles 101 = .ok (.getfield 86, 3) := by decide +kernel
theorem dX3_lookSingles_104 : decode cX3_lookSingles 104 = .ok (.invokevirtual 89, 3) := by decide +kernel
theorem dX3_lookSingles_107 : decode cX3_lookSingles 107 = .ok (.ifCond .eq 15, 3) := by decide +kernel
theorem dX3_lookSingles_110 : decode cX3_lookSingles 110 = .ok (.aload_n 0, 1) := by decide +kernel
theorem dX3_lookSingles_111 : decode cX3_lookSingles 111 = .ok (.dup, 1) := by decide +kernel
theorem dX3_lookSingles_112 : decode cX3_lookSingles 112 = .ok (.getfield 15, 3) := by decide +kernel
theorem dX3_lookSingles_115 : decode cX3_lookSingles 115 = .ok (.iconst 1, 1) := by decide +kernel
theorem dX3_lookSingles_116 : decode cX3_lookSingles 116 = .ok (.iload_n 2, 1) := by decide +kernel
theorem dX3_lookSingles_117 : decode cX3_lookSingles 117 = .ok (.ishl, 1) := by decide +kernel
theorem dX3_lookSingles_118 : decode cX3_lookSingles 118 = .ok (.ior, 1) := by decide +kernel
theorem dX3_lookSingles_119 : decode cX3_lookSingles 119 = .ok (.putfield 15, 3) := by decide +kernel
theorem dX3_lookSingles_122 : decode cX3_lookSingles 122 = .ok (.iinc 2 1, 3) := by decide +kernel
theorem dX3_lookSingles_125 : decode cX3_lookSingles 125 = .ok (.goto (-100), 3) := by decide +kernel
theorem dX3_lookSingles_128 : decode cX3_lookSingles 128 = .ok (.return_, 1) := by decide +kernel
theorem dX3_lookPairs_0 : decode cX3_lookPairs 0 = .ok (.aload_n 0, 1) := by decide +kernel
theorem dX3_lookPairs_1 : decode cX3_lookPairs 1 = .ok (.getfield 29, 3) := by decide +kernel
theorem dX3_lookPairs_4 : decode cX3_lookPairs 4 = .ok (.ifCond .eq 4, 3) := by decide +kernel
theorem dX3_lookPairs_7 : decode cX3_lookPairs 7 = .ok (.return_, 1) := by decide +kernel
theorem dX3_lookPairs_8 : decode cX3_lookPairs 8 = .ok (.aload_n 0, 1) := by decide +kernel
theorem dX3_lookPairs_9 : decode cX3_lookPairs 9 = .ok (.iconst 1, 1) := by decide +kernel
theorem dX3_lookPairs_10 : decode cX3_lookPairs 10 = .ok (.putfield 29, 3) := by decide +kernel
theorem dX3_lookPairs_13 : decode cX3_lookPairs 13 = .ok (.aload_n 0, 1) := by decide +kernel
theorem dX3_lookPairs_14 : decode cX3_lookPairs 14 = .ok (.aload_n 1, 1) := by decide +kernel
theorem dX3_lookPairs_15 : decode cX3_lookPairs 15 = .ok (.invokevirtual 93, 3) := by decide +kernel
theorem dX3_lookPairs_18 : decode cX3_lookPairs 18 = .ok (.aload_n 0, 1) := by decide +kernel
theorem dX3_lookPairs_19 : decode cX3_lookPairs 19 = .ok (.iconst 0, 1) := by decide +kernel
theorem dX3_lookPairs_20 : decode cX3_lookPairs 20 = .ok (.putfield 18, 3) := by decide +kernel
theorem dX3_lookPairs_23 : decode cX3_lookPairs 23 = .ok (.iconst 0, 1) := by decide +kernel
theorem dX3_lookPairs_24 : decode cX3_lookPairs 24 = .ok (.istore_n 2, 1) := by decide +kernel
theorem dX3_lookPairs_25 : decode cX3_lookPairs 25 = .ok (.iload_n 2, 1) := by decide +kernel
theorem dX3_lookPairs_26 : decode cX3_lookPairs 26 = .ok (.aload_n 1, 1) := by decide +kernel
theorem dX3_lookPairs_27 : decode cX3_lookPairs 27 = .ok (.getfield 68, 3) := by decide +kernel
theorem dX3_lookPairs_30 : decode cX3_lookPairs 30 = .ok (.if_icmp .ge 58, 3) := by decide +kernel
theorem dX3_lookPairs_33 : decode cX3_lookPairs 33 = .ok (.iload_n 2, 1) := by decide +kernel
theorem dX3_lookPairs_34 : decode cX3_lookPairs 34 = .ok (.iconst 1, 1) := by decide +kernel
theorem dX3_lookPairs_35 : decode cX3_lookPairs 35 = .ok (.iadd, 1) := by decide +kernel
theorem dX3_lookPairs_36 : decode cX3_lookPairs 36 = .ok (.istore_n 3, 1) := by decide +kernel
theorem dX3_lookPairs_37 : decode cX3_lookPairs 37 = .ok (.iload_n 3, 1) := by decide +kernel
theorem dX3_lookPairs_38 : decode cX3_lookPairs 38 = .ok (.aload_n 1, 1) := by decide +kernel
theorem dX3_lookPairs_39 : decode cX3_lookPairs 39 = .ok (.getfield 68, 3) := by decide +kernel
theorem dX3_lookPairs_42 : decode cX3_lookPairs 42 = .ok (.if_icmp .ge 40, 3) := by decide +kernel
theorem dX3_lookPairs_45 : decode cX3_lookPairs 45 = .ok (.aload_n 0, 1) := by decide +kernel
theorem dX3_lookPairs_46 : decode cX3_lookPairs 46 = .ok (.getfield 15, 3) := by decide +kernel
theorem dX3_lookPairs_49 : decode cX3_lookPairs 49 = .ok (.iload_n 2, 1) := by decide +kernel
theorem dX3_lookPairs_50 : decode cX3_lookPairs 50 = .ok (.ishr, 1) := by decide +kernel
theorem dX3_lookPairs_51 : decode cX3_lookPairs 51 = .ok (.iconst 1, 1) := by decide +kernel
theorem dX3_lookPairs_52 : decode cX3_lookPairs 52 = .ok (.iand, 1) := by decide +kernel
theorem dX3_lookPairs_53 : decode cX3_lookPairs 53 = .ok (.iconst 1, 1) := by decide +kernel
theorem dX3_lookPairs_54 : decode cX3_lookPairs 54 = .ok (.if_icmp .ne 22, 3) := by decide +kernel
theorem dX3_lookPairs_57 : decode cX3_lookPairs 57 = .ok (.aload_n 0, 1) := by decide +kernel
theorem dX3_lookPairs_58 : decode cX3_lookPairs 58 = .ok (.getfield 15, 3) := by decide +kernel
theorem dX3_lookPairs_61 : decode cX3_lookPairs 61 = .ok (.iload_n 3, 1) := by decide +kernel
theorem dX3_lookPairs_62 : decode cX3_lookPairs 62 = .ok (.ishr, 1) := by decide +kernel
theorem dX3_lookPairs_63 : decode cX3_lookPairs 63 = .ok (.iconst 1, 1) := by decide +kernel
theorem dX3_lookPairs_64 : decode cX3_lookPairs 64 = .ok (.iand, 1) := by decide +kernel
theorem dX3_lookPairs_65 : decode cX3_lookPairs 65 = .ok (.iconst 1, 1) := by decide +kernel
theorem dX3_lookPairs_66 : decode cX3_lookPairs 66 = .ok (.if_icmp .ne 10, 3) := by decide +kernel
theorem dX3_lookPairs_69 : decode cX3_lookPairs 69 = .ok (.aload_n 0, 1) := by decide +kernel
theorem dX3_lookPairs_70 : decode cX3_lookPairs 70 = .ok (.aload_n 1, 1) := by decide +kernel
theorem dX3_lookPairs_71 : decode cX3_lookPairs 71 = .ok (.iload_n 2, 1) := by decide +kernel
theorem dX3_lookPairs_72 : decode cX3_lookPairs 72 = .ok (.iload_n 3, 1) := by decide +kernel
theorem dX3_lookPairs_73 : decode cX3_lookPairs 73 = .ok (.invokevirtual 97, 3) := by decide +kernel
theorem dX3_lookPairs_76 : decode cX3_lookPairs 76 = .ok (.iinc 3 1, 3) := by decide +kernel
theorem dX3_lookPairs_79 : decode cX3_lookPairs 79 = .ok (.goto (-42), 3) := by decide +kernel
theorem dX3_lookPairs_82 : decode cX3_lookPairs 82 = .ok (.iinc 2 1, 3) := by decide +kernel
theorem dX3_lookPairs_85 : decode cX3_lookPairs 85 = .ok (.goto (-60), 3) := by decide +kernel
theorem dX3_lookPairs_88 : decode cX3_lookPairs 88 = .ok (.return_, 1) := by decide +kernel
theorem dX3_tryPair_0 : decode cX3_tryPair 0 = .ok (.aload_n 0, 1) := by decide +kernel
theorem dX3_tryPair_1 : decode cX3_tryPair 1 = .ok (.aload_n 1, 1) := by decide +kernel
theorem dX3_tryPair_2 : decode cX3_tryPair 2 = .ok (.iload_n 2, 1) := by decide +kernel
theorem dX3_tryPair_3 : decode cX3_tryPair 3 = .ok (.iload_n 3, 1) := by decide +kernel
theorem dX3_tryPair_4 : decode cX3_tryPair 4 = .ok (.invokevirtual 71, 3) := by decide +kernel
theorem dX3_tryPair_7 : decode cX3_tryPair 7 = .ok (.aload_n 0, 1) := by decide +kernel
theorem dX3_tryPair_8 : decode cX3_tryPair 8 = .ok (.getfield 45, 3) := by decide +kernel
theorem dX3_tryPair_11 : decode cX3_tryPair 11 = .ok (.getfield 75, 3) := by decide +kernel
theorem dX3_tryPair_14 : decode cX3_tryPair 14 = .ok (.aload_n 1, 1) := by decide +kernel
theorem dX3_tryPair_15 : decode cX3_tryPair 15 = .ok (.getfield 86, 3) := by decide +kernel
theorem dX3_tryPair_18 : decode cX3_tryPair 18 = .ok (.invokevirtual 89, 3) := by decide +kernel
theorem dX3_tryPair_21 : decode cX3_tryPair 21 = .ok (.ifCond .ne 37, 3) := by decide +kernel
theorem dX3_tryPair_24 : decode cX3_tryPair 24 = .ok (.aload_n 0, 1) := by decide +kernel
theorem dX3_tryPair_25 : decode cX3_tryPair 25 = .ok (.getfield 18, 3) := by decide +kernel
theorem dX3_tryPair_28 : decode cX3_tryPair 28 = .ok (.bipush 66, 2) := by decide +kernel
theorem dX3_tryPair_30 : decode cX3_tryPair 30 = .ok (.if_icmp .ge 28, 3) := by decide +kernel
theorem dX3_tryPair_33 : decode cX3_tryPair 33 = .ok (.aload_n 0, 1) := by decide +kernel
theorem dX3_tryPair_34 : decode cX3_tryPair 34 = .ok (.getfield 21, 3) := by decide +kernel
theorem dX3_tryPair_37 : decode cX3_tryPair 37 = .ok (.aload_n 0, 1) := by decide +kernel
theorem dX3_tryPair_38 : decode cX3_tryPair 38 = .ok (.getfield 18, 3) := by decide +kernel
theorem dX3_tryPair_41 : decode cX3_tryPair 41 = .ok (.bipush 100, 2) := by decide +kernel
theorem dX3_tryPair_43 : decode cX3_tryPair 43 = .ok (.iload_n 2, 1) := by decide +kernel
theorem dX3_tryPair_44 : decode cX3_tryPair 44 = .ok (.imul, 1) := by decide +kernel
theorem dX3_tryPair_45 : decode cX3_tryPair 45 = .ok (.iload_n 3, 1) := by decide +kernel
theorem dX3_tryPair_46 : decode cX3_tryPair 46 = .ok (.iadd, 1) := by decide +kernel
theorem dX3_tryPair_47 : decode cX3_tryPair 47 = .ok (.iastore, 1) := by decide +kernel
theorem dX3_tryPair_48 : decode cX3_tryPair 48 = .ok (.aload_n 0, 1) := by decide +kernel
theorem dX3_tryPair_49 : decode cX3_tryPair 49 = .ok (.dup, 1) := by decide +kernel
theorem dX3_tryPair_50 : decode cX3_tryPair 50 = .ok (.getfield 18, 3) := by decide +kernel
theorem dX3_tryPair_53 : decode cX3_tryPair 53 = .ok (.iconst 1, 1) := by decide +kernel
theorem dX3_tryPair_54 : decode cX3_tryPair 54 = .ok (.iadd, 1) := by decide +kernel
theorem dX3_tryPair_55 : decode cX3_tryPair 55 = .ok (.putfield 18, 3) := by decide +kernel
theorem dX3_tryPair_58 : decode cX3_tryPair 58 = .ok (.return_, 1) := by decide +kernel
theorem dX4_init_0 : decode cX4_init 0 = .ok (.aload_n 0, 1) := by decide +kernel
theorem dX4_init_1 : decode cX4_init 1 = .ok (.invokespecial 3, 3) := by decide +kernel
theorem dX4_init_4 : decode cX4_init 4 = .ok (.aload_n 0, 1) := by decide +kernel
theorem dX4_init_5 : decode cX4_init 5 = .ok (.iconst 0, 1) := by decide +kernel
theorem dX4_init_6 : decode cX4_init 6 = .ok (.putfield 9, 3) := by decide +kernel
theorem dX4_init_9 : decode cX4_init 9 = .ok (.aload_n 0, 1) := by decide +kernel
theorem dX4_init_10 : decode cX4_init 10 = .ok (.iconst 0, 1) := by decide +kernel
theorem dX4_init_11 : decode cX4_init 11 = .ok (.putfield 15, 3) := by decide +kernel
theorem dX4_init_14 : decode cX4_init 14 = .ok (.aload_n 0, 1) := by decide +kernel
theorem dX4_init_15 : decode cX4_init 15 = .ok (.iconst 0, 1) := by decide +kernel
theorem dX4_init_16 : decode cX4_init 16 = .ok (.putfield 18, 3) := by decide +kernel
theorem dX4_init_19 : decode cX4_init 19 = .ok (.aload_n 0, 1) := by decide +kernel
theorem dX4_init_20 : decode cX4_init 20 = .ok (.iconst 0, 1) := by decide +kernel
theorem dX4_init_21 : decode cX4_init 21 = .ok (.putfield 21, 3) := by decide +kernel
theorem dX4_init_24 : decode cX4_init 24 = .ok (.aload_n 0, 1) := by decide +kernel
theorem dX4_init_25 : decode cX4_init 25 = .ok (.iconst 0, 1) := by decide +kernel
theorem dX4_init_26 : decode cX4_init 26 = .ok (.putfield 24, 3) := by decide +kernel
theorem dX4_init_29 : decode cX4_init 29 = .ok (.aload_n 0, 1) := by decide +kernel
theorem dX4_init_30 : decode cX4_init 30 = .ok (.iconst 0, 1) := by decide +kernel
theorem dX4_init_31 : decode cX4_init 31 = .ok (.putfield 27, 3) := by decide +kernel
theorem dX4_init_34 : decode cX4_init 34 = .ok (.aload_n 0, 1) := by decide +kernel
theorem dX4_init_35 : decode cX4_init 35 = .ok (.iconst 0, 1) := by decide +kernel
theorem dX4_init_36 : decode cX4_init 36 = .ok (.putfield 30, 3) := by decide +kernel
theorem dX4_init_39 : decode cX4_init 39 = .ok (.aload_n 0, 1) := by decide +kernel
theorem dX4_init_40 : decode cX4_init 40 = .ok (.iconst 0, 1) := by decide +kernel
theorem dX4_init_41 : decode cX4_init 41 = .ok (.putfield 33, 3) := by decide +kernel
theorem dX4_init_44 : decode cX4_init 44 = .ok (.aload_n 0, 1) := by decide +kernel
theorem dX4_init_45 : decode cX4_init 45 = .ok (.iconst 0, 1) := by decide +kernel
theorem dX4_init_46 : decode cX4_init 46 = .ok (.putfield 36, 3) := by decide +kernel
theorem dX4_init_49 : decode cX4_init 49 = .ok (.aload_n 0, 1) := by decide +kernel
theorem dX4_init_50 : decode cX4_init 50 = .ok (.bipush 12, 2) := by decide +kernel
theorem dX4_init_52 : decode cX4_init 52 = .ok (.newarray .int, 2) := by decide +kernel
theorem dX4_init_54 : decode cX4_init 54 = .ok (.putfield 39, 3) := by decide +kernel
theorem dX4_init_57 : decode cX4_init 57 = .ok (.aload_n 0, 1) := by decide +kernel
theorem dX4_init_58 : decode cX4_init 58 = .ok (.bipush 12, 2) := by decide +kernel
theorem dX4_init_60 : decode cX4_init 60 = .ok (.newarray .int, 2) := by decide +kernel
theorem dX4_init_62 : decode cX4_init 62 = .ok (.putfield 43, 3) := by decide +kernel
theorem dX4_init_65 : decode cX4_init 65 = .ok (.aload_n 0, 1) := by decide +kernel
theorem dX4_init_66 : decode cX4_init 66 = .ok (.bipush 12, 2) := by decide +kernel
theorem dX4_init_68 : decode cX4_init 68 = .ok (.newarray .int, 2) := by decide +kernel
theorem dX4_init_70 : decode cX4_init 70 = .ok (.putfield 46, 3) := by decide +kernel
theorem dX4_init_73 : decode cX4_init 73 = .ok (.aload_n 0, 1) := by decide +kernel
theorem dX4_init_74 : decode cX4_init 74 = .ok (.bipush 9, 2) := by decide +kernel
theorem dX4_init_76 : decode cX4_init 76 = .ok (.newarray .int, 2) := by decide +kernel
theorem dX4_init_78 : decode cX4_init 78 = .ok (.putfield 49, 3) := by decide +kernel
theorem dX4_init_81 : decode cX4_init 81 = .ok (.aload_n 0, 1) := by decide +kernel
theorem dX4_init_82 : decode cX4_init 82 = .ok (.bipush 9, 2) := by decide +kernel
theorem dX4_init_84 : decode cX4_init 84 = .ok (.newarray .int, 2) := by decide +kernel
theorem dX4_init_86 : decode cX4_init 86 = .ok (.putfield 52, 3) := by decide +kernel
theorem dX4_init_89 : decode cX4_init 89 = .ok (.aload_n 0, 1) := by decide +kernel
theorem dX4_init_90 : decode cX4_init 90 = .ok (.iconst 4, 1) := by decide +kernel
theorem dX4_init_91 : decode cX4_init 91 = .ok (.newarray .int, 2) := by decide +kernel
theorem dX4_init_93 : decode cX4_init 93 = .ok (.putfield 55, 3) := by decide +kernel
theorem dX4_init_96 : decode cX4_init 96 = .ok (.aload_n 0, 1) := by decide +kernel
theorem dX4_init_97 : decode cX4_init 97 = .ok (.bipush 20, 2) := by decide +kernel
theorem dX4_init_99 : decode cX4_init 99 = .ok (.newarray .int, 2) := by decide +kernel
theorem dX4_init_101 : decode cX4_init 101 = .ok (.putfield 58, 3) := by decide +kernel
theorem dX4_init_104 : decode cX4_init 104 = .ok (.aload_n 0, 1) := by decide +kernel
theorem dX4_init_105 : decode cX4_init 105 = .ok (.bipush 20, 2) := by decide +kernel
theorem dX4_init_107 : decode cX4_init 107 = .ok (.newarray .int, 2) := by decide +kernel
theorem dX4_init_109 : decode cX4_init 109 = .ok (.putfield 61, 3) := by decide +kernel
theorem dX4_init_112 : decode cX4_init 112 = .ok (.aload_n 0, 1) := by decide +kernel
theorem dX4_init_113 : decode cX4_init 113 = .ok (.bipush 20, 2) := by decide +kernel
theorem dX4_init_115 : decode cX4_init 115 = .ok (.newarray .int, 2) := by decide +kernel
theorem dX4_init_117 : decode cX4_init 117 = .ok (.putfield 64, 3) := by decide +kernel
theorem dX4_init_120 : decode cX4_init 120 = .ok (.return_, 1) := by decide +kernel
theorem dX4_clear_0 : decode cX4_clear 0 = .ok (.aload_n 0, 1) := by decide +kernel
theorem dX4_clear_1 : decode cX4_clear 1 = .ok (.iconst 0, 1) := by decide +kernel
theorem dX4_clear_2 : decode cX4_clear 2 = .ok (.putfield 9, 3) := by decide +kernel
theorem dX4_clear_5 : decode cX4_clear 5 = .ok (.aload_n 0, 1) := by decide +kernel
theorem dX4_clear_6 : decode cX4_clear 6 = .ok (.iconst 0, 1) := by decide +kernel
theorem dX4_clear_7 : decode cX4_clear 7 = .ok (.putfield 15, 3) := by decide +kernel
theorem dX4_clear_10 : decode cX4_clear 10 = .ok (.aload_n 0, 1) := by decide +kernel
theorem dX4_clear_11 : decode cX4_clear 11 = .ok (.iconst 0, 1) := by decide +kernel
theorem dX4_clear_12 : decode cX4_clear 12 = .ok (.putfield 18, 3) := by decide +kernel
theorem dX4_clear_15 : decode cX4_clear 15 = .ok (.aload_n 0, 1) := by decide +kernel
theorem dX4_clear_16 : decode cX4_clear 16 = .ok (.iconst 0, 1) := by decide +kernel
theorem dX4_clear_17 : decode cX4_clear 17 = .ok (.putfield 21, 3) := by decide +kernel
theorem dX4_clear_20 : decode cX4_clear 20 = .ok (.aload_n 0, 1) := by decide +kernel
theorem dX4_clear_21 : decode cX4_clear 21 = .ok (.iconst 0, 1) := by decide +kernel
theorem dX4_clear_22 : decode cX4_clear 22 = .ok (.putfield 24, 3) := by decide +kernel
theorem dX4_clear_25 : decode cX4_clear 25 = .ok (.aload_n 0, 1) := by decide +kernel
theorem dX4_clear_26 : decode cX4_clear 26 = .ok (.iconst 0, 1) := by decide +kernel
theorem dX4_clear_27 : decode cX4_clear 27 = .ok (.putfield 27, 3) := by decide +kernel
theorem dX4_clear_30 : decode cX4_clear 30 = .ok (.aload_n 0, 1) := by decide +kernel
theorem dX4_clear_31 : decode cX4_clear 31 = .ok (.iconst 0, 1) := by decide +kernel
theorem dX4_clear_32 : decode cX4_clear 32 = .ok (.putfield 30, 3) := by decide +kernel
theorem dX4_clear_35 : decode cX4_clear 35 = .ok (.aload_n 0, 1) := by decide +kernel
theorem dX4_clear_36 : decode cX4_clear 36 = .ok (.iconst 0, 1) := by decide +kernel
theorem dX4_clear_37 : decode cX4_clear 37 = .ok (.putfield 33, 3) := by decide +kernel
theorem dX4_clear_40 : decode cX4_clear 40 = .ok (.aload_n 0, 1) := by decide +kernel
theorem dX4_clear_41 : decode cX4_clear 41 = .ok (.iconst 0, 1) := by decide +kernel
theorem dX4_clear_42 : decode cX4_clear 42 = .ok (.putfield 36, 3) := by decide +kernel
theorem dX4_clear_45 : decode cX4_clear 45 = .ok (.aload_n 0, 1) := by decide +kernel
theorem dX4_clear_46 : decode cX4_clear 46 = .ok (.getfield 46, 3) := by decide +kernel
theorem dX4_clear_49 : decode cX4_clear 49 = .ok (.iconst 0, 1) := by decide +kernel
theorem dX4_clear_50 : decode cX4_clear 50 = .ok (.invokestatic 67, 3) := by decide +kernel
theorem dX4_clear_53 : decode cX4_clear 53 = .ok (.aload_n 0, 1) := by decide +kernel
theorem dX4_clear_54 : decode cX4_clear 54 = .ok (.getfield 49, 3) := by decide +kernel
theorem dX4_clear_57 : decode cX4_clear 57 = .ok (.iconst 0, 1) := by decide +kernel
theorem dX4_clear_58 : decode cX4_clear 58 = .ok (.invokestatic 67, 3) := by decide +kernel
theorem dX4_clear_61 : decode cX4_clear 61 = .ok (.aload_n 0, 1) := by decide +kernel
theorem dX4_clear_62 : decode cX4_clear 62 = .ok (.getfield 52, 3) := by decide +kernel
theorem dX4_clear_65 : decode cX4_clear 65 = .ok (.iconst 0, 1) := by decide +kernel
theorem dX4_clear_66 : decode cX4_clear 66 = .ok (.invokestatic 67, 3) := by decide +kernel
theorem dX4_clear_69 : decode cX4_clear 69 = .ok (.aload_n 0, 1) := by decide +kernel
theorem dX4_clear_70 : decode cX4_clear 70 = .ok (.getfield 55, 3) := by decide +kernel
theorem dX4_clear_73 : decode cX4_clear 73 = .ok (.sipush 999, 3) := by decide +kernel
theorem dX4_clear_76 : decode cX4_clear 76 = .ok (.invokestatic 67, 3) := by decide +kernel
theorem dX4_clear_79 : decode cX4_clear 79 = .ok (.return_, 1) := by decide +kernel
theorem dX4_copyFrom_0 : decode cX4_copyFrom 0 = .ok (.aload_n 0, 1) := by decide +kernel
theorem dX4_copyFrom_1 : decode cX4_copyFrom 1 = .ok (.aload_n 1, 1) := by decide +kernel
theorem dX4_copyFrom_2 : decode cX4_copyFrom 2 = .ok (.getfield 9, 3) := by decide +kernel
theorem dX4_copyFrom_5 : decode cX4_copyFrom 5 = .ok (.putfield 9, 3) := by decide +kernel
theorem dX4_copyFrom_8 : decode cX4_copyFrom 8 = .ok (.aload_n 0, 1) := by decide +kernel
theorem dX4_copyFrom_9 : decode cX4_copyFrom 9 = .ok (.aload_n 1, 1) := by decide +kernel
theorem dX4_copyFrom_10 : decode cX4_copyFrom 10 = .ok (.getfield 15, 3) := by decide +kernel
theorem dX4_copyFrom_13 : decode cX4_copyFrom 13 = .ok (.putfield 15, 3) := by decide +kernel
theorem dX4_copyFrom_16 : decode cX4_copyFrom 16 = .ok (.aload_n 0, 1) := by decide +kernel
theorem dX4_copyFrom_17 : decode cX4_copyFrom 17 = .ok (.aload_n 1, 1) := by decide +kernel
theorem dX4_copyFrom_18 : decode cX4_copyFrom 18 = .ok (.getfield 18, 3) := by decide +kernel
theorem dX4_copyFrom_21 : decode cX4_copyFrom 21 = .ok (.putfield 18, 3) := by decide +kernel
theorem dX4_copyFrom_24 : decode cX4_copyFrom 24 = .ok (.aload_n 0, 1) := by decide +kernel
theorem dX4_copyFrom_25 : decode cX4_copyFrom 25 = .ok (.aload_n 1, 1) := by decide +kernel
theorem dX4_copyFrom_26 : decode cX4_copyFrom 26 = .ok (.getfield 21, 3) := by decide +kernel
theorem dX4_copyFrom_29 : decode cX4_copyFrom 29 = .ok (.putfield 21, 3) := by decide +kernel
theorem dX4_copyFrom_32 : decode cX4_copyFrom 32 = .ok (.aload_n 0, 1) := by decide +kernel
theorem dX4_copyFrom_33 : decode cX4_copyFrom 33 = .ok (.aload_n 1, 1) := by decide +kernel
theorem dX4_copyFrom_34 : decode cX4_copyFrom 34 = .ok (.getfield 24, 3) := by decide +kernel
theorem dX4_copyFrom_37 : decode cX4_copyFrom 37 = .ok (.putfield 24, 3) := by decide +kernel
theorem dX4_copyFrom_40 : decode cX4_copyFrom 40 = .ok (.aload_n 0, 1) := by decide +kernel
theorem dX4_copyFrom_41 : decode cX4_copyFrom 41 = .ok (.aload_n 1, 1) := by decide +kernel
theorem dX4_copyFrom_42 : decode cX4_copyFrom 42 = .ok (.getfield 27, 3) := by decide +kernel
theorem dX4_copyFrom_45 : decode cX4_copyFrom 45 = .ok (.putfield 27, 3) := by decide +kernel
theorem dX4_copyFrom_48 : decode cX4_copyFrom 48 = .ok (.aload_n 0, 1) := by decide +kernel
theorem dX4_copyFrom_49 : decode cX4_copyFrom 49 = .ok (.aload_n 1, 1) := by decide +kernel
theorem dX4_copyFrom_50 : decode cX4_copyFrom 50 = .ok (.getfield 30, 3) := by decide +kernel
theorem dX4_copyFrom_53 : decode cX4_copyFrom 53 = .ok (.putfield 30, 3) := by decide +kernel
theorem dX4_copyFrom_56 : decode cX4_copyFrom 56 = .ok (.aload_n 0, 1) := by decide +kernel
theorem dX4_copyFrom_57 : decode cX4_copyFrom 57 = .ok (.aload_n 1, 1) := by decide +kernel
theorem dX4_copyFrom_58 : decode cX4_copyFrom 58 = .ok (.getfield 33, 3) := by decide +kernel
theorem dX4_copyFrom_61 : decode cX4_copyFrom 61 = .ok (.putfield 33, 3) := by decide +kernel
theorem dX4_copyFrom_64 : decode cX4_copyFrom 64 = .ok (.aload_n 0, 1) := by decide +kernel
theorem dX4_copyFrom_65 : decode cX4_copyFrom 65 = .ok (.aload_n 1, 1) := by decide +kernel
theorem dX4_copyFrom_66 : decode cX4_copyFrom 66 = .ok (.getfield 36, 3) := by decide +kernel
theorem dX4_copyFrom_69 : decode cX4_copyFrom 69 = .ok (.putfield 36, 3) := by decide +kernel
theorem dX4_copyFrom_72 : decode cX4_copyFrom 72 = .ok (.aload_n 1, 1) := by decide +kernel
theorem dX4_copyFrom_73 : decode cX4_copyFrom 73 = .ok (.getfield 39, 3) := by decide +kernel
theorem dX4_copyFrom_76 : decode cX4_copyFrom 76 = .ok (.iconst 0, 1) := by decide +kernel
theorem dX4_copyFrom_77 : decode cX4_copyFrom 77 = .ok (.aload_n 0, 1) := by decide +kernel
theorem dX4_copyFrom_78 : decode cX4_copyFrom 78 = .ok (.getfield 39, 3) := by decide +kernel
theorem dX4_copyFrom_81 : decode cX4_copyFrom 81 = .ok (.iconst 0, 1) := by decide +kernel
theorem dX4_copyFrom_82 : decode cX4_copyFrom 82 = .ok (.bipush 12, 2) := by decide +kernel
theorem dX4_copyFrom_84 : decode cX4_copyFrom 84 = .ok (.invokestatic 73, 3) := by decide +kernel
theorem dX4_copyFrom_87 : decode cX4_copyFrom 87 = .ok (.aload_n 1, 1) := by decide +kernel
theorem dX4_copyFrom_88 : decode cX4_copyFrom 88 = .ok (.getfield 43, 3) := by decide +kernel
theorem dX4_copyFrom_91 : decode cX4_copyFrom 91 = .ok (.iconst 0, 1) := by decide +kernel
theorem dX4_copyFrom_92 : decode cX4_copyFrom 92 = .ok (.aload_n 0, 1) := by decide +kernel
theorem dX4_copyFrom_93 : decode cX4_copyFrom 93 = .ok (.getfield 43, 3) := by decide +kernel
theorem dX4_copyFrom_96 : decode cX4_copyFrom 96 = .ok (.iconst 0, 1) := by decide +kernel
theorem dX4_copyFrom_97 : decode cX4_copyFrom 97 = .ok (.bipush 12, 2) := by decide +kernel
theorem dX4_copyFrom_99 : decode cX4_copyFrom 99 = .ok (.invokestatic 73, 3) := by decide +kernel
theorem dX4_copyFrom_102 : decode cX4_copyFrom 102 = .ok (.aload_n 1, 1) := by decide +kernel
theorem dX4_copyFrom_103 : decode cX4_copyFrom 103 = .ok (.getfield 46, 3) := by decide +kernel
theorem dX4_copyFrom_106 : decode cX4_copyFrom 106 = .ok (.iconst 0, 1) := by decide +kernel
theorem dX4_copyFrom_107 : decode cX4_copyFrom 107 = .ok (.aload_n 0, 1) := by decide +kernel
theorem dX4_copyFrom_108 : decode cX4_copyFrom 108 = .ok (.getfield 46, 3) := by decide +kernel
theorem dX4_copyFrom_111 : decode cX4_copyFrom 111 = .ok (.iconst 0, 1) := by decide +kernel
theorem dX4_copyFrom_112 : decode cX4_copyFrom 112 = .ok (.bipush 12, 2) := by decide +kernel
theorem dX4_copyFrom_114 : decode cX4_copyFrom 114 = .ok (.invokestatic 73, 3) := by decide +kernel
theorem dX4_copyFrom_117 : decode cX4_copyFrom 117 = .ok (.aload_n 1, 1) := by decide +kernel
theorem dX4_copyFrom_118 : decode cX4_copyFrom 118 = .ok (.getfield 49, 3) := by decide +kernel
theorem dX4_copyFrom_121 : decode cX4_copyFrom 121 = .ok (.iconst 0, 1) := by decide +kernel
theorem dX4_copyFrom_122 : decode cX4_copyFrom 122 = .ok (.aload_n 0, 1) := by decide +kernel
theorem dX4_copyFrom_123 : decode cX4_copyFrom 123 = .ok (.getfield 49, 3) := by decide +kernel
theorem dX4_copyFrom_126 : decode cX4_copyFrom 126 = .ok (.iconst 0, 1) := by decide +kernel
theorem dX4_copyFrom_127 : decode cX4_copyFrom 127 = .ok (.bipush 9, 2) := by decide +kernel
theorem dX4_copyFrom_129 : decode cX4_copyFrom 129 = .ok (.invokestatic 73, 3) := by decide +kernel
theorem dX4_copyFrom_132 : decode cX4_copyFrom 132 = .ok (.aload_n 1, 1) := by decide +kernel
theorem dX4_copyFrom_133 : decode cX4_copyFrom 133 = .ok (.getfield 52, 3) := by decide +kernel
theorem dX4_copyFrom_136 : decode cX4_copyFrom 136 = .ok (.iconst 0, 1) := by decide +kernel
theorem dX4_copyFrom_137 : decode cX4_copyFrom 137 = .ok (.aload_n 0, 1) := by decide +kernel
theorem dX4_copyFrom_138 : decode cX4_copyFrom 138 = .ok (.getfield 52, 3) := by decide +kernel
theorem dX4_copyFrom_141 : decode cX4_copyFrom 141 = .ok (.iconst 0, 1) := by decide +kernel
theorem dX4_copyFrom_142 : decode cX4_copyFrom 142 = .ok (.bipush 9, 2) := by decide +kernel
theorem dX4_copyFrom_144 : decode cX4_copyFrom 144 = .ok (.invokestatic 73, 3) := by decide +kernel
theorem dX4_copyFrom_147 : decode cX4_copyFrom 147 = .ok (.aload_n 1, 1) := by decide +kernel
theorem dX4_copyFrom_148 : decode cX4_copyFrom 148 = .ok (.getfield 55, 3) := by decide +kernel
theorem dX4_copyFrom_151 : decode cX4_copyFrom 151 = .ok (.iconst 0, 1) := by decide +kernel
theorem dX4_copyFrom_152 : decode cX4_copyFrom 152 = .ok (.aload_n 0, 1) := by decide +kernel
theorem dX4_copyFrom_153 : decode cX4_copyFrom 153 = .ok (.getfield 55, 3) := by decide +kernel
theorem dX4_copyFrom_156 : decode cX4_copyFrom 156 = .ok (.iconst 0, 1) := by decide +kernel
theorem dX4_copyFrom_157 : decode cX4_copyFrom 157 = .ok (.iconst 4, 1) := by decide +kernel
theorem dX4_copyFrom_158 : decode cX4_copyFrom 158 = .ok (.invokestatic 73, 3) := by decide +kernel
theorem dX4_copyFrom_161 : decode cX4_copyFrom 161 = .ok (.aload_n 1, 1) := by decide +kernel
theorem dX4_copyFrom_162 : decode cX4_copyFrom 162 = .ok (.getfield 58, 3) := by decide +kernel
theorem dX4_copyFrom_165 : decode cX4_copyFrom 165 = .ok (.iconst 0, 1) := by decide +kernel
theorem dX4_copyFrom_166 : decode cX4_copyFrom 166 = .ok (.aload_n 0, 1) := by decide +kernel
theorem dX4_copyFrom_167 : decode cX4_copyFrom 167 = .ok (.getfield 58, 3) := by decide +kernel
theorem dX4_copyFrom_170 : decode cX4_copyFrom 170 = .ok (.iconst 0, 1) := by decide +kernel
theorem dX4_copyFrom_171 : decode cX4_copyFrom 171 = .ok (.bipush 20, 2) := by decide +kernel
theorem dX4_copyFrom_173 : decode cX4_copyFrom 173 = .ok (.invokestatic 73, 3) := by decide +kernel
theorem dX4_copyFrom_176 : decode cX4_copyFrom 176 = .ok (.aload_n 1, 1) := by decide +kernel
theorem dX4_copyFrom_177 : decode cX4_copyFrom 177 = .ok (.getfield 61, 3) := by decide +kernel
theorem dX4_copyFrom_180 : decode cX4_copyFrom 180 = .ok (.iconst 0, 1) := by decide +kernel
theorem dX4_copyFrom_181 : decode cX4_copyFrom 181 = .ok (.aload_n 0, 1) := by decide +kernel
theorem dX4_copyFrom_182 : decode cX4_copyFrom 182 = .ok (.getfield 61, 3) := by decide +kernel
theorem dX4_copyFrom_185 : decode cX4_copyFrom 185 = .ok (.iconst 0, 1) := by decide +kernel
theorem dX4_copyFrom_186 : decode cX4_copyFrom 186 = .ok (.bipush 20, 2) := by decide +kernel
theorem dX4_copyFrom_188 : decode cX4_copyFrom 188 = .ok (.invokestatic 73, 3) := by decide +kernel
theorem dX4_copyFrom_191 : decode cX4_copyFrom 191 = .ok (.aload_n 1, 1) := by decide +kernel
theorem dX4_copyFrom_192 : decode cX4_copyFrom 192 = .ok (.getfield 64, 3) := by decide +kernel
theorem dX4_copyFrom_195 : decode cX4_copyFrom 195 = .ok (.iconst 0, 1) := by decide +kernel
theorem dX4_copyFrom_196 : decode cX4_copyFrom 196 = .ok (.aload_n 0, 1) := by decide +kernel
theorem dX4_copyFrom_197 : decode cX4_copyFrom 197 = .ok (.getfield 64, 3) := by decide +kernel
theorem dX4_copyFrom_200 : decode cX4_copyFrom 200 = .ok (.iconst 0, 1) := by decide +kernel
theorem dX4_copyFrom_201 : decode cX4_copyFrom 201 = .ok (.bipush 20, 2) := by decide +kernel
theorem dX4_copyFrom_203 : decode cX4_copyFrom 203 = .ok (.invokestatic 73, 3) := by decide +kernel
theorem dX4_copyFrom_206 : decode cX4_copyFrom 206 = .ok (.return_, 1) := by decide +kernel
theorem dX4_layOut_0 : decode cX4_layOut 0 = .ok (.aload_n 0, 1) := by decide +kernel
theorem dX4_layOut_1 : decode cX4_layOut 1 = .ok (.iload_n 1, 1) := by decide +kernel
theorem dX4_layOut_2 : decode cX4_layOut 2 = .ok (.putfield 9, 3) := by decide +kernel
theorem dX4_layOut_5 : decode cX4_layOut 5 = .ok (.aload_n 0, 1) := by decide +kernel
theorem dX4_layOut_6 : decode cX4_layOut 6 = .ok (.iload_n 2, 1) := by decide +kernel
theorem dX4_layOut_7 : decode cX4_layOut 7 = .ok (.putfield 15, 3) := by decide +kernel
theorem dX4_layOut_10 : decode cX4_layOut 10 = .ok (.aload_n 0, 1) := by decide +kernel
theorem dX4_layOut_11 : decode cX4_layOut 11 = .ok (.iload_n 1, 1) := by decide +kernel
theorem dX4_layOut_12 : decode cX4_layOut 12 = .ok (.iload_n 2, 1) := by decide +kernel
theorem dX4_layOut_13 : decode cX4_layOut 13 = .ok (.imul, 1) := by decide +kernel
theorem dX4_layOut_14 : decode cX4_layOut 14 = .ok (.putfield 27, 3) := by decide +kernel
theorem dX4_layOut_17 : decode cX4_layOut 17 = .ok (.aload_n 0, 1) := by decide +kernel
theorem dX4_layOut_18 : decode cX4_layOut 18 = .ok (.iconst 0, 1) := by decide +kernel
theorem dX4_layOut_19 : decode cX4_layOut 19 = .ok (.putfield 30, 3) := by decide +kernel
theorem dX4_layOut_22 : decode cX4_layOut 22 = .ok (.iconst 0, 1) := by decide +kernel
theorem dX4_layOut_23 : decode cX4_layOut 23 = .ok (.istore 4, 2) := by decide +kernel
theorem dX4_layOut_25 : decode cX4_layOut 25 = .ok (.iload 4, 2) := by decide +kernel
theorem dX4_layOut_27 : decode cX4_layOut 27 = .ok (.iload_n 2, 1) := by decide +kernel
theorem dX4_layOut_28 : decode cX4_layOut 28 = .ok (.if_icmp .ge 82, 3) := by decide +kernel
theorem dX4_layOut_31 : decode cX4_layOut 31 = .ok (.iconst 0, 1) := by decide +kernel
theorem dX4_layOut_32 : decode cX4_layOut 32 = .ok (.istore 5, 2) := by decide +kernel
theorem dX4_layOut_34 : decode cX4_layOut 34 = .ok (.iload 5, 2) := by decide +kernel
theorem dX4_layOut_36 : decode cX4_layOut 36 = .ok (.iload_n 1, 1) := by decide +kernel
theorem dX4_layOut_37 : decode cX4_layOut 37 = .ok (.if_icmp .ge 67, 3) := by decide +kernel
theorem dX4_layOut_40 : decode cX4_layOut 40 = .ok (.iload 5, 2) := by decide +kernel
theorem dX4_layOut_42 : decode cX4_layOut 42 = .ok (.iconst 1, 1) := by decide +kernel
theorem dX4_layOut_43 : decode cX4_layOut 43 = .ok (.iadd, 1) := by decide +kernel
theorem dX4_layOut_44 : decode cX4_layOut 44 = .ok (.iload_n 1, 1) := by decide +kernel
theorem dX4_layOut_45 : decode cX4_layOut 45 = .ok (.if_icmp .ge 24, 3) := by decide +kernel
theorem dX4_layOut_48 : decode cX4_layOut 48 = .ok (.aload_n 0, 1) := by decide +kernel
theorem dX4_layOut_49 : decode cX4_layOut 49 = .ok (.iload 4, 2) := by decide +kernel
theorem dX4_layOut_51 : decode cX4_layOut 51 = .ok (.iload_n 1, 1) := by decide +kernel
theorem dX4_layOut_52 : decode cX4_layOut 52 = .ok (.imul, 1) := by decide +kernel
theorem dX4_layOut_53 : decode cX4_layOut 53 = .ok (.iload 5, 2) := by decide +kernel
theorem dX4_layOut_55 : decode cX4_layOut 55 = .ok (.iadd, 1) := by decide +kernel
theorem dX4_layOut_56 : decode cX4_layOut 56 = .ok (.iload 4, 2) := by decide +kernel
theorem dX4_layOut_58 : decode cX4_layOut 58 = .ok (.iload_n 1, 1) := by decide +kernel
theorem dX4_layOut_59 : decode cX4_layOut 59 = .ok (.imul, 1) := by decide +kernel
theorem dX4_layOut_60 : decode cX4_layOut 60 = .ok (.iload 5, 2) := by decide +kernel
theorem dX4_layOut_62 : decode cX4_layOut 62 = .ok (.iadd, 1) := by decide +kernel
theorem dX4_layOut_63 : decode cX4_layOut 63 = .ok (.iconst 1, 1) := by decide +kernel
theorem dX4_layOut_64 : decode cX4_layOut 64 = .ok (.iadd, 1) := by decide +kernel
theorem dX4_layOut_65 : decode cX4_layOut 65 = .ok (.iload_n 3, 1) := by decide +kernel
theorem dX4_layOut_66 : decode cX4_layOut 66 = .ok (.invokevirtual 79, 3) := by decide +kernel
theorem dX4_layOut_69 : decode cX4_layOut 69 = .ok (.iload 4, 2) := by decide +kernel
theorem dX4_layOut_71 : decode cX4_layOut 71 = .ok (.iconst 1, 1) := by decide +kernel
theorem dX4_layOut_72 : decode cX4_layOut 72 = .ok (.iadd, 1) := by decide +kernel
theorem dX4_layOut_73 : decode cX4_layOut 73 = .ok (.iload_n 2, 1) := by decide +kernel
theorem dX4_layOut_74 : decode cX4_layOut 74 = .ok (.if_icmp .ge 24, 3) := by decide +kernel
theorem dX4_layOut_77 : decode cX4_layOut 77 = .ok (.aload_n 0, 1) := by decide +kernel
theorem dX4_layOut_78 : decode cX4_layOut 78 = .ok (.iload 4, 2) := by decide +kernel
theorem dX4_layOut_80 : decode cX4_layOut 80 = .ok (.iload_n 1, 1) := by decide +kernel
theorem dX4_layOut_81 : decode cX4_layOut 81 = .ok (.imul, 1) := by decide +kernel
theorem dX4_layOut_82 : decode cX4_layOut 82 = .ok (.iload 5, 2) := by decide +kernel
theorem dX4_layOut_84 : decode cX4_layOut 84 = .ok (.iadd, 1) := by decide +kernel
theorem dX4_layOut_85 : decode cX4_layOut 85 = .ok (.iload 4, 2) := by decide +kernel
theorem dX4_layOut_87 : decode cX4_layOut 87 = .ok (.iconst 1, 1) := by decide +kernel
theorem dX4_layOut_88 : decode cX4_layOut 88 = .ok (.iadd, 1) := by decide +kernel
theorem dX4_layOut_89 : decode cX4_layOut 89 = .ok (.iload_n 1, 1) := by decide +kernel
theorem dX4_layOut_90 : decode cX4_layOut 90 = .ok (.imul, 1) := by decide +kernel
theorem dX4_layOut_91 : decode cX4_layOut 91 = .ok (.iload 5, 2) := by decide +kernel
theorem dX4_layOut_93 : decode cX4_layOut 93 = .ok (.iadd, 1) := by decide +kernel
theorem dX4_layOut_94 : decode cX4_layOut 94 = .ok (.iload_n 3, 1) := by decide +kernel
theorem dX4_layOut_95 : decode cX4_layOut 95 = .ok (.invokevirtual 79, 3) := by decide +kernel
theorem dX4_layOut_98 : decode cX4_layOut 98 = .ok (.iinc 5 1, 3) := by decide +kernel
theorem dX4_layOut_101 : decode cX4_layOut 101 = .ok (.goto (-67), 3) := by decide +kernel
theorem dX4_layOut_104 : decode cX4_layOut 104 = .ok (.iinc 4 1, 3) := by decide +kernel
theorem dX4_layOut_107 : decode cX4_layOut 107 = .ok (.goto (-82), 3) := by decide +kernel
theorem dX4_layOut_110 : decode cX4_layOut 110 = .ok (.return_, 1) := by decide +kernel
theorem dX4_addStrap_0 : decode cX4_addStrap 0 = .ok (.aload_n 0, 1) := by decide +kernel
theorem dX4_addStrap_1 : decode cX4_addStrap 1 = .ok (.getfield 30, 3) := by decide +kernel
theorem dX4_addStrap_4 : decode cX4_addStrap 4 = .ok (.bipush 12, 2) := by decide +kernel
theorem dX4_addStrap_6 : decode cX4_addStrap 6 = .ok (.if_icmp .ge 43, 3) := by decide +kernel
theorem dX4_addStrap_9 : decode cX4_addStrap 9 = .ok (.aload_n 0, 1) := by decide +kernel
theorem dX4_addStrap_10 : decode cX4_addStrap 10 = .ok (.getfield 39, 3) := by decide +kernel
theorem dX4_addStrap_13 : decode cX4_addStrap 13 = .ok (.aload_n 0, 1) := by decide +kernel
theorem dX4_addStrap_14 : decode cX4_addStrap 14 = .ok (.getfield 30, 3) := by decide +kernel
theorem dX4_addStrap_17 : decode cX4_addStrap 17 = .ok (.iload_n 1, 1) := by decide +kernel
theorem dX4_addStrap_18 : decode cX4_addStrap 18 = .ok (.iastore, 1) := by decide +kernel
theorem dX4_addStrap_19 : decode cX4_addStrap 19 = .ok (.aload_n 0, 1) := by decide +kernel
theorem dX4_addStrap_20 : decode cX4_addStrap 20 = .ok (.getfield 43, 3) := by decide +kernel
theorem dX4_addStrap_23 : decode cX4_addStrap 23 = .ok (.aload_n 0, 1) := by decide +kernel
theorem dX4_addStrap_24 : decode cX4_addStrap 24 = .ok (.getfield 30, 3) := by decide +kernel
theorem dX4_addStrap_27 : decode cX4_addStrap 27 = .ok (.iload_n 2, 1) := by decide +kernel
theorem dX4_addStrap_28 : decode cX4_addStrap 28 = .ok (.iastore, 1) := by decide +kernel
theorem dX4_addStrap_29 : decode cX4_addStrap 29 = .ok (.aload_n 0, 1) := by decide +kernel
theorem dX4_addStrap_30 : decode cX4_addStrap 30 = .ok (.getfield 46, 3) := by decide +kernel
theorem dX4_addStrap_33 : decode cX4_addStrap 33 = .ok (.aload_n 0, 1) := by decide +kernel
theorem dX4_addStrap_34 : decode cX4_addStrap 34 = .ok (.getfield 30, 3) := by decide +kernel
theorem dX4_addStrap_37 : decode cX4_addStrap 37 = .ok (.iload_n 3, 1) := by decide +kernel
theorem dX4_addStrap_38 : decode cX4_addStrap 38 = .ok (.iastore, 1) := by decide +kernel
theorem dX4_addStrap_39 : decode cX4_addStrap 39 = .ok (.aload_n 0, 1) := by decide +kernel
theorem dX4_addStrap_40 : decode cX4_addStrap 40 = .ok (.dup, 1) := by decide +kernel
theorem dX4_addStrap_41 : decode cX4_addStrap 41 = .ok (.getfield 30, 3) := by decide +kernel
theorem dX4_addStrap_44 : decode cX4_addStrap 44 = .ok (.iconst 1, 1) := by decide +kernel
theorem dX4_addStrap_45 : decode cX4_addStrap 45 = .ok (.iadd, 1) := by decide +kernel
theorem dX4_addStrap_46 : decode cX4_addStrap 46 = .ok (.putfield 30, 3) := by decide +kernel
theorem dX4_addStrap_49 : decode cX4_addStrap 49 = .ok (.return_, 1) := by decide +kernel
theorem dX4_strapJoining_0 : decode cX4_strapJoining 0 = .ok (.iconst 0, 1) := by decide +kernel
theorem dX4_strapJoining_1 : decode cX4_strapJoining 1 = .ok (.istore_n 3, 1) := by decide +kernel
theorem dX4_strapJoining_2 : decode cX4_strapJoining 2 = .ok (.iload_n 3, 1) := by decide +kernel
theorem dX4_strapJoining_3 : decode cX4_strapJoining 3 = .ok (.aload_n 0, 1) := by decide +kernel
theorem dX4_strapJoining_4 : decode cX4_strapJoining 4 = .ok (.getfield 30, 3) := by decide +kernel
theorem dX4_strapJoining_7 : decode cX4_strapJoining 7 = .ok (.if_icmp .ge 63, 3) := by decide +kernel
theorem dX4_strapJoining_10 : decode cX4_strapJoining 10 = .ok (.aload_n 0, 1) := by decide +kernel
theorem dX4_strapJoining_11 : decode cX4_strapJoining 11 = .ok (.getfield 39, 3) := by decide +kernel
theorem dX4_strapJoining_14 : decode cX4_strapJoining 14 = .ok (.iload_n 3, 1) := by decide +kernel
theorem dX4_strapJoining_15 : decode cX4_strapJoining 15 = .ok (.iaload, 1) := by decide +kernel
theorem dX4_strapJoining_16 : decode cX4_strapJoining 16 = .ok (.iload_n 1, 1) := by decide +kernel
theorem dX4_strapJoining_17 : decode cX4_strapJoining 17 = .ok (.if_icmp .ne 17, 3) := by decide +kernel
theorem dX4_strapJoining_20 : decode cX4_strapJoining 20 = .ok (.aload_n 0, 1) := by decide +kernel
theorem dX4_strapJoining_21 : decode cX4_strapJoining 21 = .ok (.getfield 43, 3) := by decide +kernel
theorem dX4_strapJoining_24 : decode cX4_strapJoining 24 = .ok (.iload_n 3, 1) := by decide +kernel
theorem dX4_strapJoining_25 : decode cX4_strapJoining 25 = .ok (.iaload, 1) := by decide +kernel
theorem dX4_strapJoining_26 : decode cX4_strapJoining 26 = .ok (.iload_n 2, 1) := by decide +kernel
theorem dX4_strapJoining_27 : decode cX4_strapJoining 27 = .ok (.if_icmp .ne 7, 3) := by decide +kernel
theorem dX4_strapJoining_30 : decode cX4_strapJoining 30 = .ok (.iconst 1, 1) := by decide +kernel
theorem dX4_strapJoining_31 : decode cX4_strapJoining 31 = .ok (.goto 4, 3) := by decide +kernel
theorem dX4_strapJoining_34 : decode cX4_strapJoining 34 = .ok (.iconst 0, 1) := by decide +kernel
theorem dX4_strapJoining_35 : decode cX4_strapJoining 35 = .ok (.istore 4, 2) := by decide +kernel
theorem dX4_strapJoining_37 : decode cX4_strapJoining 37 = .ok (.iload 4, 2) := by decide +kernel
theorem dX4_strapJoining_39 : decode cX4_strapJoining 39 = .ok (.ifCond .ne 23, 3) := by decide +kernel
theorem dX4_strapJoining_42 : decode cX4_strapJoining 42 = .ok (.aload_n 0, 1) := by decide +kernel
theorem dX4_strapJoining_43 : decode cX4_strapJoining 43 = .ok (.getfield 39, 3) := by decide +kernel
theorem dX4_strapJoining_46 : decode cX4_strapJoining 46 = .ok (.iload_n 3, 1) := by decide +kernel
theorem dX4_strapJoining_47 : decode cX4_strapJoining 47 = .ok (.iaload, 1) := by decide +kernel
theorem dX4_strapJoining_48 : decode cX4_strapJoining 48 = .ok (.iload_n 2, 1) := by decide +kernel
theorem dX4_strapJoining_49 : decode cX4_strapJoining 49 = .ok (.if_icmp .ne 15, 3) := by decide +kernel
theorem dX4_strapJoining_52 : decode cX4_strapJoining 52 = .ok (.aload_n 0, 1) := by decide +kernel
theorem dX4_strapJoining_53 : decode cX4_strapJoining 53 = .ok (.getfield 43, 3) := by decide +kernel
theorem dX4_strapJoining_56 : decode cX4_strapJoining 56 = .ok (.iload_n 3, 1) := by decide +kernel
theorem dX4_strapJoining_57 : decode cX4_strapJoining 57 = .ok (.iaload, 1) := by decide +kernel
theorem dX4_strapJoining_58 : decode cX4_strapJoining 58 = .ok (.iload_n 1, 1) := by decide +kernel
theorem dX4_strapJoining_59 : decode cX4_strapJoining 59 = .ok (.if_icmp .ne 5, 3) := by decide +kernel
theorem dX4_strapJoining_62 : decode cX4_strapJoining 62 = .ok (.iload_n 3, 1) := by decide +kernel
theorem dX4_strapJoining_63 : decode cX4_strapJoining 63 = .ok (.ireturn, 1) := by decide +kernel
theorem dX4_strapJoining_64 : decode cX4_strapJoining 64 = .ok (.iinc 3 1, 3) := by decide +kernel
theorem dX4_strapJoining_67 : decode cX4_strapJoining 67 = .ok (.goto (-65), 3) := by decide +kernel
theorem dX4_strapJoining_70 : decode cX4_strapJoining 70 = .ok (.iconst (-1), 1) := by decide +kernel
theorem dX4_strapJoining_71 : decode cX4_strapJoining 71 = .ok (.ireturn, 1) := by decide +kernel
theorem dX4_isPad_0 : decode cX4_isPad 0 = .ok (.aload_n 0, 1) := by decide +kernel
theorem dX4_isPad_1 : decode cX4_isPad 1 = .ok (.getfield 33, 3) := by decide +kernel
theorem dX4_isPad_4 : decode cX4_isPad 4 = .ok (.iload_n 1, 1) := by decide +kernel
theorem dX4_isPad_5 : decode cX4_isPad 5 = .ok (.ishr, 1) := by decide +kernel
theorem dX4_isPad_6 : decode cX4_isPad 6 = .ok (.iconst 1, 1) := by decide +kernel
theorem dX4_isPad_7 : decode cX4_isPad 7 = .ok (.iand, 1) := by decide +kernel
theorem dX4_isPad_8 : decode cX4_isPad 8 = .ok (.iconst 1, 1) := by decide +kernel
theorem dX4_isPad_9 : decode cX4_isPad 9 = .ok (.if_icmp .ne 7, 3) := by decide +kernel
theorem dX4_isPad_12 : decode cX4_isPad 12 = .ok (.iconst 1, 1) := by decide +kernel
theorem dX4_isPad_13 : decode cX4_isPad 13 = .ok (.goto 4, 3) := by decide +kernel
theorem dX4_isPad_16 : decode cX4_isPad 16 = .ok (.iconst 0, 1) := by decide +kernel
theorem dX4_isPad_17 : decode cX4_isPad 17 = .ok (.ireturn, 1) := by decide +kernel
theorem dX4_spread_0 : decode cX4_spread 0 = .ok (.iload_n 2, 1) := by decide +kernel
theorem dX4_spread_1 : decode cX4_spread 1 = .ok (.istore_n 3, 1) := by decide +kernel
theorem dX4_spread_2 : decode cX4_spread 2 = .ok (.iconst 0, 1) := by decide +kernel
theorem dX4_spread_3 : decode cX4_spread 3 = .ok (.istore 4, 2) := by decide +kernel
theorem dX4_spread_5 : decode cX4_spread 5 = .ok (.iload 4, 2) := by decide +kernel
theorem dX4_spread_7 : decode cX4_spread 7 = .ok (.bipush 9, 2) := by decide +kernel
theorem dX4_spread_9 : decode cX4_spread 9 = .ok (.if_icmp .ge 79, 3) := by decide +kernel
theorem dX4_spread_12 : decode cX4_spread 12 = .ok (.iload_n 3, 1) := by decide +kernel
theorem dX4_spread_13 : decode cX4_spread 13 = .ok (.istore 5, 2) := by decide +kernel
theorem dX4_spread_15 : decode cX4_spread 15 = .ok (.iconst 0, 1) := by decide +kernel
theorem dX4_spread_16 : decode cX4_spread 16 = .ok (.istore 6, 2) := by decide +kernel
theorem dX4_spread_18 : decode cX4_spread 18 = .ok (.iload 6, 2) := by decide +kernel
theorem dX4_spread_20 : decode cX4_spread 20 = .ok (.aload_n 0, 1) := by decide +kernel
theorem dX4_spread_21 : decode cX4_spread 21 = .ok (.getfield 30, 3) := by decide +kernel
theorem dX4_spread_24 : decode cX4_spread 24 = .ok (.if_icmp .ge 49, 3) := by decide +kernel
theorem dX4_spread_27 : decode cX4_spread 27 = .ok (.iconst 1, 1) := by decide +kernel
theorem dX4_spread_28 : decode cX4_spread 28 = .ok (.aload_n 0, 1) := by decide +kernel
theorem dX4_spread_29 : decode cX4_spread 29 = .ok (.getfield 39, 3) := by decide +kernel
theorem dX4_spread_32 : decode cX4_spread 32 = .ok (.iload 6, 2) := by decide +kernel
theorem dX4_spread_34 : decode cX4_spread 34 = .ok (.iaload, 1) := by decide +kernel
theorem dX4_spread_35 : decode cX4_spread 35 = .ok (.ishl, 1) := by decide +kernel
theorem dX4_spread_36 : decode cX4_spread 36 = .ok (.iconst 1, 1) := by decide +kernel
theorem dX4_spread_37 : decode cX4_spread 37 = .ok (.aload_n 0, 1) := by decide +kernel
theorem dX4_spread_38 : decode cX4_spread 38 = .ok (.getfield 43, 3) := by decide +kernel
theorem dX4_spread_41 : decode cX4_spread 41 = .ok (.iload 6, 2) := by decide +kernel
theorem dX4_spread_43 : decode cX4_spread 43 = .ok (.iaload, 1) := by decide +kernel
theorem dX4_spread_44 : decode cX4_spread 44 = .ok (.ishl, 1) := by decide +kernel
theorem dX4_spread_45 : decode cX4_spread 45 = .ok (.ior, 1) := by decide +kernel
theorem dX4_spread_46 : decode cX4_spread 46 = .ok (.istore 7, 2) := by decide +kernel
theorem dX4_spread_48 : decode cX4_spread 48 = .ok (.aload_n 1, 1) := by decide +kernel
theorem dX4_spread_49 : decode cX4_spread 49 = .ok (.iload 6, 2) := by decide +kernel
theorem dX4_spread_51 : decode cX4_spread 51 = .ok (.iaload, 1) := by decide +kernel
theorem dX4_spread_52 : decode cX4_spread 52 = .ok (.ifCond .le 15, 3) := by decide +kernel
theorem dX4_spread_55 : decode cX4_spread 55 = .ok (.iload_n 3, 1) := by decide +kernel
theorem dX4_spread_56 : decode cX4_spread 56 = .ok (.iload 7, 2) := by decide +kernel
theorem dX4_spread_58 : decode cX4_spread 58 = .ok (.iand, 1) := by decide +kernel
theorem dX4_spread_59 : decode cX4_spread 59 = .ok (.ifCond .eq 8, 3) := by decide +kernel
theorem dX4_spread_62 : decode cX4_spread 62 = .ok (.iload_n 3, 1) := by decide +kernel
theorem dX4_spread_63 : decode cX4_spread 63 = .ok (.iload 7, 2) := by decide +kernel
theorem dX4_spread_65 : decode cX4_spread 65 = .ok (.ior, 1) := by decide +kernel
theorem dX4_spread_66 : decode cX4_spread 66 = .ok (.istore_n 3, 1) := by decide +kernel
theorem dX4_spread_67 : decode cX4_spread 67 = .ok (.iinc 6 1, 3) := by decide +kernel
theorem dX4_spread_70 : decode cX4_spread 70 = .ok (.goto (-52), 3) := by decide +kernel
theorem dX4_spread_73 : decode cX4_spread 73 = .ok (.iload_n 3, 1) := by decide +kernel
theorem dX4_spread_74 : decode cX4_spread 74 = .ok (.iload 5, 2) := by decide +kernel
theorem dX4_spread_76 : decode cX4_spread 76 = .ok (.if_icmp .ne 6, 3) := by decide +kernel
theorem dX4_spread_79 : decode cX4_spread 79 = .ok (.goto 9, 3) := by decide +kernel
theorem dX4_spread_82 : decode cX4_spread 82 = .ok (.iinc 4 1, 3) := by decide +kernel
theorem dX4_spread_85 : decode cX4_spread 85 = .ok (.goto (-80), 3) := by decide +kernel
theorem dX4_spread_88 : decode cX4_spread 88 = .ok (.iload_n 3, 1) := by decide +kernel
theorem dX4_spread_89 : decode cX4_spread 89 = .ok (.ireturn, 1) := by decide +kernel
theorem dX4_shiftWidths_0 : decode cX4_shiftWidths 0 = .ok (.iconst 0, 1) := by decide +kernel
theorem dX4_shiftWidths_1 : decode cX4_shiftWidths 1 = .ok (.istore 4, 2) := by decide +kernel
theorem dX4_shiftWidths_3 : decode cX4_shiftWidths 3 = .ok (.iload 4, 2) := by decide +kernel
theorem dX4_shiftWidths_5 : decode cX4_shiftWidths 5 = .ok (.aload_n 0, 1) := by decide +kernel
theorem dX4_shiftWidths_6 : decode cX4_shiftWidths 6 = .ok (.getfield 30, 3) := by decide +kernel
theorem dX4_shiftWidths_9 : decode cX4_shiftWidths 9 = .ok (.if_icmp .ge 27, 3) := by decide +kernel
theorem dX4_shiftWidths_12 : decode cX4_shiftWidths 12 = .ok (.iload_n 2, 1) := by decide +kernel
theorem dX4_shiftWidths_13 : decode cX4_shiftWidths 13 = .ok (.iload 4, 2) := by decide +kernel
theorem dX4_shiftWidths_15 : decode cX4_shiftWidths 15 = .ok (.ishr, 1) := by decide +kernel
theorem dX4_shiftWidths_16 : decode cX4_shiftWidths 16 = .ok (.iconst 1, 1) := by decide +kernel
theorem dX4_shiftWidths_17 : decode cX4_shiftWidths 17 = .ok (.iand, 1) := by decide +kernel
theorem dX4_shiftWidths_18 : decode cX4_shiftWidths 18 = .ok (.iconst 1, 1) := by decide +kernel
theorem dX4_shiftWidths_19 : decode cX4_shiftWidths 19 = .ok (.if_icmp .ne 11, 3) := by decide +kernel
theorem dX4_shiftWidths_22 : decode cX4_shiftWidths 22 = .ok (.aload_n 1, 1) := by decide +kernel
theorem dX4_shiftWidths_23 : decode cX4_shiftWidths 23 = .ok (.iload 4, 2) := by decide +kernel
theorem dX4_shiftWidths_25 : decode cX4_shiftWidths 25 = .ok (.dup2, 1) := by decide +kernel
theorem dX4_shiftWidths_26 : decode cX4_shiftWidths 26 = .ok (.iaload, 1) := by decide +kernel
theorem dX4_shiftWidths_27 : decode cX4_shiftWidths 27 = .ok (.iload_n 3, 1) := by decide +kernel
theorem dX4_shiftWidths_28 : decode cX4_shiftWidths 28 = .ok (.iadd, 1) := by decide +kernel
theorem dX4_shiftWidths_29 : decode cX4_shiftWidths 29 = .ok (.iastore, 1) := by decide +kernel
theorem dX4_shiftWidths_30 : decode cX4_shiftWidths 30 = .ok (.iinc 4 1, 3) := by decide +kernel
theorem dX4_shiftWidths_33 : decode cX4_shiftWidths 33 = .ok (.goto (-30), 3) := by decide +kernel
theorem dX4_shiftWidths_36 : decode cX4_shiftWidths 36 = .ok (.return_, 1) := by decide +kernel
theorem dX4_keepAct_0 : decode cX4_keepAct 0 = .ok (.aload_n 0, 1) := by decide +kernel
theorem dX4_keepAct_1 : decode cX4_keepAct 1 = .ok (.getfield 36, 3) := by decide +kernel
theorem dX4_keepAct_4 : decode cX4_keepAct 4 = .ok (.bipush 20, 2) := by decide +kernel
theorem dX4_keepAct_6 : decode cX4_keepAct 6 = .ok (.if_icmp .ge 43, 3) := by decide +kernel
theorem dX4_keepAct_9 : decode cX4_keepAct 9 = .ok (.aload_n 0, 1) := by decide +kernel
theorem dX4_keepAct_10 : decode cX4_keepAct 10 = .ok (.getfield 58, 3) := by decide +kernel
theorem dX4_keepAct_13 : decode cX4_keepAct 13 = .ok (.aload_n 0, 1) := by decide +kernel
theorem dX4_keepAct_14 : decode cX4_keepAct 14 = .ok (.getfield 36, 3) := by decide +kernel
theorem dX4_keepAct_17 : decode cX4_keepAct 17 = .ok (.iload_n 1, 1) := by decide +kernel
theorem dX4_keepAct_18 : decode cX4_keepAct 18 = .ok (.iastore, 1) := by decide +kernel
theorem dX4_keepAct_19 : decode cX4_keepAct 19 = .ok (.aload_n 0, 1) := by decide +kernel
theorem dX4_keepAct_20 : decode cX4_keepAct 20 = .ok (.getfield 61, 3) := by decide +kernel
theorem dX4_keepAct_23 : decode cX4_keepAct 23 = .ok (.aload_n 0, 1) := by decide +kernel
theorem dX4_keepAct_24 : decode cX4_keepAct 24 = .ok (.getfield 36, 3) := by decide +kernel
theorem dX4_keepAct_27 : decode cX4_keepAct 27 = .ok (.iload_n 2, 1) := by decide +kernel
theorem dX4_keepAct_28 : decode cX4_keepAct 28 = .ok (.iastore, 1) := by decide +kernel
theorem dX4_keepAct_29 : decode cX4_keepAct 29 = .ok (.aload_n 0, 1) := by decide +kernel
theorem dX4_keepAct_30 : decode cX4_keepAct 30 = .ok (.getfield 64, 3) := by decide +kernel
theorem dX4_keepAct_33 : decode cX4_keepAct 33 = .ok (.aload_n 0, 1) := by decide +kernel
theorem dX4_keepAct_34 : decode cX4_keepAct 34 = .ok (.getfield 36, 3) := by decide +kernel
theorem dX4_keepAct_37 : decode cX4_keepAct 37 = .ok (.iload_n 3, 1) := by decide +kernel
theorem dX4_keepAct_38 : decode cX4_keepAct 38 = .ok (.iastore, 1) := by decide +kernel
theorem dX4_keepAct_39 : decode cX4_keepAct 39 = .ok (.aload_n 0, 1) := by decide +kernel
theorem dX4_keepAct_40 : decode cX4_keepAct 40 = .ok (.dup, 1) := by decide +kernel
theorem dX4_keepAct_41 : decode cX4_keepAct 41 = .ok (.getfield 36, 3) := by decide +kernel
theorem dX4_keepAct_44 : decode cX4_keepAct 44 = .ok (.iconst 1, 1) := by decide +kernel
theorem dX4_keepAct_45 : decode cX4_keepAct 45 = .ok (.iadd, 1) := by decide +kernel
theorem dX4_keepAct_46 : decode cX4_keepAct 46 = .ok (.putfield 36, 3) := by decide +kernel
theorem dX4_keepAct_49 : decode cX4_keepAct 49 = .ok (.return_, 1) := by decide +kernel
theorem dX4_takeBack_0 : decode cX4_takeBack 0 = .ok (.aload_n 0, 1) := by decide +kernel
theorem dX4_takeBack_1 : decode cX4_takeBack 1 = .ok (.getfield 36, 3) := by decide +kernel
theorem dX4_takeBack_4 : decode cX4_takeBack 4 = .ok (.ifCond .ne 4, 3) := by decide +kernel
theorem dX4_takeBack_7 : decode cX4_takeBack 7 = .ok (.return_, 1) := by decide +kernel
theorem dX4_takeBack_8 : decode cX4_takeBack 8 = .ok (.aload_n 0, 1) := by decide +kernel
theorem dX4_takeBack_9 : decode cX4_takeBack 9 = .ok (.dup, 1) := by decide +kernel
theorem dX4_takeBack_10 : decode cX4_takeBack 10 = .ok (.getfield 36, 3) := by decide +kernel
theorem dX4_takeBack_13 : decode cX4_takeBack 13 = .ok (.iconst 1, 1) := by decide +kernel
theorem dX4_takeBack_14 : decode cX4_takeBack 14 = .ok (.isub, 1) := by decide +kernel
theorem dX4_takeBack_15 : decode cX4_takeBack 15 = .ok (.putfield 36, 3) := by decide +kernel
theorem dX4_takeBack_18 : decode cX4_takeBack 18 = .ok (.aload_n 0, 1) := by decide +kernel
theorem dX4_takeBack_19 : decode cX4_takeBack 19 = .ok (.getfield 61, 3) := by decide +kernel
theorem dX4_takeBack_22 : decode cX4_takeBack 22 = .ok (.aload_n 0, 1) := by decide +kernel
theorem dX4_takeBack_23 : decode cX4_takeBack 23 = .ok (.getfield 36, 3) := by decide +kernel
theorem dX4_takeBack_26 : decode cX4_takeBack 26 = .ok (.iaload, 1) := by decide +kernel
theorem dX4_takeBack_27 : decode cX4_takeBack 27 = .ok (.istore_n 1, 1) := by decide +kernel
theorem dX4_takeBack_28 : decode cX4_takeBack 28 = .ok (.aload_n 0, 1) := by decide +kernel
theorem dX4_takeBack_29 : decode cX4_takeBack 29 = .ok (.getfield 58, 3) := by decide +kernel
theorem dX4_takeBack_32 : decode cX4_takeBack 32 = .ok (.aload_n 0, 1) := by decide +kernel
theorem dX4_takeBack_33 : decode cX4_takeBack 33 = .ok (.getfield 36, 3) := by decide +kernel
theorem dX4_takeBack_36 : decode cX4_takeBack 36 = .ok (.iaload, 1) := by decide +kernel
theorem dX4_takeBack_37 : decode cX4_takeBack 37 = .ok (.iconst 3, 1) := by decide +kernel
theorem dX4_takeBack_38 : decode cX4_takeBack 38 = .ok (.if_icmp .ne 16, 3) := by decide +kernel
theorem dX4_takeBack_41 : decode cX4_takeBack 41 = .ok (.aload_n 0, 1) := by decide +kernel
theorem dX4_takeBack_42 : decode cX4_takeBack 42 = .ok (.aload_n 0, 1) := by decide +kernel
theorem dX4_takeBack_43 : decode cX4_takeBack 43 = .ok (.getfield 46, 3) := by decide +kernel
theorem dX4_takeBack_46 : decode cX4_takeBack 46 = .ok (.iload_n 1, 1) := by decide +kernel
theorem dX4_takeBack_47 : decode cX4_takeBack 47 = .ok (.iconst 1, 1) := by decide +kernel
theorem dX4_takeBack_48 : decode cX4_takeBack 48 = .ok (.invokevirtual 83, 3) := by decide +kernel
theorem dX4_takeBack_51 : decode cX4_takeBack 51 = .ok (.goto 105, 3) := by decide +kernel
theorem dX4_takeBack_54 : decode cX4_takeBack 54 = .ok (.aload_n 0, 1) := by decide +kernel
theorem dX4_takeBack_55 : decode cX4_takeBack 55 = .ok (.getfield 58, 3) := by decide +kernel
theorem dX4_takeBack_58 : decode cX4_takeBack 58 = .ok (.aload_n 0, 1) := by decide +kernel
theorem dX4_takeBack_59 : decode cX4_takeBack 59 = .ok (.getfield 36, 3) := by decide +kernel
theorem dX4_takeBack_62 : decode cX4_takeBack 62 = .ok (.iaload, 1) := by decide +kernel
theorem dX4_takeBack_63 : decode cX4_takeBack 63 = .ok (.ifCond .ne 29, 3) := by decide +kernel
theorem dX4_takeBack_66 : decode cX4_takeBack 66 = .ok (.iload_n 1, 1) := by decide +kernel
theorem dX4_takeBack_67 : decode cX4_takeBack 67 = .ok (.aload_n 0, 1) := by decide +kernel
theorem dX4_takeBack_68 : decode cX4_takeBack 68 = .ok (.getfield 30, 3) := by decide +kernel
theorem dX4_takeBack_71 : decode cX4_takeBack 71 = .ok (.if_icmp .ge 21, 3) := by decide +kernel
theorem dX4_takeBack_74 : decode cX4_takeBack 74 = .ok (.aload_n 0, 1) := by decide +kernel
theorem dX4_takeBack_75 : decode cX4_takeBack 75 = .ok (.getfield 46, 3) := by decide +kernel
theorem dX4_takeBack_78 : decode cX4_takeBack 78 = .ok (.iload_n 1, 1) := by decide +kernel
theorem dX4_takeBack_79 : decode cX4_takeBack 79 = .ok (.aload_n 0, 1) := by decide +kernel
theorem dX4_takeBack_80 : decode cX4_takeBack 80 = .ok (.getfield 64, 3) := by decide +kernel
theorem dX4_takeBack_83 : decode cX4_takeBack 83 = .ok (.aload_n 0, 1) := by decide +kernel
theorem dX4_takeBack_84 : decode cX4_takeBack 84 = .ok (.getfield 36, 3) := by decide +kernel
theorem dX4_takeBack_87 : decode cX4_takeBack 87 = .ok (.iaload, 1) := by decide +kernel
theorem dX4_takeBack_88 : decode cX4_takeBack 88 = .ok (.iastore, 1) := by decide +kernel
theorem dX4_takeBack_89 : decode cX4_takeBack 89 = .ok (.goto 67, 3) := by decide +kernel
theorem dX4_takeBack_92 : decode cX4_takeBack 92 = .ok (.aload_n 0, 1) := by decide +kernel
theorem dX4_takeBack_93 : decode cX4_takeBack 93 = .ok (.getfield 58, 3) := by decide +kernel
theorem dX4_takeBack_96 : decode cX4_takeBack 96 = .ok (.aload_n 0, 1) := by decide +kernel
theorem dX4_takeBack_97 : decode cX4_takeBack 97 = .ok (.getfield 36, 3) := by decide +kernel
theorem dX4_takeBack_100 : decode cX4_takeBack 100 = .ok (.iaload, 1) := by decide +kernel
theorem dX4_takeBack_101 : decode cX4_takeBack 101 = .ok (.iconst 1, 1) := by decide +kernel
theorem dX4_takeBack_102 : decode cX4_takeBack 102 = .ok (.if_icmp .ne 18, 3) := by decide +kernel
theorem dX4_takeBack_105 : decode cX4_takeBack 105 = .ok (.aload_n 0, 1) := by decide +kernel
theorem dX4_takeBack_106 : decode cX4_takeBack 106 = .ok (.dup, 1) := by decide +kernel
theorem dX4_takeBack_107 : decode cX4_takeBack 107 = .ok (.getfield 33, 3) := by decide +kernel
theorem dX4_takeBack_110 : decode cX4_takeBack 110 = .ok (.iconst 1, 1) := by decide +kernel
theorem dX4_takeBack_111 : decode cX4_takeBack 111 = .ok (.iload_n 1, 1) := by decide +kernel
theorem dX4_takeBack_112 : decode cX4_takeBack 112 = .ok (.ishl, 1) := by decide +kernel
theorem dX4_takeBack_113 : decode cX4_takeBack 113 = .ok (.ixor, 1) := by decide +kernel
theorem dX4_takeBack_114 : decode cX4_takeBack 114 = .ok (.putfield 33, 3) := by decide +kernel
theorem dX4_takeBack_117 : decode cX4_takeBack 117 = .ok (.goto 39, 3) := by decide +kernel
theorem dX4_takeBack_120 : decode cX4_takeBack 120 = .ok (.aload_n 0, 1) := by decide +kernel
theorem dX4_takeBack_121 : decode cX4_takeBack 121 = .ok (.getfield 58, 3) := by decide +kernel
theorem dX4_takeBack_124 : decode cX4_takeBack 124 = .ok (.aload_n 0, 1) := by decide +kernel
theorem dX4_takeBack_125 : decode cX4_takeBack 125 = .ok (.getfield 36, 3) := by decide +kernel
theorem dX4_takeBack_128 : decode cX4_takeBack 128 = .ok (.iaload, 1) := by decide +kernel
theorem dX4_takeBack_129 : decode cX4_takeBack 129 = .ok (.iconst 2, 1) := by decide +kernel
theorem dX4_takeBack_130 : decode cX4_takeBack 130 = .ok (.if_icmp .ne 26, 3) := by decide +kernel
theorem dX4_takeBack_133 : decode cX4_takeBack 133 = .ok (.iload_n 1, 1) := by decide +kernel
theorem dX4_takeBack_134 : decode cX4_takeBack 134 = .ok (.aload_n 0, 1) := by decide +kernel
theorem dX4_takeBack_135 : decode cX4_takeBack 135 = .ok (.getfield 27, 3) := by decide +kernel
theorem dX4_takeBack_138 : decode cX4_takeBack 138 = .ok (.if_icmp .ge 18, 3) := by decide +kernel
theorem dX4_takeBack_141 : decode cX4_takeBack 141 = .ok (.aload_n 0, 1) := by decide +kernel
theorem dX4_takeBack_142 : decode cX4_takeBack 142 = .ok (.getfield 49, 3) := by decide +kernel
theorem dX4_takeBack_145 : decode cX4_takeBack 145 = .ok (.iload_n 1, 1) := by decide +kernel
theorem dX4_takeBack_146 : decode cX4_takeBack 146 = .ok (.aload_n 0, 1) := by decide +kernel
theorem dX4_takeBack_147 : decode cX4_takeBack 147 = .ok (.getfield 64, 3) := by decide +kernel
theorem dX4_takeBack_150 : decode cX4_takeBack 150 = .ok (.aload_n 0, 1) := by decide +kernel
theorem dX4_takeBack_151 : decode cX4_takeBack 151 = .ok (.getfield 36, 3) := by decide +kernel
theorem dX4_takeBack_154 : decode cX4_takeBack 154 = .ok (.iaload, 1) := by decide +kernel
theorem dX4_takeBack_155 : decode cX4_takeBack 155 = .ok (.iastore, 1) := by decide +kernel
theorem dX4_takeBack_156 : decode cX4_takeBack 156 = .ok (.return_, 1) := by decide +kernel
theorem dX5_init_0 : decode cX5_init 0 = .ok (.aload_n 0, 1) := by decide +kernel
theorem dX5_init_1 : decode cX5_init 1 = .ok (.invokespecial 3, 3) := by decide +kernel
theorem dX5_init_4 : decode cX5_init 4 = .ok (.aload_n 0, 1) := by decide +kernel
theorem dX5_init_5 : decode cX5_init 5 = .ok (.iconst 0, 1) := by decide +kernel
theorem dX5_init_6 : decode cX5_init 6 = .ok (.putfield 9, 3) := by decide +kernel
theorem dX5_init_9 : decode cX5_init 9 = .ok (.aload_n 0, 1) := by decide +kernel
theorem dX5_init_10 : decode cX5_init 10 = .ok (.bipush 9, 2) := by decide +kernel
theorem dX5_init_12 : decode cX5_init 12 = .ok (.newarray .int, 2) := by decide +kernel
theorem dX5_init_14 : decode cX5_init 14 = .ok (.putfield 15, 3) := by decide +kernel
theorem dX5_init_17 : decode cX5_init 17 = .ok (.aload_n 0, 1) := by decide +kernel
theorem dX5_init_18 : decode cX5_init 18 = .ok (.bipush 10, 2) := by decide +kernel
theorem dX5_init_20 : decode cX5_init 20 = .ok (.anewarray 19, 3) := by decide +kernel
theorem dX5_init_23 : decode cX5_init 23 = .ok (.putfield 21, 3) := by decide +kernel
theorem dX5_init_26 : decode cX5_init 26 = .ok (.aload_n 0, 1) := by decide +kernel
theorem dX5_init_27 : decode cX5_init 27 = .ok (.iconst 0, 1) := by decide +kernel
theorem dX5_init_28 : decode cX5_init 28 = .ok (.putfield 25, 3) := by decide +kernel
theorem dX5_init_31 : decode cX5_init 31 = .ok (.aload_n 0, 1) := by decide +kernel
theorem dX5_init_32 : decode cX5_init 32 = .ok (.bipush 10, 2) := by decide +kernel
theorem dX5_init_34 : decode cX5_init 34 = .ok (.newarray .boolean, 2) := by decide +kernel
theorem dX5_init_36 : decode cX5_init 36 = .ok (.putfield 29, 3) := by decide +kernel
theorem dX5_init_39 : decode cX5_init 39 = .ok (.aload_n 0, 1) := by decide +kernel
theorem dX5_init_40 : decode cX5_init 40 = .ok (.bipush 10, 2) := by decide +kernel
theorem dX5_init_42 : decode cX5_init 42 = .ok (.newarray .int, 2) := by decide +kernel
theorem dX5_init_44 : decode cX5_init 44 = .ok (.putfield 33, 3) := by decide +kernel
theorem dX5_init_47 : decode cX5_init 47 = .ok (.aload_n 0, 1) := by decide +kernel
theorem dX5_init_48 : decode cX5_init 48 = .ok (.new 19, 3) := by decide +kernel
theorem dX5_init_51 : decode cX5_init 51 = .ok (.dup, 1) := by decide +kernel
theorem dX5_init_52 : decode cX5_init 52 = .ok (.invokespecial 36, 3) := by decide +kernel
theorem dX5_init_55 : decode cX5_init 55 = .ok (.putfield 37, 3) := by decide +kernel
theorem dX5_init_58 : decode cX5_init 58 = .ok (.aload_n 0, 1) := by decide +kernel
theorem dX5_init_59 : decode cX5_init 59 = .ok (.new 41, 3) := by decide +kernel
theorem dX5_init_62 : decode cX5_init 62 = .ok (.dup, 1) := by decide +kernel
theorem dX5_init_63 : decode cX5_init 63 = .ok (.invokespecial 43, 3) := by decide +kernel
theorem dX5_init_66 : decode cX5_init 66 = .ok (.putfield 44, 3) := by decide +kernel
theorem dX5_init_69 : decode cX5_init 69 = .ok (.iconst 0, 1) := by decide +kernel
theorem dX5_init_70 : decode cX5_init 70 = .ok (.istore_n 1, 1) := by decide +kernel
theorem dX5_init_71 : decode cX5_init 71 = .ok (.iload_n 1, 1) := by decide +kernel
theorem dX5_init_72 : decode cX5_init 72 = .ok (.bipush 9, 2) := by decide +kernel
theorem dX5_init_74 : decode cX5_init 74 = .ok (.if_icmp .gt 22, 3) := by decide +kernel
theorem dX5_init_77 : decode cX5_init 77 = .ok (.aload_n 0, 1) := by decide +kernel
theorem dX5_init_78 : decode cX5_init 78 = .ok (.getfield 21, 3) := by decide +kernel
theorem dX5_init_81 : decode cX5_init 81 = .ok (.iload_n 1, 1) := by decide +kernel
theorem dX5_init_82 : decode cX5_init 82 = .ok (.new 19, 3) := by decide +kernel
theorem dX5_init_85 : decode cX5_init 85 = .ok (.dup, 1) := by decide +kernel
theorem dX5_init_86 : decode cX5_init 86 = .ok (.invokespecial 36, 3) := by decide +kernel
theorem dX5_init_89 : decode cX5_init 89 = .ok (.aastore, 1) := by decide +kernel
theorem dX5_init_90 : decode cX5_init 90 = .ok (.iinc 1 1, 3) := by decide +kernel
theorem dX5_init_93 : decode cX5_init 93 = .ok (.goto (-22), 3) := by decide +kernel
theorem dX5_init_96 : decode cX5_init 96 = .ok (.return_, 1) := by decide +kernel
theorem dX5_forgetAll_0 : decode cX5_forgetAll 0 = .ok (.aload_n 0, 1) := by decide +kernel
theorem dX5_forgetAll_1 : decode cX5_forgetAll 1 = .ok (.iconst 0, 1) := by decide +kernel
theorem dX5_forgetAll_2 : decode cX5_forgetAll 2 = .ok (.putfield 25, 3) := by decide +kernel
theorem dX5_forgetAll_5 : decode cX5_forgetAll 5 = .ok (.iconst 0, 1) := by decide +kernel
theorem dX5_forgetAll_6 : decode cX5_forgetAll 6 = .ok (.istore_n 1, 1) := by decide +kernel
theorem dX5_forgetAll_7 : decode cX5_forgetAll 7 = .ok (.iload_n 1, 1) := by decide +kernel
theorem dX5_forgetAll_8 : decode cX5_forgetAll 8 = .ok (.bipush 9, 2) := by decide +kernel
theorem dX5_forgetAll_10 : decode cX5_forgetAll 10 = .ok (.if_icmp .gt 16, 3) := by decide +kernel
theorem dX5_forgetAll_13 : decode cX5_forgetAll 13 = .ok (.aload_n 0, 1) := by decide +kernel
theorem dX5_forgetAll_14 : decode cX5_forgetAll 14 = .ok (.getfield 29, 3) := by decide +kernel
theorem dX5_forgetAll_17 : decode cX5_forgetAll 17 = .ok (.iload_n 1, 1) := by decide +kernel
theorem dX5_forgetAll_18 : decode cX5_forgetAll 18 = .ok (.iconst 0, 1) := by decide +kernel
theorem dX5_forgetAll_19 : decode cX5_forgetAll 19 = .ok (.bastore, 1) := by decide +kernel
theorem dX5_forgetAll_20 : decode cX5_forgetAll 20 = .ok (.iinc 1 1, 3) := by decide +kernel
theorem dX5_forgetAll_23 : decode cX5_forgetAll 23 = .ok (.goto (-16), 3) := by decide +kernel
theorem dX5_forgetAll_26 : decode cX5_forgetAll 26 = .ok (.return_, 1) := by decide +kernel
theorem dX5_lookGreedy_0 : decode cX5_lookGreedy 0 = .ok (.aload_n 0, 1) := by decide +kernel
theorem dX5_lookGreedy_1 : decode cX5_lookGreedy 1 = .ok (.getfield 25, 3) := by decide +kernel
theorem dX5_lookGreedy_4 : decode cX5_lookGreedy 4 = .ok (.ifCond .eq 4, 3) := by decide +kernel
theorem dX5_lookGreedy_7 : decode cX5_lookGreedy 7 = .ok (.return_, 1) := by decide +kernel
theorem dX5_lookGreedy_8 : decode cX5_lookGreedy 8 = .ok (.aload_n 0, 1) := by decide +kernel
theorem dX5_lookGreedy_9 : decode cX5_lookGreedy 9 = .ok (.iconst 1, 1) := by decide +kernel
theorem dX5_lookGreedy_10 : decode cX5_lookGreedy 10 = .ok (.putfield 25, 3) := by decide +kernel
theorem dX5_lookGreedy_13 : decode cX5_lookGreedy 13 = .ok (.aload_n 0, 1) := by decide +kernel
theorem dX5_lookGreedy_14 : decode cX5_lookGreedy 14 = .ok (.iconst 0, 1) := by decide +kernel
theorem dX5_lookGreedy_15 : decode cX5_lookGreedy 15 = .ok (.putfield 9, 3) := by decide +kernel
theorem dX5_lookGreedy_18 : decode cX5_lookGreedy 18 = .ok (.aload_n 1, 1) := by decide +kernel
theorem dX5_lookGreedy_19 : decode cX5_lookGreedy 19 = .ok (.getfield 48, 3) := by decide +kernel
theorem dX5_lookGreedy_22 : decode cX5_lookGreedy 22 = .ok (.istore_n 2, 1) := by decide +kernel
theorem dX5_lookGreedy_23 : decode cX5_lookGreedy 23 = .ok (.iconst 0, 1) := by decide +kernel
theorem dX5_lookGreedy_24 : decode cX5_lookGreedy 24 = .ok (.istore_n 3, 1) := by decide +kernel
theorem dX5_lookGreedy_25 : decode cX5_lookGreedy 25 = .ok (.iload_n 3, 1) := by decide +kernel
theorem dX5_lookGreedy_26 : decode cX5_lookGreedy 26 = .ok (.aload_n 1, 1) := by decide +kernel
theorem dX5_lookGreedy_27 : decode cX5_lookGreedy 27 = .ok (.getfield 53, 3) := by decide +kernel
theorem dX5_lookGreedy_30 : decode cX5_lookGreedy 30 = .ok (.if_icmp .ge 52, 3) := by decide +kernel
theorem dX5_lookGreedy_33 : decode cX5_lookGreedy 33 = .ok (.aload_n 0, 1) := by decide +kernel
theorem dX5_lookGreedy_34 : decode cX5_lookGreedy 34 = .ok (.aload_n 1, 1) := by decide +kernel
theorem dX5_lookGreedy_35 : decode cX5_lookGreedy 35 = .ok (.iload_n 2, 1) := by decide +kernel
theorem dX5_lookGreedy_36 : decode cX5_lookGreedy 36 = .ok (.invokevirtual 56, 3) := by decide +kernel
theorem dX5_lookGreedy_39 : decode cX5_lookGreedy 39 = .ok (.istore 4, 2) := by decide +kernel
theorem dX5_lookGreedy_41 : decode cX5_lookGreedy 41 = .ok (.iload 4, 2) := by decide +kernel
theorem dX5_lookGreedy_43 : decode cX5_lookGreedy 43 = .ok (.iconst (-1), 1) := by decide +kernel
theorem dX5_lookGreedy_44 : decode cX5_lookGreedy 44 = .ok (.if_icmp .ne 4, 3) := by decide +kernel
theorem dX5_lookGreedy_47 : decode cX5_lookGreedy 47 = .ok (.return_, 1) := by decide +kernel
theorem dX5_lookGreedy_48 : decode cX5_lookGreedy 48 = .ok (.aload_n 0, 1) := by decide +kernel
theorem dX5_lookGreedy_49 : decode cX5_lookGreedy 49 = .ok (.getfield 15, 3) := by decide +kernel
theorem dX5_lookGreedy_52 : decode cX5_lookGreedy 52 = .ok (.aload_n 0, 1) := by decide +kernel
theorem dX5_lookGreedy_53 : decode cX5_lookGreedy 53 = .ok (.getfield 9, 3) := by decide +kernel
theorem dX5_lookGreedy_56 : decode cX5_lookGreedy 56 = .ok (.iload 4, 2) := by decide +kernel
theorem dX5_lookGreedy_58 : decode cX5_lookGreedy 58 = .ok (.iastore, 1) := by decide +kernel
theorem dX5_lookGreedy_59 : decode cX5_lookGreedy 59 = .ok (.aload_n 0, 1) := by decide +kernel
theorem dX5_lookGreedy_60 : decode cX5_lookGreedy 60 = .ok (.dup, 1) := by decide +kernel
theorem dX5_lookGreedy_61 : decode cX5_lookGreedy 61 = .ok (.getfield 9, 3) := by decide +kernel
theorem dX5_lookGreedy_64 : decode cX5_lookGreedy 64 = .ok (.iconst 1, 1) := by decide +kernel
theorem dX5_lookGreedy_65 : decode cX5_lookGreedy 65 = .ok (.iadd, 1) := by decide +kernel
theorem dX5_lookGreedy_66 : decode cX5_lookGreedy 66 = .ok (.putfield 9, 3) := by decide +kernel
theorem dX5_lookGreedy_69 : decode cX5_lookGreedy 69 = .ok (.iload_n 2, 1) := by decide +kernel
theorem dX5_lookGreedy_70 : decode cX5_lookGreedy 70 = .ok (.iconst 1, 1) := by decide +kernel
theorem dX5_lookGreedy_71 : decode cX5_lookGreedy 71 = .ok (.iload 4, 2) := by decide +kernel
theorem dX5_lookGreedy_73 : decode cX5_lookGreedy 73 = .ok (.ishl, 1) := by decide +kernel
theorem dX5_lookGreedy_74 : decode cX5_lookGreedy 74 = .ok (.ior, 1) := by decide +kernel
theorem dX5_lookGreedy_75 : decode cX5_lookGreedy 75 = .ok (.istore_n 2, 1) := by decide +kernel
theorem dX5_lookGreedy_76 : decode cX5_lookGreedy 76 = .ok (.iinc 3 1, 3) := by decide +kernel
theorem dX5_lookGreedy_79 : decode cX5_lookGreedy 79 = .ok (.goto (-54), 3) := by decide +kernel
theorem dX5_lookGreedy_82 : decode cX5_lookGreedy 82 = .ok (.return_, 1) := by decide +kernel
theorem dX5_bestNext_0 : decode cX5_bestNext 0 = .ok (.iconst (-1), 1) := by decide +kernel
theorem dX5_bestNext_1 : decode cX5_bestNext 1 = .ok (.istore_n 3, 1) := by decide +kernel
theorem dX5_bestNext_2 : decode cX5_bestNext 2 = .ok (.iconst 0, 1) := by decide +kernel
theorem dX5_bestNext_3 : decode cX5_bestNext 3 = .ok (.istore 4, 2) := by decide +kernel
theorem dX5_bestNext_5 : decode cX5_bestNext 5 = .ok (.iload 4, 2) := by decide +kernel
theorem dX5_bestNext_7 : decode cX5_bestNext 7 = .ok (.aload_n 1, 1) := by decide +kernel
theorem dX5_bestNext_8 : decode cX5_bestNext 8 = .ok (.getfield 53, 3) := by decide +kernel
theorem dX5_bestNext_11 : decode cX5_bestNext 11 = .ok (.if_icmp .ge 79, 3) := by decide +kernel
theorem dX5_bestNext_14 : decode cX5_bestNext 14 = .ok (.iload_n 2, 1) := by decide +kernel
theorem dX5_bestNext_15 : decode cX5_bestNext 15 = .ok (.iload 4, 2) := by decide +kernel
theorem dX5_bestNext_17 : decode cX5_bestNext 17 = .ok (.ishr, 1) := by decide +kernel
theorem dX5_bestNext_18 : decode cX5_bestNext 18 = .ok (.iconst 1, 1) := by decide +kernel
theorem dX5_bestNext_19 : decode cX5_bestNext 19 = .ok (.iand, 1) := by decide +kernel
theorem dX5_bestNext_20 : decode cX5_bestNext 20 = .ok (.ifCond .ne 64, 3) := by decide +kernel
theorem dX5_bestNext_23 : decode cX5_bestNext 23 = .ok (.aload_n 0, 1) := by decide +kernel
theorem dX5_bestNext_24 : decode cX5_bestNext 24 = .ok (.getfield 44, 3) := by decide +kernel
theorem dX5_bestNext_27 : decode cX5_bestNext 27 = .ok (.aload_n 1, 1) := by decide +kernel
theorem dX5_bestNext_28 : decode cX5_bestNext 28 = .ok (.aload_n 1, 1) := by decide +kernel
theorem dX5_bestNext_29 : decode cX5_bestNext 29 = .ok (.getfield 60, 3) := by decide +kernel
theorem dX5_bestNext_32 : decode cX5_bestNext 32 = .ok (.iload_n 2, 1) := by decide +kernel
theorem dX5_bestNext_33 : decode cX5_bestNext 33 = .ok (.iconst 1, 1) := by decide +kernel
theorem dX5_bestNext_34 : decode cX5_bestNext 34 = .ok (.iload 4, 2) := by decide +kernel
theorem dX5_bestNext_36 : decode cX5_bestNext 36 = .ok (.ishl, 1) := by decide +kernel
theorem dX5_bestNext_37 : decode cX5_bestNext 37 = .ok (.ior, 1) := by decide +kernel
theorem dX5_bestNext_38 : decode cX5_bestNext 38 = .ok (.aload_n 1, 1) := by decide +kernel
theorem dX5_bestNext_39 : decode cX5_bestNext 39 = .ok (.getfield 63, 3) := by decide +kernel
theorem dX5_bestNext_42 : decode cX5_bestNext 42 = .ok (.invokevirtual 66, 3) := by decide +kernel
theorem dX5_bestNext_45 : decode cX5_bestNext 45 = .ok (.iload_n 3, 1) := by decide +kernel
theorem dX5_bestNext_46 : decode cX5_bestNext 46 = .ok (.iconst (-1), 1) := by decide +kernel
theorem dX5_bestNext_47 : decode cX5_bestNext 47 = .ok (.if_icmp .eq 20, 3) := by decide +kernel
theorem dX5_bestNext_50 : decode cX5_bestNext 50 = .ok (.aload_n 0, 1) := by decide +kernel
theorem dX5_bestNext_51 : decode cX5_bestNext 51 = .ok (.getfield 44, 3) := by decide +kernel
theorem dX5_bestNext_54 : decode cX5_bestNext 54 = .ok (.getfield 70, 3) := by decide +kernel
theorem dX5_bestNext_57 : decode cX5_bestNext 57 = .ok (.aload_n 0, 1) := by decide +kernel
theorem dX5_bestNext_58 : decode cX5_bestNext 58 = .ok (.getfield 37, 3) := by decide +kernel
theorem dX5_bestNext_61 : decode cX5_bestNext 61 = .ok (.invokevirtual 73, 3) := by decide +kernel
theorem dX5_bestNext_64 : decode cX5_bestNext 64 = .ok (.ifCond .eq 20, 3) := by decide +kernel
theorem dX5_bestNext_67 : decode cX5_bestNext 67 = .ok (.iload 4, 2) := by decide +kernel
theorem dX5_bestNext_69 : decode cX5_bestNext 69 = .ok (.istore_n 3, 1) := by decide +kernel
theorem dX5_bestNext_70 : decode cX5_bestNext 70 = .ok (.aload_n 0, 1) := by decide +kernel
theorem dX5_bestNext_71 : decode cX5_bestNext 71 = .ok (.getfield 37, 3) := by decide +kernel
theorem dX5_bestNext_74 : decode cX5_bestNext 74 = .ok (.aload_n 0, 1) := by decide +kernel
theorem dX5_bestNext_75 : decode cX5_bestNext 75 = .ok (.getfield 44, 3) := by decide +kernel
theorem dX5_bestNext_78 : decode cX5_bestNext 78 = .ok (.getfield 70, 3) := by decide +kernel
theorem dX5_bestNext_81 : decode cX5_bestNext 81 = .ok (.invokevirtual 77, 3) := by decide +kernel
theorem dX5_bestNext_84 : decode cX5_bestNext 84 = .ok (.iinc 4 1, 3) := by decide +kernel
theorem dX5_bestNext_87 : decode cX5_bestNext 87 = .ok (.goto (-82), 3) := by decide +kernel
theorem dX5_bestNext_90 : decode cX5_bestNext 90 = .ok (.iload_n 3, 1) := by decide +kernel
theorem dX5_bestNext_91 : decode cX5_bestNext 91 = .ok (.ireturn, 1) := by decide +kernel
theorem dX5_bestSet_0 : decode cX5_bestSet 0 = .ok (.aload_n 0, 1) := by decide +kernel
theorem dX5_bestSet_1 : decode cX5_bestSet 1 = .ok (.getfield 29, 3) := by decide +kernel
theorem dX5_bestSet_4 : decode cX5_bestSet 4 = .ok (.iload_n 2, 1) := by decide +kernel
theorem dX5_bestSet_5 : decode cX5_bestSet 5 = .ok (.baload, 1) := by decide +kernel
theorem dX5_bestSet_6 : decode cX5_bestSet 6 = .ok (.ifCond .ne 28, 3) := by decide +kernel
theorem dX5_bestSet_9 : decode cX5_bestSet 9 = .ok (.aload_n 0, 1) := by decide +kernel
theorem dX5_bestSet_10 : decode cX5_bestSet 10 = .ok (.getfield 29, 3) := by decide +kernel
theorem dX5_bestSet_13 : decode cX5_bestSet 13 = .ok (.iload_n 2, 1) := by decide +kernel
theorem dX5_bestSet_14 : decode cX5_bestSet 14 = .ok (.iconst 1, 1) := by decide +kernel
theorem dX5_bestSet_15 : decode cX5_bestSet 15 = .ok (.bastore, 1) := by decide +kernel
theorem dX5_bestSet_16 : decode cX5_bestSet 16 = .ok (.aload_n 0, 1) := by decide +kernel
theorem dX5_bestSet_17 : decode cX5_bestSet 17 = .ok (.getfield 33, 3) := by decide +kernel
theorem dX5_bestSet_20 : decode cX5_bestSet 20 = .ok (.iload_n 2, 1) := by decide +kernel
theorem dX5_bestSet_21 : decode cX5_bestSet 21 = .ok (.aload_n 0, 1) := by decide +kernel
theorem dX5_bestSet_22 : decode cX5_bestSet 22 = .ok (.aload_n 1, 1) := by decide +kernel
theorem dX5_bestSet_23 : decode cX5_bestSet 23 = .ok (.iload_n 2, 1) := by decide +kernel
theorem dX5_bestSet_24 : decode cX5_bestSet 24 = .ok (.aload_n 0, 1) := by decide +kernel
theorem dX5_bestSet_25 : decode cX5_bestSet 25 = .ok (.getfield 21, 3) := by decide +kernel
theorem dX5_bestSet_28 : decode cX5_bestSet 28 = .ok (.iload_n 2, 1) := by decide +kernel
theorem dX5_bestSet_29 : decode cX5_bestSet 29 = .ok (.aaload, 1) := by decide +kernel
theorem dX5_bestSet_30 : decode cX5_bestSet 30 = .ok (.invokevirtual 81, 3) := by decide +kernel
theorem dX5_bestSet_33 : decode cX5_bestSet 33 = .ok (.iastore, 1) := by decide +kernel
theorem dX5_bestSet_34 : decode cX5_bestSet 34 = .ok (.aload_n 0, 1) := by decide +kernel
theorem dX5_bestSet_35 : decode cX5_bestSet 35 = .ok (.getfield 33, 3) := by decide +kernel
theorem dX5_bestSet_38 : decode cX5_bestSet 38 = .ok (.iload_n 2, 1) := by decide +kernel
theorem dX5_bestSet_39 : decode cX5_bestSet 39 = .ok (.iaload, 1) := by decide +kernel
theorem dX5_bestSet_40 : decode cX5_bestSet 40 = .ok (.ireturn, 1) := by decide +kernel
theorem dX5_findSet_0 : decode cX5_findSet 0 = .ok (.iconst (-1), 1) := by decide +kernel
theorem dX5_findSet_1 : decode cX5_findSet 1 = .ok (.istore 4, 2) := by decide +kernel
theorem dX5_findSet_3 : decode cX5_findSet 3 = .ok (.iconst 0, 1) := by decide +kernel
theorem dX5_findSet_4 : decode cX5_findSet 4 = .ok (.istore 5, 2) := by decide +kernel
theorem dX5_findSet_6 : decode cX5_findSet 6 = .ok (.iload 5, 2) := by decide +kernel
theorem dX5_findSet_8 : decode cX5_findSet 8 = .ok (.iconst 1, 1) := by decide +kernel
theorem dX5_findSet_9 : decode cX5_findSet 9 = .ok (.aload_n 1, 1) := by decide +kernel
theorem dX5_findSet_10 : decode cX5_findSet 10 = .ok (.getfield 53, 3) := by decide +kernel
theorem dX5_findSet_13 : decode cX5_findSet 13 = .ok (.ishl, 1) := by decide +kernel
theorem dX5_findSet_14 : decode cX5_findSet 14 = .ok (.if_icmp .ge 86, 3) := by decide +kernel
theorem dX5_findSet_17 : decode cX5_findSet 17 = .ok (.iload 5, 2) := by decide +kernel
theorem dX5_findSet_19 : decode cX5_findSet 19 = .ok (.aload_n 1, 1) := by decide +kernel
theorem dX5_findSet_20 : decode cX5_findSet 20 = .ok (.getfield 48, 3) := by decide +kernel
theorem dX5_findSet_23 : decode cX5_findSet 23 = .ok (.iand, 1) := by decide +kernel
theorem dX5_findSet_24 : decode cX5_findSet 24 = .ok (.ifCond .ne 70, 3) := by decide +kernel
theorem dX5_findSet_27 : decode cX5_findSet 27 = .ok (.iload 5, 2) := by decide +kernel
theorem dX5_findSet_29 : decode cX5_findSet 29 = .ok (.invokestatic 85, 3) := by decide +kernel
theorem dX5_findSet_32 : decode cX5_findSet 32 = .ok (.iload_n 2, 1) := by decide +kernel
theorem dX5_findSet_33 : decode cX5_findSet 33 = .ok (.if_icmp .ne 61, 3) := by decide +kernel
theorem dX5_findSet_36 : decode cX5_findSet 36 = .ok (.aload_n 0, 1) := by decide +kernel
theorem dX5_findSet_37 : decode cX5_findSet 37 = .ok (.getfield 44, 3) := by decide +kernel
theorem dX5_findSet_40 : decode cX5_findSet 40 = .ok (.aload_n 1, 1) := by decide +kernel
theorem dX5_findSet_41 : decode cX5_findSet 41 = .ok (.aload_n 1, 1) := by decide +kernel
theorem dX5_findSet_42 : decode cX5_findSet 42 = .ok (.getfield 60, 3) := by decide +kernel
theorem dX5_findSet_45 : decode cX5_findSet 45 = .ok (.aload_n 1, 1) := by decide +kernel
theorem dX5_findSet_46 : decode cX5_findSet 46 = .ok (.getfield 48, 3) := by decide +kernel
theorem dX5_findSet_49 : decode cX5_findSet 49 = .ok (.iload 5, 2) := by decide +kernel
theorem dX5_findSet_51 : decode cX5_findSet 51 = .ok (.ior, 1) := by decide +kernel
theorem dX5_findSet_52 : decode cX5_findSet 52 = .ok (.aload_n 1, 1) := by decide +kernel
theorem dX5_findSet_53 : decode cX5_findSet 53 = .ok (.getfield 63, 3) := by decide +kernel
theorem dX5_findSet_56 : decode cX5_findSet 56 = .ok (.invokevirtual 66, 3) := by decide +kernel
theorem dX5_findSet_59 : decode cX5_findSet 59 = .ok (.iload 4, 2) := by decide +kernel
theorem dX5_findSet_61 : decode cX5_findSet 61 = .ok (.iconst (-1), 1) := by decide +kernel
theorem dX5_findSet_62 : decode cX5_findSet 62 = .ok (.if_icmp .eq 17, 3) := by decide +kernel
theorem dX5_findSet_65 : decode cX5_findSet 65 = .ok (.aload_n 0, 1) := by decide +kernel
theorem dX5_findSet_66 : decode cX5_findSet 66 = .ok (.getfield 44, 3) := by decide +kernel
theorem dX5_findSet_69 : decode cX5_findSet 69 = .ok (.getfield 70, 3) := by decide +kernel
theorem dX5_findSet_72 : decode cX5_findSet 72 = .ok (.aload_n 3, 1) := by decide +kernel
theorem dX5_findSet_73 : decode cX5_findSet 73 = .ok (.invokevirtual 73, 3) := by decide +kernel
theorem dX5_findSet_76 : decode cX5_findSet 76 = .ok (.ifCond .eq 18, 3) := by decide +kernel
theorem dX5_findSet_79 : decode cX5_findSet 79 = .ok (.iload 5, 2) := by decide +kernel
theorem dX5_findSet_81 : decode cX5_findSet 81 = .ok (.istore 4, 2) := by decide +kernel
theorem dX5_findSet_83 : decode cX5_findSet 83 = .ok (.aload_n 3, 1) := by decide +kernel
theorem dX5_findSet_84 : decode cX5_findSet 84 = .ok (.aload_n 0, 1) := by decide +kernel
theorem dX5_findSet_85 : decode cX5_findSet 85 = .ok (.getfield 44, 3) := by decide +kernel
theorem dX5_findSet_88 : decode cX5_findSet 88 = .ok (.getfield 70, 3) := by decide +kernel
theorem dX5_findSet_91 : decode cX5_findSet 91 = .ok (.invokevirtual 77, 3) := by decide +kernel
theorem dX5_findSet_94 : decode cX5_findSet 94 = .ok (.iinc 5 1, 3) := by decide +kernel
theorem dX5_findSet_97 : decode cX5_findSet 97 = .ok (.goto (-91), 3) := by decide +kernel
theorem dX5_findSet_100 : decode cX5_findSet 100 = .ok (.iload 4, 2) := by decide +kernel
theorem dX5_findSet_102 : decode cX5_findSet 102 = .ok (.ireturn, 1) := by decide +kernel
theorem dX6_init_0 : decode cX6_init 0 = .ok (.aload_n 0, 1) := by decide +kernel
theorem dX6_init_1 : decode cX6_init 1 = .ok (.invokespecial 3, 3) := by decide +kernel
theorem dX6_init_4 : decode cX6_init 4 = .ok (.aload_n 0, 1) := by decide +kernel
theorem dX6_init_5 : decode cX6_init 5 = .ok (.iconst 0, 1) := by decide +kernel
theorem dX6_init_6 : decode cX6_init 6 = .ok (.putfield 9, 3) := by decide +kernel
theorem dX6_init_9 : decode cX6_init 9 = .ok (.aload_n 0, 1) := by decide +kernel
theorem dX6_init_10 : decode cX6_init 10 = .ok (.iconst 0, 1) := by decide +kernel
theorem dX6_init_11 : decode cX6_init 11 = .ok (.putfield 15, 3) := by decide +kernel
theorem dX6_init_14 : decode cX6_init 14 = .ok (.aload_n 0, 1) := by decide +kernel
theorem dX6_init_15 : decode cX6_init 15 = .ok (.iconst (-1), 1) := by decide +kernel
theorem dX6_init_16 : decode cX6_init 16 = .ok (.putfield 18, 3) := by decide +kernel
theorem dX6_init_19 : decode cX6_init 19 = .ok (.aload_n 0, 1) := by decide +kernel
theorem dX6_init_20 : decode cX6_init 20 = .ok (.new 21, 3) := by decide +kernel
theorem dX6_init_23 : decode cX6_init 23 = .ok (.dup, 1) := by decide +kernel
theorem dX6_init_24 : decode cX6_init 24 = .ok (.invokespecial 23, 3) := by decide +kernel
theorem dX6_init_27 : decode cX6_init 27 = .ok (.putfield 24, 3) := by decide +kernel
theorem dX6_init_30 : decode cX6_init 30 = .ok (.aload_n 0, 1) := by decide +kernel
theorem dX6_init_31 : decode cX6_init 31 = .ok (.sipush 700, 3) := by decide +kernel
theorem dX6_init_34 : decode cX6_init 34 = .ok (.newarray .int, 2) := by decide +kernel
theorem dX6_init_36 : decode cX6_init 36 = .ok (.putfield 28, 3) := by decide +kernel
theorem dX6_init_39 : decode cX6_init 39 = .ok (.aload_n 0, 1) := by decide +kernel
theorem dX6_init_40 : decode cX6_init 40 = .ok (.iconst 0, 1) := by decide +kernel
theorem dX6_init_41 : decode cX6_init 41 = .ok (.putfield 32, 3) := by decide +kernel
theorem dX6_init_44 : decode cX6_init 44 = .ok (.aload_n 0, 1) := by decide +kernel
theorem dX6_init_45 : decode cX6_init 45 = .ok (.iconst 0, 1) := by decide +kernel
theorem dX6_init_46 : decode cX6_init 46 = .ok (.putfield 35, 3) := by decide +kernel
theorem dX6_init_49 : decode cX6_init 49 = .ok (.aload_n 0, 1) := by decide +kernel
theorem dX6_init_50 : decode cX6_init 50 = .ok (.iconst 0, 1) := by decide +kernel
theorem dX6_init_51 : decode cX6_init 51 = .ok (.putfield 38, 3) := by decide +kernel
theorem dX6_init_54 : decode cX6_init 54 = .ok (.aload_n 0, 1) := by decide +kernel
theorem dX6_init_55 : decode cX6_init 55 = .ok (.iconst 0, 1) := by decide +kernel
theorem dX6_init_56 : decode cX6_init 56 = .ok (.putfield 41, 3) := by decide +kernel
theorem dX6_init_59 : decode cX6_init 59 = .ok (.aload_n 0, 1) := by decide +kernel
theorem dX6_init_60 : decode cX6_init 60 = .ok (.iconst 0, 1) := by decide +kernel
theorem dX6_init_61 : decode cX6_init 61 = .ok (.putfield 44, 3) := by decide +kernel
theorem dX6_init_64 : decode cX6_init 64 = .ok (.aload_n 0, 1) := by decide +kernel
theorem dX6_init_65 : decode cX6_init 65 = .ok (.iconst 0, 1) := by decide +kernel
theorem dX6_init_66 : decode cX6_init 66 = .ok (.putfield 47, 3) := by decide +kernel
theorem dX6_init_69 : decode cX6_init 69 = .ok (.aload_n 0, 1) := by decide +kernel
theorem dX6_init_70 : decode cX6_init 70 = .ok (.iconst 0, 1) := by decide +kernel
theorem dX6_init_71 : decode cX6_init 71 = .ok (.putfield 50, 3) := by decide +kernel
theorem dX6_init_74 : decode cX6_init 74 = .ok (.aload_n 0, 1) := by decide +kernel
theorem dX6_init_75 : decode cX6_init 75 = .ok (.iconst 0, 1) := by decide +kernel
theorem dX6_init_76 : decode cX6_init 76 = .ok (.putfield 53, 3) := by decide +kernel
theorem dX6_init_79 : decode cX6_init 79 = .ok (.return_, 1) := by decide +kernel
theorem dX6_putBytes_0 : decode cX6_putBytes 0 = .ok (.bipush 24, 2) := by decide +kernel
theorem dX6_putBytes_2 : decode cX6_putBytes 2 = .ok (.istore_n 2, 1) := by decide +kernel
theorem dX6_putBytes_3 : decode cX6_putBytes 3 = .ok (.iload_n 2, 1) := by decide +kernel
theorem dX6_putBytes_4 : decode cX6_putBytes 4 = .ok (.ifCond .lt 45, 3) := by decide +kernel
theorem dX6_putBytes_7 : decode cX6_putBytes 7 = .ok (.aload_n 0, 1) := by decide +kernel
theorem dX6_putBytes_8 : decode cX6_putBytes 8 = .ok (.getfield 9, 3) := by decide +kernel
theorem dX6_putBytes_11 : decode cX6_putBytes 11 = .ok (.sipush 700, 3) := by decide +kernel
theorem dX6_putBytes_14 : decode cX6_putBytes 14 = .ok (.if_icmp .ge 35, 3) := by decide +kernel
theorem dX6_putBytes_17 : decode cX6_putBytes 17 = .ok (.aload_n 0, 1) := by decide +kernel
theorem dX6_putBytes_18 : decode cX6_putBytes 18 = .ok (.getfield 28, 3) := by decide +kernel
theorem dX6_putBytes_21 : decode cX6_putBytes 21 = .ok (.aload_n 0, 1) := by decide +kernel
theorem dX6_putBytes_22 : decode cX6_putBytes 22 = .ok (.getfield 9, 3) := by decide +kernel
theorem dX6_putBytes_25 : decode cX6_putBytes 25 = .ok (.iload_n 1, 1) := by decide +kernel
theorem dX6_putBytes_26 : decode cX6_putBytes 26 = .ok (.iload_n 2, 1) := by decide +kernel
theorem dX6_putBytes_27 : decode cX6_putBytes 27 = .ok (.iushr, 1) := by decide +kernel
theorem dX6_putBytes_28 : decode cX6_putBytes 28 = .ok (.sipush 255, 3) := by decide +kernel
theorem dX6_putBytes_31 : decode cX6_putBytes 31 = .ok (.iand, 1) := by decide +kernel
theorem dX6_putBytes_32 : decode cX6_putBytes 32 = .ok (.iastore, 1) := by decide +kernel
theorem dX6_putBytes_33 : decode cX6_putBytes 33 = .ok (.aload_n 0, 1) := by decide +kernel
theorem dX6_putBytes_34 : decode cX6_putBytes 34 = .ok (.dup, 1) := by decide +kernel
theorem dX6_putBytes_35 : decode cX6_putBytes 35 = .ok (.getfield 9, 3) := by decide +kernel
theorem dX6_putBytes_38 : decode cX6_putBytes 38 = .ok (.iconst 1, 1) := by decide +kernel
theorem dX6_putBytes_39 : decode cX6_putBytes 39 = .ok (.iadd, 1) := by decide +kernel
theorem dX6_putBytes_40 : decode cX6_putBytes 40 = .ok (.putfield 9, 3) := by decide +kernel
theorem dX6_putBytes_43 : decode cX6_putBytes 43 = .ok (.iinc 2 (-8), 3) := by decide +kernel
theorem dX6_putBytes_46 : decode cX6_putBytes 46 = .ok (.goto (-43), 3) := by decide +kernel
theorem dX6_putBytes_49 : decode cX6_putBytes 49 = .ok (.return_, 1) := by decide +kernel
theorem dX6_readText_0 : decode cX6_readText 0 = .ok (.aload_n 0, 1) := by decide +kernel
theorem dX6_readText_1 : decode cX6_readText 1 = .ok (.getfield 24, 3) := by decide +kernel
theorem dX6_readText_4 : decode cX6_readText 4 = .ok (.invokevirtual 56, 3) := by decide +kernel
theorem dX6_readText_7 : decode cX6_readText 7 = .ok (.aload_n 0, 1) := by decide +kernel
theorem dX6_readText_8 : decode cX6_readText 8 = .ok (.iconst 0, 1) := by decide +kernel
theorem dX6_readText_9 : decode cX6_readText 9 = .ok (.putfield 15, 3) := by decide +kernel
theorem dX6_readText_12 : decode cX6_readText 12 = .ok (.aload_n 0, 1) := by decide +kernel
theorem dX6_readText_13 : decode cX6_readText 13 = .ok (.iconst (-1), 1) := by decide +kernel
theorem dX6_readText_14 : decode cX6_readText 14 = .ok (.putfield 18, 3) := by decide +kernel
theorem dX6_readText_17 : decode cX6_readText 17 = .ok (.aload_n 0, 1) := by decide +kernel
theorem dX6_readText_18 : decode cX6_readText 18 = .ok (.iconst 0, 1) := by decide +kernel
theorem dX6_readText_19 : decode cX6_readText 19 = .ok (.putfield 38, 3) := by decide +kernel
theorem dX6_readText_22 : decode cX6_readText 22 = .ok (.aload_n 0, 1) := by decide +kernel
theorem dX6_readText_23 : decode cX6_readText 23 = .ok (.iconst 0, 1) := by decide +kernel
theorem dX6_readText_24 : decode cX6_readText 24 = .ok (.putfield 53, 3) := by decide +kernel
theorem dX6_readText_27 : decode cX6_readText 27 = .ok (.iconst 1, 1) := by decide +kernel
theorem dX6_readText_28 : decode cX6_readText 28 = .ok (.istore_n 1, 1) := by decide +kernel
theorem dX6_readText_29 : decode cX6_readText 29 = .ok (.iconst 0, 1) := by decide +kernel
theorem dX6_readText_30 : decode cX6_readText 30 = .ok (.istore_n 2, 1) := by decide +kernel
theorem dX6_readText_31 : decode cX6_readText 31 = .ok (.iload_n 2, 1) := by decide +kernel
theorem dX6_readText_32 : decode cX6_readText 32 = .ok (.sipush 700, 3) := by decide +kernel
theorem dX6_readText_35 : decode cX6_readText 35 = .ok (.if_icmp .gt 141, 3) := by decide +kernel
theorem dX6_readText_38 : decode cX6_readText 38 = .ok (.iload_n 1, 1) := by decide +kernel
theorem dX6_readText_39 : decode cX6_readText 39 = .ok (.ifCond .eq 137, 3) := by decide +kernel
theorem dX6_readText_42 : decode cX6_readText 42 = .ok (.aload_n 0, 1) := by decide +kernel
theorem dX6_readText_43 : decode cX6_readText 43 = .ok (.invokevirtual 59, 3) := by decide +kernel
theorem dX6_readText_46 : decode cX6_readText 46 = .ok (.aload_n 0, 1) := by decide +kernel
theorem dX6_readText_47 : decode cX6_readText 47 = .ok (.getfield 32, 3) := by decide +kernel
theorem dX6_readText_50 : decode cX6_readText 50 = .ok (.ifCond .ne 5, 3) := by decide +kernel
theorem dX6_readText_53 : decode cX6_readText 53 = .ok (.iconst 1, 1) := by decide +kernel
theorem dX6_readText_54 : decode cX6_readText 54 = .ok (.ireturn, 1) := by decide +kernel
theorem dX6_readText_55 : decode cX6_readText 55 = .ok (.iload_n 2, 1) := by decide +kernel
theorem dX6_readText_56 : decode cX6_readText 56 = .ok (.ifCond .ne 28, 3) := by decide +kernel
theorem dX6_readText_59 : decode cX6_readText 59 = .ok (.aload_n 0, 1) := by decide +kernel
theorem dX6_readText_60 : decode cX6_readText 60 = .ok (.ldc 62, 2) := by decide +kernel
theorem dX6_readText_62 : decode cX6_readText 62 = .ok (.invokevirtual 64, 3) := by decide +kernel
theorem dX6_readText_65 : decode cX6_readText 65 = .ok (.ifCond .eq 10, 3) := by decide +kernel
theorem dX6_readText_68 : decode cX6_readText 68 = .ok (.aload_n 0, 1) := by decide +kernel
theorem dX6_readText_69 : decode cX6_readText 69 = .ok (.invokevirtual 68, 3) := by decide +kernel
theorem dX6_readText_72 : decode cX6_readText 72 = .ok (.goto 8, 3) := by decide +kernel
theorem dX6_readText_75 : decode cX6_readText 75 = .ok (.aload_n 0, 1) := by decide +kernel
theorem dX6_readText_76 : decode cX6_readText 76 = .ok (.iconst 1, 1) := by decide +kernel
theorem dX6_readText_77 : decode cX6_readText 77 = .ok (.invokevirtual 72, 3) := by decide +kernel
theorem dX6_readText_80 : decode cX6_readText 80 = .ok (.istore_n 1, 1) := by decide +kernel
theorem dX6_readText_81 : decode cX6_readText 81 = .ok (.goto 76, 3) := by decide +kernel
theorem dX6_readText_84 : decode cX6_readText 84 = .ok (.aload_n 0, 1) := by decide +kernel
theorem dX6_readText_85 : decode cX6_readText 85 = .ok (.ldc 76, 2) := by decide +kernel
theorem dX6_readText_87 : decode cX6_readText 87 = .ok (.invokevirtual 64, 3) := by decide +kernel
theorem dX6_readText_90 : decode cX6_readText 90 = .ok (.ifCond .eq 11, 3) := by decide +kernel
theorem dX6_readText_93 : decode cX6_readText 93 = .ok (.aload_n 0, 1) := by decide +kernel
theorem dX6_readText_94 : decode cX6_readText 94 = .ok (.invokevirtual 78, 3) := by decide +kernel
theorem dX6_readText_97 : decode cX6_readText 97 = .ok (.istore_n 1, 1) := by decide +kernel
theorem dX6_readText_98 : decode cX6_readText 98 = .ok (.goto 59, 3) := by decide +kernel
theorem dX6_readText_101 : decode cX6_readText 101 = .ok (.aload_n 0, 1) := by decide +kernel
theorem dX6_readText_102 : decode cX6_readText 102 = .ok (.ldc 81, 2) := by decide +kernel
theorem dX6_readText_104 : decode cX6_readText 104 = .ok (.invokevirtual 64, 3) := by decide +kernel
theorem dX6_readText_107 : decode cX6_readText 107 = .ok (.ifCond .eq 11, 3) := by decide +kernel
theorem dX6_readText_110 : decode cX6_readText 110 = .ok (.aload_n 0, 1) := by decide +kernel
theorem dX6_readText_111 : decode cX6_readText 111 = .ok (.invokevirtual 83, 3) := by decide +kernel
theorem dX6_readText_114 : decode cX6_readText 114 = .ok (.istore_n 1, 1) := by decide +kernel
theorem dX6_readText_115 : decode cX6_readText 115 = .ok (.goto 42, 3) := by decide +kernel
theorem dX6_readText_118 : decode cX6_readText 118 = .ok (.aload_n 0, 1) := by decide +kernel
theorem dX6_readText_119 : decode cX6_readText 119 = .ok (.ldc 86, 2) := by decide +kernel
theorem dX6_readText_121 : decode cX6_readText 121 = .ok (.invokevirtual 64, 3) := by decide +kernel
theorem dX6_readText_124 : decode cX6_readText 124 = .ok (.ifCond .eq 11, 3) := by decide +kernel
theorem dX6_readText_127 : decode cX6_readText 127 = .ok (.aload_n 0, 1) := by decide +kernel
theorem dX6_readText_128 : decode cX6_readText 128 = .ok (.invokevirtual 88, 3) := by decide +kernel
theorem dX6_readText_131 : decode cX6_readText 131 = .ok (.istore_n 1, 1) := by decide +kernel
theorem dX6_readText_132 : decode cX6_readText 132 = .ok (.goto 25, 3) := by decide +kernel
theorem dX6_readText_135 : decode cX6_readText 135 = .ok (.aload_n 0, 1) := by decide +kernel
theorem dX6_readText_136 : decode cX6_readText 136 = .ok (.ldc 91, 2) := by decide +kernel
theorem dX6_readText_138 : decode cX6_readText 138 = .ok (.invokevirtual 64, 3) := by decide +kernel
theorem dX6_readText_141 : decode cX6_readText 141 = .ok (.ifCond .eq 10, 3) := by decide +kernel
theorem dX6_readText_144 : decode cX6_readText 144 = .ok (.aload_n 0, 1) := by decide +kernel
theorem dX6_readText_145 : decode cX6_readText 145 = .ok (.invokevirtual 93, 3) := by decide +kernel
theorem dX6_readText_148 : decode cX6_readText 148 = .ok (.goto 8, 3) := by decide +kernel
theorem dX6_readText_151 : decode cX6_readText 151 = .ok (.aload_n 0, 1) := by decide +kernel
theorem dX6_readText_152 : decode cX6_readText 152 = .ok (.iconst 1, 1) := by decide +kernel
theorem dX6_readText_153 : decode cX6_readText 153 = .ok (.invokevirtual 72, 3) := by decide +kernel
theorem dX6_readText_156 : decode cX6_readText 156 = .ok (.istore_n 1, 1) := by decide +kernel
theorem dX6_readText_157 : decode cX6_readText 157 = .ok (.aload_n 0, 1) := by decide +kernel
theorem dX6_readText_158 : decode cX6_readText 158 = .ok (.getfield 24, 3) := by decide +kernel
theorem dX6_readText_161 : decode cX6_readText 161 = .ok (.dup, 1) := by decide +kernel
theorem dX6_readText_162 : decode cX6_readText 162 = .ok (.getfield 96, 3) := by decide +kernel
theorem dX6_readText_165 : decode cX6_readText 165 = .ok (.iconst 1, 1) := by decide +kernel
theorem dX6_readText_166 : decode cX6_readText 166 = .ok (.iadd, 1) := by decide +kernel
theorem dX6_readText_167 : decode cX6_readText 167 = .ok (.putfield 96, 3) := by decide +kernel
theorem dX6_readText_170 : decode cX6_readText 170 = .ok (.iinc 2 1, 3) := by decide +kernel
theorem dX6_readText_173 : decode cX6_readText 173 = .ok (.goto (-142), 3) := by decide +kernel
theorem dX6_readText_176 : decode cX6_readText 176 = .ok (.iload_n 1, 1) := by decide +kernel
theorem dX6_readText_177 : decode cX6_readText 177 = .ok (.ireturn, 1) := by decide +kernel
theorem dX6_readGrid_0 : decode cX6_readGrid 0 = .ok (.aload_n 0, 1) := by decide +kernel
theorem dX6_readGrid_1 : decode cX6_readGrid 1 = .ok (.ldc 99, 2) := by decide +kernel
theorem dX6_readGrid_3 : decode cX6_readGrid 3 = .ok (.iconst 1, 1) := by decide +kernel
theorem dX6_readGrid_4 : decode cX6_readGrid 4 = .ok (.bipush 9, 2) := by decide +kernel
theorem dX6_readGrid_6 : decode cX6_readGrid 6 = .ok (.invokevirtual 101, 3) := by decide +kernel
theorem dX6_readGrid_9 : decode cX6_readGrid 9 = .ok (.ifCond .ne 5, 3) := by decide +kernel
theorem dX6_readGrid_12 : decode cX6_readGrid 12 = .ok (.iconst 0, 1) := by decide +kernel
theorem dX6_readGrid_13 : decode cX6_readGrid 13 = .ok (.ireturn, 1) := by decide +kernel
theorem dX6_readGrid_14 : decode cX6_readGrid 14 = .ok (.aload_n 0, 1) := by decide +kernel
theorem dX6_readGrid_15 : decode cX6_readGrid 15 = .ok (.getfield 41, 3) := by decide +kernel
theorem dX6_readGrid_18 : decode cX6_readGrid 18 = .ok (.istore_n 1, 1) := by decide +kernel
theorem dX6_readGrid_19 : decode cX6_readGrid 19 = .ok (.aload_n 0, 1) := by decide +kernel
theorem dX6_readGrid_20 : decode cX6_readGrid 20 = .ok (.ldc 105, 2) := by decide +kernel
theorem dX6_readGrid_22 : decode cX6_readGrid 22 = .ok (.iconst 1, 1) := by decide +kernel
theorem dX6_readGrid_23 : decode cX6_readGrid 23 = .ok (.bipush 9, 2) := by decide +kernel
theorem dX6_readGrid_25 : decode cX6_readGrid 25 = .ok (.invokevirtual 101, 3) := by decide +kernel
theorem dX6_readGrid_28 : decode cX6_readGrid 28 = .ok (.ifCond .ne 5, 3) := by decide +kernel
theorem dX6_readGrid_31 : decode cX6_readGrid 31 = .ok (.iconst 0, 1) := by decide +kernel
theorem dX6_readGrid_32 : decode cX6_readGrid 32 = .ok (.ireturn, 1) := by decide +kernel
theorem dX6_readGrid_33 : decode cX6_readGrid 33 = .ok (.aload_n 0, 1) := by decide +kernel
theorem dX6_readGrid_34 : decode cX6_readGrid 34 = .ok (.getfield 41, 3) := by decide +kernel
theorem dX6_readGrid_37 : decode cX6_readGrid 37 = .ok (.istore_n 2, 1) := by decide +kernel
theorem dX6_readGrid_38 : decode cX6_readGrid 38 = .ok (.iload_n 1, 1) := by decide +kernel
theorem dX6_readGrid_39 : decode cX6_readGrid 39 = .ok (.iload_n 2, 1) := by decide +kernel
theorem dX6_readGrid_40 : decode cX6_readGrid 40 = .ok (.imul, 1) := by decide +kernel
theorem dX6_readGrid_41 : decode cX6_readGrid 41 = .ok (.bipush 9, 2) := by decide +kernel
theorem dX6_readGrid_43 : decode cX6_readGrid 43 = .ok (.if_icmp .le 9, 3) := by decide +kernel
theorem dX6_readGrid_46 : decode cX6_readGrid 46 = .ok (.aload_n 0, 1) := by decide +kernel
theorem dX6_readGrid_47 : decode cX6_readGrid 47 = .ok (.iconst 2, 1) := by decide +kernel
theorem dX6_readGrid_48 : decode cX6_readGrid 48 = .ok (.invokevirtual 72, 3) := by decide +kernel
theorem dX6_readGrid_51 : decode cX6_readGrid 51 = .ok (.ireturn, 1) := by decide +kernel
theorem dX6_readGrid_52 : decode cX6_readGrid 52 = .ok (.aload_n 0, 1) := by decide +kernel
theorem dX6_readGrid_53 : decode cX6_readGrid 53 = .ok (.ldc 107, 2) := by decide +kernel
theorem dX6_readGrid_55 : decode cX6_readGrid 55 = .ok (.iconst 0, 1) := by decide +kernel
theorem dX6_readGrid_56 : decode cX6_readGrid 56 = .ok (.iconst 4, 1) := by decide +kernel
theorem dX6_readGrid_57 : decode cX6_readGrid 57 = .ok (.invokevirtual 101, 3) := by decide +kernel
theorem dX6_readGrid_60 : decode cX6_readGrid 60 = .ok (.ifCond .ne 5, 3) := by decide +kernel
theorem dX6_readGrid_63 : decode cX6_readGrid 63 = .ok (.iconst 0, 1) := by decide +kernel
theorem dX6_readGrid_64 : decode cX6_readGrid 64 = .ok (.ireturn, 1) := by decide +kernel
theorem dX6_readGrid_65 : decode cX6_readGrid 65 = .ok (.aload_n 0, 1) := by decide +kernel
theorem dX6_readGrid_66 : decode cX6_readGrid 66 = .ok (.getfield 24, 3) := by decide +kernel
theorem dX6_readGrid_69 : decode cX6_readGrid 69 = .ok (.iload_n 1, 1) := by decide +kernel
theorem dX6_readGrid_70 : decode cX6_readGrid 70 = .ok (.iload_n 2, 1) := by decide +kernel
theorem dX6_readGrid_71 : decode cX6_readGrid 71 = .ok (.aload_n 0, 1) := by decide +kernel
theorem dX6_readGrid_72 : decode cX6_readGrid 72 = .ok (.getfield 41, 3) := by decide +kernel
theorem dX6_readGrid_75 : decode cX6_readGrid 75 = .ok (.invokevirtual 109, 3) := by decide +kernel
theorem dX6_readGrid_78 : decode cX6_readGrid 78 = .ok (.aload_n 0, 1) := by decide +kernel
theorem dX6_readGrid_79 : decode cX6_readGrid 79 = .ok (.ldc 113, 2) := by decide +kernel
theorem dX6_readGrid_81 : decode cX6_readGrid 81 = .ok (.iconst 0, 1) := by decide +kernel
theorem dX6_readGrid_82 : decode cX6_readGrid 82 = .ok (.sipush 999, 3) := by decide +kernel
theorem dX6_readGrid_85 : decode cX6_readGrid 85 = .ok (.invokevirtual 101, 3) := by decide +kernel
theorem dX6_readGrid_88 : decode cX6_readGrid 88 = .ok (.ifCond .ne 5, 3) := by decide +kernel
theorem dX6_readGrid_91 : decode cX6_readGrid 91 = .ok (.iconst 0, 1) := by decide +kernel
theorem dX6_readGrid_92 : decode cX6_readGrid 92 = .ok (.ireturn, 1) := by decide +kernel
theorem dX6_readGrid_93 : decode cX6_readGrid 93 = .ok (.aload_n 0, 1) := by decide +kernel
theorem dX6_readGrid_94 : decode cX6_readGrid 94 = .ok (.getfield 24, 3) := by decide +kernel
theorem dX6_readGrid_97 : decode cX6_readGrid 97 = .ok (.aload_n 0, 1) := by decide +kernel
theorem dX6_readGrid_98 : decode cX6_readGrid 98 = .ok (.getfield 41, 3) := by decide +kernel
theorem dX6_readGrid_101 : decode cX6_readGrid 101 = .ok (.putfield 115, 3) := by decide +kernel
theorem dX6_readGrid_104 : decode cX6_readGrid 104 = .ok (.aload_n 0, 1) := by decide +kernel
theorem dX6_readGrid_105 : decode cX6_readGrid 105 = .ok (.ldc 117, 2) := by decide +kernel
theorem dX6_readGrid_107 : decode cX6_readGrid 107 = .ok (.iconst 1, 1) := by decide +kernel
theorem dX6_readGrid_108 : decode cX6_readGrid 108 = .ok (.sipush 999, 3) := by decide +kernel
theorem dX6_readGrid_111 : decode cX6_readGrid 111 = .ok (.invokevirtual 101, 3) := by decide +kernel
theorem dX6_readGrid_114 : decode cX6_readGrid 114 = .ok (.ifCond .ne 5, 3) := by decide +kernel
theorem dX6_readGrid_117 : decode cX6_readGrid 117 = .ok (.iconst 0, 1) := by decide +kernel
theorem dX6_readGrid_118 : decode cX6_readGrid 118 = .ok (.ireturn, 1) := by decide +kernel
theorem dX6_readGrid_119 : decode cX6_readGrid 119 = .ok (.aload_n 0, 1) := by decide +kernel
theorem dX6_readGrid_120 : decode cX6_readGrid 120 = .ok (.getfield 24, 3) := by decide +kernel
theorem dX6_readGrid_123 : decode cX6_readGrid 123 = .ok (.aload_n 0, 1) := by decide +kernel
theorem dX6_readGrid_124 : decode cX6_readGrid 124 = .ok (.getfield 41, 3) := by decide +kernel
theorem dX6_readGrid_127 : decode cX6_readGrid 127 = .ok (.putfield 119, 3) := by decide +kernel
theorem dX6_readGrid_130 : decode cX6_readGrid 130 = .ok (.aload_n 0, 1) := by decide +kernel
theorem dX6_readGrid_131 : decode cX6_readGrid 131 = .ok (.invokevirtual 121, 3) := by decide +kernel
theorem dX6_readGrid_134 : decode cX6_readGrid 134 = .ok (.ireturn, 1) := by decide +kernel
theorem dX6_readStrap_0 : decode cX6_readStrap 0 = .ok (.aload_n 0, 1) := by decide +kernel
theorem dX6_readStrap_1 : decode cX6_readStrap 1 = .ok (.invokevirtual 124, 3) := by decide +kernel
theorem dX6_readStrap_4 : decode cX6_readStrap 4 = .ok (.ifCond .ne 5, 3) := by decide +kernel
theorem dX6_readStrap_7 : decode cX6_readStrap 7 = .ok (.iconst 0, 1) := by decide +kernel
theorem dX6_readStrap_8 : decode cX6_readStrap 8 = .ok (.ireturn, 1) := by decide +kernel
theorem dX6_readStrap_9 : decode cX6_readStrap 9 = .ok (.aload_n 0, 1) := by decide +kernel
theorem dX6_readStrap_10 : decode cX6_readStrap 10 = .ok (.invokevirtual 59, 3) := by decide +kernel
theorem dX6_readStrap_13 : decode cX6_readStrap 13 = .ok (.aload_n 0, 1) := by decide +kernel
theorem dX6_readStrap_14 : decode cX6_readStrap 14 = .ok (.ldc 127, 2) := by decide +kernel
theorem dX6_readStrap_16 : decode cX6_readStrap 16 = .ok (.invokevirtual 64, 3) := by decide +kernel
theorem dX6_readStrap_19 : decode cX6_readStrap 19 = .ok (.istore_n 1, 1) := by decide +kernel
theorem dX6_readStrap_20 : decode cX6_readStrap 20 = .ok (.iload_n 1, 1) := by decide +kernel
theorem dX6_readStrap_21 : decode cX6_readStrap 21 = .ok (.ifCond .ne 18, 3) := by decide +kernel
theorem dX6_readStrap_24 : decode cX6_readStrap 24 = .ok (.aload_n 0, 1) := by decide +kernel
theorem dX6_readStrap_25 : decode cX6_readStrap 25 = .ok (.ldc 129, 2) := by decide +kernel
theorem dX6_readStrap_27 : decode cX6_readStrap 27 = .ok (.invokevirtual 64, 3) := by decide +kernel
theorem dX6_readStrap_30 : decode cX6_readStrap 30 = .ok (.ifCond .ne 9, 3) := by decide +kernel
theorem dX6_readStrap_33 : decode cX6_readStrap 33 = .ok (.aload_n 0, 1) := by decide +kernel
theorem dX6_readStrap_34 : decode cX6_readStrap 34 = .ok (.iconst 1, 1) := by decide +kernel
theorem dX6_readStrap_35 : decode cX6_readStrap 35 = .ok (.invokevirtual 72, 3) := by decide +kernel
theorem dX6_readStrap_38 : decode cX6_readStrap 38 = .ok (.ireturn, 1) := by decide +kernel
theorem dX6_readStrap_39 : decode cX6_readStrap 39 = .ok (.iload_n 1, 1) := by decide +kernel
theorem dX6_readStrap_40 : decode cX6_readStrap 40 = .ok (.ifCond .eq 27, 3) := by decide +kernel
theorem dX6_readStrap_43 : decode cX6_readStrap 43 = .ok (.aload_n 0, 1) := by decide +kernel
theorem dX6_readStrap_44 : decode cX6_readStrap 44 = .ok (.getfield 44, 3) := by decide +kernel
theorem dX6_readStrap_47 : decode cX6_readStrap 47 = .ok (.iconst 1, 1) := by decide +kernel
theorem dX6_readStrap_48 : decode cX6_readStrap 48 = .ok (.iadd, 1) := by decide +kernel
theorem dX6_readStrap_49 : decode cX6_readStrap 49 = .ok (.aload_n 0, 1) := by decide +kernel
theorem dX6_readStrap_50 : decode cX6_readStrap 50 = .ok (.getfield 24, 3) := by decide +kernel
theorem dX6_readStrap_53 : decode cX6_readStrap 53 = .ok (.getfield 131, 3) := by decide +kernel
theorem dX6_readStrap_56 : decode cX6_readStrap 56 = .ok (.if_icmp .ge 7, 3) := by decide +kernel
theorem dX6_readStrap_59 : decode cX6_readStrap 59 = .ok (.iconst 1, 1) := by decide +kernel
theorem dX6_readStrap_60 : decode cX6_readStrap 60 = .ok (.goto 28, 3) := by decide +kernel
theorem dX6_readStrap_63 : decode cX6_readStrap 63 = .ok (.iconst 0, 1) := by decide +kernel
theorem dX6_readStrap_64 : decode cX6_readStrap 64 = .ok (.goto 24, 3) := by decide +kernel
theorem dX6_readStrap_67 : decode cX6_readStrap 67 = .ok (.aload_n 0, 1) := by decide +kernel
theorem dX6_readStrap_68 : decode cX6_readStrap 68 = .ok (.getfield 47, 3) := by decide +kernel
theorem dX6_readStrap_71 : decode cX6_readStrap 71 = .ok (.iconst 1, 1) := by decide +kernel
theorem dX6_readStrap_72 : decode cX6_readStrap 72 = .ok (.iadd, 1) := by decide +kernel
theorem dX6_readStrap_73 : decode cX6_readStrap 73 = .ok (.aload_n 0, 1) := by decide +kernel
theorem dX6_readStrap_74 : decode cX6_readStrap 74 = .ok (.getfield 24, 3) := by decide +kernel
theorem dX6_readStrap_77 : decode cX6_readStrap 77 = .ok (.getfield 133, 3) := by decide +kernel
theorem dX6_readStrap_80 : decode cX6_readStrap 80 = .ok (.if_icmp .ge 7, 3) := by decide +kernel
theorem dX6_readStrap_83 : decode cX6_readStrap 83 = .ok (.iconst 1, 1) := by decide +kernel
theorem dX6_readStrap_84 : decode cX6_readStrap 84 = .ok (.goto 4, 3) := by decide +kernel
theorem dX6_readStrap_87 : decode cX6_readStrap 87 = .ok (.iconst 0, 1) := by decide +kernel
theorem dX6_readStrap_88 : decode cX6_readStrap 88 = .ok (.istore_n 2, 1) := by decide +kernel
theorem dX6_readStrap_89 : decode cX6_readStrap 89 = .ok (.iload_n 2, 1) := by decide +kernel
theorem dX6_readStrap_90 : decode cX6_readStrap 90 = .ok (.ifCond .eq 42, 3) := by decide +kernel
theorem dX6_readStrap_93 : decode cX6_readStrap 93 = .ok (.aload_n 0, 1) := by decide +kernel
theorem dX6_readStrap_94 : decode cX6_readStrap 94 = .ok (.getfield 24, 3) := by decide +kernel
theorem dX6_readStrap_97 : decode cX6_readStrap 97 = .ok (.aload_n 0, 1) := by decide +kernel
theorem dX6_readStrap_98 : decode cX6_readStrap 98 = .ok (.getfield 50, 3) := by decide +kernel
theorem dX6_readStrap_101 : decode cX6_readStrap 101 = .ok (.iload_n 1, 1) := by decide +kernel
theorem dX6_readStrap_102 : decode cX6_readStrap 102 = .ok (.ifCond .eq 12, 3) := by decide +kernel
theorem dX6_readStrap_105 : decode cX6_readStrap 105 = .ok (.aload_n 0, 1) := by decide +kernel
theorem dX6_readStrap_106 : decode cX6_readStrap 106 = .ok (.getfield 50, 3) := by decide +kernel
theorem dX6_readStrap_109 : decode cX6_readStrap 109 = .ok (.iconst 1, 1) := by decide +kernel
theorem dX6_readStrap_110 : decode cX6_readStrap 110 = .ok (.iadd, 1) := by decide +kernel
theorem dX6_readStrap_111 : decode cX6_readStrap 111 = .ok (.goto 15, 3) := by decide +kernel
theorem dX6_readStrap_114 : decode cX6_readStrap 114 = .ok (.aload_n 0, 1) := by decide +kernel
theorem dX6_readStrap_115 : decode cX6_readStrap 115 = .ok (.getfield 50, 3) := by decide +kernel
theorem dX6_readStrap_118 : decode cX6_readStrap 118 = .ok (.aload_n 0, 1) := by decide +kernel
theorem dX6_readStrap_119 : decode cX6_readStrap 119 = .ok (.getfield 24, 3) := by decide +kernel
theorem dX6_readStrap_122 : decode cX6_readStrap 122 = .ok (.getfield 131, 3) := by decide +kernel
theorem dX6_readStrap_125 : decode cX6_readStrap 125 = .ok (.iadd, 1) := by decide +kernel
theorem dX6_readStrap_126 : decode cX6_readStrap 126 = .ok (.invokevirtual 135, 3) := by decide +kernel
theorem dX6_readStrap_129 : decode cX6_readStrap 129 = .ok (.goto 4, 3) := by decide +kernel
theorem dX6_readStrap_132 : decode cX6_readStrap 132 = .ok (.iconst (-1), 1) := by decide +kernel
theorem dX6_readStrap_133 : decode cX6_readStrap 133 = .ok (.istore_n 3, 1) := by decide +kernel
theorem dX6_readStrap_134 : decode cX6_readStrap 134 = .ok (.iload_n 3, 1) := by decide +kernel
theorem dX6_readStrap_135 : decode cX6_readStrap 135 = .ok (.iconst (-1), 1) := by decide +kernel
theorem dX6_readStrap_136 : decode cX6_readStrap 136 = .ok (.if_icmp .ne 9, 3) := by decide +kernel
theorem dX6_readStrap_139 : decode cX6_readStrap 139 = .ok (.aload_n 0, 1) := by decide +kernel
theorem dX6_readStrap_140 : decode cX6_readStrap 140 = .ok (.iconst 2, 1) := by decide +kernel
theorem dX6_readStrap_141 : decode cX6_readStrap 141 = .ok (.invokevirtual 72, 3) := by decide +kernel
theorem dX6_readStrap_144 : decode cX6_readStrap 144 = .ok (.ireturn, 1) := by decide +kernel
theorem dX6_readStrap_145 : decode cX6_readStrap 145 = .ok (.aload_n 0, 1) := by decide +kernel
theorem dX6_readStrap_146 : decode cX6_readStrap 146 = .ok (.ldc 107, 2) := by decide +kernel
theorem dX6_readStrap_148 : decode cX6_readStrap 148 = .ok (.iconst 0, 1) := by decide +kernel
theorem dX6_readStrap_149 : decode cX6_readStrap 149 = .ok (.iconst 4, 1) := by decide +kernel
theorem dX6_readStrap_150 : decode cX6_readStrap 150 = .ok (.invokevirtual 101, 3) := by decide +kernel
theorem dX6_readStrap_153 : decode cX6_readStrap 153 = .ok (.ifCond .ne 5, 3) := by decide +kernel
theorem dX6_readStrap_156 : decode cX6_readStrap 156 = .ok (.iconst 0, 1) := by decide +kernel
theorem dX6_readStrap_157 : decode cX6_readStrap 157 = .ok (.ireturn, 1) := by decide +kernel
theorem dX6_readStrap_158 : decode cX6_readStrap 158 = .ok (.aload_n 0, 1) := by decide +kernel
theorem dX6_readStrap_159 : decode cX6_readStrap 159 = .ok (.getfield 24, 3) := by decide +kernel
theorem dX6_readStrap_162 : decode cX6_readStrap 162 = .ok (.getfield 139, 3) := by decide +kernel
theorem dX6_readStrap_165 : decode cX6_readStrap 165 = .ok (.iload_n 3, 1) := by decide +kernel
theorem dX6_readStrap_166 : decode cX6_readStrap 166 = .ok (.aload_n 0, 1) := by decide +kernel
theorem dX6_readStrap_167 : decode cX6_readStrap 167 = .ok (.getfield 41, 3) := by decide +kernel
theorem dX6_readStrap_170 : decode cX6_readStrap 170 = .ok (.iastore, 1) := by decide +kernel
theorem dX6_readStrap_171 : decode cX6_readStrap 171 = .ok (.aload_n 0, 1) := by decide +kernel
theorem dX6_readStrap_172 : decode cX6_readStrap 172 = .ok (.invokevirtual 121, 3) := by decide +kernel
theorem dX6_readStrap_175 : decode cX6_readStrap 175 = .ok (.ireturn, 1) := by decide +kernel
theorem dX6_readPad_0 : decode cX6_readPad 0 = .ok (.aload_n 0, 1) := by decide +kernel
theorem dX6_readPad_1 : decode cX6_readPad 1 = .ok (.invokevirtual 124, 3) := by decide +kernel
theorem dX6_readPad_4 : decode cX6_readPad 4 = .ok (.ifCond .ne 5, 3) := by decide +kernel
theorem dX6_readPad_7 : decode cX6_readPad 7 = .ok (.iconst 0, 1) := by decide +kernel
theorem dX6_readPad_8 : decode cX6_readPad 8 = .ok (.ireturn, 1) := by decide +kernel
theorem dX6_readPad_9 : decode cX6_readPad 9 = .ok (.aload_n 0, 1) := by decide +kernel
theorem dX6_readPad_10 : decode cX6_readPad 10 = .ok (.getfield 24, 3) := by decide +kernel
theorem dX6_readPad_13 : decode cX6_readPad 13 = .ok (.aload_n 0, 1) := by decide +kernel
theorem dX6_readPad_14 : decode cX6_readPad 14 = .ok (.getfield 50, 3) := by decide +kernel
theorem dX6_readPad_17 : decode cX6_readPad 17 = .ok (.invokevirtual 142, 3) := by decide +kernel
theorem dX6_readPad_20 : decode cX6_readPad 20 = .ok (.ifCond .eq 9, 3) := by decide +kernel
theorem dX6_readPad_23 : decode cX6_readPad 23 = .ok (.aload_n 0, 1) := by decide +kernel
theorem dX6_readPad_24 : decode cX6_readPad 24 = .ok (.iconst 2, 1) := by decide +kernel
theorem dX6_readPad_25 : decode cX6_readPad 25 = .ok (.invokevirtual 72, 3) := by decide +kernel
theorem dX6_readPad_28 : decode cX6_readPad 28 = .ok (.ireturn, 1) := by decide +kernel
theorem dX6_readPad_29 : decode cX6_readPad 29 = .ok (.aload_n 0, 1) := by decide +kernel
theorem dX6_readPad_30 : decode cX6_readPad 30 = .ok (.getfield 24, 3) := by decide +kernel
theorem dX6_readPad_33 : decode cX6_readPad 33 = .ok (.dup, 1) := by decide +kernel
theorem dX6_readPad_34 : decode cX6_readPad 34 = .ok (.getfield 145, 3) := by decide +kernel
theorem dX6_readPad_37 : decode cX6_readPad 37 = .ok (.iconst 1, 1) := by decide +kernel
theorem dX6_readPad_38 : decode cX6_readPad 38 = .ok (.aload_n 0, 1) := by decide +kernel
theorem dX6_readPad_39 : decode cX6_readPad 39 = .ok (.getfield 50, 3) := by decide +kernel
theorem dX6_readPad_42 : decode cX6_readPad 42 = .ok (.ishl, 1) := by decide +kernel
theorem dX6_readPad_43 : decode cX6_readPad 43 = .ok (.ior, 1) := by decide +kernel
theorem dX6_readPad_44 : decode cX6_readPad 44 = .ok (.putfield 145, 3) := by decide +kernel
theorem dX6_readPad_47 : decode cX6_readPad 47 = .ok (.aload_n 0, 1) := by decide +kernel
theorem dX6_readPad_48 : decode cX6_readPad 48 = .ok (.invokevirtual 121, 3) := by decide +kernel
theorem dX6_readPad_51 : decode cX6_readPad 51 = .ok (.ireturn, 1) := by decide +kernel
theorem dX6_readLoad_0 : decode cX6_readLoad 0 = .ok (.aload_n 0, 1) := by decide +kernel
theorem dX6_readLoad_1 : decode cX6_readLoad 1 = .ok (.invokevirtual 124, 3) := by decide +kernel
theorem dX6_readLoad_4 : decode cX6_readLoad 4 = .ok (.ifCond .ne 5, 3) := by decide +kernel
theorem dX6_readLoad_7 : decode cX6_readLoad 7 = .ok (.iconst 0, 1) := by decide +kernel
theorem dX6_readLoad_8 : decode cX6_readLoad 8 = .ok (.ireturn, 1) := by decide +kernel
theorem dX6_readLoad_9 : decode cX6_readLoad 9 = .ok (.aload_n 0, 1) := by decide +kernel
theorem dX6_readLoad_10 : decode cX6_readLoad 10 = .ok (.getfield 24, 3) := by decide +kernel
theorem dX6_readLoad_13 : decode cX6_readLoad 13 = .ok (.getfield 148, 3) := by decide +kernel
theorem dX6_readLoad_16 : decode cX6_readLoad 16 = .ok (.aload_n 0, 1) := by decide +kernel
theorem dX6_readLoad_17 : decode cX6_readLoad 17 = .ok (.getfield 50, 3) := by decide +kernel
theorem dX6_readLoad_20 : decode cX6_readLoad 20 = .ok (.iaload, 1) := by decide +kernel
theorem dX6_readLoad_21 : decode cX6_readLoad 21 = .ok (.ifCond .le 9, 3) := by decide +kernel
theorem dX6_readLoad_24 : decode cX6_readLoad 24 = .ok (.aload_n 0, 1) := by decide +kernel
theorem dX6_readLoad_25 : decode cX6_readLoad 25 = .ok (.iconst 2, 1) := by decide +kernel
theorem dX6_readLoad_26 : decode cX6_readLoad 26 = .ok (.invokevirtual 72, 3) := by decide +kernel
theorem dX6_readLoad_29 : decode cX6_readLoad 29 = .ok (.ireturn, 1) := by decide +kernel
theorem dX6_readLoad_30 : decode cX6_readLoad 30 = .ok (.aload_n 0, 1) := by decide +kernel
theorem dX6_readLoad_31 : decode cX6_readLoad 31 = .ok (.ldc 151, 2) := by decide +kernel
theorem dX6_readLoad_33 : decode cX6_readLoad 33 = .ok (.iconst 1, 1) := by decide +kernel
theorem dX6_readLoad_34 : decode cX6_readLoad 34 = .ok (.bipush 99, 2) := by decide +kernel
theorem dX6_readLoad_36 : decode cX6_readLoad 36 = .ok (.invokevirtual 101, 3) := by decide +kernel
theorem dX6_readLoad_39 : decode cX6_readLoad 39 = .ok (.ifCond .ne 5, 3) := by decide +kernel
theorem dX6_readLoad_42 : decode cX6_readLoad 42 = .ok (.iconst 0, 1) := by decide +kernel
theorem dX6_readLoad_43 : decode cX6_readLoad 43 = .ok (.ireturn, 1) := by decide +kernel
theorem dX6_readLoad_44 : decode cX6_readLoad 44 = .ok (.aload_n 0, 1) := by decide +kernel
theorem dX6_readLoad_45 : decode cX6_readLoad 45 = .ok (.getfield 24, 3) := by decide +kernel
theorem dX6_readLoad_48 : decode cX6_readLoad 48 = .ok (.getfield 148, 3) := by decide +kernel
theorem dX6_readLoad_51 : decode cX6_readLoad 51 = .ok (.aload_n 0, 1) := by decide +kernel
theorem dX6_readLoad_52 : decode cX6_readLoad 52 = .ok (.getfield 50, 3) := by decide +kernel
theorem dX6_readLoad_55 : decode cX6_readLoad 55 = .ok (.aload_n 0, 1) := by decide +kernel
theorem dX6_readLoad_56 : decode cX6_readLoad 56 = .ok (.getfield 41, 3) := by decide +kernel
theorem dX6_readLoad_59 : decode cX6_readLoad 59 = .ok (.iastore, 1) := by decide +kernel
theorem dX6_readLoad_60 : decode cX6_readLoad 60 = .ok (.aload_n 0, 1) := by decide +kernel
theorem dX6_readLoad_61 : decode cX6_readLoad 61 = .ok (.invokevirtual 59, 3) := by decide +kernel
theorem dX6_readLoad_64 : decode cX6_readLoad 64 = .ok (.aload_n 0, 1) := by decide +kernel
theorem dX6_readLoad_65 : decode cX6_readLoad 65 = .ok (.ldc 153, 2) := by decide +kernel
theorem dX6_readLoad_67 : decode cX6_readLoad 67 = .ok (.invokevirtual 64, 3) := by decide +kernel
theorem dX6_readLoad_70 : decode cX6_readLoad 70 = .ok (.ifCond .eq 34, 3) := by decide +kernel
theorem dX6_readLoad_73 : decode cX6_readLoad 73 = .ok (.aload_n 0, 1) := by decide +kernel
theorem dX6_readLoad_74 : decode cX6_readLoad 74 = .ok (.iconst 1, 1) := by decide +kernel
theorem dX6_readLoad_75 : decode cX6_readLoad 75 = .ok (.iconst 3, 1) := by decide +kernel
theorem dX6_readLoad_76 : decode cX6_readLoad 76 = .ok (.invokevirtual 155, 3) := by decide +kernel
theorem dX6_readLoad_79 : decode cX6_readLoad 79 = .ok (.ifCond .ne 5, 3) := by decide +kernel
theorem dX6_readLoad_82 : decode cX6_readLoad 82 = .ok (.iconst 0, 1) := by decide +kernel
theorem dX6_readLoad_83 : decode cX6_readLoad 83 = .ok (.ireturn, 1) := by decide +kernel
theorem dX6_readLoad_84 : decode cX6_readLoad 84 = .ok (.aload_n 0, 1) := by decide +kernel
theorem dX6_readLoad_85 : decode cX6_readLoad 85 = .ok (.getfield 24, 3) := by decide +kernel
theorem dX6_readLoad_88 : decode cX6_readLoad 88 = .ok (.getfield 159, 3) := by decide +kernel
theorem dX6_readLoad_91 : decode cX6_readLoad 91 = .ok (.aload_n 0, 1) := by decide +kernel
theorem dX6_readLoad_92 : decode cX6_readLoad 92 = .ok (.getfield 50, 3) := by decide +kernel
theorem dX6_readLoad_95 : decode cX6_readLoad 95 = .ok (.aload_n 0, 1) := by decide +kernel
theorem dX6_readLoad_96 : decode cX6_readLoad 96 = .ok (.getfield 41, 3) := by decide +kernel
theorem dX6_readLoad_99 : decode cX6_readLoad 99 = .ok (.iastore, 1) := by decide +kernel
theorem dX6_readLoad_100 : decode cX6_readLoad 100 = .ok (.aload_n 0, 1) := by decide +kernel
theorem dX6_readLoad_101 : decode cX6_readLoad 101 = .ok (.invokevirtual 59, 3) := by decide +kernel
theorem dX6_readLoad_104 : decode cX6_readLoad 104 = .ok (.aload_n 0, 1) := by decide +kernel
theorem dX6_readLoad_105 : decode cX6_readLoad 105 = .ok (.getfield 32, 3) := by decide +kernel
theorem dX6_readLoad_108 : decode cX6_readLoad 108 = .ok (.iconst 3, 1) := by decide +kernel
theorem dX6_readLoad_109 : decode cX6_readLoad 109 = .ok (.if_icmp .eq 11, 3) := by decide +kernel
theorem dX6_readLoad_112 : decode cX6_readLoad 112 = .ok (.aload_n 0, 1) := by decide +kernel
theorem dX6_readLoad_113 : decode cX6_readLoad 113 = .ok (.iconst 1, 1) := by decide +kernel
theorem dX6_readLoad_114 : decode cX6_readLoad 114 = .ok (.invokevirtual 72, 3) := by decide +kernel
theorem dX6_readLoad_117 : decode cX6_readLoad 117 = .ok (.ifCond .eq 7, 3) := by decide +kernel
theorem dX6_readLoad_120 : decode cX6_readLoad 120 = .ok (.iconst 1, 1) := by decide +kernel
theorem dX6_readLoad_121 : decode cX6_readLoad 121 = .ok (.goto 4, 3) := by decide +kernel
theorem dX6_readLoad_124 : decode cX6_readLoad 124 = .ok (.iconst 0, 1) := by decide +kernel
theorem dX6_readLoad_125 : decode cX6_readLoad 125 = .ok (.ireturn, 1) := by decide +kernel
theorem dX6_readBudget_0 : decode cX6_readBudget 0 = .ok (.aload_n 0, 1) := by decide +kernel
theorem dX6_readBudget_1 : decode cX6_readBudget 1 = .ok (.iconst 0, 1) := by decide +kernel
theorem dX6_readBudget_2 : decode cX6_readBudget 2 = .ok (.iconst 3, 1) := by decide +kernel
theorem dX6_readBudget_3 : decode cX6_readBudget 3 = .ok (.invokevirtual 155, 3) := by decide +kernel
theorem dX6_readBudget_6 : decode cX6_readBudget 6 = .ok (.ifCond .ne 5, 3) := by decide +kernel
theorem dX6_readBudget_9 : decode cX6_readBudget 9 = .ok (.iconst 0, 1) := by decide +kernel
theorem dX6_readBudget_10 : decode cX6_readBudget 10 = .ok (.ireturn, 1) := by decide +kernel
theorem dX6_readBudget_11 : decode cX6_readBudget 11 = .ok (.aload_n 0, 1) := by decide +kernel
theorem dX6_readBudget_12 : decode cX6_readBudget 12 = .ok (.getfield 41, 3) := by decide +kernel
theorem dX6_readBudget_15 : decode cX6_readBudget 15 = .ok (.istore_n 1, 1) := by decide +kernel
theorem dX6_readBudget_16 : decode cX6_readBudget 16 = .ok (.aload_n 0, 1) := by decide +kernel
theorem dX6_readBudget_17 : decode cX6_readBudget 17 = .ok (.getfield 53, 3) := by decide +kernel
theorem dX6_readBudget_20 : decode cX6_readBudget 20 = .ok (.iload_n 1, 1) := by decide +kernel
theorem dX6_readBudget_21 : decode cX6_readBudget 21 = .ok (.ishr, 1) := by decide +kernel
theorem dX6_readBudget_22 : decode cX6_readBudget 22 = .ok (.iconst 1, 1) := by decide +kernel
theorem dX6_readBudget_23 : decode cX6_readBudget 23 = .ok (.iand, 1) := by decide +kernel
theorem dX6_readBudget_24 : decode cX6_readBudget 24 = .ok (.iconst 1, 1) := by decide +kernel
theorem dX6_readBudget_25 : decode cX6_readBudget 25 = .ok (.if_icmp .ne 9, 3) := by decide +kernel
theorem dX6_readBudget_28 : decode cX6_readBudget 28 = .ok (.aload_n 0, 1) := by decide +kernel
theorem dX6_readBudget_29 : decode cX6_readBudget 29 = .ok (.iconst 2, 1) := by decide +kernel
theorem dX6_readBudget_30 : decode cX6_readBudget 30 = .ok (.invokevirtual 72, 3) := by decide +kernel
theorem dX6_readBudget_33 : decode cX6_readBudget 33 = .ok (.ireturn, 1) := by decide +kernel
theorem dX6_readBudget_34 : decode cX6_readBudget 34 = .ok (.aload_n 0, 1) := by decide +kernel
theorem dX6_readBudget_35 : decode cX6_readBudget 35 = .ok (.dup, 1) := by decide +kernel
theorem dX6_readBudget_36 : decode cX6_readBudget 36 = .ok (.getfield 53, 3) := by decide +kernel
theorem dX6_readBudget_39 : decode cX6_readBudget 39 = .ok (.iconst 1, 1) := by decide +kernel
theorem dX6_readBudget_40 : decode cX6_readBudget 40 = .ok (.iload_n 1, 1) := by decide +kernel
theorem dX6_readBudget_41 : decode cX6_readBudget 41 = .ok (.ishl, 1) := by decide +kernel
theorem dX6_readBudget_42 : decode cX6_readBudget 42 = .ok (.ior, 1) := by decide +kernel
theorem dX6_readBudget_43 : decode cX6_readBudget 43 = .ok (.putfield 53, 3) := by decide +kernel
theorem dX6_readBudget_46 : decode cX6_readBudget 46 = .ok (.aload_n 0, 1) := by decide +kernel
theorem dX6_readBudget_47 : decode cX6_readBudget 47 = .ok (.ldc 162, 2) := by decide +kernel
theorem dX6_readBudget_49 : decode cX6_readBudget 49 = .ok (.iconst 0, 1) := by decide +kernel
theorem dX6_readBudget_50 : decode cX6_readBudget 50 = .ok (.sipush 999, 3) := by decide +kernel
theorem dX6_readBudget_53 : decode cX6_readBudget 53 = .ok (.invokevirtual 101, 3) := by decide +kernel
theorem dX6_readBudget_56 : decode cX6_readBudget 56 = .ok (.ifCond .ne 5, 3) := by decide +kernel
theorem dX6_readBudget_59 : decode cX6_readBudget 59 = .ok (.iconst 0, 1) := by decide +kernel
theorem dX6_readBudget_60 : decode cX6_readBudget 60 = .ok (.ireturn, 1) := by decide +kernel
theorem dX6_readBudget_61 : decode cX6_readBudget 61 = .ok (.aload_n 0, 1) := by decide +kernel
theorem dX6_readBudget_62 : decode cX6_readBudget 62 = .ok (.getfield 24, 3) := by decide +kernel
theorem dX6_readBudget_65 : decode cX6_readBudget 65 = .ok (.getfield 164, 3) := by decide +kernel
theorem dX6_readBudget_68 : decode cX6_readBudget 68 = .ok (.iload_n 1, 1) := by decide +kernel
theorem dX6_readBudget_69 : decode cX6_readBudget 69 = .ok (.aload_n 0, 1) := by decide +kernel
theorem dX6_readBudget_70 : decode cX6_readBudget 70 = .ok (.getfield 41, 3) := by decide +kernel
theorem dX6_readBudget_73 : decode cX6_readBudget 73 = .ok (.iastore, 1) := by decide +kernel
theorem dX6_readBudget_74 : decode cX6_readBudget 74 = .ok (.aload_n 0, 1) := by decide +kernel
theorem dX6_readBudget_75 : decode cX6_readBudget 75 = .ok (.invokevirtual 121, 3) := by decide +kernel
theorem dX6_readBudget_78 : decode cX6_readBudget 78 = .ok (.ireturn, 1) := by decide +kernel
theorem dX6_needPlace_0 : decode cX6_needPlace 0 = .ok (.aload_n 0, 1) := by decide +kernel
theorem dX6_needPlace_1 : decode cX6_needPlace 1 = .ok (.invokevirtual 59, 3) := by decide +kernel
theorem dX6_needPlace_4 : decode cX6_needPlace 4 = .ok (.aload_n 0, 1) := by decide +kernel
theorem dX6_needPlace_5 : decode cX6_needPlace 5 = .ok (.ldc 167, 2) := by decide +kernel
theorem dX6_needPlace_7 : decode cX6_needPlace 7 = .ok (.invokevirtual 64, 3) := by decide +kernel
theorem dX6_needPlace_10 : decode cX6_needPlace 10 = .ok (.ifCond .ne 9, 3) := by decide +kernel
theorem dX6_needPlace_13 : decode cX6_needPlace 13 = .ok (.aload_n 0, 1) := by decide +kernel
theorem dX6_needPlace_14 : decode cX6_needPlace 14 = .ok (.iconst 1, 1) := by decide +kernel
theorem dX6_needPlace_15 : decode cX6_needPlace 15 = .ok (.invokevirtual 72, 3) := by decide +kernel
theorem dX6_needPlace_18 : decode cX6_needPlace 18 = .ok (.ireturn, 1) := by decide +kernel
theorem dX6_needPlace_19 : decode cX6_needPlace 19 = .ok (.aload_n 0, 1) := by decide +kernel
theorem dX6_needPlace_20 : decode cX6_needPlace 20 = .ok (.iconst 0, 1) := by decide +kernel
theorem dX6_needPlace_21 : decode cX6_needPlace 21 = .ok (.aload_n 0, 1) := by decide +kernel
theorem dX6_needPlace_22 : decode cX6_needPlace 22 = .ok (.getfield 24, 3) := by decide +kernel
theorem dX6_needPlace_25 : decode cX6_needPlace 25 = .ok (.getfield 131, 3) := by decide +kernel
theorem dX6_needPlace_28 : decode cX6_needPlace 28 = .ok (.iconst 1, 1) := by decide +kernel
theorem dX6_needPlace_29 : decode cX6_needPlace 29 = .ok (.isub, 1) := by decide +kernel
theorem dX6_needPlace_30 : decode cX6_needPlace 30 = .ok (.invokevirtual 155, 3) := by decide +kernel
theorem dX6_needPlace_33 : decode cX6_needPlace 33 = .ok (.ifCond .ne 5, 3) := by decide +kernel
theorem dX6_needPlace_36 : decode cX6_needPlace 36 = .ok (.iconst 0, 1) := by decide +kernel
theorem dX6_needPlace_37 : decode cX6_needPlace 37 = .ok (.ireturn, 1) := by decide +kernel
theorem dX6_needPlace_38 : decode cX6_needPlace 38 = .ok (.aload_n 0, 1) := by decide +kernel
theorem dX6_needPlace_39 : decode cX6_needPlace 39 = .ok (.aload_n 0, 1) := by decide +kernel
theorem dX6_needPlace_40 : decode cX6_needPlace 40 = .ok (.getfield 41, 3) := by decide +kernel
theorem dX6_needPlace_43 : decode cX6_needPlace 43 = .ok (.putfield 44, 3) := by decide +kernel
theorem dX6_needPlace_46 : decode cX6_needPlace 46 = .ok (.aload_n 0, 1) := by decide +kernel
theorem dX6_needPlace_47 : decode cX6_needPlace 47 = .ok (.iconst 0, 1) := by decide +kernel
theorem dX6_needPlace_48 : decode cX6_needPlace 48 = .ok (.aload_n 0, 1) := by decide +kernel
theorem dX6_needPlace_49 : decode cX6_needPlace 49 = .ok (.getfield 24, 3) := by decide +kernel
theorem dX6_needPlace_52 : decode cX6_needPlace 52 = .ok (.getfield 133, 3) := by decide +kernel
theorem dX6_needPlace_55 : decode cX6_needPlace 55 = .ok (.iconst 1, 1) := by decide +kernel
theorem dX6_needPlace_56 : decode cX6_needPlace 56 = .ok (.isub, 1) := by decide +kernel
theorem dX6_needPlace_57 : decode cX6_needPlace 57 = .ok (.invokevirtual 155, 3) := by decide +kernel
theorem dX6_needPlace_60 : decode cX6_needPlace 60 = .ok (.ifCond .ne 5, 3) := by decide +kernel
theorem dX6_needPlace_63 : decode cX6_needPlace 63 = .ok (.iconst 0, 1) := by decide +kernel
theorem dX6_needPlace_64 : decode cX6_needPlace 64 = .ok (.ireturn, 1) := by decide +kernel
theorem dX6_needPlace_65 : decode cX6_needPlace 65 = .ok (.aload_n 0, 1) := by decide +kernel
theorem dX6_needPlace_66 : decode cX6_needPlace 66 = .ok (.aload_n 0, 1) := by decide +kernel
theorem dX6_needPlace_67 : decode cX6_needPlace 67 = .ok (.getfield 41, 3) := by decide +kernel
theorem dX6_needPlace_70 : decode cX6_needPlace 70 = .ok (.putfield 47, 3) := by decide +kernel
theorem dX6_needPlace_73 : decode cX6_needPlace 73 = .ok (.aload_n 0, 1) := by decide +kernel
theorem dX6_needPlace_74 : decode cX6_needPlace 74 = .ok (.aload_n 0, 1) := by decide +kernel
theorem dX6_needPlace_75 : decode cX6_needPlace 75 = .ok (.getfield 47, 3) := by decide +kernel
theorem dX6_needPlace_78 : decode cX6_needPlace 78 = .ok (.aload_n 0, 1) := by decide +kernel
theorem dX6_needPlace_79 : decode cX6_needPlace 79 = .ok (.getfield 24, 3) := by decide +kernel
theorem dX6_needPlace_82 : decode cX6_needPlace 82 = .ok (.getfield 131, 3) := by decide +kernel
theorem dX6_needPlace_85 : decode cX6_needPlace 85 = .ok (.imul, 1) := by decide +kernel
theorem dX6_needPlace_86 : decode cX6_needPlace 86 = .ok (.aload_n 0, 1) := by decide +kernel
theorem dX6_needPlace_87 : decode cX6_needPlace 87 = .ok (.getfield 44, 3) := by decide +kernel
theorem dX6_needPlace_90 : decode cX6_needPlace 90 = .ok (.iadd, 1) := by decide +kernel
theorem dX6_needPlace_91 : decode cX6_needPlace 91 = .ok (.putfield 50, 3) := by decide +kernel
theorem dX6_needPlace_94 : decode cX6_needPlace 94 = .ok (.iconst 1, 1) := by decide +kernel
theorem dX6_needPlace_95 : decode cX6_needPlace 95 = .ok (.ireturn, 1) := by decide +kernel
theorem dX6_needNumber_0 : decode cX6_needNumber 0 = .ok (.aload_n 0, 1) := by decide +kernel
theorem dX6_needNumber_1 : decode cX6_needNumber 1 = .ok (.invokevirtual 59, 3) := by decide +kernel
theorem dX6_needNumber_4 : decode cX6_needNumber 4 = .ok (.aload_n 0, 1) := by decide +kernel
theorem dX6_needNumber_5 : decode cX6_needNumber 5 = .ok (.aload_n 1, 1) := by decide +kernel
theorem dX6_needNumber_6 : decode cX6_needNumber 6 = .ok (.invokevirtual 64, 3) := by decide +kernel
theorem dX6_needNumber_9 : decode cX6_needNumber 9 = .ok (.ifCond .eq 12, 3) := by decide +kernel
theorem dX6_needNumber_12 : decode cX6_needNumber 12 = .ok (.aload_n 0, 1) := by decide +kernel
theorem dX6_needNumber_13 : decode cX6_needNumber 13 = .ok (.iload_n 2, 1) := by decide +kernel
theorem dX6_needNumber_14 : decode cX6_needNumber 14 = .ok (.iload_n 3, 1) := by decide +kernel
theorem dX6_needNumber_15 : decode cX6_needNumber 15 = .ok (.invokevirtual 155, 3) := by decide +kernel
theorem dX6_needNumber_18 : decode cX6_needNumber 18 = .ok (.goto 8, 3) := by decide +kernel
theorem dX6_needNumber_21 : decode cX6_needNumber 21 = .ok (.aload_n 0, 1) := by decide +kernel
theorem dX6_needNumber_22 : decode cX6_needNumber 22 = .ok (.iconst 1, 1) := by decide +kernel
theorem dX6_needNumber_23 : decode cX6_needNumber 23 = .ok (.invokevirtual 72, 3) := by decide +kernel
theorem dX6_needNumber_26 : decode cX6_needNumber 26 = .ok (.ireturn, 1) := by decide +kernel
theorem dX6_needBounds_0 : decode cX6_needBounds 0 = .ok (.aload_n 0, 1) := by decide +kernel
theorem dX6_needBounds_1 : decode cX6_needBounds 1 = .ok (.invokevirtual 59, 3) := by decide +kernel
theorem dX6_needBounds_4 : decode cX6_needBounds 4 = .ok (.aload_n 0, 1) := by decide +kernel
theorem dX6_needBounds_5 : decode cX6_needBounds 5 = .ok (.getfield 32, 3) := by decide +kernel
theorem dX6_needBounds_8 : decode cX6_needBounds 8 = .ok (.iconst 2, 1) := by decide +kernel
theorem dX6_needBounds_9 : decode cX6_needBounds 9 = .ok (.if_icmp .eq 9, 3) := by decide +kernel
theorem dX6_needBounds_12 : decode cX6_needBounds 12 = .ok (.aload_n 0, 1) := by decide +kernel
theorem dX6_needBounds_13 : decode cX6_needBounds 13 = .ok (.iconst 1, 1) := by decide +kernel
theorem dX6_needBounds_14 : decode cX6_needBounds 14 = .ok (.invokevirtual 72, 3) := by decide +kernel
theorem dX6_needBounds_17 : decode cX6_needBounds 17 = .ok (.ireturn, 1) := by decide +kernel
theorem dX6_needBounds_18 : decode cX6_needBounds 18 = .ok (.aload_n 0, 1) := by decide +kernel
theorem dX6_needBounds_19 : decode cX6_needBounds 19 = .ok (.getfield 41, 3) := by decide +kernel
theorem dX6_needBounds_22 : decode cX6_needBounds 22 = .ok (.iload_n 1, 1) := by decide +kernel
theorem dX6_needBounds_23 : decode cX6_needBounds 23 = .ok (.if_icmp .lt 11, 3) := by decide +kernel
theorem dX6_needBounds_26 : decode cX6_needBounds 26 = .ok (.aload_n 0, 1) := by decide +kernel
theorem dX6_needBounds_27 : decode cX6_needBounds 27 = .ok (.getfield 41, 3) := by decide +kernel
theorem dX6_needBounds_30 : decode cX6_needBounds 30 = .ok (.iload_n 2, 1) := by decide +kernel
theorem dX6_needBounds_31 : decode cX6_needBounds 31 = .ok (.if_icmp .le 11, 3) := by decide +kernel
theorem dX6_needBounds_34 : decode cX6_needBounds 34 = .ok (.aload_n 0, 1) := by decide +kernel
theorem dX6_needBounds_35 : decode cX6_needBounds 35 = .ok (.iconst 2, 1) := by decide +kernel
theorem dX6_needBounds_36 : decode cX6_needBounds 36 = .ok (.invokevirtual 72, 3) := by decide +kernel
theorem dX6_needBounds_39 : decode cX6_needBounds 39 = .ok (.ifCond .eq 7, 3) := by decide +kernel
theorem dX6_needBounds_42 : decode cX6_needBounds 42 = .ok (.iconst 1, 1) := by decide +kernel
theorem dX6_needBounds_43 : decode cX6_needBounds 43 = .ok (.goto 4, 3) := by decide +kernel
theorem dX6_needBounds_46 : decode cX6_needBounds 46 = .ok (.iconst 0, 1) := by decide +kernel
theorem dX6_needBounds_47 : decode cX6_needBounds 47 = .ok (.ireturn, 1) := by decide +kernel
theorem dX6_needSign_0 : decode cX6_needSign 0 = .ok (.aload_n 0, 1) := by decide +kernel
theorem dX6_needSign_1 : decode cX6_needSign 1 = .ok (.invokevirtual 59, 3) := by decide +kernel
theorem dX6_needSign_4 : decode cX6_needSign 4 = .ok (.aload_n 0, 1) := by decide +kernel
theorem dX6_needSign_5 : decode cX6_needSign 5 = .ok (.getfield 32, 3) := by decide +kernel
theorem dX6_needSign_8 : decode cX6_needSign 8 = .ok (.iconst 3, 1) := by decide +kernel
theorem dX6_needSign_9 : decode cX6_needSign 9 = .ok (.if_icmp .eq 11, 3) := by decide +kernel
theorem dX6_needSign_12 : decode cX6_needSign 12 = .ok (.aload_n 0, 1) := by decide +kernel
theorem dX6_needSign_13 : decode cX6_needSign 13 = .ok (.iconst 1, 1) := by decide +kernel
theorem dX6_needSign_14 : decode cX6_needSign 14 = .ok (.invokevirtual 72, 3) := by decide +kernel
theorem dX6_needSign_17 : decode cX6_needSign 17 = .ok (.ifCond .eq 7, 3) := by decide +kernel
theorem dX6_needSign_20 : decode cX6_needSign 20 = .ok (.iconst 1, 1) := by decide +kernel
theorem dX6_needSign_21 : decode cX6_needSign 21 = .ok (.goto 4, 3) := by decide +kernel
theorem dX6_needSign_24 : decode cX6_needSign 24 = .ok (.iconst 0, 1) := by decide +kernel
theorem dX6_needSign_25 : decode cX6_needSign 25 = .ok (.ireturn, 1) := by decide +kernel
theorem dX6_fail_0 : decode cX6_fail 0 = .ok (.aload_n 0, 1) := by decide +kernel
theorem dX6_fail_1 : decode cX6_fail 1 = .ok (.iload_n 1, 1) := by decide +kernel
theorem dX6_fail_2 : decode cX6_fail 2 = .ok (.putfield 15, 3) := by decide +kernel
theorem dX6_fail_5 : decode cX6_fail 5 = .ok (.aload_n 0, 1) := by decide +kernel
theorem dX6_fail_6 : decode cX6_fail 6 = .ok (.aload_n 0, 1) := by decide +kernel
theorem dX6_fail_7 : decode cX6_fail 7 = .ok (.getfield 35, 3) := by decide +kernel
theorem dX6_fail_10 : decode cX6_fail 10 = .ok (.putfield 18, 3) := by decide +kernel
theorem dX6_fail_13 : decode cX6_fail 13 = .ok (.iconst 0, 1) := by decide +kernel
theorem dX6_fail_14 : decode cX6_fail 14 = .ok (.ireturn, 1) := by decide +kernel
theorem dX6_step_0 : decode cX6_step 0 = .ok (.aload_n 0, 1) := by decide +kernel
theorem dX6_step_1 : decode cX6_step 1 = .ok (.aload_n 0, 1) := by decide +kernel
theorem dX6_step_2 : decode cX6_step 2 = .ok (.getfield 38, 3) := by decide +kernel
theorem dX6_step_5 : decode cX6_step 5 = .ok (.putfield 35, 3) := by decide +kernel
theorem dX6_step_8 : decode cX6_step 8 = .ok (.aload_n 0, 1) := by decide +kernel
theorem dX6_step_9 : decode cX6_step 9 = .ok (.getfield 35, 3) := by decide +kernel
theorem dX6_step_12 : decode cX6_step 12 = .ok (.aload_n 0, 1) := by decide +kernel
theorem dX6_step_13 : decode cX6_step 13 = .ok (.getfield 9, 3) := by decide +kernel
theorem dX6_step_16 : decode cX6_step 16 = .ok (.if_icmp .ge 32, 3) := by decide +kernel
theorem dX6_step_19 : decode cX6_step 19 = .ok (.aload_n 0, 1) := by decide +kernel
theorem dX6_step_20 : decode cX6_step 20 = .ok (.getfield 28, 3) := by decide +kernel
theorem dX6_step_23 : decode cX6_step 23 = .ok (.aload_n 0, 1) := by decide +kernel
theorem dX6_step_24 : decode cX6_step 24 = .ok (.getfield 35, 3) := by decide +kernel
theorem dX6_step_27 : decode cX6_step 27 = .ok (.iaload, 1) := by decide +kernel
theorem dX6_step_28 : decode cX6_step 28 = .ok (.invokestatic 169, 3) := by decide +kernel
theorem dX6_step_31 : decode cX6_step 31 = .ok (.iconst 4, 1) := by decide +kernel
theorem dX6_step_32 : decode cX6_step 32 = .ok (.if_icmp .ne 16, 3) := by decide +kernel
theorem dX6_step_35 : decode cX6_step 35 = .ok (.aload_n 0, 1) := by decide +kernel
theorem dX6_step_36 : decode cX6_step 36 = .ok (.dup, 1) := by decide +kernel
theorem dX6_step_37 : decode cX6_step 37 = .ok (.getfield 35, 3) := by decide +kernel
theorem dX6_step_40 : decode cX6_step 40 = .ok (.iconst 1, 1) := by decide +kernel
theorem dX6_step_41 : decode cX6_step 41 = .ok (.iadd, 1) := by decide +kernel
theorem dX6_step_42 : decode cX6_step 42 = .ok (.putfield 35, 3) := by decide +kernel
theorem dX6_step_45 : decode cX6_step 45 = .ok (.goto (-37), 3) := by decide +kernel
theorem dX6_step_48 : decode cX6_step 48 = .ok (.aload_n 0, 1) := by decide +kernel
theorem dX6_step_49 : decode cX6_step 49 = .ok (.aload_n 0, 1) := by decide +kernel
theorem dX6_step_50 : decode cX6_step 50 = .ok (.getfield 35, 3) := by decide +kernel
theorem dX6_step_53 : decode cX6_step 53 = .ok (.putfield 38, 3) := by decide +kernel
theorem dX6_step_56 : decode cX6_step 56 = .ok (.aload_n 0, 1) := by decide +kernel
theorem dX6_step_57 : decode cX6_step 57 = .ok (.getfield 35, 3) := by decide +kernel
theorem dX6_step_60 : decode cX6_step 60 = .ok (.aload_n 0, 1) := by decide +kernel
theorem dX6_step_61 : decode cX6_step 61 = .ok (.getfield 9, 3) := by decide +kernel
theorem dX6_step_64 : decode cX6_step 64 = .ok (.if_icmp .lt 9, 3) := by decide +kernel
theorem dX6_step_67 : decode cX6_step 67 = .ok (.aload_n 0, 1) := by decide +kernel
theorem dX6_step_68 : decode cX6_step 68 = .ok (.iconst 0, 1) := by decide +kernel
theorem dX6_step_69 : decode cX6_step 69 = .ok (.putfield 32, 3) := by decide +kernel
theorem dX6_step_72 : decode cX6_step 72 = .ok (.return_, 1) := by decide +kernel
theorem dX6_step_73 : decode cX6_step 73 = .ok (.aload_n 0, 1) := by decide +kernel
theorem dX6_step_74 : decode cX6_step 74 = .ok (.aload_n 0, 1) := by decide +kernel
theorem dX6_step_75 : decode cX6_step 75 = .ok (.getfield 28, 3) := by decide +kernel
theorem dX6_step_78 : decode cX6_step 78 = .ok (.aload_n 0, 1) := by decide +kernel
theorem dX6_step_79 : decode cX6_step 79 = .ok (.getfield 35, 3) := by decide +kernel
theorem dX6_step_82 : decode cX6_step 82 = .ok (.iaload, 1) := by decide +kernel
theorem dX6_step_83 : decode cX6_step 83 = .ok (.invokestatic 169, 3) := by decide +kernel
theorem dX6_step_86 : decode cX6_step 86 = .ok (.putfield 32, 3) := by decide +kernel
theorem dX6_step_89 : decode cX6_step 89 = .ok (.aload_n 0, 1) := by decide +kernel
theorem dX6_step_90 : decode cX6_step 90 = .ok (.iconst 0, 1) := by decide +kernel
theorem dX6_step_91 : decode cX6_step 91 = .ok (.putfield 41, 3) := by decide +kernel
theorem dX6_step_94 : decode cX6_step 94 = .ok (.iconst 1, 1) := by decide +kernel
theorem dX6_step_95 : decode cX6_step 95 = .ok (.istore_n 1, 1) := by decide +kernel
theorem dX6_step_96 : decode cX6_step 96 = .ok (.aload_n 0, 1) := by decide +kernel
theorem dX6_step_97 : decode cX6_step 97 = .ok (.getfield 38, 3) := by decide +kernel
theorem dX6_step_100 : decode cX6_step 100 = .ok (.aload_n 0, 1) := by decide +kernel
theorem dX6_step_101 : decode cX6_step 101 = .ok (.getfield 9, 3) := by decide +kernel
theorem dX6_step_104 : decode cX6_step 104 = .ok (.if_icmp .ge 113, 3) := by decide +kernel
theorem dX6_step_107 : decode cX6_step 107 = .ok (.iload_n 1, 1) := by decide +kernel
theorem dX6_step_108 : decode cX6_step 108 = .ok (.ifCond .eq 109, 3) := by decide +kernel
theorem dX6_step_111 : decode cX6_step 111 = .ok (.aload_n 0, 1) := by decide +kernel
theorem dX6_step_112 : decode cX6_step 112 = .ok (.getfield 32, 3) := by decide +kernel
