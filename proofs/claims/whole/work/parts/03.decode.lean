theorem dX0_init_0 : decode cX0_init 0 = .ok (.aload_n 0, 1) := by decide +kernel
theorem dX0_init_1 : decode cX0_init 1 = .ok (.invokespecial 1, 3) := by decide +kernel
theorem dX0_init_4 : decode cX0_init 4 = .ok (.return_, 1) := by decide +kernel
theorem dX0_become_0 : decode cX0_become 0 = .ok (.aload_n 0, 1) := by decide +kernel
theorem dX0_become_1 : decode cX0_become 1 = .ok (.iload_n 1, 1) := by decide +kernel
theorem dX0_become_2 : decode cX0_become 2 = .ok (.putfield 7, 3) := by decide +kernel
theorem dX0_become_5 : decode cX0_become 5 = .ok (.aload_n 0, 1) := by decide +kernel
theorem dX0_become_6 : decode cX0_become 6 = .ok (.iload_n 2, 1) := by decide +kernel
theorem dX0_become_7 : decode cX0_become 7 = .ok (.putfield 13, 3) := by decide +kernel
theorem dX0_become_10 : decode cX0_become 10 = .ok (.aload_n 0, 1) := by decide +kernel
theorem dX0_become_11 : decode cX0_become 11 = .ok (.iload_n 3, 1) := by decide +kernel
theorem dX0_become_12 : decode cX0_become 12 = .ok (.putfield 16, 3) := by decide +kernel
theorem dX0_become_15 : decode cX0_become 15 = .ok (.return_, 1) := by decide +kernel
theorem dX1_init_0 : decode cX1_init 0 = .ok (.aload_n 0, 1) := by decide +kernel
theorem dX1_init_1 : decode cX1_init 1 = .ok (.invokespecial 3, 3) := by decide +kernel
theorem dX1_init_4 : decode cX1_init 4 = .ok (.aload_n 0, 1) := by decide +kernel
theorem dX1_init_5 : decode cX1_init 5 = .ok (.bipush 64, 2) := by decide +kernel
theorem dX1_init_7 : decode cX1_init 7 = .ok (.newarray .int, 2) := by decide +kernel
theorem dX1_init_9 : decode cX1_init 9 = .ok (.putfield 9, 3) := by decide +kernel
theorem dX1_init_12 : decode cX1_init 12 = .ok (.return_, 1) := by decide +kernel
theorem dX1_fill_0 : decode cX1_fill 0 = .ok (.aload_n 0, 1) := by decide +kernel
theorem dX1_fill_1 : decode cX1_fill 1 = .ok (.iconst 0, 1) := by decide +kernel
theorem dX1_fill_2 : decode cX1_fill 2 = .ok (.bipush 6, 2) := by decide +kernel
theorem dX1_fill_4 : decode cX1_fill 4 = .ok (.iload_n 2, 1) := by decide +kernel
theorem dX1_fill_5 : decode cX1_fill 5 = .ok (.invokestatic 15, 3) := by decide +kernel
theorem dX1_fill_8 : decode cX1_fill 8 = .ok (.invokestatic 21, 3) := by decide +kernel
theorem dX1_fill_11 : decode cX1_fill 11 = .ok (.putfield 24, 3) := by decide +kernel
theorem dX1_fill_14 : decode cX1_fill 14 = .ok (.iconst 1, 1) := by decide +kernel
theorem dX1_fill_15 : decode cX1_fill 15 = .ok (.aload_n 0, 1) := by decide +kernel
theorem dX1_fill_16 : decode cX1_fill 16 = .ok (.getfield 24, 3) := by decide +kernel
theorem dX1_fill_19 : decode cX1_fill 19 = .ok (.ishl, 1) := by decide +kernel
theorem dX1_fill_20 : decode cX1_fill 20 = .ok (.iconst 1, 1) := by decide +kernel
theorem dX1_fill_21 : decode cX1_fill 21 = .ok (.isub, 1) := by decide +kernel
theorem dX1_fill_22 : decode cX1_fill 22 = .ok (.istore_n 3, 1) := by decide +kernel
theorem dX1_fill_23 : decode cX1_fill 23 = .ok (.aload_n 0, 1) := by decide +kernel
theorem dX1_fill_24 : decode cX1_fill 24 = .ok (.getfield 9, 3) := by decide +kernel
theorem dX1_fill_27 : decode cX1_fill 27 = .ok (.iload_n 3, 1) := by decide +kernel
theorem dX1_fill_28 : decode cX1_fill 28 = .ok (.iconst 0, 1) := by decide +kernel
theorem dX1_fill_29 : decode cX1_fill 29 = .ok (.iastore, 1) := by decide +kernel
theorem dX1_fill_30 : decode cX1_fill 30 = .ok (.iload_n 3, 1) := by decide +kernel
theorem dX1_fill_31 : decode cX1_fill 31 = .ok (.iconst 1, 1) := by decide +kernel
theorem dX1_fill_32 : decode cX1_fill 32 = .ok (.isub, 1) := by decide +kernel
theorem dX1_fill_33 : decode cX1_fill 33 = .ok (.istore 4, 2) := by decide +kernel
theorem dX1_fill_35 : decode cX1_fill 35 = .ok (.iload 4, 2) := by decide +kernel
theorem dX1_fill_37 : decode cX1_fill 37 = .ok (.ifCond .lt 30, 3) := by decide +kernel
theorem dX1_fill_40 : decode cX1_fill 40 = .ok (.aload_n 0, 1) := by decide +kernel
theorem dX1_fill_41 : decode cX1_fill 41 = .ok (.getfield 9, 3) := by decide +kernel
theorem dX1_fill_44 : decode cX1_fill 44 = .ok (.iload 4, 2) := by decide +kernel
theorem dX1_fill_46 : decode cX1_fill 46 = .ok (.aload_n 0, 1) := by decide +kernel
theorem dX1_fill_47 : decode cX1_fill 47 = .ok (.aload_n 1, 1) := by decide +kernel
theorem dX1_fill_48 : decode cX1_fill 48 = .ok (.iload 4, 2) := by decide +kernel
theorem dX1_fill_50 : decode cX1_fill 50 = .ok (.aload_n 0, 1) := by decide +kernel
theorem dX1_fill_51 : decode cX1_fill 51 = .ok (.aload_n 1, 1) := by decide +kernel
theorem dX1_fill_52 : decode cX1_fill 52 = .ok (.iload 4, 2) := by decide +kernel
theorem dX1_fill_54 : decode cX1_fill 54 = .ok (.invokevirtual 28, 3) := by decide +kernel
theorem dX1_fill_57 : decode cX1_fill 57 = .ok (.invokevirtual 32, 3) := by decide +kernel
theorem dX1_fill_60 : decode cX1_fill 60 = .ok (.iastore, 1) := by decide +kernel
theorem dX1_fill_61 : decode cX1_fill 61 = .ok (.iinc 4 (-1), 3) := by decide +kernel
theorem dX1_fill_64 : decode cX1_fill 64 = .ok (.goto (-29), 3) := by decide +kernel
theorem dX1_fill_67 : decode cX1_fill 67 = .ok (.return_, 1) := by decide +kernel
theorem dX1_firstBest_0 : decode cX1_firstBest 0 = .ok (.bipush (-6), 2) := by decide +kernel
theorem dX1_firstBest_2 : decode cX1_firstBest 2 = .ok (.istore_n 3, 1) := by decide +kernel
theorem dX1_firstBest_3 : decode cX1_firstBest 3 = .ok (.ldc 38, 2) := by decide +kernel
theorem dX1_firstBest_5 : decode cX1_firstBest 5 = .ok (.istore 4, 2) := by decide +kernel
theorem dX1_firstBest_7 : decode cX1_firstBest 7 = .ok (.iconst 0, 1) := by decide +kernel
theorem dX1_firstBest_8 : decode cX1_firstBest 8 = .ok (.istore 5, 2) := by decide +kernel
theorem dX1_firstBest_10 : decode cX1_firstBest 10 = .ok (.iload 5, 2) := by decide +kernel
theorem dX1_firstBest_12 : decode cX1_firstBest 12 = .ok (.aload_n 0, 1) := by decide +kernel
theorem dX1_firstBest_13 : decode cX1_firstBest 13 = .ok (.getfield 24, 3) := by decide +kernel
theorem dX1_firstBest_16 : decode cX1_firstBest 16 = .ok (.if_icmp .ge 42, 3) := by decide +kernel
theorem dX1_firstBest_19 : decode cX1_firstBest 19 = .ok (.iload_n 2, 1) := by decide +kernel
theorem dX1_firstBest_20 : decode cX1_firstBest 20 = .ok (.iload 5, 2) := by decide +kernel
theorem dX1_firstBest_22 : decode cX1_firstBest 22 = .ok (.invokestatic 39, 3) := by decide +kernel
theorem dX1_firstBest_25 : decode cX1_firstBest 25 = .ok (.ifCond .ne 27, 3) := by decide +kernel
theorem dX1_firstBest_28 : decode cX1_firstBest 28 = .ok (.aload_n 0, 1) := by decide +kernel
theorem dX1_firstBest_29 : decode cX1_firstBest 29 = .ok (.aload_n 1, 1) := by decide +kernel
theorem dX1_firstBest_30 : decode cX1_firstBest 30 = .ok (.iload_n 2, 1) := by decide +kernel
theorem dX1_firstBest_31 : decode cX1_firstBest 31 = .ok (.iload 5, 2) := by decide +kernel
theorem dX1_firstBest_33 : decode cX1_firstBest 33 = .ok (.invokevirtual 32, 3) := by decide +kernel
theorem dX1_firstBest_36 : decode cX1_firstBest 36 = .ok (.istore 6, 2) := by decide +kernel
theorem dX1_firstBest_38 : decode cX1_firstBest 38 = .ok (.iload 6, 2) := by decide +kernel
theorem dX1_firstBest_40 : decode cX1_firstBest 40 = .ok (.iload 4, 2) := by decide +kernel
theorem dX1_firstBest_42 : decode cX1_firstBest 42 = .ok (.if_icmp .ge 10, 3) := by decide +kernel
theorem dX1_firstBest_45 : decode cX1_firstBest 45 = .ok (.iload 6, 2) := by decide +kernel
theorem dX1_firstBest_47 : decode cX1_firstBest 47 = .ok (.istore 4, 2) := by decide +kernel
theorem dX1_firstBest_49 : decode cX1_firstBest 49 = .ok (.iload 5, 2) := by decide +kernel
theorem dX1_firstBest_51 : decode cX1_firstBest 51 = .ok (.istore_n 3, 1) := by decide +kernel
theorem dX1_firstBest_52 : decode cX1_firstBest 52 = .ok (.iinc 5 1, 3) := by decide +kernel
theorem dX1_firstBest_55 : decode cX1_firstBest 55 = .ok (.goto (-45), 3) := by decide +kernel
theorem dX1_firstBest_58 : decode cX1_firstBest 58 = .ok (.iload_n 3, 1) := by decide +kernel
theorem dX1_firstBest_59 : decode cX1_firstBest 59 = .ok (.ireturn, 1) := by decide +kernel
theorem dX1_missedWith_0 : decode cX1_missedWith 0 = .ok (.iload_n 3, 1) := by decide +kernel
theorem dX1_missedWith_1 : decode cX1_missedWith 1 = .ok (.ifCond .lt 9, 3) := by decide +kernel
theorem dX1_missedWith_4 : decode cX1_missedWith 4 = .ok (.iload_n 3, 1) := by decide +kernel
theorem dX1_missedWith_5 : decode cX1_missedWith 5 = .ok (.aload_n 1, 1) := by decide +kernel
theorem dX1_missedWith_6 : decode cX1_missedWith 6 = .ok (.arraylength, 1) := by decide +kernel
theorem dX1_missedWith_7 : decode cX1_missedWith 7 = .ok (.if_icmp .lt 5, 3) := by decide +kernel
theorem dX1_missedWith_10 : decode cX1_missedWith 10 = .ok (.iconst 0, 1) := by decide +kernel
theorem dX1_missedWith_11 : decode cX1_missedWith 11 = .ok (.ireturn, 1) := by decide +kernel
theorem dX1_missedWith_12 : decode cX1_missedWith 12 = .ok (.iload_n 2, 1) := by decide +kernel
theorem dX1_missedWith_13 : decode cX1_missedWith 13 = .ok (.iconst 1, 1) := by decide +kernel
theorem dX1_missedWith_14 : decode cX1_missedWith 14 = .ok (.iload_n 3, 1) := by decide +kernel
theorem dX1_missedWith_15 : decode cX1_missedWith 15 = .ok (.ishl, 1) := by decide +kernel
theorem dX1_missedWith_16 : decode cX1_missedWith 16 = .ok (.ior, 1) := by decide +kernel
theorem dX1_missedWith_17 : decode cX1_missedWith 17 = .ok (.istore 4, 2) := by decide +kernel
theorem dX1_missedWith_19 : decode cX1_missedWith 19 = .ok (.iload_n 2, 1) := by decide +kernel
theorem dX1_missedWith_20 : decode cX1_missedWith 20 = .ok (.invokestatic 43, 3) := by decide +kernel
theorem dX1_missedWith_23 : decode cX1_missedWith 23 = .ok (.aload_n 1, 1) := by decide +kernel
theorem dX1_missedWith_24 : decode cX1_missedWith 24 = .ok (.iload_n 3, 1) := by decide +kernel
theorem dX1_missedWith_25 : decode cX1_missedWith 25 = .ok (.iaload, 1) := by decide +kernel
theorem dX1_missedWith_26 : decode cX1_missedWith 26 = .ok (.isub, 1) := by decide +kernel
theorem dX1_missedWith_27 : decode cX1_missedWith 27 = .ok (.invokestatic 47, 3) := by decide +kernel
theorem dX1_missedWith_30 : decode cX1_missedWith 30 = .ok (.istore 5, 2) := by decide +kernel
theorem dX1_missedWith_32 : decode cX1_missedWith 32 = .ok (.iload 4, 2) := by decide +kernel
theorem dX1_missedWith_34 : decode cX1_missedWith 34 = .ok (.ifCond .lt 26, 3) := by decide +kernel
theorem dX1_missedWith_37 : decode cX1_missedWith 37 = .ok (.iload 4, 2) := by decide +kernel
theorem dX1_missedWith_39 : decode cX1_missedWith 39 = .ok (.aload_n 0, 1) := by decide +kernel
theorem dX1_missedWith_40 : decode cX1_missedWith 40 = .ok (.getfield 9, 3) := by decide +kernel
theorem dX1_missedWith_43 : decode cX1_missedWith 43 = .ok (.arraylength, 1) := by decide +kernel
theorem dX1_missedWith_44 : decode cX1_missedWith 44 = .ok (.if_icmp .ge 16, 3) := by decide +kernel
theorem dX1_missedWith_47 : decode cX1_missedWith 47 = .ok (.iload 5, 2) := by decide +kernel
theorem dX1_missedWith_49 : decode cX1_missedWith 49 = .ok (.aload_n 0, 1) := by decide +kernel
theorem dX1_missedWith_50 : decode cX1_missedWith 50 = .ok (.getfield 9, 3) := by decide +kernel
theorem dX1_missedWith_53 : decode cX1_missedWith 53 = .ok (.iload 4, 2) := by decide +kernel
theorem dX1_missedWith_55 : decode cX1_missedWith 55 = .ok (.iaload, 1) := by decide +kernel
theorem dX1_missedWith_56 : decode cX1_missedWith 56 = .ok (.iadd, 1) := by decide +kernel
theorem dX1_missedWith_57 : decode cX1_missedWith 57 = .ok (.goto 5, 3) := by decide +kernel
theorem dX1_missedWith_60 : decode cX1_missedWith 60 = .ok (.iload 5, 2) := by decide +kernel
theorem dX1_missedWith_62 : decode cX1_missedWith 62 = .ok (.ireturn, 1) := by decide +kernel
theorem dX2_init_0 : decode cX2_init 0 = .ok (.aload_n 0, 1) := by decide +kernel
theorem dX2_init_1 : decode cX2_init 1 = .ok (.invokespecial 3, 3) := by decide +kernel
theorem dX2_init_4 : decode cX2_init 4 = .ok (.aload_n 0, 1) := by decide +kernel
theorem dX2_init_5 : decode cX2_init 5 = .ok (.sipush 288, 3) := by decide +kernel
theorem dX2_init_8 : decode cX2_init 8 = .ok (.newarray .int, 2) := by decide +kernel
theorem dX2_init_10 : decode cX2_init 10 = .ok (.putfield 9, 3) := by decide +kernel
theorem dX2_init_13 : decode cX2_init 13 = .ok (.aload_n 0, 1) := by decide +kernel
theorem dX2_init_14 : decode cX2_init 14 = .ok (.bipush 8, 2) := by decide +kernel
theorem dX2_init_16 : decode cX2_init 16 = .ok (.newarray .int, 2) := by decide +kernel
theorem dX2_init_18 : decode cX2_init 18 = .ok (.putfield 15, 3) := by decide +kernel
theorem dX2_init_21 : decode cX2_init 21 = .ok (.aload_n 0, 1) := by decide +kernel
theorem dX2_init_22 : decode cX2_init 22 = .ok (.bipush 8, 2) := by decide +kernel
theorem dX2_init_24 : decode cX2_init 24 = .ok (.newarray .int, 2) := by decide +kernel
theorem dX2_init_26 : decode cX2_init 26 = .ok (.putfield 18, 3) := by decide +kernel
theorem dX2_init_29 : decode cX2_init 29 = .ok (.return_, 1) := by decide +kernel
theorem dX2_fill_0 : decode cX2_fill 0 = .ok (.iconst 0, 1) := by decide +kernel
theorem dX2_fill_1 : decode cX2_fill 1 = .ok (.istore 4, 2) := by decide +kernel
theorem dX2_fill_3 : decode cX2_fill 3 = .ok (.iload 4, 2) := by decide +kernel
theorem dX2_fill_5 : decode cX2_fill 5 = .ok (.bipush 8, 2) := by decide +kernel
theorem dX2_fill_7 : decode cX2_fill 7 = .ok (.if_icmp .ge 53, 3) := by decide +kernel
theorem dX2_fill_10 : decode cX2_fill 10 = .ok (.aload_n 0, 1) := by decide +kernel
theorem dX2_fill_11 : decode cX2_fill 11 = .ok (.getfield 18, 3) := by decide +kernel
theorem dX2_fill_14 : decode cX2_fill 14 = .ok (.iload 4, 2) := by decide +kernel
theorem dX2_fill_16 : decode cX2_fill 16 = .ok (.aload_n 1, 1) := by decide +kernel
theorem dX2_fill_17 : decode cX2_fill 17 = .ok (.getfield 21, 3) := by decide +kernel
theorem dX2_fill_20 : decode cX2_fill 20 = .ok (.iload 4, 2) := by decide +kernel
theorem dX2_fill_22 : decode cX2_fill 22 = .ok (.invokevirtual 27, 3) := by decide +kernel
theorem dX2_fill_25 : decode cX2_fill 25 = .ok (.iastore, 1) := by decide +kernel
theorem dX2_fill_26 : decode cX2_fill 26 = .ok (.aload_n 0, 1) := by decide +kernel
theorem dX2_fill_27 : decode cX2_fill 27 = .ok (.getfield 15, 3) := by decide +kernel
theorem dX2_fill_30 : decode cX2_fill 30 = .ok (.iload 4, 2) := by decide +kernel
theorem dX2_fill_32 : decode cX2_fill 32 = .ok (.iload_n 2, 1) := by decide +kernel
theorem dX2_fill_33 : decode cX2_fill 33 = .ok (.iload 4, 2) := by decide +kernel
theorem dX2_fill_35 : decode cX2_fill 35 = .ok (.invokestatic 33, 3) := by decide +kernel
theorem dX2_fill_38 : decode cX2_fill 38 = .ok (.ifCond .eq 14, 3) := by decide +kernel
theorem dX2_fill_41 : decode cX2_fill 41 = .ok (.aload_n 0, 1) := by decide +kernel
theorem dX2_fill_42 : decode cX2_fill 42 = .ok (.aload_n 1, 1) := by decide +kernel
theorem dX2_fill_43 : decode cX2_fill 43 = .ok (.iload 4, 2) := by decide +kernel
theorem dX2_fill_45 : decode cX2_fill 45 = .ok (.iload_n 3, 1) := by decide +kernel
theorem dX2_fill_46 : decode cX2_fill 46 = .ok (.invokevirtual 37, 3) := by decide +kernel
theorem dX2_fill_49 : decode cX2_fill 49 = .ok (.goto 4, 3) := by decide +kernel
theorem dX2_fill_52 : decode cX2_fill 52 = .ok (.iconst 0, 1) := by decide +kernel
theorem dX2_fill_53 : decode cX2_fill 53 = .ok (.iastore, 1) := by decide +kernel
theorem dX2_fill_54 : decode cX2_fill 54 = .ok (.iinc 4 1, 3) := by decide +kernel
theorem dX2_fill_57 : decode cX2_fill 57 = .ok (.goto (-54), 3) := by decide +kernel
theorem dX2_fill_60 : decode cX2_fill 60 = .ok (.bipush 7, 2) := by decide +kernel
theorem dX2_fill_62 : decode cX2_fill 62 = .ok (.istore 4, 2) := by decide +kernel
theorem dX2_fill_64 : decode cX2_fill 64 = .ok (.iload 4, 2) := by decide +kernel
theorem dX2_fill_66 : decode cX2_fill 66 = .ok (.ifCond .lt 46, 3) := by decide +kernel
theorem dX2_fill_69 : decode cX2_fill 69 = .ok (.iconst 0, 1) := by decide +kernel
theorem dX2_fill_70 : decode cX2_fill 70 = .ok (.istore 5, 2) := by decide +kernel
theorem dX2_fill_72 : decode cX2_fill 72 = .ok (.iload 5, 2) := by decide +kernel
theorem dX2_fill_74 : decode cX2_fill 74 = .ok (.bipush 32, 2) := by decide +kernel
theorem dX2_fill_76 : decode cX2_fill 76 = .ok (.if_icmp .ge 30, 3) := by decide +kernel
theorem dX2_fill_79 : decode cX2_fill 79 = .ok (.aload_n 0, 1) := by decide +kernel
theorem dX2_fill_80 : decode cX2_fill 80 = .ok (.getfield 9, 3) := by decide +kernel
theorem dX2_fill_83 : decode cX2_fill 83 = .ok (.iload 4, 2) := by decide +kernel
theorem dX2_fill_85 : decode cX2_fill 85 = .ok (.bipush 32, 2) := by decide +kernel
theorem dX2_fill_87 : decode cX2_fill 87 = .ok (.imul, 1) := by decide +kernel
theorem dX2_fill_88 : decode cX2_fill 88 = .ok (.iload 5, 2) := by decide +kernel
theorem dX2_fill_90 : decode cX2_fill 90 = .ok (.iadd, 1) := by decide +kernel
theorem dX2_fill_91 : decode cX2_fill 91 = .ok (.aload_n 0, 1) := by decide +kernel
theorem dX2_fill_92 : decode cX2_fill 92 = .ok (.iload 4, 2) := by decide +kernel
theorem dX2_fill_94 : decode cX2_fill 94 = .ok (.iload 5, 2) := by decide +kernel
theorem dX2_fill_96 : decode cX2_fill 96 = .ok (.invokevirtual 41, 3) := by decide +kernel
theorem dX2_fill_99 : decode cX2_fill 99 = .ok (.iastore, 1) := by decide +kernel
theorem dX2_fill_100 : decode cX2_fill 100 = .ok (.iinc 5 1, 3) := by decide +kernel
theorem dX2_fill_103 : decode cX2_fill 103 = .ok (.goto (-31), 3) := by decide +kernel
theorem dX2_fill_106 : decode cX2_fill 106 = .ok (.iinc 4 (-1), 3) := by decide +kernel
theorem dX2_fill_109 : decode cX2_fill 109 = .ok (.goto (-45), 3) := by decide +kernel
theorem dX2_fill_112 : decode cX2_fill 112 = .ok (.return_, 1) := by decide +kernel
theorem dX2_stonesFor_0 : decode cX2_stonesFor 0 = .ok (.iconst 0, 1) := by decide +kernel
theorem dX2_stonesFor_1 : decode cX2_stonesFor 1 = .ok (.istore 4, 2) := by decide +kernel
theorem dX2_stonesFor_3 : decode cX2_stonesFor 3 = .ok (.iconst 0, 1) := by decide +kernel
theorem dX2_stonesFor_4 : decode cX2_stonesFor 4 = .ok (.istore 5, 2) := by decide +kernel
theorem dX2_stonesFor_6 : decode cX2_stonesFor 6 = .ok (.iload 5, 2) := by decide +kernel
theorem dX2_stonesFor_8 : decode cX2_stonesFor 8 = .ok (.iconst 5, 1) := by decide +kernel
theorem dX2_stonesFor_9 : decode cX2_stonesFor 9 = .ok (.if_icmp .ge 39, 3) := by decide +kernel
theorem dX2_stonesFor_12 : decode cX2_stonesFor 12 = .ok (.aload_n 1, 1) := by decide +kernel
theorem dX2_stonesFor_13 : decode cX2_stonesFor 13 = .ok (.iload 5, 2) := by decide +kernel
theorem dX2_stonesFor_15 : decode cX2_stonesFor 15 = .ok (.invokevirtual 45, 3) := by decide +kernel
theorem dX2_stonesFor_18 : decode cX2_stonesFor 18 = .ok (.ifCond .eq 24, 3) := by decide +kernel
theorem dX2_stonesFor_21 : decode cX2_stonesFor 21 = .ok (.aload_n 1, 1) := by decide +kernel
theorem dX2_stonesFor_22 : decode cX2_stonesFor 22 = .ok (.iload 5, 2) := by decide +kernel
theorem dX2_stonesFor_24 : decode cX2_stonesFor 24 = .ok (.iload_n 2, 1) := by decide +kernel
theorem dX2_stonesFor_25 : decode cX2_stonesFor 25 = .ok (.iconst 0, 1) := by decide +kernel
theorem dX2_stonesFor_26 : decode cX2_stonesFor 26 = .ok (.iload_n 3, 1) := by decide +kernel
theorem dX2_stonesFor_27 : decode cX2_stonesFor 27 = .ok (.invokevirtual 49, 3) := by decide +kernel
theorem dX2_stonesFor_30 : decode cX2_stonesFor 30 = .ok (.ifCond .eq 12, 3) := by decide +kernel
theorem dX2_stonesFor_33 : decode cX2_stonesFor 33 = .ok (.iload 4, 2) := by decide +kernel
theorem dX2_stonesFor_35 : decode cX2_stonesFor 35 = .ok (.iconst 1, 1) := by decide +kernel
theorem dX2_stonesFor_36 : decode cX2_stonesFor 36 = .ok (.iload 5, 2) := by decide +kernel
theorem dX2_stonesFor_38 : decode cX2_stonesFor 38 = .ok (.ishl, 1) := by decide +kernel
theorem dX2_stonesFor_39 : decode cX2_stonesFor 39 = .ok (.ior, 1) := by decide +kernel
theorem dX2_stonesFor_40 : decode cX2_stonesFor 40 = .ok (.istore 4, 2) := by decide +kernel
theorem dX2_stonesFor_42 : decode cX2_stonesFor 42 = .ok (.iinc 5 1, 3) := by decide +kernel
theorem dX2_stonesFor_45 : decode cX2_stonesFor 45 = .ok (.goto (-39), 3) := by decide +kernel
theorem dX2_stonesFor_48 : decode cX2_stonesFor 48 = .ok (.iload 4, 2) := by decide +kernel
theorem dX2_stonesFor_50 : decode cX2_stonesFor 50 = .ok (.ireturn, 1) := by decide +kernel
theorem dX2_bestFrom_0 : decode cX2_bestFrom 0 = .ok (.aload_n 0, 1) := by decide +kernel
theorem dX2_bestFrom_1 : decode cX2_bestFrom 1 = .ok (.iload_n 1, 1) := by decide +kernel
theorem dX2_bestFrom_2 : decode cX2_bestFrom 2 = .ok (.iload_n 2, 1) := by decide +kernel
theorem dX2_bestFrom_3 : decode cX2_bestFrom 3 = .ok (.invokevirtual 53, 3) := by decide +kernel
theorem dX2_bestFrom_6 : decode cX2_bestFrom 6 = .ok (.istore_n 3, 1) := by decide +kernel
theorem dX2_bestFrom_7 : decode cX2_bestFrom 7 = .ok (.iconst 0, 1) := by decide +kernel
theorem dX2_bestFrom_8 : decode cX2_bestFrom 8 = .ok (.istore 4, 2) := by decide +kernel
theorem dX2_bestFrom_10 : decode cX2_bestFrom 10 = .ok (.iload 4, 2) := by decide +kernel
theorem dX2_bestFrom_12 : decode cX2_bestFrom 12 = .ok (.iconst 5, 1) := by decide +kernel
theorem dX2_bestFrom_13 : decode cX2_bestFrom 13 = .ok (.if_icmp .ge 33, 3) := by decide +kernel
theorem dX2_bestFrom_16 : decode cX2_bestFrom 16 = .ok (.aload_n 0, 1) := by decide +kernel
theorem dX2_bestFrom_17 : decode cX2_bestFrom 17 = .ok (.iload_n 1, 1) := by decide +kernel
theorem dX2_bestFrom_18 : decode cX2_bestFrom 18 = .ok (.iload 4, 2) := by decide +kernel
theorem dX2_bestFrom_20 : decode cX2_bestFrom 20 = .ok (.iload_n 2, 1) := by decide +kernel
theorem dX2_bestFrom_21 : decode cX2_bestFrom 21 = .ok (.invokevirtual 56, 3) := by decide +kernel
theorem dX2_bestFrom_24 : decode cX2_bestFrom 24 = .ok (.ifCond .eq 16, 3) := by decide +kernel
theorem dX2_bestFrom_27 : decode cX2_bestFrom 27 = .ok (.iload_n 3, 1) := by decide +kernel
theorem dX2_bestFrom_28 : decode cX2_bestFrom 28 = .ok (.aload_n 0, 1) := by decide +kernel
theorem dX2_bestFrom_29 : decode cX2_bestFrom 29 = .ok (.iload_n 1, 1) := by decide +kernel
theorem dX2_bestFrom_30 : decode cX2_bestFrom 30 = .ok (.iload 4, 2) := by decide +kernel
theorem dX2_bestFrom_32 : decode cX2_bestFrom 32 = .ok (.iload_n 2, 1) := by decide +kernel
theorem dX2_bestFrom_33 : decode cX2_bestFrom 33 = .ok (.invokevirtual 60, 3) := by decide +kernel
theorem dX2_bestFrom_36 : decode cX2_bestFrom 36 = .ok (.invokestatic 64, 3) := by decide +kernel
theorem dX2_bestFrom_39 : decode cX2_bestFrom 39 = .ok (.istore_n 3, 1) := by decide +kernel
theorem dX2_bestFrom_40 : decode cX2_bestFrom 40 = .ok (.iinc 4 1, 3) := by decide +kernel
theorem dX2_bestFrom_43 : decode cX2_bestFrom 43 = .ok (.goto (-33), 3) := by decide +kernel
theorem dX2_bestFrom_46 : decode cX2_bestFrom 46 = .ok (.iload_n 3, 1) := by decide +kernel
theorem dX2_bestFrom_47 : decode cX2_bestFrom 47 = .ok (.ireturn, 1) := by decide +kernel
theorem dX2_isFree_0 : decode cX2_isFree 0 = .ok (.iload_n 1, 1) := by decide +kernel
theorem dX2_isFree_1 : decode cX2_isFree 1 = .ok (.iconst 0, 1) := by decide +kernel
theorem dX2_isFree_2 : decode cX2_isFree 2 = .ok (.bipush 7, 2) := by decide +kernel
theorem dX2_isFree_4 : decode cX2_isFree 4 = .ok (.invokestatic 69, 3) := by decide +kernel
theorem dX2_isFree_7 : decode cX2_isFree 7 = .ok (.ifCond .eq 24, 3) := by decide +kernel
theorem dX2_isFree_10 : decode cX2_isFree 10 = .ok (.aload_n 0, 1) := by decide +kernel
theorem dX2_isFree_11 : decode cX2_isFree 11 = .ok (.getfield 15, 3) := by decide +kernel
theorem dX2_isFree_14 : decode cX2_isFree 14 = .ok (.iload_n 1, 1) := by decide +kernel
theorem dX2_isFree_15 : decode cX2_isFree 15 = .ok (.iaload, 1) := by decide +kernel
theorem dX2_isFree_16 : decode cX2_isFree 16 = .ok (.iload_n 3, 1) := by decide +kernel
theorem dX2_isFree_17 : decode cX2_isFree 17 = .ok (.iconst (-1), 1) := by decide +kernel
theorem dX2_isFree_18 : decode cX2_isFree 18 = .ok (.ixor, 1) := by decide +kernel
theorem dX2_isFree_19 : decode cX2_isFree 19 = .ok (.iand, 1) := by decide +kernel
theorem dX2_isFree_20 : decode cX2_isFree 20 = .ok (.iload_n 2, 1) := by decide +kernel
theorem dX2_isFree_21 : decode cX2_isFree 21 = .ok (.invokestatic 33, 3) := by decide +kernel
theorem dX2_isFree_24 : decode cX2_isFree 24 = .ok (.ifCond .eq 7, 3) := by decide +kernel
theorem dX2_isFree_27 : decode cX2_isFree 27 = .ok (.iconst 1, 1) := by decide +kernel
theorem dX2_isFree_28 : decode cX2_isFree 28 = .ok (.goto 4, 3) := by decide +kernel
theorem dX2_isFree_31 : decode cX2_isFree 31 = .ok (.iconst 0, 1) := by decide +kernel
theorem dX2_isFree_32 : decode cX2_isFree 32 = .ok (.ireturn, 1) := by decide +kernel
theorem dX2_payWith_0 : decode cX2_payWith 0 = .ok (.iload_n 1, 1) := by decide +kernel
theorem dX2_payWith_1 : decode cX2_payWith 1 = .ok (.iconst 0, 1) := by decide +kernel
theorem dX2_payWith_2 : decode cX2_payWith 2 = .ok (.bipush 7, 2) := by decide +kernel
theorem dX2_payWith_4 : decode cX2_payWith 4 = .ok (.invokestatic 69, 3) := by decide +kernel
theorem dX2_payWith_7 : decode cX2_payWith 7 = .ok (.ifCond .ne 5, 3) := by decide +kernel
theorem dX2_payWith_10 : decode cX2_payWith 10 = .ok (.iconst 0, 1) := by decide +kernel
theorem dX2_payWith_11 : decode cX2_payWith 11 = .ok (.ireturn, 1) := by decide +kernel
theorem dX2_payWith_12 : decode cX2_payWith 12 = .ok (.aload_n 0, 1) := by decide +kernel
theorem dX2_payWith_13 : decode cX2_payWith 13 = .ok (.getfield 18, 3) := by decide +kernel
theorem dX2_payWith_16 : decode cX2_payWith 16 = .ok (.iload_n 1, 1) := by decide +kernel
theorem dX2_payWith_17 : decode cX2_payWith 17 = .ok (.iaload, 1) := by decide +kernel
theorem dX2_payWith_18 : decode cX2_payWith 18 = .ok (.aload_n 0, 1) := by decide +kernel
theorem dX2_payWith_19 : decode cX2_payWith 19 = .ok (.iload_n 1, 1) := by decide +kernel
theorem dX2_payWith_20 : decode cX2_payWith 20 = .ok (.iload_n 3, 1) := by decide +kernel
theorem dX2_payWith_21 : decode cX2_payWith 21 = .ok (.iconst 1, 1) := by decide +kernel
theorem dX2_payWith_22 : decode cX2_payWith 22 = .ok (.iload_n 2, 1) := by decide +kernel
theorem dX2_payWith_23 : decode cX2_payWith 23 = .ok (.ishl, 1) := by decide +kernel
theorem dX2_payWith_24 : decode cX2_payWith 24 = .ok (.ior, 1) := by decide +kernel
theorem dX2_payWith_25 : decode cX2_payWith 25 = .ok (.invokevirtual 53, 3) := by decide +kernel
theorem dX2_payWith_28 : decode cX2_payWith 28 = .ok (.iadd, 1) := by decide +kernel
theorem dX2_payWith_29 : decode cX2_payWith 29 = .ok (.ireturn, 1) := by decide +kernel
theorem dX2_payBehind_0 : decode cX2_payBehind 0 = .ok (.iload_n 1, 1) := by decide +kernel
theorem dX2_payBehind_1 : decode cX2_payBehind 1 = .ok (.iconst 1, 1) := by decide +kernel
theorem dX2_payBehind_2 : decode cX2_payBehind 2 = .ok (.iadd, 1) := by decide +kernel
theorem dX2_payBehind_3 : decode cX2_payBehind 3 = .ok (.bipush 32, 2) := by decide +kernel
theorem dX2_payBehind_5 : decode cX2_payBehind 5 = .ok (.imul, 1) := by decide +kernel
theorem dX2_payBehind_6 : decode cX2_payBehind 6 = .ok (.iload_n 2, 1) := by decide +kernel
theorem dX2_payBehind_7 : decode cX2_payBehind 7 = .ok (.iadd, 1) := by decide +kernel
theorem dX2_payBehind_8 : decode cX2_payBehind 8 = .ok (.istore_n 3, 1) := by decide +kernel
theorem dX2_payBehind_9 : decode cX2_payBehind 9 = .ok (.iload_n 3, 1) := by decide +kernel
theorem dX2_payBehind_10 : decode cX2_payBehind 10 = .ok (.ifCond .lt 21, 3) := by decide +kernel
theorem dX2_payBehind_13 : decode cX2_payBehind 13 = .ok (.iload_n 3, 1) := by decide +kernel
theorem dX2_payBehind_14 : decode cX2_payBehind 14 = .ok (.aload_n 0, 1) := by decide +kernel
theorem dX2_payBehind_15 : decode cX2_payBehind 15 = .ok (.getfield 9, 3) := by decide +kernel
theorem dX2_payBehind_18 : decode cX2_payBehind 18 = .ok (.arraylength, 1) := by decide +kernel
theorem dX2_payBehind_19 : decode cX2_payBehind 19 = .ok (.if_icmp .ge 12, 3) := by decide +kernel
theorem dX2_payBehind_22 : decode cX2_payBehind 22 = .ok (.aload_n 0, 1) := by decide +kernel
theorem dX2_payBehind_23 : decode cX2_payBehind 23 = .ok (.getfield 9, 3) := by decide +kernel
theorem dX2_payBehind_26 : decode cX2_payBehind 26 = .ok (.iload_n 3, 1) := by decide +kernel
theorem dX2_payBehind_27 : decode cX2_payBehind 27 = .ok (.iaload, 1) := by decide +kernel
theorem dX2_payBehind_28 : decode cX2_payBehind 28 = .ok (.goto 4, 3) := by decide +kernel
theorem dX2_payBehind_31 : decode cX2_payBehind 31 = .ok (.iconst 0, 1) := by decide +kernel
theorem dX2_payBehind_32 : decode cX2_payBehind 32 = .ok (.ireturn, 1) := by decide +kernel
theorem dX2_mostPay_0 : decode cX2_mostPay 0 = .ok (.aload_n 0, 1) := by decide +kernel
theorem dX2_mostPay_1 : decode cX2_mostPay 1 = .ok (.getfield 9, 3) := by decide +kernel
theorem dX2_mostPay_4 : decode cX2_mostPay 4 = .ok (.iconst 0, 1) := by decide +kernel
theorem dX2_mostPay_5 : decode cX2_mostPay 5 = .ok (.iaload, 1) := by decide +kernel
theorem dX2_mostPay_6 : decode cX2_mostPay 6 = .ok (.ireturn, 1) := by decide +kernel
theorem dX2_stoneFor_0 : decode cX2_stoneFor 0 = .ok (.iconst 0, 1) := by decide +kernel
theorem dX2_stoneFor_1 : decode cX2_stoneFor 1 = .ok (.istore_n 2, 1) := by decide +kernel
theorem dX2_stoneFor_2 : decode cX2_stoneFor 2 = .ok (.bipush (-6), 2) := by decide +kernel
theorem dX2_stoneFor_4 : decode cX2_stoneFor 4 = .ok (.istore_n 3, 1) := by decide +kernel
theorem dX2_stoneFor_5 : decode cX2_stoneFor 5 = .ok (.iconst 0, 1) := by decide +kernel
theorem dX2_stoneFor_6 : decode cX2_stoneFor 6 = .ok (.istore 4, 2) := by decide +kernel
theorem dX2_stoneFor_8 : decode cX2_stoneFor 8 = .ok (.iload 4, 2) := by decide +kernel
theorem dX2_stoneFor_10 : decode cX2_stoneFor 10 = .ok (.iload_n 1, 1) := by decide +kernel
theorem dX2_stoneFor_11 : decode cX2_stoneFor 11 = .ok (.if_icmp .gt 36, 3) := by decide +kernel
theorem dX2_stoneFor_14 : decode cX2_stoneFor 14 = .ok (.iload 4, 2) := by decide +kernel
theorem dX2_stoneFor_16 : decode cX2_stoneFor 16 = .ok (.bipush 8, 2) := by decide +kernel
theorem dX2_stoneFor_18 : decode cX2_stoneFor 18 = .ok (.if_icmp .ge 29, 3) := by decide +kernel
theorem dX2_stoneFor_21 : decode cX2_stoneFor 21 = .ok (.aload_n 0, 1) := by decide +kernel
theorem dX2_stoneFor_22 : decode cX2_stoneFor 22 = .ok (.iload 4, 2) := by decide +kernel
theorem dX2_stoneFor_24 : decode cX2_stoneFor 24 = .ok (.iload_n 2, 1) := by decide +kernel
theorem dX2_stoneFor_25 : decode cX2_stoneFor 25 = .ok (.invokevirtual 72, 3) := by decide +kernel
theorem dX2_stoneFor_28 : decode cX2_stoneFor 28 = .ok (.istore_n 3, 1) := by decide +kernel
theorem dX2_stoneFor_29 : decode cX2_stoneFor 29 = .ok (.iload_n 3, 1) := by decide +kernel
theorem dX2_stoneFor_30 : decode cX2_stoneFor 30 = .ok (.bipush (-6), 2) := by decide +kernel
theorem dX2_stoneFor_32 : decode cX2_stoneFor 32 = .ok (.if_icmp .eq 9, 3) := by decide +kernel
theorem dX2_stoneFor_35 : decode cX2_stoneFor 35 = .ok (.iload_n 2, 1) := by decide +kernel
theorem dX2_stoneFor_36 : decode cX2_stoneFor 36 = .ok (.iconst 1, 1) := by decide +kernel
theorem dX2_stoneFor_37 : decode cX2_stoneFor 37 = .ok (.iload_n 3, 1) := by decide +kernel
theorem dX2_stoneFor_38 : decode cX2_stoneFor 38 = .ok (.ishl, 1) := by decide +kernel
theorem dX2_stoneFor_39 : decode cX2_stoneFor 39 = .ok (.ior, 1) := by decide +kernel
theorem dX2_stoneFor_40 : decode cX2_stoneFor 40 = .ok (.istore_n 2, 1) := by decide +kernel
theorem dX2_stoneFor_41 : decode cX2_stoneFor 41 = .ok (.iinc 4 1, 3) := by decide +kernel
theorem dX2_stoneFor_44 : decode cX2_stoneFor 44 = .ok (.goto (-36), 3) := by decide +kernel
theorem dX2_stoneFor_47 : decode cX2_stoneFor 47 = .ok (.iload_n 3, 1) := by decide +kernel
theorem dX2_stoneFor_48 : decode cX2_stoneFor 48 = .ok (.ireturn, 1) := by decide +kernel
theorem dX2_firstBest_0 : decode cX2_firstBest 0 = .ok (.aload_n 0, 1) := by decide +kernel
theorem dX2_firstBest_1 : decode cX2_firstBest 1 = .ok (.iload_n 1, 1) := by decide +kernel
theorem dX2_firstBest_2 : decode cX2_firstBest 2 = .ok (.iload_n 2, 1) := by decide +kernel
theorem dX2_firstBest_3 : decode cX2_firstBest 3 = .ok (.invokevirtual 41, 3) := by decide +kernel
theorem dX2_firstBest_6 : decode cX2_firstBest 6 = .ok (.istore_n 3, 1) := by decide +kernel
theorem dX2_firstBest_7 : decode cX2_firstBest 7 = .ok (.iconst 0, 1) := by decide +kernel
theorem dX2_firstBest_8 : decode cX2_firstBest 8 = .ok (.istore 4, 2) := by decide +kernel
theorem dX2_firstBest_10 : decode cX2_firstBest 10 = .ok (.iload 4, 2) := by decide +kernel
theorem dX2_firstBest_12 : decode cX2_firstBest 12 = .ok (.iconst 5, 1) := by decide +kernel
theorem dX2_firstBest_13 : decode cX2_firstBest 13 = .ok (.if_icmp .ge 35, 3) := by decide +kernel
theorem dX2_firstBest_16 : decode cX2_firstBest 16 = .ok (.aload_n 0, 1) := by decide +kernel
theorem dX2_firstBest_17 : decode cX2_firstBest 17 = .ok (.iload_n 1, 1) := by decide +kernel
theorem dX2_firstBest_18 : decode cX2_firstBest 18 = .ok (.iload 4, 2) := by decide +kernel
theorem dX2_firstBest_20 : decode cX2_firstBest 20 = .ok (.iload_n 2, 1) := by decide +kernel
theorem dX2_firstBest_21 : decode cX2_firstBest 21 = .ok (.invokevirtual 56, 3) := by decide +kernel
theorem dX2_firstBest_24 : decode cX2_firstBest 24 = .ok (.ifCond .eq 18, 3) := by decide +kernel
theorem dX2_firstBest_27 : decode cX2_firstBest 27 = .ok (.aload_n 0, 1) := by decide +kernel
theorem dX2_firstBest_28 : decode cX2_firstBest 28 = .ok (.iload_n 1, 1) := by decide +kernel
theorem dX2_firstBest_29 : decode cX2_firstBest 29 = .ok (.iload 4, 2) := by decide +kernel
theorem dX2_firstBest_31 : decode cX2_firstBest 31 = .ok (.iload_n 2, 1) := by decide +kernel
theorem dX2_firstBest_32 : decode cX2_firstBest 32 = .ok (.invokevirtual 60, 3) := by decide +kernel
theorem dX2_firstBest_35 : decode cX2_firstBest 35 = .ok (.iload_n 3, 1) := by decide +kernel
theorem dX2_firstBest_36 : decode cX2_firstBest 36 = .ok (.if_icmp .ne 6, 3) := by decide +kernel
theorem dX2_firstBest_39 : decode cX2_firstBest 39 = .ok (.iload 4, 2) := by decide +kernel
theorem dX2_firstBest_41 : decode cX2_firstBest 41 = .ok (.ireturn, 1) := by decide +kernel
theorem dX2_firstBest_42 : decode cX2_firstBest 42 = .ok (.iinc 4 1, 3) := by decide +kernel
theorem dX2_firstBest_45 : decode cX2_firstBest 45 = .ok (.goto (-35), 3) := by decide +kernel
theorem dX2_firstBest_48 : decode cX2_firstBest 48 = .ok (.bipush (-6), 2) := by decide +kernel
theorem dX2_firstBest_50 : decode cX2_firstBest 50 = .ok (.ireturn, 1) := by decide +kernel
theorem dX3_init_0 : decode cX3_init 0 = .ok (.aload_n 0, 1) := by decide +kernel
theorem dX3_init_1 : decode cX3_init 1 = .ok (.invokespecial 3, 3) := by decide +kernel
theorem dX3_init_4 : decode cX3_init 4 = .ok (.aload_n 0, 1) := by decide +kernel
theorem dX3_init_5 : decode cX3_init 5 = .ok (.bipush 60, 2) := by decide +kernel
theorem dX3_init_7 : decode cX3_init 7 = .ok (.newarray .int, 2) := by decide +kernel
theorem dX3_init_9 : decode cX3_init 9 = .ok (.putfield 9, 3) := by decide +kernel
theorem dX3_init_12 : decode cX3_init 12 = .ok (.return_, 1) := by decide +kernel
theorem dX3_write_0 : decode cX3_write 0 = .ok (.aload_n 0, 1) := by decide +kernel
theorem dX3_write_1 : decode cX3_write 1 = .ok (.getfield 15, 3) := by decide +kernel
theorem dX3_write_4 : decode cX3_write 4 = .ok (.iconst 0, 1) := by decide +kernel
theorem dX3_write_5 : decode cX3_write 5 = .ok (.bipush 59, 2) := by decide +kernel
theorem dX3_write_7 : decode cX3_write 7 = .ok (.invokestatic 19, 3) := by decide +kernel
theorem dX3_write_10 : decode cX3_write 10 = .ok (.ifCond .ne 5, 3) := by decide +kernel
theorem dX3_write_13 : decode cX3_write 13 = .ok (.iconst 0, 1) := by decide +kernel
theorem dX3_write_14 : decode cX3_write 14 = .ok (.ireturn, 1) := by decide +kernel
theorem dX3_write_15 : decode cX3_write 15 = .ok (.aload_n 0, 1) := by decide +kernel
theorem dX3_write_16 : decode cX3_write 16 = .ok (.getfield 9, 3) := by decide +kernel
theorem dX3_write_19 : decode cX3_write 19 = .ok (.aload_n 0, 1) := by decide +kernel
theorem dX3_write_20 : decode cX3_write 20 = .ok (.getfield 15, 3) := by decide +kernel
theorem dX3_write_23 : decode cX3_write 23 = .ok (.iload_n 1, 1) := by decide +kernel
theorem dX3_write_24 : decode cX3_write 24 = .ok (.iastore, 1) := by decide +kernel
theorem dX3_write_25 : decode cX3_write 25 = .ok (.aload_n 0, 1) := by decide +kernel
theorem dX3_write_26 : decode cX3_write 26 = .ok (.dup, 1) := by decide +kernel
theorem dX3_write_27 : decode cX3_write 27 = .ok (.getfield 15, 3) := by decide +kernel
theorem dX3_write_30 : decode cX3_write 30 = .ok (.iconst 1, 1) := by decide +kernel
theorem dX3_write_31 : decode cX3_write 31 = .ok (.iadd, 1) := by decide +kernel
theorem dX3_write_32 : decode cX3_write 32 = .ok (.putfield 15, 3) := by decide +kernel
theorem dX3_write_35 : decode cX3_write 35 = .ok (.iconst 1, 1) := by decide +kernel
theorem dX3_write_36 : decode cX3_write 36 = .ok (.ireturn, 1) := by decide +kernel
theorem dX3_signAt_0 : decode cX3_signAt 0 = .ok (.iload_n 1, 1) := by decide +kernel
theorem dX3_signAt_1 : decode cX3_signAt 1 = .ok (.ifCond .lt 26, 3) := by decide +kernel
theorem dX3_signAt_4 : decode cX3_signAt 4 = .ok (.iload_n 1, 1) := by decide +kernel
theorem dX3_signAt_5 : decode cX3_signAt 5 = .ok (.aload_n 0, 1) := by decide +kernel
theorem dX3_signAt_6 : decode cX3_signAt 6 = .ok (.getfield 15, 3) := by decide +kernel
theorem dX3_signAt_9 : decode cX3_signAt 9 = .ok (.if_icmp .ge 18, 3) := by decide +kernel
theorem dX3_signAt_12 : decode cX3_signAt 12 = .ok (.iload_n 1, 1) := by decide +kernel
theorem dX3_signAt_13 : decode cX3_signAt 13 = .ok (.bipush 60, 2) := by decide +kernel
theorem dX3_signAt_15 : decode cX3_signAt 15 = .ok (.if_icmp .ge 12, 3) := by decide +kernel
theorem dX3_signAt_18 : decode cX3_signAt 18 = .ok (.aload_n 0, 1) := by decide +kernel
theorem dX3_signAt_19 : decode cX3_signAt 19 = .ok (.getfield 9, 3) := by decide +kernel
theorem dX3_signAt_22 : decode cX3_signAt 22 = .ok (.iload_n 1, 1) := by decide +kernel
theorem dX3_signAt_23 : decode cX3_signAt 23 = .ok (.iaload, 1) := by decide +kernel
theorem dX3_signAt_24 : decode cX3_signAt 24 = .ok (.goto 4, 3) := by decide +kernel
theorem dX3_signAt_27 : decode cX3_signAt 27 = .ok (.iconst 0, 1) := by decide +kernel
theorem dX3_signAt_28 : decode cX3_signAt 28 = .ok (.ireturn, 1) := by decide +kernel
theorem dX3_firstFault_0 : decode cX3_firstFault 0 = .ok (.iconst 0, 1) := by decide +kernel
theorem dX3_firstFault_1 : decode cX3_firstFault 1 = .ok (.istore_n 1, 1) := by decide +kernel
theorem dX3_firstFault_2 : decode cX3_firstFault 2 = .ok (.iload_n 1, 1) := by decide +kernel
theorem dX3_firstFault_3 : decode cX3_firstFault 3 = .ok (.aload_n 0, 1) := by decide +kernel
theorem dX3_firstFault_4 : decode cX3_firstFault 4 = .ok (.getfield 15, 3) := by decide +kernel
theorem dX3_firstFault_7 : decode cX3_firstFault 7 = .ok (.if_icmp .ge 113, 3) := by decide +kernel
theorem dX3_firstFault_10 : decode cX3_firstFault 10 = .ok (.aload_n 0, 1) := by decide +kernel
theorem dX3_firstFault_11 : decode cX3_firstFault 11 = .ok (.iload_n 1, 1) := by decide +kernel
theorem dX3_firstFault_12 : decode cX3_firstFault 12 = .ok (.invokevirtual 23, 3) := by decide +kernel
theorem dX3_firstFault_15 : decode cX3_firstFault 15 = .ok (.invokestatic 27, 3) := by decide +kernel
theorem dX3_firstFault_18 : decode cX3_firstFault 18 = .ok (.ifCond .ne 5, 3) := by decide +kernel
theorem dX3_firstFault_21 : decode cX3_firstFault 21 = .ok (.iload_n 1, 1) := by decide +kernel
theorem dX3_firstFault_22 : decode cX3_firstFault 22 = .ok (.ireturn, 1) := by decide +kernel
theorem dX3_firstFault_23 : decode cX3_firstFault 23 = .ok (.aload_n 0, 1) := by decide +kernel
theorem dX3_firstFault_24 : decode cX3_firstFault 24 = .ok (.iload_n 1, 1) := by decide +kernel
theorem dX3_firstFault_25 : decode cX3_firstFault 25 = .ok (.iconst 1, 1) := by decide +kernel
theorem dX3_firstFault_26 : decode cX3_firstFault 26 = .ok (.iadd, 1) := by decide +kernel
theorem dX3_firstFault_27 : decode cX3_firstFault 27 = .ok (.invokevirtual 23, 3) := by decide +kernel
theorem dX3_firstFault_30 : decode cX3_firstFault 30 = .ok (.istore_n 2, 1) := by decide +kernel
theorem dX3_firstFault_31 : decode cX3_firstFault 31 = .ok (.iload_n 2, 1) := by decide +kernel
theorem dX3_firstFault_32 : decode cX3_firstFault 32 = .ok (.invokestatic 31, 3) := by decide +kernel
theorem dX3_firstFault_35 : decode cX3_firstFault 35 = .ok (.ifCond .ne 27, 3) := by decide +kernel
theorem dX3_firstFault_38 : decode cX3_firstFault 38 = .ok (.iload_n 2, 1) := by decide +kernel
theorem dX3_firstFault_39 : decode cX3_firstFault 39 = .ok (.invokestatic 34, 3) := by decide +kernel
theorem dX3_firstFault_42 : decode cX3_firstFault 42 = .ok (.ifCond .ne 20, 3) := by decide +kernel
theorem dX3_firstFault_45 : decode cX3_firstFault 45 = .ok (.iload_n 2, 1) := by decide +kernel
theorem dX3_firstFault_46 : decode cX3_firstFault 46 = .ok (.invokestatic 37, 3) := by decide +kernel
theorem dX3_firstFault_49 : decode cX3_firstFault 49 = .ok (.ifCond .ne 13, 3) := by decide +kernel
theorem dX3_firstFault_52 : decode cX3_firstFault 52 = .ok (.iload_n 2, 1) := by decide +kernel
theorem dX3_firstFault_53 : decode cX3_firstFault 53 = .ok (.bipush 43, 2) := by decide +kernel
theorem dX3_firstFault_55 : decode cX3_firstFault 55 = .ok (.if_icmp .eq 7, 3) := by decide +kernel
theorem dX3_firstFault_58 : decode cX3_firstFault 58 = .ok (.iload_n 1, 1) := by decide +kernel
theorem dX3_firstFault_59 : decode cX3_firstFault 59 = .ok (.iconst 1, 1) := by decide +kernel
theorem dX3_firstFault_60 : decode cX3_firstFault 60 = .ok (.iadd, 1) := by decide +kernel
theorem dX3_firstFault_61 : decode cX3_firstFault 61 = .ok (.ireturn, 1) := by decide +kernel
theorem dX3_firstFault_62 : decode cX3_firstFault 62 = .ok (.aload_n 0, 1) := by decide +kernel
theorem dX3_firstFault_63 : decode cX3_firstFault 63 = .ok (.iload_n 1, 1) := by decide +kernel
theorem dX3_firstFault_64 : decode cX3_firstFault 64 = .ok (.iconst 2, 1) := by decide +kernel
theorem dX3_firstFault_65 : decode cX3_firstFault 65 = .ok (.iadd, 1) := by decide +kernel
theorem dX3_firstFault_66 : decode cX3_firstFault 66 = .ok (.invokevirtual 23, 3) := by decide +kernel
theorem dX3_firstFault_69 : decode cX3_firstFault 69 = .ok (.istore_n 3, 1) := by decide +kernel
theorem dX3_firstFault_70 : decode cX3_firstFault 70 = .ok (.iload_n 2, 1) := by decide +kernel
theorem dX3_firstFault_71 : decode cX3_firstFault 71 = .ok (.invokestatic 37, 3) := by decide +kernel
theorem dX3_firstFault_74 : decode cX3_firstFault 74 = .ok (.ifCond .eq 10, 3) := by decide +kernel
theorem dX3_firstFault_77 : decode cX3_firstFault 77 = .ok (.iload_n 3, 1) := by decide +kernel
theorem dX3_firstFault_78 : decode cX3_firstFault 78 = .ok (.invokestatic 34, 3) := by decide +kernel
theorem dX3_firstFault_81 : decode cX3_firstFault 81 = .ok (.ifCond .eq 16, 3) := by decide +kernel
theorem dX3_firstFault_84 : decode cX3_firstFault 84 = .ok (.iload_n 2, 1) := by decide +kernel
theorem dX3_firstFault_85 : decode cX3_firstFault 85 = .ok (.bipush 43, 2) := by decide +kernel
theorem dX3_firstFault_87 : decode cX3_firstFault 87 = .ok (.if_icmp .ne 14, 3) := by decide +kernel
theorem dX3_firstFault_90 : decode cX3_firstFault 90 = .ok (.iload_n 3, 1) := by decide +kernel
theorem dX3_firstFault_91 : decode cX3_firstFault 91 = .ok (.invokestatic 27, 3) := by decide +kernel
theorem dX3_firstFault_94 : decode cX3_firstFault 94 = .ok (.ifCond .ne 7, 3) := by decide +kernel
theorem dX3_firstFault_97 : decode cX3_firstFault 97 = .ok (.iload_n 1, 1) := by decide +kernel
theorem dX3_firstFault_98 : decode cX3_firstFault 98 = .ok (.iconst 2, 1) := by decide +kernel
theorem dX3_firstFault_99 : decode cX3_firstFault 99 = .ok (.iadd, 1) := by decide +kernel
theorem dX3_firstFault_100 : decode cX3_firstFault 100 = .ok (.ireturn, 1) := by decide +kernel
theorem dX3_firstFault_101 : decode cX3_firstFault 101 = .ok (.iload_n 1, 1) := by decide +kernel
theorem dX3_firstFault_102 : decode cX3_firstFault 102 = .ok (.aload_n 0, 1) := by decide +kernel
theorem dX3_firstFault_103 : decode cX3_firstFault 103 = .ok (.iload_n 1, 1) := by decide +kernel
theorem dX3_firstFault_104 : decode cX3_firstFault 104 = .ok (.invokevirtual 40, 3) := by decide +kernel
theorem dX3_firstFault_107 : decode cX3_firstFault 107 = .ok (.ifCond .eq 7, 3) := by decide +kernel
theorem dX3_firstFault_110 : decode cX3_firstFault 110 = .ok (.iconst 3, 1) := by decide +kernel
theorem dX3_firstFault_111 : decode cX3_firstFault 111 = .ok (.goto 4, 3) := by decide +kernel
theorem dX3_firstFault_114 : decode cX3_firstFault 114 = .ok (.iconst 2, 1) := by decide +kernel
theorem dX3_firstFault_115 : decode cX3_firstFault 115 = .ok (.iadd, 1) := by decide +kernel
theorem dX3_firstFault_116 : decode cX3_firstFault 116 = .ok (.istore_n 1, 1) := by decide +kernel
theorem dX3_firstFault_117 : decode cX3_firstFault 117 = .ok (.goto (-115), 3) := by decide +kernel
theorem dX3_firstFault_120 : decode cX3_firstFault 120 = .ok (.bipush (-6), 2) := by decide +kernel
theorem dX3_firstFault_122 : decode cX3_firstFault 122 = .ok (.ireturn, 1) := by decide +kernel
theorem dX3_hasThird_0 : decode cX3_hasThird 0 = .ok (.aload_n 0, 1) := by decide +kernel
theorem dX3_hasThird_1 : decode cX3_hasThird 1 = .ok (.iload_n 1, 1) := by decide +kernel
theorem dX3_hasThird_2 : decode cX3_hasThird 2 = .ok (.iconst 1, 1) := by decide +kernel
theorem dX3_hasThird_3 : decode cX3_hasThird 3 = .ok (.iadd, 1) := by decide +kernel
theorem dX3_hasThird_4 : decode cX3_hasThird 4 = .ok (.invokevirtual 23, 3) := by decide +kernel
theorem dX3_hasThird_7 : decode cX3_hasThird 7 = .ok (.istore_n 2, 1) := by decide +kernel
theorem dX3_hasThird_8 : decode cX3_hasThird 8 = .ok (.iload_n 2, 1) := by decide +kernel
theorem dX3_hasThird_9 : decode cX3_hasThird 9 = .ok (.invokestatic 37, 3) := by decide +kernel
theorem dX3_hasThird_12 : decode cX3_hasThird 12 = .ok (.ifCond .ne 9, 3) := by decide +kernel
theorem dX3_hasThird_15 : decode cX3_hasThird 15 = .ok (.iload_n 2, 1) := by decide +kernel
theorem dX3_hasThird_16 : decode cX3_hasThird 16 = .ok (.bipush 43, 2) := by decide +kernel
theorem dX3_hasThird_18 : decode cX3_hasThird 18 = .ok (.if_icmp .ne 7, 3) := by decide +kernel
theorem dX3_hasThird_21 : decode cX3_hasThird 21 = .ok (.iconst 1, 1) := by decide +kernel
theorem dX3_hasThird_22 : decode cX3_hasThird 22 = .ok (.goto 4, 3) := by decide +kernel
theorem dX3_hasThird_25 : decode cX3_hasThird 25 = .ok (.iconst 0, 1) := by decide +kernel
theorem dX3_hasThird_26 : decode cX3_hasThird 26 = .ok (.ireturn, 1) := by decide +kernel
theorem dX3_readAct_0 : decode cX3_readAct 0 = .ok (.aload_n 0, 1) := by decide +kernel
theorem dX3_readAct_1 : decode cX3_readAct 1 = .ok (.iload_n 1, 1) := by decide +kernel
theorem dX3_readAct_2 : decode cX3_readAct 2 = .ok (.invokevirtual 23, 3) := by decide +kernel
theorem dX3_readAct_5 : decode cX3_readAct 5 = .ok (.bipush 97, 2) := by decide +kernel
theorem dX3_readAct_7 : decode cX3_readAct 7 = .ok (.isub, 1) := by decide +kernel
theorem dX3_readAct_8 : decode cX3_readAct 8 = .ok (.istore_n 3, 1) := by decide +kernel
theorem dX3_readAct_9 : decode cX3_readAct 9 = .ok (.aload_n 0, 1) := by decide +kernel
theorem dX3_readAct_10 : decode cX3_readAct 10 = .ok (.iload_n 1, 1) := by decide +kernel
theorem dX3_readAct_11 : decode cX3_readAct 11 = .ok (.iconst 1, 1) := by decide +kernel
theorem dX3_readAct_12 : decode cX3_readAct 12 = .ok (.iadd, 1) := by decide +kernel
theorem dX3_readAct_13 : decode cX3_readAct 13 = .ok (.invokevirtual 23, 3) := by decide +kernel
theorem dX3_readAct_16 : decode cX3_readAct 16 = .ok (.istore 4, 2) := by decide +kernel
theorem dX3_readAct_18 : decode cX3_readAct 18 = .ok (.aload_n 0, 1) := by decide +kernel
theorem dX3_readAct_19 : decode cX3_readAct 19 = .ok (.iload_n 1, 1) := by decide +kernel
theorem dX3_readAct_20 : decode cX3_readAct 20 = .ok (.iconst 2, 1) := by decide +kernel
theorem dX3_readAct_21 : decode cX3_readAct 21 = .ok (.iadd, 1) := by decide +kernel
theorem dX3_readAct_22 : decode cX3_readAct 22 = .ok (.invokevirtual 23, 3) := by decide +kernel
theorem dX3_readAct_25 : decode cX3_readAct 25 = .ok (.istore 5, 2) := by decide +kernel
theorem dX3_readAct_27 : decode cX3_readAct 27 = .ok (.iload 4, 2) := by decide +kernel
theorem dX3_readAct_29 : decode cX3_readAct 29 = .ok (.invokestatic 31, 3) := by decide +kernel
theorem dX3_readAct_32 : decode cX3_readAct 32 = .ok (.ifCond .eq 17, 3) := by decide +kernel
theorem dX3_readAct_35 : decode cX3_readAct 35 = .ok (.aload_n 2, 1) := by decide +kernel
theorem dX3_readAct_36 : decode cX3_readAct 36 = .ok (.iload_n 3, 1) := by decide +kernel
theorem dX3_readAct_37 : decode cX3_readAct 37 = .ok (.iconst 0, 1) := by decide +kernel
theorem dX3_readAct_38 : decode cX3_readAct 38 = .ok (.iload 4, 2) := by decide +kernel
theorem dX3_readAct_40 : decode cX3_readAct 40 = .ok (.bipush 65, 2) := by decide +kernel
theorem dX3_readAct_42 : decode cX3_readAct 42 = .ok (.isub, 1) := by decide +kernel
theorem dX3_readAct_43 : decode cX3_readAct 43 = .ok (.invokevirtual 43, 3) := by decide +kernel
theorem dX3_readAct_46 : decode cX3_readAct 46 = .ok (.goto 89, 3) := by decide +kernel
theorem dX3_readAct_49 : decode cX3_readAct 49 = .ok (.iload 4, 2) := by decide +kernel
theorem dX3_readAct_51 : decode cX3_readAct 51 = .ok (.invokestatic 34, 3) := by decide +kernel
theorem dX3_readAct_54 : decode cX3_readAct 54 = .ok (.ifCond .eq 17, 3) := by decide +kernel
theorem dX3_readAct_57 : decode cX3_readAct 57 = .ok (.aload_n 2, 1) := by decide +kernel
theorem dX3_readAct_58 : decode cX3_readAct 58 = .ok (.iload_n 3, 1) := by decide +kernel
theorem dX3_readAct_59 : decode cX3_readAct 59 = .ok (.iconst 4, 1) := by decide +kernel
theorem dX3_readAct_60 : decode cX3_readAct 60 = .ok (.iload 4, 2) := by decide +kernel
theorem dX3_readAct_62 : decode cX3_readAct 62 = .ok (.bipush 48, 2) := by decide +kernel
theorem dX3_readAct_64 : decode cX3_readAct 64 = .ok (.isub, 1) := by decide +kernel
theorem dX3_readAct_65 : decode cX3_readAct 65 = .ok (.invokevirtual 43, 3) := by decide +kernel
theorem dX3_readAct_68 : decode cX3_readAct 68 = .ok (.goto 67, 3) := by decide +kernel
theorem dX3_readAct_71 : decode cX3_readAct 71 = .ok (.iload 4, 2) := by decide +kernel
theorem dX3_readAct_73 : decode cX3_readAct 73 = .ok (.bipush 43, 2) := by decide +kernel
theorem dX3_readAct_75 : decode cX3_readAct 75 = .ok (.if_icmp .ne 17, 3) := by decide +kernel
theorem dX3_readAct_78 : decode cX3_readAct 78 = .ok (.aload_n 2, 1) := by decide +kernel
theorem dX3_readAct_79 : decode cX3_readAct 79 = .ok (.iload_n 3, 1) := by decide +kernel
theorem dX3_readAct_80 : decode cX3_readAct 80 = .ok (.iconst 5, 1) := by decide +kernel
theorem dX3_readAct_81 : decode cX3_readAct 81 = .ok (.iload 5, 2) := by decide +kernel
theorem dX3_readAct_83 : decode cX3_readAct 83 = .ok (.bipush 97, 2) := by decide +kernel
theorem dX3_readAct_85 : decode cX3_readAct 85 = .ok (.isub, 1) := by decide +kernel
theorem dX3_readAct_86 : decode cX3_readAct 86 = .ok (.invokevirtual 43, 3) := by decide +kernel
theorem dX3_readAct_89 : decode cX3_readAct 89 = .ok (.goto 46, 3) := by decide +kernel
theorem dX3_readAct_92 : decode cX3_readAct 92 = .ok (.iload 4, 2) := by decide +kernel
theorem dX3_readAct_94 : decode cX3_readAct 94 = .ok (.bipush 119, 2) := by decide +kernel
theorem dX3_readAct_96 : decode cX3_readAct 96 = .ok (.if_icmp .ne 17, 3) := by decide +kernel
theorem dX3_readAct_99 : decode cX3_readAct 99 = .ok (.aload_n 2, 1) := by decide +kernel
theorem dX3_readAct_100 : decode cX3_readAct 100 = .ok (.iload_n 3, 1) := by decide +kernel
theorem dX3_readAct_101 : decode cX3_readAct 101 = .ok (.iconst 3, 1) := by decide +kernel
theorem dX3_readAct_102 : decode cX3_readAct 102 = .ok (.iload 5, 2) := by decide +kernel
theorem dX3_readAct_104 : decode cX3_readAct 104 = .ok (.bipush 48, 2) := by decide +kernel
theorem dX3_readAct_106 : decode cX3_readAct 106 = .ok (.isub, 1) := by decide +kernel
theorem dX3_readAct_107 : decode cX3_readAct 107 = .ok (.invokevirtual 43, 3) := by decide +kernel
theorem dX3_readAct_110 : decode cX3_readAct 110 = .ok (.goto 25, 3) := by decide +kernel
theorem dX3_readAct_113 : decode cX3_readAct 113 = .ok (.aload_n 2, 1) := by decide +kernel
theorem dX3_readAct_114 : decode cX3_readAct 114 = .ok (.iload_n 3, 1) := by decide +kernel
theorem dX3_readAct_115 : decode cX3_readAct 115 = .ok (.iload 4, 2) := by decide +kernel
theorem dX3_readAct_117 : decode cX3_readAct 117 = .ok (.bipush 111, 2) := by decide +kernel
theorem dX3_readAct_119 : decode cX3_readAct 119 = .ok (.if_icmp .ne 7, 3) := by decide +kernel
theorem dX3_readAct_122 : decode cX3_readAct 122 = .ok (.iconst 1, 1) := by decide +kernel
theorem dX3_readAct_123 : decode cX3_readAct 123 = .ok (.goto 4, 3) := by decide +kernel
theorem dX3_readAct_126 : decode cX3_readAct 126 = .ok (.iconst 2, 1) := by decide +kernel
theorem dX3_readAct_127 : decode cX3_readAct 127 = .ok (.iload 5, 2) := by decide +kernel
theorem dX3_readAct_129 : decode cX3_readAct 129 = .ok (.bipush 48, 2) := by decide +kernel
theorem dX3_readAct_131 : decode cX3_readAct 131 = .ok (.isub, 1) := by decide +kernel
theorem dX3_readAct_132 : decode cX3_readAct 132 = .ok (.invokevirtual 43, 3) := by decide +kernel
theorem dX3_readAct_135 : decode cX3_readAct 135 = .ok (.return_, 1) := by decide +kernel
theorem dX3_isStone_0 : decode cX3_isStone 0 = .ok (.iload_n 0, 1) := by decide +kernel
theorem dX3_isStone_1 : decode cX3_isStone 1 = .ok (.bipush 97, 2) := by decide +kernel
theorem dX3_isStone_3 : decode cX3_isStone 3 = .ok (.bipush 101, 2) := by decide +kernel
theorem dX3_isStone_5 : decode cX3_isStone 5 = .ok (.invokestatic 19, 3) := by decide +kernel
theorem dX3_isStone_8 : decode cX3_isStone 8 = .ok (.ireturn, 1) := by decide +kernel
theorem dX3_isPicture_0 : decode cX3_isPicture 0 = .ok (.iload_n 0, 1) := by decide +kernel
theorem dX3_isPicture_1 : decode cX3_isPicture 1 = .ok (.bipush 65, 2) := by decide +kernel
theorem dX3_isPicture_3 : decode cX3_isPicture 3 = .ok (.bipush 72, 2) := by decide +kernel
theorem dX3_isPicture_5 : decode cX3_isPicture 5 = .ok (.invokestatic 19, 3) := by decide +kernel
theorem dX3_isPicture_8 : decode cX3_isPicture 8 = .ok (.ireturn, 1) := by decide +kernel
theorem dX3_isDigit_0 : decode cX3_isDigit 0 = .ok (.iload_n 0, 1) := by decide +kernel
theorem dX3_isDigit_1 : decode cX3_isDigit 1 = .ok (.bipush 49, 2) := by decide +kernel
theorem dX3_isDigit_3 : decode cX3_isDigit 3 = .ok (.bipush 57, 2) := by decide +kernel
theorem dX3_isDigit_5 : decode cX3_isDigit 5 = .ok (.invokestatic 19, 3) := by decide +kernel
theorem dX3_isDigit_8 : decode cX3_isDigit 8 = .ok (.ireturn, 1) := by decide +kernel
theorem dX3_takesDigit_0 : decode cX3_takesDigit 0 = .ok (.iload_n 0, 1) := by decide +kernel
theorem dX3_takesDigit_1 : decode cX3_takesDigit 1 = .ok (.bipush 111, 2) := by decide +kernel
theorem dX3_takesDigit_3 : decode cX3_takesDigit 3 = .ok (.if_icmp .eq 15, 3) := by decide +kernel
theorem dX3_takesDigit_6 : decode cX3_takesDigit 6 = .ok (.iload_n 0, 1) := by decide +kernel
theorem dX3_takesDigit_7 : decode cX3_takesDigit 7 = .ok (.bipush 120, 2) := by decide +kernel
theorem dX3_takesDigit_9 : decode cX3_takesDigit 9 = .ok (.if_icmp .eq 9, 3) := by decide +kernel
theorem dX3_takesDigit_12 : decode cX3_takesDigit 12 = .ok (.iload_n 0, 1) := by decide +kernel
theorem dX3_takesDigit_13 : decode cX3_takesDigit 13 = .ok (.bipush 119, 2) := by decide +kernel
theorem dX3_takesDigit_15 : decode cX3_takesDigit 15 = .ok (.if_icmp .ne 7, 3) := by decide +kernel
theorem dX3_takesDigit_18 : decode cX3_takesDigit 18 = .ok (.iconst 1, 1) := by decide +kernel
theorem dX3_takesDigit_19 : decode cX3_takesDigit 19 = .ok (.goto 4, 3) := by decide +kernel
theorem dX3_takesDigit_22 : decode cX3_takesDigit 22 = .ok (.iconst 0, 1) := by decide +kernel
theorem dX3_takesDigit_23 : decode cX3_takesDigit 23 = .ok (.ireturn, 1) := by decide +kernel
theorem dX4_init_0 : decode cX4_init 0 = .ok (.aload_n 0, 1) := by decide +kernel
theorem dX4_init_1 : decode cX4_init 1 = .ok (.invokespecial 3, 3) := by decide +kernel
theorem dX4_init_4 : decode cX4_init 4 = .ok (.aload_n 0, 1) := by decide +kernel
theorem dX4_init_5 : decode cX4_init 5 = .ok (.new 9, 3) := by decide +kernel
theorem dX4_init_8 : decode cX4_init 8 = .ok (.dup, 1) := by decide +kernel
theorem dX4_init_9 : decode cX4_init 9 = .ok (.invokespecial 11, 3) := by decide +kernel
theorem dX4_init_12 : decode cX4_init 12 = .ok (.putfield 12, 3) := by decide +kernel
theorem dX4_init_15 : decode cX4_init 15 = .ok (.aload_n 0, 1) := by decide +kernel
theorem dX4_init_16 : decode cX4_init 16 = .ok (.new 18, 3) := by decide +kernel
theorem dX4_init_19 : decode cX4_init 19 = .ok (.dup, 1) := by decide +kernel
theorem dX4_init_20 : decode cX4_init 20 = .ok (.invokespecial 20, 3) := by decide +kernel
theorem dX4_init_23 : decode cX4_init 23 = .ok (.putfield 21, 3) := by decide +kernel
theorem dX4_init_26 : decode cX4_init 26 = .ok (.aload_n 0, 1) := by decide +kernel
theorem dX4_init_27 : decode cX4_init 27 = .ok (.new 25, 3) := by decide +kernel
theorem dX4_init_30 : decode cX4_init 30 = .ok (.dup, 1) := by decide +kernel
theorem dX4_init_31 : decode cX4_init 31 = .ok (.invokespecial 27, 3) := by decide +kernel
theorem dX4_init_34 : decode cX4_init 34 = .ok (.putfield 28, 3) := by decide +kernel
theorem dX4_init_37 : decode cX4_init 37 = .ok (.return_, 1) := by decide +kernel
theorem dX4_copyFrom_0 : decode cX4_copyFrom 0 = .ok (.aload_n 0, 1) := by decide +kernel
theorem dX4_copyFrom_1 : decode cX4_copyFrom 1 = .ok (.getfield 12, 3) := by decide +kernel
theorem dX4_copyFrom_4 : decode cX4_copyFrom 4 = .ok (.aload_n 1, 1) := by decide +kernel
theorem dX4_copyFrom_5 : decode cX4_copyFrom 5 = .ok (.getfield 12, 3) := by decide +kernel
theorem dX4_copyFrom_8 : decode cX4_copyFrom 8 = .ok (.invokevirtual 32, 3) := by decide +kernel
theorem dX4_copyFrom_11 : decode cX4_copyFrom 11 = .ok (.aload_n 0, 1) := by decide +kernel
theorem dX4_copyFrom_12 : decode cX4_copyFrom 12 = .ok (.getfield 21, 3) := by decide +kernel
theorem dX4_copyFrom_15 : decode cX4_copyFrom 15 = .ok (.aload_n 1, 1) := by decide +kernel
theorem dX4_copyFrom_16 : decode cX4_copyFrom 16 = .ok (.getfield 21, 3) := by decide +kernel
theorem dX4_copyFrom_19 : decode cX4_copyFrom 19 = .ok (.invokevirtual 36, 3) := by decide +kernel
theorem dX4_copyFrom_22 : decode cX4_copyFrom 22 = .ok (.aload_n 0, 1) := by decide +kernel
theorem dX4_copyFrom_23 : decode cX4_copyFrom 23 = .ok (.getfield 28, 3) := by decide +kernel
theorem dX4_copyFrom_26 : decode cX4_copyFrom 26 = .ok (.aload_n 1, 1) := by decide +kernel
theorem dX4_copyFrom_27 : decode cX4_copyFrom 27 = .ok (.getfield 28, 3) := by decide +kernel
theorem dX4_copyFrom_30 : decode cX4_copyFrom 30 = .ok (.invokevirtual 39, 3) := by decide +kernel
theorem dX4_copyFrom_33 : decode cX4_copyFrom 33 = .ok (.return_, 1) := by decide +kernel
theorem dX4_wouldLast_0 : decode cX4_wouldLast 0 = .ok (.iconst 0, 1) := by decide +kernel
theorem dX4_wouldLast_1 : decode cX4_wouldLast 1 = .ok (.aload_n 0, 1) := by decide +kernel
theorem dX4_wouldLast_2 : decode cX4_wouldLast 2 = .ok (.getfield 12, 3) := by decide +kernel
theorem dX4_wouldLast_5 : decode cX4_wouldLast 5 = .ok (.iload_n 1, 1) := by decide +kernel
theorem dX4_wouldLast_6 : decode cX4_wouldLast 6 = .ok (.iload_n 2, 1) := by decide +kernel
theorem dX4_wouldLast_7 : decode cX4_wouldLast 7 = .ok (.invokevirtual 42, 3) := by decide +kernel
theorem dX4_wouldLast_10 : decode cX4_wouldLast 10 = .ok (.iconst 3, 1) := by decide +kernel
theorem dX4_wouldLast_11 : decode cX4_wouldLast 11 = .ok (.iload_n 3, 1) := by decide +kernel
theorem dX4_wouldLast_12 : decode cX4_wouldLast 12 = .ok (.imul, 1) := by decide +kernel
theorem dX4_wouldLast_13 : decode cX4_wouldLast 13 = .ok (.isub, 1) := by decide +kernel
theorem dX4_wouldLast_14 : decode cX4_wouldLast 14 = .ok (.invokestatic 46, 3) := by decide +kernel
theorem dX4_wouldLast_17 : decode cX4_wouldLast 17 = .ok (.istore 5, 2) := by decide +kernel
theorem dX4_wouldLast_19 : decode cX4_wouldLast 19 = .ok (.aload_n 0, 1) := by decide +kernel
theorem dX4_wouldLast_20 : decode cX4_wouldLast 20 = .ok (.getfield 21, 3) := by decide +kernel
theorem dX4_wouldLast_23 : decode cX4_wouldLast 23 = .ok (.iload_n 2, 1) := by decide +kernel
theorem dX4_wouldLast_24 : decode cX4_wouldLast 24 = .ok (.invokevirtual 51, 3) := by decide +kernel
theorem dX4_wouldLast_27 : decode cX4_wouldLast 27 = .ok (.iload 5, 2) := by decide +kernel
theorem dX4_wouldLast_29 : decode cX4_wouldLast 29 = .ok (.aload_n 0, 1) := by decide +kernel
theorem dX4_wouldLast_30 : decode cX4_wouldLast 30 = .ok (.getfield 21, 3) := by decide +kernel
theorem dX4_wouldLast_33 : decode cX4_wouldLast 33 = .ok (.iload_n 2, 1) := by decide +kernel
theorem dX4_wouldLast_34 : decode cX4_wouldLast 34 = .ok (.invokevirtual 55, 3) := by decide +kernel
theorem dX4_wouldLast_37 : decode cX4_wouldLast 37 = .ok (.iconst 0, 1) := by decide +kernel
theorem dX4_wouldLast_38 : decode cX4_wouldLast 38 = .ok (.invokestatic 58, 3) := by decide +kernel
theorem dX4_wouldLast_41 : decode cX4_wouldLast 41 = .ok (.iload 4, 2) := by decide +kernel
theorem dX4_wouldLast_43 : decode cX4_wouldLast 43 = .ok (.if_icmp .lt 7, 3) := by decide +kernel
theorem dX4_wouldLast_46 : decode cX4_wouldLast 46 = .ok (.iconst 1, 1) := by decide +kernel
theorem dX4_wouldLast_47 : decode cX4_wouldLast 47 = .ok (.goto 4, 3) := by decide +kernel
theorem dX4_wouldLast_50 : decode cX4_wouldLast 50 = .ok (.iconst 0, 1) := by decide +kernel
theorem dX4_wouldLast_51 : decode cX4_wouldLast 51 = .ok (.ireturn, 1) := by decide +kernel
theorem dX4_takesOrders_0 : decode cX4_takesOrders 0 = .ok (.aload_n 0, 1) := by decide +kernel
theorem dX4_takesOrders_1 : decode cX4_takesOrders 1 = .ok (.getfield 12, 3) := by decide +kernel
theorem dX4_takesOrders_4 : decode cX4_takesOrders 4 = .ok (.iload_n 1, 1) := by decide +kernel
theorem dX4_takesOrders_5 : decode cX4_takesOrders 5 = .ok (.invokevirtual 62, 3) := by decide +kernel
theorem dX4_takesOrders_8 : decode cX4_takesOrders 8 = .ok (.ifCond .eq 45, 3) := by decide +kernel
theorem dX4_takesOrders_11 : decode cX4_takesOrders 11 = .ok (.aload_n 0, 1) := by decide +kernel
theorem dX4_takesOrders_12 : decode cX4_takesOrders 12 = .ok (.getfield 12, 3) := by decide +kernel
theorem dX4_takesOrders_15 : decode cX4_takesOrders 15 = .ok (.getfield 66, 3) := by decide +kernel
theorem dX4_takesOrders_18 : decode cX4_takesOrders 18 = .ok (.iload_n 1, 1) := by decide +kernel
theorem dX4_takesOrders_19 : decode cX4_takesOrders 19 = .ok (.iaload, 1) := by decide +kernel
theorem dX4_takesOrders_20 : decode cX4_takesOrders 20 = .ok (.aload_n 0, 1) := by decide +kernel
theorem dX4_takesOrders_21 : decode cX4_takesOrders 21 = .ok (.getfield 21, 3) := by decide +kernel
theorem dX4_takesOrders_24 : decode cX4_takesOrders 24 = .ok (.getfield 70, 3) := by decide +kernel
theorem dX4_takesOrders_27 : decode cX4_takesOrders 27 = .ok (.if_icmp .gt 26, 3) := by decide +kernel
theorem dX4_takesOrders_30 : decode cX4_takesOrders 30 = .ok (.aload_n 0, 1) := by decide +kernel
theorem dX4_takesOrders_31 : decode cX4_takesOrders 31 = .ok (.getfield 12, 3) := by decide +kernel
theorem dX4_takesOrders_34 : decode cX4_takesOrders 34 = .ok (.getfield 74, 3) := by decide +kernel
theorem dX4_takesOrders_37 : decode cX4_takesOrders 37 = .ok (.iload_n 1, 1) := by decide +kernel
theorem dX4_takesOrders_38 : decode cX4_takesOrders 38 = .ok (.iaload, 1) := by decide +kernel
theorem dX4_takesOrders_39 : decode cX4_takesOrders 39 = .ok (.aload_n 0, 1) := by decide +kernel
theorem dX4_takesOrders_40 : decode cX4_takesOrders 40 = .ok (.getfield 21, 3) := by decide +kernel
theorem dX4_takesOrders_43 : decode cX4_takesOrders 43 = .ok (.getfield 77, 3) := by decide +kernel
theorem dX4_takesOrders_46 : decode cX4_takesOrders 46 = .ok (.if_icmp .lt 7, 3) := by decide +kernel
theorem dX4_takesOrders_49 : decode cX4_takesOrders 49 = .ok (.iconst 1, 1) := by decide +kernel
theorem dX4_takesOrders_50 : decode cX4_takesOrders 50 = .ok (.goto 4, 3) := by decide +kernel
theorem dX4_takesOrders_53 : decode cX4_takesOrders 53 = .ok (.iconst 0, 1) := by decide +kernel
theorem dX4_takesOrders_54 : decode cX4_takesOrders 54 = .ok (.ireturn, 1) := by decide +kernel
theorem dX4_countTwos_0 : decode cX4_countTwos 0 = .ok (.iconst 0, 1) := by decide +kernel
theorem dX4_countTwos_1 : decode cX4_countTwos 1 = .ok (.aload_n 0, 1) := by decide +kernel
theorem dX4_countTwos_2 : decode cX4_countTwos 2 = .ok (.iload_n 1, 1) := by decide +kernel
theorem dX4_countTwos_3 : decode cX4_countTwos 3 = .ok (.invokevirtual 80, 3) := by decide +kernel
theorem dX4_countTwos_6 : decode cX4_countTwos 6 = .ok (.aload_n 0, 1) := by decide +kernel
theorem dX4_countTwos_7 : decode cX4_countTwos 7 = .ok (.iload_n 1, 1) := by decide +kernel
theorem dX4_countTwos_8 : decode cX4_countTwos 8 = .ok (.invokevirtual 83, 3) := by decide +kernel
theorem dX4_countTwos_11 : decode cX4_countTwos 11 = .ok (.isub, 1) := by decide +kernel
theorem dX4_countTwos_12 : decode cX4_countTwos 12 = .ok (.iconst 1, 1) := by decide +kernel
theorem dX4_countTwos_13 : decode cX4_countTwos 13 = .ok (.iadd, 1) := by decide +kernel
theorem dX4_countTwos_14 : decode cX4_countTwos 14 = .ok (.invokestatic 46, 3) := by decide +kernel
theorem dX4_countTwos_17 : decode cX4_countTwos 17 = .ok (.ireturn, 1) := by decide +kernel
theorem dX4_fewestMinutes_0 : decode cX4_fewestMinutes 0 = .ok (.iconst 1, 1) := by decide +kernel
theorem dX4_fewestMinutes_1 : decode cX4_fewestMinutes 1 = .ok (.istore_n 2, 1) := by decide +kernel
theorem dX4_fewestMinutes_2 : decode cX4_fewestMinutes 2 = .ok (.iconst 0, 1) := by decide +kernel
theorem dX4_fewestMinutes_3 : decode cX4_fewestMinutes 3 = .ok (.istore_n 3, 1) := by decide +kernel
theorem dX4_fewestMinutes_4 : decode cX4_fewestMinutes 4 = .ok (.iload_n 3, 1) := by decide +kernel
theorem dX4_fewestMinutes_5 : decode cX4_fewestMinutes 5 = .ok (.aload_n 0, 1) := by decide +kernel
theorem dX4_fewestMinutes_6 : decode cX4_fewestMinutes 6 = .ok (.getfield 28, 3) := by decide +kernel
theorem dX4_fewestMinutes_9 : decode cX4_fewestMinutes 9 = .ok (.getfield 86, 3) := by decide +kernel
theorem dX4_fewestMinutes_12 : decode cX4_fewestMinutes 12 = .ok (.if_icmp .ge 66, 3) := by decide +kernel
theorem dX4_fewestMinutes_15 : decode cX4_fewestMinutes 15 = .ok (.iload_n 3, 1) := by decide +kernel
theorem dX4_fewestMinutes_16 : decode cX4_fewestMinutes 16 = .ok (.bipush 8, 2) := by decide +kernel
theorem dX4_fewestMinutes_18 : decode cX4_fewestMinutes 18 = .ok (.if_icmp .ge 60, 3) := by decide +kernel
theorem dX4_fewestMinutes_21 : decode cX4_fewestMinutes 21 = .ok (.aload_n 0, 1) := by decide +kernel
theorem dX4_fewestMinutes_22 : decode cX4_fewestMinutes 22 = .ok (.getfield 28, 3) := by decide +kernel
theorem dX4_fewestMinutes_25 : decode cX4_fewestMinutes 25 = .ok (.getfield 89, 3) := by decide +kernel
theorem dX4_fewestMinutes_28 : decode cX4_fewestMinutes 28 = .ok (.iload_n 3, 1) := by decide +kernel
theorem dX4_fewestMinutes_29 : decode cX4_fewestMinutes 29 = .ok (.invokestatic 92, 3) := by decide +kernel
theorem dX4_fewestMinutes_32 : decode cX4_fewestMinutes 32 = .ok (.ifCond .ne 40, 3) := by decide +kernel
theorem dX4_fewestMinutes_35 : decode cX4_fewestMinutes 35 = .ok (.aload_n 0, 1) := by decide +kernel
theorem dX4_fewestMinutes_36 : decode cX4_fewestMinutes 36 = .ok (.getfield 21, 3) := by decide +kernel
theorem dX4_fewestMinutes_39 : decode cX4_fewestMinutes 39 = .ok (.iload_n 1, 1) := by decide +kernel
theorem dX4_fewestMinutes_40 : decode cX4_fewestMinutes 40 = .ok (.aload_n 0, 1) := by decide +kernel
theorem dX4_fewestMinutes_41 : decode cX4_fewestMinutes 41 = .ok (.getfield 28, 3) := by decide +kernel
theorem dX4_fewestMinutes_44 : decode cX4_fewestMinutes 44 = .ok (.getfield 96, 3) := by decide +kernel
theorem dX4_fewestMinutes_47 : decode cX4_fewestMinutes 47 = .ok (.iload_n 3, 1) := by decide +kernel
theorem dX4_fewestMinutes_48 : decode cX4_fewestMinutes 48 = .ok (.iaload, 1) := by decide +kernel
theorem dX4_fewestMinutes_49 : decode cX4_fewestMinutes 49 = .ok (.aload_n 0, 1) := by decide +kernel
theorem dX4_fewestMinutes_50 : decode cX4_fewestMinutes 50 = .ok (.getfield 28, 3) := by decide +kernel
theorem dX4_fewestMinutes_53 : decode cX4_fewestMinutes 53 = .ok (.getfield 99, 3) := by decide +kernel
theorem dX4_fewestMinutes_56 : decode cX4_fewestMinutes 56 = .ok (.iload_n 3, 1) := by decide +kernel
theorem dX4_fewestMinutes_57 : decode cX4_fewestMinutes 57 = .ok (.iaload, 1) := by decide +kernel
theorem dX4_fewestMinutes_58 : decode cX4_fewestMinutes 58 = .ok (.invokevirtual 102, 3) := by decide +kernel
theorem dX4_fewestMinutes_61 : decode cX4_fewestMinutes 61 = .ok (.istore 4, 2) := by decide +kernel
theorem dX4_fewestMinutes_63 : decode cX4_fewestMinutes 63 = .ok (.iload_n 2, 1) := by decide +kernel
theorem dX4_fewestMinutes_64 : decode cX4_fewestMinutes 64 = .ok (.iload 4, 2) := by decide +kernel
theorem dX4_fewestMinutes_66 : decode cX4_fewestMinutes 66 = .ok (.iconst 1, 1) := by decide +kernel
theorem dX4_fewestMinutes_67 : decode cX4_fewestMinutes 67 = .ok (.iadd, 1) := by decide +kernel
theorem dX4_fewestMinutes_68 : decode cX4_fewestMinutes 68 = .ok (.invokestatic 46, 3) := by decide +kernel
theorem dX4_fewestMinutes_71 : decode cX4_fewestMinutes 71 = .ok (.istore_n 2, 1) := by decide +kernel
theorem dX4_fewestMinutes_72 : decode cX4_fewestMinutes 72 = .ok (.iinc 3 1, 3) := by decide +kernel
theorem dX4_fewestMinutes_75 : decode cX4_fewestMinutes 75 = .ok (.goto (-71), 3) := by decide +kernel
theorem dX4_fewestMinutes_78 : decode cX4_fewestMinutes 78 = .ok (.iload_n 2, 1) := by decide +kernel
theorem dX4_fewestMinutes_79 : decode cX4_fewestMinutes 79 = .ok (.ireturn, 1) := by decide +kernel
theorem dX4_mostMinutes_0 : decode cX4_mostMinutes 0 = .ok (.bipush 20, 2) := by decide +kernel
theorem dX4_mostMinutes_2 : decode cX4_mostMinutes 2 = .ok (.istore_n 2, 1) := by decide +kernel
theorem dX4_mostMinutes_3 : decode cX4_mostMinutes 3 = .ok (.iconst 0, 1) := by decide +kernel
theorem dX4_mostMinutes_4 : decode cX4_mostMinutes 4 = .ok (.istore_n 3, 1) := by decide +kernel
theorem dX4_mostMinutes_5 : decode cX4_mostMinutes 5 = .ok (.iload_n 3, 1) := by decide +kernel
theorem dX4_mostMinutes_6 : decode cX4_mostMinutes 6 = .ok (.aload_n 0, 1) := by decide +kernel
theorem dX4_mostMinutes_7 : decode cX4_mostMinutes 7 = .ok (.getfield 28, 3) := by decide +kernel
theorem dX4_mostMinutes_10 : decode cX4_mostMinutes 10 = .ok (.getfield 86, 3) := by decide +kernel
theorem dX4_mostMinutes_13 : decode cX4_mostMinutes 13 = .ok (.if_icmp .ge 64, 3) := by decide +kernel
theorem dX4_mostMinutes_16 : decode cX4_mostMinutes 16 = .ok (.iload_n 3, 1) := by decide +kernel
theorem dX4_mostMinutes_17 : decode cX4_mostMinutes 17 = .ok (.bipush 8, 2) := by decide +kernel
theorem dX4_mostMinutes_19 : decode cX4_mostMinutes 19 = .ok (.if_icmp .ge 58, 3) := by decide +kernel
theorem dX4_mostMinutes_22 : decode cX4_mostMinutes 22 = .ok (.aload_n 0, 1) := by decide +kernel
theorem dX4_mostMinutes_23 : decode cX4_mostMinutes 23 = .ok (.getfield 28, 3) := by decide +kernel
theorem dX4_mostMinutes_26 : decode cX4_mostMinutes 26 = .ok (.getfield 89, 3) := by decide +kernel
theorem dX4_mostMinutes_29 : decode cX4_mostMinutes 29 = .ok (.iload_n 3, 1) := by decide +kernel
theorem dX4_mostMinutes_30 : decode cX4_mostMinutes 30 = .ok (.invokestatic 92, 3) := by decide +kernel
theorem dX4_mostMinutes_33 : decode cX4_mostMinutes 33 = .ok (.ifCond .eq 38, 3) := by decide +kernel
theorem dX4_mostMinutes_36 : decode cX4_mostMinutes 36 = .ok (.aload_n 0, 1) := by decide +kernel
theorem dX4_mostMinutes_37 : decode cX4_mostMinutes 37 = .ok (.getfield 21, 3) := by decide +kernel
theorem dX4_mostMinutes_40 : decode cX4_mostMinutes 40 = .ok (.iload_n 1, 1) := by decide +kernel
theorem dX4_mostMinutes_41 : decode cX4_mostMinutes 41 = .ok (.aload_n 0, 1) := by decide +kernel
theorem dX4_mostMinutes_42 : decode cX4_mostMinutes 42 = .ok (.getfield 28, 3) := by decide +kernel
theorem dX4_mostMinutes_45 : decode cX4_mostMinutes 45 = .ok (.getfield 96, 3) := by decide +kernel
theorem dX4_mostMinutes_48 : decode cX4_mostMinutes 48 = .ok (.iload_n 3, 1) := by decide +kernel
theorem dX4_mostMinutes_49 : decode cX4_mostMinutes 49 = .ok (.iaload, 1) := by decide +kernel
theorem dX4_mostMinutes_50 : decode cX4_mostMinutes 50 = .ok (.aload_n 0, 1) := by decide +kernel
theorem dX4_mostMinutes_51 : decode cX4_mostMinutes 51 = .ok (.getfield 28, 3) := by decide +kernel
theorem dX4_mostMinutes_54 : decode cX4_mostMinutes 54 = .ok (.getfield 99, 3) := by decide +kernel
theorem dX4_mostMinutes_57 : decode cX4_mostMinutes 57 = .ok (.iload_n 3, 1) := by decide +kernel
theorem dX4_mostMinutes_58 : decode cX4_mostMinutes 58 = .ok (.iaload, 1) := by decide +kernel
theorem dX4_mostMinutes_59 : decode cX4_mostMinutes 59 = .ok (.invokevirtual 102, 3) := by decide +kernel
theorem dX4_mostMinutes_62 : decode cX4_mostMinutes 62 = .ok (.istore 4, 2) := by decide +kernel
theorem dX4_mostMinutes_64 : decode cX4_mostMinutes 64 = .ok (.iload_n 2, 1) := by decide +kernel
theorem dX4_mostMinutes_65 : decode cX4_mostMinutes 65 = .ok (.iload 4, 2) := by decide +kernel
theorem dX4_mostMinutes_67 : decode cX4_mostMinutes 67 = .ok (.invokestatic 106, 3) := by decide +kernel
theorem dX4_mostMinutes_70 : decode cX4_mostMinutes 70 = .ok (.istore_n 2, 1) := by decide +kernel
theorem dX4_mostMinutes_71 : decode cX4_mostMinutes 71 = .ok (.iinc 3 1, 3) := by decide +kernel
theorem dX4_mostMinutes_74 : decode cX4_mostMinutes 74 = .ok (.goto (-69), 3) := by decide +kernel
theorem dX4_mostMinutes_77 : decode cX4_mostMinutes 77 = .ok (.iload_n 2, 1) := by decide +kernel
theorem dX4_mostMinutes_78 : decode cX4_mostMinutes 78 = .ok (.ireturn, 1) := by decide +kernel
theorem dX4_mostLeft_0 : decode cX4_mostLeft 0 = .ok (.iconst 0, 1) := by decide +kernel
theorem dX4_mostLeft_1 : decode cX4_mostLeft 1 = .ok (.istore_n 3, 1) := by decide +kernel
theorem dX4_mostLeft_2 : decode cX4_mostLeft 2 = .ok (.iconst 0, 1) := by decide +kernel
theorem dX4_mostLeft_3 : decode cX4_mostLeft 3 = .ok (.istore 4, 2) := by decide +kernel
theorem dX4_mostLeft_5 : decode cX4_mostLeft 5 = .ok (.iconst 0, 1) := by decide +kernel
theorem dX4_mostLeft_6 : decode cX4_mostLeft 6 = .ok (.istore 5, 2) := by decide +kernel
theorem dX4_mostLeft_8 : decode cX4_mostLeft 8 = .ok (.iload 5, 2) := by decide +kernel
theorem dX4_mostLeft_10 : decode cX4_mostLeft 10 = .ok (.bipush 8, 2) := by decide +kernel
theorem dX4_mostLeft_12 : decode cX4_mostLeft 12 = .ok (.if_icmp .ge 60, 3) := by decide +kernel
theorem dX4_mostLeft_15 : decode cX4_mostLeft 15 = .ok (.aload_n 0, 1) := by decide +kernel
theorem dX4_mostLeft_16 : decode cX4_mostLeft 16 = .ok (.iload 5, 2) := by decide +kernel
theorem dX4_mostLeft_18 : decode cX4_mostLeft 18 = .ok (.invokevirtual 80, 3) := by decide +kernel
theorem dX4_mostLeft_21 : decode cX4_mostLeft 21 = .ok (.aload_n 0, 1) := by decide +kernel
theorem dX4_mostLeft_22 : decode cX4_mostLeft 22 = .ok (.getfield 21, 3) := by decide +kernel
theorem dX4_mostLeft_25 : decode cX4_mostLeft 25 = .ok (.iload 5, 2) := by decide +kernel
theorem dX4_mostLeft_27 : decode cX4_mostLeft 27 = .ok (.iload_n 1, 1) := by decide +kernel
theorem dX4_mostLeft_28 : decode cX4_mostLeft 28 = .ok (.iload_n 2, 1) := by decide +kernel
theorem dX4_mostLeft_29 : decode cX4_mostLeft 29 = .ok (.invokevirtual 102, 3) := by decide +kernel
theorem dX4_mostLeft_32 : decode cX4_mostLeft 32 = .ok (.invokestatic 106, 3) := by decide +kernel
theorem dX4_mostLeft_35 : decode cX4_mostLeft 35 = .ok (.istore 6, 2) := by decide +kernel
theorem dX4_mostLeft_37 : decode cX4_mostLeft 37 = .ok (.iload_n 3, 1) := by decide +kernel
theorem dX4_mostLeft_38 : decode cX4_mostLeft 38 = .ok (.aload_n 0, 1) := by decide +kernel
theorem dX4_mostLeft_39 : decode cX4_mostLeft 39 = .ok (.iload 5, 2) := by decide +kernel
theorem dX4_mostLeft_41 : decode cX4_mostLeft 41 = .ok (.invokevirtual 109, 3) := by decide +kernel
theorem dX4_mostLeft_44 : decode cX4_mostLeft 44 = .ok (.iadd, 1) := by decide +kernel
theorem dX4_mostLeft_45 : decode cX4_mostLeft 45 = .ok (.istore_n 3, 1) := by decide +kernel
theorem dX4_mostLeft_46 : decode cX4_mostLeft 46 = .ok (.iload 4, 2) := by decide +kernel
theorem dX4_mostLeft_48 : decode cX4_mostLeft 48 = .ok (.iconst 0, 1) := by decide +kernel
theorem dX4_mostLeft_49 : decode cX4_mostLeft 49 = .ok (.iload 6, 2) := by decide +kernel
theorem dX4_mostLeft_51 : decode cX4_mostLeft 51 = .ok (.aload_n 0, 1) := by decide +kernel
theorem dX4_mostLeft_52 : decode cX4_mostLeft 52 = .ok (.iload 5, 2) := by decide +kernel
theorem dX4_mostLeft_54 : decode cX4_mostLeft 54 = .ok (.invokevirtual 83, 3) := by decide +kernel
theorem dX4_mostLeft_57 : decode cX4_mostLeft 57 = .ok (.isub, 1) := by decide +kernel
theorem dX4_mostLeft_58 : decode cX4_mostLeft 58 = .ok (.iconst 1, 1) := by decide +kernel
theorem dX4_mostLeft_59 : decode cX4_mostLeft 59 = .ok (.iadd, 1) := by decide +kernel
theorem dX4_mostLeft_60 : decode cX4_mostLeft 60 = .ok (.invokestatic 46, 3) := by decide +kernel
theorem dX4_mostLeft_63 : decode cX4_mostLeft 63 = .ok (.iadd, 1) := by decide +kernel
theorem dX4_mostLeft_64 : decode cX4_mostLeft 64 = .ok (.istore 4, 2) := by decide +kernel
theorem dX4_mostLeft_66 : decode cX4_mostLeft 66 = .ok (.iinc 5 1, 3) := by decide +kernel
theorem dX4_mostLeft_69 : decode cX4_mostLeft 69 = .ok (.goto (-61), 3) := by decide +kernel
theorem dX4_mostLeft_72 : decode cX4_mostLeft 72 = .ok (.iload 4, 2) := by decide +kernel
theorem dX4_mostLeft_74 : decode cX4_mostLeft 74 = .ok (.iload_n 3, 1) := by decide +kernel
theorem dX4_mostLeft_75 : decode cX4_mostLeft 75 = .ok (.iload 4, 2) := by decide +kernel
theorem dX4_mostLeft_77 : decode cX4_mostLeft 77 = .ok (.isub, 1) := by decide +kernel
theorem dX4_mostLeft_78 : decode cX4_mostLeft 78 = .ok (.invokestatic 46, 3) := by decide +kernel
theorem dX4_mostLeft_81 : decode cX4_mostLeft 81 = .ok (.ireturn, 1) := by decide +kernel
theorem dX5_init_0 : decode cX5_init 0 = .ok (.aload_n 0, 1) := by decide +kernel
theorem dX5_init_1 : decode cX5_init 1 = .ok (.invokespecial 3, 3) := by decide +kernel
theorem dX5_init_4 : decode cX5_init 4 = .ok (.aload_n 0, 1) := by decide +kernel
theorem dX5_init_5 : decode cX5_init 5 = .ok (.bipush 20, 2) := by decide +kernel
theorem dX5_init_7 : decode cX5_init 7 = .ok (.putfield 9, 3) := by decide +kernel
theorem dX5_init_10 : decode cX5_init 10 = .ok (.aload_n 0, 1) := by decide +kernel
theorem dX5_init_11 : decode cX5_init 11 = .ok (.sipush 3000, 3) := by decide +kernel
theorem dX5_init_14 : decode cX5_init 14 = .ok (.putfield 15, 3) := by decide +kernel
theorem dX5_init_17 : decode cX5_init 17 = .ok (.aload_n 0, 1) := by decide +kernel
theorem dX5_init_18 : decode cX5_init 18 = .ok (.bipush 8, 2) := by decide +kernel
theorem dX5_init_20 : decode cX5_init 20 = .ok (.newarray .int, 2) := by decide +kernel
theorem dX5_init_22 : decode cX5_init 22 = .ok (.putfield 18, 3) := by decide +kernel
theorem dX5_init_25 : decode cX5_init 25 = .ok (.aload_n 0, 1) := by decide +kernel
theorem dX5_init_26 : decode cX5_init 26 = .ok (.bipush 8, 2) := by decide +kernel
theorem dX5_init_28 : decode cX5_init 28 = .ok (.newarray .int, 2) := by decide +kernel
theorem dX5_init_30 : decode cX5_init 30 = .ok (.putfield 22, 3) := by decide +kernel
theorem dX5_init_33 : decode cX5_init 33 = .ok (.aload_n 0, 1) := by decide +kernel
theorem dX5_init_34 : decode cX5_init 34 = .ok (.bipush 8, 2) := by decide +kernel
theorem dX5_init_36 : decode cX5_init 36 = .ok (.newarray .int, 2) := by decide +kernel
theorem dX5_init_38 : decode cX5_init 38 = .ok (.putfield 25, 3) := by decide +kernel
theorem dX5_init_41 : decode cX5_init 41 = .ok (.aload_n 0, 1) := by decide +kernel
theorem dX5_init_42 : decode cX5_init 42 = .ok (.bipush 6, 2) := by decide +kernel
theorem dX5_init_44 : decode cX5_init 44 = .ok (.newarray .int, 2) := by decide +kernel
theorem dX5_init_46 : decode cX5_init 46 = .ok (.putfield 28, 3) := by decide +kernel
theorem dX5_init_49 : decode cX5_init 49 = .ok (.iconst 0, 1) := by decide +kernel
theorem dX5_init_50 : decode cX5_init 50 = .ok (.istore_n 1, 1) := by decide +kernel
theorem dX5_init_51 : decode cX5_init 51 = .ok (.iload_n 1, 1) := by decide +kernel
theorem dX5_init_52 : decode cX5_init 52 = .ok (.bipush 8, 2) := by decide +kernel
theorem dX5_init_54 : decode cX5_init 54 = .ok (.if_icmp .ge 32, 3) := by decide +kernel
theorem dX5_init_57 : decode cX5_init 57 = .ok (.aload_n 0, 1) := by decide +kernel
theorem dX5_init_58 : decode cX5_init 58 = .ok (.getfield 18, 3) := by decide +kernel
theorem dX5_init_61 : decode cX5_init 61 = .ok (.iload_n 1, 1) := by decide +kernel
theorem dX5_init_62 : decode cX5_init 62 = .ok (.bipush 30, 2) := by decide +kernel
theorem dX5_init_64 : decode cX5_init 64 = .ok (.iastore, 1) := by decide +kernel
theorem dX5_init_65 : decode cX5_init 65 = .ok (.aload_n 0, 1) := by decide +kernel
theorem dX5_init_66 : decode cX5_init 66 = .ok (.getfield 22, 3) := by decide +kernel
theorem dX5_init_69 : decode cX5_init 69 = .ok (.iload_n 1, 1) := by decide +kernel
theorem dX5_init_70 : decode cX5_init 70 = .ok (.iconst 5, 1) := by decide +kernel
theorem dX5_init_71 : decode cX5_init 71 = .ok (.iastore, 1) := by decide +kernel
theorem dX5_init_72 : decode cX5_init 72 = .ok (.aload_n 0, 1) := by decide +kernel
theorem dX5_init_73 : decode cX5_init 73 = .ok (.getfield 25, 3) := by decide +kernel
theorem dX5_init_76 : decode cX5_init 76 = .ok (.iload_n 1, 1) := by decide +kernel
theorem dX5_init_77 : decode cX5_init 77 = .ok (.bipush 10, 2) := by decide +kernel
theorem dX5_init_79 : decode cX5_init 79 = .ok (.iastore, 1) := by decide +kernel
theorem dX5_init_80 : decode cX5_init 80 = .ok (.iinc 1 1, 3) := by decide +kernel
theorem dX5_init_83 : decode cX5_init 83 = .ok (.goto (-32), 3) := by decide +kernel
theorem dX5_init_86 : decode cX5_init 86 = .ok (.return_, 1) := by decide +kernel
theorem dX5_copyFrom_0 : decode cX5_copyFrom 0 = .ok (.aload_n 0, 1) := by decide +kernel
theorem dX5_copyFrom_1 : decode cX5_copyFrom 1 = .ok (.aload_n 1, 1) := by decide +kernel
theorem dX5_copyFrom_2 : decode cX5_copyFrom 2 = .ok (.getfield 9, 3) := by decide +kernel
theorem dX5_copyFrom_5 : decode cX5_copyFrom 5 = .ok (.putfield 9, 3) := by decide +kernel
theorem dX5_copyFrom_8 : decode cX5_copyFrom 8 = .ok (.aload_n 0, 1) := by decide +kernel
theorem dX5_copyFrom_9 : decode cX5_copyFrom 9 = .ok (.aload_n 1, 1) := by decide +kernel
theorem dX5_copyFrom_10 : decode cX5_copyFrom 10 = .ok (.getfield 15, 3) := by decide +kernel
theorem dX5_copyFrom_13 : decode cX5_copyFrom 13 = .ok (.putfield 15, 3) := by decide +kernel
theorem dX5_copyFrom_16 : decode cX5_copyFrom 16 = .ok (.aload_n 1, 1) := by decide +kernel
theorem dX5_copyFrom_17 : decode cX5_copyFrom 17 = .ok (.getfield 18, 3) := by decide +kernel
theorem dX5_copyFrom_20 : decode cX5_copyFrom 20 = .ok (.iconst 0, 1) := by decide +kernel
theorem dX5_copyFrom_21 : decode cX5_copyFrom 21 = .ok (.aload_n 0, 1) := by decide +kernel
theorem dX5_copyFrom_22 : decode cX5_copyFrom 22 = .ok (.getfield 18, 3) := by decide +kernel
theorem dX5_copyFrom_25 : decode cX5_copyFrom 25 = .ok (.iconst 0, 1) := by decide +kernel
theorem dX5_copyFrom_26 : decode cX5_copyFrom 26 = .ok (.bipush 8, 2) := by decide +kernel
theorem dX5_copyFrom_28 : decode cX5_copyFrom 28 = .ok (.invokestatic 31, 3) := by decide +kernel
theorem dX5_copyFrom_31 : decode cX5_copyFrom 31 = .ok (.aload_n 1, 1) := by decide +kernel
theorem dX5_copyFrom_32 : decode cX5_copyFrom 32 = .ok (.getfield 22, 3) := by decide +kernel
theorem dX5_copyFrom_35 : decode cX5_copyFrom 35 = .ok (.iconst 0, 1) := by decide +kernel
theorem dX5_copyFrom_36 : decode cX5_copyFrom 36 = .ok (.aload_n 0, 1) := by decide +kernel
theorem dX5_copyFrom_37 : decode cX5_copyFrom 37 = .ok (.getfield 22, 3) := by decide +kernel
theorem dX5_copyFrom_40 : decode cX5_copyFrom 40 = .ok (.iconst 0, 1) := by decide +kernel
theorem dX5_copyFrom_41 : decode cX5_copyFrom 41 = .ok (.bipush 8, 2) := by decide +kernel
theorem dX5_copyFrom_43 : decode cX5_copyFrom 43 = .ok (.invokestatic 31, 3) := by decide +kernel
theorem dX5_copyFrom_46 : decode cX5_copyFrom 46 = .ok (.aload_n 1, 1) := by decide +kernel
theorem dX5_copyFrom_47 : decode cX5_copyFrom 47 = .ok (.getfield 25, 3) := by decide +kernel
theorem dX5_copyFrom_50 : decode cX5_copyFrom 50 = .ok (.iconst 0, 1) := by decide +kernel
theorem dX5_copyFrom_51 : decode cX5_copyFrom 51 = .ok (.aload_n 0, 1) := by decide +kernel
theorem dX5_copyFrom_52 : decode cX5_copyFrom 52 = .ok (.getfield 25, 3) := by decide +kernel
theorem dX5_copyFrom_55 : decode cX5_copyFrom 55 = .ok (.iconst 0, 1) := by decide +kernel
theorem dX5_copyFrom_56 : decode cX5_copyFrom 56 = .ok (.bipush 8, 2) := by decide +kernel
theorem dX5_copyFrom_58 : decode cX5_copyFrom 58 = .ok (.invokestatic 31, 3) := by decide +kernel
theorem dX5_copyFrom_61 : decode cX5_copyFrom 61 = .ok (.aload_n 1, 1) := by decide +kernel
theorem dX5_copyFrom_62 : decode cX5_copyFrom 62 = .ok (.getfield 28, 3) := by decide +kernel
theorem dX5_copyFrom_65 : decode cX5_copyFrom 65 = .ok (.iconst 0, 1) := by decide +kernel
theorem dX5_copyFrom_66 : decode cX5_copyFrom 66 = .ok (.aload_n 0, 1) := by decide +kernel
theorem dX5_copyFrom_67 : decode cX5_copyFrom 67 = .ok (.getfield 28, 3) := by decide +kernel
theorem dX5_copyFrom_70 : decode cX5_copyFrom 70 = .ok (.iconst 0, 1) := by decide +kernel
theorem dX5_copyFrom_71 : decode cX5_copyFrom 71 = .ok (.bipush 6, 2) := by decide +kernel
theorem dX5_copyFrom_73 : decode cX5_copyFrom 73 = .ok (.invokestatic 31, 3) := by decide +kernel
theorem dX5_copyFrom_76 : decode cX5_copyFrom 76 = .ok (.return_, 1) := by decide +kernel
theorem dX5_tell_0 : decode cX5_tell 0 = .ok (.iload_n 1, 1) := by decide +kernel
theorem dX5_tell_1 : decode cX5_tell 1 = .ok (.iconst 0, 1) := by decide +kernel
theorem dX5_tell_2 : decode cX5_tell 2 = .ok (.bipush 7, 2) := by decide +kernel
theorem dX5_tell_4 : decode cX5_tell 4 = .ok (.invokestatic 37, 3) := by decide +kernel
theorem dX5_tell_7 : decode cX5_tell 7 = .ok (.ifCond .ne 6, 3) := by decide +kernel
theorem dX5_tell_10 : decode cX5_tell 10 = .ok (.bipush (-2), 2) := by decide +kernel
theorem dX5_tell_12 : decode cX5_tell 12 = .ok (.ireturn, 1) := by decide +kernel
theorem dX5_tell_13 : decode cX5_tell 13 = .ok (.iload_n 2, 1) := by decide +kernel
theorem dX5_tell_14 : decode cX5_tell 14 = .ok (.tableswitch 47 0 2 #[26, 33, 40], 26) := by decide +kernel
theorem dX5_tell_40 : decode cX5_tell 40 = .ok (.aload_n 0, 1) := by decide +kernel
theorem dX5_tell_41 : decode cX5_tell 41 = .ok (.getfield 18, 3) := by decide +kernel
theorem dX5_tell_44 : decode cX5_tell 44 = .ok (.iload_n 1, 1) := by decide +kernel
theorem dX5_tell_45 : decode cX5_tell 45 = .ok (.iaload, 1) := by decide +kernel
theorem dX5_tell_46 : decode cX5_tell 46 = .ok (.ireturn, 1) := by decide +kernel
theorem dX5_tell_47 : decode cX5_tell 47 = .ok (.aload_n 0, 1) := by decide +kernel
theorem dX5_tell_48 : decode cX5_tell 48 = .ok (.getfield 22, 3) := by decide +kernel
theorem dX5_tell_51 : decode cX5_tell 51 = .ok (.iload_n 1, 1) := by decide +kernel
theorem dX5_tell_52 : decode cX5_tell 52 = .ok (.iaload, 1) := by decide +kernel
theorem dX5_tell_53 : decode cX5_tell 53 = .ok (.ireturn, 1) := by decide +kernel
theorem dX5_tell_54 : decode cX5_tell 54 = .ok (.aload_n 0, 1) := by decide +kernel
theorem dX5_tell_55 : decode cX5_tell 55 = .ok (.getfield 25, 3) := by decide +kernel
theorem dX5_tell_58 : decode cX5_tell 58 = .ok (.iload_n 1, 1) := by decide +kernel
theorem dX5_tell_59 : decode cX5_tell 59 = .ok (.iaload, 1) := by decide +kernel
theorem dX5_tell_60 : decode cX5_tell 60 = .ok (.ireturn, 1) := by decide +kernel
theorem dX5_tell_61 : decode cX5_tell 61 = .ok (.bipush (-2), 2) := by decide +kernel
theorem dX5_tell_63 : decode cX5_tell 63 = .ok (.ireturn, 1) := by decide +kernel
theorem dX5_deepOf_0 : decode cX5_deepOf 0 = .ok (.iload_n 1, 1) := by decide +kernel
theorem dX5_deepOf_1 : decode cX5_deepOf 1 = .ok (.iconst 0, 1) := by decide +kernel
theorem dX5_deepOf_2 : decode cX5_deepOf 2 = .ok (.bipush 7, 2) := by decide +kernel
theorem dX5_deepOf_4 : decode cX5_deepOf 4 = .ok (.invokestatic 37, 3) := by decide +kernel
theorem dX5_deepOf_7 : decode cX5_deepOf 7 = .ok (.ifCond .eq 12, 3) := by decide +kernel
theorem dX5_deepOf_10 : decode cX5_deepOf 10 = .ok (.aload_n 0, 1) := by decide +kernel
theorem dX5_deepOf_11 : decode cX5_deepOf 11 = .ok (.getfield 18, 3) := by decide +kernel
theorem dX5_deepOf_14 : decode cX5_deepOf 14 = .ok (.iload_n 1, 1) := by decide +kernel
theorem dX5_deepOf_15 : decode cX5_deepOf 15 = .ok (.iaload, 1) := by decide +kernel
theorem dX5_deepOf_16 : decode cX5_deepOf 16 = .ok (.goto 4, 3) := by decide +kernel
theorem dX5_deepOf_19 : decode cX5_deepOf 19 = .ok (.iconst 0, 1) := by decide +kernel
theorem dX5_deepOf_20 : decode cX5_deepOf 20 = .ok (.ireturn, 1) := by decide +kernel
theorem dX5_payOf_0 : decode cX5_payOf 0 = .ok (.iload_n 1, 1) := by decide +kernel
theorem dX5_payOf_1 : decode cX5_payOf 1 = .ok (.iconst 0, 1) := by decide +kernel
theorem dX5_payOf_2 : decode cX5_payOf 2 = .ok (.bipush 7, 2) := by decide +kernel
theorem dX5_payOf_4 : decode cX5_payOf 4 = .ok (.invokestatic 37, 3) := by decide +kernel
theorem dX5_payOf_7 : decode cX5_payOf 7 = .ok (.ifCond .eq 12, 3) := by decide +kernel
theorem dX5_payOf_10 : decode cX5_payOf 10 = .ok (.aload_n 0, 1) := by decide +kernel
theorem dX5_payOf_11 : decode cX5_payOf 11 = .ok (.getfield 25, 3) := by decide +kernel
theorem dX5_payOf_14 : decode cX5_payOf 14 = .ok (.iload_n 1, 1) := by decide +kernel
theorem dX5_payOf_15 : decode cX5_payOf 15 = .ok (.iaload, 1) := by decide +kernel
theorem dX5_payOf_16 : decode cX5_payOf 16 = .ok (.goto 4, 3) := by decide +kernel
theorem dX5_payOf_19 : decode cX5_payOf 19 = .ok (.iconst 0, 1) := by decide +kernel
theorem dX5_payOf_20 : decode cX5_payOf 20 = .ok (.ireturn, 1) := by decide +kernel
theorem dX5_wear_0 : decode cX5_wear 0 = .ok (.iload_n 1, 1) := by decide +kernel
theorem dX5_wear_1 : decode cX5_wear 1 = .ok (.iconst 0, 1) := by decide +kernel
theorem dX5_wear_2 : decode cX5_wear 2 = .ok (.bipush 7, 2) := by decide +kernel
theorem dX5_wear_4 : decode cX5_wear 4 = .ok (.invokestatic 37, 3) := by decide +kernel
theorem dX5_wear_7 : decode cX5_wear 7 = .ok (.ifCond .eq 16, 3) := by decide +kernel
theorem dX5_wear_10 : decode cX5_wear 10 = .ok (.aload_n 0, 1) := by decide +kernel
theorem dX5_wear_11 : decode cX5_wear 11 = .ok (.getfield 22, 3) := by decide +kernel
theorem dX5_wear_14 : decode cX5_wear 14 = .ok (.iload_n 1, 1) := by decide +kernel
theorem dX5_wear_15 : decode cX5_wear 15 = .ok (.iaload, 1) := by decide +kernel
theorem dX5_wear_16 : decode cX5_wear 16 = .ok (.iconst 3, 1) := by decide +kernel
theorem dX5_wear_17 : decode cX5_wear 17 = .ok (.idiv, 1) := by decide +kernel
theorem dX5_wear_18 : decode cX5_wear 18 = .ok (.iconst 1, 1) := by decide +kernel
theorem dX5_wear_19 : decode cX5_wear 19 = .ok (.iadd, 1) := by decide +kernel
theorem dX5_wear_20 : decode cX5_wear 20 = .ok (.goto 4, 3) := by decide +kernel
theorem dX5_wear_23 : decode cX5_wear 23 = .ok (.iconst 1, 1) := by decide +kernel
theorem dX5_wear_24 : decode cX5_wear 24 = .ok (.ireturn, 1) := by decide +kernel
theorem dX5_minutesShowing_0 : decode cX5_minutesShowing 0 = .ok (.iconst 0, 1) := by decide +kernel
theorem dX5_minutesShowing_1 : decode cX5_minutesShowing 1 = .ok (.aload_n 0, 1) := by decide +kernel
theorem dX5_minutesShowing_2 : decode cX5_minutesShowing 2 = .ok (.iload_n 2, 1) := by decide +kernel
theorem dX5_minutesShowing_3 : decode cX5_minutesShowing 3 = .ok (.invokevirtual 41, 3) := by decide +kernel
theorem dX5_minutesShowing_6 : decode cX5_minutesShowing 6 = .ok (.aload_n 0, 1) := by decide +kernel
theorem dX5_minutesShowing_7 : decode cX5_minutesShowing 7 = .ok (.iload_n 2, 1) := by decide +kernel
theorem dX5_minutesShowing_8 : decode cX5_minutesShowing 8 = .ok (.invokevirtual 45, 3) := by decide +kernel
theorem dX5_minutesShowing_11 : decode cX5_minutesShowing 11 = .ok (.iload_n 3, 1) := by decide +kernel
theorem dX5_minutesShowing_12 : decode cX5_minutesShowing 12 = .ok (.bipush 10, 2) := by decide +kernel
theorem dX5_minutesShowing_14 : decode cX5_minutesShowing 14 = .ok (.idiv, 1) := by decide +kernel
theorem dX5_minutesShowing_15 : decode cX5_minutesShowing 15 = .ok (.imul, 1) := by decide +kernel
theorem dX5_minutesShowing_16 : decode cX5_minutesShowing 16 = .ok (.isub, 1) := by decide +kernel
theorem dX5_minutesShowing_17 : decode cX5_minutesShowing 17 = .ok (.invokestatic 48, 3) := by decide +kernel
theorem dX5_minutesShowing_20 : decode cX5_minutesShowing 20 = .ok (.istore 4, 2) := by decide +kernel
theorem dX5_minutesShowing_22 : decode cX5_minutesShowing 22 = .ok (.aload_n 0, 1) := by decide +kernel
theorem dX5_minutesShowing_23 : decode cX5_minutesShowing 23 = .ok (.iload_n 1, 1) := by decide +kernel
theorem dX5_minutesShowing_24 : decode cX5_minutesShowing 24 = .ok (.invokevirtual 41, 3) := by decide +kernel
theorem dX5_minutesShowing_27 : decode cX5_minutesShowing 27 = .ok (.iload 4, 2) := by decide +kernel
theorem dX5_minutesShowing_29 : decode cX5_minutesShowing 29 = .ok (.isub, 1) := by decide +kernel
theorem dX5_minutesShowing_30 : decode cX5_minutesShowing 30 = .ok (.istore 5, 2) := by decide +kernel
theorem dX5_minutesShowing_32 : decode cX5_minutesShowing 32 = .ok (.iload_n 1, 1) := by decide +kernel
theorem dX5_minutesShowing_33 : decode cX5_minutesShowing 33 = .ok (.iload_n 2, 1) := by decide +kernel
theorem dX5_minutesShowing_34 : decode cX5_minutesShowing 34 = .ok (.if_icmp .eq 9, 3) := by decide +kernel
theorem dX5_minutesShowing_37 : decode cX5_minutesShowing 37 = .ok (.iload 5, 2) := by decide +kernel
theorem dX5_minutesShowing_39 : decode cX5_minutesShowing 39 = .ok (.iconst 1, 1) := by decide +kernel
theorem dX5_minutesShowing_40 : decode cX5_minutesShowing 40 = .ok (.if_icmp .ge 7, 3) := by decide +kernel
theorem dX5_minutesShowing_43 : decode cX5_minutesShowing 43 = .ok (.iconst 0, 1) := by decide +kernel
theorem dX5_minutesShowing_44 : decode cX5_minutesShowing 44 = .ok (.goto 9, 3) := by decide +kernel
theorem dX5_minutesShowing_47 : decode cX5_minutesShowing 47 = .ok (.iload 5, 2) := by decide +kernel
theorem dX5_minutesShowing_49 : decode cX5_minutesShowing 49 = .ok (.iconst 1, 1) := by decide +kernel
theorem dX5_minutesShowing_50 : decode cX5_minutesShowing 50 = .ok (.isub, 1) := by decide +kernel
theorem dX5_minutesShowing_51 : decode cX5_minutesShowing 51 = .ok (.iconst 3, 1) := by decide +kernel
theorem dX5_minutesShowing_52 : decode cX5_minutesShowing 52 = .ok (.idiv, 1) := by decide +kernel
theorem dX5_minutesShowing_53 : decode cX5_minutesShowing 53 = .ok (.ireturn, 1) := by decide +kernel
theorem dX6_init_0 : decode cX6_init 0 = .ok (.aload_n 0, 1) := by decide +kernel
theorem dX6_init_1 : decode cX6_init 1 = .ok (.invokespecial 3, 3) := by decide +kernel
theorem dX6_init_4 : decode cX6_init 4 = .ok (.aload_n 0, 1) := by decide +kernel
theorem dX6_init_5 : decode cX6_init 5 = .ok (.iconst 5, 1) := by decide +kernel
theorem dX6_init_6 : decode cX6_init 6 = .ok (.newarray .int, 2) := by decide +kernel
theorem dX6_init_8 : decode cX6_init 8 = .ok (.putfield 9, 3) := by decide +kernel
theorem dX6_init_11 : decode cX6_init 11 = .ok (.aload_n 0, 1) := by decide +kernel
theorem dX6_init_12 : decode cX6_init 12 = .ok (.iconst 5, 1) := by decide +kernel
theorem dX6_init_13 : decode cX6_init 13 = .ok (.newarray .int, 2) := by decide +kernel
theorem dX6_init_15 : decode cX6_init 15 = .ok (.putfield 15, 3) := by decide +kernel
theorem dX6_init_18 : decode cX6_init 18 = .ok (.aload_n 0, 1) := by decide +kernel
theorem dX6_init_19 : decode cX6_init 19 = .ok (.iconst 5, 1) := by decide +kernel
theorem dX6_init_20 : decode cX6_init 20 = .ok (.newarray .int, 2) := by decide +kernel
theorem dX6_init_22 : decode cX6_init 22 = .ok (.putfield 18, 3) := by decide +kernel
theorem dX6_init_25 : decode cX6_init 25 = .ok (.aload_n 0, 1) := by decide +kernel
theorem dX6_init_26 : decode cX6_init 26 = .ok (.iconst 5, 1) := by decide +kernel
theorem dX6_init_27 : decode cX6_init 27 = .ok (.newarray .int, 2) := by decide +kernel
theorem dX6_init_29 : decode cX6_init 29 = .ok (.putfield 21, 3) := by decide +kernel
theorem dX6_init_32 : decode cX6_init 32 = .ok (.aload_n 0, 1) := by decide +kernel
theorem dX6_init_33 : decode cX6_init 33 = .ok (.iconst 5, 1) := by decide +kernel
theorem dX6_init_34 : decode cX6_init 34 = .ok (.newarray .int, 2) := by decide +kernel
theorem dX6_init_36 : decode cX6_init 36 = .ok (.putfield 24, 3) := by decide +kernel
theorem dX6_init_39 : decode cX6_init 39 = .ok (.aload_n 0, 1) := by decide +kernel
theorem dX6_init_40 : decode cX6_init 40 = .ok (.bipush 40, 2) := by decide +kernel
theorem dX6_init_42 : decode cX6_init 42 = .ok (.newarray .int, 2) := by decide +kernel
theorem dX6_init_44 : decode cX6_init 44 = .ok (.putfield 27, 3) := by decide +kernel
theorem dX6_init_47 : decode cX6_init 47 = .ok (.return_, 1) := by decide +kernel
theorem dX6_has_0 : decode cX6_has 0 = .ok (.iload_n 1, 1) := by decide +kernel
theorem dX6_has_1 : decode cX6_has 1 = .ok (.ifCond .lt 24, 3) := by decide +kernel
theorem dX6_has_4 : decode cX6_has 4 = .ok (.iload_n 1, 1) := by decide +kernel
theorem dX6_has_5 : decode cX6_has 5 = .ok (.iconst 5, 1) := by decide +kernel
theorem dX6_has_6 : decode cX6_has 6 = .ok (.if_icmp .ge 19, 3) := by decide +kernel
theorem dX6_has_9 : decode cX6_has 9 = .ok (.aload_n 0, 1) := by decide +kernel
theorem dX6_has_10 : decode cX6_has 10 = .ok (.getfield 30, 3) := by decide +kernel
theorem dX6_has_13 : decode cX6_has 13 = .ok (.iload_n 1, 1) := by decide +kernel
theorem dX6_has_14 : decode cX6_has 14 = .ok (.ishr, 1) := by decide +kernel
theorem dX6_has_15 : decode cX6_has 15 = .ok (.iconst 1, 1) := by decide +kernel
theorem dX6_has_16 : decode cX6_has 16 = .ok (.iand, 1) := by decide +kernel
theorem dX6_has_17 : decode cX6_has 17 = .ok (.iconst 1, 1) := by decide +kernel
theorem dX6_has_18 : decode cX6_has 18 = .ok (.if_icmp .ne 7, 3) := by decide +kernel
theorem dX6_has_21 : decode cX6_has 21 = .ok (.iconst 1, 1) := by decide +kernel
theorem dX6_has_22 : decode cX6_has 22 = .ok (.goto 4, 3) := by decide +kernel
theorem dX6_has_25 : decode cX6_has 25 = .ok (.iconst 0, 1) := by decide +kernel
theorem dX6_has_26 : decode cX6_has 26 = .ok (.ireturn, 1) := by decide +kernel
theorem dX6_count_0 : decode cX6_count 0 = .ok (.aload_n 0, 1) := by decide +kernel
theorem dX6_count_1 : decode cX6_count 1 = .ok (.getfield 30, 3) := by decide +kernel
theorem dX6_count_4 : decode cX6_count 4 = .ok (.invokestatic 34, 3) := by decide +kernel
theorem dX6_count_7 : decode cX6_count 7 = .ok (.ireturn, 1) := by decide +kernel
theorem dX6_countFresh_0 : decode cX6_countFresh 0 = .ok (.iconst 0, 1) := by decide +kernel
theorem dX6_countFresh_1 : decode cX6_countFresh 1 = .ok (.istore_n 1, 1) := by decide +kernel
theorem dX6_countFresh_2 : decode cX6_countFresh 2 = .ok (.iconst 0, 1) := by decide +kernel
theorem dX6_countFresh_3 : decode cX6_countFresh 3 = .ok (.istore_n 2, 1) := by decide +kernel
theorem dX6_countFresh_4 : decode cX6_countFresh 4 = .ok (.iload_n 2, 1) := by decide +kernel
theorem dX6_countFresh_5 : decode cX6_countFresh 5 = .ok (.iconst 5, 1) := by decide +kernel
theorem dX6_countFresh_6 : decode cX6_countFresh 6 = .ok (.if_icmp .ge 31, 3) := by decide +kernel
theorem dX6_countFresh_9 : decode cX6_countFresh 9 = .ok (.aload_n 0, 1) := by decide +kernel
theorem dX6_countFresh_10 : decode cX6_countFresh 10 = .ok (.iload_n 2, 1) := by decide +kernel
theorem dX6_countFresh_11 : decode cX6_countFresh 11 = .ok (.invokevirtual 40, 3) := by decide +kernel
theorem dX6_countFresh_14 : decode cX6_countFresh 14 = .ok (.ifCond .eq 17, 3) := by decide +kernel
theorem dX6_countFresh_17 : decode cX6_countFresh 17 = .ok (.aload_n 0, 1) := by decide +kernel
theorem dX6_countFresh_18 : decode cX6_countFresh 18 = .ok (.getfield 21, 3) := by decide +kernel
theorem dX6_countFresh_21 : decode cX6_countFresh 21 = .ok (.iload_n 2, 1) := by decide +kernel
theorem dX6_countFresh_22 : decode cX6_countFresh 22 = .ok (.iaload, 1) := by decide +kernel
theorem dX6_countFresh_23 : decode cX6_countFresh 23 = .ok (.bipush (-6), 2) := by decide +kernel
theorem dX6_countFresh_25 : decode cX6_countFresh 25 = .ok (.if_icmp .eq 6, 3) := by decide +kernel
theorem dX6_countFresh_28 : decode cX6_countFresh 28 = .ok (.iinc 1 1, 3) := by decide +kernel
theorem dX6_countFresh_31 : decode cX6_countFresh 31 = .ok (.iinc 2 1, 3) := by decide +kernel
theorem dX6_countFresh_34 : decode cX6_countFresh 34 = .ok (.goto (-30), 3) := by decide +kernel
theorem dX6_countFresh_37 : decode cX6_countFresh 37 = .ok (.iload_n 1, 1) := by decide +kernel
theorem dX6_countFresh_38 : decode cX6_countFresh 38 = .ok (.ireturn, 1) := by decide +kernel
theorem dX6_put_0 : decode cX6_put 0 = .ok (.iload_n 1, 1) := by decide +kernel
theorem dX6_put_1 : decode cX6_put 1 = .ok (.iconst 0, 1) := by decide +kernel
theorem dX6_put_2 : decode cX6_put 2 = .ok (.iconst 4, 1) := by decide +kernel
theorem dX6_put_3 : decode cX6_put 3 = .ok (.invokestatic 44, 3) := by decide +kernel
theorem dX6_put_6 : decode cX6_put 6 = .ok (.ifCond .ne 4, 3) := by decide +kernel
theorem dX6_put_9 : decode cX6_put 9 = .ok (.return_, 1) := by decide +kernel
theorem dX6_put_10 : decode cX6_put 10 = .ok (.aload_n 0, 1) := by decide +kernel
theorem dX6_put_11 : decode cX6_put 11 = .ok (.dup, 1) := by decide +kernel
theorem dX6_put_12 : decode cX6_put 12 = .ok (.getfield 30, 3) := by decide +kernel
theorem dX6_put_15 : decode cX6_put 15 = .ok (.iconst 1, 1) := by decide +kernel
theorem dX6_put_16 : decode cX6_put 16 = .ok (.iload_n 1, 1) := by decide +kernel
theorem dX6_put_17 : decode cX6_put 17 = .ok (.ishl, 1) := by decide +kernel
theorem dX6_put_18 : decode cX6_put 18 = .ok (.ior, 1) := by decide +kernel
theorem dX6_put_19 : decode cX6_put 19 = .ok (.putfield 30, 3) := by decide +kernel
theorem dX6_put_22 : decode cX6_put 22 = .ok (.aload_n 0, 1) := by decide +kernel
theorem dX6_put_23 : decode cX6_put 23 = .ok (.getfield 9, 3) := by decide +kernel
theorem dX6_put_26 : decode cX6_put 26 = .ok (.iload_n 1, 1) := by decide +kernel
theorem dX6_put_27 : decode cX6_put 27 = .ok (.iload_n 2, 1) := by decide +kernel
theorem dX6_put_28 : decode cX6_put 28 = .ok (.iastore, 1) := by decide +kernel
theorem dX6_put_29 : decode cX6_put 29 = .ok (.aload_n 0, 1) := by decide +kernel
theorem dX6_put_30 : decode cX6_put 30 = .ok (.getfield 15, 3) := by decide +kernel
theorem dX6_put_33 : decode cX6_put 33 = .ok (.iload_n 1, 1) := by decide +kernel
theorem dX6_put_34 : decode cX6_put 34 = .ok (.iload_n 3, 1) := by decide +kernel
theorem dX6_put_35 : decode cX6_put 35 = .ok (.iastore, 1) := by decide +kernel
theorem dX6_put_36 : decode cX6_put 36 = .ok (.aload_n 0, 1) := by decide +kernel
theorem dX6_put_37 : decode cX6_put 37 = .ok (.getfield 18, 3) := by decide +kernel
theorem dX6_put_40 : decode cX6_put 40 = .ok (.iload_n 1, 1) := by decide +kernel
theorem dX6_put_41 : decode cX6_put 41 = .ok (.iload 4, 2) := by decide +kernel
theorem dX6_put_43 : decode cX6_put 43 = .ok (.iastore, 1) := by decide +kernel
theorem dX6_put_44 : decode cX6_put 44 = .ok (.aload_n 0, 1) := by decide +kernel
theorem dX6_put_45 : decode cX6_put 45 = .ok (.getfield 21, 3) := by decide +kernel
theorem dX6_put_48 : decode cX6_put 48 = .ok (.iload_n 1, 1) := by decide +kernel
theorem dX6_put_49 : decode cX6_put 49 = .ok (.bipush (-6), 2) := by decide +kernel
theorem dX6_put_51 : decode cX6_put 51 = .ok (.iastore, 1) := by decide +kernel
theorem dX6_put_52 : decode cX6_put 52 = .ok (.aload_n 0, 1) := by decide +kernel
theorem dX6_put_53 : decode cX6_put 53 = .ok (.getfield 24, 3) := by decide +kernel
theorem dX6_put_56 : decode cX6_put 56 = .ok (.iload_n 1, 1) := by decide +kernel
theorem dX6_put_57 : decode cX6_put 57 = .ok (.iconst 0, 1) := by decide +kernel
theorem dX6_put_58 : decode cX6_put 58 = .ok (.iastore, 1) := by decide +kernel
theorem dX6_put_59 : decode cX6_put 59 = .ok (.iconst 0, 1) := by decide +kernel
theorem dX6_put_60 : decode cX6_put 60 = .ok (.istore 5, 2) := by decide +kernel
theorem dX6_put_62 : decode cX6_put 62 = .ok (.iload 5, 2) := by decide +kernel
theorem dX6_put_64 : decode cX6_put 64 = .ok (.bipush 8, 2) := by decide +kernel
theorem dX6_put_66 : decode cX6_put 66 = .ok (.if_icmp .ge 22, 3) := by decide +kernel
theorem dX6_put_69 : decode cX6_put 69 = .ok (.aload_n 0, 1) := by decide +kernel
theorem dX6_put_70 : decode cX6_put 70 = .ok (.getfield 27, 3) := by decide +kernel
theorem dX6_put_73 : decode cX6_put 73 = .ok (.iload_n 1, 1) := by decide +kernel
theorem dX6_put_74 : decode cX6_put 74 = .ok (.bipush 8, 2) := by decide +kernel
theorem dX6_put_76 : decode cX6_put 76 = .ok (.imul, 1) := by decide +kernel
theorem dX6_put_77 : decode cX6_put 77 = .ok (.iload 5, 2) := by decide +kernel
theorem dX6_put_79 : decode cX6_put 79 = .ok (.iadd, 1) := by decide +kernel
theorem dX6_put_80 : decode cX6_put 80 = .ok (.iconst 0, 1) := by decide +kernel
theorem dX6_put_81 : decode cX6_put 81 = .ok (.iastore, 1) := by decide +kernel
theorem dX6_put_82 : decode cX6_put 82 = .ok (.iinc 5 1, 3) := by decide +kernel
theorem dX6_put_85 : decode cX6_put 85 = .ok (.goto (-23), 3) := by decide +kernel
theorem dX6_put_88 : decode cX6_put 88 = .ok (.return_, 1) := by decide +kernel
theorem dX6_take_0 : decode cX6_take 0 = .ok (.aload_n 0, 1) := by decide +kernel
theorem dX6_take_1 : decode cX6_take 1 = .ok (.iload_n 1, 1) := by decide +kernel
theorem dX6_take_2 : decode cX6_take 2 = .ok (.invokevirtual 40, 3) := by decide +kernel
theorem dX6_take_5 : decode cX6_take 5 = .ok (.ifCond .eq 17, 3) := by decide +kernel
theorem dX6_take_8 : decode cX6_take 8 = .ok (.aload_n 0, 1) := by decide +kernel
theorem dX6_take_9 : decode cX6_take 9 = .ok (.dup, 1) := by decide +kernel
theorem dX6_take_10 : decode cX6_take 10 = .ok (.getfield 30, 3) := by decide +kernel
theorem dX6_take_13 : decode cX6_take 13 = .ok (.iconst 1, 1) := by decide +kernel
theorem dX6_take_14 : decode cX6_take 14 = .ok (.iload_n 1, 1) := by decide +kernel
theorem dX6_take_15 : decode cX6_take 15 = .ok (.ishl, 1) := by decide +kernel
theorem dX6_take_16 : decode cX6_take 16 = .ok (.iconst (-1), 1) := by decide +kernel
theorem dX6_take_17 : decode cX6_take 17 = .ok (.ixor, 1) := by decide +kernel
theorem dX6_take_18 : decode cX6_take 18 = .ok (.iand, 1) := by decide +kernel
theorem dX6_take_19 : decode cX6_take 19 = .ok (.putfield 30, 3) := by decide +kernel
theorem dX6_take_22 : decode cX6_take 22 = .ok (.return_, 1) := by decide +kernel
theorem dX6_copyFrom_0 : decode cX6_copyFrom 0 = .ok (.aload_n 0, 1) := by decide +kernel
theorem dX6_copyFrom_1 : decode cX6_copyFrom 1 = .ok (.aload_n 1, 1) := by decide +kernel
theorem dX6_copyFrom_2 : decode cX6_copyFrom 2 = .ok (.getfield 30, 3) := by decide +kernel
theorem dX6_copyFrom_5 : decode cX6_copyFrom 5 = .ok (.putfield 30, 3) := by decide +kernel
theorem dX6_copyFrom_8 : decode cX6_copyFrom 8 = .ok (.aload_n 1, 1) := by decide +kernel
theorem dX6_copyFrom_9 : decode cX6_copyFrom 9 = .ok (.getfield 9, 3) := by decide +kernel
theorem dX6_copyFrom_12 : decode cX6_copyFrom 12 = .ok (.iconst 0, 1) := by decide +kernel
theorem dX6_copyFrom_13 : decode cX6_copyFrom 13 = .ok (.aload_n 0, 1) := by decide +kernel
theorem dX6_copyFrom_14 : decode cX6_copyFrom 14 = .ok (.getfield 9, 3) := by decide +kernel
theorem dX6_copyFrom_17 : decode cX6_copyFrom 17 = .ok (.iconst 0, 1) := by decide +kernel
theorem dX6_copyFrom_18 : decode cX6_copyFrom 18 = .ok (.iconst 5, 1) := by decide +kernel
theorem dX6_copyFrom_19 : decode cX6_copyFrom 19 = .ok (.invokestatic 48, 3) := by decide +kernel
theorem dX6_copyFrom_22 : decode cX6_copyFrom 22 = .ok (.aload_n 1, 1) := by decide +kernel
theorem dX6_copyFrom_23 : decode cX6_copyFrom 23 = .ok (.getfield 15, 3) := by decide +kernel
theorem dX6_copyFrom_26 : decode cX6_copyFrom 26 = .ok (.iconst 0, 1) := by decide +kernel
theorem dX6_copyFrom_27 : decode cX6_copyFrom 27 = .ok (.aload_n 0, 1) := by decide +kernel
theorem dX6_copyFrom_28 : decode cX6_copyFrom 28 = .ok (.getfield 15, 3) := by decide +kernel
theorem dX6_copyFrom_31 : decode cX6_copyFrom 31 = .ok (.iconst 0, 1) := by decide +kernel
theorem dX6_copyFrom_32 : decode cX6_copyFrom 32 = .ok (.iconst 5, 1) := by decide +kernel
theorem dX6_copyFrom_33 : decode cX6_copyFrom 33 = .ok (.invokestatic 48, 3) := by decide +kernel
theorem dX6_copyFrom_36 : decode cX6_copyFrom 36 = .ok (.aload_n 1, 1) := by decide +kernel
theorem dX6_copyFrom_37 : decode cX6_copyFrom 37 = .ok (.getfield 18, 3) := by decide +kernel
theorem dX6_copyFrom_40 : decode cX6_copyFrom 40 = .ok (.iconst 0, 1) := by decide +kernel
theorem dX6_copyFrom_41 : decode cX6_copyFrom 41 = .ok (.aload_n 0, 1) := by decide +kernel
theorem dX6_copyFrom_42 : decode cX6_copyFrom 42 = .ok (.getfield 18, 3) := by decide +kernel
theorem dX6_copyFrom_45 : decode cX6_copyFrom 45 = .ok (.iconst 0, 1) := by decide +kernel
theorem dX6_copyFrom_46 : decode cX6_copyFrom 46 = .ok (.iconst 5, 1) := by decide +kernel
theorem dX6_copyFrom_47 : decode cX6_copyFrom 47 = .ok (.invokestatic 48, 3) := by decide +kernel
theorem dX6_copyFrom_50 : decode cX6_copyFrom 50 = .ok (.aload_n 1, 1) := by decide +kernel
theorem dX6_copyFrom_51 : decode cX6_copyFrom 51 = .ok (.getfield 21, 3) := by decide +kernel
theorem dX6_copyFrom_54 : decode cX6_copyFrom 54 = .ok (.iconst 0, 1) := by decide +kernel
theorem dX6_copyFrom_55 : decode cX6_copyFrom 55 = .ok (.aload_n 0, 1) := by decide +kernel
theorem dX6_copyFrom_56 : decode cX6_copyFrom 56 = .ok (.getfield 21, 3) := by decide +kernel
theorem dX6_copyFrom_59 : decode cX6_copyFrom 59 = .ok (.iconst 0, 1) := by decide +kernel
theorem dX6_copyFrom_60 : decode cX6_copyFrom 60 = .ok (.iconst 5, 1) := by decide +kernel
theorem dX6_copyFrom_61 : decode cX6_copyFrom 61 = .ok (.invokestatic 48, 3) := by decide +kernel
theorem dX6_copyFrom_64 : decode cX6_copyFrom 64 = .ok (.aload_n 1, 1) := by decide +kernel
theorem dX6_copyFrom_65 : decode cX6_copyFrom 65 = .ok (.getfield 24, 3) := by decide +kernel
theorem dX6_copyFrom_68 : decode cX6_copyFrom 68 = .ok (.iconst 0, 1) := by decide +kernel
theorem dX6_copyFrom_69 : decode cX6_copyFrom 69 = .ok (.aload_n 0, 1) := by decide +kernel
theorem dX6_copyFrom_70 : decode cX6_copyFrom 70 = .ok (.getfield 24, 3) := by decide +kernel
theorem dX6_copyFrom_73 : decode cX6_copyFrom 73 = .ok (.iconst 0, 1) := by decide +kernel
theorem dX6_copyFrom_74 : decode cX6_copyFrom 74 = .ok (.iconst 5, 1) := by decide +kernel
theorem dX6_copyFrom_75 : decode cX6_copyFrom 75 = .ok (.invokestatic 48, 3) := by decide +kernel
theorem dX6_copyFrom_78 : decode cX6_copyFrom 78 = .ok (.aload_n 1, 1) := by decide +kernel
theorem dX6_copyFrom_79 : decode cX6_copyFrom 79 = .ok (.getfield 27, 3) := by decide +kernel
theorem dX6_copyFrom_82 : decode cX6_copyFrom 82 = .ok (.iconst 0, 1) := by decide +kernel
theorem dX6_copyFrom_83 : decode cX6_copyFrom 83 = .ok (.aload_n 0, 1) := by decide +kernel
theorem dX6_copyFrom_84 : decode cX6_copyFrom 84 = .ok (.getfield 27, 3) := by decide +kernel
theorem dX6_copyFrom_87 : decode cX6_copyFrom 87 = .ok (.iconst 0, 1) := by decide +kernel
theorem dX6_copyFrom_88 : decode cX6_copyFrom 88 = .ok (.bipush 40, 2) := by decide +kernel
theorem dX6_copyFrom_90 : decode cX6_copyFrom 90 = .ok (.invokestatic 48, 3) := by decide +kernel
theorem dX6_copyFrom_93 : decode cX6_copyFrom 93 = .ok (.return_, 1) := by decide +kernel
theorem dX6_tell_0 : decode cX6_tell 0 = .ok (.aload_n 0, 1) := by decide +kernel
theorem dX6_tell_1 : decode cX6_tell 1 = .ok (.iload_n 1, 1) := by decide +kernel
theorem dX6_tell_2 : decode cX6_tell 2 = .ok (.invokevirtual 40, 3) := by decide +kernel
theorem dX6_tell_5 : decode cX6_tell 5 = .ok (.ifCond .ne 5, 3) := by decide +kernel
theorem dX6_tell_8 : decode cX6_tell 8 = .ok (.iconst (-1), 1) := by decide +kernel
theorem dX6_tell_9 : decode cX6_tell 9 = .ok (.ireturn, 1) := by decide +kernel
theorem dX6_tell_10 : decode cX6_tell 10 = .ok (.iload_n 2, 1) := by decide +kernel
theorem dX6_tell_11 : decode cX6_tell 11 = .ok (.tableswitch 68 0 4 #[33, 40, 47, 54, 61], 33) := by decide +kernel
theorem dX6_tell_44 : decode cX6_tell 44 = .ok (.aload_n 0, 1) := by decide +kernel
theorem dX6_tell_45 : decode cX6_tell 45 = .ok (.getfield 9, 3) := by decide +kernel
theorem dX6_tell_48 : decode cX6_tell 48 = .ok (.iload_n 1, 1) := by decide +kernel
theorem dX6_tell_49 : decode cX6_tell 49 = .ok (.iaload, 1) := by decide +kernel
theorem dX6_tell_50 : decode cX6_tell 50 = .ok (.ireturn, 1) := by decide +kernel
theorem dX6_tell_51 : decode cX6_tell 51 = .ok (.aload_n 0, 1) := by decide +kernel
theorem dX6_tell_52 : decode cX6_tell 52 = .ok (.getfield 15, 3) := by decide +kernel
theorem dX6_tell_55 : decode cX6_tell 55 = .ok (.iload_n 1, 1) := by decide +kernel
theorem dX6_tell_56 : decode cX6_tell 56 = .ok (.iaload, 1) := by decide +kernel
theorem dX6_tell_57 : decode cX6_tell 57 = .ok (.ireturn, 1) := by decide +kernel
theorem dX6_tell_58 : decode cX6_tell 58 = .ok (.aload_n 0, 1) := by decide +kernel
theorem dX6_tell_59 : decode cX6_tell 59 = .ok (.getfield 18, 3) := by decide +kernel
theorem dX6_tell_62 : decode cX6_tell 62 = .ok (.iload_n 1, 1) := by decide +kernel
theorem dX6_tell_63 : decode cX6_tell 63 = .ok (.iaload, 1) := by decide +kernel
theorem dX6_tell_64 : decode cX6_tell 64 = .ok (.ireturn, 1) := by decide +kernel
theorem dX6_tell_65 : decode cX6_tell 65 = .ok (.aload_n 0, 1) := by decide +kernel
theorem dX6_tell_66 : decode cX6_tell 66 = .ok (.getfield 21, 3) := by decide +kernel
theorem dX6_tell_69 : decode cX6_tell 69 = .ok (.iload_n 1, 1) := by decide +kernel
theorem dX6_tell_70 : decode cX6_tell 70 = .ok (.iaload, 1) := by decide +kernel
theorem dX6_tell_71 : decode cX6_tell 71 = .ok (.ireturn, 1) := by decide +kernel
theorem dX6_tell_72 : decode cX6_tell 72 = .ok (.aload_n 0, 1) := by decide +kernel
theorem dX6_tell_73 : decode cX6_tell 73 = .ok (.getfield 24, 3) := by decide +kernel
theorem dX6_tell_76 : decode cX6_tell 76 = .ok (.iload_n 1, 1) := by decide +kernel
theorem dX6_tell_77 : decode cX6_tell 77 = .ok (.iaload, 1) := by decide +kernel
theorem dX6_tell_78 : decode cX6_tell 78 = .ok (.ireturn, 1) := by decide +kernel
theorem dX6_tell_79 : decode cX6_tell 79 = .ok (.bipush (-2), 2) := by decide +kernel
theorem dX6_tell_81 : decode cX6_tell 81 = .ok (.ireturn, 1) := by decide +kernel
theorem dX6_fatOf_0 : decode cX6_fatOf 0 = .ok (.aload_n 0, 1) := by decide +kernel
theorem dX6_fatOf_1 : decode cX6_fatOf 1 = .ok (.iload_n 1, 1) := by decide +kernel
theorem dX6_fatOf_2 : decode cX6_fatOf 2 = .ok (.invokevirtual 40, 3) := by decide +kernel
theorem dX6_fatOf_5 : decode cX6_fatOf 5 = .ok (.ifCond .eq 13, 3) := by decide +kernel
theorem dX6_fatOf_8 : decode cX6_fatOf 8 = .ok (.iload_n 2, 1) := by decide +kernel
theorem dX6_fatOf_9 : decode cX6_fatOf 9 = .ok (.iconst 0, 1) := by decide +kernel
theorem dX6_fatOf_10 : decode cX6_fatOf 10 = .ok (.bipush 7, 2) := by decide +kernel
theorem dX6_fatOf_12 : decode cX6_fatOf 12 = .ok (.invokestatic 44, 3) := by decide +kernel
theorem dX6_fatOf_15 : decode cX6_fatOf 15 = .ok (.ifCond .ne 5, 3) := by decide +kernel
theorem dX6_fatOf_18 : decode cX6_fatOf 18 = .ok (.iconst 0, 1) := by decide +kernel
theorem dX6_fatOf_19 : decode cX6_fatOf 19 = .ok (.ireturn, 1) := by decide +kernel
theorem dX6_fatOf_20 : decode cX6_fatOf 20 = .ok (.aload_n 0, 1) := by decide +kernel
theorem dX6_fatOf_21 : decode cX6_fatOf 21 = .ok (.getfield 27, 3) := by decide +kernel
theorem dX6_fatOf_24 : decode cX6_fatOf 24 = .ok (.iload_n 1, 1) := by decide +kernel
theorem dX6_fatOf_25 : decode cX6_fatOf 25 = .ok (.bipush 8, 2) := by decide +kernel
theorem dX6_fatOf_27 : decode cX6_fatOf 27 = .ok (.imul, 1) := by decide +kernel
theorem dX6_fatOf_28 : decode cX6_fatOf 28 = .ok (.iload_n 2, 1) := by decide +kernel
theorem dX6_fatOf_29 : decode cX6_fatOf 29 = .ok (.iadd, 1) := by decide +kernel
theorem dX6_fatOf_30 : decode cX6_fatOf 30 = .ok (.iaload, 1) := by decide +kernel
theorem dX6_fatOf_31 : decode cX6_fatOf 31 = .ok (.ireturn, 1) := by decide +kernel
theorem dX6_ghostFat_0 : decode cX6_ghostFat 0 = .ok (.iload_n 1, 1) := by decide +kernel
theorem dX6_ghostFat_1 : decode cX6_ghostFat 1 = .ok (.ifCond .lt 8, 3) := by decide +kernel
theorem dX6_ghostFat_4 : decode cX6_ghostFat 4 = .ok (.iload_n 1, 1) := by decide +kernel
theorem dX6_ghostFat_5 : decode cX6_ghostFat 5 = .ok (.iconst 5, 1) := by decide +kernel
theorem dX6_ghostFat_6 : decode cX6_ghostFat 6 = .ok (.if_icmp .lt 5, 3) := by decide +kernel
theorem dX6_ghostFat_9 : decode cX6_ghostFat 9 = .ok (.iconst 0, 1) := by decide +kernel
theorem dX6_ghostFat_10 : decode cX6_ghostFat 10 = .ok (.ireturn, 1) := by decide +kernel
theorem dX6_ghostFat_11 : decode cX6_ghostFat 11 = .ok (.iconst 0, 1) := by decide +kernel
theorem dX6_ghostFat_12 : decode cX6_ghostFat 12 = .ok (.istore_n 3, 1) := by decide +kernel
theorem dX6_ghostFat_13 : decode cX6_ghostFat 13 = .ok (.iconst 0, 1) := by decide +kernel
theorem dX6_ghostFat_14 : decode cX6_ghostFat 14 = .ok (.istore 4, 2) := by decide +kernel
theorem dX6_ghostFat_16 : decode cX6_ghostFat 16 = .ok (.iload 4, 2) := by decide +kernel
theorem dX6_ghostFat_18 : decode cX6_ghostFat 18 = .ok (.bipush 8, 2) := by decide +kernel
theorem dX6_ghostFat_20 : decode cX6_ghostFat 20 = .ok (.if_icmp .ge 38, 3) := by decide +kernel
theorem dX6_ghostFat_23 : decode cX6_ghostFat 23 = .ok (.aload_n 0, 1) := by decide +kernel
theorem dX6_ghostFat_24 : decode cX6_ghostFat 24 = .ok (.getfield 27, 3) := by decide +kernel
theorem dX6_ghostFat_27 : decode cX6_ghostFat 27 = .ok (.iload_n 1, 1) := by decide +kernel
theorem dX6_ghostFat_28 : decode cX6_ghostFat 28 = .ok (.bipush 8, 2) := by decide +kernel
theorem dX6_ghostFat_30 : decode cX6_ghostFat 30 = .ok (.imul, 1) := by decide +kernel
theorem dX6_ghostFat_31 : decode cX6_ghostFat 31 = .ok (.iload 4, 2) := by decide +kernel
theorem dX6_ghostFat_33 : decode cX6_ghostFat 33 = .ok (.iadd, 1) := by decide +kernel
theorem dX6_ghostFat_34 : decode cX6_ghostFat 34 = .ok (.iaload, 1) := by decide +kernel
theorem dX6_ghostFat_35 : decode cX6_ghostFat 35 = .ok (.istore 5, 2) := by decide +kernel
theorem dX6_ghostFat_37 : decode cX6_ghostFat 37 = .ok (.iload 4, 2) := by decide +kernel
theorem dX6_ghostFat_39 : decode cX6_ghostFat 39 = .ok (.iload_n 2, 1) := by decide +kernel
theorem dX6_ghostFat_40 : decode cX6_ghostFat 40 = .ok (.if_icmp .eq 12, 3) := by decide +kernel
theorem dX6_ghostFat_43 : decode cX6_ghostFat 43 = .ok (.iload 5, 2) := by decide +kernel
theorem dX6_ghostFat_45 : decode cX6_ghostFat 45 = .ok (.iload_n 3, 1) := by decide +kernel
theorem dX6_ghostFat_46 : decode cX6_ghostFat 46 = .ok (.if_icmp .le 6, 3) := by decide +kernel
theorem dX6_ghostFat_49 : decode cX6_ghostFat 49 = .ok (.iload 5, 2) := by decide +kernel
theorem dX6_ghostFat_51 : decode cX6_ghostFat 51 = .ok (.istore_n 3, 1) := by decide +kernel
theorem dX6_ghostFat_52 : decode cX6_ghostFat 52 = .ok (.iinc 4 1, 3) := by decide +kernel
theorem dX6_ghostFat_55 : decode cX6_ghostFat 55 = .ok (.goto (-39), 3) := by decide +kernel
theorem dX6_ghostFat_58 : decode cX6_ghostFat 58 = .ok (.iload_n 3, 1) := by decide +kernel
theorem dX6_ghostFat_59 : decode cX6_ghostFat 59 = .ok (.ireturn, 1) := by decide +kernel
theorem dX6_greatestGhost_0 : decode cX6_greatestGhost 0 = .ok (.iload_n 1, 1) := by decide +kernel
theorem dX6_greatestGhost_1 : decode cX6_greatestGhost 1 = .ok (.ifCond .lt 8, 3) := by decide +kernel
theorem dX6_greatestGhost_4 : decode cX6_greatestGhost 4 = .ok (.iload_n 1, 1) := by decide +kernel
theorem dX6_greatestGhost_5 : decode cX6_greatestGhost 5 = .ok (.iconst 5, 1) := by decide +kernel
theorem dX6_greatestGhost_6 : decode cX6_greatestGhost 6 = .ok (.if_icmp .lt 6, 3) := by decide +kernel
theorem dX6_greatestGhost_9 : decode cX6_greatestGhost 9 = .ok (.bipush (-6), 2) := by decide +kernel
theorem dX6_greatestGhost_11 : decode cX6_greatestGhost 11 = .ok (.ireturn, 1) := by decide +kernel
theorem dX6_greatestGhost_12 : decode cX6_greatestGhost 12 = .ok (.aload_n 0, 1) := by decide +kernel
theorem dX6_greatestGhost_13 : decode cX6_greatestGhost 13 = .ok (.iload_n 1, 1) := by decide +kernel
theorem dX6_greatestGhost_14 : decode cX6_greatestGhost 14 = .ok (.iload_n 2, 1) := by decide +kernel
theorem dX6_greatestGhost_15 : decode cX6_greatestGhost 15 = .ok (.invokevirtual 54, 3) := by decide +kernel
theorem dX6_greatestGhost_18 : decode cX6_greatestGhost 18 = .ok (.istore_n 3, 1) := by decide +kernel
theorem dX6_greatestGhost_19 : decode cX6_greatestGhost 19 = .ok (.iconst 0, 1) := by decide +kernel
theorem dX6_greatestGhost_20 : decode cX6_greatestGhost 20 = .ok (.istore 4, 2) := by decide +kernel
theorem dX6_greatestGhost_22 : decode cX6_greatestGhost 22 = .ok (.iload 4, 2) := by decide +kernel
theorem dX6_greatestGhost_24 : decode cX6_greatestGhost 24 = .ok (.bipush 8, 2) := by decide +kernel
theorem dX6_greatestGhost_26 : decode cX6_greatestGhost 26 = .ok (.if_icmp .ge 34, 3) := by decide +kernel
theorem dX6_greatestGhost_29 : decode cX6_greatestGhost 29 = .ok (.iload 4, 2) := by decide +kernel
theorem dX6_greatestGhost_31 : decode cX6_greatestGhost 31 = .ok (.iload_n 2, 1) := by decide +kernel
theorem dX6_greatestGhost_32 : decode cX6_greatestGhost 32 = .ok (.if_icmp .eq 22, 3) := by decide +kernel
theorem dX6_greatestGhost_35 : decode cX6_greatestGhost 35 = .ok (.aload_n 0, 1) := by decide +kernel
theorem dX6_greatestGhost_36 : decode cX6_greatestGhost 36 = .ok (.getfield 27, 3) := by decide +kernel
theorem dX6_greatestGhost_39 : decode cX6_greatestGhost 39 = .ok (.iload_n 1, 1) := by decide +kernel
theorem dX6_greatestGhost_40 : decode cX6_greatestGhost 40 = .ok (.bipush 8, 2) := by decide +kernel
theorem dX6_greatestGhost_42 : decode cX6_greatestGhost 42 = .ok (.imul, 1) := by decide +kernel
theorem dX6_greatestGhost_43 : decode cX6_greatestGhost 43 = .ok (.iload 4, 2) := by decide +kernel
theorem dX6_greatestGhost_45 : decode cX6_greatestGhost 45 = .ok (.iadd, 1) := by decide +kernel
theorem dX6_greatestGhost_46 : decode cX6_greatestGhost 46 = .ok (.iaload, 1) := by decide +kernel
theorem dX6_greatestGhost_47 : decode cX6_greatestGhost 47 = .ok (.iload_n 3, 1) := by decide +kernel
theorem dX6_greatestGhost_48 : decode cX6_greatestGhost 48 = .ok (.if_icmp .ne 6, 3) := by decide +kernel
theorem dX6_greatestGhost_51 : decode cX6_greatestGhost 51 = .ok (.iload 4, 2) := by decide +kernel
theorem dX6_greatestGhost_53 : decode cX6_greatestGhost 53 = .ok (.ireturn, 1) := by decide +kernel
theorem dX6_greatestGhost_54 : decode cX6_greatestGhost 54 = .ok (.iinc 4 1, 3) := by decide +kernel
theorem dX6_greatestGhost_57 : decode cX6_greatestGhost 57 = .ok (.goto (-35), 3) := by decide +kernel
theorem dX6_greatestGhost_60 : decode cX6_greatestGhost 60 = .ok (.bipush (-6), 2) := by decide +kernel
theorem dX6_greatestGhost_62 : decode cX6_greatestGhost 62 = .ok (.ireturn, 1) := by decide +kernel
theorem dX6_draw_0 : decode cX6_draw 0 = .ok (.aload_n 0, 1) := by decide +kernel
theorem dX6_draw_1 : decode cX6_draw 1 = .ok (.iload_n 1, 1) := by decide +kernel
theorem dX6_draw_2 : decode cX6_draw 2 = .ok (.invokevirtual 40, 3) := by decide +kernel
theorem dX6_draw_5 : decode cX6_draw 5 = .ok (.ifCond .eq 13, 3) := by decide +kernel
theorem dX6_draw_8 : decode cX6_draw 8 = .ok (.iload_n 2, 1) := by decide +kernel
theorem dX6_draw_9 : decode cX6_draw 9 = .ok (.iconst 0, 1) := by decide +kernel
theorem dX6_draw_10 : decode cX6_draw 10 = .ok (.bipush 7, 2) := by decide +kernel
theorem dX6_draw_12 : decode cX6_draw 12 = .ok (.invokestatic 44, 3) := by decide +kernel
theorem dX6_draw_15 : decode cX6_draw 15 = .ok (.ifCond .ne 4, 3) := by decide +kernel
theorem dX6_draw_18 : decode cX6_draw 18 = .ok (.return_, 1) := by decide +kernel
theorem dX6_draw_19 : decode cX6_draw 19 = .ok (.aload_n 0, 1) := by decide +kernel
theorem dX6_draw_20 : decode cX6_draw 20 = .ok (.getfield 27, 3) := by decide +kernel
theorem dX6_draw_23 : decode cX6_draw 23 = .ok (.iload_n 1, 1) := by decide +kernel
theorem dX6_draw_24 : decode cX6_draw 24 = .ok (.bipush 8, 2) := by decide +kernel
theorem dX6_draw_26 : decode cX6_draw 26 = .ok (.imul, 1) := by decide +kernel
theorem dX6_draw_27 : decode cX6_draw 27 = .ok (.iload_n 2, 1) := by decide +kernel
theorem dX6_draw_28 : decode cX6_draw 28 = .ok (.iadd, 1) := by decide +kernel
theorem dX6_draw_29 : decode cX6_draw 29 = .ok (.iload_n 3, 1) := by decide +kernel
theorem dX6_draw_30 : decode cX6_draw 30 = .ok (.iastore, 1) := by decide +kernel
theorem dX6_draw_31 : decode cX6_draw 31 = .ok (.aload_n 0, 1) := by decide +kernel
theorem dX6_draw_32 : decode cX6_draw 32 = .ok (.getfield 21, 3) := by decide +kernel
theorem dX6_draw_35 : decode cX6_draw 35 = .ok (.iload_n 1, 1) := by decide +kernel
theorem dX6_draw_36 : decode cX6_draw 36 = .ok (.iload_n 2, 1) := by decide +kernel
theorem dX6_draw_37 : decode cX6_draw 37 = .ok (.iastore, 1) := by decide +kernel
theorem dX6_draw_38 : decode cX6_draw 38 = .ok (.aload_n 0, 1) := by decide +kernel
theorem dX6_draw_39 : decode cX6_draw 39 = .ok (.getfield 24, 3) := by decide +kernel
theorem dX6_draw_42 : decode cX6_draw 42 = .ok (.iload_n 1, 1) := by decide +kernel
theorem dX6_draw_43 : decode cX6_draw 43 = .ok (.iconst 0, 1) := by decide +kernel
theorem dX6_draw_44 : decode cX6_draw 44 = .ok (.iastore, 1) := by decide +kernel
theorem dX6_draw_45 : decode cX6_draw 45 = .ok (.return_, 1) := by decide +kernel
theorem dX6_grindOff_0 : decode cX6_grindOff 0 = .ok (.aload_n 0, 1) := by decide +kernel
theorem dX6_grindOff_1 : decode cX6_grindOff 1 = .ok (.iload_n 1, 1) := by decide +kernel
theorem dX6_grindOff_2 : decode cX6_grindOff 2 = .ok (.invokevirtual 40, 3) := by decide +kernel
theorem dX6_grindOff_5 : decode cX6_grindOff 5 = .ok (.ifCond .ne 4, 3) := by decide +kernel
theorem dX6_grindOff_8 : decode cX6_grindOff 8 = .ok (.return_, 1) := by decide +kernel
theorem dX6_grindOff_9 : decode cX6_grindOff 9 = .ok (.aload_n 0, 1) := by decide +kernel
theorem dX6_grindOff_10 : decode cX6_grindOff 10 = .ok (.getfield 9, 3) := by decide +kernel
theorem dX6_grindOff_13 : decode cX6_grindOff 13 = .ok (.iload_n 1, 1) := by decide +kernel
theorem dX6_grindOff_14 : decode cX6_grindOff 14 = .ok (.dup2, 1) := by decide +kernel
theorem dX6_grindOff_15 : decode cX6_grindOff 15 = .ok (.iaload, 1) := by decide +kernel
theorem dX6_grindOff_16 : decode cX6_grindOff 16 = .ok (.iconst 3, 1) := by decide +kernel
theorem dX6_grindOff_17 : decode cX6_grindOff 17 = .ok (.iload_n 2, 1) := by decide +kernel
theorem dX6_grindOff_18 : decode cX6_grindOff 18 = .ok (.imul, 1) := by decide +kernel
theorem dX6_grindOff_19 : decode cX6_grindOff 19 = .ok (.isub, 1) := by decide +kernel
theorem dX6_grindOff_20 : decode cX6_grindOff 20 = .ok (.iastore, 1) := by decide +kernel
theorem dX6_grindOff_21 : decode cX6_grindOff 21 = .ok (.aload_n 0, 1) := by decide +kernel
theorem dX6_grindOff_22 : decode cX6_grindOff 22 = .ok (.getfield 15, 3) := by decide +kernel
theorem dX6_grindOff_25 : decode cX6_grindOff 25 = .ok (.iload_n 1, 1) := by decide +kernel
theorem dX6_grindOff_26 : decode cX6_grindOff 26 = .ok (.iload_n 3, 1) := by decide +kernel
theorem dX6_grindOff_27 : decode cX6_grindOff 27 = .ok (.ifCond .eq 21, 3) := by decide +kernel
theorem dX6_grindOff_30 : decode cX6_grindOff 30 = .ok (.bipush 99, 2) := by decide +kernel
theorem dX6_grindOff_32 : decode cX6_grindOff 32 = .ok (.aload_n 0, 1) := by decide +kernel
theorem dX6_grindOff_33 : decode cX6_grindOff 33 = .ok (.getfield 15, 3) := by decide +kernel
theorem dX6_grindOff_36 : decode cX6_grindOff 36 = .ok (.iload_n 1, 1) := by decide +kernel
theorem dX6_grindOff_37 : decode cX6_grindOff 37 = .ok (.iaload, 1) := by decide +kernel
theorem dX6_grindOff_38 : decode cX6_grindOff 38 = .ok (.iconst 2, 1) := by decide +kernel
theorem dX6_grindOff_39 : decode cX6_grindOff 39 = .ok (.iload_n 2, 1) := by decide +kernel
theorem dX6_grindOff_40 : decode cX6_grindOff 40 = .ok (.imul, 1) := by decide +kernel
theorem dX6_grindOff_41 : decode cX6_grindOff 41 = .ok (.iadd, 1) := by decide +kernel
theorem dX6_grindOff_42 : decode cX6_grindOff 42 = .ok (.invokestatic 58, 3) := by decide +kernel
theorem dX6_grindOff_45 : decode cX6_grindOff 45 = .ok (.goto 15, 3) := by decide +kernel
theorem dX6_grindOff_48 : decode cX6_grindOff 48 = .ok (.iconst 0, 1) := by decide +kernel
theorem dX6_grindOff_49 : decode cX6_grindOff 49 = .ok (.aload_n 0, 1) := by decide +kernel
theorem dX6_grindOff_50 : decode cX6_grindOff 50 = .ok (.getfield 15, 3) := by decide +kernel
theorem dX6_grindOff_53 : decode cX6_grindOff 53 = .ok (.iload_n 1, 1) := by decide +kernel
theorem dX6_grindOff_54 : decode cX6_grindOff 54 = .ok (.iaload, 1) := by decide +kernel
theorem dX6_grindOff_55 : decode cX6_grindOff 55 = .ok (.iload_n 2, 1) := by decide +kernel
theorem dX6_grindOff_56 : decode cX6_grindOff 56 = .ok (.isub, 1) := by decide +kernel
theorem dX6_grindOff_57 : decode cX6_grindOff 57 = .ok (.invokestatic 63, 3) := by decide +kernel
theorem dX6_grindOff_60 : decode cX6_grindOff 60 = .ok (.iastore, 1) := by decide +kernel
theorem dX6_grindOff_61 : decode cX6_grindOff 61 = .ok (.iconst 0, 1) := by decide +kernel
theorem dX6_grindOff_62 : decode cX6_grindOff 62 = .ok (.istore 4, 2) := by decide +kernel
theorem dX6_grindOff_64 : decode cX6_grindOff 64 = .ok (.iload 4, 2) := by decide +kernel
theorem dX6_grindOff_66 : decode cX6_grindOff 66 = .ok (.bipush 8, 2) := by decide +kernel
theorem dX6_grindOff_68 : decode cX6_grindOff 68 = .ok (.if_icmp .ge 40, 3) := by decide +kernel
theorem dX6_grindOff_71 : decode cX6_grindOff 71 = .ok (.iload_n 1, 1) := by decide +kernel
theorem dX6_grindOff_72 : decode cX6_grindOff 72 = .ok (.bipush 8, 2) := by decide +kernel
theorem dX6_grindOff_74 : decode cX6_grindOff 74 = .ok (.imul, 1) := by decide +kernel
theorem dX6_grindOff_75 : decode cX6_grindOff 75 = .ok (.iload 4, 2) := by decide +kernel
theorem dX6_grindOff_77 : decode cX6_grindOff 77 = .ok (.iadd, 1) := by decide +kernel
theorem dX6_grindOff_78 : decode cX6_grindOff 78 = .ok (.istore 5, 2) := by decide +kernel
theorem dX6_grindOff_80 : decode cX6_grindOff 80 = .ok (.aload_n 0, 1) := by decide +kernel
theorem dX6_grindOff_81 : decode cX6_grindOff 81 = .ok (.getfield 27, 3) := by decide +kernel
theorem dX6_grindOff_84 : decode cX6_grindOff 84 = .ok (.iload 5, 2) := by decide +kernel
theorem dX6_grindOff_86 : decode cX6_grindOff 86 = .ok (.iconst 0, 1) := by decide +kernel
theorem dX6_grindOff_87 : decode cX6_grindOff 87 = .ok (.aload_n 0, 1) := by decide +kernel
theorem dX6_grindOff_88 : decode cX6_grindOff 88 = .ok (.getfield 27, 3) := by decide +kernel
theorem dX6_grindOff_91 : decode cX6_grindOff 91 = .ok (.iload 5, 2) := by decide +kernel
theorem dX6_grindOff_93 : decode cX6_grindOff 93 = .ok (.iaload, 1) := by decide +kernel
theorem dX6_grindOff_94 : decode cX6_grindOff 94 = .ok (.iconst 3, 1) := by decide +kernel
theorem dX6_grindOff_95 : decode cX6_grindOff 95 = .ok (.iload_n 2, 1) := by decide +kernel
theorem dX6_grindOff_96 : decode cX6_grindOff 96 = .ok (.imul, 1) := by decide +kernel
theorem dX6_grindOff_97 : decode cX6_grindOff 97 = .ok (.isub, 1) := by decide +kernel
theorem dX6_grindOff_98 : decode cX6_grindOff 98 = .ok (.invokestatic 63, 3) := by decide +kernel
theorem dX6_grindOff_101 : decode cX6_grindOff 101 = .ok (.iastore, 1) := by decide +kernel
theorem dX6_grindOff_102 : decode cX6_grindOff 102 = .ok (.iinc 4 1, 3) := by decide +kernel
theorem dX6_grindOff_105 : decode cX6_grindOff 105 = .ok (.goto (-41), 3) := by decide +kernel
theorem dX6_grindOff_108 : decode cX6_grindOff 108 = .ok (.aload_n 0, 1) := by decide +kernel
theorem dX6_grindOff_109 : decode cX6_grindOff 109 = .ok (.getfield 21, 3) := by decide +kernel
theorem dX6_grindOff_112 : decode cX6_grindOff 112 = .ok (.iload_n 1, 1) := by decide +kernel
theorem dX6_grindOff_113 : decode cX6_grindOff 113 = .ok (.bipush (-6), 2) := by decide +kernel
theorem dX6_grindOff_115 : decode cX6_grindOff 115 = .ok (.iastore, 1) := by decide +kernel
theorem dX6_grindOff_116 : decode cX6_grindOff 116 = .ok (.aload_n 0, 1) := by decide +kernel
theorem dX6_grindOff_117 : decode cX6_grindOff 117 = .ok (.getfield 24, 3) := by decide +kernel
theorem dX6_grindOff_120 : decode cX6_grindOff 120 = .ok (.iload_n 1, 1) := by decide +kernel
theorem dX6_grindOff_121 : decode cX6_grindOff 121 = .ok (.iconst 0, 1) := by decide +kernel
theorem dX6_grindOff_122 : decode cX6_grindOff 122 = .ok (.iastore, 1) := by decide +kernel
theorem dX6_grindOff_123 : decode cX6_grindOff 123 = .ok (.return_, 1) := by decide +kernel
theorem dX6_wet_0 : decode cX6_wet 0 = .ok (.aload_n 0, 1) := by decide +kernel
theorem dX6_wet_1 : decode cX6_wet 1 = .ok (.iload_n 1, 1) := by decide +kernel
theorem dX6_wet_2 : decode cX6_wet 2 = .ok (.invokevirtual 40, 3) := by decide +kernel
theorem dX6_wet_5 : decode cX6_wet 5 = .ok (.ifCond .eq 22, 3) := by decide +kernel
theorem dX6_wet_8 : decode cX6_wet 8 = .ok (.aload_n 0, 1) := by decide +kernel
theorem dX6_wet_9 : decode cX6_wet 9 = .ok (.getfield 18, 3) := by decide +kernel
theorem dX6_wet_12 : decode cX6_wet 12 = .ok (.iload_n 1, 1) := by decide +kernel
theorem dX6_wet_13 : decode cX6_wet 13 = .ok (.bipush 20, 2) := by decide +kernel
theorem dX6_wet_15 : decode cX6_wet 15 = .ok (.aload_n 0, 1) := by decide +kernel
theorem dX6_wet_16 : decode cX6_wet 16 = .ok (.getfield 18, 3) := by decide +kernel
theorem dX6_wet_19 : decode cX6_wet 19 = .ok (.iload_n 1, 1) := by decide +kernel
theorem dX6_wet_20 : decode cX6_wet 20 = .ok (.iaload, 1) := by decide +kernel
theorem dX6_wet_21 : decode cX6_wet 21 = .ok (.iload_n 2, 1) := by decide +kernel
theorem dX6_wet_22 : decode cX6_wet 22 = .ok (.iadd, 1) := by decide +kernel
theorem dX6_wet_23 : decode cX6_wet 23 = .ok (.invokestatic 58, 3) := by decide +kernel
theorem dX6_wet_26 : decode cX6_wet 26 = .ok (.iastore, 1) := by decide +kernel
theorem dX6_wet_27 : decode cX6_wet 27 = .ok (.return_, 1) := by decide +kernel
theorem dX6_glueBelow_0 : decode cX6_glueBelow 0 = .ok (.aload_n 0, 1) := by decide +kernel
theorem dX6_glueBelow_1 : decode cX6_glueBelow 1 = .ok (.iload_n 1, 1) := by decide +kernel
theorem dX6_glueBelow_2 : decode cX6_glueBelow 2 = .ok (.invokevirtual 40, 3) := by decide +kernel
theorem dX6_glueBelow_5 : decode cX6_glueBelow 5 = .ok (.ifCond .eq 46, 3) := by decide +kernel
theorem dX6_glueBelow_8 : decode cX6_glueBelow 8 = .ok (.aload_n 0, 1) := by decide +kernel
theorem dX6_glueBelow_9 : decode cX6_glueBelow 9 = .ok (.iload_n 2, 1) := by decide +kernel
theorem dX6_glueBelow_10 : decode cX6_glueBelow 10 = .ok (.invokevirtual 40, 3) := by decide +kernel
theorem dX6_glueBelow_13 : decode cX6_glueBelow 13 = .ok (.ifCond .eq 38, 3) := by decide +kernel
theorem dX6_glueBelow_16 : decode cX6_glueBelow 16 = .ok (.iload_n 1, 1) := by decide +kernel
theorem dX6_glueBelow_17 : decode cX6_glueBelow 17 = .ok (.iload_n 2, 1) := by decide +kernel
theorem dX6_glueBelow_18 : decode cX6_glueBelow 18 = .ok (.if_icmp .eq 33, 3) := by decide +kernel
theorem dX6_glueBelow_21 : decode cX6_glueBelow 21 = .ok (.aload_n 0, 1) := by decide +kernel
theorem dX6_glueBelow_22 : decode cX6_glueBelow 22 = .ok (.getfield 9, 3) := by decide +kernel
theorem dX6_glueBelow_25 : decode cX6_glueBelow 25 = .ok (.iload_n 1, 1) := by decide +kernel
theorem dX6_glueBelow_26 : decode cX6_glueBelow 26 = .ok (.sipush 9999, 3) := by decide +kernel
theorem dX6_glueBelow_29 : decode cX6_glueBelow 29 = .ok (.aload_n 0, 1) := by decide +kernel
theorem dX6_glueBelow_30 : decode cX6_glueBelow 30 = .ok (.getfield 9, 3) := by decide +kernel
theorem dX6_glueBelow_33 : decode cX6_glueBelow 33 = .ok (.iload_n 1, 1) := by decide +kernel
theorem dX6_glueBelow_34 : decode cX6_glueBelow 34 = .ok (.iaload, 1) := by decide +kernel
theorem dX6_glueBelow_35 : decode cX6_glueBelow 35 = .ok (.aload_n 0, 1) := by decide +kernel
theorem dX6_glueBelow_36 : decode cX6_glueBelow 36 = .ok (.getfield 9, 3) := by decide +kernel
theorem dX6_glueBelow_39 : decode cX6_glueBelow 39 = .ok (.iload_n 2, 1) := by decide +kernel
theorem dX6_glueBelow_40 : decode cX6_glueBelow 40 = .ok (.iaload, 1) := by decide +kernel
theorem dX6_glueBelow_41 : decode cX6_glueBelow 41 = .ok (.iadd, 1) := by decide +kernel
theorem dX6_glueBelow_42 : decode cX6_glueBelow 42 = .ok (.invokestatic 58, 3) := by decide +kernel
theorem dX6_glueBelow_45 : decode cX6_glueBelow 45 = .ok (.iastore, 1) := by decide +kernel
theorem dX6_glueBelow_46 : decode cX6_glueBelow 46 = .ok (.aload_n 0, 1) := by decide +kernel
theorem dX6_glueBelow_47 : decode cX6_glueBelow 47 = .ok (.iload_n 2, 1) := by decide +kernel
theorem dX6_glueBelow_48 : decode cX6_glueBelow 48 = .ok (.invokevirtual 66, 3) := by decide +kernel
theorem dX6_glueBelow_51 : decode cX6_glueBelow 51 = .ok (.return_, 1) := by decide +kernel
theorem dX6_pullOnce_0 : decode cX6_pullOnce 0 = .ok (.aload_n 0, 1) := by decide +kernel
theorem dX6_pullOnce_1 : decode cX6_pullOnce 1 = .ok (.iload_n 1, 1) := by decide +kernel
theorem dX6_pullOnce_2 : decode cX6_pullOnce 2 = .ok (.invokevirtual 40, 3) := by decide +kernel
theorem dX6_pullOnce_5 : decode cX6_pullOnce 5 = .ok (.ifCond .eq 18, 3) := by decide +kernel
theorem dX6_pullOnce_8 : decode cX6_pullOnce 8 = .ok (.aload_n 0, 1) := by decide +kernel
theorem dX6_pullOnce_9 : decode cX6_pullOnce 9 = .ok (.getfield 21, 3) := by decide +kernel
theorem dX6_pullOnce_12 : decode cX6_pullOnce 12 = .ok (.iload_n 1, 1) := by decide +kernel
theorem dX6_pullOnce_13 : decode cX6_pullOnce 13 = .ok (.iaload, 1) := by decide +kernel
theorem dX6_pullOnce_14 : decode cX6_pullOnce 14 = .ok (.iconst 0, 1) := by decide +kernel
theorem dX6_pullOnce_15 : decode cX6_pullOnce 15 = .ok (.bipush 7, 2) := by decide +kernel
theorem dX6_pullOnce_17 : decode cX6_pullOnce 17 = .ok (.invokestatic 44, 3) := by decide +kernel
theorem dX6_pullOnce_20 : decode cX6_pullOnce 20 = .ok (.ifCond .ne 6, 3) := by decide +kernel
theorem dX6_pullOnce_23 : decode cX6_pullOnce 23 = .ok (.bipush (-6), 2) := by decide +kernel
theorem dX6_pullOnce_25 : decode cX6_pullOnce 25 = .ok (.ireturn, 1) := by decide +kernel
theorem dX6_pullOnce_26 : decode cX6_pullOnce 26 = .ok (.aload_n 0, 1) := by decide +kernel
theorem dX6_pullOnce_27 : decode cX6_pullOnce 27 = .ok (.getfield 18, 3) := by decide +kernel
theorem dX6_pullOnce_30 : decode cX6_pullOnce 30 = .ok (.iload_n 1, 1) := by decide +kernel
theorem dX6_pullOnce_31 : decode cX6_pullOnce 31 = .ok (.iaload, 1) := by decide +kernel
theorem dX6_pullOnce_32 : decode cX6_pullOnce 32 = .ok (.istore_n 3, 1) := by decide +kernel
theorem dX6_pullOnce_33 : decode cX6_pullOnce 33 = .ok (.iload_n 1, 1) := by decide +kernel
theorem dX6_pullOnce_34 : decode cX6_pullOnce 34 = .ok (.bipush 8, 2) := by decide +kernel
theorem dX6_pullOnce_36 : decode cX6_pullOnce 36 = .ok (.imul, 1) := by decide +kernel
theorem dX6_pullOnce_37 : decode cX6_pullOnce 37 = .ok (.aload_n 0, 1) := by decide +kernel
theorem dX6_pullOnce_38 : decode cX6_pullOnce 38 = .ok (.getfield 21, 3) := by decide +kernel
theorem dX6_pullOnce_41 : decode cX6_pullOnce 41 = .ok (.iload_n 1, 1) := by decide +kernel
theorem dX6_pullOnce_42 : decode cX6_pullOnce 42 = .ok (.iaload, 1) := by decide +kernel
theorem dX6_pullOnce_43 : decode cX6_pullOnce 43 = .ok (.iadd, 1) := by decide +kernel
theorem dX6_pullOnce_44 : decode cX6_pullOnce 44 = .ok (.istore 4, 2) := by decide +kernel
theorem dX6_pullOnce_46 : decode cX6_pullOnce 46 = .ok (.aload_n 0, 1) := by decide +kernel
theorem dX6_pullOnce_47 : decode cX6_pullOnce 47 = .ok (.getfield 18, 3) := by decide +kernel
theorem dX6_pullOnce_50 : decode cX6_pullOnce 50 = .ok (.iload_n 1, 1) := by decide +kernel
theorem dX6_pullOnce_51 : decode cX6_pullOnce 51 = .ok (.iconst 0, 1) := by decide +kernel
theorem dX6_pullOnce_52 : decode cX6_pullOnce 52 = .ok (.iload_n 3, 1) := by decide +kernel
theorem dX6_pullOnce_53 : decode cX6_pullOnce 53 = .ok (.iconst 1, 1) := by decide +kernel
theorem dX6_pullOnce_54 : decode cX6_pullOnce 54 = .ok (.isub, 1) := by decide +kernel
theorem dX6_pullOnce_55 : decode cX6_pullOnce 55 = .ok (.invokestatic 63, 3) := by decide +kernel
theorem dX6_pullOnce_58 : decode cX6_pullOnce 58 = .ok (.iastore, 1) := by decide +kernel
theorem dX6_pullOnce_59 : decode cX6_pullOnce 59 = .ok (.aload_n 0, 1) := by decide +kernel
theorem dX6_pullOnce_60 : decode cX6_pullOnce 60 = .ok (.getfield 24, 3) := by decide +kernel
theorem dX6_pullOnce_63 : decode cX6_pullOnce 63 = .ok (.iload_n 1, 1) := by decide +kernel
theorem dX6_pullOnce_64 : decode cX6_pullOnce 64 = .ok (.dup2, 1) := by decide +kernel
theorem dX6_pullOnce_65 : decode cX6_pullOnce 65 = .ok (.iaload, 1) := by decide +kernel
theorem dX6_pullOnce_66 : decode cX6_pullOnce 66 = .ok (.iconst 1, 1) := by decide +kernel
theorem dX6_pullOnce_67 : decode cX6_pullOnce 67 = .ok (.iadd, 1) := by decide +kernel
theorem dX6_pullOnce_68 : decode cX6_pullOnce 68 = .ok (.iastore, 1) := by decide +kernel
theorem dX6_pullOnce_69 : decode cX6_pullOnce 69 = .ok (.aload_n 0, 1) := by decide +kernel
theorem dX6_pullOnce_70 : decode cX6_pullOnce 70 = .ok (.getfield 24, 3) := by decide +kernel
theorem dX6_pullOnce_73 : decode cX6_pullOnce 73 = .ok (.iload_n 1, 1) := by decide +kernel
theorem dX6_pullOnce_74 : decode cX6_pullOnce 74 = .ok (.iaload, 1) := by decide +kernel
theorem dX6_pullOnce_75 : decode cX6_pullOnce 75 = .ok (.bipush 10, 2) := by decide +kernel
theorem dX6_pullOnce_77 : decode cX6_pullOnce 77 = .ok (.irem, 1) := by decide +kernel
theorem dX6_pullOnce_78 : decode cX6_pullOnce 78 = .ok (.ifCond .ne 23, 3) := by decide +kernel
theorem dX6_pullOnce_81 : decode cX6_pullOnce 81 = .ok (.aload_n 0, 1) := by decide +kernel
theorem dX6_pullOnce_82 : decode cX6_pullOnce 82 = .ok (.getfield 27, 3) := by decide +kernel
theorem dX6_pullOnce_85 : decode cX6_pullOnce 85 = .ok (.iload 4, 2) := by decide +kernel
theorem dX6_pullOnce_87 : decode cX6_pullOnce 87 = .ok (.iconst 0, 1) := by decide +kernel
theorem dX6_pullOnce_88 : decode cX6_pullOnce 88 = .ok (.aload_n 0, 1) := by decide +kernel
theorem dX6_pullOnce_89 : decode cX6_pullOnce 89 = .ok (.getfield 27, 3) := by decide +kernel
theorem dX6_pullOnce_92 : decode cX6_pullOnce 92 = .ok (.iload 4, 2) := by decide +kernel
theorem dX6_pullOnce_94 : decode cX6_pullOnce 94 = .ok (.iaload, 1) := by decide +kernel
theorem dX6_pullOnce_95 : decode cX6_pullOnce 95 = .ok (.iload_n 2, 1) := by decide +kernel
theorem dX6_pullOnce_96 : decode cX6_pullOnce 96 = .ok (.isub, 1) := by decide +kernel
theorem dX6_pullOnce_97 : decode cX6_pullOnce 97 = .ok (.invokestatic 63, 3) := by decide +kernel
theorem dX6_pullOnce_100 : decode cX6_pullOnce 100 = .ok (.iastore, 1) := by decide +kernel
theorem dX6_pullOnce_101 : decode cX6_pullOnce 101 = .ok (.iload_n 3, 1) := by decide +kernel
theorem dX6_pullOnce_102 : decode cX6_pullOnce 102 = .ok (.iconst 3, 1) := by decide +kernel
theorem dX6_pullOnce_103 : decode cX6_pullOnce 103 = .ok (.if_icmp .gt 5, 3) := by decide +kernel
theorem dX6_pullOnce_106 : decode cX6_pullOnce 106 = .ok (.iconst 1, 1) := by decide +kernel
theorem dX6_pullOnce_107 : decode cX6_pullOnce 107 = .ok (.ireturn, 1) := by decide +kernel
theorem dX6_pullOnce_108 : decode cX6_pullOnce 108 = .ok (.iload_n 3, 1) := by decide +kernel
theorem dX6_pullOnce_109 : decode cX6_pullOnce 109 = .ok (.bipush 15, 2) := by decide +kernel
theorem dX6_pullOnce_111 : decode cX6_pullOnce 111 = .ok (.if_icmp .lt 5, 3) := by decide +kernel
theorem dX6_pullOnce_114 : decode cX6_pullOnce 114 = .ok (.iconst 2, 1) := by decide +kernel
theorem dX6_pullOnce_115 : decode cX6_pullOnce 115 = .ok (.ireturn, 1) := by decide +kernel
theorem dX6_pullOnce_116 : decode cX6_pullOnce 116 = .ok (.aload_n 0, 1) := by decide +kernel
theorem dX6_pullOnce_117 : decode cX6_pullOnce 117 = .ok (.iload_n 1, 1) := by decide +kernel
theorem dX6_pullOnce_118 : decode cX6_pullOnce 118 = .ok (.aload_n 0, 1) := by decide +kernel
theorem dX6_pullOnce_119 : decode cX6_pullOnce 119 = .ok (.getfield 21, 3) := by decide +kernel
theorem dX6_pullOnce_122 : decode cX6_pullOnce 122 = .ok (.iload_n 1, 1) := by decide +kernel
theorem dX6_pullOnce_123 : decode cX6_pullOnce 123 = .ok (.iaload, 1) := by decide +kernel
theorem dX6_pullOnce_124 : decode cX6_pullOnce 124 = .ok (.invokevirtual 54, 3) := by decide +kernel
theorem dX6_pullOnce_127 : decode cX6_pullOnce 127 = .ok (.aload_n 0, 1) := by decide +kernel
theorem dX6_pullOnce_128 : decode cX6_pullOnce 128 = .ok (.getfield 27, 3) := by decide +kernel
theorem dX6_pullOnce_131 : decode cX6_pullOnce 131 = .ok (.iload 4, 2) := by decide +kernel
theorem dX6_pullOnce_133 : decode cX6_pullOnce 133 = .ok (.iaload, 1) := by decide +kernel
theorem dX6_pullOnce_134 : decode cX6_pullOnce 134 = .ok (.if_icmp .le 5, 3) := by decide +kernel
theorem dX6_pullOnce_137 : decode cX6_pullOnce 137 = .ok (.iconst 3, 1) := by decide +kernel
theorem dX6_pullOnce_138 : decode cX6_pullOnce 138 = .ok (.ireturn, 1) := by decide +kernel
theorem dX6_pullOnce_139 : decode cX6_pullOnce 139 = .ok (.aload_n 0, 1) := by decide +kernel
theorem dX6_pullOnce_140 : decode cX6_pullOnce 140 = .ok (.getfield 27, 3) := by decide +kernel
theorem dX6_pullOnce_143 : decode cX6_pullOnce 143 = .ok (.iload 4, 2) := by decide +kernel
theorem dX6_pullOnce_145 : decode cX6_pullOnce 145 = .ok (.iaload, 1) := by decide +kernel
theorem dX6_pullOnce_146 : decode cX6_pullOnce 146 = .ok (.ifCond .ne 7, 3) := by decide +kernel
theorem dX6_pullOnce_149 : decode cX6_pullOnce 149 = .ok (.iconst 4, 1) := by decide +kernel
theorem dX6_pullOnce_150 : decode cX6_pullOnce 150 = .ok (.goto 4, 3) := by decide +kernel
theorem dX6_pullOnce_153 : decode cX6_pullOnce 153 = .ok (.iconst 0, 1) := by decide +kernel
theorem dX6_pullOnce_154 : decode cX6_pullOnce 154 = .ok (.ireturn, 1) := by decide +kernel
theorem dX7_init_0 : decode cX7_init 0 = .ok (.aload_n 0, 1) := by decide +kernel
theorem dX7_init_1 : decode cX7_init 1 = .ok (.invokespecial 3, 3) := by decide +kernel
theorem dX7_init_4 : decode cX7_init 4 = .ok (.aload_n 0, 1) := by decide +kernel
theorem dX7_init_5 : decode cX7_init 5 = .ok (.bipush 8, 2) := by decide +kernel
theorem dX7_init_7 : decode cX7_init 7 = .ok (.newarray .int, 2) := by decide +kernel
theorem dX7_init_9 : decode cX7_init 9 = .ok (.putfield 9, 3) := by decide +kernel
theorem dX7_init_12 : decode cX7_init 12 = .ok (.aload_n 0, 1) := by decide +kernel
theorem dX7_init_13 : decode cX7_init 13 = .ok (.bipush 8, 2) := by decide +kernel
theorem dX7_init_15 : decode cX7_init 15 = .ok (.newarray .int, 2) := by decide +kernel
theorem dX7_init_17 : decode cX7_init 17 = .ok (.putfield 15, 3) := by decide +kernel
theorem dX7_init_20 : decode cX7_init 20 = .ok (.return_, 1) := by decide +kernel
theorem dX7_add_0 : decode cX7_add 0 = .ok (.aload_n 0, 1) := by decide +kernel
theorem dX7_add_1 : decode cX7_add 1 = .ok (.getfield 18, 3) := by decide +kernel
theorem dX7_add_4 : decode cX7_add 4 = .ok (.iconst 0, 1) := by decide +kernel
theorem dX7_add_5 : decode cX7_add 5 = .ok (.bipush 7, 2) := by decide +kernel
theorem dX7_add_7 : decode cX7_add 7 = .ok (.invokestatic 22, 3) := by decide +kernel
theorem dX7_add_10 : decode cX7_add 10 = .ok (.ifCond .ne 5, 3) := by decide +kernel
theorem dX7_add_13 : decode cX7_add 13 = .ok (.iconst 0, 1) := by decide +kernel
theorem dX7_add_14 : decode cX7_add 14 = .ok (.ireturn, 1) := by decide +kernel
theorem dX7_add_15 : decode cX7_add 15 = .ok (.aload_n 0, 1) := by decide +kernel
theorem dX7_add_16 : decode cX7_add 16 = .ok (.getfield 9, 3) := by decide +kernel
theorem dX7_add_19 : decode cX7_add 19 = .ok (.aload_n 0, 1) := by decide +kernel
theorem dX7_add_20 : decode cX7_add 20 = .ok (.getfield 18, 3) := by decide +kernel
theorem dX7_add_23 : decode cX7_add 23 = .ok (.iload_n 1, 1) := by decide +kernel
theorem dX7_add_24 : decode cX7_add 24 = .ok (.iastore, 1) := by decide +kernel
theorem dX7_add_25 : decode cX7_add 25 = .ok (.aload_n 0, 1) := by decide +kernel
theorem dX7_add_26 : decode cX7_add 26 = .ok (.getfield 15, 3) := by decide +kernel
theorem dX7_add_29 : decode cX7_add 29 = .ok (.aload_n 0, 1) := by decide +kernel
theorem dX7_add_30 : decode cX7_add 30 = .ok (.getfield 18, 3) := by decide +kernel
theorem dX7_add_33 : decode cX7_add 33 = .ok (.iload_n 2, 1) := by decide +kernel
theorem dX7_add_34 : decode cX7_add 34 = .ok (.iastore, 1) := by decide +kernel
theorem dX7_add_35 : decode cX7_add 35 = .ok (.aload_n 0, 1) := by decide +kernel
theorem dX7_add_36 : decode cX7_add 36 = .ok (.iload_n 3, 1) := by decide +kernel
theorem dX7_add_37 : decode cX7_add 37 = .ok (.ifCond .eq 17, 3) := by decide +kernel
theorem dX7_add_40 : decode cX7_add 40 = .ok (.aload_n 0, 1) := by decide +kernel
theorem dX7_add_41 : decode cX7_add 41 = .ok (.getfield 26, 3) := by decide +kernel
theorem dX7_add_44 : decode cX7_add 44 = .ok (.iconst 1, 1) := by decide +kernel
theorem dX7_add_45 : decode cX7_add 45 = .ok (.aload_n 0, 1) := by decide +kernel
theorem dX7_add_46 : decode cX7_add 46 = .ok (.getfield 18, 3) := by decide +kernel
theorem dX7_add_49 : decode cX7_add 49 = .ok (.ishl, 1) := by decide +kernel
theorem dX7_add_50 : decode cX7_add 50 = .ok (.ior, 1) := by decide +kernel
theorem dX7_add_51 : decode cX7_add 51 = .ok (.goto 16, 3) := by decide +kernel
theorem dX7_add_54 : decode cX7_add 54 = .ok (.aload_n 0, 1) := by decide +kernel
theorem dX7_add_55 : decode cX7_add 55 = .ok (.getfield 26, 3) := by decide +kernel
theorem dX7_add_58 : decode cX7_add 58 = .ok (.iconst 1, 1) := by decide +kernel
theorem dX7_add_59 : decode cX7_add 59 = .ok (.aload_n 0, 1) := by decide +kernel
theorem dX7_add_60 : decode cX7_add 60 = .ok (.getfield 18, 3) := by decide +kernel
theorem dX7_add_63 : decode cX7_add 63 = .ok (.ishl, 1) := by decide +kernel
theorem dX7_add_64 : decode cX7_add 64 = .ok (.iconst (-1), 1) := by decide +kernel
theorem dX7_add_65 : decode cX7_add 65 = .ok (.ixor, 1) := by decide +kernel
theorem dX7_add_66 : decode cX7_add 66 = .ok (.iand, 1) := by decide +kernel
theorem dX7_add_67 : decode cX7_add 67 = .ok (.putfield 26, 3) := by decide +kernel
theorem dX7_add_70 : decode cX7_add 70 = .ok (.aload_n 0, 1) := by decide +kernel
theorem dX7_add_71 : decode cX7_add 71 = .ok (.dup, 1) := by decide +kernel
theorem dX7_add_72 : decode cX7_add 72 = .ok (.getfield 18, 3) := by decide +kernel
theorem dX7_add_75 : decode cX7_add 75 = .ok (.iconst 1, 1) := by decide +kernel
theorem dX7_add_76 : decode cX7_add 76 = .ok (.iadd, 1) := by decide +kernel
theorem dX7_add_77 : decode cX7_add 77 = .ok (.putfield 18, 3) := by decide +kernel
theorem dX7_add_80 : decode cX7_add 80 = .ok (.iconst 1, 1) := by decide +kernel
theorem dX7_add_81 : decode cX7_add 81 = .ok (.ireturn, 1) := by decide +kernel
theorem dX7_copyFrom_0 : decode cX7_copyFrom 0 = .ok (.aload_n 0, 1) := by decide +kernel
theorem dX7_copyFrom_1 : decode cX7_copyFrom 1 = .ok (.aload_n 1, 1) := by decide +kernel
theorem dX7_copyFrom_2 : decode cX7_copyFrom 2 = .ok (.getfield 18, 3) := by decide +kernel
theorem dX7_copyFrom_5 : decode cX7_copyFrom 5 = .ok (.putfield 18, 3) := by decide +kernel
theorem dX7_copyFrom_8 : decode cX7_copyFrom 8 = .ok (.aload_n 0, 1) := by decide +kernel
theorem dX7_copyFrom_9 : decode cX7_copyFrom 9 = .ok (.aload_n 1, 1) := by decide +kernel
theorem dX7_copyFrom_10 : decode cX7_copyFrom 10 = .ok (.getfield 26, 3) := by decide +kernel
theorem dX7_copyFrom_13 : decode cX7_copyFrom 13 = .ok (.putfield 26, 3) := by decide +kernel
theorem dX7_copyFrom_16 : decode cX7_copyFrom 16 = .ok (.aload_n 1, 1) := by decide +kernel
theorem dX7_copyFrom_17 : decode cX7_copyFrom 17 = .ok (.getfield 9, 3) := by decide +kernel
theorem dX7_copyFrom_20 : decode cX7_copyFrom 20 = .ok (.iconst 0, 1) := by decide +kernel
theorem dX7_copyFrom_21 : decode cX7_copyFrom 21 = .ok (.aload_n 0, 1) := by decide +kernel
theorem dX7_copyFrom_22 : decode cX7_copyFrom 22 = .ok (.getfield 9, 3) := by decide +kernel
theorem dX7_copyFrom_25 : decode cX7_copyFrom 25 = .ok (.iconst 0, 1) := by decide +kernel
theorem dX7_copyFrom_26 : decode cX7_copyFrom 26 = .ok (.bipush 8, 2) := by decide +kernel
theorem dX7_copyFrom_28 : decode cX7_copyFrom 28 = .ok (.invokestatic 29, 3) := by decide +kernel
theorem dX7_copyFrom_31 : decode cX7_copyFrom 31 = .ok (.aload_n 1, 1) := by decide +kernel
theorem dX7_copyFrom_32 : decode cX7_copyFrom 32 = .ok (.getfield 15, 3) := by decide +kernel
theorem dX7_copyFrom_35 : decode cX7_copyFrom 35 = .ok (.iconst 0, 1) := by decide +kernel
theorem dX7_copyFrom_36 : decode cX7_copyFrom 36 = .ok (.aload_n 0, 1) := by decide +kernel
theorem dX7_copyFrom_37 : decode cX7_copyFrom 37 = .ok (.getfield 15, 3) := by decide +kernel
theorem dX7_copyFrom_40 : decode cX7_copyFrom 40 = .ok (.iconst 0, 1) := by decide +kernel
theorem dX7_copyFrom_41 : decode cX7_copyFrom 41 = .ok (.bipush 8, 2) := by decide +kernel
theorem dX7_copyFrom_43 : decode cX7_copyFrom 43 = .ok (.invokestatic 29, 3) := by decide +kernel
theorem dX7_copyFrom_46 : decode cX7_copyFrom 46 = .ok (.return_, 1) := by decide +kernel
theorem dX8_init_0 : decode cX8_init 0 = .ok (.aload_n 0, 1) := by decide +kernel
theorem dX8_init_1 : decode cX8_init 1 = .ok (.invokespecial 3, 3) := by decide +kernel
theorem dX8_init_4 : decode cX8_init 4 = .ok (.aload_n 0, 1) := by decide +kernel
theorem dX8_init_5 : decode cX8_init 5 = .ok (.iconst 5, 1) := by decide +kernel
theorem dX8_init_6 : decode cX8_init 6 = .ok (.newarray .int, 2) := by decide +kernel
theorem dX8_init_8 : decode cX8_init 8 = .ok (.putfield 9, 3) := by decide +kernel
theorem dX8_init_11 : decode cX8_init 11 = .ok (.return_, 1) := by decide +kernel
theorem dX8_clear_0 : decode cX8_clear 0 = .ok (.aload_n 0, 1) := by decide +kernel
theorem dX8_clear_1 : decode cX8_clear 1 = .ok (.iconst 0, 1) := by decide +kernel
theorem dX8_clear_2 : decode cX8_clear 2 = .ok (.putfield 15, 3) := by decide +kernel
theorem dX8_clear_5 : decode cX8_clear 5 = .ok (.aload_n 0, 1) := by decide +kernel
theorem dX8_clear_6 : decode cX8_clear 6 = .ok (.bipush (-6), 2) := by decide +kernel
theorem dX8_clear_8 : decode cX8_clear 8 = .ok (.putfield 19, 3) := by decide +kernel
theorem dX8_clear_11 : decode cX8_clear 11 = .ok (.aload_n 0, 1) := by decide +kernel
theorem dX8_clear_12 : decode cX8_clear 12 = .ok (.bipush (-6), 2) := by decide +kernel
theorem dX8_clear_14 : decode cX8_clear 14 = .ok (.putfield 22, 3) := by decide +kernel
theorem dX8_clear_17 : decode cX8_clear 17 = .ok (.iconst 0, 1) := by decide +kernel
theorem dX8_clear_18 : decode cX8_clear 18 = .ok (.istore_n 1, 1) := by decide +kernel
theorem dX8_clear_19 : decode cX8_clear 19 = .ok (.iload_n 1, 1) := by decide +kernel
theorem dX8_clear_20 : decode cX8_clear 20 = .ok (.iconst 5, 1) := by decide +kernel
theorem dX8_clear_21 : decode cX8_clear 21 = .ok (.if_icmp .ge 16, 3) := by decide +kernel
theorem dX8_clear_24 : decode cX8_clear 24 = .ok (.aload_n 0, 1) := by decide +kernel
theorem dX8_clear_25 : decode cX8_clear 25 = .ok (.getfield 9, 3) := by decide +kernel
theorem dX8_clear_28 : decode cX8_clear 28 = .ok (.iload_n 1, 1) := by decide +kernel
theorem dX8_clear_29 : decode cX8_clear 29 = .ok (.iconst 0, 1) := by decide +kernel
theorem dX8_clear_30 : decode cX8_clear 30 = .ok (.iastore, 1) := by decide +kernel
theorem dX8_clear_31 : decode cX8_clear 31 = .ok (.iinc 1 1, 3) := by decide +kernel
theorem dX8_clear_34 : decode cX8_clear 34 = .ok (.goto (-15), 3) := by decide +kernel
theorem dX8_clear_37 : decode cX8_clear 37 = .ok (.return_, 1) := by decide +kernel
theorem dX8_add_0 : decode cX8_add 0 = .ok (.iload_n 1, 1) := by decide +kernel
theorem dX8_add_1 : decode cX8_add 1 = .ok (.iconst 0, 1) := by decide +kernel
theorem dX8_add_2 : decode cX8_add 2 = .ok (.iconst 4, 1) := by decide +kernel
theorem dX8_add_3 : decode cX8_add 3 = .ok (.invokestatic 25, 3) := by decide +kernel
theorem dX8_add_6 : decode cX8_add 6 = .ok (.ifCond .ne 4, 3) := by decide +kernel
theorem dX8_add_9 : decode cX8_add 9 = .ok (.return_, 1) := by decide +kernel
theorem dX8_add_10 : decode cX8_add 10 = .ok (.aload_n 0, 1) := by decide +kernel
theorem dX8_add_11 : decode cX8_add 11 = .ok (.dup, 1) := by decide +kernel
theorem dX8_add_12 : decode cX8_add 12 = .ok (.getfield 15, 3) := by decide +kernel
theorem dX8_add_15 : decode cX8_add 15 = .ok (.iconst 1, 1) := by decide +kernel
theorem dX8_add_16 : decode cX8_add 16 = .ok (.iadd, 1) := by decide +kernel
theorem dX8_add_17 : decode cX8_add 17 = .ok (.putfield 15, 3) := by decide +kernel
theorem dX8_add_20 : decode cX8_add 20 = .ok (.aload_n 0, 1) := by decide +kernel
theorem dX8_add_21 : decode cX8_add 21 = .ok (.getfield 9, 3) := by decide +kernel
theorem dX8_add_24 : decode cX8_add 24 = .ok (.iload_n 1, 1) := by decide +kernel
theorem dX8_add_25 : decode cX8_add 25 = .ok (.dup2, 1) := by decide +kernel
theorem dX8_add_26 : decode cX8_add 26 = .ok (.iaload, 1) := by decide +kernel
theorem dX8_add_27 : decode cX8_add 27 = .ok (.iconst 1, 1) := by decide +kernel
theorem dX8_add_28 : decode cX8_add 28 = .ok (.iadd, 1) := by decide +kernel
theorem dX8_add_29 : decode cX8_add 29 = .ok (.iastore, 1) := by decide +kernel
theorem dX8_add_30 : decode cX8_add 30 = .ok (.iload_n 1, 1) := by decide +kernel
theorem dX8_add_31 : decode cX8_add 31 = .ok (.iconst 3, 1) := by decide +kernel
theorem dX8_add_32 : decode cX8_add 32 = .ok (.if_icmp .ne 25, 3) := by decide +kernel
theorem dX8_add_35 : decode cX8_add 35 = .ok (.aload_n 0, 1) := by decide +kernel
theorem dX8_add_36 : decode cX8_add 36 = .ok (.getfield 19, 3) := by decide +kernel
theorem dX8_add_39 : decode cX8_add 39 = .ok (.bipush (-6), 2) := by decide +kernel
theorem dX8_add_41 : decode cX8_add 41 = .ok (.if_icmp .ne 16, 3) := by decide +kernel
theorem dX8_add_44 : decode cX8_add 44 = .ok (.aload_n 0, 1) := by decide +kernel
theorem dX8_add_45 : decode cX8_add 45 = .ok (.aload_n 0, 1) := by decide +kernel
theorem dX8_add_46 : decode cX8_add 46 = .ok (.getfield 15, 3) := by decide +kernel
theorem dX8_add_49 : decode cX8_add 49 = .ok (.putfield 19, 3) := by decide +kernel
theorem dX8_add_52 : decode cX8_add 52 = .ok (.aload_n 0, 1) := by decide +kernel
theorem dX8_add_53 : decode cX8_add 53 = .ok (.iload_n 2, 1) := by decide +kernel
theorem dX8_add_54 : decode cX8_add 54 = .ok (.putfield 22, 3) := by decide +kernel
theorem dX8_add_57 : decode cX8_add 57 = .ok (.return_, 1) := by decide +kernel
theorem dX9_init_0 : decode cX9_init 0 = .ok (.aload_n 0, 1) := by decide +kernel
theorem dX9_init_1 : decode cX9_init 1 = .ok (.invokespecial 3, 3) := by decide +kernel
theorem dX9_init_4 : decode cX9_init 4 = .ok (.aload_n 0, 1) := by decide +kernel
theorem dX9_init_5 : decode cX9_init 5 = .ok (.new 9, 3) := by decide +kernel
theorem dX9_init_8 : decode cX9_init 8 = .ok (.dup, 1) := by decide +kernel
theorem dX9_init_9 : decode cX9_init 9 = .ok (.invokespecial 11, 3) := by decide +kernel
theorem dX9_init_12 : decode cX9_init 12 = .ok (.putfield 12, 3) := by decide +kernel
theorem dX9_init_15 : decode cX9_init 15 = .ok (.aload_n 0, 1) := by decide +kernel
theorem dX9_init_16 : decode cX9_init 16 = .ok (.new 18, 3) := by decide +kernel
theorem dX9_init_19 : decode cX9_init 19 = .ok (.dup, 1) := by decide +kernel
theorem dX9_init_20 : decode cX9_init 20 = .ok (.invokespecial 20, 3) := by decide +kernel
theorem dX9_init_23 : decode cX9_init 23 = .ok (.putfield 21, 3) := by decide +kernel
theorem dX9_init_26 : decode cX9_init 26 = .ok (.aload_n 0, 1) := by decide +kernel
theorem dX9_init_27 : decode cX9_init 27 = .ok (.new 25, 3) := by decide +kernel
theorem dX9_init_30 : decode cX9_init 30 = .ok (.dup, 1) := by decide +kernel
theorem dX9_init_31 : decode cX9_init 31 = .ok (.invokespecial 27, 3) := by decide +kernel
theorem dX9_init_34 : decode cX9_init 34 = .ok (.putfield 28, 3) := by decide +kernel
theorem dX9_init_37 : decode cX9_init 37 = .ok (.aload_n 0, 1) := by decide +kernel
theorem dX9_init_38 : decode cX9_init 38 = .ok (.new 32, 3) := by decide +kernel
theorem dX9_init_41 : decode cX9_init 41 = .ok (.dup, 1) := by decide +kernel
theorem dX9_init_42 : decode cX9_init 42 = .ok (.invokespecial 34, 3) := by decide +kernel
theorem dX9_init_45 : decode cX9_init 45 = .ok (.putfield 35, 3) := by decide +kernel
theorem dX9_init_48 : decode cX9_init 48 = .ok (.return_, 1) := by decide +kernel
theorem dX9_begin_0 : decode cX9_begin 0 = .ok (.aload_n 0, 1) := by decide +kernel
theorem dX9_begin_1 : decode cX9_begin 1 = .ok (.getfield 12, 3) := by decide +kernel
theorem dX9_begin_4 : decode cX9_begin 4 = .ok (.aload_n 1, 1) := by decide +kernel
theorem dX9_begin_5 : decode cX9_begin 5 = .ok (.getfield 39, 3) := by decide +kernel
theorem dX9_begin_8 : decode cX9_begin 8 = .ok (.invokevirtual 42, 3) := by decide +kernel
theorem dX9_begin_11 : decode cX9_begin 11 = .ok (.aload_n 0, 1) := by decide +kernel
theorem dX9_begin_12 : decode cX9_begin 12 = .ok (.getfield 21, 3) := by decide +kernel
theorem dX9_begin_15 : decode cX9_begin 15 = .ok (.aload_n 1, 1) := by decide +kernel
theorem dX9_begin_16 : decode cX9_begin 16 = .ok (.getfield 46, 3) := by decide +kernel
theorem dX9_begin_19 : decode cX9_begin 19 = .ok (.invokevirtual 47, 3) := by decide +kernel
theorem dX9_begin_22 : decode cX9_begin 22 = .ok (.aload_n 0, 1) := by decide +kernel
theorem dX9_begin_23 : decode cX9_begin 23 = .ok (.getfield 28, 3) := by decide +kernel
theorem dX9_begin_26 : decode cX9_begin 26 = .ok (.invokevirtual 50, 3) := by decide +kernel
theorem dX9_begin_29 : decode cX9_begin 29 = .ok (.aload_n 0, 1) := by decide +kernel
theorem dX9_begin_30 : decode cX9_begin 30 = .ok (.iconst 0, 1) := by decide +kernel
theorem dX9_begin_31 : decode cX9_begin 31 = .ok (.putfield 53, 3) := by decide +kernel
theorem dX9_begin_34 : decode cX9_begin 34 = .ok (.aload_n 0, 1) := by decide +kernel
theorem dX9_begin_35 : decode cX9_begin 35 = .ok (.bipush (-6), 2) := by decide +kernel
theorem dX9_begin_37 : decode cX9_begin 37 = .ok (.putfield 57, 3) := by decide +kernel
theorem dX9_begin_40 : decode cX9_begin 40 = .ok (.aload_n 0, 1) := by decide +kernel
theorem dX9_begin_41 : decode cX9_begin 41 = .ok (.bipush (-6), 2) := by decide +kernel
theorem dX9_begin_43 : decode cX9_begin 43 = .ok (.putfield 60, 3) := by decide +kernel
theorem dX9_begin_46 : decode cX9_begin 46 = .ok (.return_, 1) := by decide +kernel
theorem dX9_playPad_0 : decode cX9_playPad 0 = .ok (.iconst 0, 1) := by decide +kernel
theorem dX9_playPad_1 : decode cX9_playPad 1 = .ok (.istore_n 2, 1) := by decide +kernel
theorem dX9_playPad_2 : decode cX9_playPad 2 = .ok (.iload_n 2, 1) := by decide +kernel
theorem dX9_playPad_3 : decode cX9_playPad 3 = .ok (.aload_n 1, 1) := by decide +kernel
theorem dX9_playPad_4 : decode cX9_playPad 4 = .ok (.getfield 63, 3) := by decide +kernel
theorem dX9_playPad_7 : decode cX9_playPad 7 = .ok (.if_icmp .ge 68, 3) := by decide +kernel
theorem dX9_playPad_10 : decode cX9_playPad 10 = .ok (.aload_n 1, 1) := by decide +kernel
theorem dX9_playPad_11 : decode cX9_playPad 11 = .ok (.iload_n 2, 1) := by decide +kernel
theorem dX9_playPad_12 : decode cX9_playPad 12 = .ok (.aload_n 0, 1) := by decide +kernel
theorem dX9_playPad_13 : decode cX9_playPad 13 = .ok (.getfield 35, 3) := by decide +kernel
theorem dX9_playPad_16 : decode cX9_playPad 16 = .ok (.invokevirtual 68, 3) := by decide +kernel
theorem dX9_playPad_19 : decode cX9_playPad 19 = .ok (.aload_n 0, 1) := by decide +kernel
theorem dX9_playPad_20 : decode cX9_playPad 20 = .ok (.invokevirtual 72, 3) := by decide +kernel
theorem dX9_playPad_23 : decode cX9_playPad 23 = .ok (.istore_n 3, 1) := by decide +kernel
theorem dX9_playPad_24 : decode cX9_playPad 24 = .ok (.iload_n 3, 1) := by decide +kernel
theorem dX9_playPad_25 : decode cX9_playPad 25 = .ok (.ifCond .eq 17, 3) := by decide +kernel
theorem dX9_playPad_28 : decode cX9_playPad 28 = .ok (.aload_n 0, 1) := by decide +kernel
theorem dX9_playPad_29 : decode cX9_playPad 29 = .ok (.aload_n 0, 1) := by decide +kernel
theorem dX9_playPad_30 : decode cX9_playPad 30 = .ok (.getfield 53, 3) := by decide +kernel
theorem dX9_playPad_33 : decode cX9_playPad 33 = .ok (.putfield 57, 3) := by decide +kernel
theorem dX9_playPad_36 : decode cX9_playPad 36 = .ok (.aload_n 0, 1) := by decide +kernel
theorem dX9_playPad_37 : decode cX9_playPad 37 = .ok (.iload_n 3, 1) := by decide +kernel
theorem dX9_playPad_38 : decode cX9_playPad 38 = .ok (.putfield 60, 3) := by decide +kernel
theorem dX9_playPad_41 : decode cX9_playPad 41 = .ok (.return_, 1) := by decide +kernel
theorem dX9_playPad_42 : decode cX9_playPad 42 = .ok (.aload_n 0, 1) := by decide +kernel
theorem dX9_playPad_43 : decode cX9_playPad 43 = .ok (.invokevirtual 76, 3) := by decide +kernel
theorem dX9_playPad_46 : decode cX9_playPad 46 = .ok (.aload_n 0, 1) := by decide +kernel
theorem dX9_playPad_47 : decode cX9_playPad 47 = .ok (.dup, 1) := by decide +kernel
theorem dX9_playPad_48 : decode cX9_playPad 48 = .ok (.getfield 53, 3) := by decide +kernel
theorem dX9_playPad_51 : decode cX9_playPad 51 = .ok (.iconst 1, 1) := by decide +kernel
theorem dX9_playPad_52 : decode cX9_playPad 52 = .ok (.iadd, 1) := by decide +kernel
theorem dX9_playPad_53 : decode cX9_playPad 53 = .ok (.putfield 53, 3) := by decide +kernel
theorem dX9_playPad_56 : decode cX9_playPad 56 = .ok (.iload_n 2, 1) := by decide +kernel
theorem dX9_playPad_57 : decode cX9_playPad 57 = .ok (.aload_n 1, 1) := by decide +kernel
theorem dX9_playPad_58 : decode cX9_playPad 58 = .ok (.iload_n 2, 1) := by decide +kernel
theorem dX9_playPad_59 : decode cX9_playPad 59 = .ok (.invokevirtual 79, 3) := by decide +kernel
theorem dX9_playPad_62 : decode cX9_playPad 62 = .ok (.ifCond .eq 7, 3) := by decide +kernel
theorem dX9_playPad_65 : decode cX9_playPad 65 = .ok (.iconst 3, 1) := by decide +kernel
theorem dX9_playPad_66 : decode cX9_playPad 66 = .ok (.goto 4, 3) := by decide +kernel
theorem dX9_playPad_69 : decode cX9_playPad 69 = .ok (.iconst 2, 1) := by decide +kernel
theorem dX9_playPad_70 : decode cX9_playPad 70 = .ok (.iadd, 1) := by decide +kernel
theorem dX9_playPad_71 : decode cX9_playPad 71 = .ok (.istore_n 2, 1) := by decide +kernel
theorem dX9_playPad_72 : decode cX9_playPad 72 = .ok (.goto (-70), 3) := by decide +kernel
theorem dX9_playPad_75 : decode cX9_playPad 75 = .ok (.return_, 1) := by decide +kernel
theorem dX9_playYear_0 : decode cX9_playYear 0 = .ok (.iload_n 1, 1) := by decide +kernel
theorem dX9_playYear_1 : decode cX9_playYear 1 = .ok (.istore_n 3, 1) := by decide +kernel
theorem dX9_playYear_2 : decode cX9_playYear 2 = .ok (.iconst 0, 1) := by decide +kernel
theorem dX9_playYear_3 : decode cX9_playYear 3 = .ok (.istore 4, 2) := by decide +kernel
theorem dX9_playYear_5 : decode cX9_playYear 5 = .ok (.iload 4, 2) := by decide +kernel
theorem dX9_playYear_7 : decode cX9_playYear 7 = .ok (.iload_n 2, 1) := by decide +kernel
theorem dX9_playYear_8 : decode cX9_playYear 8 = .ok (.if_icmp .ge 36, 3) := by decide +kernel
theorem dX9_playYear_11 : decode cX9_playYear 11 = .ok (.bipush 75, 2) := by decide +kernel
theorem dX9_playYear_13 : decode cX9_playYear 13 = .ok (.iload_n 3, 1) := by decide +kernel
theorem dX9_playYear_14 : decode cX9_playYear 14 = .ok (.imul, 1) := by decide +kernel
theorem dX9_playYear_15 : decode cX9_playYear 15 = .ok (.bipush 74, 2) := by decide +kernel
theorem dX9_playYear_17 : decode cX9_playYear 17 = .ok (.iadd, 1) := by decide +kernel
theorem dX9_playYear_18 : decode cX9_playYear 18 = .ok (.ldc 83, 2) := by decide +kernel
theorem dX9_playYear_20 : decode cX9_playYear 20 = .ok (.irem, 1) := by decide +kernel
theorem dX9_playYear_21 : decode cX9_playYear 21 = .ok (.istore_n 3, 1) := by decide +kernel
theorem dX9_playYear_22 : decode cX9_playYear 22 = .ok (.aload_n 0, 1) := by decide +kernel
theorem dX9_playYear_23 : decode cX9_playYear 23 = .ok (.iload_n 3, 1) := by decide +kernel
theorem dX9_playYear_24 : decode cX9_playYear 24 = .ok (.invokevirtual 84, 3) := by decide +kernel
theorem dX9_playYear_27 : decode cX9_playYear 27 = .ok (.aload_n 0, 1) := by decide +kernel
theorem dX9_playYear_28 : decode cX9_playYear 28 = .ok (.invokevirtual 72, 3) := by decide +kernel
theorem dX9_playYear_31 : decode cX9_playYear 31 = .ok (.ifCond .ne 7, 3) := by decide +kernel
theorem dX9_playYear_34 : decode cX9_playYear 34 = .ok (.aload_n 0, 1) := by decide +kernel
theorem dX9_playYear_35 : decode cX9_playYear 35 = .ok (.invokevirtual 76, 3) := by decide +kernel
theorem dX9_playYear_38 : decode cX9_playYear 38 = .ok (.iinc 4 1, 3) := by decide +kernel
theorem dX9_playYear_41 : decode cX9_playYear 41 = .ok (.goto (-36), 3) := by decide +kernel
theorem dX9_playYear_44 : decode cX9_playYear 44 = .ok (.return_, 1) := by decide +kernel
theorem dX9_readDraw_0 : decode cX9_readDraw 0 = .ok (.iconst 1, 1) := by decide +kernel
theorem dX9_readDraw_1 : decode cX9_readDraw 1 = .ok (.iload_n 1, 1) := by decide +kernel
theorem dX9_readDraw_2 : decode cX9_readDraw 2 = .ok (.bipush 20, 2) := by decide +kernel
theorem dX9_readDraw_4 : decode cX9_readDraw 4 = .ok (.idiv, 1) := by decide +kernel
theorem dX9_readDraw_5 : decode cX9_readDraw 5 = .ok (.bipush 9, 2) := by decide +kernel
theorem dX9_readDraw_7 : decode cX9_readDraw 7 = .ok (.irem, 1) := by decide +kernel
theorem dX9_readDraw_8 : decode cX9_readDraw 8 = .ok (.iadd, 1) := by decide +kernel
theorem dX9_readDraw_9 : decode cX9_readDraw 9 = .ok (.istore_n 2, 1) := by decide +kernel
theorem dX9_readDraw_10 : decode cX9_readDraw 10 = .ok (.iload_n 1, 1) := by decide +kernel
theorem dX9_readDraw_11 : decode cX9_readDraw 11 = .ok (.iconst 5, 1) := by decide +kernel
theorem dX9_readDraw_12 : decode cX9_readDraw 12 = .ok (.idiv, 1) := by decide +kernel
theorem dX9_readDraw_13 : decode cX9_readDraw 13 = .ok (.iconst 4, 1) := by decide +kernel
theorem dX9_readDraw_14 : decode cX9_readDraw 14 = .ok (.irem, 1) := by decide +kernel
theorem dX9_readDraw_15 : decode cX9_readDraw 15 = .ok (.tableswitch 76 0 2 #[25, 46, 61], 25) := by decide +kernel
theorem dX9_readDraw_40 : decode cX9_readDraw 40 = .ok (.aload_n 0, 1) := by decide +kernel
theorem dX9_readDraw_41 : decode cX9_readDraw 41 = .ok (.getfield 35, 3) := by decide +kernel
theorem dX9_readDraw_44 : decode cX9_readDraw 44 = .ok (.iload_n 1, 1) := by decide +kernel
theorem dX9_readDraw_45 : decode cX9_readDraw 45 = .ok (.iconst 5, 1) := by decide +kernel
theorem dX9_readDraw_46 : decode cX9_readDraw 46 = .ok (.irem, 1) := by decide +kernel
theorem dX9_readDraw_47 : decode cX9_readDraw 47 = .ok (.iconst 0, 1) := by decide +kernel
theorem dX9_readDraw_48 : decode cX9_readDraw 48 = .ok (.iload_n 1, 1) := by decide +kernel
theorem dX9_readDraw_49 : decode cX9_readDraw 49 = .ok (.bipush 20, 2) := by decide +kernel
theorem dX9_readDraw_51 : decode cX9_readDraw 51 = .ok (.idiv, 1) := by decide +kernel
theorem dX9_readDraw_52 : decode cX9_readDraw 52 = .ok (.bipush 8, 2) := by decide +kernel
theorem dX9_readDraw_54 : decode cX9_readDraw 54 = .ok (.irem, 1) := by decide +kernel
theorem dX9_readDraw_55 : decode cX9_readDraw 55 = .ok (.invokevirtual 88, 3) := by decide +kernel
theorem dX9_readDraw_58 : decode cX9_readDraw 58 = .ok (.goto 45, 3) := by decide +kernel
theorem dX9_readDraw_61 : decode cX9_readDraw 61 = .ok (.aload_n 0, 1) := by decide +kernel
theorem dX9_readDraw_62 : decode cX9_readDraw 62 = .ok (.getfield 35, 3) := by decide +kernel
theorem dX9_readDraw_65 : decode cX9_readDraw 65 = .ok (.iload_n 1, 1) := by decide +kernel
theorem dX9_readDraw_66 : decode cX9_readDraw 66 = .ok (.iconst 5, 1) := by decide +kernel
theorem dX9_readDraw_67 : decode cX9_readDraw 67 = .ok (.irem, 1) := by decide +kernel
theorem dX9_readDraw_68 : decode cX9_readDraw 68 = .ok (.iconst 2, 1) := by decide +kernel
theorem dX9_readDraw_69 : decode cX9_readDraw 69 = .ok (.iload_n 2, 1) := by decide +kernel
theorem dX9_readDraw_70 : decode cX9_readDraw 70 = .ok (.invokevirtual 88, 3) := by decide +kernel
theorem dX9_readDraw_73 : decode cX9_readDraw 73 = .ok (.goto 30, 3) := by decide +kernel
theorem dX9_readDraw_76 : decode cX9_readDraw 76 = .ok (.aload_n 0, 1) := by decide +kernel
theorem dX9_readDraw_77 : decode cX9_readDraw 77 = .ok (.getfield 35, 3) := by decide +kernel
theorem dX9_readDraw_80 : decode cX9_readDraw 80 = .ok (.iload_n 1, 1) := by decide +kernel
theorem dX9_readDraw_81 : decode cX9_readDraw 81 = .ok (.iconst 5, 1) := by decide +kernel
theorem dX9_readDraw_82 : decode cX9_readDraw 82 = .ok (.irem, 1) := by decide +kernel
theorem dX9_readDraw_83 : decode cX9_readDraw 83 = .ok (.iconst 3, 1) := by decide +kernel
theorem dX9_readDraw_84 : decode cX9_readDraw 84 = .ok (.iload_n 2, 1) := by decide +kernel
theorem dX9_readDraw_85 : decode cX9_readDraw 85 = .ok (.invokevirtual 88, 3) := by decide +kernel
theorem dX9_readDraw_88 : decode cX9_readDraw 88 = .ok (.goto 15, 3) := by decide +kernel
theorem dX9_readDraw_91 : decode cX9_readDraw 91 = .ok (.aload_n 0, 1) := by decide +kernel
theorem dX9_readDraw_92 : decode cX9_readDraw 92 = .ok (.getfield 35, 3) := by decide +kernel
theorem dX9_readDraw_95 : decode cX9_readDraw 95 = .ok (.iload_n 1, 1) := by decide +kernel
theorem dX9_readDraw_96 : decode cX9_readDraw 96 = .ok (.iconst 5, 1) := by decide +kernel
theorem dX9_readDraw_97 : decode cX9_readDraw 97 = .ok (.irem, 1) := by decide +kernel
theorem dX9_readDraw_98 : decode cX9_readDraw 98 = .ok (.iconst 4, 1) := by decide +kernel
theorem dX9_readDraw_99 : decode cX9_readDraw 99 = .ok (.iload_n 2, 1) := by decide +kernel
theorem dX9_readDraw_100 : decode cX9_readDraw 100 = .ok (.invokevirtual 88, 3) := by decide +kernel
theorem dX9_readDraw_103 : decode cX9_readDraw 103 = .ok (.return_, 1) := by decide +kernel
theorem dX9_reasonAgainst_0 : decode cX9_reasonAgainst 0 = .ok (.aload_n 0, 1) := by decide +kernel
theorem dX9_reasonAgainst_1 : decode cX9_reasonAgainst 1 = .ok (.getfield 35, 3) := by decide +kernel
theorem dX9_reasonAgainst_4 : decode cX9_reasonAgainst 4 = .ok (.getfield 92, 3) := by decide +kernel
theorem dX9_reasonAgainst_7 : decode cX9_reasonAgainst 7 = .ok (.istore_n 1, 1) := by decide +kernel
theorem dX9_reasonAgainst_8 : decode cX9_reasonAgainst 8 = .ok (.aload_n 0, 1) := by decide +kernel
theorem dX9_reasonAgainst_9 : decode cX9_reasonAgainst 9 = .ok (.getfield 21, 3) := by decide +kernel
theorem dX9_reasonAgainst_12 : decode cX9_reasonAgainst 12 = .ok (.iload_n 1, 1) := by decide +kernel
theorem dX9_reasonAgainst_13 : decode cX9_reasonAgainst 13 = .ok (.invokevirtual 95, 3) := by decide +kernel
theorem dX9_reasonAgainst_16 : decode cX9_reasonAgainst 16 = .ok (.ifCond .eq 31, 3) := by decide +kernel
theorem dX9_reasonAgainst_19 : decode cX9_reasonAgainst 19 = .ok (.aload_n 0, 1) := by decide +kernel
theorem dX9_reasonAgainst_20 : decode cX9_reasonAgainst 20 = .ok (.getfield 35, 3) := by decide +kernel
theorem dX9_reasonAgainst_23 : decode cX9_reasonAgainst 23 = .ok (.getfield 98, 3) := by decide +kernel
theorem dX9_reasonAgainst_26 : decode cX9_reasonAgainst 26 = .ok (.iconst 5, 1) := by decide +kernel
theorem dX9_reasonAgainst_27 : decode cX9_reasonAgainst 27 = .ok (.if_icmp .ne 22, 3) := by decide +kernel
theorem dX9_reasonAgainst_30 : decode cX9_reasonAgainst 30 = .ok (.aload_n 0, 1) := by decide +kernel
theorem dX9_reasonAgainst_31 : decode cX9_reasonAgainst 31 = .ok (.getfield 21, 3) := by decide +kernel
theorem dX9_reasonAgainst_34 : decode cX9_reasonAgainst 34 = .ok (.aload_n 0, 1) := by decide +kernel
theorem dX9_reasonAgainst_35 : decode cX9_reasonAgainst 35 = .ok (.getfield 35, 3) := by decide +kernel
theorem dX9_reasonAgainst_38 : decode cX9_reasonAgainst 38 = .ok (.getfield 101, 3) := by decide +kernel
theorem dX9_reasonAgainst_41 : decode cX9_reasonAgainst 41 = .ok (.invokevirtual 95, 3) := by decide +kernel
theorem dX9_reasonAgainst_44 : decode cX9_reasonAgainst 44 = .ok (.ifCond .ne 5, 3) := by decide +kernel
theorem dX9_reasonAgainst_47 : decode cX9_reasonAgainst 47 = .ok (.iconst 1, 1) := by decide +kernel
theorem dX9_reasonAgainst_48 : decode cX9_reasonAgainst 48 = .ok (.ireturn, 1) := by decide +kernel
theorem dX9_reasonAgainst_49 : decode cX9_reasonAgainst 49 = .ok (.aload_n 0, 1) := by decide +kernel
theorem dX9_reasonAgainst_50 : decode cX9_reasonAgainst 50 = .ok (.getfield 35, 3) := by decide +kernel
theorem dX9_reasonAgainst_53 : decode cX9_reasonAgainst 53 = .ok (.getfield 98, 3) := by decide +kernel
theorem dX9_reasonAgainst_56 : decode cX9_reasonAgainst 56 = .ok (.tableswitch 105 0 5 #[57, 69, 69, 105, 63, 40], 40) := by decide +kernel
theorem dX9_reasonAgainst_96 : decode cX9_reasonAgainst 96 = .ok (.aload_n 0, 1) := by decide +kernel
theorem dX9_reasonAgainst_97 : decode cX9_reasonAgainst 97 = .ok (.getfield 35, 3) := by decide +kernel
theorem dX9_reasonAgainst_100 : decode cX9_reasonAgainst 100 = .ok (.getfield 101, 3) := by decide +kernel
theorem dX9_reasonAgainst_103 : decode cX9_reasonAgainst 103 = .ok (.iload_n 1, 1) := by decide +kernel
theorem dX9_reasonAgainst_104 : decode cX9_reasonAgainst 104 = .ok (.if_icmp .ne 7, 3) := by decide +kernel
theorem dX9_reasonAgainst_107 : decode cX9_reasonAgainst 107 = .ok (.iconst 2, 1) := by decide +kernel
theorem dX9_reasonAgainst_108 : decode cX9_reasonAgainst 108 = .ok (.goto 4, 3) := by decide +kernel
theorem dX9_reasonAgainst_111 : decode cX9_reasonAgainst 111 = .ok (.iconst 0, 1) := by decide +kernel
theorem dX9_reasonAgainst_112 : decode cX9_reasonAgainst 112 = .ok (.ireturn, 1) := by decide +kernel
theorem dX9_reasonAgainst_113 : decode cX9_reasonAgainst 113 = .ok (.aload_n 0, 1) := by decide +kernel
theorem dX9_reasonAgainst_114 : decode cX9_reasonAgainst 114 = .ok (.iload_n 1, 1) := by decide +kernel
theorem dX9_reasonAgainst_115 : decode cX9_reasonAgainst 115 = .ok (.invokevirtual 104, 3) := by decide +kernel
theorem dX9_reasonAgainst_118 : decode cX9_reasonAgainst 118 = .ok (.ireturn, 1) := by decide +kernel
theorem dX9_reasonAgainst_119 : decode cX9_reasonAgainst 119 = .ok (.aload_n 0, 1) := by decide +kernel
theorem dX9_reasonAgainst_120 : decode cX9_reasonAgainst 120 = .ok (.iload_n 1, 1) := by decide +kernel
theorem dX9_reasonAgainst_121 : decode cX9_reasonAgainst 121 = .ok (.invokevirtual 108, 3) := by decide +kernel
theorem dX9_reasonAgainst_124 : decode cX9_reasonAgainst 124 = .ok (.ireturn, 1) := by decide +kernel
theorem dX9_reasonAgainst_125 : decode cX9_reasonAgainst 125 = .ok (.aload_n 0, 1) := by decide +kernel
theorem dX9_reasonAgainst_126 : decode cX9_reasonAgainst 126 = .ok (.getfield 21, 3) := by decide +kernel
theorem dX9_reasonAgainst_129 : decode cX9_reasonAgainst 129 = .ok (.getfield 111, 3) := by decide +kernel
theorem dX9_reasonAgainst_132 : decode cX9_reasonAgainst 132 = .ok (.iload_n 1, 1) := by decide +kernel
theorem dX9_reasonAgainst_133 : decode cX9_reasonAgainst 133 = .ok (.iaload, 1) := by decide +kernel
theorem dX9_reasonAgainst_134 : decode cX9_reasonAgainst 134 = .ok (.iconst 3, 1) := by decide +kernel
theorem dX9_reasonAgainst_135 : decode cX9_reasonAgainst 135 = .ok (.aload_n 0, 1) := by decide +kernel
theorem dX9_reasonAgainst_136 : decode cX9_reasonAgainst 136 = .ok (.getfield 35, 3) := by decide +kernel
theorem dX9_reasonAgainst_139 : decode cX9_reasonAgainst 139 = .ok (.getfield 101, 3) := by decide +kernel
theorem dX9_reasonAgainst_142 : decode cX9_reasonAgainst 142 = .ok (.imul, 1) := by decide +kernel
theorem dX9_reasonAgainst_143 : decode cX9_reasonAgainst 143 = .ok (.isub, 1) := by decide +kernel
theorem dX9_reasonAgainst_144 : decode cX9_reasonAgainst 144 = .ok (.aload_n 0, 1) := by decide +kernel
theorem dX9_reasonAgainst_145 : decode cX9_reasonAgainst 145 = .ok (.getfield 12, 3) := by decide +kernel
theorem dX9_reasonAgainst_148 : decode cX9_reasonAgainst 148 = .ok (.getfield 115, 3) := by decide +kernel
theorem dX9_reasonAgainst_151 : decode cX9_reasonAgainst 151 = .ok (.if_icmp .ge 8, 3) := by decide +kernel
theorem dX9_reasonAgainst_154 : decode cX9_reasonAgainst 154 = .ok (.bipush 6, 2) := by decide +kernel
theorem dX9_reasonAgainst_156 : decode cX9_reasonAgainst 156 = .ok (.goto 4, 3) := by decide +kernel
theorem dX9_reasonAgainst_159 : decode cX9_reasonAgainst 159 = .ok (.iconst 0, 1) := by decide +kernel
theorem dX9_reasonAgainst_160 : decode cX9_reasonAgainst 160 = .ok (.ireturn, 1) := by decide +kernel
theorem dX9_reasonAgainst_161 : decode cX9_reasonAgainst 161 = .ok (.iconst 0, 1) := by decide +kernel
theorem dX9_reasonAgainst_162 : decode cX9_reasonAgainst 162 = .ok (.ireturn, 1) := by decide +kernel
theorem dX9_reasonAgainstDraw_0 : decode cX9_reasonAgainstDraw 0 = .ok (.aload_n 0, 1) := by decide +kernel
theorem dX9_reasonAgainstDraw_1 : decode cX9_reasonAgainstDraw 1 = .ok (.getfield 21, 3) := by decide +kernel
theorem dX9_reasonAgainstDraw_4 : decode cX9_reasonAgainstDraw 4 = .ok (.iload_n 1, 1) := by decide +kernel
theorem dX9_reasonAgainstDraw_5 : decode cX9_reasonAgainstDraw 5 = .ok (.invokevirtual 95, 3) := by decide +kernel
theorem dX9_reasonAgainstDraw_8 : decode cX9_reasonAgainstDraw 8 = .ok (.ifCond .ne 5, 3) := by decide +kernel
theorem dX9_reasonAgainstDraw_11 : decode cX9_reasonAgainstDraw 11 = .ok (.iconst 1, 1) := by decide +kernel
theorem dX9_reasonAgainstDraw_12 : decode cX9_reasonAgainstDraw 12 = .ok (.ireturn, 1) := by decide +kernel
theorem dX9_reasonAgainstDraw_13 : decode cX9_reasonAgainstDraw 13 = .ok (.aload_n 0, 1) := by decide +kernel
theorem dX9_reasonAgainstDraw_14 : decode cX9_reasonAgainstDraw 14 = .ok (.getfield 21, 3) := by decide +kernel
theorem dX9_reasonAgainstDraw_17 : decode cX9_reasonAgainstDraw 17 = .ok (.getfield 118, 3) := by decide +kernel
theorem dX9_reasonAgainstDraw_20 : decode cX9_reasonAgainstDraw 20 = .ok (.iload_n 1, 1) := by decide +kernel
theorem dX9_reasonAgainstDraw_21 : decode cX9_reasonAgainstDraw 21 = .ok (.iaload, 1) := by decide +kernel
theorem dX9_reasonAgainstDraw_22 : decode cX9_reasonAgainstDraw 22 = .ok (.bipush (-6), 2) := by decide +kernel
theorem dX9_reasonAgainstDraw_24 : decode cX9_reasonAgainstDraw 24 = .ok (.if_icmp .eq 5, 3) := by decide +kernel
theorem dX9_reasonAgainstDraw_27 : decode cX9_reasonAgainstDraw 27 = .ok (.iconst 3, 1) := by decide +kernel
theorem dX9_reasonAgainstDraw_28 : decode cX9_reasonAgainstDraw 28 = .ok (.ireturn, 1) := by decide +kernel
theorem dX9_reasonAgainstDraw_29 : decode cX9_reasonAgainstDraw 29 = .ok (.aload_n 0, 1) := by decide +kernel
theorem dX9_reasonAgainstDraw_30 : decode cX9_reasonAgainstDraw 30 = .ok (.getfield 21, 3) := by decide +kernel
theorem dX9_reasonAgainstDraw_33 : decode cX9_reasonAgainstDraw 33 = .ok (.getfield 121, 3) := by decide +kernel
theorem dX9_reasonAgainstDraw_36 : decode cX9_reasonAgainstDraw 36 = .ok (.iload_n 1, 1) := by decide +kernel
theorem dX9_reasonAgainstDraw_37 : decode cX9_reasonAgainstDraw 37 = .ok (.iaload, 1) := by decide +kernel
theorem dX9_reasonAgainstDraw_38 : decode cX9_reasonAgainstDraw 38 = .ok (.aload_n 0, 1) := by decide +kernel
theorem dX9_reasonAgainstDraw_39 : decode cX9_reasonAgainstDraw 39 = .ok (.getfield 12, 3) := by decide +kernel
theorem dX9_reasonAgainstDraw_42 : decode cX9_reasonAgainstDraw 42 = .ok (.getfield 124, 3) := by decide +kernel
theorem dX9_reasonAgainstDraw_45 : decode cX9_reasonAgainstDraw 45 = .ok (.if_icmp .le 7, 3) := by decide +kernel
theorem dX9_reasonAgainstDraw_48 : decode cX9_reasonAgainstDraw 48 = .ok (.iconst 5, 1) := by decide +kernel
theorem dX9_reasonAgainstDraw_49 : decode cX9_reasonAgainstDraw 49 = .ok (.goto 4, 3) := by decide +kernel
theorem dX9_reasonAgainstDraw_52 : decode cX9_reasonAgainstDraw 52 = .ok (.iconst 0, 1) := by decide +kernel
theorem dX9_reasonAgainstDraw_53 : decode cX9_reasonAgainstDraw 53 = .ok (.ireturn, 1) := by decide +kernel
theorem dX9_reasonAgainstPulls_0 : decode cX9_reasonAgainstPulls 0 = .ok (.aload_n 0, 1) := by decide +kernel
theorem dX9_reasonAgainstPulls_1 : decode cX9_reasonAgainstPulls 1 = .ok (.getfield 21, 3) := by decide +kernel
theorem dX9_reasonAgainstPulls_4 : decode cX9_reasonAgainstPulls 4 = .ok (.iload_n 1, 1) := by decide +kernel
theorem dX9_reasonAgainstPulls_5 : decode cX9_reasonAgainstPulls 5 = .ok (.invokevirtual 95, 3) := by decide +kernel
theorem dX9_reasonAgainstPulls_8 : decode cX9_reasonAgainstPulls 8 = .ok (.ifCond .ne 5, 3) := by decide +kernel
theorem dX9_reasonAgainstPulls_11 : decode cX9_reasonAgainstPulls 11 = .ok (.iconst 1, 1) := by decide +kernel
theorem dX9_reasonAgainstPulls_12 : decode cX9_reasonAgainstPulls 12 = .ok (.ireturn, 1) := by decide +kernel
theorem dX9_reasonAgainstPulls_13 : decode cX9_reasonAgainstPulls 13 = .ok (.aload_n 0, 1) := by decide +kernel
theorem dX9_reasonAgainstPulls_14 : decode cX9_reasonAgainstPulls 14 = .ok (.getfield 21, 3) := by decide +kernel
theorem dX9_reasonAgainstPulls_17 : decode cX9_reasonAgainstPulls 17 = .ok (.getfield 118, 3) := by decide +kernel
theorem dX9_reasonAgainstPulls_20 : decode cX9_reasonAgainstPulls 20 = .ok (.iload_n 1, 1) := by decide +kernel
theorem dX9_reasonAgainstPulls_21 : decode cX9_reasonAgainstPulls 21 = .ok (.iaload, 1) := by decide +kernel
theorem dX9_reasonAgainstPulls_22 : decode cX9_reasonAgainstPulls 22 = .ok (.bipush (-6), 2) := by decide +kernel
theorem dX9_reasonAgainstPulls_24 : decode cX9_reasonAgainstPulls 24 = .ok (.if_icmp .ne 5, 3) := by decide +kernel
theorem dX9_reasonAgainstPulls_27 : decode cX9_reasonAgainstPulls 27 = .ok (.iconst 4, 1) := by decide +kernel
theorem dX9_reasonAgainstPulls_28 : decode cX9_reasonAgainstPulls 28 = .ok (.ireturn, 1) := by decide +kernel
theorem dX9_reasonAgainstPulls_29 : decode cX9_reasonAgainstPulls 29 = .ok (.aload_n 0, 1) := by decide +kernel
theorem dX9_reasonAgainstPulls_30 : decode cX9_reasonAgainstPulls 30 = .ok (.getfield 21, 3) := by decide +kernel
theorem dX9_reasonAgainstPulls_33 : decode cX9_reasonAgainstPulls 33 = .ok (.getfield 121, 3) := by decide +kernel
theorem dX9_reasonAgainstPulls_36 : decode cX9_reasonAgainstPulls 36 = .ok (.iload_n 1, 1) := by decide +kernel
theorem dX9_reasonAgainstPulls_37 : decode cX9_reasonAgainstPulls 37 = .ok (.iaload, 1) := by decide +kernel
theorem dX9_reasonAgainstPulls_38 : decode cX9_reasonAgainstPulls 38 = .ok (.aload_n 0, 1) := by decide +kernel
theorem dX9_reasonAgainstPulls_39 : decode cX9_reasonAgainstPulls 39 = .ok (.getfield 12, 3) := by decide +kernel
theorem dX9_reasonAgainstPulls_42 : decode cX9_reasonAgainstPulls 42 = .ok (.getfield 124, 3) := by decide +kernel
theorem dX9_reasonAgainstPulls_45 : decode cX9_reasonAgainstPulls 45 = .ok (.if_icmp .le 5, 3) := by decide +kernel
theorem dX9_reasonAgainstPulls_48 : decode cX9_reasonAgainstPulls 48 = .ok (.iconst 5, 1) := by decide +kernel
theorem dX9_reasonAgainstPulls_49 : decode cX9_reasonAgainstPulls 49 = .ok (.ireturn, 1) := by decide +kernel
theorem dX9_reasonAgainstPulls_50 : decode cX9_reasonAgainstPulls 50 = .ok (.aload_n 0, 1) := by decide +kernel
theorem dX9_reasonAgainstPulls_51 : decode cX9_reasonAgainstPulls 51 = .ok (.getfield 21, 3) := by decide +kernel
theorem dX9_reasonAgainstPulls_54 : decode cX9_reasonAgainstPulls 54 = .ok (.getfield 111, 3) := by decide +kernel
theorem dX9_reasonAgainstPulls_57 : decode cX9_reasonAgainstPulls 57 = .ok (.iload_n 1, 1) := by decide +kernel
theorem dX9_reasonAgainstPulls_58 : decode cX9_reasonAgainstPulls 58 = .ok (.iaload, 1) := by decide +kernel
theorem dX9_reasonAgainstPulls_59 : decode cX9_reasonAgainstPulls 59 = .ok (.aload_n 0, 1) := by decide +kernel
theorem dX9_reasonAgainstPulls_60 : decode cX9_reasonAgainstPulls 60 = .ok (.getfield 12, 3) := by decide +kernel
theorem dX9_reasonAgainstPulls_63 : decode cX9_reasonAgainstPulls 63 = .ok (.getfield 115, 3) := by decide +kernel
theorem dX9_reasonAgainstPulls_66 : decode cX9_reasonAgainstPulls 66 = .ok (.if_icmp .ge 8, 3) := by decide +kernel
theorem dX9_reasonAgainstPulls_69 : decode cX9_reasonAgainstPulls 69 = .ok (.bipush 6, 2) := by decide +kernel
theorem dX9_reasonAgainstPulls_71 : decode cX9_reasonAgainstPulls 71 = .ok (.goto 4, 3) := by decide +kernel
theorem dX9_reasonAgainstPulls_74 : decode cX9_reasonAgainstPulls 74 = .ok (.iconst 0, 1) := by decide +kernel
theorem dX9_reasonAgainstPulls_75 : decode cX9_reasonAgainstPulls 75 = .ok (.ireturn, 1) := by decide +kernel
theorem dX9_carryOut_0 : decode cX9_carryOut 0 = .ok (.aload_n 0, 1) := by decide +kernel
theorem dX9_carryOut_1 : decode cX9_carryOut 1 = .ok (.getfield 35, 3) := by decide +kernel
theorem dX9_carryOut_4 : decode cX9_carryOut 4 = .ok (.getfield 92, 3) := by decide +kernel
theorem dX9_carryOut_7 : decode cX9_carryOut 7 = .ok (.istore_n 1, 1) := by decide +kernel
theorem dX9_carryOut_8 : decode cX9_carryOut 8 = .ok (.aload_n 0, 1) := by decide +kernel
theorem dX9_carryOut_9 : decode cX9_carryOut 9 = .ok (.getfield 35, 3) := by decide +kernel
theorem dX9_carryOut_12 : decode cX9_carryOut 12 = .ok (.getfield 98, 3) := by decide +kernel
theorem dX9_carryOut_15 : decode cX9_carryOut 15 = .ok (.tableswitch 136 0 4 #[33, 65, 84, 103, 121], 33) := by decide +kernel
theorem dX9_carryOut_48 : decode cX9_carryOut 48 = .ok (.aload_n 0, 1) := by decide +kernel
theorem dX9_carryOut_49 : decode cX9_carryOut 49 = .ok (.getfield 21, 3) := by decide +kernel
theorem dX9_carryOut_52 : decode cX9_carryOut 52 = .ok (.iload_n 1, 1) := by decide +kernel
theorem dX9_carryOut_53 : decode cX9_carryOut 53 = .ok (.aload_n 0, 1) := by decide +kernel
theorem dX9_carryOut_54 : decode cX9_carryOut 54 = .ok (.getfield 35, 3) := by decide +kernel
theorem dX9_carryOut_57 : decode cX9_carryOut 57 = .ok (.getfield 101, 3) := by decide +kernel
theorem dX9_carryOut_60 : decode cX9_carryOut 60 = .ok (.aload_n 0, 1) := by decide +kernel
theorem dX9_carryOut_61 : decode cX9_carryOut 61 = .ok (.getfield 12, 3) := by decide +kernel
theorem dX9_carryOut_64 : decode cX9_carryOut 64 = .ok (.aload_n 0, 1) := by decide +kernel
theorem dX9_carryOut_65 : decode cX9_carryOut 65 = .ok (.getfield 35, 3) := by decide +kernel
theorem dX9_carryOut_68 : decode cX9_carryOut 68 = .ok (.getfield 101, 3) := by decide +kernel
theorem dX9_carryOut_71 : decode cX9_carryOut 71 = .ok (.invokevirtual 127, 3) := by decide +kernel
theorem dX9_carryOut_74 : decode cX9_carryOut 74 = .ok (.invokevirtual 130, 3) := by decide +kernel
theorem dX9_carryOut_77 : decode cX9_carryOut 77 = .ok (.goto 89, 3) := by decide +kernel
theorem dX9_carryOut_80 : decode cX9_carryOut 80 = .ok (.aload_n 0, 1) := by decide +kernel
theorem dX9_carryOut_81 : decode cX9_carryOut 81 = .ok (.getfield 21, 3) := by decide +kernel
theorem dX9_carryOut_84 : decode cX9_carryOut 84 = .ok (.iload_n 1, 1) := by decide +kernel
theorem dX9_carryOut_85 : decode cX9_carryOut 85 = .ok (.aload_n 0, 1) := by decide +kernel
theorem dX9_carryOut_86 : decode cX9_carryOut 86 = .ok (.getfield 35, 3) := by decide +kernel
theorem dX9_carryOut_89 : decode cX9_carryOut 89 = .ok (.getfield 101, 3) := by decide +kernel
theorem dX9_carryOut_92 : decode cX9_carryOut 92 = .ok (.iconst 1, 1) := by decide +kernel
theorem dX9_carryOut_93 : decode cX9_carryOut 93 = .ok (.invokevirtual 133, 3) := by decide +kernel
theorem dX9_carryOut_96 : decode cX9_carryOut 96 = .ok (.goto 70, 3) := by decide +kernel
theorem dX9_carryOut_99 : decode cX9_carryOut 99 = .ok (.aload_n 0, 1) := by decide +kernel
theorem dX9_carryOut_100 : decode cX9_carryOut 100 = .ok (.getfield 21, 3) := by decide +kernel
theorem dX9_carryOut_103 : decode cX9_carryOut 103 = .ok (.iload_n 1, 1) := by decide +kernel
theorem dX9_carryOut_104 : decode cX9_carryOut 104 = .ok (.aload_n 0, 1) := by decide +kernel
theorem dX9_carryOut_105 : decode cX9_carryOut 105 = .ok (.getfield 35, 3) := by decide +kernel
theorem dX9_carryOut_108 : decode cX9_carryOut 108 = .ok (.getfield 101, 3) := by decide +kernel
theorem dX9_carryOut_111 : decode cX9_carryOut 111 = .ok (.iconst 0, 1) := by decide +kernel
theorem dX9_carryOut_112 : decode cX9_carryOut 112 = .ok (.invokevirtual 133, 3) := by decide +kernel
theorem dX9_carryOut_115 : decode cX9_carryOut 115 = .ok (.goto 51, 3) := by decide +kernel
theorem dX9_carryOut_118 : decode cX9_carryOut 118 = .ok (.aload_n 0, 1) := by decide +kernel
theorem dX9_carryOut_119 : decode cX9_carryOut 119 = .ok (.getfield 21, 3) := by decide +kernel
theorem dX9_carryOut_122 : decode cX9_carryOut 122 = .ok (.iload_n 1, 1) := by decide +kernel
theorem dX9_carryOut_123 : decode cX9_carryOut 123 = .ok (.aload_n 0, 1) := by decide +kernel
theorem dX9_carryOut_124 : decode cX9_carryOut 124 = .ok (.getfield 35, 3) := by decide +kernel
theorem dX9_carryOut_127 : decode cX9_carryOut 127 = .ok (.getfield 101, 3) := by decide +kernel
theorem dX9_carryOut_130 : decode cX9_carryOut 130 = .ok (.invokevirtual 137, 3) := by decide +kernel
theorem dX9_carryOut_133 : decode cX9_carryOut 133 = .ok (.goto 33, 3) := by decide +kernel
theorem dX9_carryOut_136 : decode cX9_carryOut 136 = .ok (.aload_n 0, 1) := by decide +kernel
theorem dX9_carryOut_137 : decode cX9_carryOut 137 = .ok (.iload_n 1, 1) := by decide +kernel
theorem dX9_carryOut_138 : decode cX9_carryOut 138 = .ok (.aload_n 0, 1) := by decide +kernel
theorem dX9_carryOut_139 : decode cX9_carryOut 139 = .ok (.getfield 35, 3) := by decide +kernel
theorem dX9_carryOut_142 : decode cX9_carryOut 142 = .ok (.getfield 101, 3) := by decide +kernel
theorem dX9_carryOut_145 : decode cX9_carryOut 145 = .ok (.invokevirtual 141, 3) := by decide +kernel
theorem dX9_carryOut_148 : decode cX9_carryOut 148 = .ok (.goto 18, 3) := by decide +kernel
theorem dX9_carryOut_151 : decode cX9_carryOut 151 = .ok (.aload_n 0, 1) := by decide +kernel
theorem dX9_carryOut_152 : decode cX9_carryOut 152 = .ok (.getfield 21, 3) := by decide +kernel
theorem dX9_carryOut_155 : decode cX9_carryOut 155 = .ok (.iload_n 1, 1) := by decide +kernel
theorem dX9_carryOut_156 : decode cX9_carryOut 156 = .ok (.aload_n 0, 1) := by decide +kernel
theorem dX9_carryOut_157 : decode cX9_carryOut 157 = .ok (.getfield 35, 3) := by decide +kernel
theorem dX9_carryOut_160 : decode cX9_carryOut 160 = .ok (.getfield 101, 3) := by decide +kernel
theorem dX9_carryOut_163 : decode cX9_carryOut 163 = .ok (.invokevirtual 144, 3) := by decide +kernel
theorem dX9_carryOut_166 : decode cX9_carryOut 166 = .ok (.return_, 1) := by decide +kernel
theorem dX9_pullSeveral_0 : decode cX9_pullSeveral 0 = .ok (.aload_n 0, 1) := by decide +kernel
theorem dX9_pullSeveral_1 : decode cX9_pullSeveral 1 = .ok (.getfield 21, 3) := by decide +kernel
theorem dX9_pullSeveral_4 : decode cX9_pullSeveral 4 = .ok (.iload_n 1, 1) := by decide +kernel
theorem dX9_pullSeveral_5 : decode cX9_pullSeveral 5 = .ok (.invokevirtual 95, 3) := by decide +kernel
theorem dX9_pullSeveral_8 : decode cX9_pullSeveral 8 = .ok (.ifCond .ne 4, 3) := by decide +kernel
theorem dX9_pullSeveral_11 : decode cX9_pullSeveral 11 = .ok (.return_, 1) := by decide +kernel
theorem dX9_pullSeveral_12 : decode cX9_pullSeveral 12 = .ok (.aload_n 0, 1) := by decide +kernel
theorem dX9_pullSeveral_13 : decode cX9_pullSeveral 13 = .ok (.getfield 21, 3) := by decide +kernel
theorem dX9_pullSeveral_16 : decode cX9_pullSeveral 16 = .ok (.getfield 118, 3) := by decide +kernel
theorem dX9_pullSeveral_19 : decode cX9_pullSeveral 19 = .ok (.iload_n 1, 1) := by decide +kernel
theorem dX9_pullSeveral_20 : decode cX9_pullSeveral 20 = .ok (.iaload, 1) := by decide +kernel
theorem dX9_pullSeveral_21 : decode cX9_pullSeveral 21 = .ok (.istore_n 3, 1) := by decide +kernel
theorem dX9_pullSeveral_22 : decode cX9_pullSeveral 22 = .ok (.iconst 0, 1) := by decide +kernel
theorem dX9_pullSeveral_23 : decode cX9_pullSeveral 23 = .ok (.istore 4, 2) := by decide +kernel
theorem dX9_pullSeveral_25 : decode cX9_pullSeveral 25 = .ok (.iload 4, 2) := by decide +kernel
theorem dX9_pullSeveral_27 : decode cX9_pullSeveral 27 = .ok (.iload_n 2, 1) := by decide +kernel
theorem dX9_pullSeveral_28 : decode cX9_pullSeveral 28 = .ok (.if_icmp .ge 45, 3) := by decide +kernel
theorem dX9_pullSeveral_31 : decode cX9_pullSeveral 31 = .ok (.aload_n 0, 1) := by decide +kernel
theorem dX9_pullSeveral_32 : decode cX9_pullSeveral 32 = .ok (.getfield 21, 3) := by decide +kernel
theorem dX9_pullSeveral_35 : decode cX9_pullSeveral 35 = .ok (.iload_n 1, 1) := by decide +kernel
theorem dX9_pullSeveral_36 : decode cX9_pullSeveral 36 = .ok (.aload_n 0, 1) := by decide +kernel
theorem dX9_pullSeveral_37 : decode cX9_pullSeveral 37 = .ok (.getfield 12, 3) := by decide +kernel
theorem dX9_pullSeveral_40 : decode cX9_pullSeveral 40 = .ok (.iload_n 3, 1) := by decide +kernel
theorem dX9_pullSeveral_41 : decode cX9_pullSeveral 41 = .ok (.invokevirtual 147, 3) := by decide +kernel
theorem dX9_pullSeveral_44 : decode cX9_pullSeveral 44 = .ok (.invokevirtual 150, 3) := by decide +kernel
theorem dX9_pullSeveral_47 : decode cX9_pullSeveral 47 = .ok (.istore 5, 2) := by decide +kernel
theorem dX9_pullSeveral_49 : decode cX9_pullSeveral 49 = .ok (.aload_n 0, 1) := by decide +kernel
theorem dX9_pullSeveral_50 : decode cX9_pullSeveral 50 = .ok (.getfield 28, 3) := by decide +kernel
theorem dX9_pullSeveral_53 : decode cX9_pullSeveral 53 = .ok (.iload 5, 2) := by decide +kernel
theorem dX9_pullSeveral_55 : decode cX9_pullSeveral 55 = .ok (.aload_n 0, 1) := by decide +kernel
theorem dX9_pullSeveral_56 : decode cX9_pullSeveral 56 = .ok (.getfield 21, 3) := by decide +kernel
theorem dX9_pullSeveral_59 : decode cX9_pullSeveral 59 = .ok (.iload_n 1, 1) := by decide +kernel
theorem dX9_pullSeveral_60 : decode cX9_pullSeveral 60 = .ok (.iload_n 3, 1) := by decide +kernel
theorem dX9_pullSeveral_61 : decode cX9_pullSeveral 61 = .ok (.invokevirtual 154, 3) := by decide +kernel
theorem dX9_pullSeveral_64 : decode cX9_pullSeveral 64 = .ok (.invokevirtual 157, 3) := by decide +kernel
theorem dX9_pullSeveral_67 : decode cX9_pullSeveral 67 = .ok (.iinc 4 1, 3) := by decide +kernel
theorem dX9_pullSeveral_70 : decode cX9_pullSeveral 70 = .ok (.goto (-45), 3) := by decide +kernel
theorem dX9_pullSeveral_73 : decode cX9_pullSeveral 73 = .ok (.return_, 1) := by decide +kernel
theorem dX10_init_0 : decode cX10_init 0 = .ok (.aload_n 0, 1) := by decide +kernel
theorem dX10_init_1 : decode cX10_init 1 = .ok (.invokespecial 3, 3) := by decide +kernel
theorem dX10_init_4 : decode cX10_init 4 = .ok (.aload_n 0, 1) := by decide +kernel
theorem dX10_init_5 : decode cX10_init 5 = .ok (.new 9, 3) := by decide +kernel
theorem dX10_init_8 : decode cX10_init 8 = .ok (.dup, 1) := by decide +kernel
theorem dX10_init_9 : decode cX10_init 9 = .ok (.invokespecial 11, 3) := by decide +kernel
theorem dX10_init_12 : decode cX10_init 12 = .ok (.putfield 12, 3) := by decide +kernel
theorem dX10_init_15 : decode cX10_init 15 = .ok (.aload_n 0, 1) := by decide +kernel
theorem dX10_init_16 : decode cX10_init 16 = .ok (.new 16, 3) := by decide +kernel
theorem dX10_init_19 : decode cX10_init 19 = .ok (.dup, 1) := by decide +kernel
theorem dX10_init_20 : decode cX10_init 20 = .ok (.invokespecial 18, 3) := by decide +kernel
theorem dX10_init_23 : decode cX10_init 23 = .ok (.putfield 19, 3) := by decide +kernel
theorem dX10_init_26 : decode cX10_init 26 = .ok (.aload_n 0, 1) := by decide +kernel
theorem dX10_init_27 : decode cX10_init 27 = .ok (.new 23, 3) := by decide +kernel
theorem dX10_init_30 : decode cX10_init 30 = .ok (.dup, 1) := by decide +kernel
theorem dX10_init_31 : decode cX10_init 31 = .ok (.invokespecial 25, 3) := by decide +kernel
theorem dX10_init_34 : decode cX10_init 34 = .ok (.putfield 26, 3) := by decide +kernel
theorem dX10_init_37 : decode cX10_init 37 = .ok (.aload_n 0, 1) := by decide +kernel
theorem dX10_init_38 : decode cX10_init 38 = .ok (.new 30, 3) := by decide +kernel
theorem dX10_init_41 : decode cX10_init 41 = .ok (.dup, 1) := by decide +kernel
theorem dX10_init_42 : decode cX10_init 42 = .ok (.invokespecial 32, 3) := by decide +kernel
theorem dX10_init_45 : decode cX10_init 45 = .ok (.putfield 33, 3) := by decide +kernel
theorem dX10_init_48 : decode cX10_init 48 = .ok (.aload_n 0, 1) := by decide +kernel
theorem dX10_init_49 : decode cX10_init 49 = .ok (.new 37, 3) := by decide +kernel
theorem dX10_init_52 : decode cX10_init 52 = .ok (.dup, 1) := by decide +kernel
theorem dX10_init_53 : decode cX10_init 53 = .ok (.invokespecial 39, 3) := by decide +kernel
theorem dX10_init_56 : decode cX10_init 56 = .ok (.putfield 40, 3) := by decide +kernel
theorem dX10_init_59 : decode cX10_init 59 = .ok (.aload_n 0, 1) := by decide +kernel
theorem dX10_init_60 : decode cX10_init 60 = .ok (.iconst 2, 1) := by decide +kernel
theorem dX10_init_61 : decode cX10_init 61 = .ok (.anewarray 9, 3) := by decide +kernel
theorem dX10_init_64 : decode cX10_init 64 = .ok (.putfield 44, 3) := by decide +kernel
theorem dX10_init_67 : decode cX10_init 67 = .ok (.return_, 1) := by decide +kernel
theorem dX10_stone_0 : decode cX10_stone 0 = .ok (.iload_n 1, 1) := by decide +kernel
theorem dX10_stone_1 : decode cX10_stone 1 = .ok (.iconst 0, 1) := by decide +kernel
theorem dX10_stone_2 : decode cX10_stone 2 = .ok (.iconst 4, 1) := by decide +kernel
theorem dX10_stone_3 : decode cX10_stone 3 = .ok (.invokestatic 48, 3) := by decide +kernel
theorem dX10_stone_6 : decode cX10_stone 6 = .ok (.ifCond .ne 5, 3) := by decide +kernel
theorem dX10_stone_9 : decode cX10_stone 9 = .ok (.iconst (-1), 1) := by decide +kernel
theorem dX10_stone_10 : decode cX10_stone 10 = .ok (.ireturn, 1) := by decide +kernel
theorem dX10_stone_11 : decode cX10_stone 11 = .ok (.iload_n 2, 1) := by decide +kernel
theorem dX10_stone_12 : decode cX10_stone 12 = .ok (.iconst 0, 1) := by decide +kernel
theorem dX10_stone_13 : decode cX10_stone 13 = .ok (.sipush 9999, 3) := by decide +kernel
theorem dX10_stone_16 : decode cX10_stone 16 = .ok (.invokestatic 48, 3) := by decide +kernel
theorem dX10_stone_19 : decode cX10_stone 19 = .ok (.ifCond .eq 24, 3) := by decide +kernel
theorem dX10_stone_22 : decode cX10_stone 22 = .ok (.iload_n 3, 1) := by decide +kernel
theorem dX10_stone_23 : decode cX10_stone 23 = .ok (.iconst 0, 1) := by decide +kernel
theorem dX10_stone_24 : decode cX10_stone 24 = .ok (.bipush 99, 2) := by decide +kernel
theorem dX10_stone_26 : decode cX10_stone 26 = .ok (.invokestatic 48, 3) := by decide +kernel
theorem dX10_stone_29 : decode cX10_stone 29 = .ok (.ifCond .eq 14, 3) := by decide +kernel
theorem dX10_stone_32 : decode cX10_stone 32 = .ok (.iload 4, 2) := by decide +kernel
theorem dX10_stone_34 : decode cX10_stone 34 = .ok (.iconst 0, 1) := by decide +kernel
theorem dX10_stone_35 : decode cX10_stone 35 = .ok (.bipush 20, 2) := by decide +kernel
theorem dX10_stone_37 : decode cX10_stone 37 = .ok (.invokestatic 48, 3) := by decide +kernel
theorem dX10_stone_40 : decode cX10_stone 40 = .ok (.ifCond .ne 6, 3) := by decide +kernel
theorem dX10_stone_43 : decode cX10_stone 43 = .ok (.bipush (-2), 2) := by decide +kernel
theorem dX10_stone_45 : decode cX10_stone 45 = .ok (.ireturn, 1) := by decide +kernel
theorem dX10_stone_46 : decode cX10_stone 46 = .ok (.aload_n 0, 1) := by decide +kernel
theorem dX10_stone_47 : decode cX10_stone 47 = .ok (.getfield 12, 3) := by decide +kernel
theorem dX10_stone_50 : decode cX10_stone 50 = .ok (.getfield 52, 3) := by decide +kernel
theorem dX10_stone_53 : decode cX10_stone 53 = .ok (.iload_n 1, 1) := by decide +kernel
theorem dX10_stone_54 : decode cX10_stone 54 = .ok (.iload_n 2, 1) := by decide +kernel
theorem dX10_stone_55 : decode cX10_stone 55 = .ok (.iload_n 3, 1) := by decide +kernel
theorem dX10_stone_56 : decode cX10_stone 56 = .ok (.iload 4, 2) := by decide +kernel
theorem dX10_stone_58 : decode cX10_stone 58 = .ok (.invokevirtual 56, 3) := by decide +kernel
theorem dX10_stone_61 : decode cX10_stone 61 = .ok (.aload_n 0, 1) := by decide +kernel
theorem dX10_stone_62 : decode cX10_stone 62 = .ok (.getfield 12, 3) := by decide +kernel
theorem dX10_stone_65 : decode cX10_stone 65 = .ok (.getfield 52, 3) := by decide +kernel
theorem dX10_stone_68 : decode cX10_stone 68 = .ok (.invokevirtual 62, 3) := by decide +kernel
theorem dX10_stone_71 : decode cX10_stone 71 = .ok (.ireturn, 1) := by decide +kernel
theorem dX10_smash_0 : decode cX10_smash 0 = .ok (.aload_n 0, 1) := by decide +kernel
theorem dX10_smash_1 : decode cX10_smash 1 = .ok (.getfield 12, 3) := by decide +kernel
theorem dX10_smash_4 : decode cX10_smash 4 = .ok (.getfield 52, 3) := by decide +kernel
theorem dX10_smash_7 : decode cX10_smash 7 = .ok (.iload_n 1, 1) := by decide +kernel
theorem dX10_smash_8 : decode cX10_smash 8 = .ok (.invokevirtual 66, 3) := by decide +kernel
theorem dX10_smash_11 : decode cX10_smash 11 = .ok (.ifCond .ne 5, 3) := by decide +kernel
theorem dX10_smash_14 : decode cX10_smash 14 = .ok (.iconst (-1), 1) := by decide +kernel
theorem dX10_smash_15 : decode cX10_smash 15 = .ok (.ireturn, 1) := by decide +kernel
theorem dX10_smash_16 : decode cX10_smash 16 = .ok (.aload_n 0, 1) := by decide +kernel
theorem dX10_smash_17 : decode cX10_smash 17 = .ok (.getfield 12, 3) := by decide +kernel
theorem dX10_smash_20 : decode cX10_smash 20 = .ok (.getfield 52, 3) := by decide +kernel
theorem dX10_smash_23 : decode cX10_smash 23 = .ok (.iload_n 1, 1) := by decide +kernel
theorem dX10_smash_24 : decode cX10_smash 24 = .ok (.invokevirtual 70, 3) := by decide +kernel
theorem dX10_smash_27 : decode cX10_smash 27 = .ok (.aload_n 0, 1) := by decide +kernel
theorem dX10_smash_28 : decode cX10_smash 28 = .ok (.getfield 12, 3) := by decide +kernel
theorem dX10_smash_31 : decode cX10_smash 31 = .ok (.getfield 52, 3) := by decide +kernel
theorem dX10_smash_34 : decode cX10_smash 34 = .ok (.invokevirtual 62, 3) := by decide +kernel
theorem dX10_smash_37 : decode cX10_smash 37 = .ok (.ireturn, 1) := by decide +kernel
theorem dX10_picture_0 : decode cX10_picture 0 = .ok (.iload_n 1, 1) := by decide +kernel
theorem dX10_picture_1 : decode cX10_picture 1 = .ok (.iconst 0, 1) := by decide +kernel
theorem dX10_picture_2 : decode cX10_picture 2 = .ok (.bipush 7, 2) := by decide +kernel
theorem dX10_picture_4 : decode cX10_picture 4 = .ok (.invokestatic 48, 3) := by decide +kernel
theorem dX10_picture_7 : decode cX10_picture 7 = .ok (.ifCond .ne 5, 3) := by decide +kernel
theorem dX10_picture_10 : decode cX10_picture 10 = .ok (.iconst (-1), 1) := by decide +kernel
theorem dX10_picture_11 : decode cX10_picture 11 = .ok (.ireturn, 1) := by decide +kernel
theorem dX10_picture_12 : decode cX10_picture 12 = .ok (.iload_n 2, 1) := by decide +kernel
theorem dX10_picture_13 : decode cX10_picture 13 = .ok (.iconst 1, 1) := by decide +kernel
theorem dX10_picture_14 : decode cX10_picture 14 = .ok (.bipush 60, 2) := by decide +kernel
theorem dX10_picture_16 : decode cX10_picture 16 = .ok (.invokestatic 48, 3) := by decide +kernel
theorem dX10_picture_19 : decode cX10_picture 19 = .ok (.ifCond .eq 25, 3) := by decide +kernel
theorem dX10_picture_22 : decode cX10_picture 22 = .ok (.iload_n 3, 1) := by decide +kernel
theorem dX10_picture_23 : decode cX10_picture 23 = .ok (.iconst 1, 1) := by decide +kernel
theorem dX10_picture_24 : decode cX10_picture 24 = .ok (.bipush 9, 2) := by decide +kernel
theorem dX10_picture_26 : decode cX10_picture 26 = .ok (.invokestatic 48, 3) := by decide +kernel
theorem dX10_picture_29 : decode cX10_picture 29 = .ok (.ifCond .eq 15, 3) := by decide +kernel
theorem dX10_picture_32 : decode cX10_picture 32 = .ok (.iload 4, 2) := by decide +kernel
theorem dX10_picture_34 : decode cX10_picture 34 = .ok (.iconst 0, 1) := by decide +kernel
theorem dX10_picture_35 : decode cX10_picture 35 = .ok (.sipush 999, 3) := by decide +kernel
theorem dX10_picture_38 : decode cX10_picture 38 = .ok (.invokestatic 48, 3) := by decide +kernel
theorem dX10_picture_41 : decode cX10_picture 41 = .ok (.ifCond .ne 6, 3) := by decide +kernel
theorem dX10_picture_44 : decode cX10_picture 44 = .ok (.bipush (-2), 2) := by decide +kernel
theorem dX10_picture_46 : decode cX10_picture 46 = .ok (.ireturn, 1) := by decide +kernel
theorem dX10_picture_47 : decode cX10_picture 47 = .ok (.aload_n 0, 1) := by decide +kernel
theorem dX10_picture_48 : decode cX10_picture 48 = .ok (.getfield 12, 3) := by decide +kernel
theorem dX10_picture_51 : decode cX10_picture 51 = .ok (.getfield 74, 3) := by decide +kernel
theorem dX10_picture_54 : decode cX10_picture 54 = .ok (.getfield 78, 3) := by decide +kernel
theorem dX10_picture_57 : decode cX10_picture 57 = .ok (.iload_n 1, 1) := by decide +kernel
theorem dX10_picture_58 : decode cX10_picture 58 = .ok (.iaload, 1) := by decide +kernel
theorem dX10_picture_59 : decode cX10_picture 59 = .ok (.istore 5, 2) := by decide +kernel
theorem dX10_picture_61 : decode cX10_picture 61 = .ok (.aload_n 0, 1) := by decide +kernel
theorem dX10_picture_62 : decode cX10_picture 62 = .ok (.getfield 12, 3) := by decide +kernel
theorem dX10_picture_65 : decode cX10_picture 65 = .ok (.getfield 74, 3) := by decide +kernel
theorem dX10_picture_68 : decode cX10_picture 68 = .ok (.getfield 78, 3) := by decide +kernel
theorem dX10_picture_71 : decode cX10_picture 71 = .ok (.iload_n 1, 1) := by decide +kernel
theorem dX10_picture_72 : decode cX10_picture 72 = .ok (.iload_n 2, 1) := by decide +kernel
theorem dX10_picture_73 : decode cX10_picture 73 = .ok (.iastore, 1) := by decide +kernel
theorem dX10_picture_74 : decode cX10_picture 74 = .ok (.aload_n 0, 1) := by decide +kernel
theorem dX10_picture_75 : decode cX10_picture 75 = .ok (.getfield 12, 3) := by decide +kernel
theorem dX10_picture_78 : decode cX10_picture 78 = .ok (.getfield 74, 3) := by decide +kernel
theorem dX10_picture_81 : decode cX10_picture 81 = .ok (.getfield 84, 3) := by decide +kernel
theorem dX10_picture_84 : decode cX10_picture 84 = .ok (.iload_n 1, 1) := by decide +kernel
theorem dX10_picture_85 : decode cX10_picture 85 = .ok (.iload_n 3, 1) := by decide +kernel
theorem dX10_picture_86 : decode cX10_picture 86 = .ok (.iastore, 1) := by decide +kernel
theorem dX10_picture_87 : decode cX10_picture 87 = .ok (.aload_n 0, 1) := by decide +kernel
theorem dX10_picture_88 : decode cX10_picture 88 = .ok (.getfield 12, 3) := by decide +kernel
theorem dX10_picture_91 : decode cX10_picture 91 = .ok (.getfield 74, 3) := by decide +kernel
theorem dX10_picture_94 : decode cX10_picture 94 = .ok (.getfield 87, 3) := by decide +kernel
theorem dX10_picture_97 : decode cX10_picture 97 = .ok (.iload_n 1, 1) := by decide +kernel
theorem dX10_picture_98 : decode cX10_picture 98 = .ok (.iload 4, 2) := by decide +kernel
theorem dX10_picture_100 : decode cX10_picture 100 = .ok (.iastore, 1) := by decide +kernel
theorem dX10_picture_101 : decode cX10_picture 101 = .ok (.iload 5, 2) := by decide +kernel
theorem dX10_picture_103 : decode cX10_picture 103 = .ok (.ireturn, 1) := by decide +kernel
theorem dX10_set_0 : decode cX10_set 0 = .ok (.iload_n 1, 1) := by decide +kernel
theorem dX10_set_1 : decode cX10_set 1 = .ok (.ifCond .ne 37, 3) := by decide +kernel
theorem dX10_set_4 : decode cX10_set 4 = .ok (.iload_n 2, 1) := by decide +kernel
theorem dX10_set_5 : decode cX10_set 5 = .ok (.iconst 0, 1) := by decide +kernel
theorem dX10_set_6 : decode cX10_set 6 = .ok (.bipush 99, 2) := by decide +kernel
theorem dX10_set_8 : decode cX10_set 8 = .ok (.invokestatic 48, 3) := by decide +kernel
theorem dX10_set_11 : decode cX10_set 11 = .ok (.ifCond .eq 27, 3) := by decide +kernel
theorem dX10_set_14 : decode cX10_set 14 = .ok (.aload_n 0, 1) := by decide +kernel
theorem dX10_set_15 : decode cX10_set 15 = .ok (.getfield 12, 3) := by decide +kernel
theorem dX10_set_18 : decode cX10_set 18 = .ok (.getfield 74, 3) := by decide +kernel
theorem dX10_set_21 : decode cX10_set 21 = .ok (.getfield 90, 3) := by decide +kernel
theorem dX10_set_24 : decode cX10_set 24 = .ok (.istore_n 3, 1) := by decide +kernel
theorem dX10_set_25 : decode cX10_set 25 = .ok (.aload_n 0, 1) := by decide +kernel
theorem dX10_set_26 : decode cX10_set 26 = .ok (.getfield 12, 3) := by decide +kernel
theorem dX10_set_29 : decode cX10_set 29 = .ok (.getfield 74, 3) := by decide +kernel
theorem dX10_set_32 : decode cX10_set 32 = .ok (.iload_n 2, 1) := by decide +kernel
theorem dX10_set_33 : decode cX10_set 33 = .ok (.putfield 90, 3) := by decide +kernel
theorem dX10_set_36 : decode cX10_set 36 = .ok (.iload_n 3, 1) := by decide +kernel
theorem dX10_set_37 : decode cX10_set 37 = .ok (.ireturn, 1) := by decide +kernel
theorem dX10_set_38 : decode cX10_set 38 = .ok (.iload_n 1, 1) := by decide +kernel
theorem dX10_set_39 : decode cX10_set 39 = .ok (.iconst 1, 1) := by decide +kernel
theorem dX10_set_40 : decode cX10_set 40 = .ok (.if_icmp .ne 38, 3) := by decide +kernel
theorem dX10_set_43 : decode cX10_set 43 = .ok (.iload_n 2, 1) := by decide +kernel
theorem dX10_set_44 : decode cX10_set 44 = .ok (.iconst 0, 1) := by decide +kernel
theorem dX10_set_45 : decode cX10_set 45 = .ok (.sipush 9999, 3) := by decide +kernel
theorem dX10_set_48 : decode cX10_set 48 = .ok (.invokestatic 48, 3) := by decide +kernel
theorem dX10_set_51 : decode cX10_set 51 = .ok (.ifCond .eq 27, 3) := by decide +kernel
theorem dX10_set_54 : decode cX10_set 54 = .ok (.aload_n 0, 1) := by decide +kernel
theorem dX10_set_55 : decode cX10_set 55 = .ok (.getfield 12, 3) := by decide +kernel
theorem dX10_set_58 : decode cX10_set 58 = .ok (.getfield 74, 3) := by decide +kernel
theorem dX10_set_61 : decode cX10_set 61 = .ok (.getfield 94, 3) := by decide +kernel
theorem dX10_set_64 : decode cX10_set 64 = .ok (.istore_n 3, 1) := by decide +kernel
theorem dX10_set_65 : decode cX10_set 65 = .ok (.aload_n 0, 1) := by decide +kernel
theorem dX10_set_66 : decode cX10_set 66 = .ok (.getfield 12, 3) := by decide +kernel
theorem dX10_set_69 : decode cX10_set 69 = .ok (.getfield 74, 3) := by decide +kernel
theorem dX10_set_72 : decode cX10_set 72 = .ok (.iload_n 2, 1) := by decide +kernel
theorem dX10_set_73 : decode cX10_set 73 = .ok (.putfield 94, 3) := by decide +kernel
theorem dX10_set_76 : decode cX10_set 76 = .ok (.iload_n 3, 1) := by decide +kernel
theorem dX10_set_77 : decode cX10_set 77 = .ok (.ireturn, 1) := by decide +kernel
theorem dX10_set_78 : decode cX10_set 78 = .ok (.bipush (-2), 2) := by decide +kernel
theorem dX10_set_80 : decode cX10_set 80 = .ok (.ireturn, 1) := by decide +kernel
theorem dX10_hairs_0 : decode cX10_hairs 0 = .ok (.iload_n 1, 1) := by decide +kernel
theorem dX10_hairs_1 : decode cX10_hairs 1 = .ok (.iconst 0, 1) := by decide +kernel
theorem dX10_hairs_2 : decode cX10_hairs 2 = .ok (.iconst 5, 1) := by decide +kernel
theorem dX10_hairs_3 : decode cX10_hairs 3 = .ok (.invokestatic 48, 3) := by decide +kernel
theorem dX10_hairs_6 : decode cX10_hairs 6 = .ok (.ifCond .eq 14, 3) := by decide +kernel
theorem dX10_hairs_9 : decode cX10_hairs 9 = .ok (.iload_n 2, 1) := by decide +kernel
theorem dX10_hairs_10 : decode cX10_hairs 10 = .ok (.bipush (-9), 2) := by decide +kernel
theorem dX10_hairs_12 : decode cX10_hairs 12 = .ok (.bipush 9, 2) := by decide +kernel
theorem dX10_hairs_14 : decode cX10_hairs 14 = .ok (.invokestatic 48, 3) := by decide +kernel
theorem dX10_hairs_17 : decode cX10_hairs 17 = .ok (.ifCond .ne 6, 3) := by decide +kernel
theorem dX10_hairs_20 : decode cX10_hairs 20 = .ok (.bipush (-2), 2) := by decide +kernel
theorem dX10_hairs_22 : decode cX10_hairs 22 = .ok (.ireturn, 1) := by decide +kernel
theorem dX10_hairs_23 : decode cX10_hairs 23 = .ok (.aload_n 0, 1) := by decide +kernel
theorem dX10_hairs_24 : decode cX10_hairs 24 = .ok (.getfield 12, 3) := by decide +kernel
theorem dX10_hairs_27 : decode cX10_hairs 27 = .ok (.getfield 74, 3) := by decide +kernel
theorem dX10_hairs_30 : decode cX10_hairs 30 = .ok (.getfield 97, 3) := by decide +kernel
theorem dX10_hairs_33 : decode cX10_hairs 33 = .ok (.iload_n 1, 1) := by decide +kernel
theorem dX10_hairs_34 : decode cX10_hairs 34 = .ok (.iaload, 1) := by decide +kernel
theorem dX10_hairs_35 : decode cX10_hairs 35 = .ok (.istore_n 3, 1) := by decide +kernel
theorem dX10_hairs_36 : decode cX10_hairs 36 = .ok (.aload_n 0, 1) := by decide +kernel
theorem dX10_hairs_37 : decode cX10_hairs 37 = .ok (.getfield 12, 3) := by decide +kernel
theorem dX10_hairs_40 : decode cX10_hairs 40 = .ok (.getfield 74, 3) := by decide +kernel
theorem dX10_hairs_43 : decode cX10_hairs 43 = .ok (.getfield 97, 3) := by decide +kernel
theorem dX10_hairs_46 : decode cX10_hairs 46 = .ok (.iload_n 1, 1) := by decide +kernel
theorem dX10_hairs_47 : decode cX10_hairs 47 = .ok (.iload_n 2, 1) := by decide +kernel
theorem dX10_hairs_48 : decode cX10_hairs 48 = .ok (.iastore, 1) := by decide +kernel
theorem dX10_hairs_49 : decode cX10_hairs 49 = .ok (.iload_n 3, 1) := by decide +kernel
theorem dX10_hairs_50 : decode cX10_hairs 50 = .ok (.bipush 9, 2) := by decide +kernel
theorem dX10_hairs_52 : decode cX10_hairs 52 = .ok (.iadd, 1) := by decide +kernel
theorem dX10_hairs_53 : decode cX10_hairs 53 = .ok (.ireturn, 1) := by decide +kernel
theorem dX10_say_0 : decode cX10_say 0 = .ok (.iload_n 1, 1) := by decide +kernel
theorem dX10_say_1 : decode cX10_say 1 = .ok (.bipush 33, 2) := by decide +kernel
theorem dX10_say_3 : decode cX10_say 3 = .ok (.bipush 126, 2) := by decide +kernel
theorem dX10_say_5 : decode cX10_say 5 = .ok (.invokestatic 48, 3) := by decide +kernel
theorem dX10_say_8 : decode cX10_say 8 = .ok (.ifCond .ne 6, 3) := by decide +kernel
theorem dX10_say_11 : decode cX10_say 11 = .ok (.bipush (-2), 2) := by decide +kernel
theorem dX10_say_13 : decode cX10_say 13 = .ok (.ireturn, 1) := by decide +kernel
theorem dX10_say_14 : decode cX10_say 14 = .ok (.aload_n 0, 1) := by decide +kernel
theorem dX10_say_15 : decode cX10_say 15 = .ok (.getfield 19, 3) := by decide +kernel
theorem dX10_say_18 : decode cX10_say 18 = .ok (.iload_n 1, 1) := by decide +kernel
theorem dX10_say_19 : decode cX10_say 19 = .ok (.invokevirtual 100, 3) := by decide +kernel
theorem dX10_say_22 : decode cX10_say 22 = .ok (.ifCond .eq 13, 3) := by decide +kernel
theorem dX10_say_25 : decode cX10_say 25 = .ok (.aload_n 0, 1) := by decide +kernel
theorem dX10_say_26 : decode cX10_say 26 = .ok (.getfield 19, 3) := by decide +kernel
theorem dX10_say_29 : decode cX10_say 29 = .ok (.getfield 103, 3) := by decide +kernel
theorem dX10_say_32 : decode cX10_say 32 = .ok (.goto 5, 3) := by decide +kernel
theorem dX10_say_35 : decode cX10_say 35 = .ok (.bipush (-4), 2) := by decide +kernel
theorem dX10_say_37 : decode cX10_say 37 = .ok (.ireturn, 1) := by decide +kernel
theorem dX10_wipe_0 : decode cX10_wipe 0 = .ok (.aload_n 0, 1) := by decide +kernel
theorem dX10_wipe_1 : decode cX10_wipe 1 = .ok (.getfield 19, 3) := by decide +kernel
theorem dX10_wipe_4 : decode cX10_wipe 4 = .ok (.getfield 103, 3) := by decide +kernel
theorem dX10_wipe_7 : decode cX10_wipe 7 = .ok (.istore_n 1, 1) := by decide +kernel
theorem dX10_wipe_8 : decode cX10_wipe 8 = .ok (.aload_n 0, 1) := by decide +kernel
theorem dX10_wipe_9 : decode cX10_wipe 9 = .ok (.getfield 19, 3) := by decide +kernel
theorem dX10_wipe_12 : decode cX10_wipe 12 = .ok (.iconst 0, 1) := by decide +kernel
theorem dX10_wipe_13 : decode cX10_wipe 13 = .ok (.putfield 103, 3) := by decide +kernel
theorem dX10_wipe_16 : decode cX10_wipe 16 = .ok (.iload_n 1, 1) := by decide +kernel
theorem dX10_wipe_17 : decode cX10_wipe 17 = .ok (.ireturn, 1) := by decide +kernel
theorem dX10_fault_0 : decode cX10_fault 0 = .ok (.aload_n 0, 1) := by decide +kernel
theorem dX10_fault_1 : decode cX10_fault 1 = .ok (.getfield 19, 3) := by decide +kernel
theorem dX10_fault_4 : decode cX10_fault 4 = .ok (.invokevirtual 106, 3) := by decide +kernel
theorem dX10_fault_7 : decode cX10_fault 7 = .ok (.ireturn, 1) := by decide +kernel
theorem dX10_judge_0 : decode cX10_judge 0 = .ok (.iload_n 1, 1) := by decide +kernel
theorem dX10_judge_1 : decode cX10_judge 1 = .ok (.iconst 0, 1) := by decide +kernel
theorem dX10_judge_2 : decode cX10_judge 2 = .ok (.iconst 2, 1) := by decide +kernel
theorem dX10_judge_3 : decode cX10_judge 3 = .ok (.invokestatic 48, 3) := by decide +kernel
theorem dX10_judge_6 : decode cX10_judge 6 = .ok (.ifCond .ne 6, 3) := by decide +kernel
theorem dX10_judge_9 : decode cX10_judge 9 = .ok (.bipush (-2), 2) := by decide +kernel
theorem dX10_judge_11 : decode cX10_judge 11 = .ok (.ireturn, 1) := by decide +kernel
theorem dX10_judge_12 : decode cX10_judge 12 = .ok (.aload_n 0, 1) := by decide +kernel
theorem dX10_judge_13 : decode cX10_judge 13 = .ok (.invokevirtual 109, 3) := by decide +kernel
theorem dX10_judge_16 : decode cX10_judge 16 = .ok (.istore_n 2, 1) := by decide +kernel
theorem dX10_judge_17 : decode cX10_judge 17 = .ok (.iload_n 2, 1) := by decide +kernel
theorem dX10_judge_18 : decode cX10_judge 18 = .ok (.bipush (-5), 2) := by decide +kernel
theorem dX10_judge_20 : decode cX10_judge 20 = .ok (.if_icmp .ne 6, 3) := by decide +kernel
theorem dX10_judge_23 : decode cX10_judge 23 = .ok (.bipush (-5), 2) := by decide +kernel
theorem dX10_judge_25 : decode cX10_judge 25 = .ok (.ireturn, 1) := by decide +kernel
theorem dX10_judge_26 : decode cX10_judge 26 = .ok (.iload_n 1, 1) := by decide +kernel
theorem dX10_judge_27 : decode cX10_judge 27 = .ok (.ifCond .ne 11, 3) := by decide +kernel
theorem dX10_judge_30 : decode cX10_judge 30 = .ok (.aload_n 0, 1) := by decide +kernel
theorem dX10_judge_31 : decode cX10_judge 31 = .ok (.getfield 26, 3) := by decide +kernel
theorem dX10_judge_34 : decode cX10_judge 34 = .ok (.getfield 112, 3) := by decide +kernel
theorem dX10_judge_37 : decode cX10_judge 37 = .ok (.ireturn, 1) := by decide +kernel
theorem dX10_judge_38 : decode cX10_judge 38 = .ok (.iload_n 1, 1) := by decide +kernel
theorem dX10_judge_39 : decode cX10_judge 39 = .ok (.iconst 1, 1) := by decide +kernel
theorem dX10_judge_40 : decode cX10_judge 40 = .ok (.if_icmp .ne 11, 3) := by decide +kernel
theorem dX10_judge_43 : decode cX10_judge 43 = .ok (.aload_n 0, 1) := by decide +kernel
theorem dX10_judge_44 : decode cX10_judge 44 = .ok (.getfield 26, 3) := by decide +kernel
theorem dX10_judge_47 : decode cX10_judge 47 = .ok (.getfield 115, 3) := by decide +kernel
theorem dX10_judge_50 : decode cX10_judge 50 = .ok (.ireturn, 1) := by decide +kernel
theorem dX10_judge_51 : decode cX10_judge 51 = .ok (.iload_n 2, 1) := by decide +kernel
theorem dX10_judge_52 : decode cX10_judge 52 = .ok (.ifCond .ne 16, 3) := by decide +kernel
theorem dX10_judge_55 : decode cX10_judge 55 = .ok (.aload_n 0, 1) := by decide +kernel
theorem dX10_judge_56 : decode cX10_judge 56 = .ok (.getfield 26, 3) := by decide +kernel
theorem dX10_judge_59 : decode cX10_judge 59 = .ok (.getfield 118, 3) := by decide +kernel
theorem dX10_judge_62 : decode cX10_judge 62 = .ok (.getfield 122, 3) := by decide +kernel
theorem dX10_judge_65 : decode cX10_judge 65 = .ok (.goto 4, 3) := by decide +kernel
theorem dX10_judge_68 : decode cX10_judge 68 = .ok (.iload_n 2, 1) := by decide +kernel
theorem dX10_judge_69 : decode cX10_judge 69 = .ok (.ireturn, 1) := by decide +kernel
theorem dX10_kinds_0 : decode cX10_kinds 0 = .ok (.iload_n 1, 1) := by decide +kernel
theorem dX10_kinds_1 : decode cX10_kinds 1 = .ok (.iconst 0, 1) := by decide +kernel
theorem dX10_kinds_2 : decode cX10_kinds 2 = .ok (.iconst 4, 1) := by decide +kernel
theorem dX10_kinds_3 : decode cX10_kinds 3 = .ok (.invokestatic 48, 3) := by decide +kernel
theorem dX10_kinds_6 : decode cX10_kinds 6 = .ok (.ifCond .ne 6, 3) := by decide +kernel
theorem dX10_kinds_9 : decode cX10_kinds 9 = .ok (.bipush (-2), 2) := by decide +kernel
theorem dX10_kinds_11 : decode cX10_kinds 11 = .ok (.ireturn, 1) := by decide +kernel
theorem dX10_kinds_12 : decode cX10_kinds 12 = .ok (.aload_n 0, 1) := by decide +kernel
theorem dX10_kinds_13 : decode cX10_kinds 13 = .ok (.invokevirtual 109, 3) := by decide +kernel
theorem dX10_kinds_16 : decode cX10_kinds 16 = .ok (.istore_n 2, 1) := by decide +kernel
theorem dX10_kinds_17 : decode cX10_kinds 17 = .ok (.iload_n 2, 1) := by decide +kernel
theorem dX10_kinds_18 : decode cX10_kinds 18 = .ok (.ifCond .ne 18, 3) := by decide +kernel
theorem dX10_kinds_21 : decode cX10_kinds 21 = .ok (.aload_n 0, 1) := by decide +kernel
theorem dX10_kinds_22 : decode cX10_kinds 22 = .ok (.getfield 26, 3) := by decide +kernel
theorem dX10_kinds_25 : decode cX10_kinds 25 = .ok (.getfield 118, 3) := by decide +kernel
theorem dX10_kinds_28 : decode cX10_kinds 28 = .ok (.getfield 127, 3) := by decide +kernel
theorem dX10_kinds_31 : decode cX10_kinds 31 = .ok (.iload_n 1, 1) := by decide +kernel
theorem dX10_kinds_32 : decode cX10_kinds 32 = .ok (.iaload, 1) := by decide +kernel
theorem dX10_kinds_33 : decode cX10_kinds 33 = .ok (.goto 4, 3) := by decide +kernel
theorem dX10_kinds_36 : decode cX10_kinds 36 = .ok (.iload_n 2, 1) := by decide +kernel
theorem dX10_kinds_37 : decode cX10_kinds 37 = .ok (.ireturn, 1) := by decide +kernel
theorem dX10_behind_0 : decode cX10_behind 0 = .ok (.aload_n 0, 1) := by decide +kernel
theorem dX10_behind_1 : decode cX10_behind 1 = .ok (.getfield 12, 3) := by decide +kernel
theorem dX10_behind_4 : decode cX10_behind 4 = .ok (.getfield 52, 3) := by decide +kernel
theorem dX10_behind_7 : decode cX10_behind 7 = .ok (.iload_n 1, 1) := by decide +kernel
theorem dX10_behind_8 : decode cX10_behind 8 = .ok (.invokevirtual 66, 3) := by decide +kernel
theorem dX10_behind_11 : decode cX10_behind 11 = .ok (.ifCond .ne 5, 3) := by decide +kernel
theorem dX10_behind_14 : decode cX10_behind 14 = .ok (.iconst (-1), 1) := by decide +kernel
theorem dX10_behind_15 : decode cX10_behind 15 = .ok (.ireturn, 1) := by decide +kernel
theorem dX10_behind_16 : decode cX10_behind 16 = .ok (.iload_n 2, 1) := by decide +kernel
theorem dX10_behind_17 : decode cX10_behind 17 = .ok (.iconst 0, 1) := by decide +kernel
theorem dX10_behind_18 : decode cX10_behind 18 = .ok (.iconst 4, 1) := by decide +kernel
theorem dX10_behind_19 : decode cX10_behind 19 = .ok (.invokestatic 48, 3) := by decide +kernel
theorem dX10_behind_22 : decode cX10_behind 22 = .ok (.ifCond .ne 6, 3) := by decide +kernel
theorem dX10_behind_25 : decode cX10_behind 25 = .ok (.bipush (-2), 2) := by decide +kernel
theorem dX10_behind_27 : decode cX10_behind 27 = .ok (.ireturn, 1) := by decide +kernel
theorem dX10_behind_28 : decode cX10_behind 28 = .ok (.aload_n 0, 1) := by decide +kernel
theorem dX10_behind_29 : decode cX10_behind 29 = .ok (.invokevirtual 109, 3) := by decide +kernel
theorem dX10_behind_32 : decode cX10_behind 32 = .ok (.istore_n 3, 1) := by decide +kernel
theorem dX10_behind_33 : decode cX10_behind 33 = .ok (.iload_n 3, 1) := by decide +kernel
theorem dX10_behind_34 : decode cX10_behind 34 = .ok (.ifCond .eq 5, 3) := by decide +kernel
theorem dX10_behind_37 : decode cX10_behind 37 = .ok (.iload_n 3, 1) := by decide +kernel
theorem dX10_behind_38 : decode cX10_behind 38 = .ok (.ireturn, 1) := by decide +kernel
theorem dX10_behind_39 : decode cX10_behind 39 = .ok (.aload_n 0, 1) := by decide +kernel
theorem dX10_behind_40 : decode cX10_behind 40 = .ok (.getfield 26, 3) := by decide +kernel
theorem dX10_behind_43 : decode cX10_behind 43 = .ok (.getfield 130, 3) := by decide +kernel
theorem dX10_behind_46 : decode cX10_behind 46 = .ok (.iload_n 1, 1) := by decide +kernel
theorem dX10_behind_47 : decode cX10_behind 47 = .ok (.invokevirtual 66, 3) := by decide +kernel
theorem dX10_behind_50 : decode cX10_behind 50 = .ok (.ifCond .eq 18, 3) := by decide +kernel
theorem dX10_behind_53 : decode cX10_behind 53 = .ok (.aload_n 0, 1) := by decide +kernel
theorem dX10_behind_54 : decode cX10_behind 54 = .ok (.getfield 26, 3) := by decide +kernel
theorem dX10_behind_57 : decode cX10_behind 57 = .ok (.getfield 130, 3) := by decide +kernel
theorem dX10_behind_60 : decode cX10_behind 60 = .ok (.iload_n 1, 1) := by decide +kernel
theorem dX10_behind_61 : decode cX10_behind 61 = .ok (.iload_n 2, 1) := by decide +kernel
theorem dX10_behind_62 : decode cX10_behind 62 = .ok (.invokevirtual 131, 3) := by decide +kernel
theorem dX10_behind_65 : decode cX10_behind 65 = .ok (.goto 4, 3) := by decide +kernel
theorem dX10_behind_68 : decode cX10_behind 68 = .ok (.iconst (-1), 1) := by decide +kernel
theorem dX10_behind_69 : decode cX10_behind 69 = .ok (.ireturn, 1) := by decide +kernel
theorem dX10_fat_0 : decode cX10_fat 0 = .ok (.aload_n 0, 1) := by decide +kernel
theorem dX10_fat_1 : decode cX10_fat 1 = .ok (.getfield 12, 3) := by decide +kernel
theorem dX10_fat_4 : decode cX10_fat 4 = .ok (.getfield 52, 3) := by decide +kernel
theorem dX10_fat_7 : decode cX10_fat 7 = .ok (.iload_n 1, 1) := by decide +kernel
theorem dX10_fat_8 : decode cX10_fat 8 = .ok (.invokevirtual 66, 3) := by decide +kernel
theorem dX10_fat_11 : decode cX10_fat 11 = .ok (.ifCond .eq 13, 3) := by decide +kernel
theorem dX10_fat_14 : decode cX10_fat 14 = .ok (.iload_n 2, 1) := by decide +kernel
theorem dX10_fat_15 : decode cX10_fat 15 = .ok (.iconst 0, 1) := by decide +kernel
theorem dX10_fat_16 : decode cX10_fat 16 = .ok (.bipush 7, 2) := by decide +kernel
theorem dX10_fat_18 : decode cX10_fat 18 = .ok (.invokestatic 48, 3) := by decide +kernel
theorem dX10_fat_21 : decode cX10_fat 21 = .ok (.ifCond .ne 5, 3) := by decide +kernel
theorem dX10_fat_24 : decode cX10_fat 24 = .ok (.iconst (-1), 1) := by decide +kernel
theorem dX10_fat_25 : decode cX10_fat 25 = .ok (.ireturn, 1) := by decide +kernel
theorem dX10_fat_26 : decode cX10_fat 26 = .ok (.aload_n 0, 1) := by decide +kernel
theorem dX10_fat_27 : decode cX10_fat 27 = .ok (.invokevirtual 109, 3) := by decide +kernel
theorem dX10_fat_30 : decode cX10_fat 30 = .ok (.istore_n 3, 1) := by decide +kernel
theorem dX10_fat_31 : decode cX10_fat 31 = .ok (.iload_n 3, 1) := by decide +kernel
theorem dX10_fat_32 : decode cX10_fat 32 = .ok (.ifCond .eq 5, 3) := by decide +kernel
theorem dX10_fat_35 : decode cX10_fat 35 = .ok (.iload_n 3, 1) := by decide +kernel
theorem dX10_fat_36 : decode cX10_fat 36 = .ok (.ireturn, 1) := by decide +kernel
theorem dX10_fat_37 : decode cX10_fat 37 = .ok (.aload_n 0, 1) := by decide +kernel
theorem dX10_fat_38 : decode cX10_fat 38 = .ok (.getfield 26, 3) := by decide +kernel
theorem dX10_fat_41 : decode cX10_fat 41 = .ok (.getfield 130, 3) := by decide +kernel
theorem dX10_fat_44 : decode cX10_fat 44 = .ok (.iload_n 1, 1) := by decide +kernel
theorem dX10_fat_45 : decode cX10_fat 45 = .ok (.invokevirtual 66, 3) := by decide +kernel
theorem dX10_fat_48 : decode cX10_fat 48 = .ok (.ifCond .eq 18, 3) := by decide +kernel
theorem dX10_fat_51 : decode cX10_fat 51 = .ok (.aload_n 0, 1) := by decide +kernel
theorem dX10_fat_52 : decode cX10_fat 52 = .ok (.getfield 26, 3) := by decide +kernel
theorem dX10_fat_55 : decode cX10_fat 55 = .ok (.getfield 130, 3) := by decide +kernel
theorem dX10_fat_58 : decode cX10_fat 58 = .ok (.iload_n 1, 1) := by decide +kernel
theorem dX10_fat_59 : decode cX10_fat 59 = .ok (.iload_n 2, 1) := by decide +kernel
theorem dX10_fat_60 : decode cX10_fat 60 = .ok (.invokevirtual 135, 3) := by decide +kernel
theorem dX10_fat_63 : decode cX10_fat 63 = .ok (.goto 4, 3) := by decide +kernel
theorem dX10_fat_66 : decode cX10_fat 66 = .ok (.iconst (-1), 1) := by decide +kernel
theorem dX10_fat_67 : decode cX10_fat 67 = .ok (.ireturn, 1) := by decide +kernel
theorem dX10_sky_0 : decode cX10_sky 0 = .ok (.iload_n 1, 1) := by decide +kernel
theorem dX10_sky_1 : decode cX10_sky 1 = .ok (.iconst 0, 1) := by decide +kernel
theorem dX10_sky_2 : decode cX10_sky 2 = .ok (.iconst 1, 1) := by decide +kernel
theorem dX10_sky_3 : decode cX10_sky 3 = .ok (.invokestatic 48, 3) := by decide +kernel
theorem dX10_sky_6 : decode cX10_sky 6 = .ok (.ifCond .ne 6, 3) := by decide +kernel
theorem dX10_sky_9 : decode cX10_sky 9 = .ok (.bipush (-2), 2) := by decide +kernel
theorem dX10_sky_11 : decode cX10_sky 11 = .ok (.ireturn, 1) := by decide +kernel
theorem dX10_sky_12 : decode cX10_sky 12 = .ok (.aload_n 0, 1) := by decide +kernel
theorem dX10_sky_13 : decode cX10_sky 13 = .ok (.invokevirtual 109, 3) := by decide +kernel
theorem dX10_sky_16 : decode cX10_sky 16 = .ok (.istore_n 2, 1) := by decide +kernel
theorem dX10_sky_17 : decode cX10_sky 17 = .ok (.iload_n 2, 1) := by decide +kernel
theorem dX10_sky_18 : decode cX10_sky 18 = .ok (.ifCond .eq 5, 3) := by decide +kernel
theorem dX10_sky_21 : decode cX10_sky 21 = .ok (.iload_n 2, 1) := by decide +kernel
theorem dX10_sky_22 : decode cX10_sky 22 = .ok (.ireturn, 1) := by decide +kernel
theorem dX10_sky_23 : decode cX10_sky 23 = .ok (.iload_n 1, 1) := by decide +kernel
theorem dX10_sky_24 : decode cX10_sky 24 = .ok (.ifCond .ne 16, 3) := by decide +kernel
theorem dX10_sky_27 : decode cX10_sky 27 = .ok (.aload_n 0, 1) := by decide +kernel
theorem dX10_sky_28 : decode cX10_sky 28 = .ok (.getfield 26, 3) := by decide +kernel
theorem dX10_sky_31 : decode cX10_sky 31 = .ok (.getfield 118, 3) := by decide +kernel
theorem dX10_sky_34 : decode cX10_sky 34 = .ok (.getfield 138, 3) := by decide +kernel
theorem dX10_sky_37 : decode cX10_sky 37 = .ok (.goto 13, 3) := by decide +kernel
theorem dX10_sky_40 : decode cX10_sky 40 = .ok (.aload_n 0, 1) := by decide +kernel
theorem dX10_sky_41 : decode cX10_sky 41 = .ok (.getfield 26, 3) := by decide +kernel
theorem dX10_sky_44 : decode cX10_sky 44 = .ok (.getfield 118, 3) := by decide +kernel
theorem dX10_sky_47 : decode cX10_sky 47 = .ok (.getfield 141, 3) := by decide +kernel
theorem dX10_sky_50 : decode cX10_sky 50 = .ok (.ireturn, 1) := by decide +kernel
theorem dX10_done_0 : decode cX10_done 0 = .ok (.aload_n 0, 1) := by decide +kernel
theorem dX10_done_1 : decode cX10_done 1 = .ok (.invokevirtual 109, 3) := by decide +kernel
theorem dX10_done_4 : decode cX10_done 4 = .ok (.istore_n 1, 1) := by decide +kernel
theorem dX10_done_5 : decode cX10_done 5 = .ok (.iload_n 1, 1) := by decide +kernel
theorem dX10_done_6 : decode cX10_done 6 = .ok (.ifCond .eq 5, 3) := by decide +kernel
theorem dX10_done_9 : decode cX10_done 9 = .ok (.iload_n 1, 1) := by decide +kernel
theorem dX10_done_10 : decode cX10_done 10 = .ok (.ireturn, 1) := by decide +kernel
theorem dX10_done_11 : decode cX10_done 11 = .ok (.aload_n 0, 1) := by decide +kernel
theorem dX10_done_12 : decode cX10_done 12 = .ok (.getfield 12, 3) := by decide +kernel
theorem dX10_done_15 : decode cX10_done 15 = .ok (.getfield 52, 3) := by decide +kernel
theorem dX10_done_18 : decode cX10_done 18 = .ok (.aload_n 0, 1) := by decide +kernel
theorem dX10_done_19 : decode cX10_done 19 = .ok (.getfield 26, 3) := by decide +kernel
theorem dX10_done_22 : decode cX10_done 22 = .ok (.getfield 130, 3) := by decide +kernel
theorem dX10_done_25 : decode cX10_done 25 = .ok (.invokevirtual 144, 3) := by decide +kernel
theorem dX10_done_28 : decode cX10_done 28 = .ok (.aload_n 0, 1) := by decide +kernel
theorem dX10_done_29 : decode cX10_done 29 = .ok (.getfield 19, 3) := by decide +kernel
theorem dX10_done_32 : decode cX10_done 32 = .ok (.iconst 0, 1) := by decide +kernel
theorem dX10_done_33 : decode cX10_done 33 = .ok (.putfield 103, 3) := by decide +kernel
theorem dX10_done_36 : decode cX10_done 36 = .ok (.aload_n 0, 1) := by decide +kernel
theorem dX10_done_37 : decode cX10_done 37 = .ok (.getfield 26, 3) := by decide +kernel
theorem dX10_done_40 : decode cX10_done 40 = .ok (.getfield 148, 3) := by decide +kernel
theorem dX10_done_43 : decode cX10_done 43 = .ok (.ireturn, 1) := by decide +kernel
theorem dX10_tryShop_0 : decode cX10_tryShop 0 = .ok (.aload_n 0, 1) := by decide +kernel
theorem dX10_tryShop_1 : decode cX10_tryShop 1 = .ok (.getfield 19, 3) := by decide +kernel
theorem dX10_tryShop_4 : decode cX10_tryShop 4 = .ok (.invokevirtual 106, 3) := by decide +kernel
theorem dX10_tryShop_7 : decode cX10_tryShop 7 = .ok (.bipush (-6), 2) := by decide +kernel
theorem dX10_tryShop_9 : decode cX10_tryShop 9 = .ok (.if_icmp .eq 6, 3) := by decide +kernel
theorem dX10_tryShop_12 : decode cX10_tryShop 12 = .ok (.bipush (-5), 2) := by decide +kernel
theorem dX10_tryShop_14 : decode cX10_tryShop 14 = .ok (.ireturn, 1) := by decide +kernel
theorem dX10_tryShop_15 : decode cX10_tryShop 15 = .ok (.aload_n 0, 1) := by decide +kernel
theorem dX10_tryShop_16 : decode cX10_tryShop 16 = .ok (.getfield 26, 3) := by decide +kernel
theorem dX10_tryShop_19 : decode cX10_tryShop 19 = .ok (.aload_n 0, 1) := by decide +kernel
theorem dX10_tryShop_20 : decode cX10_tryShop 20 = .ok (.getfield 12, 3) := by decide +kernel
theorem dX10_tryShop_23 : decode cX10_tryShop 23 = .ok (.invokevirtual 151, 3) := by decide +kernel
theorem dX10_tryShop_26 : decode cX10_tryShop 26 = .ok (.aload_n 0, 1) := by decide +kernel
theorem dX10_tryShop_27 : decode cX10_tryShop 27 = .ok (.getfield 26, 3) := by decide +kernel
theorem dX10_tryShop_30 : decode cX10_tryShop 30 = .ok (.aload_n 0, 1) := by decide +kernel
theorem dX10_tryShop_31 : decode cX10_tryShop 31 = .ok (.getfield 19, 3) := by decide +kernel
theorem dX10_tryShop_34 : decode cX10_tryShop 34 = .ok (.invokevirtual 155, 3) := by decide +kernel
theorem dX10_tryShop_37 : decode cX10_tryShop 37 = .ok (.aload_n 0, 1) := by decide +kernel
theorem dX10_tryShop_38 : decode cX10_tryShop 38 = .ok (.getfield 26, 3) := by decide +kernel
theorem dX10_tryShop_41 : decode cX10_tryShop 41 = .ok (.getfield 112, 3) := by decide +kernel
theorem dX10_tryShop_44 : decode cX10_tryShop 44 = .ok (.bipush (-6), 2) := by decide +kernel
theorem dX10_tryShop_46 : decode cX10_tryShop 46 = .ok (.if_icmp .ne 7, 3) := by decide +kernel
theorem dX10_tryShop_49 : decode cX10_tryShop 49 = .ok (.iconst 0, 1) := by decide +kernel
theorem dX10_tryShop_50 : decode cX10_tryShop 50 = .ok (.goto 5, 3) := by decide +kernel
theorem dX10_tryShop_53 : decode cX10_tryShop 53 = .ok (.bipush (-3), 2) := by decide +kernel
theorem dX10_tryShop_55 : decode cX10_tryShop 55 = .ok (.ireturn, 1) := by decide +kernel
theorem dX10_clean_0 : decode cX10_clean 0 = .ok (.aload_n 0, 1) := by decide +kernel
theorem dX10_clean_1 : decode cX10_clean 1 = .ok (.getfield 12, 3) := by decide +kernel
theorem dX10_clean_4 : decode cX10_clean 4 = .ok (.getfield 52, 3) := by decide +kernel
theorem dX10_clean_7 : decode cX10_clean 7 = .ok (.iload_n 1, 1) := by decide +kernel
theorem dX10_clean_8 : decode cX10_clean 8 = .ok (.invokevirtual 66, 3) := by decide +kernel
theorem dX10_clean_11 : decode cX10_clean 11 = .ok (.ifCond .ne 5, 3) := by decide +kernel
theorem dX10_clean_14 : decode cX10_clean 14 = .ok (.iconst (-1), 1) := by decide +kernel
theorem dX10_clean_15 : decode cX10_clean 15 = .ok (.ireturn, 1) := by decide +kernel
theorem dX10_clean_16 : decode cX10_clean 16 = .ok (.aload_n 0, 1) := by decide +kernel
theorem dX10_clean_17 : decode cX10_clean 17 = .ok (.getfield 12, 3) := by decide +kernel
theorem dX10_clean_20 : decode cX10_clean 20 = .ok (.getfield 52, 3) := by decide +kernel
theorem dX10_clean_23 : decode cX10_clean 23 = .ok (.getfield 159, 3) := by decide +kernel
theorem dX10_clean_26 : decode cX10_clean 26 = .ok (.iload_n 1, 1) := by decide +kernel
theorem dX10_clean_27 : decode cX10_clean 27 = .ok (.iaload, 1) := by decide +kernel
theorem dX10_clean_28 : decode cX10_clean 28 = .ok (.istore_n 2, 1) := by decide +kernel
theorem dX10_clean_29 : decode cX10_clean 29 = .ok (.iload_n 2, 1) := by decide +kernel
theorem dX10_clean_30 : decode cX10_clean 30 = .ok (.bipush (-6), 2) := by decide +kernel
theorem dX10_clean_32 : decode cX10_clean 32 = .ok (.if_icmp .ne 6, 3) := by decide +kernel
theorem dX10_clean_35 : decode cX10_clean 35 = .ok (.bipush (-3), 2) := by decide +kernel
theorem dX10_clean_37 : decode cX10_clean 37 = .ok (.ireturn, 1) := by decide +kernel
theorem dX10_clean_38 : decode cX10_clean 38 = .ok (.aload_n 0, 1) := by decide +kernel
theorem dX10_clean_39 : decode cX10_clean 39 = .ok (.getfield 12, 3) := by decide +kernel
theorem dX10_clean_42 : decode cX10_clean 42 = .ok (.getfield 52, 3) := by decide +kernel
theorem dX10_clean_45 : decode cX10_clean 45 = .ok (.iload_n 1, 1) := by decide +kernel
theorem dX10_clean_46 : decode cX10_clean 46 = .ok (.iload_n 2, 1) := by decide +kernel
theorem dX10_clean_47 : decode cX10_clean 47 = .ok (.invokevirtual 135, 3) := by decide +kernel
theorem dX10_clean_50 : decode cX10_clean 50 = .ok (.aload_n 0, 1) := by decide +kernel
theorem dX10_clean_51 : decode cX10_clean 51 = .ok (.getfield 12, 3) := by decide +kernel
theorem dX10_clean_54 : decode cX10_clean 54 = .ok (.getfield 52, 3) := by decide +kernel
theorem dX10_clean_57 : decode cX10_clean 57 = .ok (.iload_n 1, 1) := by decide +kernel
theorem dX10_clean_58 : decode cX10_clean 58 = .ok (.iload_n 2, 1) := by decide +kernel
theorem dX10_clean_59 : decode cX10_clean 59 = .ok (.invokevirtual 162, 3) := by decide +kernel
theorem dX10_clean_62 : decode cX10_clean 62 = .ok (.aload_n 0, 1) := by decide +kernel
theorem dX10_clean_63 : decode cX10_clean 63 = .ok (.getfield 12, 3) := by decide +kernel
theorem dX10_clean_66 : decode cX10_clean 66 = .ok (.getfield 74, 3) := by decide +kernel
theorem dX10_clean_69 : decode cX10_clean 69 = .ok (.iload_n 2, 1) := by decide +kernel
theorem dX10_clean_70 : decode cX10_clean 70 = .ok (.invokevirtual 165, 3) := by decide +kernel
theorem dX10_clean_73 : decode cX10_clean 73 = .ok (.aload_n 0, 1) := by decide +kernel
theorem dX10_clean_74 : decode cX10_clean 74 = .ok (.getfield 12, 3) := by decide +kernel
theorem dX10_clean_77 : decode cX10_clean 77 = .ok (.getfield 52, 3) := by decide +kernel
theorem dX10_clean_80 : decode cX10_clean 80 = .ok (.getfield 169, 3) := by decide +kernel
theorem dX10_clean_83 : decode cX10_clean 83 = .ok (.iload_n 1, 1) := by decide +kernel
theorem dX10_clean_84 : decode cX10_clean 84 = .ok (.iaload, 1) := by decide +kernel
theorem dX10_clean_85 : decode cX10_clean 85 = .ok (.invokestatic 172, 3) := by decide +kernel
theorem dX10_clean_88 : decode cX10_clean 88 = .ok (.ireturn, 1) := by decide +kernel
theorem dX10_grind_0 : decode cX10_grind 0 = .ok (.aload_n 0, 1) := by decide +kernel
theorem dX10_grind_1 : decode cX10_grind 1 = .ok (.getfield 12, 3) := by decide +kernel
theorem dX10_grind_4 : decode cX10_grind 4 = .ok (.getfield 52, 3) := by decide +kernel
theorem dX10_grind_7 : decode cX10_grind 7 = .ok (.iload_n 1, 1) := by decide +kernel
theorem dX10_grind_8 : decode cX10_grind 8 = .ok (.invokevirtual 66, 3) := by decide +kernel
theorem dX10_grind_11 : decode cX10_grind 11 = .ok (.ifCond .eq 13, 3) := by decide +kernel
theorem dX10_grind_14 : decode cX10_grind 14 = .ok (.iload_n 2, 1) := by decide +kernel
theorem dX10_grind_15 : decode cX10_grind 15 = .ok (.iconst 0, 1) := by decide +kernel
theorem dX10_grind_16 : decode cX10_grind 16 = .ok (.bipush 7, 2) := by decide +kernel
theorem dX10_grind_18 : decode cX10_grind 18 = .ok (.invokestatic 48, 3) := by decide +kernel
theorem dX10_grind_21 : decode cX10_grind 21 = .ok (.ifCond .ne 5, 3) := by decide +kernel
theorem dX10_grind_24 : decode cX10_grind 24 = .ok (.iconst (-1), 1) := by decide +kernel
theorem dX10_grind_25 : decode cX10_grind 25 = .ok (.ireturn, 1) := by decide +kernel
theorem dX10_grind_26 : decode cX10_grind 26 = .ok (.iload_n 3, 1) := by decide +kernel
theorem dX10_grind_27 : decode cX10_grind 27 = .ok (.iconst 0, 1) := by decide +kernel
theorem dX10_grind_28 : decode cX10_grind 28 = .ok (.sipush 999, 3) := by decide +kernel
theorem dX10_grind_31 : decode cX10_grind 31 = .ok (.invokestatic 48, 3) := by decide +kernel
theorem dX10_grind_34 : decode cX10_grind 34 = .ok (.ifCond .ne 6, 3) := by decide +kernel
theorem dX10_grind_37 : decode cX10_grind 37 = .ok (.bipush (-2), 2) := by decide +kernel
theorem dX10_grind_39 : decode cX10_grind 39 = .ok (.ireturn, 1) := by decide +kernel
theorem dX10_grind_40 : decode cX10_grind 40 = .ok (.iconst 0, 1) := by decide +kernel
theorem dX10_grind_41 : decode cX10_grind 41 = .ok (.istore 4, 2) := by decide +kernel
theorem dX10_grind_43 : decode cX10_grind 43 = .ok (.iload 4, 2) := by decide +kernel
theorem dX10_grind_45 : decode cX10_grind 45 = .ok (.bipush 20, 2) := by decide +kernel
theorem dX10_grind_47 : decode cX10_grind 47 = .ok (.if_icmp .gt 60, 3) := by decide +kernel
theorem dX10_grind_50 : decode cX10_grind 50 = .ok (.aload_n 0, 1) := by decide +kernel
theorem dX10_grind_51 : decode cX10_grind 51 = .ok (.getfield 12, 3) := by decide +kernel
theorem dX10_grind_54 : decode cX10_grind 54 = .ok (.getfield 52, 3) := by decide +kernel
theorem dX10_grind_57 : decode cX10_grind 57 = .ok (.getfield 176, 3) := by decide +kernel
theorem dX10_grind_60 : decode cX10_grind 60 = .ok (.iload_n 1, 1) := by decide +kernel
theorem dX10_grind_61 : decode cX10_grind 61 = .ok (.iaload, 1) := by decide +kernel
theorem dX10_grind_62 : decode cX10_grind 62 = .ok (.iconst 3, 1) := by decide +kernel
theorem dX10_grind_63 : decode cX10_grind 63 = .ok (.iload 4, 2) := by decide +kernel
theorem dX10_grind_65 : decode cX10_grind 65 = .ok (.imul, 1) := by decide +kernel
theorem dX10_grind_66 : decode cX10_grind 66 = .ok (.isub, 1) := by decide +kernel
theorem dX10_grind_67 : decode cX10_grind 67 = .ok (.aload_n 0, 1) := by decide +kernel
theorem dX10_grind_68 : decode cX10_grind 68 = .ok (.getfield 12, 3) := by decide +kernel
theorem dX10_grind_71 : decode cX10_grind 71 = .ok (.getfield 74, 3) := by decide +kernel
theorem dX10_grind_74 : decode cX10_grind 74 = .ok (.getfield 94, 3) := by decide +kernel
theorem dX10_grind_77 : decode cX10_grind 77 = .ok (.if_icmp .ge 6, 3) := by decide +kernel
theorem dX10_grind_80 : decode cX10_grind 80 = .ok (.bipush (-6), 2) := by decide +kernel
theorem dX10_grind_82 : decode cX10_grind 82 = .ok (.ireturn, 1) := by decide +kernel
theorem dX10_grind_83 : decode cX10_grind 83 = .ok (.aload_n 0, 1) := by decide +kernel
theorem dX10_grind_84 : decode cX10_grind 84 = .ok (.getfield 12, 3) := by decide +kernel
theorem dX10_grind_87 : decode cX10_grind 87 = .ok (.iload_n 1, 1) := by decide +kernel
theorem dX10_grind_88 : decode cX10_grind 88 = .ok (.iload_n 2, 1) := by decide +kernel
theorem dX10_grind_89 : decode cX10_grind 89 = .ok (.iload 4, 2) := by decide +kernel
theorem dX10_grind_91 : decode cX10_grind 91 = .ok (.iload_n 3, 1) := by decide +kernel
theorem dX10_grind_92 : decode cX10_grind 92 = .ok (.invokevirtual 179, 3) := by decide +kernel
theorem dX10_grind_95 : decode cX10_grind 95 = .ok (.ifCond .eq 6, 3) := by decide +kernel
theorem dX10_grind_98 : decode cX10_grind 98 = .ok (.iload 4, 2) := by decide +kernel
theorem dX10_grind_100 : decode cX10_grind 100 = .ok (.ireturn, 1) := by decide +kernel
theorem dX10_grind_101 : decode cX10_grind 101 = .ok (.iinc 4 1, 3) := by decide +kernel
theorem dX10_grind_104 : decode cX10_grind 104 = .ok (.goto (-61), 3) := by decide +kernel
theorem dX10_grind_107 : decode cX10_grind 107 = .ok (.bipush (-6), 2) := by decide +kernel
theorem dX10_grind_109 : decode cX10_grind 109 = .ok (.ireturn, 1) := by decide +kernel
theorem dX10_lives_0 : decode cX10_lives 0 = .ok (.aload_n 0, 1) := by decide +kernel
theorem dX10_lives_1 : decode cX10_lives 1 = .ok (.getfield 12, 3) := by decide +kernel
theorem dX10_lives_4 : decode cX10_lives 4 = .ok (.getfield 52, 3) := by decide +kernel
theorem dX10_lives_7 : decode cX10_lives 7 = .ok (.iload_n 1, 1) := by decide +kernel
theorem dX10_lives_8 : decode cX10_lives 8 = .ok (.invokevirtual 66, 3) := by decide +kernel
theorem dX10_lives_11 : decode cX10_lives 11 = .ok (.ifCond .ne 5, 3) := by decide +kernel
theorem dX10_lives_14 : decode cX10_lives 14 = .ok (.iconst (-1), 1) := by decide +kernel
theorem dX10_lives_15 : decode cX10_lives 15 = .ok (.ireturn, 1) := by decide +kernel
theorem dX10_lives_16 : decode cX10_lives 16 = .ok (.iload_n 2, 1) := by decide +kernel
theorem dX10_lives_17 : decode cX10_lives 17 = .ok (.iconst 1, 1) := by decide +kernel
theorem dX10_lives_18 : decode cX10_lives 18 = .ok (.bipush 99, 2) := by decide +kernel
theorem dX10_lives_20 : decode cX10_lives 20 = .ok (.invokestatic 48, 3) := by decide +kernel
theorem dX10_lives_23 : decode cX10_lives 23 = .ok (.ifCond .ne 6, 3) := by decide +kernel
theorem dX10_lives_26 : decode cX10_lives 26 = .ok (.bipush (-2), 2) := by decide +kernel
theorem dX10_lives_28 : decode cX10_lives 28 = .ok (.ireturn, 1) := by decide +kernel
theorem dX10_lives_29 : decode cX10_lives 29 = .ok (.aload_n 0, 1) := by decide +kernel
theorem dX10_lives_30 : decode cX10_lives 30 = .ok (.getfield 12, 3) := by decide +kernel
theorem dX10_lives_33 : decode cX10_lives 33 = .ok (.getfield 52, 3) := by decide +kernel
theorem dX10_lives_36 : decode cX10_lives 36 = .ok (.getfield 176, 3) := by decide +kernel
theorem dX10_lives_39 : decode cX10_lives 39 = .ok (.iload_n 1, 1) := by decide +kernel
theorem dX10_lives_40 : decode cX10_lives 40 = .ok (.iaload, 1) := by decide +kernel
theorem dX10_lives_41 : decode cX10_lives 41 = .ok (.aload_n 0, 1) := by decide +kernel
theorem dX10_lives_42 : decode cX10_lives 42 = .ok (.getfield 12, 3) := by decide +kernel
theorem dX10_lives_45 : decode cX10_lives 45 = .ok (.getfield 74, 3) := by decide +kernel
theorem dX10_lives_48 : decode cX10_lives 48 = .ok (.getfield 94, 3) := by decide +kernel
theorem dX10_lives_51 : decode cX10_lives 51 = .ok (.isub, 1) := by decide +kernel
theorem dX10_lives_52 : decode cX10_lives 52 = .ok (.istore_n 3, 1) := by decide +kernel
theorem dX10_lives_53 : decode cX10_lives 53 = .ok (.iload_n 3, 1) := by decide +kernel
theorem dX10_lives_54 : decode cX10_lives 54 = .ok (.ifCond .ge 7, 3) := by decide +kernel
theorem dX10_lives_57 : decode cX10_lives 57 = .ok (.iconst 0, 1) := by decide +kernel
theorem dX10_lives_58 : decode cX10_lives 58 = .ok (.goto 8, 3) := by decide +kernel
theorem dX10_lives_61 : decode cX10_lives 61 = .ok (.iload_n 3, 1) := by decide +kernel
theorem dX10_lives_62 : decode cX10_lives 62 = .ok (.iconst 3, 1) := by decide +kernel
theorem dX10_lives_63 : decode cX10_lives 63 = .ok (.iload_n 2, 1) := by decide +kernel
theorem dX10_lives_64 : decode cX10_lives 64 = .ok (.imul, 1) := by decide +kernel
theorem dX10_lives_65 : decode cX10_lives 65 = .ok (.idiv, 1) := by decide +kernel
theorem dX10_lives_66 : decode cX10_lives 66 = .ok (.ireturn, 1) := by decide +kernel
theorem dX10_orders_0 : decode cX10_orders 0 = .ok (.iload_n 3, 1) := by decide +kernel
theorem dX10_orders_1 : decode cX10_orders 1 = .ok (.iconst (-1), 1) := by decide +kernel
theorem dX10_orders_2 : decode cX10_orders 2 = .ok (.if_icmp .eq 23, 3) := by decide +kernel
theorem dX10_orders_5 : decode cX10_orders 5 = .ok (.iload_n 3, 1) := by decide +kernel
theorem dX10_orders_6 : decode cX10_orders 6 = .ok (.iconst 0, 1) := by decide +kernel
theorem dX10_orders_7 : decode cX10_orders 7 = .ok (.bipush 7, 2) := by decide +kernel
theorem dX10_orders_9 : decode cX10_orders 9 = .ok (.invokestatic 48, 3) := by decide +kernel
theorem dX10_orders_12 : decode cX10_orders 12 = .ok (.ifCond .eq 11, 3) := by decide +kernel
theorem dX10_orders_15 : decode cX10_orders 15 = .ok (.iload_n 1, 1) := by decide +kernel
theorem dX10_orders_16 : decode cX10_orders 16 = .ok (.iload_n 3, 1) := by decide +kernel
theorem dX10_orders_17 : decode cX10_orders 17 = .ok (.invokestatic 183, 3) := by decide +kernel
theorem dX10_orders_20 : decode cX10_orders 20 = .ok (.ifCond .ne 5, 3) := by decide +kernel
theorem dX10_orders_23 : decode cX10_orders 23 = .ok (.iconst (-1), 1) := by decide +kernel
theorem dX10_orders_24 : decode cX10_orders 24 = .ok (.ireturn, 1) := by decide +kernel
theorem dX10_orders_25 : decode cX10_orders 25 = .ok (.iload_n 1, 1) := by decide +kernel
theorem dX10_orders_26 : decode cX10_orders 26 = .ok (.iconst 0, 1) := by decide +kernel
theorem dX10_orders_27 : decode cX10_orders 27 = .ok (.sipush 255, 3) := by decide +kernel
theorem dX10_orders_30 : decode cX10_orders 30 = .ok (.invokestatic 48, 3) := by decide +kernel
theorem dX10_orders_33 : decode cX10_orders 33 = .ok (.ifCond .eq 14, 3) := by decide +kernel
theorem dX10_orders_36 : decode cX10_orders 36 = .ok (.iload_n 2, 1) := by decide +kernel
theorem dX10_orders_37 : decode cX10_orders 37 = .ok (.iconst 0, 1) := by decide +kernel
theorem dX10_orders_38 : decode cX10_orders 38 = .ok (.sipush 999, 3) := by decide +kernel
theorem dX10_orders_41 : decode cX10_orders 41 = .ok (.invokestatic 48, 3) := by decide +kernel
theorem dX10_orders_44 : decode cX10_orders 44 = .ok (.ifCond .ne 6, 3) := by decide +kernel
theorem dX10_orders_47 : decode cX10_orders 47 = .ok (.bipush (-2), 2) := by decide +kernel
theorem dX10_orders_49 : decode cX10_orders 49 = .ok (.ireturn, 1) := by decide +kernel
theorem dX10_orders_50 : decode cX10_orders 50 = .ok (.aload_n 0, 1) := by decide +kernel
theorem dX10_orders_51 : decode cX10_orders 51 = .ok (.getfield 33, 3) := by decide +kernel
theorem dX10_orders_54 : decode cX10_orders 54 = .ok (.aload_n 0, 1) := by decide +kernel
theorem dX10_orders_55 : decode cX10_orders 55 = .ok (.getfield 12, 3) := by decide +kernel
theorem dX10_orders_58 : decode cX10_orders 58 = .ok (.iload_n 1, 1) := by decide +kernel
theorem dX10_orders_59 : decode cX10_orders 59 = .ok (.iload_n 2, 1) := by decide +kernel
theorem dX10_orders_60 : decode cX10_orders 60 = .ok (.invokevirtual 187, 3) := by decide +kernel
theorem dX10_orders_63 : decode cX10_orders 63 = .ok (.iload_n 3, 1) := by decide +kernel
theorem dX10_orders_64 : decode cX10_orders 64 = .ok (.iconst (-1), 1) := by decide +kernel
theorem dX10_orders_65 : decode cX10_orders 65 = .ok (.if_icmp .ne 13, 3) := by decide +kernel
theorem dX10_orders_68 : decode cX10_orders 68 = .ok (.aload_n 0, 1) := by decide +kernel
theorem dX10_orders_69 : decode cX10_orders 69 = .ok (.getfield 33, 3) := by decide +kernel
theorem dX10_orders_72 : decode cX10_orders 72 = .ok (.invokevirtual 191, 3) := by decide +kernel
theorem dX10_orders_75 : decode cX10_orders 75 = .ok (.goto 11, 3) := by decide +kernel
theorem dX10_orders_78 : decode cX10_orders 78 = .ok (.aload_n 0, 1) := by decide +kernel
theorem dX10_orders_79 : decode cX10_orders 79 = .ok (.getfield 33, 3) := by decide +kernel
theorem dX10_orders_82 : decode cX10_orders 82 = .ok (.iload_n 3, 1) := by decide +kernel
theorem dX10_orders_83 : decode cX10_orders 83 = .ok (.invokevirtual 194, 3) := by decide +kernel
theorem dX10_orders_86 : decode cX10_orders 86 = .ok (.ireturn, 1) := by decide +kernel
theorem dX10_colours_0 : decode cX10_colours 0 = .ok (.iload_n 1, 1) := by decide +kernel
theorem dX10_colours_1 : decode cX10_colours 1 = .ok (.iconst 1, 1) := by decide +kernel
theorem dX10_colours_2 : decode cX10_colours 2 = .ok (.bipush 6, 2) := by decide +kernel
theorem dX10_colours_4 : decode cX10_colours 4 = .ok (.invokestatic 48, 3) := by decide +kernel
theorem dX10_colours_7 : decode cX10_colours 7 = .ok (.ifCond .eq 12, 3) := by decide +kernel
theorem dX10_colours_10 : decode cX10_colours 10 = .ok (.iload_n 2, 1) := by decide +kernel
theorem dX10_colours_11 : decode cX10_colours 11 = .ok (.iconst 0, 1) := by decide +kernel
theorem dX10_colours_12 : decode cX10_colours 12 = .ok (.iconst 1, 1) := by decide +kernel
theorem dX10_colours_13 : decode cX10_colours 13 = .ok (.invokestatic 48, 3) := by decide +kernel
theorem dX10_colours_16 : decode cX10_colours 16 = .ok (.ifCond .ne 6, 3) := by decide +kernel
theorem dX10_colours_19 : decode cX10_colours 19 = .ok (.bipush (-2), 2) := by decide +kernel
theorem dX10_colours_21 : decode cX10_colours 21 = .ok (.ireturn, 1) := by decide +kernel
theorem dX10_colours_22 : decode cX10_colours 22 = .ok (.aload_n 0, 1) := by decide +kernel
theorem dX10_colours_23 : decode cX10_colours 23 = .ok (.getfield 40, 3) := by decide +kernel
theorem dX10_colours_26 : decode cX10_colours 26 = .ok (.aload_n 0, 1) := by decide +kernel
theorem dX10_colours_27 : decode cX10_colours 27 = .ok (.getfield 12, 3) := by decide +kernel
theorem dX10_colours_30 : decode cX10_colours 30 = .ok (.getfield 74, 3) := by decide +kernel
theorem dX10_colours_33 : decode cX10_colours 33 = .ok (.getfield 97, 3) := by decide +kernel
theorem dX10_colours_36 : decode cX10_colours 36 = .ok (.iload_n 1, 1) := by decide +kernel
theorem dX10_colours_37 : decode cX10_colours 37 = .ok (.invokevirtual 197, 3) := by decide +kernel
theorem dX10_colours_40 : decode cX10_colours 40 = .ok (.iload_n 2, 1) := by decide +kernel
theorem dX10_colours_41 : decode cX10_colours 41 = .ok (.ifCond .ne 15, 3) := by decide +kernel
theorem dX10_colours_44 : decode cX10_colours 44 = .ok (.aload_n 0, 1) := by decide +kernel
theorem dX10_colours_45 : decode cX10_colours 45 = .ok (.getfield 40, 3) := by decide +kernel
theorem dX10_colours_48 : decode cX10_colours 48 = .ok (.getfield 200, 3) := by decide +kernel
theorem dX10_colours_51 : decode cX10_colours 51 = .ok (.iconst 0, 1) := by decide +kernel
theorem dX10_colours_52 : decode cX10_colours 52 = .ok (.iaload, 1) := by decide +kernel
theorem dX10_colours_53 : decode cX10_colours 53 = .ok (.goto 21, 3) := by decide +kernel
theorem dX10_colours_56 : decode cX10_colours 56 = .ok (.aload_n 0, 1) := by decide +kernel
theorem dX10_colours_57 : decode cX10_colours 57 = .ok (.getfield 40, 3) := by decide +kernel
theorem dX10_colours_60 : decode cX10_colours 60 = .ok (.aload_n 0, 1) := by decide +kernel
theorem dX10_colours_61 : decode cX10_colours 61 = .ok (.getfield 12, 3) := by decide +kernel
theorem dX10_colours_64 : decode cX10_colours 64 = .ok (.getfield 74, 3) := by decide +kernel
theorem dX10_colours_67 : decode cX10_colours 67 = .ok (.getfield 97, 3) := by decide +kernel
theorem dX10_colours_70 : decode cX10_colours 70 = .ok (.iconst 0, 1) := by decide +kernel
theorem dX10_colours_71 : decode cX10_colours 71 = .ok (.invokevirtual 202, 3) := by decide +kernel
theorem dX10_colours_74 : decode cX10_colours 74 = .ok (.ireturn, 1) := by decide +kernel
theorem dX10_crack_0 : decode cX10_crack 0 = .ok (.aload_n 0, 1) := by decide +kernel
theorem dX10_crack_1 : decode cX10_crack 1 = .ok (.getfield 12, 3) := by decide +kernel
theorem dX10_crack_4 : decode cX10_crack 4 = .ok (.getfield 52, 3) := by decide +kernel
theorem dX10_crack_7 : decode cX10_crack 7 = .ok (.iload_n 1, 1) := by decide +kernel
theorem dX10_crack_8 : decode cX10_crack 8 = .ok (.invokevirtual 66, 3) := by decide +kernel
theorem dX10_crack_11 : decode cX10_crack 11 = .ok (.ifCond .ne 7, 3) := by decide +kernel
theorem dX10_crack_14 : decode cX10_crack 14 = .ok (.ldc2_w 206, 3) := by decide +kernel
theorem dX10_crack_17 : decode cX10_crack 17 = .ok (.lreturn, 1) := by decide +kernel
theorem dX10_crack_18 : decode cX10_crack 18 = .ok (.iload_n 2, 1) := by decide +kernel
theorem dX10_crack_19 : decode cX10_crack 19 = .ok (.iconst 0, 1) := by decide +kernel
theorem dX10_crack_20 : decode cX10_crack 20 = .ok (.sipush 150, 3) := by decide +kernel
theorem dX10_crack_23 : decode cX10_crack 23 = .ok (.invokestatic 48, 3) := by decide +kernel
theorem dX10_crack_26 : decode cX10_crack 26 = .ok (.ifCond .eq 33, 3) := by decide +kernel
theorem dX10_crack_29 : decode cX10_crack 29 = .ok (.iload_n 3, 1) := by decide +kernel
theorem dX10_crack_30 : decode cX10_crack 30 = .ok (.iconst 0, 1) := by decide +kernel
theorem dX10_crack_31 : decode cX10_crack 31 = .ok (.bipush 9, 2) := by decide +kernel
theorem dX10_crack_33 : decode cX10_crack 33 = .ok (.invokestatic 48, 3) := by decide +kernel
theorem dX10_crack_36 : decode cX10_crack 36 = .ok (.ifCond .eq 23, 3) := by decide +kernel
theorem dX10_crack_39 : decode cX10_crack 39 = .ok (.iload 4, 2) := by decide +kernel
theorem dX10_crack_41 : decode cX10_crack 41 = .ok (.iconst 0, 1) := by decide +kernel
theorem dX10_crack_42 : decode cX10_crack 42 = .ok (.iconst 1, 1) := by decide +kernel
theorem dX10_crack_43 : decode cX10_crack 43 = .ok (.invokestatic 48, 3) := by decide +kernel
theorem dX10_crack_46 : decode cX10_crack 46 = .ok (.ifCond .eq 13, 3) := by decide +kernel
theorem dX10_crack_49 : decode cX10_crack 49 = .ok (.iload 5, 2) := by decide +kernel
theorem dX10_crack_51 : decode cX10_crack 51 = .ok (.iconst 0, 1) := by decide +kernel
theorem dX10_crack_52 : decode cX10_crack 52 = .ok (.iconst 1, 1) := by decide +kernel
theorem dX10_crack_53 : decode cX10_crack 53 = .ok (.invokestatic 48, 3) := by decide +kernel
theorem dX10_crack_56 : decode cX10_crack 56 = .ok (.ifCond .ne 7, 3) := by decide +kernel
theorem dX10_crack_59 : decode cX10_crack 59 = .ok (.ldc2_w 208, 3) := by decide +kernel
theorem dX10_crack_62 : decode cX10_crack 62 = .ok (.lreturn, 1) := by decide +kernel
theorem dX10_crack_63 : decode cX10_crack 63 = .ok (.iconst 0, 1) := by decide +kernel
theorem dX10_crack_64 : decode cX10_crack 64 = .ok (.bipush 10, 2) := by decide +kernel
theorem dX10_crack_66 : decode cX10_crack 66 = .ok (.iload_n 2, 1) := by decide +kernel
theorem dX10_crack_67 : decode cX10_crack 67 = .ok (.aload_n 0, 1) := by decide +kernel
theorem dX10_crack_68 : decode cX10_crack 68 = .ok (.getfield 12, 3) := by decide +kernel
theorem dX10_crack_71 : decode cX10_crack 71 = .ok (.getfield 52, 3) := by decide +kernel
theorem dX10_crack_74 : decode cX10_crack 74 = .ok (.getfield 176, 3) := by decide +kernel
theorem dX10_crack_77 : decode cX10_crack 77 = .ok (.iload_n 1, 1) := by decide +kernel
theorem dX10_crack_78 : decode cX10_crack 78 = .ok (.iaload, 1) := by decide +kernel
theorem dX10_crack_79 : decode cX10_crack 79 = .ok (.bipush 100, 2) := by decide +kernel
theorem dX10_crack_81 : decode cX10_crack 81 = .ok (.idiv, 1) := by decide +kernel
theorem dX10_crack_82 : decode cX10_crack 82 = .ok (.isub, 1) := by decide +kernel
theorem dX10_crack_83 : decode cX10_crack 83 = .ok (.invokestatic 210, 3) := by decide +kernel
theorem dX10_crack_86 : decode cX10_crack 86 = .ok (.invokestatic 215, 3) := by decide +kernel
theorem dX10_crack_89 : decode cX10_crack 89 = .ok (.istore 6, 2) := by decide +kernel
theorem dX10_crack_91 : decode cX10_crack 91 = .ok (.lconst 1, 1) := by decide +kernel
theorem dX10_crack_92 : decode cX10_crack 92 = .ok (.lstore 7, 2) := by decide +kernel
theorem dX10_crack_94 : decode cX10_crack 94 = .ok (.lconst 1, 1) := by decide +kernel
theorem dX10_crack_95 : decode cX10_crack 95 = .ok (.lstore 9, 2) := by decide +kernel
theorem dX10_crack_97 : decode cX10_crack 97 = .ok (.lconst 1, 1) := by decide +kernel
theorem dX10_crack_98 : decode cX10_crack 98 = .ok (.lstore 11, 2) := by decide +kernel
theorem dX10_crack_100 : decode cX10_crack 100 = .ok (.iconst 0, 1) := by decide +kernel
theorem dX10_crack_101 : decode cX10_crack 101 = .ok (.istore 13, 2) := by decide +kernel
theorem dX10_crack_103 : decode cX10_crack 103 = .ok (.iload 13, 2) := by decide +kernel
theorem dX10_crack_105 : decode cX10_crack 105 = .ok (.iload_n 3, 1) := by decide +kernel
theorem dX10_crack_106 : decode cX10_crack 106 = .ok (.if_icmp .ge 39, 3) := by decide +kernel
theorem dX10_crack_109 : decode cX10_crack 109 = .ok (.lload 7, 2) := by decide +kernel
theorem dX10_crack_111 : decode cX10_crack 111 = .ok (.ldc2_w 218, 3) := by decide +kernel
theorem dX10_crack_114 : decode cX10_crack 114 = .ok (.lmul, 1) := by decide +kernel
theorem dX10_crack_115 : decode cX10_crack 115 = .ok (.lstore 7, 2) := by decide +kernel
theorem dX10_crack_117 : decode cX10_crack 117 = .ok (.lload 9, 2) := by decide +kernel
theorem dX10_crack_119 : decode cX10_crack 119 = .ok (.bipush 10, 2) := by decide +kernel
theorem dX10_crack_121 : decode cX10_crack 121 = .ok (.iload 6, 2) := by decide +kernel
theorem dX10_crack_123 : decode cX10_crack 123 = .ok (.isub, 1) := by decide +kernel
theorem dX10_crack_124 : decode cX10_crack 124 = .ok (.i2l, 1) := by decide +kernel
theorem dX10_crack_125 : decode cX10_crack 125 = .ok (.lmul, 1) := by decide +kernel
theorem dX10_crack_126 : decode cX10_crack 126 = .ok (.lstore 9, 2) := by decide +kernel
theorem dX10_crack_128 : decode cX10_crack 128 = .ok (.lload 11, 2) := by decide +kernel
theorem dX10_crack_130 : decode cX10_crack 130 = .ok (.ldc2_w 218, 3) := by decide +kernel
theorem dX10_crack_133 : decode cX10_crack 133 = .ok (.lmul, 1) := by decide +kernel
theorem dX10_crack_134 : decode cX10_crack 134 = .ok (.lload 9, 2) := by decide +kernel
theorem dX10_crack_136 : decode cX10_crack 136 = .ok (.ladd, 1) := by decide +kernel
theorem dX10_crack_137 : decode cX10_crack 137 = .ok (.lstore 11, 2) := by decide +kernel
theorem dX10_crack_139 : decode cX10_crack 139 = .ok (.iinc 13 1, 3) := by decide +kernel
theorem dX10_crack_142 : decode cX10_crack 142 = .ok (.goto (-39), 3) := by decide +kernel
theorem dX10_crack_145 : decode cX10_crack 145 = .ok (.iload 4, 2) := by decide +kernel
theorem dX10_crack_147 : decode cX10_crack 147 = .ok (.ifCond .ne 8, 3) := by decide +kernel
theorem dX10_crack_150 : decode cX10_crack 150 = .ok (.lload 9, 2) := by decide +kernel
theorem dX10_crack_152 : decode cX10_crack 152 = .ok (.goto 5, 3) := by decide +kernel
theorem dX10_crack_155 : decode cX10_crack 155 = .ok (.lload 11, 2) := by decide +kernel
theorem dX10_crack_157 : decode cX10_crack 157 = .ok (.lload 7, 2) := by decide +kernel
theorem dX10_crack_159 : decode cX10_crack 159 = .ok (.iload 5, 2) := by decide +kernel
theorem dX10_crack_161 : decode cX10_crack 161 = .ok (.invokestatic 220, 3) := by decide +kernel
theorem dX10_crack_164 : decode cX10_crack 164 = .ok (.lreturn, 1) := by decide +kernel
theorem dX10_seen_0 : decode cX10_seen 0 = .ok (.iload_n 1, 1) := by decide +kernel
theorem dX10_seen_1 : decode cX10_seen 1 = .ok (.iconst 0, 1) := by decide +kernel
theorem dX10_seen_2 : decode cX10_seen 2 = .ok (.bipush 7, 2) := by decide +kernel
theorem dX10_seen_4 : decode cX10_seen 4 = .ok (.invokestatic 48, 3) := by decide +kernel
theorem dX10_seen_7 : decode cX10_seen 7 = .ok (.ifCond .ne 5, 3) := by decide +kernel
theorem dX10_seen_10 : decode cX10_seen 10 = .ok (.iconst (-1), 1) := by decide +kernel
theorem dX10_seen_11 : decode cX10_seen 11 = .ok (.ireturn, 1) := by decide +kernel
theorem dX10_seen_12 : decode cX10_seen 12 = .ok (.iload_n 2, 1) := by decide +kernel
theorem dX10_seen_13 : decode cX10_seen 13 = .ok (.iconst 0, 1) := by decide +kernel
theorem dX10_seen_14 : decode cX10_seen 14 = .ok (.sipush 999, 3) := by decide +kernel
theorem dX10_seen_17 : decode cX10_seen 17 = .ok (.invokestatic 48, 3) := by decide +kernel
theorem dX10_seen_20 : decode cX10_seen 20 = .ok (.ifCond .ne 6, 3) := by decide +kernel
theorem dX10_seen_23 : decode cX10_seen 23 = .ok (.bipush (-2), 2) := by decide +kernel
theorem dX10_seen_25 : decode cX10_seen 25 = .ok (.ireturn, 1) := by decide +kernel
theorem dX10_seen_26 : decode cX10_seen 26 = .ok (.aload_n 0, 1) := by decide +kernel
theorem dX10_seen_27 : decode cX10_seen 27 = .ok (.getfield 12, 3) := by decide +kernel
theorem dX10_seen_30 : decode cX10_seen 30 = .ok (.getfield 224, 3) := by decide +kernel
theorem dX10_seen_33 : decode cX10_seen 33 = .ok (.iload_n 1, 1) := by decide +kernel
theorem dX10_seen_34 : decode cX10_seen 34 = .ok (.iload_n 2, 1) := by decide +kernel
theorem dX10_seen_35 : decode cX10_seen 35 = .ok (.iload_n 3, 1) := by decide +kernel
theorem dX10_seen_36 : decode cX10_seen 36 = .ok (.invokevirtual 228, 3) := by decide +kernel
theorem dX10_seen_39 : decode cX10_seen 39 = .ok (.ifCond .eq 16, 3) := by decide +kernel
theorem dX10_seen_42 : decode cX10_seen 42 = .ok (.aload_n 0, 1) := by decide +kernel
theorem dX10_seen_43 : decode cX10_seen 43 = .ok (.getfield 12, 3) := by decide +kernel
theorem dX10_seen_46 : decode cX10_seen 46 = .ok (.getfield 224, 3) := by decide +kernel
theorem dX10_seen_49 : decode cX10_seen 49 = .ok (.getfield 234, 3) := by decide +kernel
theorem dX10_seen_52 : decode cX10_seen 52 = .ok (.goto 5, 3) := by decide +kernel
theorem dX10_seen_55 : decode cX10_seen 55 = .ok (.bipush (-4), 2) := by decide +kernel
theorem dX10_seen_57 : decode cX10_seen 57 = .ok (.ireturn, 1) := by decide +kernel
theorem dX10_forget_0 : decode cX10_forget 0 = .ok (.aload_n 0, 1) := by decide +kernel
theorem dX10_forget_1 : decode cX10_forget 1 = .ok (.getfield 12, 3) := by decide +kernel
theorem dX10_forget_4 : decode cX10_forget 4 = .ok (.getfield 224, 3) := by decide +kernel
theorem dX10_forget_7 : decode cX10_forget 7 = .ok (.getfield 234, 3) := by decide +kernel
theorem dX10_forget_10 : decode cX10_forget 10 = .ok (.istore_n 1, 1) := by decide +kernel
theorem dX10_forget_11 : decode cX10_forget 11 = .ok (.aload_n 0, 1) := by decide +kernel
theorem dX10_forget_12 : decode cX10_forget 12 = .ok (.getfield 12, 3) := by decide +kernel
theorem dX10_forget_15 : decode cX10_forget 15 = .ok (.getfield 224, 3) := by decide +kernel
theorem dX10_forget_18 : decode cX10_forget 18 = .ok (.iconst 0, 1) := by decide +kernel
theorem dX10_forget_19 : decode cX10_forget 19 = .ok (.putfield 234, 3) := by decide +kernel
theorem dX10_forget_22 : decode cX10_forget 22 = .ok (.iload_n 1, 1) := by decide +kernel
theorem dX10_forget_23 : decode cX10_forget 23 = .ok (.ireturn, 1) := by decide +kernel
theorem dX10_whose_0 : decode cX10_whose 0 = .ok (.iconst 0, 1) := by decide +kernel
theorem dX10_whose_1 : decode cX10_whose 1 = .ok (.istore_n 2, 1) := by decide +kernel
theorem dX10_whose_2 : decode cX10_whose 2 = .ok (.iconst 0, 1) := by decide +kernel
theorem dX10_whose_3 : decode cX10_whose 3 = .ok (.istore_n 3, 1) := by decide +kernel
theorem dX10_whose_4 : decode cX10_whose 4 = .ok (.iload_n 3, 1) := by decide +kernel
theorem dX10_whose_5 : decode cX10_whose 5 = .ok (.bipush 8, 2) := by decide +kernel
theorem dX10_whose_7 : decode cX10_whose 7 = .ok (.if_icmp .ge 55, 3) := by decide +kernel
theorem dX10_whose_10 : decode cX10_whose 10 = .ok (.aload_n 0, 1) := by decide +kernel
theorem dX10_whose_11 : decode cX10_whose 11 = .ok (.getfield 12, 3) := by decide +kernel
theorem dX10_whose_14 : decode cX10_whose 14 = .ok (.iload_n 3, 1) := by decide +kernel
theorem dX10_whose_15 : decode cX10_whose 15 = .ok (.invokevirtual 235, 3) := by decide +kernel
theorem dX10_whose_18 : decode cX10_whose 18 = .ok (.istore 4, 2) := by decide +kernel
theorem dX10_whose_20 : decode cX10_whose 20 = .ok (.iload_n 1, 1) := by decide +kernel
theorem dX10_whose_21 : decode cX10_whose 21 = .ok (.iload_n 2, 1) := by decide +kernel
theorem dX10_whose_22 : decode cX10_whose 22 = .ok (.if_icmp .lt 29, 3) := by decide +kernel
theorem dX10_whose_25 : decode cX10_whose 25 = .ok (.iload_n 1, 1) := by decide +kernel
theorem dX10_whose_26 : decode cX10_whose 26 = .ok (.iload_n 2, 1) := by decide +kernel
theorem dX10_whose_27 : decode cX10_whose 27 = .ok (.iload 4, 2) := by decide +kernel
theorem dX10_whose_29 : decode cX10_whose 29 = .ok (.iadd, 1) := by decide +kernel
theorem dX10_whose_30 : decode cX10_whose 30 = .ok (.if_icmp .ge 21, 3) := by decide +kernel
theorem dX10_whose_33 : decode cX10_whose 33 = .ok (.bipush 100, 2) := by decide +kernel
theorem dX10_whose_35 : decode cX10_whose 35 = .ok (.iload_n 3, 1) := by decide +kernel
theorem dX10_whose_36 : decode cX10_whose 36 = .ok (.imul, 1) := by decide +kernel
theorem dX10_whose_37 : decode cX10_whose 37 = .ok (.aload_n 0, 1) := by decide +kernel
theorem dX10_whose_38 : decode cX10_whose 38 = .ok (.getfield 12, 3) := by decide +kernel
theorem dX10_whose_41 : decode cX10_whose 41 = .ok (.iload_n 3, 1) := by decide +kernel
theorem dX10_whose_42 : decode cX10_whose 42 = .ok (.invokevirtual 238, 3) := by decide +kernel
theorem dX10_whose_45 : decode cX10_whose 45 = .ok (.iadd, 1) := by decide +kernel
theorem dX10_whose_46 : decode cX10_whose 46 = .ok (.iload_n 1, 1) := by decide +kernel
theorem dX10_whose_47 : decode cX10_whose 47 = .ok (.iadd, 1) := by decide +kernel
theorem dX10_whose_48 : decode cX10_whose 48 = .ok (.iload_n 2, 1) := by decide +kernel
theorem dX10_whose_49 : decode cX10_whose 49 = .ok (.isub, 1) := by decide +kernel
theorem dX10_whose_50 : decode cX10_whose 50 = .ok (.ireturn, 1) := by decide +kernel
theorem dX10_whose_51 : decode cX10_whose 51 = .ok (.iload_n 2, 1) := by decide +kernel
theorem dX10_whose_52 : decode cX10_whose 52 = .ok (.iload 4, 2) := by decide +kernel
theorem dX10_whose_54 : decode cX10_whose 54 = .ok (.iadd, 1) := by decide +kernel
theorem dX10_whose_55 : decode cX10_whose 55 = .ok (.istore_n 2, 1) := by decide +kernel
theorem dX10_whose_56 : decode cX10_whose 56 = .ok (.iinc 3 1, 3) := by decide +kernel
theorem dX10_whose_59 : decode cX10_whose 59 = .ok (.goto (-55), 3) := by decide +kernel
theorem dX10_whose_62 : decode cX10_whose 62 = .ok (.iload_n 1, 1) := by decide +kernel
theorem dX10_whose_63 : decode cX10_whose 63 = .ok (.iconst (-1), 1) := by decide +kernel
theorem dX10_whose_64 : decode cX10_whose 64 = .ok (.if_icmp .ne 7, 3) := by decide +kernel
theorem dX10_whose_67 : decode cX10_whose 67 = .ok (.iload_n 2, 1) := by decide +kernel
theorem dX10_whose_68 : decode cX10_whose 68 = .ok (.goto 5, 3) := by decide +kernel
theorem dX10_whose_71 : decode cX10_whose 71 = .ok (.bipush (-6), 2) := by decide +kernel
theorem dX10_whose_73 : decode cX10_whose 73 = .ok (.ireturn, 1) := by decide +kernel
theorem dX10_suspects_0 : decode cX10_suspects 0 = .ok (.iconst 0, 1) := by decide +kernel
theorem dX10_suspects_1 : decode cX10_suspects 1 = .ok (.istore_n 1, 1) := by decide +kernel
theorem dX10_suspects_2 : decode cX10_suspects 2 = .ok (.iconst 0, 1) := by decide +kernel
theorem dX10_suspects_3 : decode cX10_suspects 3 = .ok (.istore_n 2, 1) := by decide +kernel
theorem dX10_suspects_4 : decode cX10_suspects 4 = .ok (.iload_n 2, 1) := by decide +kernel
theorem dX10_suspects_5 : decode cX10_suspects 5 = .ok (.bipush 8, 2) := by decide +kernel
theorem dX10_suspects_7 : decode cX10_suspects 7 = .ok (.if_icmp .ge 26, 3) := by decide +kernel
theorem dX10_suspects_10 : decode cX10_suspects 10 = .ok (.aload_n 0, 1) := by decide +kernel
theorem dX10_suspects_11 : decode cX10_suspects 11 = .ok (.getfield 12, 3) := by decide +kernel
theorem dX10_suspects_14 : decode cX10_suspects 14 = .ok (.iload_n 2, 1) := by decide +kernel
theorem dX10_suspects_15 : decode cX10_suspects 15 = .ok (.invokevirtual 235, 3) := by decide +kernel
theorem dX10_suspects_18 : decode cX10_suspects 18 = .ok (.ifCond .le 9, 3) := by decide +kernel
theorem dX10_suspects_21 : decode cX10_suspects 21 = .ok (.iload_n 1, 1) := by decide +kernel
theorem dX10_suspects_22 : decode cX10_suspects 22 = .ok (.iconst 1, 1) := by decide +kernel
theorem dX10_suspects_23 : decode cX10_suspects 23 = .ok (.iload_n 2, 1) := by decide +kernel
theorem dX10_suspects_24 : decode cX10_suspects 24 = .ok (.ishl, 1) := by decide +kernel
theorem dX10_suspects_25 : decode cX10_suspects 25 = .ok (.ior, 1) := by decide +kernel
theorem dX10_suspects_26 : decode cX10_suspects 26 = .ok (.istore_n 1, 1) := by decide +kernel
theorem dX10_suspects_27 : decode cX10_suspects 27 = .ok (.iinc 2 1, 3) := by decide +kernel
theorem dX10_suspects_30 : decode cX10_suspects 30 = .ok (.goto (-26), 3) := by decide +kernel
theorem dX10_suspects_33 : decode cX10_suspects 33 = .ok (.iload_n 1, 1) := by decide +kernel
theorem dX10_suspects_34 : decode cX10_suspects 34 = .ok (.ireturn, 1) := by decide +kernel
theorem dX10_next_0 : decode cX10_next 0 = .ok (.iload_n 1, 1) := by decide +kernel
theorem dX10_next_1 : decode cX10_next 1 = .ok (.iconst 0, 1) := by decide +kernel
theorem dX10_next_2 : decode cX10_next 2 = .ok (.sipush 999, 3) := by decide +kernel
theorem dX10_next_5 : decode cX10_next 5 = .ok (.invokestatic 48, 3) := by decide +kernel
theorem dX10_next_8 : decode cX10_next 8 = .ok (.ifCond .eq 12, 3) := by decide +kernel
theorem dX10_next_11 : decode cX10_next 11 = .ok (.iload_n 2, 1) := by decide +kernel
theorem dX10_next_12 : decode cX10_next 12 = .ok (.iconst 0, 1) := by decide +kernel
theorem dX10_next_13 : decode cX10_next 13 = .ok (.iconst 1, 1) := by decide +kernel
theorem dX10_next_14 : decode cX10_next 14 = .ok (.invokestatic 48, 3) := by decide +kernel
theorem dX10_next_17 : decode cX10_next 17 = .ok (.ifCond .ne 6, 3) := by decide +kernel
theorem dX10_next_20 : decode cX10_next 20 = .ok (.bipush (-2), 2) := by decide +kernel
theorem dX10_next_22 : decode cX10_next 22 = .ok (.ireturn, 1) := by decide +kernel
theorem dX10_next_23 : decode cX10_next 23 = .ok (.bipush (-6), 2) := by decide +kernel
theorem dX10_next_25 : decode cX10_next 25 = .ok (.istore_n 3, 1) := by decide +kernel
theorem dX10_next_26 : decode cX10_next 26 = .ok (.ldc 243, 2) := by decide +kernel
theorem dX10_next_28 : decode cX10_next 28 = .ok (.istore 4, 2) := by decide +kernel
theorem dX10_next_30 : decode cX10_next 30 = .ok (.iconst 0, 1) := by decide +kernel
theorem dX10_next_31 : decode cX10_next 31 = .ok (.istore 5, 2) := by decide +kernel
theorem dX10_next_33 : decode cX10_next 33 = .ok (.iload 5, 2) := by decide +kernel
theorem dX10_next_35 : decode cX10_next 35 = .ok (.bipush 8, 2) := by decide +kernel
theorem dX10_next_37 : decode cX10_next 37 = .ok (.if_icmp .ge 35, 3) := by decide +kernel
theorem dX10_next_40 : decode cX10_next 40 = .ok (.aload_n 0, 1) := by decide +kernel
theorem dX10_next_41 : decode cX10_next 41 = .ok (.getfield 12, 3) := by decide +kernel
theorem dX10_next_44 : decode cX10_next 44 = .ok (.iload 5, 2) := by decide +kernel
theorem dX10_next_46 : decode cX10_next 46 = .ok (.iload_n 1, 1) := by decide +kernel
theorem dX10_next_47 : decode cX10_next 47 = .ok (.invokevirtual 244, 3) := by decide +kernel
theorem dX10_next_50 : decode cX10_next 50 = .ok (.istore 6, 2) := by decide +kernel
theorem dX10_next_52 : decode cX10_next 52 = .ok (.iload 6, 2) := by decide +kernel
theorem dX10_next_54 : decode cX10_next 54 = .ok (.iload 4, 2) := by decide +kernel
theorem dX10_next_56 : decode cX10_next 56 = .ok (.if_icmp .ge 10, 3) := by decide +kernel
theorem dX10_next_59 : decode cX10_next 59 = .ok (.iload 6, 2) := by decide +kernel
theorem dX10_next_61 : decode cX10_next 61 = .ok (.istore 4, 2) := by decide +kernel
theorem dX10_next_63 : decode cX10_next 63 = .ok (.iload 5, 2) := by decide +kernel
theorem dX10_next_65 : decode cX10_next 65 = .ok (.istore_n 3, 1) := by decide +kernel
theorem dX10_next_66 : decode cX10_next 66 = .ok (.iinc 5 1, 3) := by decide +kernel
theorem dX10_next_69 : decode cX10_next 69 = .ok (.goto (-36), 3) := by decide +kernel
theorem dX10_next_72 : decode cX10_next 72 = .ok (.iload 4, 2) := by decide +kernel
theorem dX10_next_74 : decode cX10_next 74 = .ok (.ifCond .ne 6, 3) := by decide +kernel
theorem dX10_next_77 : decode cX10_next 77 = .ok (.bipush (-6), 2) := by decide +kernel
theorem dX10_next_79 : decode cX10_next 79 = .ok (.ireturn, 1) := by decide +kernel
theorem dX10_next_80 : decode cX10_next 80 = .ok (.iload_n 2, 1) := by decide +kernel
theorem dX10_next_81 : decode cX10_next 81 = .ok (.ifCond .ne 7, 3) := by decide +kernel
theorem dX10_next_84 : decode cX10_next 84 = .ok (.iload_n 3, 1) := by decide +kernel
theorem dX10_next_85 : decode cX10_next 85 = .ok (.goto 5, 3) := by decide +kernel
theorem dX10_next_88 : decode cX10_next 88 = .ok (.iload 4, 2) := by decide +kernel
theorem dX10_next_90 : decode cX10_next 90 = .ok (.ireturn, 1) := by decide +kernel
theorem dX10_year_0 : decode cX10_year 0 = .ok (.iload_n 1, 1) := by decide +kernel
theorem dX10_year_1 : decode cX10_year 1 = .ok (.iconst 0, 1) := by decide +kernel
theorem dX10_year_2 : decode cX10_year 2 = .ok (.sipush 9999, 3) := by decide +kernel
theorem dX10_year_5 : decode cX10_year 5 = .ok (.invokestatic 48, 3) := by decide +kernel
theorem dX10_year_8 : decode cX10_year 8 = .ok (.ifCond .eq 22, 3) := by decide +kernel
theorem dX10_year_11 : decode cX10_year 11 = .ok (.iload_n 2, 1) := by decide +kernel
theorem dX10_year_12 : decode cX10_year 12 = .ok (.iconst 1, 1) := by decide +kernel
theorem dX10_year_13 : decode cX10_year 13 = .ok (.bipush 99, 2) := by decide +kernel
theorem dX10_year_15 : decode cX10_year 15 = .ok (.invokestatic 48, 3) := by decide +kernel
theorem dX10_year_18 : decode cX10_year 18 = .ok (.ifCond .eq 12, 3) := by decide +kernel
theorem dX10_year_21 : decode cX10_year 21 = .ok (.iload_n 3, 1) := by decide +kernel
theorem dX10_year_22 : decode cX10_year 22 = .ok (.iconst 0, 1) := by decide +kernel
theorem dX10_year_23 : decode cX10_year 23 = .ok (.iconst 2, 1) := by decide +kernel
theorem dX10_year_24 : decode cX10_year 24 = .ok (.invokestatic 48, 3) := by decide +kernel
theorem dX10_year_27 : decode cX10_year 27 = .ok (.ifCond .ne 6, 3) := by decide +kernel
theorem dX10_year_30 : decode cX10_year 30 = .ok (.bipush (-2), 2) := by decide +kernel
theorem dX10_year_32 : decode cX10_year 32 = .ok (.ireturn, 1) := by decide +kernel
theorem dX10_year_33 : decode cX10_year 33 = .ok (.aload_n 0, 1) := by decide +kernel
theorem dX10_year_34 : decode cX10_year 34 = .ok (.getfield 26, 3) := by decide +kernel
theorem dX10_year_37 : decode cX10_year 37 = .ok (.aload_n 0, 1) := by decide +kernel
theorem dX10_year_38 : decode cX10_year 38 = .ok (.getfield 12, 3) := by decide +kernel
theorem dX10_year_41 : decode cX10_year 41 = .ok (.invokevirtual 151, 3) := by decide +kernel
theorem dX10_year_44 : decode cX10_year 44 = .ok (.aload_n 0, 1) := by decide +kernel
theorem dX10_year_45 : decode cX10_year 45 = .ok (.getfield 26, 3) := by decide +kernel
theorem dX10_year_48 : decode cX10_year 48 = .ok (.iload_n 1, 1) := by decide +kernel
theorem dX10_year_49 : decode cX10_year 49 = .ok (.iload_n 2, 1) := by decide +kernel
theorem dX10_year_50 : decode cX10_year 50 = .ok (.invokevirtual 247, 3) := by decide +kernel
theorem dX10_year_53 : decode cX10_year 53 = .ok (.iload_n 3, 1) := by decide +kernel
theorem dX10_year_54 : decode cX10_year 54 = .ok (.ifCond .ne 14, 3) := by decide +kernel
theorem dX10_year_57 : decode cX10_year 57 = .ok (.aload_n 0, 1) := by decide +kernel
theorem dX10_year_58 : decode cX10_year 58 = .ok (.getfield 26, 3) := by decide +kernel
theorem dX10_year_61 : decode cX10_year 61 = .ok (.getfield 118, 3) := by decide +kernel
theorem dX10_year_64 : decode cX10_year 64 = .ok (.getfield 122, 3) := by decide +kernel
theorem dX10_year_67 : decode cX10_year 67 = .ok (.ireturn, 1) := by decide +kernel
theorem dX10_year_68 : decode cX10_year 68 = .ok (.iload_n 3, 1) := by decide +kernel
theorem dX10_year_69 : decode cX10_year 69 = .ok (.iconst 1, 1) := by decide +kernel
theorem dX10_year_70 : decode cX10_year 70 = .ok (.if_icmp .ne 18, 3) := by decide +kernel
theorem dX10_year_73 : decode cX10_year 73 = .ok (.aload_n 0, 1) := by decide +kernel
theorem dX10_year_74 : decode cX10_year 74 = .ok (.getfield 26, 3) := by decide +kernel
theorem dX10_year_77 : decode cX10_year 77 = .ok (.getfield 118, 3) := by decide +kernel
theorem dX10_year_80 : decode cX10_year 80 = .ok (.getfield 127, 3) := by decide +kernel
theorem dX10_year_83 : decode cX10_year 83 = .ok (.iconst 3, 1) := by decide +kernel
theorem dX10_year_84 : decode cX10_year 84 = .ok (.iaload, 1) := by decide +kernel
theorem dX10_year_85 : decode cX10_year 85 = .ok (.goto 13, 3) := by decide +kernel
theorem dX10_year_88 : decode cX10_year 88 = .ok (.aload_n 0, 1) := by decide +kernel
theorem dX10_year_89 : decode cX10_year 89 = .ok (.getfield 26, 3) := by decide +kernel
theorem dX10_year_92 : decode cX10_year 92 = .ok (.getfield 130, 3) := by decide +kernel
theorem dX10_year_95 : decode cX10_year 95 = .ok (.invokevirtual 251, 3) := by decide +kernel
theorem dX10_year_98 : decode cX10_year 98 = .ok (.ireturn, 1) := by decide +kernel
theorem dX10_image_0 : decode cX10_image 0 = .ok (.iload_n 1, 1) := by decide +kernel
theorem dX10_image_1 : decode cX10_image 1 = .ok (.iconst 0, 1) := by decide +kernel
theorem dX10_image_2 : decode cX10_image 2 = .ok (.iconst 1, 1) := by decide +kernel
theorem dX10_image_3 : decode cX10_image 3 = .ok (.invokestatic 48, 3) := by decide +kernel
theorem dX10_image_6 : decode cX10_image 6 = .ok (.ifCond .ne 6, 3) := by decide +kernel
theorem dX10_image_9 : decode cX10_image 9 = .ok (.bipush (-2), 2) := by decide +kernel
theorem dX10_image_11 : decode cX10_image 11 = .ok (.ireturn, 1) := by decide +kernel
theorem dX10_image_12 : decode cX10_image 12 = .ok (.aload_n 0, 1) := by decide +kernel
theorem dX10_image_13 : decode cX10_image 13 = .ok (.getfield 44, 3) := by decide +kernel
theorem dX10_image_16 : decode cX10_image 16 = .ok (.iload_n 1, 1) := by decide +kernel
theorem dX10_image_17 : decode cX10_image 17 = .ok (.aaload, 1) := by decide +kernel
theorem dX10_image_18 : decode cX10_image 18 = .ok (.astore_n 2, 1) := by decide +kernel
theorem dX10_image_19 : decode cX10_image 19 = .ok (.aload_n 2, 1) := by decide +kernel
theorem dX10_image_20 : decode cX10_image 20 = .ok (.ifnonnull 18, 3) := by decide +kernel
theorem dX10_image_23 : decode cX10_image 23 = .ok (.new 9, 3) := by decide +kernel
theorem dX10_image_26 : decode cX10_image 26 = .ok (.dup, 1) := by decide +kernel
theorem dX10_image_27 : decode cX10_image 27 = .ok (.invokespecial 11, 3) := by decide +kernel
theorem dX10_image_30 : decode cX10_image 30 = .ok (.astore_n 2, 1) := by decide +kernel
theorem dX10_image_31 : decode cX10_image 31 = .ok (.aload_n 0, 1) := by decide +kernel
theorem dX10_image_32 : decode cX10_image 32 = .ok (.getfield 44, 3) := by decide +kernel
theorem dX10_image_35 : decode cX10_image 35 = .ok (.iload_n 1, 1) := by decide +kernel
theorem dX10_image_36 : decode cX10_image 36 = .ok (.aload_n 2, 1) := by decide +kernel
theorem dX10_image_37 : decode cX10_image 37 = .ok (.aastore, 1) := by decide +kernel
theorem dX10_image_38 : decode cX10_image 38 = .ok (.aload_n 2, 1) := by decide +kernel
theorem dX10_image_39 : decode cX10_image 39 = .ok (.aload_n 0, 1) := by decide +kernel
theorem dX10_image_40 : decode cX10_image 40 = .ok (.getfield 12, 3) := by decide +kernel
theorem dX10_image_43 : decode cX10_image 43 = .ok (.invokevirtual 254, 3) := by decide +kernel
theorem dX10_image_46 : decode cX10_image 46 = .ok (.iconst 1, 1) := by decide +kernel
theorem dX10_image_47 : decode cX10_image 47 = .ok (.ireturn, 1) := by decide +kernel
theorem dX10_restore_0 : decode cX10_restore 0 = .ok (.iload_n 1, 1) := by decide +kernel
theorem dX10_restore_1 : decode cX10_restore 1 = .ok (.iconst 0, 1) := by decide +kernel
theorem dX10_restore_2 : decode cX10_restore 2 = .ok (.iconst 1, 1) := by decide +kernel
theorem dX10_restore_3 : decode cX10_restore 3 = .ok (.invokestatic 48, 3) := by decide +kernel
theorem dX10_restore_6 : decode cX10_restore 6 = .ok (.ifCond .ne 6, 3) := by decide +kernel
theorem dX10_restore_9 : decode cX10_restore 9 = .ok (.bipush (-2), 2) := by decide +kernel
theorem dX10_restore_11 : decode cX10_restore 11 = .ok (.ireturn, 1) := by decide +kernel
theorem dX10_restore_12 : decode cX10_restore 12 = .ok (.aload_n 0, 1) := by decide +kernel
theorem dX10_restore_13 : decode cX10_restore 13 = .ok (.getfield 44, 3) := by decide +kernel
theorem dX10_restore_16 : decode cX10_restore 16 = .ok (.iload_n 1, 1) := by decide +kernel
theorem dX10_restore_17 : decode cX10_restore 17 = .ok (.aaload, 1) := by decide +kernel
theorem dX10_restore_18 : decode cX10_restore 18 = .ok (.astore_n 2, 1) := by decide +kernel
theorem dX10_restore_19 : decode cX10_restore 19 = .ok (.aload_n 2, 1) := by decide +kernel
theorem dX10_restore_20 : decode cX10_restore 20 = .ok (.ifnonnull 6, 3) := by decide +kernel
theorem dX10_restore_23 : decode cX10_restore 23 = .ok (.bipush (-3), 2) := by decide +kernel
theorem dX10_restore_25 : decode cX10_restore 25 = .ok (.ireturn, 1) := by decide +kernel
theorem dX10_restore_26 : decode cX10_restore 26 = .ok (.aload_n 0, 1) := by decide +kernel
theorem dX10_restore_27 : decode cX10_restore 27 = .ok (.getfield 12, 3) := by decide +kernel
theorem dX10_restore_30 : decode cX10_restore 30 = .ok (.aload_n 2, 1) := by decide +kernel
theorem dX10_restore_31 : decode cX10_restore 31 = .ok (.invokevirtual 254, 3) := by decide +kernel
theorem dX10_restore_34 : decode cX10_restore 34 = .ok (.iconst 1, 1) := by decide +kernel
theorem dX10_restore_35 : decode cX10_restore 35 = .ok (.ireturn, 1) := by decide +kernel
theorem dX10_told_0 : decode cX10_told 0 = .ok (.iload_n 1, 1) := by decide +kernel
theorem dX10_told_1 : decode cX10_told 1 = .ok (.iconst 0, 1) := by decide +kernel
theorem dX10_told_2 : decode cX10_told 2 = .ok (.bipush 9, 2) := by decide +kernel
theorem dX10_told_4 : decode cX10_told 4 = .ok (.invokestatic 48, 3) := by decide +kernel
theorem dX10_told_7 : decode cX10_told 7 = .ok (.ifCond .eq 9, 3) := by decide +kernel
theorem dX10_told_10 : decode cX10_told 10 = .ok (.aload_n 0, 1) := by decide +kernel
theorem dX10_told_11 : decode cX10_told 11 = .ok (.iload_n 1, 1) := by decide +kernel
theorem dX10_told_12 : decode cX10_told 12 = .ok (.invokevirtual 256, 3) := by decide +kernel
theorem dX10_told_15 : decode cX10_told 15 = .ok (.ireturn, 1) := by decide +kernel
theorem dX10_told_16 : decode cX10_told 16 = .ok (.iload_n 1, 1) := by decide +kernel
theorem dX10_told_17 : decode cX10_told 17 = .ok (.bipush 10, 2) := by decide +kernel
theorem dX10_told_19 : decode cX10_told 19 = .ok (.bipush 99, 2) := by decide +kernel
theorem dX10_told_21 : decode cX10_told 21 = .ok (.invokestatic 48, 3) := by decide +kernel
theorem dX10_told_24 : decode cX10_told 24 = .ok (.ifCond .eq 63, 3) := by decide +kernel
theorem dX10_told_27 : decode cX10_told 27 = .ok (.iload_n 1, 1) := by decide +kernel
theorem dX10_told_28 : decode cX10_told 28 = .ok (.bipush 10, 2) := by decide +kernel
theorem dX10_told_30 : decode cX10_told 30 = .ok (.idiv, 1) := by decide +kernel
theorem dX10_told_31 : decode cX10_told 31 = .ok (.iconst 1, 1) := by decide +kernel
theorem dX10_told_32 : decode cX10_told 32 = .ok (.isub, 1) := by decide +kernel
theorem dX10_told_33 : decode cX10_told 33 = .ok (.istore_n 2, 1) := by decide +kernel
theorem dX10_told_34 : decode cX10_told 34 = .ok (.aload_n 0, 1) := by decide +kernel
theorem dX10_told_35 : decode cX10_told 35 = .ok (.getfield 12, 3) := by decide +kernel
theorem dX10_told_38 : decode cX10_told 38 = .ok (.getfield 52, 3) := by decide +kernel
theorem dX10_told_41 : decode cX10_told 41 = .ok (.iload_n 2, 1) := by decide +kernel
theorem dX10_told_42 : decode cX10_told 42 = .ok (.invokevirtual 66, 3) := by decide +kernel
theorem dX10_told_45 : decode cX10_told 45 = .ok (.ifCond .eq 15, 3) := by decide +kernel
theorem dX10_told_48 : decode cX10_told 48 = .ok (.iload_n 1, 1) := by decide +kernel
theorem dX10_told_49 : decode cX10_told 49 = .ok (.bipush 10, 2) := by decide +kernel
theorem dX10_told_51 : decode cX10_told 51 = .ok (.irem, 1) := by decide +kernel
theorem dX10_told_52 : decode cX10_told 52 = .ok (.iconst 4, 1) := by decide +kernel
theorem dX10_told_53 : decode cX10_told 53 = .ok (.if_icmp .gt 7, 3) := by decide +kernel
theorem dX10_told_56 : decode cX10_told 56 = .ok (.iconst 1, 1) := by decide +kernel
theorem dX10_told_57 : decode cX10_told 57 = .ok (.goto 4, 3) := by decide +kernel
theorem dX10_told_60 : decode cX10_told 60 = .ok (.iconst 0, 1) := by decide +kernel
theorem dX10_told_61 : decode cX10_told 61 = .ok (.istore_n 3, 1) := by decide +kernel
theorem dX10_told_62 : decode cX10_told 62 = .ok (.iload_n 3, 1) := by decide +kernel
theorem dX10_told_63 : decode cX10_told 63 = .ok (.ifCond .eq 21, 3) := by decide +kernel
theorem dX10_told_66 : decode cX10_told 66 = .ok (.aload_n 0, 1) := by decide +kernel
theorem dX10_told_67 : decode cX10_told 67 = .ok (.getfield 12, 3) := by decide +kernel
theorem dX10_told_70 : decode cX10_told 70 = .ok (.getfield 52, 3) := by decide +kernel
theorem dX10_told_73 : decode cX10_told 73 = .ok (.iload_n 2, 1) := by decide +kernel
theorem dX10_told_74 : decode cX10_told 74 = .ok (.iload_n 1, 1) := by decide +kernel
theorem dX10_told_75 : decode cX10_told 75 = .ok (.bipush 10, 2) := by decide +kernel
theorem dX10_told_77 : decode cX10_told 77 = .ok (.irem, 1) := by decide +kernel
theorem dX10_told_78 : decode cX10_told 78 = .ok (.invokevirtual 131, 3) := by decide +kernel
theorem dX10_told_81 : decode cX10_told 81 = .ok (.goto 5, 3) := by decide +kernel
theorem dX10_told_84 : decode cX10_told 84 = .ok (.bipush (-2), 2) := by decide +kernel
theorem dX10_told_86 : decode cX10_told 86 = .ok (.ireturn, 1) := by decide +kernel
theorem dX10_told_87 : decode cX10_told 87 = .ok (.iload_n 1, 1) := by decide +kernel
theorem dX10_told_88 : decode cX10_told 88 = .ok (.bipush 100, 2) := by decide +kernel
theorem dX10_told_90 : decode cX10_told 90 = .ok (.sipush 999, 3) := by decide +kernel
theorem dX10_told_93 : decode cX10_told 93 = .ok (.invokestatic 48, 3) := by decide +kernel
theorem dX10_told_96 : decode cX10_told 96 = .ok (.ifCond .eq 64, 3) := by decide +kernel
theorem dX10_told_99 : decode cX10_told 99 = .ok (.iload_n 1, 1) := by decide +kernel
theorem dX10_told_100 : decode cX10_told 100 = .ok (.bipush 100, 2) := by decide +kernel
theorem dX10_told_102 : decode cX10_told 102 = .ok (.idiv, 1) := by decide +kernel
theorem dX10_told_103 : decode cX10_told 103 = .ok (.iconst 1, 1) := by decide +kernel
theorem dX10_told_104 : decode cX10_told 104 = .ok (.isub, 1) := by decide +kernel
theorem dX10_told_105 : decode cX10_told 105 = .ok (.istore_n 2, 1) := by decide +kernel
theorem dX10_told_106 : decode cX10_told 106 = .ok (.aload_n 0, 1) := by decide +kernel
theorem dX10_told_107 : decode cX10_told 107 = .ok (.getfield 12, 3) := by decide +kernel
theorem dX10_told_110 : decode cX10_told 110 = .ok (.getfield 52, 3) := by decide +kernel
theorem dX10_told_113 : decode cX10_told 113 = .ok (.iload_n 2, 1) := by decide +kernel
theorem dX10_told_114 : decode cX10_told 114 = .ok (.invokevirtual 66, 3) := by decide +kernel
theorem dX10_told_117 : decode cX10_told 117 = .ok (.ifCond .eq 16, 3) := by decide +kernel
theorem dX10_told_120 : decode cX10_told 120 = .ok (.iload_n 1, 1) := by decide +kernel
theorem dX10_told_121 : decode cX10_told 121 = .ok (.bipush 100, 2) := by decide +kernel
theorem dX10_told_123 : decode cX10_told 123 = .ok (.irem, 1) := by decide +kernel
theorem dX10_told_124 : decode cX10_told 124 = .ok (.bipush 8, 2) := by decide +kernel
theorem dX10_told_126 : decode cX10_told 126 = .ok (.if_icmp .ge 7, 3) := by decide +kernel
theorem dX10_told_129 : decode cX10_told 129 = .ok (.iconst 1, 1) := by decide +kernel
theorem dX10_told_130 : decode cX10_told 130 = .ok (.goto 4, 3) := by decide +kernel
theorem dX10_told_133 : decode cX10_told 133 = .ok (.iconst 0, 1) := by decide +kernel
theorem dX10_told_134 : decode cX10_told 134 = .ok (.istore_n 3, 1) := by decide +kernel
theorem dX10_told_135 : decode cX10_told 135 = .ok (.iload_n 3, 1) := by decide +kernel
theorem dX10_told_136 : decode cX10_told 136 = .ok (.ifCond .eq 21, 3) := by decide +kernel
theorem dX10_told_139 : decode cX10_told 139 = .ok (.aload_n 0, 1) := by decide +kernel
theorem dX10_told_140 : decode cX10_told 140 = .ok (.getfield 12, 3) := by decide +kernel
theorem dX10_told_143 : decode cX10_told 143 = .ok (.getfield 52, 3) := by decide +kernel
theorem dX10_told_146 : decode cX10_told 146 = .ok (.iload_n 2, 1) := by decide +kernel
theorem dX10_told_147 : decode cX10_told 147 = .ok (.iload_n 1, 1) := by decide +kernel
theorem dX10_told_148 : decode cX10_told 148 = .ok (.bipush 100, 2) := by decide +kernel
theorem dX10_told_150 : decode cX10_told 150 = .ok (.irem, 1) := by decide +kernel
theorem dX10_told_151 : decode cX10_told 151 = .ok (.invokevirtual 135, 3) := by decide +kernel
theorem dX10_told_154 : decode cX10_told 154 = .ok (.goto 5, 3) := by decide +kernel
theorem dX10_told_157 : decode cX10_told 157 = .ok (.bipush (-2), 2) := by decide +kernel
theorem dX10_told_159 : decode cX10_told 159 = .ok (.ireturn, 1) := by decide +kernel
theorem dX10_told_160 : decode cX10_told 160 = .ok (.iload_n 1, 1) := by decide +kernel
theorem dX10_told_161 : decode cX10_told 161 = .ok (.sipush 1000, 3) := by decide +kernel
theorem dX10_told_164 : decode cX10_told 164 = .ok (.sipush 9999, 3) := by decide +kernel
theorem dX10_told_167 : decode cX10_told 167 = .ok (.invokestatic 48, 3) := by decide +kernel
theorem dX10_told_170 : decode cX10_told 170 = .ok (.ifCond .eq 26, 3) := by decide +kernel
theorem dX10_told_173 : decode cX10_told 173 = .ok (.aload_n 0, 1) := by decide +kernel
theorem dX10_told_174 : decode cX10_told 174 = .ok (.getfield 12, 3) := by decide +kernel
theorem dX10_told_177 : decode cX10_told 177 = .ok (.getfield 74, 3) := by decide +kernel
theorem dX10_told_180 : decode cX10_told 180 = .ok (.iload_n 1, 1) := by decide +kernel
theorem dX10_told_181 : decode cX10_told 181 = .ok (.sipush 1000, 3) := by decide +kernel
theorem dX10_told_184 : decode cX10_told 184 = .ok (.idiv, 1) := by decide +kernel
theorem dX10_told_185 : decode cX10_told 185 = .ok (.iconst 1, 1) := by decide +kernel
theorem dX10_told_186 : decode cX10_told 186 = .ok (.isub, 1) := by decide +kernel
theorem dX10_told_187 : decode cX10_told 187 = .ok (.iload_n 1, 1) := by decide +kernel
theorem dX10_told_188 : decode cX10_told 188 = .ok (.sipush 1000, 3) := by decide +kernel
theorem dX10_told_191 : decode cX10_told 191 = .ok (.irem, 1) := by decide +kernel
theorem dX10_told_192 : decode cX10_told 192 = .ok (.invokevirtual 259, 3) := by decide +kernel
theorem dX10_told_195 : decode cX10_told 195 = .ok (.ireturn, 1) := by decide +kernel
theorem dX10_told_196 : decode cX10_told 196 = .ok (.iload_n 1, 1) := by decide +kernel
theorem dX10_told_197 : decode cX10_told 197 = .ok (.sipush 10000, 3) := by decide +kernel
theorem dX10_told_200 : decode cX10_told 200 = .ok (.sipush 10005, 3) := by decide +kernel
theorem dX10_told_203 : decode cX10_told 203 = .ok (.invokestatic 48, 3) := by decide +kernel
theorem dX10_told_206 : decode cX10_told 206 = .ok (.ifCond .eq 23, 3) := by decide +kernel
theorem dX10_told_209 : decode cX10_told 209 = .ok (.aload_n 0, 1) := by decide +kernel
theorem dX10_told_210 : decode cX10_told 210 = .ok (.getfield 12, 3) := by decide +kernel
theorem dX10_told_213 : decode cX10_told 213 = .ok (.getfield 74, 3) := by decide +kernel
theorem dX10_told_216 : decode cX10_told 216 = .ok (.getfield 97, 3) := by decide +kernel
theorem dX10_told_219 : decode cX10_told 219 = .ok (.iload_n 1, 1) := by decide +kernel
theorem dX10_told_220 : decode cX10_told 220 = .ok (.sipush 10000, 3) := by decide +kernel
theorem dX10_told_223 : decode cX10_told 223 = .ok (.isub, 1) := by decide +kernel
theorem dX10_told_224 : decode cX10_told 224 = .ok (.iaload, 1) := by decide +kernel
theorem dX10_told_225 : decode cX10_told 225 = .ok (.bipush 9, 2) := by decide +kernel
theorem dX10_told_227 : decode cX10_told 227 = .ok (.iadd, 1) := by decide +kernel
theorem dX10_told_228 : decode cX10_told 228 = .ok (.ireturn, 1) := by decide +kernel
theorem dX10_told_229 : decode cX10_told 229 = .ok (.bipush (-2), 2) := by decide +kernel
theorem dX10_told_231 : decode cX10_told 231 = .ok (.ireturn, 1) := by decide +kernel
theorem dX10_tellWhole_0 : decode cX10_tellWhole 0 = .ok (.iload_n 1, 1) := by decide +kernel
theorem dX10_tellWhole_1 : decode cX10_tellWhole 1 = .ok (.tableswitch 87 0 4 #[35, 43, 54, 65, 76], 35) := by decide +kernel
theorem dX10_tellWhole_36 : decode cX10_tellWhole 36 = .ok (.aload_n 0, 1) := by decide +kernel
theorem dX10_tellWhole_37 : decode cX10_tellWhole 37 = .ok (.getfield 19, 3) := by decide +kernel
theorem dX10_tellWhole_40 : decode cX10_tellWhole 40 = .ok (.getfield 103, 3) := by decide +kernel
theorem dX10_tellWhole_43 : decode cX10_tellWhole 43 = .ok (.ireturn, 1) := by decide +kernel
theorem dX10_tellWhole_44 : decode cX10_tellWhole 44 = .ok (.aload_n 0, 1) := by decide +kernel
theorem dX10_tellWhole_45 : decode cX10_tellWhole 45 = .ok (.getfield 12, 3) := by decide +kernel
theorem dX10_tellWhole_48 : decode cX10_tellWhole 48 = .ok (.getfield 52, 3) := by decide +kernel
theorem dX10_tellWhole_51 : decode cX10_tellWhole 51 = .ok (.getfield 260, 3) := by decide +kernel
theorem dX10_tellWhole_54 : decode cX10_tellWhole 54 = .ok (.ireturn, 1) := by decide +kernel
theorem dX10_tellWhole_55 : decode cX10_tellWhole 55 = .ok (.aload_n 0, 1) := by decide +kernel
theorem dX10_tellWhole_56 : decode cX10_tellWhole 56 = .ok (.getfield 12, 3) := by decide +kernel
theorem dX10_tellWhole_59 : decode cX10_tellWhole 59 = .ok (.getfield 74, 3) := by decide +kernel
theorem dX10_tellWhole_62 : decode cX10_tellWhole 62 = .ok (.getfield 90, 3) := by decide +kernel
theorem dX10_tellWhole_65 : decode cX10_tellWhole 65 = .ok (.ireturn, 1) := by decide +kernel
theorem dX10_tellWhole_66 : decode cX10_tellWhole 66 = .ok (.aload_n 0, 1) := by decide +kernel
theorem dX10_tellWhole_67 : decode cX10_tellWhole 67 = .ok (.getfield 12, 3) := by decide +kernel
theorem dX10_tellWhole_70 : decode cX10_tellWhole 70 = .ok (.getfield 74, 3) := by decide +kernel
theorem dX10_tellWhole_73 : decode cX10_tellWhole 73 = .ok (.getfield 94, 3) := by decide +kernel
theorem dX10_tellWhole_76 : decode cX10_tellWhole 76 = .ok (.ireturn, 1) := by decide +kernel
theorem dX10_tellWhole_77 : decode cX10_tellWhole 77 = .ok (.aload_n 0, 1) := by decide +kernel
theorem dX10_tellWhole_78 : decode cX10_tellWhole 78 = .ok (.getfield 12, 3) := by decide +kernel
theorem dX10_tellWhole_81 : decode cX10_tellWhole 81 = .ok (.getfield 224, 3) := by decide +kernel
theorem dX10_tellWhole_84 : decode cX10_tellWhole 84 = .ok (.getfield 234, 3) := by decide +kernel
theorem dX10_tellWhole_87 : decode cX10_tellWhole 87 = .ok (.ireturn, 1) := by decide +kernel
theorem dX10_tellWhole_88 : decode cX10_tellWhole 88 = .ok (.bipush (-2), 2) := by decide +kernel
theorem dX10_tellWhole_90 : decode cX10_tellWhole 90 = .ok (.ireturn, 1) := by decide +kernel
theorem dX10_inside_0 : decode cX10_inside 0 = .ok (.iload_n 0, 1) := by decide +kernel
theorem dX10_inside_1 : decode cX10_inside 1 = .ok (.iload_n 1, 1) := by decide +kernel
theorem dX10_inside_2 : decode cX10_inside 2 = .ok (.if_icmp .lt 12, 3) := by decide +kernel
theorem dX10_inside_5 : decode cX10_inside 5 = .ok (.iload_n 0, 1) := by decide +kernel
theorem dX10_inside_6 : decode cX10_inside 6 = .ok (.iload_n 2, 1) := by decide +kernel
theorem dX10_inside_7 : decode cX10_inside 7 = .ok (.if_icmp .gt 7, 3) := by decide +kernel
theorem dX10_inside_10 : decode cX10_inside 10 = .ok (.iconst 1, 1) := by decide +kernel
theorem dX10_inside_11 : decode cX10_inside 11 = .ok (.goto 4, 3) := by decide +kernel
theorem dX10_inside_14 : decode cX10_inside 14 = .ok (.iconst 0, 1) := by decide +kernel
theorem dX10_inside_15 : decode cX10_inside 15 = .ok (.ireturn, 1) := by decide +kernel
theorem dX10_hasBit_0 : decode cX10_hasBit 0 = .ok (.iload_n 0, 1) := by decide +kernel
theorem dX10_hasBit_1 : decode cX10_hasBit 1 = .ok (.iload_n 1, 1) := by decide +kernel
theorem dX10_hasBit_2 : decode cX10_hasBit 2 = .ok (.ishr, 1) := by decide +kernel
theorem dX10_hasBit_3 : decode cX10_hasBit 3 = .ok (.iconst 1, 1) := by decide +kernel
theorem dX10_hasBit_4 : decode cX10_hasBit 4 = .ok (.iand, 1) := by decide +kernel
theorem dX10_hasBit_5 : decode cX10_hasBit 5 = .ok (.iconst 1, 1) := by decide +kernel
theorem dX10_hasBit_6 : decode cX10_hasBit 6 = .ok (.if_icmp .ne 7, 3) := by decide +kernel
theorem dX10_hasBit_9 : decode cX10_hasBit 9 = .ok (.iconst 1, 1) := by decide +kernel
theorem dX10_hasBit_10 : decode cX10_hasBit 10 = .ok (.goto 4, 3) := by decide +kernel
theorem dX10_hasBit_13 : decode cX10_hasBit 13 = .ok (.iconst 0, 1) := by decide +kernel
theorem dX10_hasBit_14 : decode cX10_hasBit 14 = .ok (.ireturn, 1) := by decide +kernel
theorem dX10_pullsAhead_0 : decode cX10_pullsAhead 0 = .ok (.iconst 1, 1) := by decide +kernel
theorem dX10_pullsAhead_1 : decode cX10_pullsAhead 1 = .ok (.iload_n 1, 1) := by decide +kernel
theorem dX10_pullsAhead_2 : decode cX10_pullsAhead 2 = .ok (.invokestatic 215, 3) := by decide +kernel
theorem dX10_pullsAhead_5 : decode cX10_pullsAhead 5 = .ok (.istore 4, 2) := by decide +kernel
theorem dX10_pullsAhead_7 : decode cX10_pullsAhead 7 = .ok (.iload_n 0, 1) := by decide +kernel
theorem dX10_pullsAhead_8 : decode cX10_pullsAhead 8 = .ok (.iload 4, 2) := by decide +kernel
theorem dX10_pullsAhead_10 : decode cX10_pullsAhead 10 = .ok (.if_icmp .ge 5, 3) := by decide +kernel
theorem dX10_pullsAhead_13 : decode cX10_pullsAhead 13 = .ok (.iconst 0, 1) := by decide +kernel
theorem dX10_pullsAhead_14 : decode cX10_pullsAhead 14 = .ok (.ireturn, 1) := by decide +kernel
theorem dX10_pullsAhead_15 : decode cX10_pullsAhead 15 = .ok (.iload_n 0, 1) := by decide +kernel
theorem dX10_pullsAhead_16 : decode cX10_pullsAhead 16 = .ok (.iload 4, 2) := by decide +kernel
theorem dX10_pullsAhead_18 : decode cX10_pullsAhead 18 = .ok (.isub, 1) := by decide +kernel
theorem dX10_pullsAhead_19 : decode cX10_pullsAhead 19 = .ok (.iconst 1, 1) := by decide +kernel
theorem dX10_pullsAhead_20 : decode cX10_pullsAhead 20 = .ok (.iload_n 2, 1) := by decide +kernel
theorem dX10_pullsAhead_21 : decode cX10_pullsAhead 21 = .ok (.invokestatic 215, 3) := by decide +kernel
theorem dX10_pullsAhead_24 : decode cX10_pullsAhead 24 = .ok (.idiv, 1) := by decide +kernel
theorem dX10_pullsAhead_25 : decode cX10_pullsAhead 25 = .ok (.iconst 1, 1) := by decide +kernel
theorem dX10_pullsAhead_26 : decode cX10_pullsAhead 26 = .ok (.iadd, 1) := by decide +kernel
theorem dX10_pullsAhead_27 : decode cX10_pullsAhead 27 = .ok (.istore 5, 2) := by decide +kernel
theorem dX10_pullsAhead_29 : decode cX10_pullsAhead 29 = .ok (.iload_n 3, 1) := by decide +kernel
theorem dX10_pullsAhead_30 : decode cX10_pullsAhead 30 = .ok (.bipush 10, 2) := by decide +kernel
theorem dX10_pullsAhead_32 : decode cX10_pullsAhead 32 = .ok (.idiv, 1) := by decide +kernel
theorem dX10_pullsAhead_33 : decode cX10_pullsAhead 33 = .ok (.iload 5, 2) := by decide +kernel
theorem dX10_pullsAhead_35 : decode cX10_pullsAhead 35 = .ok (.iadd, 1) := by decide +kernel
theorem dX10_pullsAhead_36 : decode cX10_pullsAhead 36 = .ok (.bipush 10, 2) := by decide +kernel
theorem dX10_pullsAhead_38 : decode cX10_pullsAhead 38 = .ok (.imul, 1) := by decide +kernel
theorem dX10_pullsAhead_39 : decode cX10_pullsAhead 39 = .ok (.iload_n 3, 1) := by decide +kernel
theorem dX10_pullsAhead_40 : decode cX10_pullsAhead 40 = .ok (.isub, 1) := by decide +kernel
theorem dX10_pullsAhead_41 : decode cX10_pullsAhead 41 = .ok (.iconst 1, 1) := by decide +kernel
theorem dX10_pullsAhead_42 : decode cX10_pullsAhead 42 = .ok (.isub, 1) := by decide +kernel
theorem dX10_pullsAhead_43 : decode cX10_pullsAhead 43 = .ok (.ireturn, 1) := by decide +kernel
theorem dX10_lowestTerms_0 : decode cX10_lowestTerms 0 = .ok (.lload_n 0, 1) := by decide +kernel
theorem dX10_lowestTerms_1 : decode cX10_lowestTerms 1 = .ok (.lstore 5, 2) := by decide +kernel
theorem dX10_lowestTerms_3 : decode cX10_lowestTerms 3 = .ok (.lload_n 2, 1) := by decide +kernel
theorem dX10_lowestTerms_4 : decode cX10_lowestTerms 4 = .ok (.lstore 7, 2) := by decide +kernel
theorem dX10_lowestTerms_6 : decode cX10_lowestTerms 6 = .ok (.iconst 0, 1) := by decide +kernel
theorem dX10_lowestTerms_7 : decode cX10_lowestTerms 7 = .ok (.istore 9, 2) := by decide +kernel
theorem dX10_lowestTerms_9 : decode cX10_lowestTerms 9 = .ok (.iload 9, 2) := by decide +kernel
theorem dX10_lowestTerms_11 : decode cX10_lowestTerms 11 = .ok (.bipush 100, 2) := by decide +kernel
theorem dX10_lowestTerms_13 : decode cX10_lowestTerms 13 = .ok (.if_icmp .ge 31, 3) := by decide +kernel
theorem dX10_lowestTerms_16 : decode cX10_lowestTerms 16 = .ok (.lload 7, 2) := by decide +kernel
theorem dX10_lowestTerms_18 : decode cX10_lowestTerms 18 = .ok (.lconst 0, 1) := by decide +kernel
theorem dX10_lowestTerms_19 : decode cX10_lowestTerms 19 = .ok (.lcmp, 1) := by decide +kernel
theorem dX10_lowestTerms_20 : decode cX10_lowestTerms 20 = .ok (.ifCond .eq 24, 3) := by decide +kernel
theorem dX10_lowestTerms_23 : decode cX10_lowestTerms 23 = .ok (.lload 5, 2) := by decide +kernel
theorem dX10_lowestTerms_25 : decode cX10_lowestTerms 25 = .ok (.lload 7, 2) := by decide +kernel
theorem dX10_lowestTerms_27 : decode cX10_lowestTerms 27 = .ok (.lrem, 1) := by decide +kernel
theorem dX10_lowestTerms_28 : decode cX10_lowestTerms 28 = .ok (.lstore 10, 2) := by decide +kernel
theorem dX10_lowestTerms_30 : decode cX10_lowestTerms 30 = .ok (.lload 7, 2) := by decide +kernel
theorem dX10_lowestTerms_32 : decode cX10_lowestTerms 32 = .ok (.lstore 5, 2) := by decide +kernel
theorem dX10_lowestTerms_34 : decode cX10_lowestTerms 34 = .ok (.lload 10, 2) := by decide +kernel
theorem dX10_lowestTerms_36 : decode cX10_lowestTerms 36 = .ok (.lstore 7, 2) := by decide +kernel
theorem dX10_lowestTerms_38 : decode cX10_lowestTerms 38 = .ok (.iinc 9 1, 3) := by decide +kernel
theorem dX10_lowestTerms_41 : decode cX10_lowestTerms 41 = .ok (.goto (-32), 3) := by decide +kernel
theorem dX10_lowestTerms_44 : decode cX10_lowestTerms 44 = .ok (.lconst 1, 1) := by decide +kernel
theorem dX10_lowestTerms_45 : decode cX10_lowestTerms 45 = .ok (.lload 5, 2) := by decide +kernel
theorem dX10_lowestTerms_47 : decode cX10_lowestTerms 47 = .ok (.invokestatic 263, 3) := by decide +kernel
theorem dX10_lowestTerms_50 : decode cX10_lowestTerms 50 = .ok (.lstore 9, 2) := by decide +kernel
theorem dX10_lowestTerms_52 : decode cX10_lowestTerms 52 = .ok (.iload 4, 2) := by decide +kernel
theorem dX10_lowestTerms_54 : decode cX10_lowestTerms 54 = .ok (.ifCond .ne 7, 3) := by decide +kernel
theorem dX10_lowestTerms_57 : decode cX10_lowestTerms 57 = .ok (.lload_n 0, 1) := by decide +kernel
theorem dX10_lowestTerms_58 : decode cX10_lowestTerms 58 = .ok (.goto 4, 3) := by decide +kernel
theorem dX10_lowestTerms_61 : decode cX10_lowestTerms 61 = .ok (.lload_n 2, 1) := by decide +kernel
theorem dX10_lowestTerms_62 : decode cX10_lowestTerms 62 = .ok (.lload 9, 2) := by decide +kernel
theorem dX10_lowestTerms_64 : decode cX10_lowestTerms 64 = .ok (.ldiv, 1) := by decide +kernel
theorem dX10_lowestTerms_65 : decode cX10_lowestTerms 65 = .ok (.lreturn, 1) := by decide +kernel
theorem dX11_init_0 : decode cX11_init 0 = .ok (.aload_n 0, 1) := by decide +kernel
theorem dX11_init_1 : decode cX11_init 1 = .ok (.invokespecial 1, 3) := by decide +kernel
theorem dX11_init_4 : decode cX11_init 4 = .ok (.aload_n 0, 1) := by decide +kernel
theorem dX11_init_5 : decode cX11_init 5 = .ok (.iconst 5, 1) := by decide +kernel
theorem dX11_init_6 : decode cX11_init 6 = .ok (.newarray .int, 2) := by decide +kernel
theorem dX11_init_8 : decode cX11_init 8 = .ok (.putfield 7, 3) := by decide +kernel
theorem dX11_init_11 : decode cX11_init 11 = .ok (.aload_n 0, 1) := by decide +kernel
theorem dX11_init_12 : decode cX11_init 12 = .ok (.iconst 5, 1) := by decide +kernel
theorem dX11_init_13 : decode cX11_init 13 = .ok (.newarray .int, 2) := by decide +kernel
theorem dX11_init_15 : decode cX11_init 15 = .ok (.putfield 13, 3) := by decide +kernel
theorem dX11_init_18 : decode cX11_init 18 = .ok (.aload_n 0, 1) := by decide +kernel
theorem dX11_init_19 : decode cX11_init 19 = .ok (.iconst 5, 1) := by decide +kernel
theorem dX11_init_20 : decode cX11_init 20 = .ok (.newarray .int, 2) := by decide +kernel
theorem dX11_init_22 : decode cX11_init 22 = .ok (.putfield 16, 3) := by decide +kernel
theorem dX11_init_25 : decode cX11_init 25 = .ok (.aload_n 0, 1) := by decide +kernel
theorem dX11_init_26 : decode cX11_init 26 = .ok (.iconst 5, 1) := by decide +kernel
theorem dX11_init_27 : decode cX11_init 27 = .ok (.newarray .int, 2) := by decide +kernel
theorem dX11_init_29 : decode cX11_init 29 = .ok (.putfield 19, 3) := by decide +kernel
theorem dX11_init_32 : decode cX11_init 32 = .ok (.aload_n 0, 1) := by decide +kernel
theorem dX11_init_33 : decode cX11_init 33 = .ok (.iconst 5, 1) := by decide +kernel
theorem dX11_init_34 : decode cX11_init 34 = .ok (.newarray .int, 2) := by decide +kernel
theorem dX11_init_36 : decode cX11_init 36 = .ok (.putfield 22, 3) := by decide +kernel
theorem dX11_init_39 : decode cX11_init 39 = .ok (.aload_n 0, 1) := by decide +kernel
theorem dX11_init_40 : decode cX11_init 40 = .ok (.bipush 40, 2) := by decide +kernel
theorem dX11_init_42 : decode cX11_init 42 = .ok (.newarray .int, 2) := by decide +kernel
theorem dX11_init_44 : decode cX11_init 44 = .ok (.putfield 25, 3) := by decide +kernel
theorem dX11_init_47 : decode cX11_init 47 = .ok (.aload_n 0, 1) := by decide +kernel
theorem dX11_init_48 : decode cX11_init 48 = .ok (.bipush 8, 2) := by decide +kernel
theorem dX11_init_50 : decode cX11_init 50 = .ok (.newarray .int, 2) := by decide +kernel
theorem dX11_init_52 : decode cX11_init 52 = .ok (.putfield 28, 3) := by decide +kernel
theorem dX11_init_55 : decode cX11_init 55 = .ok (.aload_n 0, 1) := by decide +kernel
theorem dX11_init_56 : decode cX11_init 56 = .ok (.bipush 8, 2) := by decide +kernel
theorem dX11_init_58 : decode cX11_init 58 = .ok (.newarray .int, 2) := by decide +kernel
theorem dX11_init_60 : decode cX11_init 60 = .ok (.putfield 31, 3) := by decide +kernel
theorem dX11_init_63 : decode cX11_init 63 = .ok (.aload_n 0, 1) := by decide +kernel
theorem dX11_init_64 : decode cX11_init 64 = .ok (.bipush 8, 2) := by decide +kernel
theorem dX11_init_66 : decode cX11_init 66 = .ok (.newarray .int, 2) := by decide +kernel
theorem dX11_init_68 : decode cX11_init 68 = .ok (.putfield 34, 3) := by decide +kernel
theorem dX11_init_71 : decode cX11_init 71 = .ok (.aload_n 0, 1) := by decide +kernel
theorem dX11_init_72 : decode cX11_init 72 = .ok (.bipush 6, 2) := by decide +kernel
theorem dX11_init_74 : decode cX11_init 74 = .ok (.newarray .int, 2) := by decide +kernel
theorem dX11_init_76 : decode cX11_init 76 = .ok (.putfield 37, 3) := by decide +kernel
theorem dX11_init_79 : decode cX11_init 79 = .ok (.aload_n 0, 1) := by decide +kernel
theorem dX11_init_80 : decode cX11_init 80 = .ok (.bipush 8, 2) := by decide +kernel
theorem dX11_init_82 : decode cX11_init 82 = .ok (.newarray .int, 2) := by decide +kernel
theorem dX11_init_84 : decode cX11_init 84 = .ok (.putfield 40, 3) := by decide +kernel
theorem dX11_init_87 : decode cX11_init 87 = .ok (.aload_n 0, 1) := by decide +kernel
theorem dX11_init_88 : decode cX11_init 88 = .ok (.bipush 8, 2) := by decide +kernel
theorem dX11_init_90 : decode cX11_init 90 = .ok (.newarray .int, 2) := by decide +kernel
theorem dX11_init_92 : decode cX11_init 92 = .ok (.putfield 43, 3) := by decide +kernel
theorem dX11_init_95 : decode cX11_init 95 = .ok (.aload_n 0, 1) := by decide +kernel
theorem dX11_init_96 : decode cX11_init 96 = .ok (.bipush 8, 2) := by decide +kernel
theorem dX11_init_98 : decode cX11_init 98 = .ok (.newarray .int, 2) := by decide +kernel
theorem dX11_init_100 : decode cX11_init 100 = .ok (.putfield 46, 3) := by decide +kernel
theorem dX11_init_103 : decode cX11_init 103 = .ok (.aload_n 0, 1) := by decide +kernel
theorem dX11_init_104 : decode cX11_init 104 = .ok (.bipush 60, 2) := by decide +kernel
theorem dX11_init_106 : decode cX11_init 106 = .ok (.newarray .int, 2) := by decide +kernel
theorem dX11_init_108 : decode cX11_init 108 = .ok (.putfield 49, 3) := by decide +kernel
theorem dX11_init_111 : decode cX11_init 111 = .ok (.aload_n 0, 1) := by decide +kernel
theorem dX11_init_112 : decode cX11_init 112 = .ok (.bipush 60, 2) := by decide +kernel
theorem dX11_init_114 : decode cX11_init 114 = .ok (.newarray .int, 2) := by decide +kernel
theorem dX11_init_116 : decode cX11_init 116 = .ok (.putfield 52, 3) := by decide +kernel
theorem dX11_init_119 : decode cX11_init 119 = .ok (.aload_n 0, 1) := by decide +kernel
theorem dX11_init_120 : decode cX11_init 120 = .ok (.bipush 60, 2) := by decide +kernel
theorem dX11_init_122 : decode cX11_init 122 = .ok (.newarray .int, 2) := by decide +kernel
theorem dX11_init_124 : decode cX11_init 124 = .ok (.putfield 55, 3) := by decide +kernel
theorem dX11_init_127 : decode cX11_init 127 = .ok (.aload_n 0, 1) := by decide +kernel
theorem dX11_init_128 : decode cX11_init 128 = .ok (.bipush 60, 2) := by decide +kernel
theorem dX11_init_130 : decode cX11_init 130 = .ok (.newarray .int, 2) := by decide +kernel
theorem dX11_init_132 : decode cX11_init 132 = .ok (.putfield 58, 3) := by decide +kernel
theorem dX11_init_135 : decode cX11_init 135 = .ok (.aload_n 0, 1) := by decide +kernel
theorem dX11_init_136 : decode cX11_init 136 = .ok (.iconst 5, 1) := by decide +kernel
theorem dX11_init_137 : decode cX11_init 137 = .ok (.newarray .int, 2) := by decide +kernel
theorem dX11_init_139 : decode cX11_init 139 = .ok (.putfield 61, 3) := by decide +kernel
theorem dX11_init_142 : decode cX11_init 142 = .ok (.aload_n 0, 1) := by decide +kernel
theorem dX11_init_143 : decode cX11_init 143 = .ok (.bipush 66, 2) := by decide +kernel
theorem dX11_init_145 : decode cX11_init 145 = .ok (.newarray .int, 2) := by decide +kernel
theorem dX11_init_147 : decode cX11_init 147 = .ok (.putfield 64, 3) := by decide +kernel
theorem dX11_init_150 : decode cX11_init 150 = .ok (.aload_n 0, 1) := by decide +kernel
theorem dX11_init_151 : decode cX11_init 151 = .ok (.bipush 66, 2) := by decide +kernel
theorem dX11_init_153 : decode cX11_init 153 = .ok (.newarray .int, 2) := by decide +kernel
theorem dX11_init_155 : decode cX11_init 155 = .ok (.putfield 67, 3) := by decide +kernel
theorem dX11_init_158 : decode cX11_init 158 = .ok (.aload_n 0, 1) := by decide +kernel
theorem dX11_init_159 : decode cX11_init 159 = .ok (.sipush 288, 3) := by decide +kernel
theorem dX11_init_162 : decode cX11_init 162 = .ok (.newarray .int, 2) := by decide +kernel
theorem dX11_init_164 : decode cX11_init 164 = .ok (.putfield 70, 3) := by decide +kernel
theorem dX11_init_167 : decode cX11_init 167 = .ok (.aload_n 0, 1) := by decide +kernel
theorem dX11_init_168 : decode cX11_init 168 = .ok (.bipush 40, 2) := by decide +kernel
theorem dX11_init_170 : decode cX11_init 170 = .ok (.newarray .boolean, 2) := by decide +kernel
theorem dX11_init_172 : decode cX11_init 172 = .ok (.putfield 73, 3) := by decide +kernel
theorem dX11_init_175 : decode cX11_init 175 = .ok (.aload_n 0, 1) := by decide +kernel
theorem dX11_init_176 : decode cX11_init 176 = .ok (.bipush 64, 2) := by decide +kernel
theorem dX11_init_178 : decode cX11_init 178 = .ok (.newarray .int, 2) := by decide +kernel
theorem dX11_init_180 : decode cX11_init 180 = .ok (.putfield 77, 3) := by decide +kernel
theorem dX11_init_183 : decode cX11_init 183 = .ok (.aload_n 0, 1) := by decide +kernel
theorem dX11_init_184 : decode cX11_init 184 = .ok (.sipush 280, 3) := by decide +kernel
theorem dX11_init_187 : decode cX11_init 187 = .ok (.newarray .int, 2) := by decide +kernel
theorem dX11_init_189 : decode cX11_init 189 = .ok (.putfield 80, 3) := by decide +kernel
theorem dX11_init_192 : decode cX11_init 192 = .ok (.aload_n 0, 1) := by decide +kernel
theorem dX11_init_193 : decode cX11_init 193 = .ok (.iconst 2, 1) := by decide +kernel
theorem dX11_init_194 : decode cX11_init 194 = .ok (.newarray .boolean, 2) := by decide +kernel
theorem dX11_init_196 : decode cX11_init 196 = .ok (.putfield 83, 3) := by decide +kernel
theorem dX11_init_199 : decode cX11_init 199 = .ok (.aload_n 0, 1) := by decide +kernel
theorem dX11_init_200 : decode cX11_init 200 = .ok (.bipush 20, 2) := by decide +kernel
theorem dX11_init_202 : decode cX11_init 202 = .ok (.putfield 86, 3) := by decide +kernel
theorem dX11_init_205 : decode cX11_init 205 = .ok (.aload_n 0, 1) := by decide +kernel
theorem dX11_init_206 : decode cX11_init 206 = .ok (.sipush 3000, 3) := by decide +kernel
theorem dX11_init_209 : decode cX11_init 209 = .ok (.putfield 90, 3) := by decide +kernel
theorem dX11_init_212 : decode cX11_init 212 = .ok (.iconst 0, 1) := by decide +kernel
theorem dX11_init_213 : decode cX11_init 213 = .ok (.istore_n 1, 1) := by decide +kernel
theorem dX11_init_214 : decode cX11_init 214 = .ok (.iload_n 1, 1) := by decide +kernel
theorem dX11_init_215 : decode cX11_init 215 = .ok (.bipush 8, 2) := by decide +kernel
theorem dX11_init_217 : decode cX11_init 217 = .ok (.if_icmp .ge 32, 3) := by decide +kernel
theorem dX11_init_220 : decode cX11_init 220 = .ok (.aload_n 0, 1) := by decide +kernel
theorem dX11_init_221 : decode cX11_init 221 = .ok (.getfield 28, 3) := by decide +kernel
theorem dX11_init_224 : decode cX11_init 224 = .ok (.iload_n 1, 1) := by decide +kernel
theorem dX11_init_225 : decode cX11_init 225 = .ok (.bipush 30, 2) := by decide +kernel
theorem dX11_init_227 : decode cX11_init 227 = .ok (.iastore, 1) := by decide +kernel
theorem dX11_init_228 : decode cX11_init 228 = .ok (.aload_n 0, 1) := by decide +kernel
theorem dX11_init_229 : decode cX11_init 229 = .ok (.getfield 31, 3) := by decide +kernel
theorem dX11_init_232 : decode cX11_init 232 = .ok (.iload_n 1, 1) := by decide +kernel
theorem dX11_init_233 : decode cX11_init 233 = .ok (.iconst 5, 1) := by decide +kernel
theorem dX11_init_234 : decode cX11_init 234 = .ok (.iastore, 1) := by decide +kernel
theorem dX11_init_235 : decode cX11_init 235 = .ok (.aload_n 0, 1) := by decide +kernel
theorem dX11_init_236 : decode cX11_init 236 = .ok (.getfield 34, 3) := by decide +kernel
theorem dX11_init_239 : decode cX11_init 239 = .ok (.iload_n 1, 1) := by decide +kernel
theorem dX11_init_240 : decode cX11_init 240 = .ok (.bipush 10, 2) := by decide +kernel
theorem dX11_init_242 : decode cX11_init 242 = .ok (.iastore, 1) := by decide +kernel
theorem dX11_init_243 : decode cX11_init 243 = .ok (.iinc 1 1, 3) := by decide +kernel
theorem dX11_init_246 : decode cX11_init 246 = .ok (.goto (-32), 3) := by decide +kernel
theorem dX11_init_249 : decode cX11_init 249 = .ok (.return_, 1) := by decide +kernel
theorem dX11_in_0 : decode cX11_in 0 = .ok (.lload_n 0, 1) := by decide +kernel
theorem dX11_in_1 : decode cX11_in 1 = .ok (.lload_n 2, 1) := by decide +kernel
theorem dX11_in_2 : decode cX11_in 2 = .ok (.lcmp, 1) := by decide +kernel
theorem dX11_in_3 : decode cX11_in 3 = .ok (.ifCond .lt 14, 3) := by decide +kernel
theorem dX11_in_6 : decode cX11_in 6 = .ok (.lload_n 0, 1) := by decide +kernel
theorem dX11_in_7 : decode cX11_in 7 = .ok (.lload 4, 2) := by decide +kernel
theorem dX11_in_9 : decode cX11_in 9 = .ok (.lcmp, 1) := by decide +kernel
theorem dX11_in_10 : decode cX11_in 10 = .ok (.ifCond .gt 7, 3) := by decide +kernel
theorem dX11_in_13 : decode cX11_in 13 = .ok (.iconst 1, 1) := by decide +kernel
theorem dX11_in_14 : decode cX11_in 14 = .ok (.goto 4, 3) := by decide +kernel
theorem dX11_in_17 : decode cX11_in 17 = .ok (.iconst 0, 1) := by decide +kernel
theorem dX11_in_18 : decode cX11_in 18 = .ok (.ireturn, 1) := by decide +kernel
theorem dX11_ones_0 : decode cX11_ones 0 = .ok (.iconst 0, 1) := by decide +kernel
theorem dX11_ones_1 : decode cX11_ones 1 = .ok (.istore_n 1, 1) := by decide +kernel
theorem dX11_ones_2 : decode cX11_ones 2 = .ok (.iload_n 0, 1) := by decide +kernel
theorem dX11_ones_3 : decode cX11_ones 3 = .ok (.istore_n 2, 1) := by decide +kernel
theorem dX11_ones_4 : decode cX11_ones 4 = .ok (.iload_n 2, 1) := by decide +kernel
theorem dX11_ones_5 : decode cX11_ones 5 = .ok (.ifCond .eq 15, 3) := by decide +kernel
theorem dX11_ones_8 : decode cX11_ones 8 = .ok (.iinc 1 1, 3) := by decide +kernel
theorem dX11_ones_11 : decode cX11_ones 11 = .ok (.iload_n 2, 1) := by decide +kernel
theorem dX11_ones_12 : decode cX11_ones 12 = .ok (.iload_n 2, 1) := by decide +kernel
theorem dX11_ones_13 : decode cX11_ones 13 = .ok (.iconst 1, 1) := by decide +kernel
theorem dX11_ones_14 : decode cX11_ones 14 = .ok (.isub, 1) := by decide +kernel
theorem dX11_ones_15 : decode cX11_ones 15 = .ok (.iand, 1) := by decide +kernel
theorem dX11_ones_16 : decode cX11_ones 16 = .ok (.istore_n 2, 1) := by decide +kernel
theorem dX11_ones_17 : decode cX11_ones 17 = .ok (.goto (-13), 3) := by decide +kernel
theorem dX11_ones_20 : decode cX11_ones 20 = .ok (.iload_n 1, 1) := by decide +kernel
theorem dX11_ones_21 : decode cX11_ones 21 = .ok (.ireturn, 1) := by decide +kernel
theorem dX11_size_0 : decode cX11_size 0 = .ok (.iload_n 0, 1) := by decide +kernel
theorem dX11_size_1 : decode cX11_size 1 = .ok (.ifCond .ge 8, 3) := by decide +kernel
theorem dX11_size_4 : decode cX11_size 4 = .ok (.iload_n 0, 1) := by decide +kernel
theorem dX11_size_5 : decode cX11_size 5 = .ok (.ineg, 1) := by decide +kernel
theorem dX11_size_6 : decode cX11_size 6 = .ok (.goto 4, 3) := by decide +kernel
theorem dX11_size_9 : decode cX11_size 9 = .ok (.iload_n 0, 1) := by decide +kernel
theorem dX11_size_10 : decode cX11_size 10 = .ok (.ireturn, 1) := by decide +kernel
theorem dX11_notBelow0_0 : decode cX11_notBelow0 0 = .ok (.iload_n 0, 1) := by decide +kernel
theorem dX11_notBelow0_1 : decode cX11_notBelow0 1 = .ok (.ifCond .ge 7, 3) := by decide +kernel
theorem dX11_notBelow0_4 : decode cX11_notBelow0 4 = .ok (.iconst 0, 1) := by decide +kernel
theorem dX11_notBelow0_5 : decode cX11_notBelow0 5 = .ok (.goto 4, 3) := by decide +kernel
theorem dX11_notBelow0_8 : decode cX11_notBelow0 8 = .ok (.iload_n 0, 1) := by decide +kernel
theorem dX11_notBelow0_9 : decode cX11_notBelow0 9 = .ok (.ireturn, 1) := by decide +kernel
theorem dX11_isStone_0 : decode cX11_isStone 0 = .ok (.iload_n 1, 1) := by decide +kernel
theorem dX11_isStone_1 : decode cX11_isStone 1 = .ok (.i2l, 1) := by decide +kernel
theorem dX11_isStone_2 : decode cX11_isStone 2 = .ok (.lconst 0, 1) := by decide +kernel
theorem dX11_isStone_3 : decode cX11_isStone 3 = .ok (.ldc2_w 93, 3) := by decide +kernel
theorem dX11_isStone_6 : decode cX11_isStone 6 = .ok (.invokestatic 95, 3) := by decide +kernel
theorem dX11_isStone_9 : decode cX11_isStone 9 = .ok (.ifCond .eq 19, 3) := by decide +kernel
theorem dX11_isStone_12 : decode cX11_isStone 12 = .ok (.aload_n 0, 1) := by decide +kernel
theorem dX11_isStone_13 : decode cX11_isStone 13 = .ok (.getfield 99, 3) := by decide +kernel
theorem dX11_isStone_16 : decode cX11_isStone 16 = .ok (.iload_n 1, 1) := by decide +kernel
theorem dX11_isStone_17 : decode cX11_isStone 17 = .ok (.ishr, 1) := by decide +kernel
theorem dX11_isStone_18 : decode cX11_isStone 18 = .ok (.iconst 1, 1) := by decide +kernel
theorem dX11_isStone_19 : decode cX11_isStone 19 = .ok (.iand, 1) := by decide +kernel
theorem dX11_isStone_20 : decode cX11_isStone 20 = .ok (.iconst 1, 1) := by decide +kernel
theorem dX11_isStone_21 : decode cX11_isStone 21 = .ok (.if_icmp .ne 7, 3) := by decide +kernel
theorem dX11_isStone_24 : decode cX11_isStone 24 = .ok (.iconst 1, 1) := by decide +kernel
theorem dX11_isStone_25 : decode cX11_isStone 25 = .ok (.goto 4, 3) := by decide +kernel
theorem dX11_isStone_28 : decode cX11_isStone 28 = .ok (.iconst 0, 1) := by decide +kernel
theorem dX11_isStone_29 : decode cX11_isStone 29 = .ok (.ireturn, 1) := by decide +kernel
theorem dX11_isPicture_0 : decode cX11_isPicture 0 = .ok (.iload_n 0, 1) := by decide +kernel
theorem dX11_isPicture_1 : decode cX11_isPicture 1 = .ok (.i2l, 1) := by decide +kernel
theorem dX11_isPicture_2 : decode cX11_isPicture 2 = .ok (.lconst 0, 1) := by decide +kernel
theorem dX11_isPicture_3 : decode cX11_isPicture 3 = .ok (.ldc2_w 102, 3) := by decide +kernel
theorem dX11_isPicture_6 : decode cX11_isPicture 6 = .ok (.invokestatic 95, 3) := by decide +kernel
theorem dX11_isPicture_9 : decode cX11_isPicture 9 = .ok (.ireturn, 1) := by decide +kernel
theorem dX11_at_0 : decode cX11_at 0 = .ok (.bipush 8, 2) := by decide +kernel
theorem dX11_at_2 : decode cX11_at 2 = .ok (.iload_n 0, 1) := by decide +kernel
theorem dX11_at_3 : decode cX11_at 3 = .ok (.imul, 1) := by decide +kernel
theorem dX11_at_4 : decode cX11_at 4 = .ok (.iload_n 1, 1) := by decide +kernel
theorem dX11_at_5 : decode cX11_at 5 = .ok (.iadd, 1) := by decide +kernel
theorem dX11_at_6 : decode cX11_at 6 = .ok (.ireturn, 1) := by decide +kernel
theorem dX11_stone_0 : decode cX11_stone 0 = .ok (.iload_n 1, 1) := by decide +kernel
theorem dX11_stone_1 : decode cX11_stone 1 = .ok (.i2l, 1) := by decide +kernel
theorem dX11_stone_2 : decode cX11_stone 2 = .ok (.lconst 0, 1) := by decide +kernel
theorem dX11_stone_3 : decode cX11_stone 3 = .ok (.ldc2_w 93, 3) := by decide +kernel
theorem dX11_stone_6 : decode cX11_stone 6 = .ok (.invokestatic 95, 3) := by decide +kernel
theorem dX11_stone_9 : decode cX11_stone 9 = .ok (.ifCond .ne 5, 3) := by decide +kernel
theorem dX11_stone_12 : decode cX11_stone 12 = .ok (.iconst (-1), 1) := by decide +kernel
theorem dX11_stone_13 : decode cX11_stone 13 = .ok (.ireturn, 1) := by decide +kernel
theorem dX11_stone_14 : decode cX11_stone 14 = .ok (.iload_n 2, 1) := by decide +kernel
theorem dX11_stone_15 : decode cX11_stone 15 = .ok (.i2l, 1) := by decide +kernel
theorem dX11_stone_16 : decode cX11_stone 16 = .ok (.lconst 0, 1) := by decide +kernel
theorem dX11_stone_17 : decode cX11_stone 17 = .ok (.ldc2_w 104, 3) := by decide +kernel
theorem dX11_stone_20 : decode cX11_stone 20 = .ok (.invokestatic 95, 3) := by decide +kernel
theorem dX11_stone_23 : decode cX11_stone 23 = .ok (.ifCond .eq 28, 3) := by decide +kernel
theorem dX11_stone_26 : decode cX11_stone 26 = .ok (.iload_n 3, 1) := by decide +kernel
theorem dX11_stone_27 : decode cX11_stone 27 = .ok (.i2l, 1) := by decide +kernel
theorem dX11_stone_28 : decode cX11_stone 28 = .ok (.lconst 0, 1) := by decide +kernel
theorem dX11_stone_29 : decode cX11_stone 29 = .ok (.ldc2_w 106, 3) := by decide +kernel
theorem dX11_stone_32 : decode cX11_stone 32 = .ok (.invokestatic 95, 3) := by decide +kernel
theorem dX11_stone_35 : decode cX11_stone 35 = .ok (.ifCond .eq 16, 3) := by decide +kernel
theorem dX11_stone_38 : decode cX11_stone 38 = .ok (.iload 4, 2) := by decide +kernel
theorem dX11_stone_40 : decode cX11_stone 40 = .ok (.i2l, 1) := by decide +kernel
theorem dX11_stone_41 : decode cX11_stone 41 = .ok (.lconst 0, 1) := by decide +kernel
theorem dX11_stone_42 : decode cX11_stone 42 = .ok (.ldc2_w 108, 3) := by decide +kernel
theorem dX11_stone_45 : decode cX11_stone 45 = .ok (.invokestatic 95, 3) := by decide +kernel
theorem dX11_stone_48 : decode cX11_stone 48 = .ok (.ifCond .ne 6, 3) := by decide +kernel
theorem dX11_stone_51 : decode cX11_stone 51 = .ok (.bipush (-2), 2) := by decide +kernel
theorem dX11_stone_53 : decode cX11_stone 53 = .ok (.ireturn, 1) := by decide +kernel
theorem dX11_stone_54 : decode cX11_stone 54 = .ok (.aload_n 0, 1) := by decide +kernel
theorem dX11_stone_55 : decode cX11_stone 55 = .ok (.getfield 7, 3) := by decide +kernel
theorem dX11_stone_58 : decode cX11_stone 58 = .ok (.iload_n 1, 1) := by decide +kernel
theorem dX11_stone_59 : decode cX11_stone 59 = .ok (.iload_n 2, 1) := by decide +kernel
theorem dX11_stone_60 : decode cX11_stone 60 = .ok (.iastore, 1) := by decide +kernel
theorem dX11_stone_61 : decode cX11_stone 61 = .ok (.aload_n 0, 1) := by decide +kernel
theorem dX11_stone_62 : decode cX11_stone 62 = .ok (.getfield 13, 3) := by decide +kernel
theorem dX11_stone_65 : decode cX11_stone 65 = .ok (.iload_n 1, 1) := by decide +kernel
theorem dX11_stone_66 : decode cX11_stone 66 = .ok (.iload_n 3, 1) := by decide +kernel
theorem dX11_stone_67 : decode cX11_stone 67 = .ok (.iastore, 1) := by decide +kernel
theorem dX11_stone_68 : decode cX11_stone 68 = .ok (.aload_n 0, 1) := by decide +kernel
theorem dX11_stone_69 : decode cX11_stone 69 = .ok (.getfield 16, 3) := by decide +kernel
theorem dX11_stone_72 : decode cX11_stone 72 = .ok (.iload_n 1, 1) := by decide +kernel
theorem dX11_stone_73 : decode cX11_stone 73 = .ok (.iload 4, 2) := by decide +kernel
theorem dX11_stone_75 : decode cX11_stone 75 = .ok (.iastore, 1) := by decide +kernel
theorem dX11_stone_76 : decode cX11_stone 76 = .ok (.aload_n 0, 1) := by decide +kernel
theorem dX11_stone_77 : decode cX11_stone 77 = .ok (.getfield 19, 3) := by decide +kernel
theorem dX11_stone_80 : decode cX11_stone 80 = .ok (.iload_n 1, 1) := by decide +kernel
theorem dX11_stone_81 : decode cX11_stone 81 = .ok (.bipush (-6), 2) := by decide +kernel
theorem dX11_stone_83 : decode cX11_stone 83 = .ok (.iastore, 1) := by decide +kernel
theorem dX11_stone_84 : decode cX11_stone 84 = .ok (.aload_n 0, 1) := by decide +kernel
theorem dX11_stone_85 : decode cX11_stone 85 = .ok (.getfield 22, 3) := by decide +kernel
theorem dX11_stone_88 : decode cX11_stone 88 = .ok (.iload_n 1, 1) := by decide +kernel
theorem dX11_stone_89 : decode cX11_stone 89 = .ok (.iconst 0, 1) := by decide +kernel
theorem dX11_stone_90 : decode cX11_stone 90 = .ok (.iastore, 1) := by decide +kernel
theorem dX11_stone_91 : decode cX11_stone 91 = .ok (.iconst 0, 1) := by decide +kernel
theorem dX11_stone_92 : decode cX11_stone 92 = .ok (.istore 5, 2) := by decide +kernel
theorem dX11_stone_94 : decode cX11_stone 94 = .ok (.iload 5, 2) := by decide +kernel
theorem dX11_stone_96 : decode cX11_stone 96 = .ok (.bipush 8, 2) := by decide +kernel
theorem dX11_stone_98 : decode cX11_stone 98 = .ok (.if_icmp .ge 21, 3) := by decide +kernel
theorem dX11_stone_101 : decode cX11_stone 101 = .ok (.aload_n 0, 1) := by decide +kernel
theorem dX11_stone_102 : decode cX11_stone 102 = .ok (.getfield 25, 3) := by decide +kernel
theorem dX11_stone_105 : decode cX11_stone 105 = .ok (.iload_n 1, 1) := by decide +kernel
theorem dX11_stone_106 : decode cX11_stone 106 = .ok (.iload 5, 2) := by decide +kernel
theorem dX11_stone_108 : decode cX11_stone 108 = .ok (.invokestatic 110, 3) := by decide +kernel
theorem dX11_stone_111 : decode cX11_stone 111 = .ok (.iconst 0, 1) := by decide +kernel
theorem dX11_stone_112 : decode cX11_stone 112 = .ok (.iastore, 1) := by decide +kernel
theorem dX11_stone_113 : decode cX11_stone 113 = .ok (.iinc 5 1, 3) := by decide +kernel
theorem dX11_stone_116 : decode cX11_stone 116 = .ok (.goto (-22), 3) := by decide +kernel
theorem dX11_stone_119 : decode cX11_stone 119 = .ok (.aload_n 0, 1) := by decide +kernel
theorem dX11_stone_120 : decode cX11_stone 120 = .ok (.dup, 1) := by decide +kernel
theorem dX11_stone_121 : decode cX11_stone 121 = .ok (.getfield 99, 3) := by decide +kernel
theorem dX11_stone_124 : decode cX11_stone 124 = .ok (.iconst 1, 1) := by decide +kernel
theorem dX11_stone_125 : decode cX11_stone 125 = .ok (.iload_n 1, 1) := by decide +kernel
theorem dX11_stone_126 : decode cX11_stone 126 = .ok (.ishl, 1) := by decide +kernel
theorem dX11_stone_127 : decode cX11_stone 127 = .ok (.ior, 1) := by decide +kernel
theorem dX11_stone_128 : decode cX11_stone 128 = .ok (.putfield 99, 3) := by decide +kernel
theorem dX11_stone_131 : decode cX11_stone 131 = .ok (.aload_n 0, 1) := by decide +kernel
theorem dX11_stone_132 : decode cX11_stone 132 = .ok (.getfield 99, 3) := by decide +kernel
theorem dX11_stone_135 : decode cX11_stone 135 = .ok (.invokestatic 114, 3) := by decide +kernel
theorem dX11_stone_138 : decode cX11_stone 138 = .ok (.ireturn, 1) := by decide +kernel
theorem dX11_smash_0 : decode cX11_smash 0 = .ok (.aload_n 0, 1) := by decide +kernel
theorem dX11_smash_1 : decode cX11_smash 1 = .ok (.iload_n 1, 1) := by decide +kernel
theorem dX11_smash_2 : decode cX11_smash 2 = .ok (.invokevirtual 118, 3) := by decide +kernel
theorem dX11_smash_5 : decode cX11_smash 5 = .ok (.ifCond .ne 5, 3) := by decide +kernel
theorem dX11_smash_8 : decode cX11_smash 8 = .ok (.iconst (-1), 1) := by decide +kernel
theorem dX11_smash_9 : decode cX11_smash 9 = .ok (.ireturn, 1) := by decide +kernel
theorem dX11_smash_10 : decode cX11_smash 10 = .ok (.aload_n 0, 1) := by decide +kernel
theorem dX11_smash_11 : decode cX11_smash 11 = .ok (.dup, 1) := by decide +kernel
theorem dX11_smash_12 : decode cX11_smash 12 = .ok (.getfield 99, 3) := by decide +kernel
theorem dX11_smash_15 : decode cX11_smash 15 = .ok (.iconst 1, 1) := by decide +kernel
theorem dX11_smash_16 : decode cX11_smash 16 = .ok (.iload_n 1, 1) := by decide +kernel
theorem dX11_smash_17 : decode cX11_smash 17 = .ok (.ishl, 1) := by decide +kernel
theorem dX11_smash_18 : decode cX11_smash 18 = .ok (.iconst (-1), 1) := by decide +kernel
theorem dX11_smash_19 : decode cX11_smash 19 = .ok (.ixor, 1) := by decide +kernel
theorem dX11_smash_20 : decode cX11_smash 20 = .ok (.iand, 1) := by decide +kernel
theorem dX11_smash_21 : decode cX11_smash 21 = .ok (.putfield 99, 3) := by decide +kernel
theorem dX11_smash_24 : decode cX11_smash 24 = .ok (.aload_n 0, 1) := by decide +kernel
theorem dX11_smash_25 : decode cX11_smash 25 = .ok (.getfield 99, 3) := by decide +kernel
theorem dX11_smash_28 : decode cX11_smash 28 = .ok (.invokestatic 114, 3) := by decide +kernel
theorem dX11_smash_31 : decode cX11_smash 31 = .ok (.ireturn, 1) := by decide +kernel
theorem dX11_picture_0 : decode cX11_picture 0 = .ok (.iload_n 1, 1) := by decide +kernel
theorem dX11_picture_1 : decode cX11_picture 1 = .ok (.invokestatic 122, 3) := by decide +kernel
theorem dX11_picture_4 : decode cX11_picture 4 = .ok (.ifCond .ne 5, 3) := by decide +kernel
theorem dX11_picture_7 : decode cX11_picture 7 = .ok (.iconst (-1), 1) := by decide +kernel
theorem dX11_picture_8 : decode cX11_picture 8 = .ok (.ireturn, 1) := by decide +kernel
theorem dX11_picture_9 : decode cX11_picture 9 = .ok (.iload_n 2, 1) := by decide +kernel
theorem dX11_picture_10 : decode cX11_picture 10 = .ok (.i2l, 1) := by decide +kernel
theorem dX11_picture_11 : decode cX11_picture 11 = .ok (.lconst 1, 1) := by decide +kernel
theorem dX11_picture_12 : decode cX11_picture 12 = .ok (.ldc2_w 125, 3) := by decide +kernel
theorem dX11_picture_15 : decode cX11_picture 15 = .ok (.invokestatic 95, 3) := by decide +kernel
theorem dX11_picture_18 : decode cX11_picture 18 = .ok (.ifCond .eq 28, 3) := by decide +kernel
theorem dX11_picture_21 : decode cX11_picture 21 = .ok (.iload_n 3, 1) := by decide +kernel
theorem dX11_picture_22 : decode cX11_picture 22 = .ok (.i2l, 1) := by decide +kernel
theorem dX11_picture_23 : decode cX11_picture 23 = .ok (.lconst 1, 1) := by decide +kernel
theorem dX11_picture_24 : decode cX11_picture 24 = .ok (.ldc2_w 127, 3) := by decide +kernel
theorem dX11_picture_27 : decode cX11_picture 27 = .ok (.invokestatic 95, 3) := by decide +kernel
theorem dX11_picture_30 : decode cX11_picture 30 = .ok (.ifCond .eq 16, 3) := by decide +kernel
theorem dX11_picture_33 : decode cX11_picture 33 = .ok (.iload 4, 2) := by decide +kernel
theorem dX11_picture_35 : decode cX11_picture 35 = .ok (.i2l, 1) := by decide +kernel
theorem dX11_picture_36 : decode cX11_picture 36 = .ok (.lconst 0, 1) := by decide +kernel
theorem dX11_picture_37 : decode cX11_picture 37 = .ok (.ldc2_w 129, 3) := by decide +kernel
theorem dX11_picture_40 : decode cX11_picture 40 = .ok (.invokestatic 95, 3) := by decide +kernel
theorem dX11_picture_43 : decode cX11_picture 43 = .ok (.ifCond .ne 6, 3) := by decide +kernel
theorem dX11_picture_46 : decode cX11_picture 46 = .ok (.bipush (-2), 2) := by decide +kernel
theorem dX11_picture_48 : decode cX11_picture 48 = .ok (.ireturn, 1) := by decide +kernel
theorem dX11_picture_49 : decode cX11_picture 49 = .ok (.aload_n 0, 1) := by decide +kernel
theorem dX11_picture_50 : decode cX11_picture 50 = .ok (.getfield 28, 3) := by decide +kernel
theorem dX11_picture_53 : decode cX11_picture 53 = .ok (.iload_n 1, 1) := by decide +kernel
theorem dX11_picture_54 : decode cX11_picture 54 = .ok (.iaload, 1) := by decide +kernel
theorem dX11_picture_55 : decode cX11_picture 55 = .ok (.istore 5, 2) := by decide +kernel
theorem dX11_picture_57 : decode cX11_picture 57 = .ok (.aload_n 0, 1) := by decide +kernel
theorem dX11_picture_58 : decode cX11_picture 58 = .ok (.getfield 28, 3) := by decide +kernel
theorem dX11_picture_61 : decode cX11_picture 61 = .ok (.iload_n 1, 1) := by decide +kernel
theorem dX11_picture_62 : decode cX11_picture 62 = .ok (.iload_n 2, 1) := by decide +kernel
theorem dX11_picture_63 : decode cX11_picture 63 = .ok (.iastore, 1) := by decide +kernel
theorem dX11_picture_64 : decode cX11_picture 64 = .ok (.aload_n 0, 1) := by decide +kernel
theorem dX11_picture_65 : decode cX11_picture 65 = .ok (.getfield 31, 3) := by decide +kernel
theorem dX11_picture_68 : decode cX11_picture 68 = .ok (.iload_n 1, 1) := by decide +kernel
theorem dX11_picture_69 : decode cX11_picture 69 = .ok (.iload_n 3, 1) := by decide +kernel
theorem dX11_picture_70 : decode cX11_picture 70 = .ok (.iastore, 1) := by decide +kernel
theorem dX11_picture_71 : decode cX11_picture 71 = .ok (.aload_n 0, 1) := by decide +kernel
theorem dX11_picture_72 : decode cX11_picture 72 = .ok (.getfield 34, 3) := by decide +kernel
theorem dX11_picture_75 : decode cX11_picture 75 = .ok (.iload_n 1, 1) := by decide +kernel
theorem dX11_picture_76 : decode cX11_picture 76 = .ok (.iload 4, 2) := by decide +kernel
theorem dX11_picture_78 : decode cX11_picture 78 = .ok (.iastore, 1) := by decide +kernel
theorem dX11_picture_79 : decode cX11_picture 79 = .ok (.iload 5, 2) := by decide +kernel
theorem dX11_picture_81 : decode cX11_picture 81 = .ok (.ireturn, 1) := by decide +kernel
theorem dX11_set_0 : decode cX11_set 0 = .ok (.iload_n 1, 1) := by decide +kernel
theorem dX11_set_1 : decode cX11_set 1 = .ok (.i2l, 1) := by decide +kernel
theorem dX11_set_2 : decode cX11_set 2 = .ok (.lconst 0, 1) := by decide +kernel
theorem dX11_set_3 : decode cX11_set 3 = .ok (.lconst 1, 1) := by decide +kernel
theorem dX11_set_4 : decode cX11_set 4 = .ok (.invokestatic 95, 3) := by decide +kernel
theorem dX11_set_7 : decode cX11_set 7 = .ok (.ifCond .eq 25, 3) := by decide +kernel
theorem dX11_set_10 : decode cX11_set 10 = .ok (.iload_n 2, 1) := by decide +kernel
theorem dX11_set_11 : decode cX11_set 11 = .ok (.i2l, 1) := by decide +kernel
theorem dX11_set_12 : decode cX11_set 12 = .ok (.lconst 0, 1) := by decide +kernel
theorem dX11_set_13 : decode cX11_set 13 = .ok (.iload_n 1, 1) := by decide +kernel
theorem dX11_set_14 : decode cX11_set 14 = .ok (.ifCond .ne 9, 3) := by decide +kernel
theorem dX11_set_17 : decode cX11_set 17 = .ok (.ldc2_w 106, 3) := by decide +kernel
theorem dX11_set_20 : decode cX11_set 20 = .ok (.goto 6, 3) := by decide +kernel
theorem dX11_set_23 : decode cX11_set 23 = .ok (.ldc2_w 104, 3) := by decide +kernel
theorem dX11_set_26 : decode cX11_set 26 = .ok (.invokestatic 95, 3) := by decide +kernel
theorem dX11_set_29 : decode cX11_set 29 = .ok (.ifCond .ne 6, 3) := by decide +kernel
theorem dX11_set_32 : decode cX11_set 32 = .ok (.bipush (-2), 2) := by decide +kernel
theorem dX11_set_34 : decode cX11_set 34 = .ok (.ireturn, 1) := by decide +kernel
theorem dX11_set_35 : decode cX11_set 35 = .ok (.iload_n 1, 1) := by decide +kernel
theorem dX11_set_36 : decode cX11_set 36 = .ok (.ifCond .ne 10, 3) := by decide +kernel
theorem dX11_set_39 : decode cX11_set 39 = .ok (.aload_n 0, 1) := by decide +kernel
theorem dX11_set_40 : decode cX11_set 40 = .ok (.getfield 86, 3) := by decide +kernel
theorem dX11_set_43 : decode cX11_set 43 = .ok (.goto 7, 3) := by decide +kernel
theorem dX11_set_46 : decode cX11_set 46 = .ok (.aload_n 0, 1) := by decide +kernel
theorem dX11_set_47 : decode cX11_set 47 = .ok (.getfield 90, 3) := by decide +kernel
theorem dX11_set_50 : decode cX11_set 50 = .ok (.istore_n 3, 1) := by decide +kernel
theorem dX11_set_51 : decode cX11_set 51 = .ok (.aload_n 0, 1) := by decide +kernel
theorem dX11_set_52 : decode cX11_set 52 = .ok (.iload_n 1, 1) := by decide +kernel
theorem dX11_set_53 : decode cX11_set 53 = .ok (.ifCond .ne 7, 3) := by decide +kernel
theorem dX11_set_56 : decode cX11_set 56 = .ok (.iload_n 2, 1) := by decide +kernel
theorem dX11_set_57 : decode cX11_set 57 = .ok (.goto 7, 3) := by decide +kernel
theorem dX11_set_60 : decode cX11_set 60 = .ok (.aload_n 0, 1) := by decide +kernel
theorem dX11_set_61 : decode cX11_set 61 = .ok (.getfield 86, 3) := by decide +kernel
theorem dX11_set_64 : decode cX11_set 64 = .ok (.putfield 86, 3) := by decide +kernel
theorem dX11_set_67 : decode cX11_set 67 = .ok (.aload_n 0, 1) := by decide +kernel
theorem dX11_set_68 : decode cX11_set 68 = .ok (.iload_n 1, 1) := by decide +kernel
theorem dX11_set_69 : decode cX11_set 69 = .ok (.iconst 1, 1) := by decide +kernel
theorem dX11_set_70 : decode cX11_set 70 = .ok (.if_icmp .ne 7, 3) := by decide +kernel
theorem dX11_set_73 : decode cX11_set 73 = .ok (.iload_n 2, 1) := by decide +kernel
theorem dX11_set_74 : decode cX11_set 74 = .ok (.goto 7, 3) := by decide +kernel
theorem dX11_set_77 : decode cX11_set 77 = .ok (.aload_n 0, 1) := by decide +kernel
theorem dX11_set_78 : decode cX11_set 78 = .ok (.getfield 90, 3) := by decide +kernel
theorem dX11_set_81 : decode cX11_set 81 = .ok (.putfield 90, 3) := by decide +kernel
theorem dX11_set_84 : decode cX11_set 84 = .ok (.iload_n 3, 1) := by decide +kernel
theorem dX11_set_85 : decode cX11_set 85 = .ok (.ireturn, 1) := by decide +kernel
theorem dX11_hairs_0 : decode cX11_hairs 0 = .ok (.iload_n 1, 1) := by decide +kernel
theorem dX11_hairs_1 : decode cX11_hairs 1 = .ok (.i2l, 1) := by decide +kernel
theorem dX11_hairs_2 : decode cX11_hairs 2 = .ok (.lconst 0, 1) := by decide +kernel
theorem dX11_hairs_3 : decode cX11_hairs 3 = .ok (.ldc2_w 131, 3) := by decide +kernel
theorem dX11_hairs_6 : decode cX11_hairs 6 = .ok (.invokestatic 95, 3) := by decide +kernel
theorem dX11_hairs_9 : decode cX11_hairs 9 = .ok (.ifCond .eq 17, 3) := by decide +kernel
theorem dX11_hairs_12 : decode cX11_hairs 12 = .ok (.iload_n 2, 1) := by decide +kernel
theorem dX11_hairs_13 : decode cX11_hairs 13 = .ok (.i2l, 1) := by decide +kernel
theorem dX11_hairs_14 : decode cX11_hairs 14 = .ok (.ldc2_w 133, 3) := by decide +kernel
theorem dX11_hairs_17 : decode cX11_hairs 17 = .ok (.ldc2_w 127, 3) := by decide +kernel
theorem dX11_hairs_20 : decode cX11_hairs 20 = .ok (.invokestatic 95, 3) := by decide +kernel
theorem dX11_hairs_23 : decode cX11_hairs 23 = .ok (.ifCond .ne 6, 3) := by decide +kernel
theorem dX11_hairs_26 : decode cX11_hairs 26 = .ok (.bipush (-2), 2) := by decide +kernel
theorem dX11_hairs_28 : decode cX11_hairs 28 = .ok (.ireturn, 1) := by decide +kernel
theorem dX11_hairs_29 : decode cX11_hairs 29 = .ok (.aload_n 0, 1) := by decide +kernel
theorem dX11_hairs_30 : decode cX11_hairs 30 = .ok (.getfield 37, 3) := by decide +kernel
theorem dX11_hairs_33 : decode cX11_hairs 33 = .ok (.iload_n 1, 1) := by decide +kernel
theorem dX11_hairs_34 : decode cX11_hairs 34 = .ok (.iaload, 1) := by decide +kernel
theorem dX11_hairs_35 : decode cX11_hairs 35 = .ok (.istore_n 3, 1) := by decide +kernel
theorem dX11_hairs_36 : decode cX11_hairs 36 = .ok (.aload_n 0, 1) := by decide +kernel
theorem dX11_hairs_37 : decode cX11_hairs 37 = .ok (.getfield 37, 3) := by decide +kernel
theorem dX11_hairs_40 : decode cX11_hairs 40 = .ok (.iload_n 1, 1) := by decide +kernel
theorem dX11_hairs_41 : decode cX11_hairs 41 = .ok (.iload_n 2, 1) := by decide +kernel
theorem dX11_hairs_42 : decode cX11_hairs 42 = .ok (.iastore, 1) := by decide +kernel
theorem dX11_hairs_43 : decode cX11_hairs 43 = .ok (.iload_n 3, 1) := by decide +kernel
theorem dX11_hairs_44 : decode cX11_hairs 44 = .ok (.bipush 9, 2) := by decide +kernel
theorem dX11_hairs_46 : decode cX11_hairs 46 = .ok (.iadd, 1) := by decide +kernel
theorem dX11_hairs_47 : decode cX11_hairs 47 = .ok (.ireturn, 1) := by decide +kernel
theorem dX11_say_0 : decode cX11_say 0 = .ok (.iload_n 1, 1) := by decide +kernel
theorem dX11_say_1 : decode cX11_say 1 = .ok (.i2l, 1) := by decide +kernel
theorem dX11_say_2 : decode cX11_say 2 = .ok (.ldc2_w 135, 3) := by decide +kernel
theorem dX11_say_5 : decode cX11_say 5 = .ok (.ldc2_w 137, 3) := by decide +kernel
theorem dX11_say_8 : decode cX11_say 8 = .ok (.invokestatic 95, 3) := by decide +kernel
theorem dX11_say_11 : decode cX11_say 11 = .ok (.ifCond .ne 6, 3) := by decide +kernel
theorem dX11_say_14 : decode cX11_say 14 = .ok (.bipush (-2), 2) := by decide +kernel
theorem dX11_say_16 : decode cX11_say 16 = .ok (.ireturn, 1) := by decide +kernel
theorem dX11_say_17 : decode cX11_say 17 = .ok (.aload_n 0, 1) := by decide +kernel
theorem dX11_say_18 : decode cX11_say 18 = .ok (.getfield 139, 3) := by decide +kernel
theorem dX11_say_21 : decode cX11_say 21 = .ok (.bipush 60, 2) := by decide +kernel
theorem dX11_say_23 : decode cX11_say 23 = .ok (.if_icmp .ne 6, 3) := by decide +kernel
theorem dX11_say_26 : decode cX11_say 26 = .ok (.bipush (-4), 2) := by decide +kernel
theorem dX11_say_28 : decode cX11_say 28 = .ok (.ireturn, 1) := by decide +kernel
theorem dX11_say_29 : decode cX11_say 29 = .ok (.aload_n 0, 1) := by decide +kernel
theorem dX11_say_30 : decode cX11_say 30 = .ok (.getfield 49, 3) := by decide +kernel
theorem dX11_say_33 : decode cX11_say 33 = .ok (.aload_n 0, 1) := by decide +kernel
theorem dX11_say_34 : decode cX11_say 34 = .ok (.getfield 139, 3) := by decide +kernel
theorem dX11_say_37 : decode cX11_say 37 = .ok (.iload_n 1, 1) := by decide +kernel
theorem dX11_say_38 : decode cX11_say 38 = .ok (.iastore, 1) := by decide +kernel
theorem dX11_say_39 : decode cX11_say 39 = .ok (.aload_n 0, 1) := by decide +kernel
theorem dX11_say_40 : decode cX11_say 40 = .ok (.dup, 1) := by decide +kernel
theorem dX11_say_41 : decode cX11_say 41 = .ok (.getfield 139, 3) := by decide +kernel
theorem dX11_say_44 : decode cX11_say 44 = .ok (.iconst 1, 1) := by decide +kernel
theorem dX11_say_45 : decode cX11_say 45 = .ok (.iadd, 1) := by decide +kernel
theorem dX11_say_46 : decode cX11_say 46 = .ok (.putfield 139, 3) := by decide +kernel
theorem dX11_say_49 : decode cX11_say 49 = .ok (.aload_n 0, 1) := by decide +kernel
theorem dX11_say_50 : decode cX11_say 50 = .ok (.getfield 139, 3) := by decide +kernel
theorem dX11_say_53 : decode cX11_say 53 = .ok (.ireturn, 1) := by decide +kernel
theorem dX11_wipe_0 : decode cX11_wipe 0 = .ok (.aload_n 0, 1) := by decide +kernel
theorem dX11_wipe_1 : decode cX11_wipe 1 = .ok (.getfield 139, 3) := by decide +kernel
theorem dX11_wipe_4 : decode cX11_wipe 4 = .ok (.istore_n 1, 1) := by decide +kernel
theorem dX11_wipe_5 : decode cX11_wipe 5 = .ok (.aload_n 0, 1) := by decide +kernel
theorem dX11_wipe_6 : decode cX11_wipe 6 = .ok (.iconst 0, 1) := by decide +kernel
theorem dX11_wipe_7 : decode cX11_wipe 7 = .ok (.putfield 139, 3) := by decide +kernel
theorem dX11_wipe_10 : decode cX11_wipe 10 = .ok (.iload_n 1, 1) := by decide +kernel
theorem dX11_wipe_11 : decode cX11_wipe 11 = .ok (.ireturn, 1) := by decide +kernel
theorem dX11_stoneOf_0 : decode cX11_stoneOf 0 = .ok (.iload_n 0, 1) := by decide +kernel
theorem dX11_stoneOf_1 : decode cX11_stoneOf 1 = .ok (.i2l, 1) := by decide +kernel
theorem dX11_stoneOf_2 : decode cX11_stoneOf 2 = .ok (.ldc2_w 142, 3) := by decide +kernel
theorem dX11_stoneOf_5 : decode cX11_stoneOf 5 = .ok (.ldc2_w 144, 3) := by decide +kernel
theorem dX11_stoneOf_8 : decode cX11_stoneOf 8 = .ok (.invokestatic 95, 3) := by decide +kernel
theorem dX11_stoneOf_11 : decode cX11_stoneOf 11 = .ok (.ifCond .eq 10, 3) := by decide +kernel
theorem dX11_stoneOf_14 : decode cX11_stoneOf 14 = .ok (.iload_n 0, 1) := by decide +kernel
theorem dX11_stoneOf_15 : decode cX11_stoneOf 15 = .ok (.bipush 97, 2) := by decide +kernel
theorem dX11_stoneOf_17 : decode cX11_stoneOf 17 = .ok (.isub, 1) := by decide +kernel
theorem dX11_stoneOf_18 : decode cX11_stoneOf 18 = .ok (.goto 5, 3) := by decide +kernel
theorem dX11_stoneOf_21 : decode cX11_stoneOf 21 = .ok (.bipush (-6), 2) := by decide +kernel
theorem dX11_stoneOf_23 : decode cX11_stoneOf 23 = .ok (.ireturn, 1) := by decide +kernel
theorem dX11_close_0 : decode cX11_close 0 = .ok (.aload_n 0, 1) := by decide +kernel
theorem dX11_close_1 : decode cX11_close 1 = .ok (.getfield 52, 3) := by decide +kernel
theorem dX11_close_4 : decode cX11_close 4 = .ok (.aload_n 0, 1) := by decide +kernel
theorem dX11_close_5 : decode cX11_close 5 = .ok (.getfield 146, 3) := by decide +kernel
theorem dX11_close_8 : decode cX11_close 8 = .ok (.iload_n 1, 1) := by decide +kernel
theorem dX11_close_9 : decode cX11_close 9 = .ok (.iastore, 1) := by decide +kernel
theorem dX11_close_10 : decode cX11_close 10 = .ok (.aload_n 0, 1) := by decide +kernel
theorem dX11_close_11 : decode cX11_close 11 = .ok (.getfield 58, 3) := by decide +kernel
theorem dX11_close_14 : decode cX11_close 14 = .ok (.aload_n 0, 1) := by decide +kernel
theorem dX11_close_15 : decode cX11_close 15 = .ok (.getfield 146, 3) := by decide +kernel
theorem dX11_close_18 : decode cX11_close 18 = .ok (.iload_n 2, 1) := by decide +kernel
theorem dX11_close_19 : decode cX11_close 19 = .ok (.iastore, 1) := by decide +kernel
theorem dX11_close_20 : decode cX11_close 20 = .ok (.aload_n 0, 1) := by decide +kernel
theorem dX11_close_21 : decode cX11_close 21 = .ok (.dup, 1) := by decide +kernel
theorem dX11_close_22 : decode cX11_close 22 = .ok (.getfield 146, 3) := by decide +kernel
theorem dX11_close_25 : decode cX11_close 25 = .ok (.iconst 1, 1) := by decide +kernel
theorem dX11_close_26 : decode cX11_close 26 = .ok (.iadd, 1) := by decide +kernel
theorem dX11_close_27 : decode cX11_close 27 = .ok (.putfield 146, 3) := by decide +kernel
theorem dX11_close_30 : decode cX11_close 30 = .ok (.iconst 0, 1) := by decide +kernel
theorem dX11_close_31 : decode cX11_close 31 = .ok (.ireturn, 1) := by decide +kernel
theorem dX11_readOn_0 : decode cX11_readOn 0 = .ok (.iload_n 2, 1) := by decide +kernel
theorem dX11_readOn_1 : decode cX11_readOn 1 = .ok (.i2l, 1) := by decide +kernel
theorem dX11_readOn_2 : decode cX11_readOn 2 = .ok (.ldc2_w 149, 3) := by decide +kernel
theorem dX11_readOn_5 : decode cX11_readOn 5 = .ok (.ldc2_w 151, 3) := by decide +kernel
theorem dX11_readOn_8 : decode cX11_readOn 8 = .ok (.invokestatic 95, 3) := by decide +kernel
theorem dX11_readOn_11 : decode cX11_readOn 11 = .ok (.istore_n 3, 1) := by decide +kernel
theorem dX11_readOn_12 : decode cX11_readOn 12 = .ok (.iload_n 1, 1) := by decide +kernel
theorem dX11_readOn_13 : decode cX11_readOn 13 = .ok (.ifCond .ne 30, 3) := by decide +kernel
theorem dX11_readOn_16 : decode cX11_readOn 16 = .ok (.aload_n 0, 1) := by decide +kernel
theorem dX11_readOn_17 : decode cX11_readOn 17 = .ok (.getfield 55, 3) := by decide +kernel
theorem dX11_readOn_20 : decode cX11_readOn 20 = .ok (.aload_n 0, 1) := by decide +kernel
theorem dX11_readOn_21 : decode cX11_readOn 21 = .ok (.getfield 146, 3) := by decide +kernel
theorem dX11_readOn_24 : decode cX11_readOn 24 = .ok (.iload_n 2, 1) := by decide +kernel
theorem dX11_readOn_25 : decode cX11_readOn 25 = .ok (.invokestatic 153, 3) := by decide +kernel
theorem dX11_readOn_28 : decode cX11_readOn 28 = .ok (.iastore, 1) := by decide +kernel
theorem dX11_readOn_29 : decode cX11_readOn 29 = .ok (.iload_n 2, 1) := by decide +kernel
theorem dX11_readOn_30 : decode cX11_readOn 30 = .ok (.invokestatic 153, 3) := by decide +kernel
theorem dX11_readOn_33 : decode cX11_readOn 33 = .ok (.ifCond .ge 8, 3) := by decide +kernel
theorem dX11_readOn_36 : decode cX11_readOn 36 = .ok (.bipush (-6), 2) := by decide +kernel
theorem dX11_readOn_38 : decode cX11_readOn 38 = .ok (.goto 4, 3) := by decide +kernel
theorem dX11_readOn_41 : decode cX11_readOn 41 = .ok (.iconst 1, 1) := by decide +kernel
theorem dX11_readOn_42 : decode cX11_readOn 42 = .ok (.ireturn, 1) := by decide +kernel
theorem dX11_readOn_43 : decode cX11_readOn 43 = .ok (.iload_n 1, 1) := by decide +kernel
theorem dX11_readOn_44 : decode cX11_readOn 44 = .ok (.iconst 2, 1) := by decide +kernel
theorem dX11_readOn_45 : decode cX11_readOn 45 = .ok (.if_icmp .ne 30, 3) := by decide +kernel
theorem dX11_readOn_48 : decode cX11_readOn 48 = .ok (.iload_n 3, 1) := by decide +kernel
theorem dX11_readOn_49 : decode cX11_readOn 49 = .ok (.ifCond .eq 23, 3) := by decide +kernel
theorem dX11_readOn_52 : decode cX11_readOn 52 = .ok (.aload_n 0, 1) := by decide +kernel
theorem dX11_readOn_53 : decode cX11_readOn 53 = .ok (.aload_n 0, 1) := by decide +kernel
theorem dX11_readOn_54 : decode cX11_readOn 54 = .ok (.getfield 52, 3) := by decide +kernel
theorem dX11_readOn_57 : decode cX11_readOn 57 = .ok (.aload_n 0, 1) := by decide +kernel
theorem dX11_readOn_58 : decode cX11_readOn 58 = .ok (.getfield 146, 3) := by decide +kernel
theorem dX11_readOn_61 : decode cX11_readOn 61 = .ok (.iaload, 1) := by decide +kernel
theorem dX11_readOn_62 : decode cX11_readOn 62 = .ok (.iload_n 2, 1) := by decide +kernel
theorem dX11_readOn_63 : decode cX11_readOn 63 = .ok (.bipush 48, 2) := by decide +kernel
theorem dX11_readOn_65 : decode cX11_readOn 65 = .ok (.isub, 1) := by decide +kernel
theorem dX11_readOn_66 : decode cX11_readOn 66 = .ok (.invokevirtual 156, 3) := by decide +kernel
theorem dX11_readOn_69 : decode cX11_readOn 69 = .ok (.goto 5, 3) := by decide +kernel
theorem dX11_readOn_72 : decode cX11_readOn 72 = .ok (.bipush (-6), 2) := by decide +kernel
theorem dX11_readOn_74 : decode cX11_readOn 74 = .ok (.ireturn, 1) := by decide +kernel
theorem dX11_readOn_75 : decode cX11_readOn 75 = .ok (.iload_n 1, 1) := by decide +kernel
theorem dX11_readOn_76 : decode cX11_readOn 76 = .ok (.iconst 3, 1) := by decide +kernel
theorem dX11_readOn_77 : decode cX11_readOn 77 = .ok (.if_icmp .ne 25, 3) := by decide +kernel
theorem dX11_readOn_80 : decode cX11_readOn 80 = .ok (.iload_n 2, 1) := by decide +kernel
theorem dX11_readOn_81 : decode cX11_readOn 81 = .ok (.invokestatic 153, 3) := by decide +kernel
theorem dX11_readOn_84 : decode cX11_readOn 84 = .ok (.ifCond .ge 8, 3) := by decide +kernel
theorem dX11_readOn_87 : decode cX11_readOn 87 = .ok (.bipush (-6), 2) := by decide +kernel
theorem dX11_readOn_89 : decode cX11_readOn 89 = .ok (.goto 12, 3) := by decide +kernel
theorem dX11_readOn_92 : decode cX11_readOn 92 = .ok (.aload_n 0, 1) := by decide +kernel
theorem dX11_readOn_93 : decode cX11_readOn 93 = .ok (.iconst 5, 1) := by decide +kernel
theorem dX11_readOn_94 : decode cX11_readOn 94 = .ok (.iload_n 2, 1) := by decide +kernel
theorem dX11_readOn_95 : decode cX11_readOn 95 = .ok (.bipush 97, 2) := by decide +kernel
theorem dX11_readOn_97 : decode cX11_readOn 97 = .ok (.isub, 1) := by decide +kernel
theorem dX11_readOn_98 : decode cX11_readOn 98 = .ok (.invokevirtual 156, 3) := by decide +kernel
theorem dX11_readOn_101 : decode cX11_readOn 101 = .ok (.ireturn, 1) := by decide +kernel
theorem dX11_readOn_102 : decode cX11_readOn 102 = .ok (.iload_n 3, 1) := by decide +kernel
theorem dX11_readOn_103 : decode cX11_readOn 103 = .ok (.ifCond .eq 13, 3) := by decide +kernel
theorem dX11_readOn_106 : decode cX11_readOn 106 = .ok (.aload_n 0, 1) := by decide +kernel
theorem dX11_readOn_107 : decode cX11_readOn 107 = .ok (.iconst 4, 1) := by decide +kernel
theorem dX11_readOn_108 : decode cX11_readOn 108 = .ok (.iload_n 2, 1) := by decide +kernel
theorem dX11_readOn_109 : decode cX11_readOn 109 = .ok (.bipush 48, 2) := by decide +kernel
theorem dX11_readOn_111 : decode cX11_readOn 111 = .ok (.isub, 1) := by decide +kernel
theorem dX11_readOn_112 : decode cX11_readOn 112 = .ok (.invokevirtual 156, 3) := by decide +kernel
theorem dX11_readOn_115 : decode cX11_readOn 115 = .ok (.ireturn, 1) := by decide +kernel
theorem dX11_readOn_116 : decode cX11_readOn 116 = .ok (.iload_n 2, 1) := by decide +kernel
theorem dX11_readOn_117 : decode cX11_readOn 117 = .ok (.i2l, 1) := by decide +kernel
theorem dX11_readOn_118 : decode cX11_readOn 118 = .ok (.ldc2_w 159, 3) := by decide +kernel
theorem dX11_readOn_121 : decode cX11_readOn 121 = .ok (.ldc2_w 161, 3) := by decide +kernel
theorem dX11_readOn_124 : decode cX11_readOn 124 = .ok (.invokestatic 95, 3) := by decide +kernel
theorem dX11_readOn_127 : decode cX11_readOn 127 = .ok (.ifCond .eq 13, 3) := by decide +kernel
theorem dX11_readOn_130 : decode cX11_readOn 130 = .ok (.aload_n 0, 1) := by decide +kernel
theorem dX11_readOn_131 : decode cX11_readOn 131 = .ok (.iconst 0, 1) := by decide +kernel
theorem dX11_readOn_132 : decode cX11_readOn 132 = .ok (.iload_n 2, 1) := by decide +kernel
theorem dX11_readOn_133 : decode cX11_readOn 133 = .ok (.bipush 65, 2) := by decide +kernel
theorem dX11_readOn_135 : decode cX11_readOn 135 = .ok (.isub, 1) := by decide +kernel
theorem dX11_readOn_136 : decode cX11_readOn 136 = .ok (.invokevirtual 156, 3) := by decide +kernel
theorem dX11_readOn_139 : decode cX11_readOn 139 = .ok (.ireturn, 1) := by decide +kernel
theorem dX11_readOn_140 : decode cX11_readOn 140 = .ok (.aload_n 0, 1) := by decide +kernel
theorem dX11_readOn_141 : decode cX11_readOn 141 = .ok (.getfield 52, 3) := by decide +kernel
theorem dX11_readOn_144 : decode cX11_readOn 144 = .ok (.aload_n 0, 1) := by decide +kernel
theorem dX11_readOn_145 : decode cX11_readOn 145 = .ok (.getfield 146, 3) := by decide +kernel
theorem dX11_readOn_148 : decode cX11_readOn 148 = .ok (.iload_n 2, 1) := by decide +kernel
theorem dX11_readOn_149 : decode cX11_readOn 149 = .ok (.bipush 111, 2) := by decide +kernel
theorem dX11_readOn_151 : decode cX11_readOn 151 = .ok (.if_icmp .ne 7, 3) := by decide +kernel
theorem dX11_readOn_154 : decode cX11_readOn 154 = .ok (.iconst 1, 1) := by decide +kernel
theorem dX11_readOn_155 : decode cX11_readOn 155 = .ok (.goto 14, 3) := by decide +kernel
theorem dX11_readOn_158 : decode cX11_readOn 158 = .ok (.iload_n 2, 1) := by decide +kernel
theorem dX11_readOn_159 : decode cX11_readOn 159 = .ok (.bipush 120, 2) := by decide +kernel
theorem dX11_readOn_161 : decode cX11_readOn 161 = .ok (.if_icmp .ne 7, 3) := by decide +kernel
theorem dX11_readOn_164 : decode cX11_readOn 164 = .ok (.iconst 2, 1) := by decide +kernel
theorem dX11_readOn_165 : decode cX11_readOn 165 = .ok (.goto 4, 3) := by decide +kernel
theorem dX11_readOn_168 : decode cX11_readOn 168 = .ok (.iconst 3, 1) := by decide +kernel
theorem dX11_readOn_169 : decode cX11_readOn 169 = .ok (.iastore, 1) := by decide +kernel
theorem dX11_readOn_170 : decode cX11_readOn 170 = .ok (.iload_n 2, 1) := by decide +kernel
theorem dX11_readOn_171 : decode cX11_readOn 171 = .ok (.bipush 43, 2) := by decide +kernel
theorem dX11_readOn_173 : decode cX11_readOn 173 = .ok (.if_icmp .ne 7, 3) := by decide +kernel
theorem dX11_readOn_176 : decode cX11_readOn 176 = .ok (.iconst 3, 1) := by decide +kernel
theorem dX11_readOn_177 : decode cX11_readOn 177 = .ok (.goto 27, 3) := by decide +kernel
theorem dX11_readOn_180 : decode cX11_readOn 180 = .ok (.iload_n 2, 1) := by decide +kernel
theorem dX11_readOn_181 : decode cX11_readOn 181 = .ok (.bipush 111, 2) := by decide +kernel
theorem dX11_readOn_183 : decode cX11_readOn 183 = .ok (.if_icmp .eq 15, 3) := by decide +kernel
theorem dX11_readOn_186 : decode cX11_readOn 186 = .ok (.iload_n 2, 1) := by decide +kernel
theorem dX11_readOn_187 : decode cX11_readOn 187 = .ok (.bipush 120, 2) := by decide +kernel
theorem dX11_readOn_189 : decode cX11_readOn 189 = .ok (.if_icmp .eq 9, 3) := by decide +kernel
theorem dX11_readOn_192 : decode cX11_readOn 192 = .ok (.iload_n 2, 1) := by decide +kernel
theorem dX11_readOn_193 : decode cX11_readOn 193 = .ok (.bipush 119, 2) := by decide +kernel
theorem dX11_readOn_195 : decode cX11_readOn 195 = .ok (.if_icmp .ne 7, 3) := by decide +kernel
theorem dX11_readOn_198 : decode cX11_readOn 198 = .ok (.iconst 2, 1) := by decide +kernel
theorem dX11_readOn_199 : decode cX11_readOn 199 = .ok (.goto 5, 3) := by decide +kernel
theorem dX11_readOn_202 : decode cX11_readOn 202 = .ok (.bipush (-6), 2) := by decide +kernel
theorem dX11_readOn_204 : decode cX11_readOn 204 = .ok (.ireturn, 1) := by decide +kernel
theorem dX11_fault_0 : decode cX11_fault 0 = .ok (.aload_n 0, 1) := by decide +kernel
theorem dX11_fault_1 : decode cX11_fault 1 = .ok (.iconst 0, 1) := by decide +kernel
theorem dX11_fault_2 : decode cX11_fault 2 = .ok (.putfield 146, 3) := by decide +kernel
theorem dX11_fault_5 : decode cX11_fault 5 = .ok (.iconst 0, 1) := by decide +kernel
theorem dX11_fault_6 : decode cX11_fault 6 = .ok (.istore_n 1, 1) := by decide +kernel
theorem dX11_fault_7 : decode cX11_fault 7 = .ok (.iconst 0, 1) := by decide +kernel
theorem dX11_fault_8 : decode cX11_fault 8 = .ok (.istore_n 2, 1) := by decide +kernel
theorem dX11_fault_9 : decode cX11_fault 9 = .ok (.iload_n 2, 1) := by decide +kernel
theorem dX11_fault_10 : decode cX11_fault 10 = .ok (.aload_n 0, 1) := by decide +kernel
theorem dX11_fault_11 : decode cX11_fault 11 = .ok (.getfield 139, 3) := by decide +kernel
theorem dX11_fault_14 : decode cX11_fault 14 = .ok (.if_icmp .ge 27, 3) := by decide +kernel
theorem dX11_fault_17 : decode cX11_fault 17 = .ok (.aload_n 0, 1) := by decide +kernel
theorem dX11_fault_18 : decode cX11_fault 18 = .ok (.iload_n 1, 1) := by decide +kernel
theorem dX11_fault_19 : decode cX11_fault 19 = .ok (.aload_n 0, 1) := by decide +kernel
theorem dX11_fault_20 : decode cX11_fault 20 = .ok (.getfield 49, 3) := by decide +kernel
theorem dX11_fault_23 : decode cX11_fault 23 = .ok (.iload_n 2, 1) := by decide +kernel
theorem dX11_fault_24 : decode cX11_fault 24 = .ok (.iaload, 1) := by decide +kernel
theorem dX11_fault_25 : decode cX11_fault 25 = .ok (.invokevirtual 163, 3) := by decide +kernel
theorem dX11_fault_28 : decode cX11_fault 28 = .ok (.istore_n 1, 1) := by decide +kernel
theorem dX11_fault_29 : decode cX11_fault 29 = .ok (.iload_n 1, 1) := by decide +kernel
theorem dX11_fault_30 : decode cX11_fault 30 = .ok (.ifCond .ge 5, 3) := by decide +kernel
theorem dX11_fault_33 : decode cX11_fault 33 = .ok (.iload_n 2, 1) := by decide +kernel
theorem dX11_fault_34 : decode cX11_fault 34 = .ok (.ireturn, 1) := by decide +kernel
theorem dX11_fault_35 : decode cX11_fault 35 = .ok (.iinc 2 1, 3) := by decide +kernel
theorem dX11_fault_38 : decode cX11_fault 38 = .ok (.goto (-29), 3) := by decide +kernel
theorem dX11_fault_41 : decode cX11_fault 41 = .ok (.iload_n 1, 1) := by decide +kernel
theorem dX11_fault_42 : decode cX11_fault 42 = .ok (.ifCond .ne 8, 3) := by decide +kernel
theorem dX11_fault_45 : decode cX11_fault 45 = .ok (.bipush (-6), 2) := by decide +kernel
theorem dX11_fault_47 : decode cX11_fault 47 = .ok (.goto 7, 3) := by decide +kernel
theorem dX11_fault_50 : decode cX11_fault 50 = .ok (.aload_n 0, 1) := by decide +kernel
theorem dX11_fault_51 : decode cX11_fault 51 = .ok (.getfield 139, 3) := by decide +kernel
theorem dX11_fault_54 : decode cX11_fault 54 = .ok (.ireturn, 1) := by decide +kernel
theorem dX11_whyNot_0 : decode cX11_whyNot 0 = .ok (.aload_n 0, 1) := by decide +kernel
theorem dX11_whyNot_1 : decode cX11_whyNot 1 = .ok (.iload_n 2, 1) := by decide +kernel
theorem dX11_whyNot_2 : decode cX11_whyNot 2 = .ok (.invokevirtual 118, 3) := by decide +kernel
theorem dX11_whyNot_5 : decode cX11_whyNot 5 = .ok (.ifCond .eq 16, 3) := by decide +kernel
theorem dX11_whyNot_8 : decode cX11_whyNot 8 = .ok (.iload_n 1, 1) := by decide +kernel
theorem dX11_whyNot_9 : decode cX11_whyNot 9 = .ok (.iconst 5, 1) := by decide +kernel
theorem dX11_whyNot_10 : decode cX11_whyNot 10 = .ok (.if_icmp .ne 13, 3) := by decide +kernel
theorem dX11_whyNot_13 : decode cX11_whyNot 13 = .ok (.aload_n 0, 1) := by decide +kernel
theorem dX11_whyNot_14 : decode cX11_whyNot 14 = .ok (.iload_n 3, 1) := by decide +kernel
theorem dX11_whyNot_15 : decode cX11_whyNot 15 = .ok (.invokevirtual 118, 3) := by decide +kernel
theorem dX11_whyNot_18 : decode cX11_whyNot 18 = .ok (.ifCond .ne 5, 3) := by decide +kernel
theorem dX11_whyNot_21 : decode cX11_whyNot 21 = .ok (.iconst 1, 1) := by decide +kernel
theorem dX11_whyNot_22 : decode cX11_whyNot 22 = .ok (.ireturn, 1) := by decide +kernel
theorem dX11_whyNot_23 : decode cX11_whyNot 23 = .ok (.aload_n 0, 1) := by decide +kernel
theorem dX11_whyNot_24 : decode cX11_whyNot 24 = .ok (.getfield 13, 3) := by decide +kernel
theorem dX11_whyNot_27 : decode cX11_whyNot 27 = .ok (.iload_n 2, 1) := by decide +kernel
theorem dX11_whyNot_28 : decode cX11_whyNot 28 = .ok (.iaload, 1) := by decide +kernel
theorem dX11_whyNot_29 : decode cX11_whyNot 29 = .ok (.aload_n 0, 1) := by decide +kernel
theorem dX11_whyNot_30 : decode cX11_whyNot 30 = .ok (.getfield 86, 3) := by decide +kernel
theorem dX11_whyNot_33 : decode cX11_whyNot 33 = .ok (.if_icmp .le 7, 3) := by decide +kernel
theorem dX11_whyNot_36 : decode cX11_whyNot 36 = .ok (.iconst 1, 1) := by decide +kernel
theorem dX11_whyNot_37 : decode cX11_whyNot 37 = .ok (.goto 4, 3) := by decide +kernel
theorem dX11_whyNot_40 : decode cX11_whyNot 40 = .ok (.iconst 0, 1) := by decide +kernel
theorem dX11_whyNot_41 : decode cX11_whyNot 41 = .ok (.istore 4, 2) := by decide +kernel
theorem dX11_whyNot_43 : decode cX11_whyNot 43 = .ok (.iload_n 1, 1) := by decide +kernel
theorem dX11_whyNot_44 : decode cX11_whyNot 44 = .ok (.tableswitch 119 0 5 #[51, 119, 119, 117, 75, 40], 40) := by decide +kernel
theorem dX11_whyNot_84 : decode cX11_whyNot 84 = .ok (.iload_n 2, 1) := by decide +kernel
theorem dX11_whyNot_85 : decode cX11_whyNot 85 = .ok (.iload_n 3, 1) := by decide +kernel
theorem dX11_whyNot_86 : decode cX11_whyNot 86 = .ok (.if_icmp .ne 7, 3) := by decide +kernel
theorem dX11_whyNot_89 : decode cX11_whyNot 89 = .ok (.iconst 2, 1) := by decide +kernel
theorem dX11_whyNot_90 : decode cX11_whyNot 90 = .ok (.goto 4, 3) := by decide +kernel
theorem dX11_whyNot_93 : decode cX11_whyNot 93 = .ok (.iconst 0, 1) := by decide +kernel
theorem dX11_whyNot_94 : decode cX11_whyNot 94 = .ok (.ireturn, 1) := by decide +kernel
theorem dX11_whyNot_95 : decode cX11_whyNot 95 = .ok (.aload_n 0, 1) := by decide +kernel
theorem dX11_whyNot_96 : decode cX11_whyNot 96 = .ok (.getfield 19, 3) := by decide +kernel
theorem dX11_whyNot_99 : decode cX11_whyNot 99 = .ok (.iload_n 2, 1) := by decide +kernel
theorem dX11_whyNot_100 : decode cX11_whyNot 100 = .ok (.iaload, 1) := by decide +kernel
theorem dX11_whyNot_101 : decode cX11_whyNot 101 = .ok (.ifCond .lt 7, 3) := by decide +kernel
theorem dX11_whyNot_104 : decode cX11_whyNot 104 = .ok (.iconst 3, 1) := by decide +kernel
theorem dX11_whyNot_105 : decode cX11_whyNot 105 = .ok (.goto 13, 3) := by decide +kernel
theorem dX11_whyNot_108 : decode cX11_whyNot 108 = .ok (.iload 4, 2) := by decide +kernel
theorem dX11_whyNot_110 : decode cX11_whyNot 110 = .ok (.ifCond .eq 7, 3) := by decide +kernel
theorem dX11_whyNot_113 : decode cX11_whyNot 113 = .ok (.iconst 5, 1) := by decide +kernel
theorem dX11_whyNot_114 : decode cX11_whyNot 114 = .ok (.goto 4, 3) := by decide +kernel
theorem dX11_whyNot_117 : decode cX11_whyNot 117 = .ok (.iconst 0, 1) := by decide +kernel
theorem dX11_whyNot_118 : decode cX11_whyNot 118 = .ok (.ireturn, 1) := by decide +kernel
theorem dX11_whyNot_119 : decode cX11_whyNot 119 = .ok (.aload_n 0, 1) := by decide +kernel
theorem dX11_whyNot_120 : decode cX11_whyNot 120 = .ok (.getfield 19, 3) := by decide +kernel
theorem dX11_whyNot_123 : decode cX11_whyNot 123 = .ok (.iload_n 2, 1) := by decide +kernel
theorem dX11_whyNot_124 : decode cX11_whyNot 124 = .ok (.iaload, 1) := by decide +kernel
theorem dX11_whyNot_125 : decode cX11_whyNot 125 = .ok (.ifCond .ge 7, 3) := by decide +kernel
theorem dX11_whyNot_128 : decode cX11_whyNot 128 = .ok (.iconst 4, 1) := by decide +kernel
theorem dX11_whyNot_129 : decode cX11_whyNot 129 = .ok (.goto 31, 3) := by decide +kernel
theorem dX11_whyNot_132 : decode cX11_whyNot 132 = .ok (.iload 4, 2) := by decide +kernel
theorem dX11_whyNot_134 : decode cX11_whyNot 134 = .ok (.ifCond .eq 7, 3) := by decide +kernel
theorem dX11_whyNot_137 : decode cX11_whyNot 137 = .ok (.iconst 5, 1) := by decide +kernel
theorem dX11_whyNot_138 : decode cX11_whyNot 138 = .ok (.goto 22, 3) := by decide +kernel
theorem dX11_whyNot_141 : decode cX11_whyNot 141 = .ok (.aload_n 0, 1) := by decide +kernel
theorem dX11_whyNot_142 : decode cX11_whyNot 142 = .ok (.getfield 7, 3) := by decide +kernel
theorem dX11_whyNot_145 : decode cX11_whyNot 145 = .ok (.iload_n 2, 1) := by decide +kernel
theorem dX11_whyNot_146 : decode cX11_whyNot 146 = .ok (.iaload, 1) := by decide +kernel
theorem dX11_whyNot_147 : decode cX11_whyNot 147 = .ok (.aload_n 0, 1) := by decide +kernel
theorem dX11_whyNot_148 : decode cX11_whyNot 148 = .ok (.getfield 90, 3) := by decide +kernel
theorem dX11_whyNot_151 : decode cX11_whyNot 151 = .ok (.if_icmp .ge 8, 3) := by decide +kernel
theorem dX11_whyNot_154 : decode cX11_whyNot 154 = .ok (.bipush 6, 2) := by decide +kernel
theorem dX11_whyNot_156 : decode cX11_whyNot 156 = .ok (.goto 4, 3) := by decide +kernel
theorem dX11_whyNot_159 : decode cX11_whyNot 159 = .ok (.iconst 0, 1) := by decide +kernel
theorem dX11_whyNot_160 : decode cX11_whyNot 160 = .ok (.ireturn, 1) := by decide +kernel
theorem dX11_whyNot_161 : decode cX11_whyNot 161 = .ok (.iconst 0, 1) := by decide +kernel
theorem dX11_whyNot_162 : decode cX11_whyNot 162 = .ok (.ireturn, 1) := by decide +kernel
theorem dX11_whyNot_163 : decode cX11_whyNot 163 = .ok (.aload_n 0, 1) := by decide +kernel
theorem dX11_whyNot_164 : decode cX11_whyNot 164 = .ok (.getfield 7, 3) := by decide +kernel
theorem dX11_whyNot_167 : decode cX11_whyNot 167 = .ok (.iload_n 2, 1) := by decide +kernel
theorem dX11_whyNot_168 : decode cX11_whyNot 168 = .ok (.iaload, 1) := by decide +kernel
theorem dX11_whyNot_169 : decode cX11_whyNot 169 = .ok (.iconst 3, 1) := by decide +kernel
theorem dX11_whyNot_170 : decode cX11_whyNot 170 = .ok (.iload_n 3, 1) := by decide +kernel
theorem dX11_whyNot_171 : decode cX11_whyNot 171 = .ok (.imul, 1) := by decide +kernel
theorem dX11_whyNot_172 : decode cX11_whyNot 172 = .ok (.isub, 1) := by decide +kernel
theorem dX11_whyNot_173 : decode cX11_whyNot 173 = .ok (.aload_n 0, 1) := by decide +kernel
theorem dX11_whyNot_174 : decode cX11_whyNot 174 = .ok (.getfield 90, 3) := by decide +kernel
theorem dX11_whyNot_177 : decode cX11_whyNot 177 = .ok (.if_icmp .ge 8, 3) := by decide +kernel
theorem dX11_whyNot_180 : decode cX11_whyNot 180 = .ok (.bipush 6, 2) := by decide +kernel
theorem dX11_whyNot_182 : decode cX11_whyNot 182 = .ok (.goto 4, 3) := by decide +kernel
theorem dX11_whyNot_185 : decode cX11_whyNot 185 = .ok (.iconst 0, 1) := by decide +kernel
theorem dX11_whyNot_186 : decode cX11_whyNot 186 = .ok (.ireturn, 1) := by decide +kernel
theorem dX11_wearOf_0 : decode cX11_wearOf 0 = .ok (.aload_n 0, 1) := by decide +kernel
theorem dX11_wearOf_1 : decode cX11_wearOf 1 = .ok (.getfield 31, 3) := by decide +kernel
theorem dX11_wearOf_4 : decode cX11_wearOf 4 = .ok (.iload_n 1, 1) := by decide +kernel
theorem dX11_wearOf_5 : decode cX11_wearOf 5 = .ok (.iaload, 1) := by decide +kernel
theorem dX11_wearOf_6 : decode cX11_wearOf 6 = .ok (.iconst 3, 1) := by decide +kernel
theorem dX11_wearOf_7 : decode cX11_wearOf 7 = .ok (.idiv, 1) := by decide +kernel
theorem dX11_wearOf_8 : decode cX11_wearOf 8 = .ok (.iconst 1, 1) := by decide +kernel
theorem dX11_wearOf_9 : decode cX11_wearOf 9 = .ok (.iadd, 1) := by decide +kernel
theorem dX11_wearOf_10 : decode cX11_wearOf 10 = .ok (.ireturn, 1) := by decide +kernel
theorem dX11_ghostOn_0 : decode cX11_ghostOn 0 = .ok (.bipush (-6), 2) := by decide +kernel
theorem dX11_ghostOn_2 : decode cX11_ghostOn 2 = .ok (.istore_n 3, 1) := by decide +kernel
theorem dX11_ghostOn_3 : decode cX11_ghostOn 3 = .ok (.iconst 0, 1) := by decide +kernel
theorem dX11_ghostOn_4 : decode cX11_ghostOn 4 = .ok (.istore 4, 2) := by decide +kernel
theorem dX11_ghostOn_6 : decode cX11_ghostOn 6 = .ok (.iload 4, 2) := by decide +kernel
theorem dX11_ghostOn_8 : decode cX11_ghostOn 8 = .ok (.bipush 8, 2) := by decide +kernel
theorem dX11_ghostOn_10 : decode cX11_ghostOn 10 = .ok (.if_icmp .ge 76, 3) := by decide +kernel
theorem dX11_ghostOn_13 : decode cX11_ghostOn 13 = .ok (.iload 4, 2) := by decide +kernel
theorem dX11_ghostOn_15 : decode cX11_ghostOn 15 = .ok (.iload_n 2, 1) := by decide +kernel
theorem dX11_ghostOn_16 : decode cX11_ghostOn 16 = .ok (.if_icmp .eq 49, 3) := by decide +kernel
theorem dX11_ghostOn_19 : decode cX11_ghostOn 19 = .ok (.aload_n 0, 1) := by decide +kernel
theorem dX11_ghostOn_20 : decode cX11_ghostOn 20 = .ok (.getfield 25, 3) := by decide +kernel
theorem dX11_ghostOn_23 : decode cX11_ghostOn 23 = .ok (.iload_n 1, 1) := by decide +kernel
theorem dX11_ghostOn_24 : decode cX11_ghostOn 24 = .ok (.iload 4, 2) := by decide +kernel
theorem dX11_ghostOn_26 : decode cX11_ghostOn 26 = .ok (.invokestatic 110, 3) := by decide +kernel
theorem dX11_ghostOn_29 : decode cX11_ghostOn 29 = .ok (.iaload, 1) := by decide +kernel
theorem dX11_ghostOn_30 : decode cX11_ghostOn 30 = .ok (.ifCond .le 35, 3) := by decide +kernel
theorem dX11_ghostOn_33 : decode cX11_ghostOn 33 = .ok (.iload_n 3, 1) := by decide +kernel
theorem dX11_ghostOn_34 : decode cX11_ghostOn 34 = .ok (.ifCond .lt 27, 3) := by decide +kernel
theorem dX11_ghostOn_37 : decode cX11_ghostOn 37 = .ok (.aload_n 0, 1) := by decide +kernel
theorem dX11_ghostOn_38 : decode cX11_ghostOn 38 = .ok (.getfield 25, 3) := by decide +kernel
theorem dX11_ghostOn_41 : decode cX11_ghostOn 41 = .ok (.iload_n 1, 1) := by decide +kernel
theorem dX11_ghostOn_42 : decode cX11_ghostOn 42 = .ok (.iload 4, 2) := by decide +kernel
theorem dX11_ghostOn_44 : decode cX11_ghostOn 44 = .ok (.invokestatic 110, 3) := by decide +kernel
theorem dX11_ghostOn_47 : decode cX11_ghostOn 47 = .ok (.iaload, 1) := by decide +kernel
theorem dX11_ghostOn_48 : decode cX11_ghostOn 48 = .ok (.aload_n 0, 1) := by decide +kernel
theorem dX11_ghostOn_49 : decode cX11_ghostOn 49 = .ok (.getfield 25, 3) := by decide +kernel
theorem dX11_ghostOn_52 : decode cX11_ghostOn 52 = .ok (.iload_n 1, 1) := by decide +kernel
theorem dX11_ghostOn_53 : decode cX11_ghostOn 53 = .ok (.iload_n 3, 1) := by decide +kernel
theorem dX11_ghostOn_54 : decode cX11_ghostOn 54 = .ok (.invokestatic 110, 3) := by decide +kernel
theorem dX11_ghostOn_57 : decode cX11_ghostOn 57 = .ok (.iaload, 1) := by decide +kernel
theorem dX11_ghostOn_58 : decode cX11_ghostOn 58 = .ok (.if_icmp .le 7, 3) := by decide +kernel
theorem dX11_ghostOn_61 : decode cX11_ghostOn 61 = .ok (.iconst 1, 1) := by decide +kernel
theorem dX11_ghostOn_62 : decode cX11_ghostOn 62 = .ok (.goto 4, 3) := by decide +kernel
theorem dX11_ghostOn_65 : decode cX11_ghostOn 65 = .ok (.iconst 0, 1) := by decide +kernel
theorem dX11_ghostOn_66 : decode cX11_ghostOn 66 = .ok (.istore 5, 2) := by decide +kernel
theorem dX11_ghostOn_68 : decode cX11_ghostOn 68 = .ok (.iload 5, 2) := by decide +kernel
theorem dX11_ghostOn_70 : decode cX11_ghostOn 70 = .ok (.ifCond .eq 8, 3) := by decide +kernel
theorem dX11_ghostOn_73 : decode cX11_ghostOn 73 = .ok (.iload 4, 2) := by decide +kernel
theorem dX11_ghostOn_75 : decode cX11_ghostOn 75 = .ok (.goto 4, 3) := by decide +kernel
theorem dX11_ghostOn_78 : decode cX11_ghostOn 78 = .ok (.iload_n 3, 1) := by decide +kernel
theorem dX11_ghostOn_79 : decode cX11_ghostOn 79 = .ok (.istore_n 3, 1) := by decide +kernel
theorem dX11_ghostOn_80 : decode cX11_ghostOn 80 = .ok (.iinc 4 1, 3) := by decide +kernel
theorem dX11_ghostOn_83 : decode cX11_ghostOn 83 = .ok (.goto (-77), 3) := by decide +kernel
theorem dX11_ghostOn_86 : decode cX11_ghostOn 86 = .ok (.iload_n 3, 1) := by decide +kernel
theorem dX11_ghostOn_87 : decode cX11_ghostOn 87 = .ok (.ireturn, 1) := by decide +kernel
theorem dX11_ghostFat_0 : decode cX11_ghostFat 0 = .ok (.aload_n 0, 1) := by decide +kernel
theorem dX11_ghostFat_1 : decode cX11_ghostFat 1 = .ok (.iload_n 1, 1) := by decide +kernel
theorem dX11_ghostFat_2 : decode cX11_ghostFat 2 = .ok (.iload_n 2, 1) := by decide +kernel
theorem dX11_ghostFat_3 : decode cX11_ghostFat 3 = .ok (.invokevirtual 166, 3) := by decide +kernel
theorem dX11_ghostFat_6 : decode cX11_ghostFat 6 = .ok (.istore_n 3, 1) := by decide +kernel
theorem dX11_ghostFat_7 : decode cX11_ghostFat 7 = .ok (.iload_n 3, 1) := by decide +kernel
theorem dX11_ghostFat_8 : decode cX11_ghostFat 8 = .ok (.ifCond .ge 7, 3) := by decide +kernel
theorem dX11_ghostFat_11 : decode cX11_ghostFat 11 = .ok (.iconst 0, 1) := by decide +kernel
theorem dX11_ghostFat_12 : decode cX11_ghostFat 12 = .ok (.goto 13, 3) := by decide +kernel
theorem dX11_ghostFat_15 : decode cX11_ghostFat 15 = .ok (.aload_n 0, 1) := by decide +kernel
theorem dX11_ghostFat_16 : decode cX11_ghostFat 16 = .ok (.getfield 25, 3) := by decide +kernel
theorem dX11_ghostFat_19 : decode cX11_ghostFat 19 = .ok (.iload_n 1, 1) := by decide +kernel
theorem dX11_ghostFat_20 : decode cX11_ghostFat 20 = .ok (.iload_n 3, 1) := by decide +kernel
theorem dX11_ghostFat_21 : decode cX11_ghostFat 21 = .ok (.invokestatic 110, 3) := by decide +kernel
theorem dX11_ghostFat_24 : decode cX11_ghostFat 24 = .ok (.iaload, 1) := by decide +kernel
theorem dX11_ghostFat_25 : decode cX11_ghostFat 25 = .ok (.ireturn, 1) := by decide +kernel
theorem dX11_pullOnce_0 : decode cX11_pullOnce 0 = .ok (.aload_n 0, 1) := by decide +kernel
theorem dX11_pullOnce_1 : decode cX11_pullOnce 1 = .ok (.getfield 19, 3) := by decide +kernel
theorem dX11_pullOnce_4 : decode cX11_pullOnce 4 = .ok (.iload_n 1, 1) := by decide +kernel
theorem dX11_pullOnce_5 : decode cX11_pullOnce 5 = .ok (.iaload, 1) := by decide +kernel
theorem dX11_pullOnce_6 : decode cX11_pullOnce 6 = .ok (.istore_n 2, 1) := by decide +kernel
theorem dX11_pullOnce_7 : decode cX11_pullOnce 7 = .ok (.aload_n 0, 1) := by decide +kernel
theorem dX11_pullOnce_8 : decode cX11_pullOnce 8 = .ok (.getfield 16, 3) := by decide +kernel
theorem dX11_pullOnce_11 : decode cX11_pullOnce 11 = .ok (.iload_n 1, 1) := by decide +kernel
theorem dX11_pullOnce_12 : decode cX11_pullOnce 12 = .ok (.iaload, 1) := by decide +kernel
theorem dX11_pullOnce_13 : decode cX11_pullOnce 13 = .ok (.iconst 3, 1) := by decide +kernel
theorem dX11_pullOnce_14 : decode cX11_pullOnce 14 = .ok (.if_icmp .gt 7, 3) := by decide +kernel
theorem dX11_pullOnce_17 : decode cX11_pullOnce 17 = .ok (.iconst 1, 1) := by decide +kernel
theorem dX11_pullOnce_18 : decode cX11_pullOnce 18 = .ok (.goto 19, 3) := by decide +kernel
theorem dX11_pullOnce_21 : decode cX11_pullOnce 21 = .ok (.aload_n 0, 1) := by decide +kernel
theorem dX11_pullOnce_22 : decode cX11_pullOnce 22 = .ok (.getfield 16, 3) := by decide +kernel
theorem dX11_pullOnce_25 : decode cX11_pullOnce 25 = .ok (.iload_n 1, 1) := by decide +kernel
theorem dX11_pullOnce_26 : decode cX11_pullOnce 26 = .ok (.iaload, 1) := by decide +kernel
theorem dX11_pullOnce_27 : decode cX11_pullOnce 27 = .ok (.bipush 15, 2) := by decide +kernel
theorem dX11_pullOnce_29 : decode cX11_pullOnce 29 = .ok (.if_icmp .lt 7, 3) := by decide +kernel
theorem dX11_pullOnce_32 : decode cX11_pullOnce 32 = .ok (.iconst 2, 1) := by decide +kernel
theorem dX11_pullOnce_33 : decode cX11_pullOnce 33 = .ok (.goto 4, 3) := by decide +kernel
theorem dX11_pullOnce_36 : decode cX11_pullOnce 36 = .ok (.iconst 0, 1) := by decide +kernel
theorem dX11_pullOnce_37 : decode cX11_pullOnce 37 = .ok (.istore_n 3, 1) := by decide +kernel
theorem dX11_pullOnce_38 : decode cX11_pullOnce 38 = .ok (.aload_n 0, 1) := by decide +kernel
theorem dX11_pullOnce_39 : decode cX11_pullOnce 39 = .ok (.getfield 16, 3) := by decide +kernel
theorem dX11_pullOnce_42 : decode cX11_pullOnce 42 = .ok (.iload_n 1, 1) := by decide +kernel
theorem dX11_pullOnce_43 : decode cX11_pullOnce 43 = .ok (.aload_n 0, 1) := by decide +kernel
theorem dX11_pullOnce_44 : decode cX11_pullOnce 44 = .ok (.getfield 16, 3) := by decide +kernel
theorem dX11_pullOnce_47 : decode cX11_pullOnce 47 = .ok (.iload_n 1, 1) := by decide +kernel
theorem dX11_pullOnce_48 : decode cX11_pullOnce 48 = .ok (.iaload, 1) := by decide +kernel
theorem dX11_pullOnce_49 : decode cX11_pullOnce 49 = .ok (.iconst 1, 1) := by decide +kernel
theorem dX11_pullOnce_50 : decode cX11_pullOnce 50 = .ok (.isub, 1) := by decide +kernel
theorem dX11_pullOnce_51 : decode cX11_pullOnce 51 = .ok (.invokestatic 169, 3) := by decide +kernel
theorem dX11_pullOnce_54 : decode cX11_pullOnce 54 = .ok (.iastore, 1) := by decide +kernel
theorem dX11_pullOnce_55 : decode cX11_pullOnce 55 = .ok (.aload_n 0, 1) := by decide +kernel
theorem dX11_pullOnce_56 : decode cX11_pullOnce 56 = .ok (.getfield 22, 3) := by decide +kernel
theorem dX11_pullOnce_59 : decode cX11_pullOnce 59 = .ok (.iload_n 1, 1) := by decide +kernel
theorem dX11_pullOnce_60 : decode cX11_pullOnce 60 = .ok (.dup2, 1) := by decide +kernel
theorem dX11_pullOnce_61 : decode cX11_pullOnce 61 = .ok (.iaload, 1) := by decide +kernel
theorem dX11_pullOnce_62 : decode cX11_pullOnce 62 = .ok (.iconst 1, 1) := by decide +kernel
theorem dX11_pullOnce_63 : decode cX11_pullOnce 63 = .ok (.iadd, 1) := by decide +kernel
theorem dX11_pullOnce_64 : decode cX11_pullOnce 64 = .ok (.iastore, 1) := by decide +kernel
theorem dX11_pullOnce_65 : decode cX11_pullOnce 65 = .ok (.iload_n 1, 1) := by decide +kernel
theorem dX11_pullOnce_66 : decode cX11_pullOnce 66 = .ok (.iload_n 2, 1) := by decide +kernel
theorem dX11_pullOnce_67 : decode cX11_pullOnce 67 = .ok (.invokestatic 110, 3) := by decide +kernel
theorem dX11_pullOnce_70 : decode cX11_pullOnce 70 = .ok (.istore 4, 2) := by decide +kernel
theorem dX11_pullOnce_72 : decode cX11_pullOnce 72 = .ok (.aload_n 0, 1) := by decide +kernel
theorem dX11_pullOnce_73 : decode cX11_pullOnce 73 = .ok (.getfield 25, 3) := by decide +kernel
theorem dX11_pullOnce_76 : decode cX11_pullOnce 76 = .ok (.iload 4, 2) := by decide +kernel
theorem dX11_pullOnce_78 : decode cX11_pullOnce 78 = .ok (.aload_n 0, 1) := by decide +kernel
theorem dX11_pullOnce_79 : decode cX11_pullOnce 79 = .ok (.getfield 22, 3) := by decide +kernel
theorem dX11_pullOnce_82 : decode cX11_pullOnce 82 = .ok (.iload_n 1, 1) := by decide +kernel
theorem dX11_pullOnce_83 : decode cX11_pullOnce 83 = .ok (.iaload, 1) := by decide +kernel
theorem dX11_pullOnce_84 : decode cX11_pullOnce 84 = .ok (.bipush 10, 2) := by decide +kernel
theorem dX11_pullOnce_86 : decode cX11_pullOnce 86 = .ok (.irem, 1) := by decide +kernel
theorem dX11_pullOnce_87 : decode cX11_pullOnce 87 = .ok (.ifCond .ne 22, 3) := by decide +kernel
theorem dX11_pullOnce_90 : decode cX11_pullOnce 90 = .ok (.aload_n 0, 1) := by decide +kernel
theorem dX11_pullOnce_91 : decode cX11_pullOnce 91 = .ok (.getfield 25, 3) := by decide +kernel
theorem dX11_pullOnce_94 : decode cX11_pullOnce 94 = .ok (.iload 4, 2) := by decide +kernel
theorem dX11_pullOnce_96 : decode cX11_pullOnce 96 = .ok (.iaload, 1) := by decide +kernel
theorem dX11_pullOnce_97 : decode cX11_pullOnce 97 = .ok (.aload_n 0, 1) := by decide +kernel
theorem dX11_pullOnce_98 : decode cX11_pullOnce 98 = .ok (.iload_n 2, 1) := by decide +kernel
theorem dX11_pullOnce_99 : decode cX11_pullOnce 99 = .ok (.invokevirtual 172, 3) := by decide +kernel
theorem dX11_pullOnce_102 : decode cX11_pullOnce 102 = .ok (.isub, 1) := by decide +kernel
theorem dX11_pullOnce_103 : decode cX11_pullOnce 103 = .ok (.invokestatic 169, 3) := by decide +kernel
theorem dX11_pullOnce_106 : decode cX11_pullOnce 106 = .ok (.goto 10, 3) := by decide +kernel
theorem dX11_pullOnce_109 : decode cX11_pullOnce 109 = .ok (.aload_n 0, 1) := by decide +kernel
theorem dX11_pullOnce_110 : decode cX11_pullOnce 110 = .ok (.getfield 25, 3) := by decide +kernel
theorem dX11_pullOnce_113 : decode cX11_pullOnce 113 = .ok (.iload 4, 2) := by decide +kernel
theorem dX11_pullOnce_115 : decode cX11_pullOnce 115 = .ok (.iaload, 1) := by decide +kernel
theorem dX11_pullOnce_116 : decode cX11_pullOnce 116 = .ok (.iastore, 1) := by decide +kernel
theorem dX11_pullOnce_117 : decode cX11_pullOnce 117 = .ok (.iload_n 3, 1) := by decide +kernel
theorem dX11_pullOnce_118 : decode cX11_pullOnce 118 = .ok (.ifCond .ne 39, 3) := by decide +kernel
theorem dX11_pullOnce_121 : decode cX11_pullOnce 121 = .ok (.aload_n 0, 1) := by decide +kernel
theorem dX11_pullOnce_122 : decode cX11_pullOnce 122 = .ok (.iload_n 1, 1) := by decide +kernel
theorem dX11_pullOnce_123 : decode cX11_pullOnce 123 = .ok (.iload_n 2, 1) := by decide +kernel
theorem dX11_pullOnce_124 : decode cX11_pullOnce 124 = .ok (.invokevirtual 175, 3) := by decide +kernel
theorem dX11_pullOnce_127 : decode cX11_pullOnce 127 = .ok (.aload_n 0, 1) := by decide +kernel
theorem dX11_pullOnce_128 : decode cX11_pullOnce 128 = .ok (.getfield 25, 3) := by decide +kernel
theorem dX11_pullOnce_131 : decode cX11_pullOnce 131 = .ok (.iload 4, 2) := by decide +kernel
theorem dX11_pullOnce_133 : decode cX11_pullOnce 133 = .ok (.iaload, 1) := by decide +kernel
theorem dX11_pullOnce_134 : decode cX11_pullOnce 134 = .ok (.if_icmp .le 7, 3) := by decide +kernel
theorem dX11_pullOnce_137 : decode cX11_pullOnce 137 = .ok (.iconst 3, 1) := by decide +kernel
theorem dX11_pullOnce_138 : decode cX11_pullOnce 138 = .ok (.goto 18, 3) := by decide +kernel
theorem dX11_pullOnce_141 : decode cX11_pullOnce 141 = .ok (.aload_n 0, 1) := by decide +kernel
theorem dX11_pullOnce_142 : decode cX11_pullOnce 142 = .ok (.getfield 25, 3) := by decide +kernel
theorem dX11_pullOnce_145 : decode cX11_pullOnce 145 = .ok (.iload 4, 2) := by decide +kernel
theorem dX11_pullOnce_147 : decode cX11_pullOnce 147 = .ok (.iaload, 1) := by decide +kernel
theorem dX11_pullOnce_148 : decode cX11_pullOnce 148 = .ok (.ifCond .ne 7, 3) := by decide +kernel
theorem dX11_pullOnce_151 : decode cX11_pullOnce 151 = .ok (.iconst 4, 1) := by decide +kernel
theorem dX11_pullOnce_152 : decode cX11_pullOnce 152 = .ok (.goto 4, 3) := by decide +kernel
theorem dX11_pullOnce_155 : decode cX11_pullOnce 155 = .ok (.iconst 0, 1) := by decide +kernel
theorem dX11_pullOnce_156 : decode cX11_pullOnce 156 = .ok (.istore_n 3, 1) := by decide +kernel
theorem dX11_pullOnce_157 : decode cX11_pullOnce 157 = .ok (.aload_n 0, 1) := by decide +kernel
theorem dX11_pullOnce_158 : decode cX11_pullOnce 158 = .ok (.dup, 1) := by decide +kernel
theorem dX11_pullOnce_159 : decode cX11_pullOnce 159 = .ok (.getfield 178, 3) := by decide +kernel
theorem dX11_pullOnce_162 : decode cX11_pullOnce 162 = .ok (.iconst 1, 1) := by decide +kernel
theorem dX11_pullOnce_163 : decode cX11_pullOnce 163 = .ok (.iadd, 1) := by decide +kernel
theorem dX11_pullOnce_164 : decode cX11_pullOnce 164 = .ok (.putfield 178, 3) := by decide +kernel
theorem dX11_pullOnce_167 : decode cX11_pullOnce 167 = .ok (.aload_n 0, 1) := by decide +kernel
theorem dX11_pullOnce_168 : decode cX11_pullOnce 168 = .ok (.getfield 61, 3) := by decide +kernel
theorem dX11_pullOnce_171 : decode cX11_pullOnce 171 = .ok (.iload_n 3, 1) := by decide +kernel
theorem dX11_pullOnce_172 : decode cX11_pullOnce 172 = .ok (.dup2, 1) := by decide +kernel
theorem dX11_pullOnce_173 : decode cX11_pullOnce 173 = .ok (.iaload, 1) := by decide +kernel
theorem dX11_pullOnce_174 : decode cX11_pullOnce 174 = .ok (.iconst 1, 1) := by decide +kernel
theorem dX11_pullOnce_175 : decode cX11_pullOnce 175 = .ok (.iadd, 1) := by decide +kernel
theorem dX11_pullOnce_176 : decode cX11_pullOnce 176 = .ok (.iastore, 1) := by decide +kernel
theorem dX11_pullOnce_177 : decode cX11_pullOnce 177 = .ok (.iload_n 3, 1) := by decide +kernel
theorem dX11_pullOnce_178 : decode cX11_pullOnce 178 = .ok (.iconst 3, 1) := by decide +kernel
theorem dX11_pullOnce_179 : decode cX11_pullOnce 179 = .ok (.if_icmp .ne 28, 3) := by decide +kernel
theorem dX11_pullOnce_182 : decode cX11_pullOnce 182 = .ok (.aload_n 0, 1) := by decide +kernel
theorem dX11_pullOnce_183 : decode cX11_pullOnce 183 = .ok (.getfield 181, 3) := by decide +kernel
theorem dX11_pullOnce_186 : decode cX11_pullOnce 186 = .ok (.ifCond .ge 21, 3) := by decide +kernel
theorem dX11_pullOnce_189 : decode cX11_pullOnce 189 = .ok (.aload_n 0, 1) := by decide +kernel
theorem dX11_pullOnce_190 : decode cX11_pullOnce 190 = .ok (.aload_n 0, 1) := by decide +kernel
theorem dX11_pullOnce_191 : decode cX11_pullOnce 191 = .ok (.getfield 178, 3) := by decide +kernel
theorem dX11_pullOnce_194 : decode cX11_pullOnce 194 = .ok (.putfield 181, 3) := by decide +kernel
theorem dX11_pullOnce_197 : decode cX11_pullOnce 197 = .ok (.aload_n 0, 1) := by decide +kernel
theorem dX11_pullOnce_198 : decode cX11_pullOnce 198 = .ok (.aload_n 0, 1) := by decide +kernel
theorem dX11_pullOnce_199 : decode cX11_pullOnce 199 = .ok (.iload_n 1, 1) := by decide +kernel
theorem dX11_pullOnce_200 : decode cX11_pullOnce 200 = .ok (.iload_n 2, 1) := by decide +kernel
theorem dX11_pullOnce_201 : decode cX11_pullOnce 201 = .ok (.invokevirtual 166, 3) := by decide +kernel
theorem dX11_pullOnce_204 : decode cX11_pullOnce 204 = .ok (.putfield 184, 3) := by decide +kernel
theorem dX11_pullOnce_207 : decode cX11_pullOnce 207 = .ok (.return_, 1) := by decide +kernel
theorem dX11_grindFor_0 : decode cX11_grindFor 0 = .ok (.aload_n 0, 1) := by decide +kernel
theorem dX11_grindFor_1 : decode cX11_grindFor 1 = .ok (.getfield 7, 3) := by decide +kernel
theorem dX11_grindFor_4 : decode cX11_grindFor 4 = .ok (.iload_n 2, 1) := by decide +kernel
theorem dX11_grindFor_5 : decode cX11_grindFor 5 = .ok (.dup2, 1) := by decide +kernel
theorem dX11_grindFor_6 : decode cX11_grindFor 6 = .ok (.iaload, 1) := by decide +kernel
theorem dX11_grindFor_7 : decode cX11_grindFor 7 = .ok (.iconst 3, 1) := by decide +kernel
theorem dX11_grindFor_8 : decode cX11_grindFor 8 = .ok (.iload_n 3, 1) := by decide +kernel
theorem dX11_grindFor_9 : decode cX11_grindFor 9 = .ok (.imul, 1) := by decide +kernel
theorem dX11_grindFor_10 : decode cX11_grindFor 10 = .ok (.isub, 1) := by decide +kernel
theorem dX11_grindFor_11 : decode cX11_grindFor 11 = .ok (.iastore, 1) := by decide +kernel
theorem dX11_grindFor_12 : decode cX11_grindFor 12 = .ok (.aload_n 0, 1) := by decide +kernel
theorem dX11_grindFor_13 : decode cX11_grindFor 13 = .ok (.getfield 19, 3) := by decide +kernel
theorem dX11_grindFor_16 : decode cX11_grindFor 16 = .ok (.iload_n 2, 1) := by decide +kernel
theorem dX11_grindFor_17 : decode cX11_grindFor 17 = .ok (.bipush (-6), 2) := by decide +kernel
theorem dX11_grindFor_19 : decode cX11_grindFor 19 = .ok (.iastore, 1) := by decide +kernel
theorem dX11_grindFor_20 : decode cX11_grindFor 20 = .ok (.aload_n 0, 1) := by decide +kernel
theorem dX11_grindFor_21 : decode cX11_grindFor 21 = .ok (.getfield 22, 3) := by decide +kernel
theorem dX11_grindFor_24 : decode cX11_grindFor 24 = .ok (.iload_n 2, 1) := by decide +kernel
theorem dX11_grindFor_25 : decode cX11_grindFor 25 = .ok (.iconst 0, 1) := by decide +kernel
theorem dX11_grindFor_26 : decode cX11_grindFor 26 = .ok (.iastore, 1) := by decide +kernel
theorem dX11_grindFor_27 : decode cX11_grindFor 27 = .ok (.iconst 0, 1) := by decide +kernel
theorem dX11_grindFor_28 : decode cX11_grindFor 28 = .ok (.istore 4, 2) := by decide +kernel
theorem dX11_grindFor_30 : decode cX11_grindFor 30 = .ok (.iload 4, 2) := by decide +kernel
theorem dX11_grindFor_32 : decode cX11_grindFor 32 = .ok (.bipush 8, 2) := by decide +kernel
theorem dX11_grindFor_34 : decode cX11_grindFor 34 = .ok (.if_icmp .ge 38, 3) := by decide +kernel
theorem dX11_grindFor_37 : decode cX11_grindFor 37 = .ok (.aload_n 0, 1) := by decide +kernel
theorem dX11_grindFor_38 : decode cX11_grindFor 38 = .ok (.getfield 25, 3) := by decide +kernel
theorem dX11_grindFor_41 : decode cX11_grindFor 41 = .ok (.iload_n 2, 1) := by decide +kernel
theorem dX11_grindFor_42 : decode cX11_grindFor 42 = .ok (.iload 4, 2) := by decide +kernel
theorem dX11_grindFor_44 : decode cX11_grindFor 44 = .ok (.invokestatic 110, 3) := by decide +kernel
theorem dX11_grindFor_47 : decode cX11_grindFor 47 = .ok (.aload_n 0, 1) := by decide +kernel
theorem dX11_grindFor_48 : decode cX11_grindFor 48 = .ok (.getfield 25, 3) := by decide +kernel
theorem dX11_grindFor_51 : decode cX11_grindFor 51 = .ok (.iload_n 2, 1) := by decide +kernel
theorem dX11_grindFor_52 : decode cX11_grindFor 52 = .ok (.iload 4, 2) := by decide +kernel
theorem dX11_grindFor_54 : decode cX11_grindFor 54 = .ok (.invokestatic 110, 3) := by decide +kernel
theorem dX11_grindFor_57 : decode cX11_grindFor 57 = .ok (.iaload, 1) := by decide +kernel
theorem dX11_grindFor_58 : decode cX11_grindFor 58 = .ok (.iconst 3, 1) := by decide +kernel
theorem dX11_grindFor_59 : decode cX11_grindFor 59 = .ok (.iload_n 3, 1) := by decide +kernel
theorem dX11_grindFor_60 : decode cX11_grindFor 60 = .ok (.imul, 1) := by decide +kernel
theorem dX11_grindFor_61 : decode cX11_grindFor 61 = .ok (.isub, 1) := by decide +kernel
theorem dX11_grindFor_62 : decode cX11_grindFor 62 = .ok (.invokestatic 169, 3) := by decide +kernel
theorem dX11_grindFor_65 : decode cX11_grindFor 65 = .ok (.iastore, 1) := by decide +kernel
theorem dX11_grindFor_66 : decode cX11_grindFor 66 = .ok (.iinc 4 1, 3) := by decide +kernel
theorem dX11_grindFor_69 : decode cX11_grindFor 69 = .ok (.goto (-39), 3) := by decide +kernel
theorem dX11_grindFor_72 : decode cX11_grindFor 72 = .ok (.aload_n 0, 1) := by decide +kernel
theorem dX11_grindFor_73 : decode cX11_grindFor 73 = .ok (.getfield 13, 3) := by decide +kernel
theorem dX11_grindFor_76 : decode cX11_grindFor 76 = .ok (.iload_n 2, 1) := by decide +kernel
theorem dX11_grindFor_77 : decode cX11_grindFor 77 = .ok (.iaload, 1) := by decide +kernel
theorem dX11_grindFor_78 : decode cX11_grindFor 78 = .ok (.iload_n 1, 1) := by decide +kernel
theorem dX11_grindFor_79 : decode cX11_grindFor 79 = .ok (.iconst 1, 1) := by decide +kernel
theorem dX11_grindFor_80 : decode cX11_grindFor 80 = .ok (.if_icmp .ne 9, 3) := by decide +kernel
theorem dX11_grindFor_83 : decode cX11_grindFor 83 = .ok (.iconst 2, 1) := by decide +kernel
theorem dX11_grindFor_84 : decode cX11_grindFor 84 = .ok (.iload_n 3, 1) := by decide +kernel
theorem dX11_grindFor_85 : decode cX11_grindFor 85 = .ok (.imul, 1) := by decide +kernel
theorem dX11_grindFor_86 : decode cX11_grindFor 86 = .ok (.goto 5, 3) := by decide +kernel
theorem dX11_grindFor_89 : decode cX11_grindFor 89 = .ok (.iload_n 3, 1) := by decide +kernel
theorem dX11_grindFor_90 : decode cX11_grindFor 90 = .ok (.ineg, 1) := by decide +kernel
theorem dX11_grindFor_91 : decode cX11_grindFor 91 = .ok (.iadd, 1) := by decide +kernel
theorem dX11_grindFor_92 : decode cX11_grindFor 92 = .ok (.istore 4, 2) := by decide +kernel
theorem dX11_grindFor_94 : decode cX11_grindFor 94 = .ok (.aload_n 0, 1) := by decide +kernel
theorem dX11_grindFor_95 : decode cX11_grindFor 95 = .ok (.getfield 13, 3) := by decide +kernel
theorem dX11_grindFor_98 : decode cX11_grindFor 98 = .ok (.iload_n 2, 1) := by decide +kernel
theorem dX11_grindFor_99 : decode cX11_grindFor 99 = .ok (.iload 4, 2) := by decide +kernel
theorem dX11_grindFor_101 : decode cX11_grindFor 101 = .ok (.bipush 99, 2) := by decide +kernel
theorem dX11_grindFor_103 : decode cX11_grindFor 103 = .ok (.if_icmp .le 8, 3) := by decide +kernel
theorem dX11_grindFor_106 : decode cX11_grindFor 106 = .ok (.bipush 99, 2) := by decide +kernel
theorem dX11_grindFor_108 : decode cX11_grindFor 108 = .ok (.goto 8, 3) := by decide +kernel
theorem dX11_grindFor_111 : decode cX11_grindFor 111 = .ok (.iload 4, 2) := by decide +kernel
theorem dX11_grindFor_113 : decode cX11_grindFor 113 = .ok (.invokestatic 169, 3) := by decide +kernel
theorem dX11_grindFor_116 : decode cX11_grindFor 116 = .ok (.iastore, 1) := by decide +kernel
theorem dX11_grindFor_117 : decode cX11_grindFor 117 = .ok (.return_, 1) := by decide +kernel
theorem dX11_happen_0 : decode cX11_happen 0 = .ok (.iload_n 1, 1) := by decide +kernel
theorem dX11_happen_1 : decode cX11_happen 1 = .ok (.tableswitch 191 0 5 #[39, 191, 191, 72, 107, 130], 39) := by decide +kernel
theorem dX11_happen_40 : decode cX11_happen 40 = .ok (.aload_n 0, 1) := by decide +kernel
theorem dX11_happen_41 : decode cX11_happen 41 = .ok (.getfield 25, 3) := by decide +kernel
theorem dX11_happen_44 : decode cX11_happen 44 = .ok (.iload_n 2, 1) := by decide +kernel
theorem dX11_happen_45 : decode cX11_happen 45 = .ok (.iload_n 3, 1) := by decide +kernel
theorem dX11_happen_46 : decode cX11_happen 46 = .ok (.invokestatic 110, 3) := by decide +kernel
theorem dX11_happen_49 : decode cX11_happen 49 = .ok (.aload_n 0, 1) := by decide +kernel
theorem dX11_happen_50 : decode cX11_happen 50 = .ok (.getfield 28, 3) := by decide +kernel
theorem dX11_happen_53 : decode cX11_happen 53 = .ok (.iload_n 3, 1) := by decide +kernel
theorem dX11_happen_54 : decode cX11_happen 54 = .ok (.iaload, 1) := by decide +kernel
theorem dX11_happen_55 : decode cX11_happen 55 = .ok (.iastore, 1) := by decide +kernel
theorem dX11_happen_56 : decode cX11_happen 56 = .ok (.aload_n 0, 1) := by decide +kernel
theorem dX11_happen_57 : decode cX11_happen 57 = .ok (.getfield 19, 3) := by decide +kernel
theorem dX11_happen_60 : decode cX11_happen 60 = .ok (.iload_n 2, 1) := by decide +kernel
theorem dX11_happen_61 : decode cX11_happen 61 = .ok (.iload_n 3, 1) := by decide +kernel
theorem dX11_happen_62 : decode cX11_happen 62 = .ok (.iastore, 1) := by decide +kernel
theorem dX11_happen_63 : decode cX11_happen 63 = .ok (.aload_n 0, 1) := by decide +kernel
theorem dX11_happen_64 : decode cX11_happen 64 = .ok (.getfield 22, 3) := by decide +kernel
theorem dX11_happen_67 : decode cX11_happen 67 = .ok (.iload_n 2, 1) := by decide +kernel
theorem dX11_happen_68 : decode cX11_happen 68 = .ok (.iconst 0, 1) := by decide +kernel
theorem dX11_happen_69 : decode cX11_happen 69 = .ok (.iastore, 1) := by decide +kernel
theorem dX11_happen_70 : decode cX11_happen 70 = .ok (.goto 129, 3) := by decide +kernel
theorem dX11_happen_73 : decode cX11_happen 73 = .ok (.aload_n 0, 1) := by decide +kernel
theorem dX11_happen_74 : decode cX11_happen 74 = .ok (.getfield 16, 3) := by decide +kernel
theorem dX11_happen_77 : decode cX11_happen 77 = .ok (.iload_n 2, 1) := by decide +kernel
theorem dX11_happen_78 : decode cX11_happen 78 = .ok (.aload_n 0, 1) := by decide +kernel
theorem dX11_happen_79 : decode cX11_happen 79 = .ok (.getfield 16, 3) := by decide +kernel
theorem dX11_happen_82 : decode cX11_happen 82 = .ok (.iload_n 2, 1) := by decide +kernel
theorem dX11_happen_83 : decode cX11_happen 83 = .ok (.iaload, 1) := by decide +kernel
theorem dX11_happen_84 : decode cX11_happen 84 = .ok (.iload_n 3, 1) := by decide +kernel
theorem dX11_happen_85 : decode cX11_happen 85 = .ok (.iadd, 1) := by decide +kernel
theorem dX11_happen_86 : decode cX11_happen 86 = .ok (.bipush 20, 2) := by decide +kernel
theorem dX11_happen_88 : decode cX11_happen 88 = .ok (.if_icmp .le 8, 3) := by decide +kernel
theorem dX11_happen_91 : decode cX11_happen 91 = .ok (.bipush 20, 2) := by decide +kernel
theorem dX11_happen_93 : decode cX11_happen 93 = .ok (.goto 11, 3) := by decide +kernel
theorem dX11_happen_96 : decode cX11_happen 96 = .ok (.aload_n 0, 1) := by decide +kernel
theorem dX11_happen_97 : decode cX11_happen 97 = .ok (.getfield 16, 3) := by decide +kernel
theorem dX11_happen_100 : decode cX11_happen 100 = .ok (.iload_n 2, 1) := by decide +kernel
theorem dX11_happen_101 : decode cX11_happen 101 = .ok (.iaload, 1) := by decide +kernel
theorem dX11_happen_102 : decode cX11_happen 102 = .ok (.iload_n 3, 1) := by decide +kernel
theorem dX11_happen_103 : decode cX11_happen 103 = .ok (.iadd, 1) := by decide +kernel
theorem dX11_happen_104 : decode cX11_happen 104 = .ok (.iastore, 1) := by decide +kernel
theorem dX11_happen_105 : decode cX11_happen 105 = .ok (.goto 94, 3) := by decide +kernel
theorem dX11_happen_108 : decode cX11_happen 108 = .ok (.iconst 0, 1) := by decide +kernel
theorem dX11_happen_109 : decode cX11_happen 109 = .ok (.istore 4, 2) := by decide +kernel
theorem dX11_happen_111 : decode cX11_happen 111 = .ok (.iload 4, 2) := by decide +kernel
theorem dX11_happen_113 : decode cX11_happen 113 = .ok (.iload_n 3, 1) := by decide +kernel
theorem dX11_happen_114 : decode cX11_happen 114 = .ok (.if_icmp .ge 14, 3) := by decide +kernel
theorem dX11_happen_117 : decode cX11_happen 117 = .ok (.aload_n 0, 1) := by decide +kernel
theorem dX11_happen_118 : decode cX11_happen 118 = .ok (.iload_n 2, 1) := by decide +kernel
theorem dX11_happen_119 : decode cX11_happen 119 = .ok (.invokevirtual 187, 3) := by decide +kernel
theorem dX11_happen_122 : decode cX11_happen 122 = .ok (.iinc 4 1, 3) := by decide +kernel
theorem dX11_happen_125 : decode cX11_happen 125 = .ok (.goto (-14), 3) := by decide +kernel
theorem dX11_happen_128 : decode cX11_happen 128 = .ok (.goto 71, 3) := by decide +kernel
theorem dX11_happen_131 : decode cX11_happen 131 = .ok (.aload_n 0, 1) := by decide +kernel
theorem dX11_happen_132 : decode cX11_happen 132 = .ok (.getfield 7, 3) := by decide +kernel
theorem dX11_happen_135 : decode cX11_happen 135 = .ok (.iload_n 2, 1) := by decide +kernel
theorem dX11_happen_136 : decode cX11_happen 136 = .ok (.aload_n 0, 1) := by decide +kernel
theorem dX11_happen_137 : decode cX11_happen 137 = .ok (.getfield 7, 3) := by decide +kernel
theorem dX11_happen_140 : decode cX11_happen 140 = .ok (.iload_n 2, 1) := by decide +kernel
theorem dX11_happen_141 : decode cX11_happen 141 = .ok (.iaload, 1) := by decide +kernel
theorem dX11_happen_142 : decode cX11_happen 142 = .ok (.aload_n 0, 1) := by decide +kernel
theorem dX11_happen_143 : decode cX11_happen 143 = .ok (.getfield 7, 3) := by decide +kernel
theorem dX11_happen_146 : decode cX11_happen 146 = .ok (.iload_n 3, 1) := by decide +kernel
theorem dX11_happen_147 : decode cX11_happen 147 = .ok (.iaload, 1) := by decide +kernel
theorem dX11_happen_148 : decode cX11_happen 148 = .ok (.iadd, 1) := by decide +kernel
theorem dX11_happen_149 : decode cX11_happen 149 = .ok (.sipush 9999, 3) := by decide +kernel
theorem dX11_happen_152 : decode cX11_happen 152 = .ok (.if_icmp .le 9, 3) := by decide +kernel
theorem dX11_happen_155 : decode cX11_happen 155 = .ok (.sipush 9999, 3) := by decide +kernel
theorem dX11_happen_158 : decode cX11_happen 158 = .ok (.goto 16, 3) := by decide +kernel
theorem dX11_happen_161 : decode cX11_happen 161 = .ok (.aload_n 0, 1) := by decide +kernel
theorem dX11_happen_162 : decode cX11_happen 162 = .ok (.getfield 7, 3) := by decide +kernel
theorem dX11_happen_165 : decode cX11_happen 165 = .ok (.iload_n 2, 1) := by decide +kernel
theorem dX11_happen_166 : decode cX11_happen 166 = .ok (.iaload, 1) := by decide +kernel
theorem dX11_happen_167 : decode cX11_happen 167 = .ok (.aload_n 0, 1) := by decide +kernel
theorem dX11_happen_168 : decode cX11_happen 168 = .ok (.getfield 7, 3) := by decide +kernel
theorem dX11_happen_171 : decode cX11_happen 171 = .ok (.iload_n 3, 1) := by decide +kernel
theorem dX11_happen_172 : decode cX11_happen 172 = .ok (.iaload, 1) := by decide +kernel
theorem dX11_happen_173 : decode cX11_happen 173 = .ok (.iadd, 1) := by decide +kernel
theorem dX11_happen_174 : decode cX11_happen 174 = .ok (.iastore, 1) := by decide +kernel
theorem dX11_happen_175 : decode cX11_happen 175 = .ok (.aload_n 0, 1) := by decide +kernel
theorem dX11_happen_176 : decode cX11_happen 176 = .ok (.dup, 1) := by decide +kernel
theorem dX11_happen_177 : decode cX11_happen 177 = .ok (.getfield 99, 3) := by decide +kernel
theorem dX11_happen_180 : decode cX11_happen 180 = .ok (.iconst 1, 1) := by decide +kernel
theorem dX11_happen_181 : decode cX11_happen 181 = .ok (.iload_n 3, 1) := by decide +kernel
theorem dX11_happen_182 : decode cX11_happen 182 = .ok (.ishl, 1) := by decide +kernel
theorem dX11_happen_183 : decode cX11_happen 183 = .ok (.iconst (-1), 1) := by decide +kernel
theorem dX11_happen_184 : decode cX11_happen 184 = .ok (.ixor, 1) := by decide +kernel
theorem dX11_happen_185 : decode cX11_happen 185 = .ok (.iand, 1) := by decide +kernel
theorem dX11_happen_186 : decode cX11_happen 186 = .ok (.putfield 99, 3) := by decide +kernel
theorem dX11_happen_189 : decode cX11_happen 189 = .ok (.goto 10, 3) := by decide +kernel
theorem dX11_happen_192 : decode cX11_happen 192 = .ok (.aload_n 0, 1) := by decide +kernel
theorem dX11_happen_193 : decode cX11_happen 193 = .ok (.iload_n 1, 1) := by decide +kernel
theorem dX11_happen_194 : decode cX11_happen 194 = .ok (.iload_n 2, 1) := by decide +kernel
theorem dX11_happen_195 : decode cX11_happen 195 = .ok (.iload_n 3, 1) := by decide +kernel
theorem dX11_happen_196 : decode cX11_happen 196 = .ok (.invokevirtual 191, 3) := by decide +kernel
theorem dX11_happen_199 : decode cX11_happen 199 = .ok (.return_, 1) := by decide +kernel
theorem dX11_store_0 : decode cX11_store 0 = .ok (.iconst 0, 1) := by decide +kernel
theorem dX11_store_1 : decode cX11_store 1 = .ok (.istore_n 2, 1) := by decide +kernel
theorem dX11_store_2 : decode cX11_store 2 = .ok (.iload_n 2, 1) := by decide +kernel
theorem dX11_store_3 : decode cX11_store 3 = .ok (.iconst 5, 1) := by decide +kernel
theorem dX11_store_4 : decode cX11_store 4 = .ok (.if_icmp .ge 65, 3) := by decide +kernel
theorem dX11_store_7 : decode cX11_store 7 = .ok (.aload_n 1, 1) := by decide +kernel
theorem dX11_store_8 : decode cX11_store 8 = .ok (.iload_n 2, 1) := by decide +kernel
theorem dX11_store_9 : decode cX11_store 9 = .ok (.aload_n 0, 1) := by decide +kernel
theorem dX11_store_10 : decode cX11_store 10 = .ok (.getfield 7, 3) := by decide +kernel
theorem dX11_store_13 : decode cX11_store 13 = .ok (.iload_n 2, 1) := by decide +kernel
theorem dX11_store_14 : decode cX11_store 14 = .ok (.iaload, 1) := by decide +kernel
theorem dX11_store_15 : decode cX11_store 15 = .ok (.iastore, 1) := by decide +kernel
theorem dX11_store_16 : decode cX11_store 16 = .ok (.aload_n 1, 1) := by decide +kernel
theorem dX11_store_17 : decode cX11_store 17 = .ok (.iconst 5, 1) := by decide +kernel
theorem dX11_store_18 : decode cX11_store 18 = .ok (.iload_n 2, 1) := by decide +kernel
theorem dX11_store_19 : decode cX11_store 19 = .ok (.iadd, 1) := by decide +kernel
theorem dX11_store_20 : decode cX11_store 20 = .ok (.aload_n 0, 1) := by decide +kernel
theorem dX11_store_21 : decode cX11_store 21 = .ok (.getfield 13, 3) := by decide +kernel
theorem dX11_store_24 : decode cX11_store 24 = .ok (.iload_n 2, 1) := by decide +kernel
theorem dX11_store_25 : decode cX11_store 25 = .ok (.iaload, 1) := by decide +kernel
theorem dX11_store_26 : decode cX11_store 26 = .ok (.iastore, 1) := by decide +kernel
theorem dX11_store_27 : decode cX11_store 27 = .ok (.aload_n 1, 1) := by decide +kernel
theorem dX11_store_28 : decode cX11_store 28 = .ok (.bipush 10, 2) := by decide +kernel
theorem dX11_store_30 : decode cX11_store 30 = .ok (.iload_n 2, 1) := by decide +kernel
theorem dX11_store_31 : decode cX11_store 31 = .ok (.iadd, 1) := by decide +kernel
theorem dX11_store_32 : decode cX11_store 32 = .ok (.aload_n 0, 1) := by decide +kernel
theorem dX11_store_33 : decode cX11_store 33 = .ok (.getfield 16, 3) := by decide +kernel
theorem dX11_store_36 : decode cX11_store 36 = .ok (.iload_n 2, 1) := by decide +kernel
theorem dX11_store_37 : decode cX11_store 37 = .ok (.iaload, 1) := by decide +kernel
theorem dX11_store_38 : decode cX11_store 38 = .ok (.iastore, 1) := by decide +kernel
theorem dX11_store_39 : decode cX11_store 39 = .ok (.aload_n 1, 1) := by decide +kernel
theorem dX11_store_40 : decode cX11_store 40 = .ok (.bipush 15, 2) := by decide +kernel
theorem dX11_store_42 : decode cX11_store 42 = .ok (.iload_n 2, 1) := by decide +kernel
theorem dX11_store_43 : decode cX11_store 43 = .ok (.iadd, 1) := by decide +kernel
theorem dX11_store_44 : decode cX11_store 44 = .ok (.aload_n 0, 1) := by decide +kernel
theorem dX11_store_45 : decode cX11_store 45 = .ok (.getfield 19, 3) := by decide +kernel
theorem dX11_store_48 : decode cX11_store 48 = .ok (.iload_n 2, 1) := by decide +kernel
theorem dX11_store_49 : decode cX11_store 49 = .ok (.iaload, 1) := by decide +kernel
theorem dX11_store_50 : decode cX11_store 50 = .ok (.iastore, 1) := by decide +kernel
theorem dX11_store_51 : decode cX11_store 51 = .ok (.aload_n 1, 1) := by decide +kernel
theorem dX11_store_52 : decode cX11_store 52 = .ok (.bipush 20, 2) := by decide +kernel
theorem dX11_store_54 : decode cX11_store 54 = .ok (.iload_n 2, 1) := by decide +kernel
theorem dX11_store_55 : decode cX11_store 55 = .ok (.iadd, 1) := by decide +kernel
theorem dX11_store_56 : decode cX11_store 56 = .ok (.aload_n 0, 1) := by decide +kernel
theorem dX11_store_57 : decode cX11_store 57 = .ok (.getfield 22, 3) := by decide +kernel
theorem dX11_store_60 : decode cX11_store 60 = .ok (.iload_n 2, 1) := by decide +kernel
theorem dX11_store_61 : decode cX11_store 61 = .ok (.iaload, 1) := by decide +kernel
theorem dX11_store_62 : decode cX11_store 62 = .ok (.iastore, 1) := by decide +kernel
theorem dX11_store_63 : decode cX11_store 63 = .ok (.iinc 2 1, 3) := by decide +kernel
theorem dX11_store_66 : decode cX11_store 66 = .ok (.goto (-64), 3) := by decide +kernel
theorem dX11_store_69 : decode cX11_store 69 = .ok (.iconst 0, 1) := by decide +kernel
theorem dX11_store_70 : decode cX11_store 70 = .ok (.istore_n 2, 1) := by decide +kernel
theorem dX11_store_71 : decode cX11_store 71 = .ok (.iload_n 2, 1) := by decide +kernel
theorem dX11_store_72 : decode cX11_store 72 = .ok (.bipush 40, 2) := by decide +kernel
theorem dX11_store_74 : decode cX11_store 74 = .ok (.if_icmp .ge 21, 3) := by decide +kernel
theorem dX11_store_77 : decode cX11_store 77 = .ok (.aload_n 1, 1) := by decide +kernel
theorem dX11_store_78 : decode cX11_store 78 = .ok (.bipush 25, 2) := by decide +kernel
theorem dX11_store_80 : decode cX11_store 80 = .ok (.iload_n 2, 1) := by decide +kernel
theorem dX11_store_81 : decode cX11_store 81 = .ok (.iadd, 1) := by decide +kernel
theorem dX11_store_82 : decode cX11_store 82 = .ok (.aload_n 0, 1) := by decide +kernel
theorem dX11_store_83 : decode cX11_store 83 = .ok (.getfield 25, 3) := by decide +kernel
theorem dX11_store_86 : decode cX11_store 86 = .ok (.iload_n 2, 1) := by decide +kernel
theorem dX11_store_87 : decode cX11_store 87 = .ok (.iaload, 1) := by decide +kernel
theorem dX11_store_88 : decode cX11_store 88 = .ok (.iastore, 1) := by decide +kernel
theorem dX11_store_89 : decode cX11_store 89 = .ok (.iinc 2 1, 3) := by decide +kernel
theorem dX11_store_92 : decode cX11_store 92 = .ok (.goto (-21), 3) := by decide +kernel
theorem dX11_store_95 : decode cX11_store 95 = .ok (.aload_n 1, 1) := by decide +kernel
theorem dX11_store_96 : decode cX11_store 96 = .ok (.bipush 65, 2) := by decide +kernel
theorem dX11_store_98 : decode cX11_store 98 = .ok (.aload_n 0, 1) := by decide +kernel
theorem dX11_store_99 : decode cX11_store 99 = .ok (.getfield 99, 3) := by decide +kernel
theorem dX11_store_102 : decode cX11_store 102 = .ok (.iastore, 1) := by decide +kernel
theorem dX11_store_103 : decode cX11_store 103 = .ok (.return_, 1) := by decide +kernel
theorem dX11_putBack_0 : decode cX11_putBack 0 = .ok (.iconst 0, 1) := by decide +kernel
theorem dX11_putBack_1 : decode cX11_putBack 1 = .ok (.istore_n 1, 1) := by decide +kernel
theorem dX11_putBack_2 : decode cX11_putBack 2 = .ok (.iload_n 1, 1) := by decide +kernel
theorem dX11_putBack_3 : decode cX11_putBack 3 = .ok (.iconst 5, 1) := by decide +kernel
theorem dX11_putBack_4 : decode cX11_putBack 4 = .ok (.if_icmp .ge 80, 3) := by decide +kernel
theorem dX11_putBack_7 : decode cX11_putBack 7 = .ok (.aload_n 0, 1) := by decide +kernel
theorem dX11_putBack_8 : decode cX11_putBack 8 = .ok (.getfield 7, 3) := by decide +kernel
theorem dX11_putBack_11 : decode cX11_putBack 11 = .ok (.iload_n 1, 1) := by decide +kernel
theorem dX11_putBack_12 : decode cX11_putBack 12 = .ok (.aload_n 0, 1) := by decide +kernel
theorem dX11_putBack_13 : decode cX11_putBack 13 = .ok (.getfield 64, 3) := by decide +kernel
theorem dX11_putBack_16 : decode cX11_putBack 16 = .ok (.iload_n 1, 1) := by decide +kernel
theorem dX11_putBack_17 : decode cX11_putBack 17 = .ok (.iaload, 1) := by decide +kernel
theorem dX11_putBack_18 : decode cX11_putBack 18 = .ok (.iastore, 1) := by decide +kernel
theorem dX11_putBack_19 : decode cX11_putBack 19 = .ok (.aload_n 0, 1) := by decide +kernel
theorem dX11_putBack_20 : decode cX11_putBack 20 = .ok (.getfield 13, 3) := by decide +kernel
theorem dX11_putBack_23 : decode cX11_putBack 23 = .ok (.iload_n 1, 1) := by decide +kernel
theorem dX11_putBack_24 : decode cX11_putBack 24 = .ok (.aload_n 0, 1) := by decide +kernel
theorem dX11_putBack_25 : decode cX11_putBack 25 = .ok (.getfield 64, 3) := by decide +kernel
theorem dX11_putBack_28 : decode cX11_putBack 28 = .ok (.iconst 5, 1) := by decide +kernel
theorem dX11_putBack_29 : decode cX11_putBack 29 = .ok (.iload_n 1, 1) := by decide +kernel
theorem dX11_putBack_30 : decode cX11_putBack 30 = .ok (.iadd, 1) := by decide +kernel
theorem dX11_putBack_31 : decode cX11_putBack 31 = .ok (.iaload, 1) := by decide +kernel
theorem dX11_putBack_32 : decode cX11_putBack 32 = .ok (.iastore, 1) := by decide +kernel
theorem dX11_putBack_33 : decode cX11_putBack 33 = .ok (.aload_n 0, 1) := by decide +kernel
theorem dX11_putBack_34 : decode cX11_putBack 34 = .ok (.getfield 16, 3) := by decide +kernel
theorem dX11_putBack_37 : decode cX11_putBack 37 = .ok (.iload_n 1, 1) := by decide +kernel
theorem dX11_putBack_38 : decode cX11_putBack 38 = .ok (.aload_n 0, 1) := by decide +kernel
theorem dX11_putBack_39 : decode cX11_putBack 39 = .ok (.getfield 64, 3) := by decide +kernel
theorem dX11_putBack_42 : decode cX11_putBack 42 = .ok (.bipush 10, 2) := by decide +kernel
theorem dX11_putBack_44 : decode cX11_putBack 44 = .ok (.iload_n 1, 1) := by decide +kernel
theorem dX11_putBack_45 : decode cX11_putBack 45 = .ok (.iadd, 1) := by decide +kernel
theorem dX11_putBack_46 : decode cX11_putBack 46 = .ok (.iaload, 1) := by decide +kernel
theorem dX11_putBack_47 : decode cX11_putBack 47 = .ok (.iastore, 1) := by decide +kernel
theorem dX11_putBack_48 : decode cX11_putBack 48 = .ok (.aload_n 0, 1) := by decide +kernel
theorem dX11_putBack_49 : decode cX11_putBack 49 = .ok (.getfield 19, 3) := by decide +kernel
theorem dX11_putBack_52 : decode cX11_putBack 52 = .ok (.iload_n 1, 1) := by decide +kernel
theorem dX11_putBack_53 : decode cX11_putBack 53 = .ok (.aload_n 0, 1) := by decide +kernel
theorem dX11_putBack_54 : decode cX11_putBack 54 = .ok (.getfield 64, 3) := by decide +kernel
theorem dX11_putBack_57 : decode cX11_putBack 57 = .ok (.bipush 15, 2) := by decide +kernel
theorem dX11_putBack_59 : decode cX11_putBack 59 = .ok (.iload_n 1, 1) := by decide +kernel
theorem dX11_putBack_60 : decode cX11_putBack 60 = .ok (.iadd, 1) := by decide +kernel
theorem dX11_putBack_61 : decode cX11_putBack 61 = .ok (.iaload, 1) := by decide +kernel
theorem dX11_putBack_62 : decode cX11_putBack 62 = .ok (.iastore, 1) := by decide +kernel
theorem dX11_putBack_63 : decode cX11_putBack 63 = .ok (.aload_n 0, 1) := by decide +kernel
theorem dX11_putBack_64 : decode cX11_putBack 64 = .ok (.getfield 22, 3) := by decide +kernel
theorem dX11_putBack_67 : decode cX11_putBack 67 = .ok (.iload_n 1, 1) := by decide +kernel
theorem dX11_putBack_68 : decode cX11_putBack 68 = .ok (.aload_n 0, 1) := by decide +kernel
theorem dX11_putBack_69 : decode cX11_putBack 69 = .ok (.getfield 64, 3) := by decide +kernel
theorem dX11_putBack_72 : decode cX11_putBack 72 = .ok (.bipush 20, 2) := by decide +kernel
theorem dX11_putBack_74 : decode cX11_putBack 74 = .ok (.iload_n 1, 1) := by decide +kernel
theorem dX11_putBack_75 : decode cX11_putBack 75 = .ok (.iadd, 1) := by decide +kernel
theorem dX11_putBack_76 : decode cX11_putBack 76 = .ok (.iaload, 1) := by decide +kernel
theorem dX11_putBack_77 : decode cX11_putBack 77 = .ok (.iastore, 1) := by decide +kernel
theorem dX11_putBack_78 : decode cX11_putBack 78 = .ok (.iinc 1 1, 3) := by decide +kernel
theorem dX11_putBack_81 : decode cX11_putBack 81 = .ok (.goto (-79), 3) := by decide +kernel
theorem dX11_putBack_84 : decode cX11_putBack 84 = .ok (.iconst 0, 1) := by decide +kernel
theorem dX11_putBack_85 : decode cX11_putBack 85 = .ok (.istore_n 1, 1) := by decide +kernel
theorem dX11_putBack_86 : decode cX11_putBack 86 = .ok (.iload_n 1, 1) := by decide +kernel
theorem dX11_putBack_87 : decode cX11_putBack 87 = .ok (.bipush 40, 2) := by decide +kernel
theorem dX11_putBack_89 : decode cX11_putBack 89 = .ok (.if_icmp .ge 24, 3) := by decide +kernel
theorem dX11_putBack_92 : decode cX11_putBack 92 = .ok (.aload_n 0, 1) := by decide +kernel
theorem dX11_putBack_93 : decode cX11_putBack 93 = .ok (.getfield 25, 3) := by decide +kernel
theorem dX11_putBack_96 : decode cX11_putBack 96 = .ok (.iload_n 1, 1) := by decide +kernel
theorem dX11_putBack_97 : decode cX11_putBack 97 = .ok (.aload_n 0, 1) := by decide +kernel
theorem dX11_putBack_98 : decode cX11_putBack 98 = .ok (.getfield 64, 3) := by decide +kernel
theorem dX11_putBack_101 : decode cX11_putBack 101 = .ok (.bipush 25, 2) := by decide +kernel
theorem dX11_putBack_103 : decode cX11_putBack 103 = .ok (.iload_n 1, 1) := by decide +kernel
theorem dX11_putBack_104 : decode cX11_putBack 104 = .ok (.iadd, 1) := by decide +kernel
theorem dX11_putBack_105 : decode cX11_putBack 105 = .ok (.iaload, 1) := by decide +kernel
theorem dX11_putBack_106 : decode cX11_putBack 106 = .ok (.iastore, 1) := by decide +kernel
theorem dX11_putBack_107 : decode cX11_putBack 107 = .ok (.iinc 1 1, 3) := by decide +kernel
theorem dX11_putBack_110 : decode cX11_putBack 110 = .ok (.goto (-24), 3) := by decide +kernel
theorem dX11_putBack_113 : decode cX11_putBack 113 = .ok (.aload_n 0, 1) := by decide +kernel
theorem dX11_putBack_114 : decode cX11_putBack 114 = .ok (.aload_n 0, 1) := by decide +kernel
theorem dX11_putBack_115 : decode cX11_putBack 115 = .ok (.getfield 64, 3) := by decide +kernel
theorem dX11_putBack_118 : decode cX11_putBack 118 = .ok (.bipush 65, 2) := by decide +kernel
theorem dX11_putBack_120 : decode cX11_putBack 120 = .ok (.iaload, 1) := by decide +kernel
theorem dX11_putBack_121 : decode cX11_putBack 121 = .ok (.putfield 99, 3) := by decide +kernel
theorem dX11_putBack_124 : decode cX11_putBack 124 = .ok (.return_, 1) := by decide +kernel
theorem dX11_beginCount_0 : decode cX11_beginCount 0 = .ok (.aload_n 0, 1) := by decide +kernel
theorem dX11_beginCount_1 : decode cX11_beginCount 1 = .ok (.iconst 0, 1) := by decide +kernel
theorem dX11_beginCount_2 : decode cX11_beginCount 2 = .ok (.putfield 178, 3) := by decide +kernel
theorem dX11_beginCount_5 : decode cX11_beginCount 5 = .ok (.aload_n 0, 1) := by decide +kernel
theorem dX11_beginCount_6 : decode cX11_beginCount 6 = .ok (.bipush (-6), 2) := by decide +kernel
theorem dX11_beginCount_8 : decode cX11_beginCount 8 = .ok (.putfield 181, 3) := by decide +kernel
theorem dX11_beginCount_11 : decode cX11_beginCount 11 = .ok (.aload_n 0, 1) := by decide +kernel
theorem dX11_beginCount_12 : decode cX11_beginCount 12 = .ok (.bipush (-6), 2) := by decide +kernel
theorem dX11_beginCount_14 : decode cX11_beginCount 14 = .ok (.putfield 184, 3) := by decide +kernel
theorem dX11_beginCount_17 : decode cX11_beginCount 17 = .ok (.iconst 0, 1) := by decide +kernel
theorem dX11_beginCount_18 : decode cX11_beginCount 18 = .ok (.istore_n 1, 1) := by decide +kernel
theorem dX11_beginCount_19 : decode cX11_beginCount 19 = .ok (.iload_n 1, 1) := by decide +kernel
theorem dX11_beginCount_20 : decode cX11_beginCount 20 = .ok (.iconst 5, 1) := by decide +kernel
theorem dX11_beginCount_21 : decode cX11_beginCount 21 = .ok (.if_icmp .ge 16, 3) := by decide +kernel
theorem dX11_beginCount_24 : decode cX11_beginCount 24 = .ok (.aload_n 0, 1) := by decide +kernel
theorem dX11_beginCount_25 : decode cX11_beginCount 25 = .ok (.getfield 61, 3) := by decide +kernel
theorem dX11_beginCount_28 : decode cX11_beginCount 28 = .ok (.iload_n 1, 1) := by decide +kernel
theorem dX11_beginCount_29 : decode cX11_beginCount 29 = .ok (.iconst 0, 1) := by decide +kernel
theorem dX11_beginCount_30 : decode cX11_beginCount 30 = .ok (.iastore, 1) := by decide +kernel
theorem dX11_beginCount_31 : decode cX11_beginCount 31 = .ok (.iinc 1 1, 3) := by decide +kernel
theorem dX11_beginCount_34 : decode cX11_beginCount 34 = .ok (.goto (-15), 3) := by decide +kernel
theorem dX11_beginCount_37 : decode cX11_beginCount 37 = .ok (.return_, 1) := by decide +kernel
theorem dX11_goShop_0 : decode cX11_goShop 0 = .ok (.aload_n 0, 1) := by decide +kernel
theorem dX11_goShop_1 : decode cX11_goShop 1 = .ok (.invokevirtual 195, 3) := by decide +kernel
theorem dX11_goShop_4 : decode cX11_goShop 4 = .ok (.aload_n 0, 1) := by decide +kernel
theorem dX11_goShop_5 : decode cX11_goShop 5 = .ok (.bipush (-6), 2) := by decide +kernel
theorem dX11_goShop_7 : decode cX11_goShop 7 = .ok (.putfield 198, 3) := by decide +kernel
theorem dX11_goShop_10 : decode cX11_goShop 10 = .ok (.aload_n 0, 1) := by decide +kernel
theorem dX11_goShop_11 : decode cX11_goShop 11 = .ok (.bipush (-6), 2) := by decide +kernel
theorem dX11_goShop_13 : decode cX11_goShop 13 = .ok (.putfield 201, 3) := by decide +kernel
theorem dX11_goShop_16 : decode cX11_goShop 16 = .ok (.iconst 0, 1) := by decide +kernel
theorem dX11_goShop_17 : decode cX11_goShop 17 = .ok (.istore_n 1, 1) := by decide +kernel
theorem dX11_goShop_18 : decode cX11_goShop 18 = .ok (.iload_n 1, 1) := by decide +kernel
theorem dX11_goShop_19 : decode cX11_goShop 19 = .ok (.aload_n 0, 1) := by decide +kernel
theorem dX11_goShop_20 : decode cX11_goShop 20 = .ok (.getfield 146, 3) := by decide +kernel
theorem dX11_goShop_23 : decode cX11_goShop 23 = .ok (.if_icmp .ge 93, 3) := by decide +kernel
theorem dX11_goShop_26 : decode cX11_goShop 26 = .ok (.aload_n 0, 1) := by decide +kernel
theorem dX11_goShop_27 : decode cX11_goShop 27 = .ok (.getfield 198, 3) := by decide +kernel
theorem dX11_goShop_30 : decode cX11_goShop 30 = .ok (.ifCond .ge 86, 3) := by decide +kernel
theorem dX11_goShop_33 : decode cX11_goShop 33 = .ok (.aload_n 0, 1) := by decide +kernel
theorem dX11_goShop_34 : decode cX11_goShop 34 = .ok (.aload_n 0, 1) := by decide +kernel
theorem dX11_goShop_35 : decode cX11_goShop 35 = .ok (.getfield 52, 3) := by decide +kernel
theorem dX11_goShop_38 : decode cX11_goShop 38 = .ok (.iload_n 1, 1) := by decide +kernel
theorem dX11_goShop_39 : decode cX11_goShop 39 = .ok (.iaload, 1) := by decide +kernel
theorem dX11_goShop_40 : decode cX11_goShop 40 = .ok (.aload_n 0, 1) := by decide +kernel
theorem dX11_goShop_41 : decode cX11_goShop 41 = .ok (.getfield 55, 3) := by decide +kernel
theorem dX11_goShop_44 : decode cX11_goShop 44 = .ok (.iload_n 1, 1) := by decide +kernel
theorem dX11_goShop_45 : decode cX11_goShop 45 = .ok (.iaload, 1) := by decide +kernel
theorem dX11_goShop_46 : decode cX11_goShop 46 = .ok (.aload_n 0, 1) := by decide +kernel
theorem dX11_goShop_47 : decode cX11_goShop 47 = .ok (.getfield 58, 3) := by decide +kernel
theorem dX11_goShop_50 : decode cX11_goShop 50 = .ok (.iload_n 1, 1) := by decide +kernel
theorem dX11_goShop_51 : decode cX11_goShop 51 = .ok (.iaload, 1) := by decide +kernel
theorem dX11_goShop_52 : decode cX11_goShop 52 = .ok (.invokevirtual 204, 3) := by decide +kernel
theorem dX11_goShop_55 : decode cX11_goShop 55 = .ok (.istore_n 2, 1) := by decide +kernel
theorem dX11_goShop_56 : decode cX11_goShop 56 = .ok (.aload_n 0, 1) := by decide +kernel
theorem dX11_goShop_57 : decode cX11_goShop 57 = .ok (.iload_n 2, 1) := by decide +kernel
theorem dX11_goShop_58 : decode cX11_goShop 58 = .ok (.ifCond .le 7, 3) := by decide +kernel
theorem dX11_goShop_61 : decode cX11_goShop 61 = .ok (.iload_n 1, 1) := by decide +kernel
theorem dX11_goShop_62 : decode cX11_goShop 62 = .ok (.goto 5, 3) := by decide +kernel
theorem dX11_goShop_65 : decode cX11_goShop 65 = .ok (.bipush (-6), 2) := by decide +kernel
theorem dX11_goShop_67 : decode cX11_goShop 67 = .ok (.putfield 198, 3) := by decide +kernel
theorem dX11_goShop_70 : decode cX11_goShop 70 = .ok (.aload_n 0, 1) := by decide +kernel
theorem dX11_goShop_71 : decode cX11_goShop 71 = .ok (.iload_n 2, 1) := by decide +kernel
theorem dX11_goShop_72 : decode cX11_goShop 72 = .ok (.ifCond .le 7, 3) := by decide +kernel
theorem dX11_goShop_75 : decode cX11_goShop 75 = .ok (.iload_n 2, 1) := by decide +kernel
theorem dX11_goShop_76 : decode cX11_goShop 76 = .ok (.goto 5, 3) := by decide +kernel
theorem dX11_goShop_79 : decode cX11_goShop 79 = .ok (.bipush (-6), 2) := by decide +kernel
theorem dX11_goShop_81 : decode cX11_goShop 81 = .ok (.putfield 201, 3) := by decide +kernel
theorem dX11_goShop_84 : decode cX11_goShop 84 = .ok (.iload_n 2, 1) := by decide +kernel
theorem dX11_goShop_85 : decode cX11_goShop 85 = .ok (.ifCond .ne 25, 3) := by decide +kernel
theorem dX11_goShop_88 : decode cX11_goShop 88 = .ok (.aload_n 0, 1) := by decide +kernel
theorem dX11_goShop_89 : decode cX11_goShop 89 = .ok (.aload_n 0, 1) := by decide +kernel
theorem dX11_goShop_90 : decode cX11_goShop 90 = .ok (.getfield 52, 3) := by decide +kernel
theorem dX11_goShop_93 : decode cX11_goShop 93 = .ok (.iload_n 1, 1) := by decide +kernel
theorem dX11_goShop_94 : decode cX11_goShop 94 = .ok (.iaload, 1) := by decide +kernel
theorem dX11_goShop_95 : decode cX11_goShop 95 = .ok (.aload_n 0, 1) := by decide +kernel
theorem dX11_goShop_96 : decode cX11_goShop 96 = .ok (.getfield 55, 3) := by decide +kernel
theorem dX11_goShop_99 : decode cX11_goShop 99 = .ok (.iload_n 1, 1) := by decide +kernel
theorem dX11_goShop_100 : decode cX11_goShop 100 = .ok (.iaload, 1) := by decide +kernel
theorem dX11_goShop_101 : decode cX11_goShop 101 = .ok (.aload_n 0, 1) := by decide +kernel
theorem dX11_goShop_102 : decode cX11_goShop 102 = .ok (.getfield 58, 3) := by decide +kernel
theorem dX11_goShop_105 : decode cX11_goShop 105 = .ok (.iload_n 1, 1) := by decide +kernel
theorem dX11_goShop_106 : decode cX11_goShop 106 = .ok (.iaload, 1) := by decide +kernel
theorem dX11_goShop_107 : decode cX11_goShop 107 = .ok (.invokevirtual 208, 3) := by decide +kernel
theorem dX11_goShop_110 : decode cX11_goShop 110 = .ok (.iinc 1 1, 3) := by decide +kernel
theorem dX11_goShop_113 : decode cX11_goShop 113 = .ok (.goto (-95), 3) := by decide +kernel
theorem dX11_goShop_116 : decode cX11_goShop 116 = .ok (.return_, 1) := by decide +kernel
theorem dX11_refusal_0 : decode cX11_refusal 0 = .ok (.aload_n 0, 1) := by decide +kernel
theorem dX11_refusal_1 : decode cX11_refusal 1 = .ok (.invokevirtual 211, 3) := by decide +kernel
theorem dX11_refusal_4 : decode cX11_refusal 4 = .ok (.ifCond .lt 6, 3) := by decide +kernel
theorem dX11_refusal_7 : decode cX11_refusal 7 = .ok (.bipush (-5), 2) := by decide +kernel
theorem dX11_refusal_9 : decode cX11_refusal 9 = .ok (.ireturn, 1) := by decide +kernel
theorem dX11_refusal_10 : decode cX11_refusal 10 = .ok (.aload_n 0, 1) := by decide +kernel
theorem dX11_refusal_11 : decode cX11_refusal 11 = .ok (.aload_n 0, 1) := by decide +kernel
theorem dX11_refusal_12 : decode cX11_refusal 12 = .ok (.getfield 64, 3) := by decide +kernel
theorem dX11_refusal_15 : decode cX11_refusal 15 = .ok (.invokevirtual 215, 3) := by decide +kernel
theorem dX11_refusal_18 : decode cX11_refusal 18 = .ok (.aload_n 0, 1) := by decide +kernel
theorem dX11_refusal_19 : decode cX11_refusal 19 = .ok (.invokevirtual 219, 3) := by decide +kernel
theorem dX11_refusal_22 : decode cX11_refusal 22 = .ok (.aload_n 0, 1) := by decide +kernel
theorem dX11_refusal_23 : decode cX11_refusal 23 = .ok (.aload_n 0, 1) := by decide +kernel
theorem dX11_refusal_24 : decode cX11_refusal 24 = .ok (.getfield 67, 3) := by decide +kernel
theorem dX11_refusal_27 : decode cX11_refusal 27 = .ok (.invokevirtual 215, 3) := by decide +kernel
theorem dX11_refusal_30 : decode cX11_refusal 30 = .ok (.aload_n 0, 1) := by decide +kernel
theorem dX11_refusal_31 : decode cX11_refusal 31 = .ok (.invokevirtual 222, 3) := by decide +kernel
theorem dX11_refusal_34 : decode cX11_refusal 34 = .ok (.aload_n 0, 1) := by decide +kernel
theorem dX11_refusal_35 : decode cX11_refusal 35 = .ok (.getfield 198, 3) := by decide +kernel
theorem dX11_refusal_38 : decode cX11_refusal 38 = .ok (.ifCond .lt 8, 3) := by decide +kernel
theorem dX11_refusal_41 : decode cX11_refusal 41 = .ok (.bipush (-3), 2) := by decide +kernel
theorem dX11_refusal_43 : decode cX11_refusal 43 = .ok (.goto 5, 3) := by decide +kernel
theorem dX11_refusal_46 : decode cX11_refusal 46 = .ok (.bipush (-6), 2) := by decide +kernel
theorem dX11_refusal_48 : decode cX11_refusal 48 = .ok (.ireturn, 1) := by decide +kernel
theorem dX11_judge_0 : decode cX11_judge 0 = .ok (.iload_n 1, 1) := by decide +kernel
theorem dX11_judge_1 : decode cX11_judge 1 = .ok (.i2l, 1) := by decide +kernel
theorem dX11_judge_2 : decode cX11_judge 2 = .ok (.lconst 0, 1) := by decide +kernel
theorem dX11_judge_3 : decode cX11_judge 3 = .ok (.ldc2_w 225, 3) := by decide +kernel
theorem dX11_judge_6 : decode cX11_judge 6 = .ok (.invokestatic 95, 3) := by decide +kernel
theorem dX11_judge_9 : decode cX11_judge 9 = .ok (.ifCond .ne 6, 3) := by decide +kernel
theorem dX11_judge_12 : decode cX11_judge 12 = .ok (.bipush (-2), 2) := by decide +kernel
theorem dX11_judge_14 : decode cX11_judge 14 = .ok (.ireturn, 1) := by decide +kernel
theorem dX11_judge_15 : decode cX11_judge 15 = .ok (.aload_n 0, 1) := by decide +kernel
theorem dX11_judge_16 : decode cX11_judge 16 = .ok (.invokevirtual 227, 3) := by decide +kernel
theorem dX11_judge_19 : decode cX11_judge 19 = .ok (.istore_n 2, 1) := by decide +kernel
theorem dX11_judge_20 : decode cX11_judge 20 = .ok (.iload_n 2, 1) := by decide +kernel
theorem dX11_judge_21 : decode cX11_judge 21 = .ok (.bipush (-5), 2) := by decide +kernel
theorem dX11_judge_23 : decode cX11_judge 23 = .ok (.if_icmp .eq 14, 3) := by decide +kernel
theorem dX11_judge_26 : decode cX11_judge 26 = .ok (.iload_n 1, 1) := by decide +kernel
theorem dX11_judge_27 : decode cX11_judge 27 = .ok (.iconst 1, 1) := by decide +kernel
theorem dX11_judge_28 : decode cX11_judge 28 = .ok (.if_icmp .le 11, 3) := by decide +kernel
theorem dX11_judge_31 : decode cX11_judge 31 = .ok (.iload_n 2, 1) := by decide +kernel
theorem dX11_judge_32 : decode cX11_judge 32 = .ok (.bipush (-3), 2) := by decide +kernel
theorem dX11_judge_34 : decode cX11_judge 34 = .ok (.if_icmp .ne 5, 3) := by decide +kernel
theorem dX11_judge_37 : decode cX11_judge 37 = .ok (.iload_n 2, 1) := by decide +kernel
theorem dX11_judge_38 : decode cX11_judge 38 = .ok (.ireturn, 1) := by decide +kernel
theorem dX11_judge_39 : decode cX11_judge 39 = .ok (.iload_n 1, 1) := by decide +kernel
theorem dX11_judge_40 : decode cX11_judge 40 = .ok (.ifCond .ne 10, 3) := by decide +kernel
theorem dX11_judge_43 : decode cX11_judge 43 = .ok (.aload_n 0, 1) := by decide +kernel
theorem dX11_judge_44 : decode cX11_judge 44 = .ok (.getfield 198, 3) := by decide +kernel
theorem dX11_judge_47 : decode cX11_judge 47 = .ok (.goto 19, 3) := by decide +kernel
theorem dX11_judge_50 : decode cX11_judge 50 = .ok (.iload_n 1, 1) := by decide +kernel
theorem dX11_judge_51 : decode cX11_judge 51 = .ok (.iconst 1, 1) := by decide +kernel
theorem dX11_judge_52 : decode cX11_judge 52 = .ok (.if_icmp .ne 10, 3) := by decide +kernel
theorem dX11_judge_55 : decode cX11_judge 55 = .ok (.aload_n 0, 1) := by decide +kernel
theorem dX11_judge_56 : decode cX11_judge 56 = .ok (.getfield 201, 3) := by decide +kernel
theorem dX11_judge_59 : decode cX11_judge 59 = .ok (.goto 7, 3) := by decide +kernel
theorem dX11_judge_62 : decode cX11_judge 62 = .ok (.aload_n 0, 1) := by decide +kernel
theorem dX11_judge_63 : decode cX11_judge 63 = .ok (.getfield 178, 3) := by decide +kernel
theorem dX11_judge_66 : decode cX11_judge 66 = .ok (.ireturn, 1) := by decide +kernel
theorem dX11_kinds_0 : decode cX11_kinds 0 = .ok (.iload_n 1, 1) := by decide +kernel
theorem dX11_kinds_1 : decode cX11_kinds 1 = .ok (.i2l, 1) := by decide +kernel
theorem dX11_kinds_2 : decode cX11_kinds 2 = .ok (.lconst 0, 1) := by decide +kernel
theorem dX11_kinds_3 : decode cX11_kinds 3 = .ok (.ldc2_w 93, 3) := by decide +kernel
theorem dX11_kinds_6 : decode cX11_kinds 6 = .ok (.invokestatic 95, 3) := by decide +kernel
theorem dX11_kinds_9 : decode cX11_kinds 9 = .ok (.ifCond .ne 6, 3) := by decide +kernel
theorem dX11_kinds_12 : decode cX11_kinds 12 = .ok (.bipush (-2), 2) := by decide +kernel
theorem dX11_kinds_14 : decode cX11_kinds 14 = .ok (.ireturn, 1) := by decide +kernel
theorem dX11_kinds_15 : decode cX11_kinds 15 = .ok (.aload_n 0, 1) := by decide +kernel
theorem dX11_kinds_16 : decode cX11_kinds 16 = .ok (.invokevirtual 227, 3) := by decide +kernel
theorem dX11_kinds_19 : decode cX11_kinds 19 = .ok (.istore_n 2, 1) := by decide +kernel
theorem dX11_kinds_20 : decode cX11_kinds 20 = .ok (.iload_n 2, 1) := by decide +kernel
theorem dX11_kinds_21 : decode cX11_kinds 21 = .ok (.bipush (-6), 2) := by decide +kernel
theorem dX11_kinds_23 : decode cX11_kinds 23 = .ok (.if_icmp .eq 7, 3) := by decide +kernel
theorem dX11_kinds_26 : decode cX11_kinds 26 = .ok (.iload_n 2, 1) := by decide +kernel
theorem dX11_kinds_27 : decode cX11_kinds 27 = .ok (.goto 9, 3) := by decide +kernel
theorem dX11_kinds_30 : decode cX11_kinds 30 = .ok (.aload_n 0, 1) := by decide +kernel
theorem dX11_kinds_31 : decode cX11_kinds 31 = .ok (.getfield 61, 3) := by decide +kernel
theorem dX11_kinds_34 : decode cX11_kinds 34 = .ok (.iload_n 1, 1) := by decide +kernel
theorem dX11_kinds_35 : decode cX11_kinds 35 = .ok (.iaload, 1) := by decide +kernel
theorem dX11_kinds_36 : decode cX11_kinds 36 = .ok (.ireturn, 1) := by decide +kernel
theorem dX11_behind_0 : decode cX11_behind 0 = .ok (.aload_n 0, 1) := by decide +kernel
theorem dX11_behind_1 : decode cX11_behind 1 = .ok (.iload_n 1, 1) := by decide +kernel
theorem dX11_behind_2 : decode cX11_behind 2 = .ok (.invokevirtual 118, 3) := by decide +kernel
theorem dX11_behind_5 : decode cX11_behind 5 = .ok (.ifCond .ne 5, 3) := by decide +kernel
theorem dX11_behind_8 : decode cX11_behind 8 = .ok (.iconst (-1), 1) := by decide +kernel
theorem dX11_behind_9 : decode cX11_behind 9 = .ok (.ireturn, 1) := by decide +kernel
theorem dX11_behind_10 : decode cX11_behind 10 = .ok (.iload_n 2, 1) := by decide +kernel
theorem dX11_behind_11 : decode cX11_behind 11 = .ok (.i2l, 1) := by decide +kernel
theorem dX11_behind_12 : decode cX11_behind 12 = .ok (.lconst 0, 1) := by decide +kernel
theorem dX11_behind_13 : decode cX11_behind 13 = .ok (.ldc2_w 93, 3) := by decide +kernel
theorem dX11_behind_16 : decode cX11_behind 16 = .ok (.invokestatic 95, 3) := by decide +kernel
theorem dX11_behind_19 : decode cX11_behind 19 = .ok (.ifCond .ne 6, 3) := by decide +kernel
theorem dX11_behind_22 : decode cX11_behind 22 = .ok (.bipush (-2), 2) := by decide +kernel
theorem dX11_behind_24 : decode cX11_behind 24 = .ok (.ireturn, 1) := by decide +kernel
theorem dX11_behind_25 : decode cX11_behind 25 = .ok (.aload_n 0, 1) := by decide +kernel
theorem dX11_behind_26 : decode cX11_behind 26 = .ok (.invokevirtual 227, 3) := by decide +kernel
theorem dX11_behind_29 : decode cX11_behind 29 = .ok (.istore_n 3, 1) := by decide +kernel
theorem dX11_behind_30 : decode cX11_behind 30 = .ok (.iload_n 3, 1) := by decide +kernel
theorem dX11_behind_31 : decode cX11_behind 31 = .ok (.bipush (-6), 2) := by decide +kernel
theorem dX11_behind_33 : decode cX11_behind 33 = .ok (.if_icmp .eq 5, 3) := by decide +kernel
theorem dX11_behind_36 : decode cX11_behind 36 = .ok (.iload_n 3, 1) := by decide +kernel
theorem dX11_behind_37 : decode cX11_behind 37 = .ok (.ireturn, 1) := by decide +kernel
theorem dX11_behind_38 : decode cX11_behind 38 = .ok (.aload_n 0, 1) := by decide +kernel
theorem dX11_behind_39 : decode cX11_behind 39 = .ok (.getfield 67, 3) := by decide +kernel
theorem dX11_behind_42 : decode cX11_behind 42 = .ok (.bipush 65, 2) := by decide +kernel
theorem dX11_behind_44 : decode cX11_behind 44 = .ok (.iaload, 1) := by decide +kernel
theorem dX11_behind_45 : decode cX11_behind 45 = .ok (.iload_n 1, 1) := by decide +kernel
theorem dX11_behind_46 : decode cX11_behind 46 = .ok (.ishr, 1) := by decide +kernel
theorem dX11_behind_47 : decode cX11_behind 47 = .ok (.iconst 1, 1) := by decide +kernel
theorem dX11_behind_48 : decode cX11_behind 48 = .ok (.iand, 1) := by decide +kernel
theorem dX11_behind_49 : decode cX11_behind 49 = .ok (.ifCond .ne 7, 3) := by decide +kernel
theorem dX11_behind_52 : decode cX11_behind 52 = .ok (.iconst (-1), 1) := by decide +kernel
theorem dX11_behind_53 : decode cX11_behind 53 = .ok (.goto 13, 3) := by decide +kernel
theorem dX11_behind_56 : decode cX11_behind 56 = .ok (.aload_n 0, 1) := by decide +kernel
theorem dX11_behind_57 : decode cX11_behind 57 = .ok (.getfield 67, 3) := by decide +kernel
theorem dX11_behind_60 : decode cX11_behind 60 = .ok (.iconst 5, 1) := by decide +kernel
theorem dX11_behind_61 : decode cX11_behind 61 = .ok (.iload_n 2, 1) := by decide +kernel
theorem dX11_behind_62 : decode cX11_behind 62 = .ok (.imul, 1) := by decide +kernel
theorem dX11_behind_63 : decode cX11_behind 63 = .ok (.iload_n 1, 1) := by decide +kernel
theorem dX11_behind_64 : decode cX11_behind 64 = .ok (.iadd, 1) := by decide +kernel
theorem dX11_behind_65 : decode cX11_behind 65 = .ok (.iaload, 1) := by decide +kernel
theorem dX11_behind_66 : decode cX11_behind 66 = .ok (.ireturn, 1) := by decide +kernel
theorem dX11_fat_0 : decode cX11_fat 0 = .ok (.aload_n 0, 1) := by decide +kernel
theorem dX11_fat_1 : decode cX11_fat 1 = .ok (.iload_n 1, 1) := by decide +kernel
theorem dX11_fat_2 : decode cX11_fat 2 = .ok (.invokevirtual 118, 3) := by decide +kernel
theorem dX11_fat_5 : decode cX11_fat 5 = .ok (.ifCond .eq 10, 3) := by decide +kernel
theorem dX11_fat_8 : decode cX11_fat 8 = .ok (.iload_n 2, 1) := by decide +kernel
theorem dX11_fat_9 : decode cX11_fat 9 = .ok (.invokestatic 122, 3) := by decide +kernel
theorem dX11_fat_12 : decode cX11_fat 12 = .ok (.ifCond .ne 5, 3) := by decide +kernel
theorem dX11_fat_15 : decode cX11_fat 15 = .ok (.iconst (-1), 1) := by decide +kernel
theorem dX11_fat_16 : decode cX11_fat 16 = .ok (.ireturn, 1) := by decide +kernel
theorem dX11_fat_17 : decode cX11_fat 17 = .ok (.aload_n 0, 1) := by decide +kernel
theorem dX11_fat_18 : decode cX11_fat 18 = .ok (.invokevirtual 227, 3) := by decide +kernel
theorem dX11_fat_21 : decode cX11_fat 21 = .ok (.istore_n 3, 1) := by decide +kernel
theorem dX11_fat_22 : decode cX11_fat 22 = .ok (.iload_n 3, 1) := by decide +kernel
theorem dX11_fat_23 : decode cX11_fat 23 = .ok (.bipush (-6), 2) := by decide +kernel
theorem dX11_fat_25 : decode cX11_fat 25 = .ok (.if_icmp .eq 5, 3) := by decide +kernel
theorem dX11_fat_28 : decode cX11_fat 28 = .ok (.iload_n 3, 1) := by decide +kernel
theorem dX11_fat_29 : decode cX11_fat 29 = .ok (.ireturn, 1) := by decide +kernel
theorem dX11_fat_30 : decode cX11_fat 30 = .ok (.aload_n 0, 1) := by decide +kernel
theorem dX11_fat_31 : decode cX11_fat 31 = .ok (.getfield 67, 3) := by decide +kernel
theorem dX11_fat_34 : decode cX11_fat 34 = .ok (.bipush 65, 2) := by decide +kernel
theorem dX11_fat_36 : decode cX11_fat 36 = .ok (.iaload, 1) := by decide +kernel
theorem dX11_fat_37 : decode cX11_fat 37 = .ok (.iload_n 1, 1) := by decide +kernel
theorem dX11_fat_38 : decode cX11_fat 38 = .ok (.ishr, 1) := by decide +kernel
theorem dX11_fat_39 : decode cX11_fat 39 = .ok (.iconst 1, 1) := by decide +kernel
theorem dX11_fat_40 : decode cX11_fat 40 = .ok (.iand, 1) := by decide +kernel
theorem dX11_fat_41 : decode cX11_fat 41 = .ok (.ifCond .ne 7, 3) := by decide +kernel
theorem dX11_fat_44 : decode cX11_fat 44 = .ok (.iconst (-1), 1) := by decide +kernel
theorem dX11_fat_45 : decode cX11_fat 45 = .ok (.goto 16, 3) := by decide +kernel
theorem dX11_fat_48 : decode cX11_fat 48 = .ok (.aload_n 0, 1) := by decide +kernel
theorem dX11_fat_49 : decode cX11_fat 49 = .ok (.getfield 67, 3) := by decide +kernel
theorem dX11_fat_52 : decode cX11_fat 52 = .ok (.bipush 25, 2) := by decide +kernel
theorem dX11_fat_54 : decode cX11_fat 54 = .ok (.iload_n 1, 1) := by decide +kernel
theorem dX11_fat_55 : decode cX11_fat 55 = .ok (.iload_n 2, 1) := by decide +kernel
theorem dX11_fat_56 : decode cX11_fat 56 = .ok (.invokestatic 110, 3) := by decide +kernel
theorem dX11_fat_59 : decode cX11_fat 59 = .ok (.iadd, 1) := by decide +kernel
theorem dX11_fat_60 : decode cX11_fat 60 = .ok (.iaload, 1) := by decide +kernel
theorem dX11_fat_61 : decode cX11_fat 61 = .ok (.ireturn, 1) := by decide +kernel
theorem dX11_sky_0 : decode cX11_sky 0 = .ok (.iload_n 1, 1) := by decide +kernel
theorem dX11_sky_1 : decode cX11_sky 1 = .ok (.i2l, 1) := by decide +kernel
theorem dX11_sky_2 : decode cX11_sky 2 = .ok (.lconst 0, 1) := by decide +kernel
theorem dX11_sky_3 : decode cX11_sky 3 = .ok (.lconst 1, 1) := by decide +kernel
theorem dX11_sky_4 : decode cX11_sky 4 = .ok (.invokestatic 95, 3) := by decide +kernel
theorem dX11_sky_7 : decode cX11_sky 7 = .ok (.ifCond .ne 6, 3) := by decide +kernel
theorem dX11_sky_10 : decode cX11_sky 10 = .ok (.bipush (-2), 2) := by decide +kernel
theorem dX11_sky_12 : decode cX11_sky 12 = .ok (.ireturn, 1) := by decide +kernel
theorem dX11_sky_13 : decode cX11_sky 13 = .ok (.aload_n 0, 1) := by decide +kernel
theorem dX11_sky_14 : decode cX11_sky 14 = .ok (.invokevirtual 227, 3) := by decide +kernel
theorem dX11_sky_17 : decode cX11_sky 17 = .ok (.istore_n 2, 1) := by decide +kernel
theorem dX11_sky_18 : decode cX11_sky 18 = .ok (.iload_n 2, 1) := by decide +kernel
theorem dX11_sky_19 : decode cX11_sky 19 = .ok (.bipush (-6), 2) := by decide +kernel
theorem dX11_sky_21 : decode cX11_sky 21 = .ok (.if_icmp .eq 7, 3) := by decide +kernel
theorem dX11_sky_24 : decode cX11_sky 24 = .ok (.iload_n 2, 1) := by decide +kernel
theorem dX11_sky_25 : decode cX11_sky 25 = .ok (.goto 18, 3) := by decide +kernel
theorem dX11_sky_28 : decode cX11_sky 28 = .ok (.iload_n 1, 1) := by decide +kernel
theorem dX11_sky_29 : decode cX11_sky 29 = .ok (.ifCond .ne 10, 3) := by decide +kernel
theorem dX11_sky_32 : decode cX11_sky 32 = .ok (.aload_n 0, 1) := by decide +kernel
theorem dX11_sky_33 : decode cX11_sky 33 = .ok (.getfield 181, 3) := by decide +kernel
theorem dX11_sky_36 : decode cX11_sky 36 = .ok (.goto 7, 3) := by decide +kernel
theorem dX11_sky_39 : decode cX11_sky 39 = .ok (.aload_n 0, 1) := by decide +kernel
theorem dX11_sky_40 : decode cX11_sky 40 = .ok (.getfield 184, 3) := by decide +kernel
theorem dX11_sky_43 : decode cX11_sky 43 = .ok (.ireturn, 1) := by decide +kernel
theorem dX11_done_0 : decode cX11_done 0 = .ok (.aload_n 0, 1) := by decide +kernel
theorem dX11_done_1 : decode cX11_done 1 = .ok (.invokevirtual 227, 3) := by decide +kernel
theorem dX11_done_4 : decode cX11_done 4 = .ok (.istore_n 1, 1) := by decide +kernel
theorem dX11_done_5 : decode cX11_done 5 = .ok (.iload_n 1, 1) := by decide +kernel
theorem dX11_done_6 : decode cX11_done 6 = .ok (.bipush (-6), 2) := by decide +kernel
theorem dX11_done_8 : decode cX11_done 8 = .ok (.if_icmp .eq 5, 3) := by decide +kernel
theorem dX11_done_11 : decode cX11_done 11 = .ok (.iload_n 1, 1) := by decide +kernel
theorem dX11_done_12 : decode cX11_done 12 = .ok (.ireturn, 1) := by decide +kernel
theorem dX11_done_13 : decode cX11_done 13 = .ok (.aload_n 0, 1) := by decide +kernel
theorem dX11_done_14 : decode cX11_done 14 = .ok (.invokevirtual 219, 3) := by decide +kernel
theorem dX11_done_17 : decode cX11_done 17 = .ok (.aload_n 0, 1) := by decide +kernel
theorem dX11_done_18 : decode cX11_done 18 = .ok (.iconst 0, 1) := by decide +kernel
theorem dX11_done_19 : decode cX11_done 19 = .ok (.putfield 139, 3) := by decide +kernel
theorem dX11_done_22 : decode cX11_done 22 = .ok (.aload_n 0, 1) := by decide +kernel
theorem dX11_done_23 : decode cX11_done 23 = .ok (.getfield 146, 3) := by decide +kernel
theorem dX11_done_26 : decode cX11_done 26 = .ok (.ireturn, 1) := by decide +kernel
theorem dX11_lasts_0 : decode cX11_lasts 0 = .ok (.iload_n 2, 1) := by decide +kernel
theorem dX11_lasts_1 : decode cX11_lasts 1 = .ok (.istore 5, 2) := by decide +kernel
theorem dX11_lasts_3 : decode cX11_lasts 3 = .ok (.iconst 0, 1) := by decide +kernel
theorem dX11_lasts_4 : decode cX11_lasts 4 = .ok (.istore 6, 2) := by decide +kernel
theorem dX11_lasts_6 : decode cX11_lasts 6 = .ok (.iload_n 3, 1) := by decide +kernel
theorem dX11_lasts_7 : decode cX11_lasts 7 = .ok (.istore 7, 2) := by decide +kernel
theorem dX11_lasts_9 : decode cX11_lasts 9 = .ok (.iload 6, 2) := by decide +kernel
theorem dX11_lasts_11 : decode cX11_lasts 11 = .ok (.sipush 999, 3) := by decide +kernel
theorem dX11_lasts_14 : decode cX11_lasts 14 = .ok (.if_icmp .gt 53, 3) := by decide +kernel
theorem dX11_lasts_17 : decode cX11_lasts 17 = .ok (.iinc 7 1, 3) := by decide +kernel
theorem dX11_lasts_20 : decode cX11_lasts 20 = .ok (.iload 7, 2) := by decide +kernel
theorem dX11_lasts_22 : decode cX11_lasts 22 = .ok (.bipush 10, 2) := by decide +kernel
theorem dX11_lasts_24 : decode cX11_lasts 24 = .ok (.irem, 1) := by decide +kernel
theorem dX11_lasts_25 : decode cX11_lasts 25 = .ok (.ifCond .ne 17, 3) := by decide +kernel
theorem dX11_lasts_28 : decode cX11_lasts 28 = .ok (.iload 5, 2) := by decide +kernel
theorem dX11_lasts_30 : decode cX11_lasts 30 = .ok (.aload_n 0, 1) := by decide +kernel
theorem dX11_lasts_31 : decode cX11_lasts 31 = .ok (.iload_n 1, 1) := by decide +kernel
theorem dX11_lasts_32 : decode cX11_lasts 32 = .ok (.invokevirtual 172, 3) := by decide +kernel
theorem dX11_lasts_35 : decode cX11_lasts 35 = .ok (.isub, 1) := by decide +kernel
theorem dX11_lasts_36 : decode cX11_lasts 36 = .ok (.invokestatic 169, 3) := by decide +kernel
theorem dX11_lasts_39 : decode cX11_lasts 39 = .ok (.goto 5, 3) := by decide +kernel
theorem dX11_lasts_42 : decode cX11_lasts 42 = .ok (.iload 5, 2) := by decide +kernel
theorem dX11_lasts_44 : decode cX11_lasts 44 = .ok (.istore 5, 2) := by decide +kernel
theorem dX11_lasts_46 : decode cX11_lasts 46 = .ok (.iload 5, 2) := by decide +kernel
theorem dX11_lasts_48 : decode cX11_lasts 48 = .ok (.ifCond .eq 10, 3) := by decide +kernel
theorem dX11_lasts_51 : decode cX11_lasts 51 = .ok (.iload 4, 2) := by decide +kernel
theorem dX11_lasts_53 : decode cX11_lasts 53 = .ok (.iload 5, 2) := by decide +kernel
theorem dX11_lasts_55 : decode cX11_lasts 55 = .ok (.if_icmp .le 6, 3) := by decide +kernel
theorem dX11_lasts_58 : decode cX11_lasts 58 = .ok (.iload 6, 2) := by decide +kernel
theorem dX11_lasts_60 : decode cX11_lasts 60 = .ok (.ireturn, 1) := by decide +kernel
theorem dX11_lasts_61 : decode cX11_lasts 61 = .ok (.iinc 6 1, 3) := by decide +kernel
theorem dX11_lasts_64 : decode cX11_lasts 64 = .ok (.goto (-55), 3) := by decide +kernel
theorem dX11_lasts_67 : decode cX11_lasts 67 = .ok (.iload 6, 2) := by decide +kernel
theorem dX11_lasts_69 : decode cX11_lasts 69 = .ok (.ireturn, 1) := by decide +kernel
theorem dX11_clean_0 : decode cX11_clean 0 = .ok (.aload_n 0, 1) := by decide +kernel
theorem dX11_clean_1 : decode cX11_clean 1 = .ok (.iload_n 1, 1) := by decide +kernel
theorem dX11_clean_2 : decode cX11_clean 2 = .ok (.invokevirtual 118, 3) := by decide +kernel
theorem dX11_clean_5 : decode cX11_clean 5 = .ok (.ifCond .ne 5, 3) := by decide +kernel
theorem dX11_clean_8 : decode cX11_clean 8 = .ok (.iconst (-1), 1) := by decide +kernel
theorem dX11_clean_9 : decode cX11_clean 9 = .ok (.ireturn, 1) := by decide +kernel
theorem dX11_clean_10 : decode cX11_clean 10 = .ok (.aload_n 0, 1) := by decide +kernel
theorem dX11_clean_11 : decode cX11_clean 11 = .ok (.getfield 19, 3) := by decide +kernel
theorem dX11_clean_14 : decode cX11_clean 14 = .ok (.iload_n 1, 1) := by decide +kernel
theorem dX11_clean_15 : decode cX11_clean 15 = .ok (.iaload, 1) := by decide +kernel
theorem dX11_clean_16 : decode cX11_clean 16 = .ok (.istore_n 2, 1) := by decide +kernel
theorem dX11_clean_17 : decode cX11_clean 17 = .ok (.iload_n 2, 1) := by decide +kernel
theorem dX11_clean_18 : decode cX11_clean 18 = .ok (.ifCond .ge 8, 3) := by decide +kernel
theorem dX11_clean_21 : decode cX11_clean 21 = .ok (.bipush (-3), 2) := by decide +kernel
theorem dX11_clean_23 : decode cX11_clean 23 = .ok (.goto 30, 3) := by decide +kernel
theorem dX11_clean_26 : decode cX11_clean 26 = .ok (.aload_n 0, 1) := by decide +kernel
theorem dX11_clean_27 : decode cX11_clean 27 = .ok (.iload_n 2, 1) := by decide +kernel
theorem dX11_clean_28 : decode cX11_clean 28 = .ok (.aload_n 0, 1) := by decide +kernel
theorem dX11_clean_29 : decode cX11_clean 29 = .ok (.getfield 25, 3) := by decide +kernel
theorem dX11_clean_32 : decode cX11_clean 32 = .ok (.iload_n 1, 1) := by decide +kernel
theorem dX11_clean_33 : decode cX11_clean 33 = .ok (.iload_n 2, 1) := by decide +kernel
theorem dX11_clean_34 : decode cX11_clean 34 = .ok (.invokestatic 110, 3) := by decide +kernel
theorem dX11_clean_37 : decode cX11_clean 37 = .ok (.iaload, 1) := by decide +kernel
theorem dX11_clean_38 : decode cX11_clean 38 = .ok (.aload_n 0, 1) := by decide +kernel
theorem dX11_clean_39 : decode cX11_clean 39 = .ok (.getfield 22, 3) := by decide +kernel
theorem dX11_clean_42 : decode cX11_clean 42 = .ok (.iload_n 1, 1) := by decide +kernel
theorem dX11_clean_43 : decode cX11_clean 43 = .ok (.iaload, 1) := by decide +kernel
theorem dX11_clean_44 : decode cX11_clean 44 = .ok (.aload_n 0, 1) := by decide +kernel
theorem dX11_clean_45 : decode cX11_clean 45 = .ok (.iload_n 1, 1) := by decide +kernel
theorem dX11_clean_46 : decode cX11_clean 46 = .ok (.iload_n 2, 1) := by decide +kernel
theorem dX11_clean_47 : decode cX11_clean 47 = .ok (.invokevirtual 175, 3) := by decide +kernel
theorem dX11_clean_50 : decode cX11_clean 50 = .ok (.invokevirtual 230, 3) := by decide +kernel
theorem dX11_clean_53 : decode cX11_clean 53 = .ok (.ireturn, 1) := by decide +kernel
theorem dX11_grind_0 : decode cX11_grind 0 = .ok (.aload_n 0, 1) := by decide +kernel
theorem dX11_grind_1 : decode cX11_grind 1 = .ok (.iload_n 1, 1) := by decide +kernel
theorem dX11_grind_2 : decode cX11_grind 2 = .ok (.invokevirtual 118, 3) := by decide +kernel
theorem dX11_grind_5 : decode cX11_grind 5 = .ok (.ifCond .eq 10, 3) := by decide +kernel
theorem dX11_grind_8 : decode cX11_grind 8 = .ok (.iload_n 2, 1) := by decide +kernel
theorem dX11_grind_9 : decode cX11_grind 9 = .ok (.invokestatic 122, 3) := by decide +kernel
theorem dX11_grind_12 : decode cX11_grind 12 = .ok (.ifCond .ne 5, 3) := by decide +kernel
theorem dX11_grind_15 : decode cX11_grind 15 = .ok (.iconst (-1), 1) := by decide +kernel
theorem dX11_grind_16 : decode cX11_grind 16 = .ok (.ireturn, 1) := by decide +kernel
theorem dX11_grind_17 : decode cX11_grind 17 = .ok (.iload_n 3, 1) := by decide +kernel
theorem dX11_grind_18 : decode cX11_grind 18 = .ok (.i2l, 1) := by decide +kernel
theorem dX11_grind_19 : decode cX11_grind 19 = .ok (.lconst 0, 1) := by decide +kernel
theorem dX11_grind_20 : decode cX11_grind 20 = .ok (.ldc2_w 129, 3) := by decide +kernel
theorem dX11_grind_23 : decode cX11_grind 23 = .ok (.invokestatic 95, 3) := by decide +kernel
theorem dX11_grind_26 : decode cX11_grind 26 = .ok (.ifCond .ne 6, 3) := by decide +kernel
theorem dX11_grind_29 : decode cX11_grind 29 = .ok (.bipush (-2), 2) := by decide +kernel
theorem dX11_grind_31 : decode cX11_grind 31 = .ok (.ireturn, 1) := by decide +kernel
theorem dX11_grind_32 : decode cX11_grind 32 = .ok (.aload_n 0, 1) := by decide +kernel
theorem dX11_grind_33 : decode cX11_grind 33 = .ok (.iload_n 1, 1) := by decide +kernel
theorem dX11_grind_34 : decode cX11_grind 34 = .ok (.iload_n 2, 1) := by decide +kernel
theorem dX11_grind_35 : decode cX11_grind 35 = .ok (.invokevirtual 175, 3) := by decide +kernel
theorem dX11_grind_38 : decode cX11_grind 38 = .ok (.istore 4, 2) := by decide +kernel
theorem dX11_grind_40 : decode cX11_grind 40 = .ok (.iconst 0, 1) := by decide +kernel
theorem dX11_grind_41 : decode cX11_grind 41 = .ok (.istore 5, 2) := by decide +kernel
theorem dX11_grind_43 : decode cX11_grind 43 = .ok (.iload 5, 2) := by decide +kernel
theorem dX11_grind_45 : decode cX11_grind 45 = .ok (.bipush 20, 2) := by decide +kernel
theorem dX11_grind_47 : decode cX11_grind 47 = .ok (.if_icmp .gt 68, 3) := by decide +kernel
theorem dX11_grind_50 : decode cX11_grind 50 = .ok (.aload_n 0, 1) := by decide +kernel
theorem dX11_grind_51 : decode cX11_grind 51 = .ok (.getfield 7, 3) := by decide +kernel
theorem dX11_grind_54 : decode cX11_grind 54 = .ok (.iload_n 1, 1) := by decide +kernel
theorem dX11_grind_55 : decode cX11_grind 55 = .ok (.iaload, 1) := by decide +kernel
theorem dX11_grind_56 : decode cX11_grind 56 = .ok (.iconst 3, 1) := by decide +kernel
theorem dX11_grind_57 : decode cX11_grind 57 = .ok (.iload 5, 2) := by decide +kernel
theorem dX11_grind_59 : decode cX11_grind 59 = .ok (.imul, 1) := by decide +kernel
theorem dX11_grind_60 : decode cX11_grind 60 = .ok (.isub, 1) := by decide +kernel
theorem dX11_grind_61 : decode cX11_grind 61 = .ok (.aload_n 0, 1) := by decide +kernel
theorem dX11_grind_62 : decode cX11_grind 62 = .ok (.getfield 90, 3) := by decide +kernel
theorem dX11_grind_65 : decode cX11_grind 65 = .ok (.if_icmp .lt 7, 3) := by decide +kernel
theorem dX11_grind_68 : decode cX11_grind 68 = .ok (.iconst 1, 1) := by decide +kernel
theorem dX11_grind_69 : decode cX11_grind 69 = .ok (.goto 4, 3) := by decide +kernel
theorem dX11_grind_72 : decode cX11_grind 72 = .ok (.iconst 0, 1) := by decide +kernel
theorem dX11_grind_73 : decode cX11_grind 73 = .ok (.istore 6, 2) := by decide +kernel
theorem dX11_grind_75 : decode cX11_grind 75 = .ok (.iload 6, 2) := by decide +kernel
theorem dX11_grind_77 : decode cX11_grind 77 = .ok (.ifCond .eq 32, 3) := by decide +kernel
theorem dX11_grind_80 : decode cX11_grind 80 = .ok (.aload_n 0, 1) := by decide +kernel
theorem dX11_grind_81 : decode cX11_grind 81 = .ok (.iload_n 2, 1) := by decide +kernel
theorem dX11_grind_82 : decode cX11_grind 82 = .ok (.aload_n 0, 1) := by decide +kernel
theorem dX11_grind_83 : decode cX11_grind 83 = .ok (.getfield 28, 3) := by decide +kernel
theorem dX11_grind_86 : decode cX11_grind 86 = .ok (.iload_n 2, 1) := by decide +kernel
theorem dX11_grind_87 : decode cX11_grind 87 = .ok (.iaload, 1) := by decide +kernel
theorem dX11_grind_88 : decode cX11_grind 88 = .ok (.iconst 0, 1) := by decide +kernel
theorem dX11_grind_89 : decode cX11_grind 89 = .ok (.iload 4, 2) := by decide +kernel
theorem dX11_grind_91 : decode cX11_grind 91 = .ok (.iconst 3, 1) := by decide +kernel
theorem dX11_grind_92 : decode cX11_grind 92 = .ok (.iload 5, 2) := by decide +kernel
theorem dX11_grind_94 : decode cX11_grind 94 = .ok (.imul, 1) := by decide +kernel
theorem dX11_grind_95 : decode cX11_grind 95 = .ok (.isub, 1) := by decide +kernel
theorem dX11_grind_96 : decode cX11_grind 96 = .ok (.invokestatic 169, 3) := by decide +kernel
theorem dX11_grind_99 : decode cX11_grind 99 = .ok (.invokevirtual 230, 3) := by decide +kernel
theorem dX11_grind_102 : decode cX11_grind 102 = .ok (.iload_n 3, 1) := by decide +kernel
theorem dX11_grind_103 : decode cX11_grind 103 = .ok (.if_icmp .lt 6, 3) := by decide +kernel
theorem dX11_grind_106 : decode cX11_grind 106 = .ok (.iload 5, 2) := by decide +kernel
theorem dX11_grind_108 : decode cX11_grind 108 = .ok (.ireturn, 1) := by decide +kernel
theorem dX11_grind_109 : decode cX11_grind 109 = .ok (.iinc 5 1, 3) := by decide +kernel
theorem dX11_grind_112 : decode cX11_grind 112 = .ok (.goto (-69), 3) := by decide +kernel
theorem dX11_grind_115 : decode cX11_grind 115 = .ok (.bipush (-6), 2) := by decide +kernel
theorem dX11_grind_117 : decode cX11_grind 117 = .ok (.ireturn, 1) := by decide +kernel
theorem dX11_lives_0 : decode cX11_lives 0 = .ok (.aload_n 0, 1) := by decide +kernel
theorem dX11_lives_1 : decode cX11_lives 1 = .ok (.iload_n 1, 1) := by decide +kernel
theorem dX11_lives_2 : decode cX11_lives 2 = .ok (.invokevirtual 118, 3) := by decide +kernel
theorem dX11_lives_5 : decode cX11_lives 5 = .ok (.ifCond .ne 5, 3) := by decide +kernel
theorem dX11_lives_8 : decode cX11_lives 8 = .ok (.iconst (-1), 1) := by decide +kernel
theorem dX11_lives_9 : decode cX11_lives 9 = .ok (.ireturn, 1) := by decide +kernel
theorem dX11_lives_10 : decode cX11_lives 10 = .ok (.iload_n 2, 1) := by decide +kernel
theorem dX11_lives_11 : decode cX11_lives 11 = .ok (.i2l, 1) := by decide +kernel
theorem dX11_lives_12 : decode cX11_lives 12 = .ok (.lconst 1, 1) := by decide +kernel
theorem dX11_lives_13 : decode cX11_lives 13 = .ok (.ldc2_w 106, 3) := by decide +kernel
theorem dX11_lives_16 : decode cX11_lives 16 = .ok (.invokestatic 95, 3) := by decide +kernel
theorem dX11_lives_19 : decode cX11_lives 19 = .ok (.ifCond .ne 6, 3) := by decide +kernel
theorem dX11_lives_22 : decode cX11_lives 22 = .ok (.bipush (-2), 2) := by decide +kernel
theorem dX11_lives_24 : decode cX11_lives 24 = .ok (.ireturn, 1) := by decide +kernel
theorem dX11_lives_25 : decode cX11_lives 25 = .ok (.aload_n 0, 1) := by decide +kernel
theorem dX11_lives_26 : decode cX11_lives 26 = .ok (.getfield 7, 3) := by decide +kernel
theorem dX11_lives_29 : decode cX11_lives 29 = .ok (.iload_n 1, 1) := by decide +kernel
theorem dX11_lives_30 : decode cX11_lives 30 = .ok (.iaload, 1) := by decide +kernel
theorem dX11_lives_31 : decode cX11_lives 31 = .ok (.aload_n 0, 1) := by decide +kernel
theorem dX11_lives_32 : decode cX11_lives 32 = .ok (.getfield 90, 3) := by decide +kernel
theorem dX11_lives_35 : decode cX11_lives 35 = .ok (.isub, 1) := by decide +kernel
theorem dX11_lives_36 : decode cX11_lives 36 = .ok (.istore_n 3, 1) := by decide +kernel
theorem dX11_lives_37 : decode cX11_lives 37 = .ok (.iload_n 3, 1) := by decide +kernel
theorem dX11_lives_38 : decode cX11_lives 38 = .ok (.ifCond .ge 7, 3) := by decide +kernel
theorem dX11_lives_41 : decode cX11_lives 41 = .ok (.iconst 0, 1) := by decide +kernel
theorem dX11_lives_42 : decode cX11_lives 42 = .ok (.goto 8, 3) := by decide +kernel
theorem dX11_lives_45 : decode cX11_lives 45 = .ok (.iload_n 3, 1) := by decide +kernel
theorem dX11_lives_46 : decode cX11_lives 46 = .ok (.iconst 3, 1) := by decide +kernel
theorem dX11_lives_47 : decode cX11_lives 47 = .ok (.iload_n 2, 1) := by decide +kernel
theorem dX11_lives_48 : decode cX11_lives 48 = .ok (.imul, 1) := by decide +kernel
theorem dX11_lives_49 : decode cX11_lives 49 = .ok (.idiv, 1) := by decide +kernel
theorem dX11_lives_50 : decode cX11_lives 50 = .ok (.ireturn, 1) := by decide +kernel
theorem dX11_layOrders_0 : decode cX11_layOrders 0 = .ok (.iconst 0, 1) := by decide +kernel
theorem dX11_layOrders_1 : decode cX11_layOrders 1 = .ok (.istore_n 3, 1) := by decide +kernel
theorem dX11_layOrders_2 : decode cX11_layOrders 2 = .ok (.iload_n 3, 1) := by decide +kernel
theorem dX11_layOrders_3 : decode cX11_layOrders 3 = .ok (.bipush 8, 2) := by decide +kernel
theorem dX11_layOrders_5 : decode cX11_layOrders 5 = .ok (.if_icmp .ge 121, 3) := by decide +kernel
theorem dX11_layOrders_8 : decode cX11_layOrders 8 = .ok (.iconst 0, 1) := by decide +kernel
theorem dX11_layOrders_9 : decode cX11_layOrders 9 = .ok (.istore 4, 2) := by decide +kernel
theorem dX11_layOrders_11 : decode cX11_layOrders 11 = .ok (.iload 4, 2) := by decide +kernel
theorem dX11_layOrders_13 : decode cX11_layOrders 13 = .ok (.iconst 5, 1) := by decide +kernel
theorem dX11_layOrders_14 : decode cX11_layOrders 14 = .ok (.if_icmp .ge 106, 3) := by decide +kernel
theorem dX11_layOrders_17 : decode cX11_layOrders 17 = .ok (.iload_n 1, 1) := by decide +kernel
theorem dX11_layOrders_18 : decode cX11_layOrders 18 = .ok (.iload_n 3, 1) := by decide +kernel
theorem dX11_layOrders_19 : decode cX11_layOrders 19 = .ok (.ishr, 1) := by decide +kernel
theorem dX11_layOrders_20 : decode cX11_layOrders 20 = .ok (.iconst 1, 1) := by decide +kernel
theorem dX11_layOrders_21 : decode cX11_layOrders 21 = .ok (.iand, 1) := by decide +kernel
theorem dX11_layOrders_22 : decode cX11_layOrders 22 = .ok (.iconst 1, 1) := by decide +kernel
theorem dX11_layOrders_23 : decode cX11_layOrders 23 = .ok (.if_icmp .ne 44, 3) := by decide +kernel
theorem dX11_layOrders_26 : decode cX11_layOrders 26 = .ok (.aload_n 0, 1) := by decide +kernel
theorem dX11_layOrders_27 : decode cX11_layOrders 27 = .ok (.iload 4, 2) := by decide +kernel
theorem dX11_layOrders_29 : decode cX11_layOrders 29 = .ok (.invokevirtual 118, 3) := by decide +kernel
theorem dX11_layOrders_32 : decode cX11_layOrders 32 = .ok (.ifCond .eq 35, 3) := by decide +kernel
theorem dX11_layOrders_35 : decode cX11_layOrders 35 = .ok (.aload_n 0, 1) := by decide +kernel
theorem dX11_layOrders_36 : decode cX11_layOrders 36 = .ok (.getfield 13, 3) := by decide +kernel
theorem dX11_layOrders_39 : decode cX11_layOrders 39 = .ok (.iload 4, 2) := by decide +kernel
theorem dX11_layOrders_41 : decode cX11_layOrders 41 = .ok (.iaload, 1) := by decide +kernel
theorem dX11_layOrders_42 : decode cX11_layOrders 42 = .ok (.aload_n 0, 1) := by decide +kernel
theorem dX11_layOrders_43 : decode cX11_layOrders 43 = .ok (.getfield 86, 3) := by decide +kernel
theorem dX11_layOrders_46 : decode cX11_layOrders 46 = .ok (.if_icmp .gt 21, 3) := by decide +kernel
theorem dX11_layOrders_49 : decode cX11_layOrders 49 = .ok (.aload_n 0, 1) := by decide +kernel
theorem dX11_layOrders_50 : decode cX11_layOrders 50 = .ok (.getfield 7, 3) := by decide +kernel
theorem dX11_layOrders_53 : decode cX11_layOrders 53 = .ok (.iload 4, 2) := by decide +kernel
theorem dX11_layOrders_55 : decode cX11_layOrders 55 = .ok (.iaload, 1) := by decide +kernel
theorem dX11_layOrders_56 : decode cX11_layOrders 56 = .ok (.aload_n 0, 1) := by decide +kernel
theorem dX11_layOrders_57 : decode cX11_layOrders 57 = .ok (.getfield 90, 3) := by decide +kernel
theorem dX11_layOrders_60 : decode cX11_layOrders 60 = .ok (.if_icmp .lt 7, 3) := by decide +kernel
theorem dX11_layOrders_63 : decode cX11_layOrders 63 = .ok (.iconst 1, 1) := by decide +kernel
theorem dX11_layOrders_64 : decode cX11_layOrders 64 = .ok (.goto 4, 3) := by decide +kernel
theorem dX11_layOrders_67 : decode cX11_layOrders 67 = .ok (.iconst 0, 1) := by decide +kernel
theorem dX11_layOrders_68 : decode cX11_layOrders 68 = .ok (.istore 5, 2) := by decide +kernel
theorem dX11_layOrders_70 : decode cX11_layOrders 70 = .ok (.aload_n 0, 1) := by decide +kernel
theorem dX11_layOrders_71 : decode cX11_layOrders 71 = .ok (.getfield 73, 3) := by decide +kernel
theorem dX11_layOrders_74 : decode cX11_layOrders 74 = .ok (.iload 4, 2) := by decide +kernel
theorem dX11_layOrders_76 : decode cX11_layOrders 76 = .ok (.iload_n 3, 1) := by decide +kernel
theorem dX11_layOrders_77 : decode cX11_layOrders 77 = .ok (.invokestatic 110, 3) := by decide +kernel
theorem dX11_layOrders_80 : decode cX11_layOrders 80 = .ok (.iload 5, 2) := by decide +kernel
theorem dX11_layOrders_82 : decode cX11_layOrders 82 = .ok (.ifCond .eq 30, 3) := by decide +kernel
theorem dX11_layOrders_85 : decode cX11_layOrders 85 = .ok (.aload_n 0, 1) := by decide +kernel
theorem dX11_layOrders_86 : decode cX11_layOrders 86 = .ok (.iload_n 3, 1) := by decide +kernel
theorem dX11_layOrders_87 : decode cX11_layOrders 87 = .ok (.aload_n 0, 1) := by decide +kernel
theorem dX11_layOrders_88 : decode cX11_layOrders 88 = .ok (.getfield 28, 3) := by decide +kernel
theorem dX11_layOrders_91 : decode cX11_layOrders 91 = .ok (.iload_n 3, 1) := by decide +kernel
theorem dX11_layOrders_92 : decode cX11_layOrders 92 = .ok (.iaload, 1) := by decide +kernel
theorem dX11_layOrders_93 : decode cX11_layOrders 93 = .ok (.iconst 0, 1) := by decide +kernel
theorem dX11_layOrders_94 : decode cX11_layOrders 94 = .ok (.aload_n 0, 1) := by decide +kernel
theorem dX11_layOrders_95 : decode cX11_layOrders 95 = .ok (.iload 4, 2) := by decide +kernel
theorem dX11_layOrders_97 : decode cX11_layOrders 97 = .ok (.iload_n 3, 1) := by decide +kernel
theorem dX11_layOrders_98 : decode cX11_layOrders 98 = .ok (.invokevirtual 175, 3) := by decide +kernel
theorem dX11_layOrders_101 : decode cX11_layOrders 101 = .ok (.invokevirtual 230, 3) := by decide +kernel
theorem dX11_layOrders_104 : decode cX11_layOrders 104 = .ok (.iload_n 2, 1) := by decide +kernel
theorem dX11_layOrders_105 : decode cX11_layOrders 105 = .ok (.if_icmp .lt 7, 3) := by decide +kernel
theorem dX11_layOrders_108 : decode cX11_layOrders 108 = .ok (.iconst 1, 1) := by decide +kernel
theorem dX11_layOrders_109 : decode cX11_layOrders 109 = .ok (.goto 4, 3) := by decide +kernel
theorem dX11_layOrders_112 : decode cX11_layOrders 112 = .ok (.iconst 0, 1) := by decide +kernel
theorem dX11_layOrders_113 : decode cX11_layOrders 113 = .ok (.bastore, 1) := by decide +kernel
theorem dX11_layOrders_114 : decode cX11_layOrders 114 = .ok (.iinc 4 1, 3) := by decide +kernel
theorem dX11_layOrders_117 : decode cX11_layOrders 117 = .ok (.goto (-106), 3) := by decide +kernel
theorem dX11_layOrders_120 : decode cX11_layOrders 120 = .ok (.iinc 3 1, 3) := by decide +kernel
theorem dX11_layOrders_123 : decode cX11_layOrders 123 = .ok (.goto (-121), 3) := by decide +kernel
theorem dX11_layOrders_126 : decode cX11_layOrders 126 = .ok (.iconst 0, 1) := by decide +kernel
theorem dX11_layOrders_127 : decode cX11_layOrders 127 = .ok (.istore_n 3, 1) := by decide +kernel
theorem dX11_layOrders_128 : decode cX11_layOrders 128 = .ok (.iload_n 3, 1) := by decide +kernel
theorem dX11_layOrders_129 : decode cX11_layOrders 129 = .ok (.bipush 32, 2) := by decide +kernel
theorem dX11_layOrders_131 : decode cX11_layOrders 131 = .ok (.if_icmp .ge 20, 3) := by decide +kernel
theorem dX11_layOrders_134 : decode cX11_layOrders 134 = .ok (.aload_n 0, 1) := by decide +kernel
theorem dX11_layOrders_135 : decode cX11_layOrders 135 = .ok (.getfield 70, 3) := by decide +kernel
theorem dX11_layOrders_138 : decode cX11_layOrders 138 = .ok (.sipush 256, 3) := by decide +kernel
theorem dX11_layOrders_141 : decode cX11_layOrders 141 = .ok (.iload_n 3, 1) := by decide +kernel
theorem dX11_layOrders_142 : decode cX11_layOrders 142 = .ok (.iadd, 1) := by decide +kernel
theorem dX11_layOrders_143 : decode cX11_layOrders 143 = .ok (.iconst 0, 1) := by decide +kernel
theorem dX11_layOrders_144 : decode cX11_layOrders 144 = .ok (.iastore, 1) := by decide +kernel
theorem dX11_layOrders_145 : decode cX11_layOrders 145 = .ok (.iinc 3 1, 3) := by decide +kernel
theorem dX11_layOrders_148 : decode cX11_layOrders 148 = .ok (.goto (-20), 3) := by decide +kernel
theorem dX11_layOrders_151 : decode cX11_layOrders 151 = .ok (.bipush 7, 2) := by decide +kernel
theorem dX11_layOrders_153 : decode cX11_layOrders 153 = .ok (.istore_n 3, 1) := by decide +kernel
theorem dX11_layOrders_154 : decode cX11_layOrders 154 = .ok (.iload_n 3, 1) := by decide +kernel
theorem dX11_layOrders_155 : decode cX11_layOrders 155 = .ok (.ifCond .lt 44, 3) := by decide +kernel
theorem dX11_layOrders_158 : decode cX11_layOrders 158 = .ok (.iconst 0, 1) := by decide +kernel
theorem dX11_layOrders_159 : decode cX11_layOrders 159 = .ok (.istore 4, 2) := by decide +kernel
theorem dX11_layOrders_161 : decode cX11_layOrders 161 = .ok (.iload 4, 2) := by decide +kernel
theorem dX11_layOrders_163 : decode cX11_layOrders 163 = .ok (.bipush 32, 2) := by decide +kernel
theorem dX11_layOrders_165 : decode cX11_layOrders 165 = .ok (.if_icmp .ge 28, 3) := by decide +kernel
theorem dX11_layOrders_168 : decode cX11_layOrders 168 = .ok (.aload_n 0, 1) := by decide +kernel
theorem dX11_layOrders_169 : decode cX11_layOrders 169 = .ok (.getfield 70, 3) := by decide +kernel
theorem dX11_layOrders_172 : decode cX11_layOrders 172 = .ok (.bipush 32, 2) := by decide +kernel
theorem dX11_layOrders_174 : decode cX11_layOrders 174 = .ok (.iload_n 3, 1) := by decide +kernel
theorem dX11_layOrders_175 : decode cX11_layOrders 175 = .ok (.imul, 1) := by decide +kernel
theorem dX11_layOrders_176 : decode cX11_layOrders 176 = .ok (.iload 4, 2) := by decide +kernel
theorem dX11_layOrders_178 : decode cX11_layOrders 178 = .ok (.iadd, 1) := by decide +kernel
theorem dX11_layOrders_179 : decode cX11_layOrders 179 = .ok (.aload_n 0, 1) := by decide +kernel
theorem dX11_layOrders_180 : decode cX11_layOrders 180 = .ok (.iload_n 3, 1) := by decide +kernel
theorem dX11_layOrders_181 : decode cX11_layOrders 181 = .ok (.iload 4, 2) := by decide +kernel
theorem dX11_layOrders_183 : decode cX11_layOrders 183 = .ok (.invokevirtual 234, 3) := by decide +kernel
theorem dX11_layOrders_186 : decode cX11_layOrders 186 = .ok (.iastore, 1) := by decide +kernel
theorem dX11_layOrders_187 : decode cX11_layOrders 187 = .ok (.iinc 4 1, 3) := by decide +kernel
theorem dX11_layOrders_190 : decode cX11_layOrders 190 = .ok (.goto (-29), 3) := by decide +kernel
theorem dX11_layOrders_193 : decode cX11_layOrders 193 = .ok (.iinc 3 (-1), 3) := by decide +kernel
theorem dX11_layOrders_196 : decode cX11_layOrders 196 = .ok (.goto (-42), 3) := by decide +kernel
theorem dX11_layOrders_199 : decode cX11_layOrders 199 = .ok (.return_, 1) := by decide +kernel
theorem dX11_withOn_0 : decode cX11_withOn 0 = .ok (.iload_n 2, 1) := by decide +kernel
theorem dX11_withOn_1 : decode cX11_withOn 1 = .ok (.iload_n 3, 1) := by decide +kernel
theorem dX11_withOn_2 : decode cX11_withOn 2 = .ok (.ishr, 1) := by decide +kernel
theorem dX11_withOn_3 : decode cX11_withOn 3 = .ok (.iconst 1, 1) := by decide +kernel
theorem dX11_withOn_4 : decode cX11_withOn 4 = .ok (.iand, 1) := by decide +kernel
theorem dX11_withOn_5 : decode cX11_withOn 5 = .ok (.ifCond .ne 20, 3) := by decide +kernel
theorem dX11_withOn_8 : decode cX11_withOn 8 = .ok (.aload_n 0, 1) := by decide +kernel
theorem dX11_withOn_9 : decode cX11_withOn 9 = .ok (.getfield 73, 3) := by decide +kernel
theorem dX11_withOn_12 : decode cX11_withOn 12 = .ok (.iload_n 3, 1) := by decide +kernel
theorem dX11_withOn_13 : decode cX11_withOn 13 = .ok (.iload_n 1, 1) := by decide +kernel
theorem dX11_withOn_14 : decode cX11_withOn 14 = .ok (.invokestatic 110, 3) := by decide +kernel
theorem dX11_withOn_17 : decode cX11_withOn 17 = .ok (.baload, 1) := by decide +kernel
theorem dX11_withOn_18 : decode cX11_withOn 18 = .ok (.ifCond .eq 7, 3) := by decide +kernel
theorem dX11_withOn_21 : decode cX11_withOn 21 = .ok (.iconst 1, 1) := by decide +kernel
theorem dX11_withOn_22 : decode cX11_withOn 22 = .ok (.goto 4, 3) := by decide +kernel
theorem dX11_withOn_25 : decode cX11_withOn 25 = .ok (.iconst 0, 1) := by decide +kernel
theorem dX11_withOn_26 : decode cX11_withOn 26 = .ok (.istore 4, 2) := by decide +kernel
theorem dX11_withOn_28 : decode cX11_withOn 28 = .ok (.iload 4, 2) := by decide +kernel
theorem dX11_withOn_30 : decode cX11_withOn 30 = .ok (.ifCond .eq 30, 3) := by decide +kernel
theorem dX11_withOn_33 : decode cX11_withOn 33 = .ok (.aload_n 0, 1) := by decide +kernel
theorem dX11_withOn_34 : decode cX11_withOn 34 = .ok (.getfield 34, 3) := by decide +kernel
theorem dX11_withOn_37 : decode cX11_withOn 37 = .ok (.iload_n 1, 1) := by decide +kernel
theorem dX11_withOn_38 : decode cX11_withOn 38 = .ok (.iaload, 1) := by decide +kernel
theorem dX11_withOn_39 : decode cX11_withOn 39 = .ok (.aload_n 0, 1) := by decide +kernel
theorem dX11_withOn_40 : decode cX11_withOn 40 = .ok (.getfield 70, 3) := by decide +kernel
theorem dX11_withOn_43 : decode cX11_withOn 43 = .ok (.bipush 32, 2) := by decide +kernel
theorem dX11_withOn_45 : decode cX11_withOn 45 = .ok (.iload_n 1, 1) := by decide +kernel
theorem dX11_withOn_46 : decode cX11_withOn 46 = .ok (.iconst 1, 1) := by decide +kernel
theorem dX11_withOn_47 : decode cX11_withOn 47 = .ok (.iadd, 1) := by decide +kernel
theorem dX11_withOn_48 : decode cX11_withOn 48 = .ok (.imul, 1) := by decide +kernel
theorem dX11_withOn_49 : decode cX11_withOn 49 = .ok (.iload_n 2, 1) := by decide +kernel
theorem dX11_withOn_50 : decode cX11_withOn 50 = .ok (.iconst 1, 1) := by decide +kernel
theorem dX11_withOn_51 : decode cX11_withOn 51 = .ok (.iload_n 3, 1) := by decide +kernel
theorem dX11_withOn_52 : decode cX11_withOn 52 = .ok (.ishl, 1) := by decide +kernel
theorem dX11_withOn_53 : decode cX11_withOn 53 = .ok (.ior, 1) := by decide +kernel
theorem dX11_withOn_54 : decode cX11_withOn 54 = .ok (.iadd, 1) := by decide +kernel
theorem dX11_withOn_55 : decode cX11_withOn 55 = .ok (.iaload, 1) := by decide +kernel
theorem dX11_withOn_56 : decode cX11_withOn 56 = .ok (.iadd, 1) := by decide +kernel
theorem dX11_withOn_57 : decode cX11_withOn 57 = .ok (.goto 4, 3) := by decide +kernel
theorem dX11_withOn_60 : decode cX11_withOn 60 = .ok (.iconst (-1), 1) := by decide +kernel
theorem dX11_withOn_61 : decode cX11_withOn 61 = .ok (.ireturn, 1) := by decide +kernel
theorem dX11_bestFrom_0 : decode cX11_bestFrom 0 = .ok (.aload_n 0, 1) := by decide +kernel
theorem dX11_bestFrom_1 : decode cX11_bestFrom 1 = .ok (.getfield 70, 3) := by decide +kernel
theorem dX11_bestFrom_4 : decode cX11_bestFrom 4 = .ok (.bipush 32, 2) := by decide +kernel
theorem dX11_bestFrom_6 : decode cX11_bestFrom 6 = .ok (.iload_n 1, 1) := by decide +kernel
theorem dX11_bestFrom_7 : decode cX11_bestFrom 7 = .ok (.iconst 1, 1) := by decide +kernel
theorem dX11_bestFrom_8 : decode cX11_bestFrom 8 = .ok (.iadd, 1) := by decide +kernel
theorem dX11_bestFrom_9 : decode cX11_bestFrom 9 = .ok (.imul, 1) := by decide +kernel
theorem dX11_bestFrom_10 : decode cX11_bestFrom 10 = .ok (.iload_n 2, 1) := by decide +kernel
theorem dX11_bestFrom_11 : decode cX11_bestFrom 11 = .ok (.iadd, 1) := by decide +kernel
theorem dX11_bestFrom_12 : decode cX11_bestFrom 12 = .ok (.iaload, 1) := by decide +kernel
theorem dX11_bestFrom_13 : decode cX11_bestFrom 13 = .ok (.istore_n 3, 1) := by decide +kernel
theorem dX11_bestFrom_14 : decode cX11_bestFrom 14 = .ok (.iconst 0, 1) := by decide +kernel
theorem dX11_bestFrom_15 : decode cX11_bestFrom 15 = .ok (.istore 4, 2) := by decide +kernel
theorem dX11_bestFrom_17 : decode cX11_bestFrom 17 = .ok (.iload 4, 2) := by decide +kernel
theorem dX11_bestFrom_19 : decode cX11_bestFrom 19 = .ok (.iconst 5, 1) := by decide +kernel
theorem dX11_bestFrom_20 : decode cX11_bestFrom 20 = .ok (.if_icmp .ge 32, 3) := by decide +kernel
theorem dX11_bestFrom_23 : decode cX11_bestFrom 23 = .ok (.aload_n 0, 1) := by decide +kernel
theorem dX11_bestFrom_24 : decode cX11_bestFrom 24 = .ok (.iload_n 1, 1) := by decide +kernel
theorem dX11_bestFrom_25 : decode cX11_bestFrom 25 = .ok (.iload_n 2, 1) := by decide +kernel
theorem dX11_bestFrom_26 : decode cX11_bestFrom 26 = .ok (.iload 4, 2) := by decide +kernel
theorem dX11_bestFrom_28 : decode cX11_bestFrom 28 = .ok (.invokevirtual 237, 3) := by decide +kernel
theorem dX11_bestFrom_31 : decode cX11_bestFrom 31 = .ok (.istore 5, 2) := by decide +kernel
theorem dX11_bestFrom_33 : decode cX11_bestFrom 33 = .ok (.iload 5, 2) := by decide +kernel
theorem dX11_bestFrom_35 : decode cX11_bestFrom 35 = .ok (.iload_n 3, 1) := by decide +kernel
theorem dX11_bestFrom_36 : decode cX11_bestFrom 36 = .ok (.if_icmp .le 8, 3) := by decide +kernel
theorem dX11_bestFrom_39 : decode cX11_bestFrom 39 = .ok (.iload 5, 2) := by decide +kernel
theorem dX11_bestFrom_41 : decode cX11_bestFrom 41 = .ok (.goto 4, 3) := by decide +kernel
theorem dX11_bestFrom_44 : decode cX11_bestFrom 44 = .ok (.iload_n 3, 1) := by decide +kernel
theorem dX11_bestFrom_45 : decode cX11_bestFrom 45 = .ok (.istore_n 3, 1) := by decide +kernel
theorem dX11_bestFrom_46 : decode cX11_bestFrom 46 = .ok (.iinc 4 1, 3) := by decide +kernel
theorem dX11_bestFrom_49 : decode cX11_bestFrom 49 = .ok (.goto (-32), 3) := by decide +kernel
theorem dX11_bestFrom_52 : decode cX11_bestFrom 52 = .ok (.iload_n 3, 1) := by decide +kernel
theorem dX11_bestFrom_53 : decode cX11_bestFrom 53 = .ok (.ireturn, 1) := by decide +kernel
theorem dX11_orders_0 : decode cX11_orders 0 = .ok (.iload_n 3, 1) := by decide +kernel
theorem dX11_orders_1 : decode cX11_orders 1 = .ok (.iconst (-1), 1) := by decide +kernel
theorem dX11_orders_2 : decode cX11_orders 2 = .ok (.if_icmp .eq 19, 3) := by decide +kernel
theorem dX11_orders_5 : decode cX11_orders 5 = .ok (.iload_n 3, 1) := by decide +kernel
theorem dX11_orders_6 : decode cX11_orders 6 = .ok (.invokestatic 122, 3) := by decide +kernel
theorem dX11_orders_9 : decode cX11_orders 9 = .ok (.ifCond .eq 16, 3) := by decide +kernel
theorem dX11_orders_12 : decode cX11_orders 12 = .ok (.iload_n 1, 1) := by decide +kernel
theorem dX11_orders_13 : decode cX11_orders 13 = .ok (.iload_n 3, 1) := by decide +kernel
theorem dX11_orders_14 : decode cX11_orders 14 = .ok (.ishr, 1) := by decide +kernel
theorem dX11_orders_15 : decode cX11_orders 15 = .ok (.iconst 1, 1) := by decide +kernel
theorem dX11_orders_16 : decode cX11_orders 16 = .ok (.iand, 1) := by decide +kernel
theorem dX11_orders_17 : decode cX11_orders 17 = .ok (.iconst 1, 1) := by decide +kernel
theorem dX11_orders_18 : decode cX11_orders 18 = .ok (.if_icmp .ne 7, 3) := by decide +kernel
theorem dX11_orders_21 : decode cX11_orders 21 = .ok (.iconst 1, 1) := by decide +kernel
theorem dX11_orders_22 : decode cX11_orders 22 = .ok (.goto 4, 3) := by decide +kernel
theorem dX11_orders_25 : decode cX11_orders 25 = .ok (.iconst 0, 1) := by decide +kernel
theorem dX11_orders_26 : decode cX11_orders 26 = .ok (.istore 4, 2) := by decide +kernel
theorem dX11_orders_28 : decode cX11_orders 28 = .ok (.iload 4, 2) := by decide +kernel
theorem dX11_orders_30 : decode cX11_orders 30 = .ok (.ifCond .ne 5, 3) := by decide +kernel
theorem dX11_orders_33 : decode cX11_orders 33 = .ok (.iconst (-1), 1) := by decide +kernel
theorem dX11_orders_34 : decode cX11_orders 34 = .ok (.ireturn, 1) := by decide +kernel
theorem dX11_orders_35 : decode cX11_orders 35 = .ok (.iload_n 1, 1) := by decide +kernel
theorem dX11_orders_36 : decode cX11_orders 36 = .ok (.i2l, 1) := by decide +kernel
theorem dX11_orders_37 : decode cX11_orders 37 = .ok (.lconst 0, 1) := by decide +kernel
theorem dX11_orders_38 : decode cX11_orders 38 = .ok (.ldc2_w 240, 3) := by decide +kernel
theorem dX11_orders_41 : decode cX11_orders 41 = .ok (.invokestatic 95, 3) := by decide +kernel
theorem dX11_orders_44 : decode cX11_orders 44 = .ok (.ifCond .eq 15, 3) := by decide +kernel
theorem dX11_orders_47 : decode cX11_orders 47 = .ok (.iload_n 2, 1) := by decide +kernel
theorem dX11_orders_48 : decode cX11_orders 48 = .ok (.i2l, 1) := by decide +kernel
theorem dX11_orders_49 : decode cX11_orders 49 = .ok (.lconst 0, 1) := by decide +kernel
theorem dX11_orders_50 : decode cX11_orders 50 = .ok (.ldc2_w 129, 3) := by decide +kernel
theorem dX11_orders_53 : decode cX11_orders 53 = .ok (.invokestatic 95, 3) := by decide +kernel
theorem dX11_orders_56 : decode cX11_orders 56 = .ok (.ifCond .ne 6, 3) := by decide +kernel
theorem dX11_orders_59 : decode cX11_orders 59 = .ok (.bipush (-2), 2) := by decide +kernel
theorem dX11_orders_61 : decode cX11_orders 61 = .ok (.ireturn, 1) := by decide +kernel
theorem dX11_orders_62 : decode cX11_orders 62 = .ok (.aload_n 0, 1) := by decide +kernel
theorem dX11_orders_63 : decode cX11_orders 63 = .ok (.iload_n 1, 1) := by decide +kernel
theorem dX11_orders_64 : decode cX11_orders 64 = .ok (.iload_n 2, 1) := by decide +kernel
theorem dX11_orders_65 : decode cX11_orders 65 = .ok (.invokevirtual 242, 3) := by decide +kernel
theorem dX11_orders_68 : decode cX11_orders 68 = .ok (.iload_n 3, 1) := by decide +kernel
theorem dX11_orders_69 : decode cX11_orders 69 = .ok (.iconst (-1), 1) := by decide +kernel
theorem dX11_orders_70 : decode cX11_orders 70 = .ok (.if_icmp .ne 10, 3) := by decide +kernel
theorem dX11_orders_73 : decode cX11_orders 73 = .ok (.aload_n 0, 1) := by decide +kernel
theorem dX11_orders_74 : decode cX11_orders 74 = .ok (.getfield 70, 3) := by decide +kernel
theorem dX11_orders_77 : decode cX11_orders 77 = .ok (.iconst 0, 1) := by decide +kernel
theorem dX11_orders_78 : decode cX11_orders 78 = .ok (.iaload, 1) := by decide +kernel
theorem dX11_orders_79 : decode cX11_orders 79 = .ok (.ireturn, 1) := by decide +kernel
theorem dX11_orders_80 : decode cX11_orders 80 = .ok (.iconst 0, 1) := by decide +kernel
theorem dX11_orders_81 : decode cX11_orders 81 = .ok (.istore 5, 2) := by decide +kernel
theorem dX11_orders_83 : decode cX11_orders 83 = .ok (.bipush (-6), 2) := by decide +kernel
theorem dX11_orders_85 : decode cX11_orders 85 = .ok (.istore 6, 2) := by decide +kernel
theorem dX11_orders_87 : decode cX11_orders 87 = .ok (.iconst 0, 1) := by decide +kernel
theorem dX11_orders_88 : decode cX11_orders 88 = .ok (.istore 7, 2) := by decide +kernel
theorem dX11_orders_90 : decode cX11_orders 90 = .ok (.iload 7, 2) := by decide +kernel
theorem dX11_orders_92 : decode cX11_orders 92 = .ok (.iload_n 3, 1) := by decide +kernel
theorem dX11_orders_93 : decode cX11_orders 93 = .ok (.if_icmp .gt 80, 3) := by decide +kernel
theorem dX11_orders_96 : decode cX11_orders 96 = .ok (.bipush (-6), 2) := by decide +kernel
theorem dX11_orders_98 : decode cX11_orders 98 = .ok (.istore 6, 2) := by decide +kernel
theorem dX11_orders_100 : decode cX11_orders 100 = .ok (.iconst 4, 1) := by decide +kernel
theorem dX11_orders_101 : decode cX11_orders 101 = .ok (.istore 8, 2) := by decide +kernel
theorem dX11_orders_103 : decode cX11_orders 103 = .ok (.iload 8, 2) := by decide +kernel
theorem dX11_orders_105 : decode cX11_orders 105 = .ok (.ifCond .lt 44, 3) := by decide +kernel
theorem dX11_orders_108 : decode cX11_orders 108 = .ok (.aload_n 0, 1) := by decide +kernel
theorem dX11_orders_109 : decode cX11_orders 109 = .ok (.iload 7, 2) := by decide +kernel
theorem dX11_orders_111 : decode cX11_orders 111 = .ok (.iload 5, 2) := by decide +kernel
theorem dX11_orders_113 : decode cX11_orders 113 = .ok (.iload 8, 2) := by decide +kernel
theorem dX11_orders_115 : decode cX11_orders 115 = .ok (.invokevirtual 237, 3) := by decide +kernel
theorem dX11_orders_118 : decode cX11_orders 118 = .ok (.aload_n 0, 1) := by decide +kernel
theorem dX11_orders_119 : decode cX11_orders 119 = .ok (.getfield 70, 3) := by decide +kernel
theorem dX11_orders_122 : decode cX11_orders 122 = .ok (.bipush 32, 2) := by decide +kernel
theorem dX11_orders_124 : decode cX11_orders 124 = .ok (.iload 7, 2) := by decide +kernel
theorem dX11_orders_126 : decode cX11_orders 126 = .ok (.imul, 1) := by decide +kernel
theorem dX11_orders_127 : decode cX11_orders 127 = .ok (.iload 5, 2) := by decide +kernel
theorem dX11_orders_129 : decode cX11_orders 129 = .ok (.iadd, 1) := by decide +kernel
theorem dX11_orders_130 : decode cX11_orders 130 = .ok (.iaload, 1) := by decide +kernel
theorem dX11_orders_131 : decode cX11_orders 131 = .ok (.if_icmp .ne 8, 3) := by decide +kernel
theorem dX11_orders_134 : decode cX11_orders 134 = .ok (.iload 8, 2) := by decide +kernel
theorem dX11_orders_136 : decode cX11_orders 136 = .ok (.goto 5, 3) := by decide +kernel
theorem dX11_orders_139 : decode cX11_orders 139 = .ok (.iload 6, 2) := by decide +kernel
theorem dX11_orders_141 : decode cX11_orders 141 = .ok (.istore 6, 2) := by decide +kernel
theorem dX11_orders_143 : decode cX11_orders 143 = .ok (.iinc 8 (-1), 3) := by decide +kernel
theorem dX11_orders_146 : decode cX11_orders 146 = .ok (.goto (-43), 3) := by decide +kernel
theorem dX11_orders_149 : decode cX11_orders 149 = .ok (.iload 5, 2) := by decide +kernel
theorem dX11_orders_151 : decode cX11_orders 151 = .ok (.iload 6, 2) := by decide +kernel
theorem dX11_orders_153 : decode cX11_orders 153 = .ok (.ifCond .ge 7, 3) := by decide +kernel
theorem dX11_orders_156 : decode cX11_orders 156 = .ok (.iconst 0, 1) := by decide +kernel
theorem dX11_orders_157 : decode cX11_orders 157 = .ok (.goto 7, 3) := by decide +kernel
theorem dX11_orders_160 : decode cX11_orders 160 = .ok (.iconst 1, 1) := by decide +kernel
theorem dX11_orders_161 : decode cX11_orders 161 = .ok (.iload 6, 2) := by decide +kernel
theorem dX11_orders_163 : decode cX11_orders 163 = .ok (.ishl, 1) := by decide +kernel
theorem dX11_orders_164 : decode cX11_orders 164 = .ok (.ior, 1) := by decide +kernel
theorem dX11_orders_165 : decode cX11_orders 165 = .ok (.istore 5, 2) := by decide +kernel
theorem dX11_orders_167 : decode cX11_orders 167 = .ok (.iinc 7 1, 3) := by decide +kernel
theorem dX11_orders_170 : decode cX11_orders 170 = .ok (.goto (-80), 3) := by decide +kernel
theorem dX11_orders_173 : decode cX11_orders 173 = .ok (.iload 6, 2) := by decide +kernel
theorem dX11_orders_175 : decode cX11_orders 175 = .ok (.ireturn, 1) := by decide +kernel
theorem dX11_colours_0 : decode cX11_colours 0 = .ok (.iload_n 1, 1) := by decide +kernel
theorem dX11_colours_1 : decode cX11_colours 1 = .ok (.i2l, 1) := by decide +kernel
theorem dX11_colours_2 : decode cX11_colours 2 = .ok (.lconst 1, 1) := by decide +kernel
theorem dX11_colours_3 : decode cX11_colours 3 = .ok (.ldc2_w 246, 3) := by decide +kernel
theorem dX11_colours_6 : decode cX11_colours 6 = .ok (.invokestatic 95, 3) := by decide +kernel
theorem dX11_colours_9 : decode cX11_colours 9 = .ok (.ifCond .eq 13, 3) := by decide +kernel
theorem dX11_colours_12 : decode cX11_colours 12 = .ok (.iload_n 2, 1) := by decide +kernel
theorem dX11_colours_13 : decode cX11_colours 13 = .ok (.i2l, 1) := by decide +kernel
theorem dX11_colours_14 : decode cX11_colours 14 = .ok (.lconst 0, 1) := by decide +kernel
theorem dX11_colours_15 : decode cX11_colours 15 = .ok (.lconst 1, 1) := by decide +kernel
theorem dX11_colours_16 : decode cX11_colours 16 = .ok (.invokestatic 95, 3) := by decide +kernel
theorem dX11_colours_19 : decode cX11_colours 19 = .ok (.ifCond .ne 6, 3) := by decide +kernel
theorem dX11_colours_22 : decode cX11_colours 22 = .ok (.bipush (-2), 2) := by decide +kernel
theorem dX11_colours_24 : decode cX11_colours 24 = .ok (.ireturn, 1) := by decide +kernel
theorem dX11_colours_25 : decode cX11_colours 25 = .ok (.iconst 1, 1) := by decide +kernel
theorem dX11_colours_26 : decode cX11_colours 26 = .ok (.iload_n 1, 1) := by decide +kernel
theorem dX11_colours_27 : decode cX11_colours 27 = .ok (.ishl, 1) := by decide +kernel
theorem dX11_colours_28 : decode cX11_colours 28 = .ok (.iconst 1, 1) := by decide +kernel
theorem dX11_colours_29 : decode cX11_colours 29 = .ok (.isub, 1) := by decide +kernel
theorem dX11_colours_30 : decode cX11_colours 30 = .ok (.istore_n 3, 1) := by decide +kernel
theorem dX11_colours_31 : decode cX11_colours 31 = .ok (.bipush (-6), 2) := by decide +kernel
theorem dX11_colours_33 : decode cX11_colours 33 = .ok (.istore 4, 2) := by decide +kernel
theorem dX11_colours_35 : decode cX11_colours 35 = .ok (.aload_n 0, 1) := by decide +kernel
theorem dX11_colours_36 : decode cX11_colours 36 = .ok (.getfield 77, 3) := by decide +kernel
theorem dX11_colours_39 : decode cX11_colours 39 = .ok (.iload_n 3, 1) := by decide +kernel
theorem dX11_colours_40 : decode cX11_colours 40 = .ok (.iconst 0, 1) := by decide +kernel
theorem dX11_colours_41 : decode cX11_colours 41 = .ok (.iastore, 1) := by decide +kernel
theorem dX11_colours_42 : decode cX11_colours 42 = .ok (.iload_n 3, 1) := by decide +kernel
theorem dX11_colours_43 : decode cX11_colours 43 = .ok (.iconst 1, 1) := by decide +kernel
theorem dX11_colours_44 : decode cX11_colours 44 = .ok (.isub, 1) := by decide +kernel
theorem dX11_colours_45 : decode cX11_colours 45 = .ok (.istore 5, 2) := by decide +kernel
theorem dX11_colours_47 : decode cX11_colours 47 = .ok (.iload 5, 2) := by decide +kernel
theorem dX11_colours_49 : decode cX11_colours 49 = .ok (.ifCond .lt 147, 3) := by decide +kernel
theorem dX11_colours_52 : decode cX11_colours 52 = .ok (.bipush (-6), 2) := by decide +kernel
theorem dX11_colours_54 : decode cX11_colours 54 = .ok (.istore 6, 2) := by decide +kernel
theorem dX11_colours_56 : decode cX11_colours 56 = .ok (.iload_n 1, 1) := by decide +kernel
theorem dX11_colours_57 : decode cX11_colours 57 = .ok (.iconst 1, 1) := by decide +kernel
theorem dX11_colours_58 : decode cX11_colours 58 = .ok (.isub, 1) := by decide +kernel
theorem dX11_colours_59 : decode cX11_colours 59 = .ok (.istore 7, 2) := by decide +kernel
theorem dX11_colours_61 : decode cX11_colours 61 = .ok (.iload 7, 2) := by decide +kernel
theorem dX11_colours_63 : decode cX11_colours 63 = .ok (.ifCond .lt 118, 3) := by decide +kernel
theorem dX11_colours_66 : decode cX11_colours 66 = .ok (.iload 5, 2) := by decide +kernel
theorem dX11_colours_68 : decode cX11_colours 68 = .ok (.iload 7, 2) := by decide +kernel
theorem dX11_colours_70 : decode cX11_colours 70 = .ok (.ishr, 1) := by decide +kernel
theorem dX11_colours_71 : decode cX11_colours 71 = .ok (.iconst 1, 1) := by decide +kernel
theorem dX11_colours_72 : decode cX11_colours 72 = .ok (.iand, 1) := by decide +kernel
theorem dX11_colours_73 : decode cX11_colours 73 = .ok (.ifCond .ne 7, 3) := by decide +kernel
theorem dX11_colours_76 : decode cX11_colours 76 = .ok (.iconst 1, 1) := by decide +kernel
theorem dX11_colours_77 : decode cX11_colours 77 = .ok (.goto 4, 3) := by decide +kernel
theorem dX11_colours_80 : decode cX11_colours 80 = .ok (.iconst 0, 1) := by decide +kernel
theorem dX11_colours_81 : decode cX11_colours 81 = .ok (.istore 8, 2) := by decide +kernel
theorem dX11_colours_83 : decode cX11_colours 83 = .ok (.iload 8, 2) := by decide +kernel
theorem dX11_colours_85 : decode cX11_colours 85 = .ok (.ifCond .eq 35, 3) := by decide +kernel
theorem dX11_colours_88 : decode cX11_colours 88 = .ok (.iload 5, 2) := by decide +kernel
theorem dX11_colours_90 : decode cX11_colours 90 = .ok (.invokestatic 114, 3) := by decide +kernel
theorem dX11_colours_93 : decode cX11_colours 93 = .ok (.aload_n 0, 1) := by decide +kernel
theorem dX11_colours_94 : decode cX11_colours 94 = .ok (.getfield 37, 3) := by decide +kernel
theorem dX11_colours_97 : decode cX11_colours 97 = .ok (.iload 7, 2) := by decide +kernel
theorem dX11_colours_99 : decode cX11_colours 99 = .ok (.iaload, 1) := by decide +kernel
theorem dX11_colours_100 : decode cX11_colours 100 = .ok (.isub, 1) := by decide +kernel
theorem dX11_colours_101 : decode cX11_colours 101 = .ok (.invokestatic 248, 3) := by decide +kernel
theorem dX11_colours_104 : decode cX11_colours 104 = .ok (.aload_n 0, 1) := by decide +kernel
theorem dX11_colours_105 : decode cX11_colours 105 = .ok (.getfield 77, 3) := by decide +kernel
theorem dX11_colours_108 : decode cX11_colours 108 = .ok (.iload 5, 2) := by decide +kernel
theorem dX11_colours_110 : decode cX11_colours 110 = .ok (.iconst 1, 1) := by decide +kernel
theorem dX11_colours_111 : decode cX11_colours 111 = .ok (.iload 7, 2) := by decide +kernel
theorem dX11_colours_113 : decode cX11_colours 113 = .ok (.ishl, 1) := by decide +kernel
theorem dX11_colours_114 : decode cX11_colours 114 = .ok (.ior, 1) := by decide +kernel
theorem dX11_colours_115 : decode cX11_colours 115 = .ok (.iaload, 1) := by decide +kernel
theorem dX11_colours_116 : decode cX11_colours 116 = .ok (.iadd, 1) := by decide +kernel
theorem dX11_colours_117 : decode cX11_colours 117 = .ok (.goto 4, 3) := by decide +kernel
theorem dX11_colours_120 : decode cX11_colours 120 = .ok (.iconst 0, 1) := by decide +kernel
theorem dX11_colours_121 : decode cX11_colours 121 = .ok (.istore 9, 2) := by decide +kernel
theorem dX11_colours_123 : decode cX11_colours 123 = .ok (.iload 8, 2) := by decide +kernel
theorem dX11_colours_125 : decode cX11_colours 125 = .ok (.ifCond .eq 19, 3) := by decide +kernel
theorem dX11_colours_128 : decode cX11_colours 128 = .ok (.iload 6, 2) := by decide +kernel
theorem dX11_colours_130 : decode cX11_colours 130 = .ok (.ifCond .lt 10, 3) := by decide +kernel
theorem dX11_colours_133 : decode cX11_colours 133 = .ok (.iload 9, 2) := by decide +kernel
theorem dX11_colours_135 : decode cX11_colours 135 = .ok (.iload 6, 2) := by decide +kernel
theorem dX11_colours_137 : decode cX11_colours 137 = .ok (.if_icmp .gt 7, 3) := by decide +kernel
theorem dX11_colours_140 : decode cX11_colours 140 = .ok (.iconst 1, 1) := by decide +kernel
theorem dX11_colours_141 : decode cX11_colours 141 = .ok (.goto 4, 3) := by decide +kernel
theorem dX11_colours_144 : decode cX11_colours 144 = .ok (.iconst 0, 1) := by decide +kernel
theorem dX11_colours_145 : decode cX11_colours 145 = .ok (.istore 10, 2) := by decide +kernel
theorem dX11_colours_147 : decode cX11_colours 147 = .ok (.iload 10, 2) := by decide +kernel
theorem dX11_colours_149 : decode cX11_colours 149 = .ok (.ifCond .eq 8, 3) := by decide +kernel
theorem dX11_colours_152 : decode cX11_colours 152 = .ok (.iload 9, 2) := by decide +kernel
theorem dX11_colours_154 : decode cX11_colours 154 = .ok (.goto 5, 3) := by decide +kernel
theorem dX11_colours_157 : decode cX11_colours 157 = .ok (.iload 6, 2) := by decide +kernel
theorem dX11_colours_159 : decode cX11_colours 159 = .ok (.istore 6, 2) := by decide +kernel
theorem dX11_colours_161 : decode cX11_colours 161 = .ok (.iload 10, 2) := by decide +kernel
theorem dX11_colours_163 : decode cX11_colours 163 = .ok (.ifCond .eq 8, 3) := by decide +kernel
theorem dX11_colours_166 : decode cX11_colours 166 = .ok (.iload 7, 2) := by decide +kernel
theorem dX11_colours_168 : decode cX11_colours 168 = .ok (.goto 5, 3) := by decide +kernel
theorem dX11_colours_171 : decode cX11_colours 171 = .ok (.iload 4, 2) := by decide +kernel
theorem dX11_colours_173 : decode cX11_colours 173 = .ok (.istore 4, 2) := by decide +kernel
theorem dX11_colours_175 : decode cX11_colours 175 = .ok (.iinc 7 (-1), 3) := by decide +kernel
theorem dX11_colours_178 : decode cX11_colours 178 = .ok (.goto (-117), 3) := by decide +kernel
theorem dX11_colours_181 : decode cX11_colours 181 = .ok (.aload_n 0, 1) := by decide +kernel
theorem dX11_colours_182 : decode cX11_colours 182 = .ok (.getfield 77, 3) := by decide +kernel
theorem dX11_colours_185 : decode cX11_colours 185 = .ok (.iload 5, 2) := by decide +kernel
theorem dX11_colours_187 : decode cX11_colours 187 = .ok (.iload 6, 2) := by decide +kernel
theorem dX11_colours_189 : decode cX11_colours 189 = .ok (.iastore, 1) := by decide +kernel
theorem dX11_colours_190 : decode cX11_colours 190 = .ok (.iinc 5 (-1), 3) := by decide +kernel
theorem dX11_colours_193 : decode cX11_colours 193 = .ok (.goto (-146), 3) := by decide +kernel
theorem dX11_colours_196 : decode cX11_colours 196 = .ok (.iload_n 2, 1) := by decide +kernel
theorem dX11_colours_197 : decode cX11_colours 197 = .ok (.ifCond .ne 12, 3) := by decide +kernel
theorem dX11_colours_200 : decode cX11_colours 200 = .ok (.aload_n 0, 1) := by decide +kernel
theorem dX11_colours_201 : decode cX11_colours 201 = .ok (.getfield 77, 3) := by decide +kernel
theorem dX11_colours_204 : decode cX11_colours 204 = .ok (.iconst 0, 1) := by decide +kernel
theorem dX11_colours_205 : decode cX11_colours 205 = .ok (.iaload, 1) := by decide +kernel
theorem dX11_colours_206 : decode cX11_colours 206 = .ok (.goto 5, 3) := by decide +kernel
theorem dX11_colours_209 : decode cX11_colours 209 = .ok (.iload 4, 2) := by decide +kernel
theorem dX11_colours_211 : decode cX11_colours 211 = .ok (.ireturn, 1) := by decide +kernel
theorem dX11_lowest_0 : decode cX11_lowest 0 = .ok (.lload_n 2, 1) := by decide +kernel
theorem dX11_lowest_1 : decode cX11_lowest 1 = .ok (.lstore 5, 2) := by decide +kernel
theorem dX11_lowest_3 : decode cX11_lowest 3 = .ok (.lload_n 0, 1) := by decide +kernel
theorem dX11_lowest_4 : decode cX11_lowest 4 = .ok (.lstore 7, 2) := by decide +kernel
theorem dX11_lowest_6 : decode cX11_lowest 6 = .ok (.lload 7, 2) := by decide +kernel
theorem dX11_lowest_8 : decode cX11_lowest 8 = .ok (.lconst 0, 1) := by decide +kernel
theorem dX11_lowest_9 : decode cX11_lowest 9 = .ok (.lcmp, 1) := by decide +kernel
theorem dX11_lowest_10 : decode cX11_lowest 10 = .ok (.ifCond .eq 21, 3) := by decide +kernel
theorem dX11_lowest_13 : decode cX11_lowest 13 = .ok (.lload 5, 2) := by decide +kernel
theorem dX11_lowest_15 : decode cX11_lowest 15 = .ok (.lload 7, 2) := by decide +kernel
theorem dX11_lowest_17 : decode cX11_lowest 17 = .ok (.lrem, 1) := by decide +kernel
theorem dX11_lowest_18 : decode cX11_lowest 18 = .ok (.lstore 9, 2) := by decide +kernel
theorem dX11_lowest_20 : decode cX11_lowest 20 = .ok (.lload 7, 2) := by decide +kernel
theorem dX11_lowest_22 : decode cX11_lowest 22 = .ok (.lstore 5, 2) := by decide +kernel
theorem dX11_lowest_24 : decode cX11_lowest 24 = .ok (.lload 9, 2) := by decide +kernel
theorem dX11_lowest_26 : decode cX11_lowest 26 = .ok (.lstore 7, 2) := by decide +kernel
theorem dX11_lowest_28 : decode cX11_lowest 28 = .ok (.goto (-22), 3) := by decide +kernel
theorem dX11_lowest_31 : decode cX11_lowest 31 = .ok (.iload 4, 2) := by decide +kernel
theorem dX11_lowest_33 : decode cX11_lowest 33 = .ok (.ifCond .ne 10, 3) := by decide +kernel
theorem dX11_lowest_36 : decode cX11_lowest 36 = .ok (.lload_n 0, 1) := by decide +kernel
theorem dX11_lowest_37 : decode cX11_lowest 37 = .ok (.lload 5, 2) := by decide +kernel
theorem dX11_lowest_39 : decode cX11_lowest 39 = .ok (.ldiv, 1) := by decide +kernel
theorem dX11_lowest_40 : decode cX11_lowest 40 = .ok (.goto 7, 3) := by decide +kernel
theorem dX11_lowest_43 : decode cX11_lowest 43 = .ok (.lload_n 2, 1) := by decide +kernel
theorem dX11_lowest_44 : decode cX11_lowest 44 = .ok (.lload 5, 2) := by decide +kernel
theorem dX11_lowest_46 : decode cX11_lowest 46 = .ok (.ldiv, 1) := by decide +kernel
theorem dX11_lowest_47 : decode cX11_lowest 47 = .ok (.lreturn, 1) := by decide +kernel
theorem dX11_crack_0 : decode cX11_crack 0 = .ok (.aload_n 0, 1) := by decide +kernel
theorem dX11_crack_1 : decode cX11_crack 1 = .ok (.iload_n 1, 1) := by decide +kernel
theorem dX11_crack_2 : decode cX11_crack 2 = .ok (.invokevirtual 118, 3) := by decide +kernel
theorem dX11_crack_5 : decode cX11_crack 5 = .ok (.ifCond .ne 7, 3) := by decide +kernel
theorem dX11_crack_8 : decode cX11_crack 8 = .ok (.ldc2_w 251, 3) := by decide +kernel
theorem dX11_crack_11 : decode cX11_crack 11 = .ok (.lreturn, 1) := by decide +kernel
theorem dX11_crack_12 : decode cX11_crack 12 = .ok (.iload_n 2, 1) := by decide +kernel
theorem dX11_crack_13 : decode cX11_crack 13 = .ok (.i2l, 1) := by decide +kernel
theorem dX11_crack_14 : decode cX11_crack 14 = .ok (.lconst 0, 1) := by decide +kernel
theorem dX11_crack_15 : decode cX11_crack 15 = .ok (.ldc2_w 253, 3) := by decide +kernel
theorem dX11_crack_18 : decode cX11_crack 18 = .ok (.invokestatic 95, 3) := by decide +kernel
theorem dX11_crack_21 : decode cX11_crack 21 = .ok (.ifCond .eq 37, 3) := by decide +kernel
theorem dX11_crack_24 : decode cX11_crack 24 = .ok (.iload_n 3, 1) := by decide +kernel
theorem dX11_crack_25 : decode cX11_crack 25 = .ok (.i2l, 1) := by decide +kernel
theorem dX11_crack_26 : decode cX11_crack 26 = .ok (.lconst 0, 1) := by decide +kernel
theorem dX11_crack_27 : decode cX11_crack 27 = .ok (.ldc2_w 127, 3) := by decide +kernel
theorem dX11_crack_30 : decode cX11_crack 30 = .ok (.invokestatic 95, 3) := by decide +kernel
theorem dX11_crack_33 : decode cX11_crack 33 = .ok (.ifCond .eq 25, 3) := by decide +kernel
theorem dX11_crack_36 : decode cX11_crack 36 = .ok (.iload 4, 2) := by decide +kernel
theorem dX11_crack_38 : decode cX11_crack 38 = .ok (.i2l, 1) := by decide +kernel
theorem dX11_crack_39 : decode cX11_crack 39 = .ok (.lconst 0, 1) := by decide +kernel
theorem dX11_crack_40 : decode cX11_crack 40 = .ok (.lconst 1, 1) := by decide +kernel
theorem dX11_crack_41 : decode cX11_crack 41 = .ok (.invokestatic 95, 3) := by decide +kernel
theorem dX11_crack_44 : decode cX11_crack 44 = .ok (.ifCond .eq 14, 3) := by decide +kernel
theorem dX11_crack_47 : decode cX11_crack 47 = .ok (.iload 5, 2) := by decide +kernel
theorem dX11_crack_49 : decode cX11_crack 49 = .ok (.i2l, 1) := by decide +kernel
theorem dX11_crack_50 : decode cX11_crack 50 = .ok (.lconst 0, 1) := by decide +kernel
theorem dX11_crack_51 : decode cX11_crack 51 = .ok (.lconst 1, 1) := by decide +kernel
theorem dX11_crack_52 : decode cX11_crack 52 = .ok (.invokestatic 95, 3) := by decide +kernel
theorem dX11_crack_55 : decode cX11_crack 55 = .ok (.ifCond .ne 7, 3) := by decide +kernel
theorem dX11_crack_58 : decode cX11_crack 58 = .ok (.ldc2_w 255, 3) := by decide +kernel
theorem dX11_crack_61 : decode cX11_crack 61 = .ok (.lreturn, 1) := by decide +kernel
theorem dX11_crack_62 : decode cX11_crack 62 = .ok (.iload_n 2, 1) := by decide +kernel
theorem dX11_crack_63 : decode cX11_crack 63 = .ok (.aload_n 0, 1) := by decide +kernel
theorem dX11_crack_64 : decode cX11_crack 64 = .ok (.getfield 7, 3) := by decide +kernel
theorem dX11_crack_67 : decode cX11_crack 67 = .ok (.iload_n 1, 1) := by decide +kernel
theorem dX11_crack_68 : decode cX11_crack 68 = .ok (.iaload, 1) := by decide +kernel
theorem dX11_crack_69 : decode cX11_crack 69 = .ok (.bipush 100, 2) := by decide +kernel
theorem dX11_crack_71 : decode cX11_crack 71 = .ok (.idiv, 1) := by decide +kernel
theorem dX11_crack_72 : decode cX11_crack 72 = .ok (.isub, 1) := by decide +kernel
theorem dX11_crack_73 : decode cX11_crack 73 = .ok (.invokestatic 169, 3) := by decide +kernel
theorem dX11_crack_76 : decode cX11_crack 76 = .ok (.istore 6, 2) := by decide +kernel
theorem dX11_crack_78 : decode cX11_crack 78 = .ok (.iload 6, 2) := by decide +kernel
theorem dX11_crack_80 : decode cX11_crack 80 = .ok (.bipush 10, 2) := by decide +kernel
theorem dX11_crack_82 : decode cX11_crack 82 = .ok (.if_icmp .le 8, 3) := by decide +kernel
theorem dX11_crack_85 : decode cX11_crack 85 = .ok (.bipush 10, 2) := by decide +kernel
theorem dX11_crack_87 : decode cX11_crack 87 = .ok (.goto 5, 3) := by decide +kernel
theorem dX11_crack_90 : decode cX11_crack 90 = .ok (.iload 6, 2) := by decide +kernel
theorem dX11_crack_92 : decode cX11_crack 92 = .ok (.istore 7, 2) := by decide +kernel
theorem dX11_crack_94 : decode cX11_crack 94 = .ok (.lconst 1, 1) := by decide +kernel
theorem dX11_crack_95 : decode cX11_crack 95 = .ok (.lstore 8, 2) := by decide +kernel
theorem dX11_crack_97 : decode cX11_crack 97 = .ok (.lconst 1, 1) := by decide +kernel
theorem dX11_crack_98 : decode cX11_crack 98 = .ok (.lstore 10, 2) := by decide +kernel
theorem dX11_crack_100 : decode cX11_crack 100 = .ok (.lconst 0, 1) := by decide +kernel
theorem dX11_crack_101 : decode cX11_crack 101 = .ok (.lstore 12, 2) := by decide +kernel
theorem dX11_crack_103 : decode cX11_crack 103 = .ok (.iconst 1, 1) := by decide +kernel
theorem dX11_crack_104 : decode cX11_crack 104 = .ok (.istore 14, 2) := by decide +kernel
theorem dX11_crack_106 : decode cX11_crack 106 = .ok (.iload 14, 2) := by decide +kernel
theorem dX11_crack_108 : decode cX11_crack 108 = .ok (.iload_n 3, 1) := by decide +kernel
theorem dX11_crack_109 : decode cX11_crack 109 = .ok (.if_icmp .gt 46, 3) := by decide +kernel
theorem dX11_crack_112 : decode cX11_crack 112 = .ok (.ldc2_w 257, 3) := by decide +kernel
theorem dX11_crack_115 : decode cX11_crack 115 = .ok (.lload 12, 2) := by decide +kernel
theorem dX11_crack_117 : decode cX11_crack 117 = .ok (.lmul, 1) := by decide +kernel
theorem dX11_crack_118 : decode cX11_crack 118 = .ok (.iload 14, 2) := by decide +kernel
theorem dX11_crack_120 : decode cX11_crack 120 = .ok (.iload 7, 2) := by decide +kernel
theorem dX11_crack_122 : decode cX11_crack 122 = .ok (.imul, 1) := by decide +kernel
theorem dX11_crack_123 : decode cX11_crack 123 = .ok (.i2l, 1) := by decide +kernel
theorem dX11_crack_124 : decode cX11_crack 124 = .ok (.lload 8, 2) := by decide +kernel
theorem dX11_crack_126 : decode cX11_crack 126 = .ok (.lmul, 1) := by decide +kernel
theorem dX11_crack_127 : decode cX11_crack 127 = .ok (.ladd, 1) := by decide +kernel
theorem dX11_crack_128 : decode cX11_crack 128 = .ok (.lstore 12, 2) := by decide +kernel
theorem dX11_crack_130 : decode cX11_crack 130 = .ok (.lload 8, 2) := by decide +kernel
theorem dX11_crack_132 : decode cX11_crack 132 = .ok (.bipush 10, 2) := by decide +kernel
theorem dX11_crack_134 : decode cX11_crack 134 = .ok (.iload 7, 2) := by decide +kernel
theorem dX11_crack_136 : decode cX11_crack 136 = .ok (.isub, 1) := by decide +kernel
theorem dX11_crack_137 : decode cX11_crack 137 = .ok (.i2l, 1) := by decide +kernel
theorem dX11_crack_138 : decode cX11_crack 138 = .ok (.lmul, 1) := by decide +kernel
theorem dX11_crack_139 : decode cX11_crack 139 = .ok (.lstore 8, 2) := by decide +kernel
theorem dX11_crack_141 : decode cX11_crack 141 = .ok (.lload 10, 2) := by decide +kernel
theorem dX11_crack_143 : decode cX11_crack 143 = .ok (.ldc2_w 257, 3) := by decide +kernel
theorem dX11_crack_146 : decode cX11_crack 146 = .ok (.lmul, 1) := by decide +kernel
theorem dX11_crack_147 : decode cX11_crack 147 = .ok (.lstore 10, 2) := by decide +kernel
theorem dX11_crack_149 : decode cX11_crack 149 = .ok (.iinc 14 1, 3) := by decide +kernel
theorem dX11_crack_152 : decode cX11_crack 152 = .ok (.goto (-46), 3) := by decide +kernel
theorem dX11_crack_155 : decode cX11_crack 155 = .ok (.iload 4, 2) := by decide +kernel
theorem dX11_crack_157 : decode cX11_crack 157 = .ok (.ifCond .ne 8, 3) := by decide +kernel
theorem dX11_crack_160 : decode cX11_crack 160 = .ok (.lload 8, 2) := by decide +kernel
theorem dX11_crack_162 : decode cX11_crack 162 = .ok (.goto 13, 3) := by decide +kernel
theorem dX11_crack_165 : decode cX11_crack 165 = .ok (.lload 12, 2) := by decide +kernel
theorem dX11_crack_167 : decode cX11_crack 167 = .ok (.iload_n 3, 1) := by decide +kernel
theorem dX11_crack_168 : decode cX11_crack 168 = .ok (.iconst 1, 1) := by decide +kernel
theorem dX11_crack_169 : decode cX11_crack 169 = .ok (.iadd, 1) := by decide +kernel
theorem dX11_crack_170 : decode cX11_crack 170 = .ok (.i2l, 1) := by decide +kernel
theorem dX11_crack_171 : decode cX11_crack 171 = .ok (.lload 8, 2) := by decide +kernel
theorem dX11_crack_173 : decode cX11_crack 173 = .ok (.lmul, 1) := by decide +kernel
theorem dX11_crack_174 : decode cX11_crack 174 = .ok (.ladd, 1) := by decide +kernel
theorem dX11_crack_175 : decode cX11_crack 175 = .ok (.lload 10, 2) := by decide +kernel
theorem dX11_crack_177 : decode cX11_crack 177 = .ok (.iload 5, 2) := by decide +kernel
theorem dX11_crack_179 : decode cX11_crack 179 = .ok (.invokestatic 259, 3) := by decide +kernel
theorem dX11_crack_182 : decode cX11_crack 182 = .ok (.lreturn, 1) := by decide +kernel
theorem dX11_seen_0 : decode cX11_seen 0 = .ok (.iload_n 1, 1) := by decide +kernel
theorem dX11_seen_1 : decode cX11_seen 1 = .ok (.invokestatic 122, 3) := by decide +kernel
theorem dX11_seen_4 : decode cX11_seen 4 = .ok (.ifCond .ne 5, 3) := by decide +kernel
theorem dX11_seen_7 : decode cX11_seen 7 = .ok (.iconst (-1), 1) := by decide +kernel
theorem dX11_seen_8 : decode cX11_seen 8 = .ok (.ireturn, 1) := by decide +kernel
theorem dX11_seen_9 : decode cX11_seen 9 = .ok (.iload_n 2, 1) := by decide +kernel
theorem dX11_seen_10 : decode cX11_seen 10 = .ok (.i2l, 1) := by decide +kernel
theorem dX11_seen_11 : decode cX11_seen 11 = .ok (.lconst 0, 1) := by decide +kernel
theorem dX11_seen_12 : decode cX11_seen 12 = .ok (.ldc2_w 129, 3) := by decide +kernel
theorem dX11_seen_15 : decode cX11_seen 15 = .ok (.invokestatic 95, 3) := by decide +kernel
theorem dX11_seen_18 : decode cX11_seen 18 = .ok (.ifCond .ne 6, 3) := by decide +kernel
theorem dX11_seen_21 : decode cX11_seen 21 = .ok (.bipush (-2), 2) := by decide +kernel
theorem dX11_seen_23 : decode cX11_seen 23 = .ok (.ireturn, 1) := by decide +kernel
theorem dX11_seen_24 : decode cX11_seen 24 = .ok (.aload_n 0, 1) := by decide +kernel
theorem dX11_seen_25 : decode cX11_seen 25 = .ok (.getfield 263, 3) := by decide +kernel
theorem dX11_seen_28 : decode cX11_seen 28 = .ok (.bipush 8, 2) := by decide +kernel
theorem dX11_seen_30 : decode cX11_seen 30 = .ok (.if_icmp .ne 6, 3) := by decide +kernel
theorem dX11_seen_33 : decode cX11_seen 33 = .ok (.bipush (-4), 2) := by decide +kernel
theorem dX11_seen_35 : decode cX11_seen 35 = .ok (.ireturn, 1) := by decide +kernel
theorem dX11_seen_36 : decode cX11_seen 36 = .ok (.aload_n 0, 1) := by decide +kernel
theorem dX11_seen_37 : decode cX11_seen 37 = .ok (.getfield 40, 3) := by decide +kernel
theorem dX11_seen_40 : decode cX11_seen 40 = .ok (.aload_n 0, 1) := by decide +kernel
theorem dX11_seen_41 : decode cX11_seen 41 = .ok (.getfield 263, 3) := by decide +kernel
theorem dX11_seen_44 : decode cX11_seen 44 = .ok (.iload_n 1, 1) := by decide +kernel
theorem dX11_seen_45 : decode cX11_seen 45 = .ok (.iastore, 1) := by decide +kernel
theorem dX11_seen_46 : decode cX11_seen 46 = .ok (.aload_n 0, 1) := by decide +kernel
theorem dX11_seen_47 : decode cX11_seen 47 = .ok (.getfield 43, 3) := by decide +kernel
theorem dX11_seen_50 : decode cX11_seen 50 = .ok (.aload_n 0, 1) := by decide +kernel
theorem dX11_seen_51 : decode cX11_seen 51 = .ok (.getfield 263, 3) := by decide +kernel
theorem dX11_seen_54 : decode cX11_seen 54 = .ok (.iload_n 2, 1) := by decide +kernel
theorem dX11_seen_55 : decode cX11_seen 55 = .ok (.iastore, 1) := by decide +kernel
theorem dX11_seen_56 : decode cX11_seen 56 = .ok (.aload_n 0, 1) := by decide +kernel
theorem dX11_seen_57 : decode cX11_seen 57 = .ok (.getfield 46, 3) := by decide +kernel
theorem dX11_seen_60 : decode cX11_seen 60 = .ok (.aload_n 0, 1) := by decide +kernel
theorem dX11_seen_61 : decode cX11_seen 61 = .ok (.getfield 263, 3) := by decide +kernel
theorem dX11_seen_64 : decode cX11_seen 64 = .ok (.iload_n 3, 1) := by decide +kernel
theorem dX11_seen_65 : decode cX11_seen 65 = .ok (.ifCond .eq 7, 3) := by decide +kernel
theorem dX11_seen_68 : decode cX11_seen 68 = .ok (.iconst 1, 1) := by decide +kernel
theorem dX11_seen_69 : decode cX11_seen 69 = .ok (.goto 4, 3) := by decide +kernel
theorem dX11_seen_72 : decode cX11_seen 72 = .ok (.iconst 0, 1) := by decide +kernel
theorem dX11_seen_73 : decode cX11_seen 73 = .ok (.iastore, 1) := by decide +kernel
theorem dX11_seen_74 : decode cX11_seen 74 = .ok (.aload_n 0, 1) := by decide +kernel
theorem dX11_seen_75 : decode cX11_seen 75 = .ok (.dup, 1) := by decide +kernel
theorem dX11_seen_76 : decode cX11_seen 76 = .ok (.getfield 263, 3) := by decide +kernel
theorem dX11_seen_79 : decode cX11_seen 79 = .ok (.iconst 1, 1) := by decide +kernel
theorem dX11_seen_80 : decode cX11_seen 80 = .ok (.iadd, 1) := by decide +kernel
theorem dX11_seen_81 : decode cX11_seen 81 = .ok (.putfield 263, 3) := by decide +kernel
theorem dX11_seen_84 : decode cX11_seen 84 = .ok (.aload_n 0, 1) := by decide +kernel
theorem dX11_seen_85 : decode cX11_seen 85 = .ok (.getfield 263, 3) := by decide +kernel
theorem dX11_seen_88 : decode cX11_seen 88 = .ok (.ireturn, 1) := by decide +kernel
theorem dX11_forget_0 : decode cX11_forget 0 = .ok (.aload_n 0, 1) := by decide +kernel
theorem dX11_forget_1 : decode cX11_forget 1 = .ok (.getfield 263, 3) := by decide +kernel
theorem dX11_forget_4 : decode cX11_forget 4 = .ok (.istore_n 1, 1) := by decide +kernel
theorem dX11_forget_5 : decode cX11_forget 5 = .ok (.aload_n 0, 1) := by decide +kernel
theorem dX11_forget_6 : decode cX11_forget 6 = .ok (.iconst 0, 1) := by decide +kernel
theorem dX11_forget_7 : decode cX11_forget 7 = .ok (.putfield 263, 3) := by decide +kernel
theorem dX11_forget_10 : decode cX11_forget 10 = .ok (.iload_n 1, 1) := by decide +kernel
theorem dX11_forget_11 : decode cX11_forget 11 = .ok (.ireturn, 1) := by decide +kernel
theorem dX11_shows_0 : decode cX11_shows 0 = .ok (.aload_n 0, 1) := by decide +kernel
theorem dX11_shows_1 : decode cX11_shows 1 = .ok (.getfield 28, 3) := by decide +kernel
theorem dX11_shows_4 : decode cX11_shows 4 = .ok (.iload_n 1, 1) := by decide +kernel
theorem dX11_shows_5 : decode cX11_shows 5 = .ok (.iaload, 1) := by decide +kernel
theorem dX11_shows_6 : decode cX11_shows 6 = .ok (.iconst 3, 1) := by decide +kernel
theorem dX11_shows_7 : decode cX11_shows 7 = .ok (.iload_n 2, 1) := by decide +kernel
theorem dX11_shows_8 : decode cX11_shows 8 = .ok (.imul, 1) := by decide +kernel
theorem dX11_shows_9 : decode cX11_shows 9 = .ok (.isub, 1) := by decide +kernel
theorem dX11_shows_10 : decode cX11_shows 10 = .ok (.invokestatic 169, 3) := by decide +kernel
theorem dX11_shows_13 : decode cX11_shows 13 = .ok (.istore 5, 2) := by decide +kernel
theorem dX11_shows_15 : decode cX11_shows 15 = .ok (.aload_n 0, 1) := by decide +kernel
theorem dX11_shows_16 : decode cX11_shows 16 = .ok (.getfield 28, 3) := by decide +kernel
theorem dX11_shows_19 : decode cX11_shows 19 = .ok (.iload_n 3, 1) := by decide +kernel
theorem dX11_shows_20 : decode cX11_shows 20 = .ok (.iaload, 1) := by decide +kernel
theorem dX11_shows_21 : decode cX11_shows 21 = .ok (.aload_n 0, 1) := by decide +kernel
theorem dX11_shows_22 : decode cX11_shows 22 = .ok (.iload_n 3, 1) := by decide +kernel
theorem dX11_shows_23 : decode cX11_shows 23 = .ok (.invokevirtual 172, 3) := by decide +kernel
theorem dX11_shows_26 : decode cX11_shows 26 = .ok (.iload 4, 2) := by decide +kernel
theorem dX11_shows_28 : decode cX11_shows 28 = .ok (.bipush 10, 2) := by decide +kernel
theorem dX11_shows_30 : decode cX11_shows 30 = .ok (.idiv, 1) := by decide +kernel
theorem dX11_shows_31 : decode cX11_shows 31 = .ok (.imul, 1) := by decide +kernel
theorem dX11_shows_32 : decode cX11_shows 32 = .ok (.isub, 1) := by decide +kernel
theorem dX11_shows_33 : decode cX11_shows 33 = .ok (.invokestatic 169, 3) := by decide +kernel
theorem dX11_shows_36 : decode cX11_shows 36 = .ok (.istore 6, 2) := by decide +kernel
theorem dX11_shows_38 : decode cX11_shows 38 = .ok (.iload_n 1, 1) := by decide +kernel
theorem dX11_shows_39 : decode cX11_shows 39 = .ok (.iload_n 3, 1) := by decide +kernel
theorem dX11_shows_40 : decode cX11_shows 40 = .ok (.if_icmp .eq 14, 3) := by decide +kernel
theorem dX11_shows_43 : decode cX11_shows 43 = .ok (.iload 5, 2) := by decide +kernel
theorem dX11_shows_45 : decode cX11_shows 45 = .ok (.iload 6, 2) := by decide +kernel
theorem dX11_shows_47 : decode cX11_shows 47 = .ok (.if_icmp .le 7, 3) := by decide +kernel
theorem dX11_shows_50 : decode cX11_shows 50 = .ok (.iconst 1, 1) := by decide +kernel
theorem dX11_shows_51 : decode cX11_shows 51 = .ok (.goto 4, 3) := by decide +kernel
theorem dX11_shows_54 : decode cX11_shows 54 = .ok (.iconst 0, 1) := by decide +kernel
theorem dX11_shows_55 : decode cX11_shows 55 = .ok (.ireturn, 1) := by decide +kernel
theorem dX11_fits_0 : decode cX11_fits 0 = .ok (.iconst 1, 1) := by decide +kernel
theorem dX11_fits_1 : decode cX11_fits 1 = .ok (.istore_n 3, 1) := by decide +kernel
theorem dX11_fits_2 : decode cX11_fits 2 = .ok (.iconst 0, 1) := by decide +kernel
theorem dX11_fits_3 : decode cX11_fits 3 = .ok (.istore 4, 2) := by decide +kernel
theorem dX11_fits_5 : decode cX11_fits 5 = .ok (.iload 4, 2) := by decide +kernel
theorem dX11_fits_7 : decode cX11_fits 7 = .ok (.aload_n 0, 1) := by decide +kernel
theorem dX11_fits_8 : decode cX11_fits 8 = .ok (.getfield 263, 3) := by decide +kernel
theorem dX11_fits_11 : decode cX11_fits 11 = .ok (.if_icmp .ge 58, 3) := by decide +kernel
theorem dX11_fits_14 : decode cX11_fits 14 = .ok (.iload_n 3, 1) := by decide +kernel
theorem dX11_fits_15 : decode cX11_fits 15 = .ok (.ifCond .eq 46, 3) := by decide +kernel
theorem dX11_fits_18 : decode cX11_fits 18 = .ok (.aload_n 0, 1) := by decide +kernel
theorem dX11_fits_19 : decode cX11_fits 19 = .ok (.iload_n 1, 1) := by decide +kernel
theorem dX11_fits_20 : decode cX11_fits 20 = .ok (.iload_n 2, 1) := by decide +kernel
theorem dX11_fits_21 : decode cX11_fits 21 = .ok (.aload_n 0, 1) := by decide +kernel
theorem dX11_fits_22 : decode cX11_fits 22 = .ok (.getfield 40, 3) := by decide +kernel
theorem dX11_fits_25 : decode cX11_fits 25 = .ok (.iload 4, 2) := by decide +kernel
theorem dX11_fits_27 : decode cX11_fits 27 = .ok (.iaload, 1) := by decide +kernel
theorem dX11_fits_28 : decode cX11_fits 28 = .ok (.aload_n 0, 1) := by decide +kernel
theorem dX11_fits_29 : decode cX11_fits 29 = .ok (.getfield 43, 3) := by decide +kernel
theorem dX11_fits_32 : decode cX11_fits 32 = .ok (.iload 4, 2) := by decide +kernel
theorem dX11_fits_34 : decode cX11_fits 34 = .ok (.iaload, 1) := by decide +kernel
theorem dX11_fits_35 : decode cX11_fits 35 = .ok (.invokevirtual 266, 3) := by decide +kernel
theorem dX11_fits_38 : decode cX11_fits 38 = .ok (.aload_n 0, 1) := by decide +kernel
theorem dX11_fits_39 : decode cX11_fits 39 = .ok (.getfield 46, 3) := by decide +kernel
theorem dX11_fits_42 : decode cX11_fits 42 = .ok (.iload 4, 2) := by decide +kernel
theorem dX11_fits_44 : decode cX11_fits 44 = .ok (.iaload, 1) := by decide +kernel
theorem dX11_fits_45 : decode cX11_fits 45 = .ok (.iconst 1, 1) := by decide +kernel
theorem dX11_fits_46 : decode cX11_fits 46 = .ok (.if_icmp .ne 7, 3) := by decide +kernel
theorem dX11_fits_49 : decode cX11_fits 49 = .ok (.iconst 1, 1) := by decide +kernel
theorem dX11_fits_50 : decode cX11_fits 50 = .ok (.goto 4, 3) := by decide +kernel
theorem dX11_fits_53 : decode cX11_fits 53 = .ok (.iconst 0, 1) := by decide +kernel
theorem dX11_fits_54 : decode cX11_fits 54 = .ok (.if_icmp .ne 7, 3) := by decide +kernel
theorem dX11_fits_57 : decode cX11_fits 57 = .ok (.iconst 1, 1) := by decide +kernel
theorem dX11_fits_58 : decode cX11_fits 58 = .ok (.goto 4, 3) := by decide +kernel
theorem dX11_fits_61 : decode cX11_fits 61 = .ok (.iconst 0, 1) := by decide +kernel
theorem dX11_fits_62 : decode cX11_fits 62 = .ok (.istore_n 3, 1) := by decide +kernel
theorem dX11_fits_63 : decode cX11_fits 63 = .ok (.iinc 4 1, 3) := by decide +kernel
theorem dX11_fits_66 : decode cX11_fits 66 = .ok (.goto (-61), 3) := by decide +kernel
theorem dX11_fits_69 : decode cX11_fits 69 = .ok (.iload_n 3, 1) := by decide +kernel
theorem dX11_fits_70 : decode cX11_fits 70 = .ok (.ireturn, 1) := by decide +kernel
theorem dX11_whose_0 : decode cX11_whose 0 = .ok (.iconst 0, 1) := by decide +kernel
theorem dX11_whose_1 : decode cX11_whose 1 = .ok (.istore_n 2, 1) := by decide +kernel
theorem dX11_whose_2 : decode cX11_whose 2 = .ok (.iconst 0, 1) := by decide +kernel
theorem dX11_whose_3 : decode cX11_whose 3 = .ok (.istore_n 3, 1) := by decide +kernel
theorem dX11_whose_4 : decode cX11_whose 4 = .ok (.iload_n 3, 1) := by decide +kernel
theorem dX11_whose_5 : decode cX11_whose 5 = .ok (.sipush 160, 3) := by decide +kernel
theorem dX11_whose_8 : decode cX11_whose 8 = .ok (.if_icmp .ge 49, 3) := by decide +kernel
theorem dX11_whose_11 : decode cX11_whose 11 = .ok (.iconst 1, 1) := by decide +kernel
theorem dX11_whose_12 : decode cX11_whose 12 = .ok (.iload_n 3, 1) := by decide +kernel
theorem dX11_whose_13 : decode cX11_whose 13 = .ok (.bipush 20, 2) := by decide +kernel
theorem dX11_whose_15 : decode cX11_whose 15 = .ok (.irem, 1) := by decide +kernel
theorem dX11_whose_16 : decode cX11_whose 16 = .ok (.iadd, 1) := by decide +kernel
theorem dX11_whose_17 : decode cX11_whose 17 = .ok (.istore 4, 2) := by decide +kernel
theorem dX11_whose_19 : decode cX11_whose 19 = .ok (.aload_n 0, 1) := by decide +kernel
theorem dX11_whose_20 : decode cX11_whose 20 = .ok (.iload_n 3, 1) := by decide +kernel
theorem dX11_whose_21 : decode cX11_whose 21 = .ok (.bipush 20, 2) := by decide +kernel
theorem dX11_whose_23 : decode cX11_whose 23 = .ok (.idiv, 1) := by decide +kernel
theorem dX11_whose_24 : decode cX11_whose 24 = .ok (.iload 4, 2) := by decide +kernel
theorem dX11_whose_26 : decode cX11_whose 26 = .ok (.invokevirtual 270, 3) := by decide +kernel
theorem dX11_whose_29 : decode cX11_whose 29 = .ok (.ifCond .eq 22, 3) := by decide +kernel
theorem dX11_whose_32 : decode cX11_whose 32 = .ok (.iload_n 2, 1) := by decide +kernel
theorem dX11_whose_33 : decode cX11_whose 33 = .ok (.iload_n 1, 1) := by decide +kernel
theorem dX11_whose_34 : decode cX11_whose 34 = .ok (.if_icmp .ne 14, 3) := by decide +kernel
theorem dX11_whose_37 : decode cX11_whose 37 = .ok (.bipush 100, 2) := by decide +kernel
theorem dX11_whose_39 : decode cX11_whose 39 = .ok (.iload_n 3, 1) := by decide +kernel
theorem dX11_whose_40 : decode cX11_whose 40 = .ok (.bipush 20, 2) := by decide +kernel
theorem dX11_whose_42 : decode cX11_whose 42 = .ok (.idiv, 1) := by decide +kernel
theorem dX11_whose_43 : decode cX11_whose 43 = .ok (.imul, 1) := by decide +kernel
theorem dX11_whose_44 : decode cX11_whose 44 = .ok (.iload 4, 2) := by decide +kernel
theorem dX11_whose_46 : decode cX11_whose 46 = .ok (.iadd, 1) := by decide +kernel
theorem dX11_whose_47 : decode cX11_whose 47 = .ok (.ireturn, 1) := by decide +kernel
theorem dX11_whose_48 : decode cX11_whose 48 = .ok (.iinc 2 1, 3) := by decide +kernel
theorem dX11_whose_51 : decode cX11_whose 51 = .ok (.iinc 3 1, 3) := by decide +kernel
theorem dX11_whose_54 : decode cX11_whose 54 = .ok (.goto (-50), 3) := by decide +kernel
theorem dX11_whose_57 : decode cX11_whose 57 = .ok (.iload_n 1, 1) := by decide +kernel
theorem dX11_whose_58 : decode cX11_whose 58 = .ok (.iconst (-1), 1) := by decide +kernel
theorem dX11_whose_59 : decode cX11_whose 59 = .ok (.if_icmp .ne 7, 3) := by decide +kernel
theorem dX11_whose_62 : decode cX11_whose 62 = .ok (.iload_n 2, 1) := by decide +kernel
theorem dX11_whose_63 : decode cX11_whose 63 = .ok (.goto 5, 3) := by decide +kernel
theorem dX11_whose_66 : decode cX11_whose 66 = .ok (.bipush (-6), 2) := by decide +kernel
theorem dX11_whose_68 : decode cX11_whose 68 = .ok (.ireturn, 1) := by decide +kernel
theorem dX11_suspects_0 : decode cX11_suspects 0 = .ok (.iconst 0, 1) := by decide +kernel
theorem dX11_suspects_1 : decode cX11_suspects 1 = .ok (.istore_n 1, 1) := by decide +kernel
theorem dX11_suspects_2 : decode cX11_suspects 2 = .ok (.iconst 0, 1) := by decide +kernel
theorem dX11_suspects_3 : decode cX11_suspects 3 = .ok (.istore_n 2, 1) := by decide +kernel
theorem dX11_suspects_4 : decode cX11_suspects 4 = .ok (.iload_n 2, 1) := by decide +kernel
theorem dX11_suspects_5 : decode cX11_suspects 5 = .ok (.sipush 160, 3) := by decide +kernel
theorem dX11_suspects_8 : decode cX11_suspects 8 = .ok (.if_icmp .ge 39, 3) := by decide +kernel
theorem dX11_suspects_11 : decode cX11_suspects 11 = .ok (.iload_n 1, 1) := by decide +kernel
theorem dX11_suspects_12 : decode cX11_suspects 12 = .ok (.aload_n 0, 1) := by decide +kernel
theorem dX11_suspects_13 : decode cX11_suspects 13 = .ok (.iload_n 2, 1) := by decide +kernel
theorem dX11_suspects_14 : decode cX11_suspects 14 = .ok (.bipush 20, 2) := by decide +kernel
theorem dX11_suspects_16 : decode cX11_suspects 16 = .ok (.idiv, 1) := by decide +kernel
theorem dX11_suspects_17 : decode cX11_suspects 17 = .ok (.iconst 1, 1) := by decide +kernel
theorem dX11_suspects_18 : decode cX11_suspects 18 = .ok (.iload_n 2, 1) := by decide +kernel
theorem dX11_suspects_19 : decode cX11_suspects 19 = .ok (.bipush 20, 2) := by decide +kernel
theorem dX11_suspects_21 : decode cX11_suspects 21 = .ok (.irem, 1) := by decide +kernel
theorem dX11_suspects_22 : decode cX11_suspects 22 = .ok (.iadd, 1) := by decide +kernel
theorem dX11_suspects_23 : decode cX11_suspects 23 = .ok (.invokevirtual 270, 3) := by decide +kernel
theorem dX11_suspects_26 : decode cX11_suspects 26 = .ok (.ifCond .eq 12, 3) := by decide +kernel
theorem dX11_suspects_29 : decode cX11_suspects 29 = .ok (.iconst 1, 1) := by decide +kernel
theorem dX11_suspects_30 : decode cX11_suspects 30 = .ok (.iload_n 2, 1) := by decide +kernel
theorem dX11_suspects_31 : decode cX11_suspects 31 = .ok (.bipush 20, 2) := by decide +kernel
theorem dX11_suspects_33 : decode cX11_suspects 33 = .ok (.idiv, 1) := by decide +kernel
theorem dX11_suspects_34 : decode cX11_suspects 34 = .ok (.ishl, 1) := by decide +kernel
theorem dX11_suspects_35 : decode cX11_suspects 35 = .ok (.goto 4, 3) := by decide +kernel
theorem dX11_suspects_38 : decode cX11_suspects 38 = .ok (.iconst 0, 1) := by decide +kernel
theorem dX11_suspects_39 : decode cX11_suspects 39 = .ok (.ior, 1) := by decide +kernel
theorem dX11_suspects_40 : decode cX11_suspects 40 = .ok (.istore_n 1, 1) := by decide +kernel
theorem dX11_suspects_41 : decode cX11_suspects 41 = .ok (.iinc 2 1, 3) := by decide +kernel
theorem dX11_suspects_44 : decode cX11_suspects 44 = .ok (.goto (-40), 3) := by decide +kernel
theorem dX11_suspects_47 : decode cX11_suspects 47 = .ok (.iload_n 1, 1) := by decide +kernel
theorem dX11_suspects_48 : decode cX11_suspects 48 = .ok (.ireturn, 1) := by decide +kernel
theorem dX11_mostLeft_0 : decode cX11_mostLeft 0 = .ok (.iconst 0, 1) := by decide +kernel
theorem dX11_mostLeft_1 : decode cX11_mostLeft 1 = .ok (.istore_n 3, 1) := by decide +kernel
theorem dX11_mostLeft_2 : decode cX11_mostLeft 2 = .ok (.iconst 0, 1) := by decide +kernel
theorem dX11_mostLeft_3 : decode cX11_mostLeft 3 = .ok (.istore 4, 2) := by decide +kernel
theorem dX11_mostLeft_5 : decode cX11_mostLeft 5 = .ok (.iconst 0, 1) := by decide +kernel
theorem dX11_mostLeft_6 : decode cX11_mostLeft 6 = .ok (.istore 5, 2) := by decide +kernel
theorem dX11_mostLeft_8 : decode cX11_mostLeft 8 = .ok (.iload 5, 2) := by decide +kernel
theorem dX11_mostLeft_10 : decode cX11_mostLeft 10 = .ok (.sipush 160, 3) := by decide +kernel
theorem dX11_mostLeft_13 : decode cX11_mostLeft 13 = .ok (.if_icmp .ge 75, 3) := by decide +kernel
theorem dX11_mostLeft_16 : decode cX11_mostLeft 16 = .ok (.iconst 1, 1) := by decide +kernel
theorem dX11_mostLeft_17 : decode cX11_mostLeft 17 = .ok (.iload 5, 2) := by decide +kernel
theorem dX11_mostLeft_19 : decode cX11_mostLeft 19 = .ok (.bipush 20, 2) := by decide +kernel
theorem dX11_mostLeft_21 : decode cX11_mostLeft 21 = .ok (.irem, 1) := by decide +kernel
theorem dX11_mostLeft_22 : decode cX11_mostLeft 22 = .ok (.iadd, 1) := by decide +kernel
theorem dX11_mostLeft_23 : decode cX11_mostLeft 23 = .ok (.istore 6, 2) := by decide +kernel
theorem dX11_mostLeft_25 : decode cX11_mostLeft 25 = .ok (.aload_n 0, 1) := by decide +kernel
theorem dX11_mostLeft_26 : decode cX11_mostLeft 26 = .ok (.iload 5, 2) := by decide +kernel
theorem dX11_mostLeft_28 : decode cX11_mostLeft 28 = .ok (.bipush 20, 2) := by decide +kernel
theorem dX11_mostLeft_30 : decode cX11_mostLeft 30 = .ok (.idiv, 1) := by decide +kernel
theorem dX11_mostLeft_31 : decode cX11_mostLeft 31 = .ok (.iload 6, 2) := by decide +kernel
theorem dX11_mostLeft_33 : decode cX11_mostLeft 33 = .ok (.invokevirtual 270, 3) := by decide +kernel
theorem dX11_mostLeft_36 : decode cX11_mostLeft 36 = .ok (.ifCond .eq 46, 3) := by decide +kernel
theorem dX11_mostLeft_39 : decode cX11_mostLeft 39 = .ok (.aload_n 0, 1) := by decide +kernel
theorem dX11_mostLeft_40 : decode cX11_mostLeft 40 = .ok (.iload 5, 2) := by decide +kernel
theorem dX11_mostLeft_42 : decode cX11_mostLeft 42 = .ok (.bipush 20, 2) := by decide +kernel
theorem dX11_mostLeft_44 : decode cX11_mostLeft 44 = .ok (.idiv, 1) := by decide +kernel
theorem dX11_mostLeft_45 : decode cX11_mostLeft 45 = .ok (.iload 6, 2) := by decide +kernel
theorem dX11_mostLeft_47 : decode cX11_mostLeft 47 = .ok (.iload_n 1, 1) := by decide +kernel
theorem dX11_mostLeft_48 : decode cX11_mostLeft 48 = .ok (.iload_n 2, 1) := by decide +kernel
theorem dX11_mostLeft_49 : decode cX11_mostLeft 49 = .ok (.invokevirtual 266, 3) := by decide +kernel
theorem dX11_mostLeft_52 : decode cX11_mostLeft 52 = .ok (.istore 7, 2) := by decide +kernel
theorem dX11_mostLeft_54 : decode cX11_mostLeft 54 = .ok (.iload_n 3, 1) := by decide +kernel
theorem dX11_mostLeft_55 : decode cX11_mostLeft 55 = .ok (.iload 7, 2) := by decide +kernel
theorem dX11_mostLeft_57 : decode cX11_mostLeft 57 = .ok (.ifCond .eq 7, 3) := by decide +kernel
theorem dX11_mostLeft_60 : decode cX11_mostLeft 60 = .ok (.iconst 1, 1) := by decide +kernel
theorem dX11_mostLeft_61 : decode cX11_mostLeft 61 = .ok (.goto 4, 3) := by decide +kernel
theorem dX11_mostLeft_64 : decode cX11_mostLeft 64 = .ok (.iconst 0, 1) := by decide +kernel
theorem dX11_mostLeft_65 : decode cX11_mostLeft 65 = .ok (.iadd, 1) := by decide +kernel
theorem dX11_mostLeft_66 : decode cX11_mostLeft 66 = .ok (.istore_n 3, 1) := by decide +kernel
theorem dX11_mostLeft_67 : decode cX11_mostLeft 67 = .ok (.iload 4, 2) := by decide +kernel
theorem dX11_mostLeft_69 : decode cX11_mostLeft 69 = .ok (.iload 7, 2) := by decide +kernel
theorem dX11_mostLeft_71 : decode cX11_mostLeft 71 = .ok (.ifCond .eq 7, 3) := by decide +kernel
theorem dX11_mostLeft_74 : decode cX11_mostLeft 74 = .ok (.iconst 0, 1) := by decide +kernel
theorem dX11_mostLeft_75 : decode cX11_mostLeft 75 = .ok (.goto 4, 3) := by decide +kernel
theorem dX11_mostLeft_78 : decode cX11_mostLeft 78 = .ok (.iconst 1, 1) := by decide +kernel
theorem dX11_mostLeft_79 : decode cX11_mostLeft 79 = .ok (.iadd, 1) := by decide +kernel
theorem dX11_mostLeft_80 : decode cX11_mostLeft 80 = .ok (.istore 4, 2) := by decide +kernel
theorem dX11_mostLeft_82 : decode cX11_mostLeft 82 = .ok (.iinc 5 1, 3) := by decide +kernel
theorem dX11_mostLeft_85 : decode cX11_mostLeft 85 = .ok (.goto (-77), 3) := by decide +kernel
theorem dX11_mostLeft_88 : decode cX11_mostLeft 88 = .ok (.iload_n 3, 1) := by decide +kernel
theorem dX11_mostLeft_89 : decode cX11_mostLeft 89 = .ok (.iload 4, 2) := by decide +kernel
theorem dX11_mostLeft_91 : decode cX11_mostLeft 91 = .ok (.if_icmp .le 7, 3) := by decide +kernel
theorem dX11_mostLeft_94 : decode cX11_mostLeft 94 = .ok (.iload_n 3, 1) := by decide +kernel
theorem dX11_mostLeft_95 : decode cX11_mostLeft 95 = .ok (.goto 5, 3) := by decide +kernel
theorem dX11_mostLeft_98 : decode cX11_mostLeft 98 = .ok (.iload 4, 2) := by decide +kernel
theorem dX11_mostLeft_100 : decode cX11_mostLeft 100 = .ok (.ireturn, 1) := by decide +kernel
theorem dX11_next_0 : decode cX11_next 0 = .ok (.iload_n 1, 1) := by decide +kernel
theorem dX11_next_1 : decode cX11_next 1 = .ok (.i2l, 1) := by decide +kernel
theorem dX11_next_2 : decode cX11_next 2 = .ok (.lconst 0, 1) := by decide +kernel
theorem dX11_next_3 : decode cX11_next 3 = .ok (.ldc2_w 129, 3) := by decide +kernel
theorem dX11_next_6 : decode cX11_next 6 = .ok (.invokestatic 95, 3) := by decide +kernel
theorem dX11_next_9 : decode cX11_next 9 = .ok (.ifCond .eq 13, 3) := by decide +kernel
theorem dX11_next_12 : decode cX11_next 12 = .ok (.iload_n 2, 1) := by decide +kernel
theorem dX11_next_13 : decode cX11_next 13 = .ok (.i2l, 1) := by decide +kernel
theorem dX11_next_14 : decode cX11_next 14 = .ok (.lconst 0, 1) := by decide +kernel
theorem dX11_next_15 : decode cX11_next 15 = .ok (.lconst 1, 1) := by decide +kernel
theorem dX11_next_16 : decode cX11_next 16 = .ok (.invokestatic 95, 3) := by decide +kernel
theorem dX11_next_19 : decode cX11_next 19 = .ok (.ifCond .ne 6, 3) := by decide +kernel
theorem dX11_next_22 : decode cX11_next 22 = .ok (.bipush (-2), 2) := by decide +kernel
theorem dX11_next_24 : decode cX11_next 24 = .ok (.ireturn, 1) := by decide +kernel
theorem dX11_next_25 : decode cX11_next 25 = .ok (.aload_n 0, 1) := by decide +kernel
theorem dX11_next_26 : decode cX11_next 26 = .ok (.invokevirtual 274, 3) := by decide +kernel
theorem dX11_next_29 : decode cX11_next 29 = .ok (.ifCond .ne 6, 3) := by decide +kernel
theorem dX11_next_32 : decode cX11_next 32 = .ok (.bipush (-6), 2) := by decide +kernel
theorem dX11_next_34 : decode cX11_next 34 = .ok (.ireturn, 1) := by decide +kernel
theorem dX11_next_35 : decode cX11_next 35 = .ok (.iconst 0, 1) := by decide +kernel
theorem dX11_next_36 : decode cX11_next 36 = .ok (.istore_n 3, 1) := by decide +kernel
theorem dX11_next_37 : decode cX11_next 37 = .ok (.iconst 1, 1) := by decide +kernel
theorem dX11_next_38 : decode cX11_next 38 = .ok (.istore 4, 2) := by decide +kernel
theorem dX11_next_40 : decode cX11_next 40 = .ok (.iload 4, 2) := by decide +kernel
theorem dX11_next_42 : decode cX11_next 42 = .ok (.bipush 8, 2) := by decide +kernel
theorem dX11_next_44 : decode cX11_next 44 = .ok (.if_icmp .ge 32, 3) := by decide +kernel
theorem dX11_next_47 : decode cX11_next 47 = .ok (.aload_n 0, 1) := by decide +kernel
theorem dX11_next_48 : decode cX11_next 48 = .ok (.iload 4, 2) := by decide +kernel
theorem dX11_next_50 : decode cX11_next 50 = .ok (.iload_n 1, 1) := by decide +kernel
theorem dX11_next_51 : decode cX11_next 51 = .ok (.invokevirtual 277, 3) := by decide +kernel
theorem dX11_next_54 : decode cX11_next 54 = .ok (.aload_n 0, 1) := by decide +kernel
theorem dX11_next_55 : decode cX11_next 55 = .ok (.iload_n 3, 1) := by decide +kernel
theorem dX11_next_56 : decode cX11_next 56 = .ok (.iload_n 1, 1) := by decide +kernel
theorem dX11_next_57 : decode cX11_next 57 = .ok (.invokevirtual 277, 3) := by decide +kernel
theorem dX11_next_60 : decode cX11_next 60 = .ok (.if_icmp .ge 8, 3) := by decide +kernel
theorem dX11_next_63 : decode cX11_next 63 = .ok (.iload 4, 2) := by decide +kernel
theorem dX11_next_65 : decode cX11_next 65 = .ok (.goto 4, 3) := by decide +kernel
theorem dX11_next_68 : decode cX11_next 68 = .ok (.iload_n 3, 1) := by decide +kernel
theorem dX11_next_69 : decode cX11_next 69 = .ok (.istore_n 3, 1) := by decide +kernel
theorem dX11_next_70 : decode cX11_next 70 = .ok (.iinc 4 1, 3) := by decide +kernel
theorem dX11_next_73 : decode cX11_next 73 = .ok (.goto (-33), 3) := by decide +kernel
theorem dX11_next_76 : decode cX11_next 76 = .ok (.iload_n 2, 1) := by decide +kernel
theorem dX11_next_77 : decode cX11_next 77 = .ok (.ifCond .ne 7, 3) := by decide +kernel
theorem dX11_next_80 : decode cX11_next 80 = .ok (.iload_n 3, 1) := by decide +kernel
theorem dX11_next_81 : decode cX11_next 81 = .ok (.goto 9, 3) := by decide +kernel
theorem dX11_next_84 : decode cX11_next 84 = .ok (.aload_n 0, 1) := by decide +kernel
theorem dX11_next_85 : decode cX11_next 85 = .ok (.iload_n 3, 1) := by decide +kernel
theorem dX11_next_86 : decode cX11_next 86 = .ok (.iload_n 1, 1) := by decide +kernel
theorem dX11_next_87 : decode cX11_next 87 = .ok (.invokevirtual 277, 3) := by decide +kernel
theorem dX11_next_90 : decode cX11_next 90 = .ok (.ireturn, 1) := by decide +kernel
theorem dX11_year_0 : decode cX11_year 0 = .ok (.iload_n 1, 1) := by decide +kernel
theorem dX11_year_1 : decode cX11_year 1 = .ok (.i2l, 1) := by decide +kernel
theorem dX11_year_2 : decode cX11_year 2 = .ok (.lconst 0, 1) := by decide +kernel
theorem dX11_year_3 : decode cX11_year 3 = .ok (.ldc2_w 104, 3) := by decide +kernel
theorem dX11_year_6 : decode cX11_year 6 = .ok (.invokestatic 95, 3) := by decide +kernel
theorem dX11_year_9 : decode cX11_year 9 = .ok (.ifCond .eq 27, 3) := by decide +kernel
theorem dX11_year_12 : decode cX11_year 12 = .ok (.iload_n 2, 1) := by decide +kernel
theorem dX11_year_13 : decode cX11_year 13 = .ok (.i2l, 1) := by decide +kernel
theorem dX11_year_14 : decode cX11_year 14 = .ok (.lconst 1, 1) := by decide +kernel
theorem dX11_year_15 : decode cX11_year 15 = .ok (.ldc2_w 106, 3) := by decide +kernel
theorem dX11_year_18 : decode cX11_year 18 = .ok (.invokestatic 95, 3) := by decide +kernel
theorem dX11_year_21 : decode cX11_year 21 = .ok (.ifCond .eq 15, 3) := by decide +kernel
theorem dX11_year_24 : decode cX11_year 24 = .ok (.iload_n 3, 1) := by decide +kernel
theorem dX11_year_25 : decode cX11_year 25 = .ok (.i2l, 1) := by decide +kernel
theorem dX11_year_26 : decode cX11_year 26 = .ok (.lconst 0, 1) := by decide +kernel
theorem dX11_year_27 : decode cX11_year 27 = .ok (.ldc2_w 225, 3) := by decide +kernel
theorem dX11_year_30 : decode cX11_year 30 = .ok (.invokestatic 95, 3) := by decide +kernel
theorem dX11_year_33 : decode cX11_year 33 = .ok (.ifCond .ne 6, 3) := by decide +kernel
theorem dX11_year_36 : decode cX11_year 36 = .ok (.bipush (-2), 2) := by decide +kernel
theorem dX11_year_38 : decode cX11_year 38 = .ok (.ireturn, 1) := by decide +kernel
theorem dX11_year_39 : decode cX11_year 39 = .ok (.aload_n 0, 1) := by decide +kernel
theorem dX11_year_40 : decode cX11_year 40 = .ok (.aload_n 0, 1) := by decide +kernel
theorem dX11_year_41 : decode cX11_year 41 = .ok (.getfield 64, 3) := by decide +kernel
theorem dX11_year_44 : decode cX11_year 44 = .ok (.invokevirtual 215, 3) := by decide +kernel
theorem dX11_year_47 : decode cX11_year 47 = .ok (.aload_n 0, 1) := by decide +kernel
theorem dX11_year_48 : decode cX11_year 48 = .ok (.invokevirtual 195, 3) := by decide +kernel
theorem dX11_year_51 : decode cX11_year 51 = .ok (.iload_n 1, 1) := by decide +kernel
theorem dX11_year_52 : decode cX11_year 52 = .ok (.istore 4, 2) := by decide +kernel
theorem dX11_year_54 : decode cX11_year 54 = .ok (.iconst 0, 1) := by decide +kernel
theorem dX11_year_55 : decode cX11_year 55 = .ok (.istore 5, 2) := by decide +kernel
theorem dX11_year_57 : decode cX11_year 57 = .ok (.iload 5, 2) := by decide +kernel
theorem dX11_year_59 : decode cX11_year 59 = .ok (.iload_n 2, 1) := by decide +kernel
theorem dX11_year_60 : decode cX11_year 60 = .ok (.if_icmp .ge 122, 3) := by decide +kernel
theorem dX11_year_63 : decode cX11_year 63 = .ok (.ldc2_w 280, 3) := by decide +kernel
theorem dX11_year_66 : decode cX11_year 66 = .ok (.iload 4, 2) := by decide +kernel
theorem dX11_year_68 : decode cX11_year 68 = .ok (.i2l, 1) := by decide +kernel
theorem dX11_year_69 : decode cX11_year 69 = .ok (.lmul, 1) := by decide +kernel
theorem dX11_year_70 : decode cX11_year 70 = .ok (.ldc2_w 282, 3) := by decide +kernel
theorem dX11_year_73 : decode cX11_year 73 = .ok (.ladd, 1) := by decide +kernel
theorem dX11_year_74 : decode cX11_year 74 = .ok (.ldc2_w 284, 3) := by decide +kernel
theorem dX11_year_77 : decode cX11_year 77 = .ok (.lrem, 1) := by decide +kernel
theorem dX11_year_78 : decode cX11_year 78 = .ok (.l2i, 1) := by decide +kernel
theorem dX11_year_79 : decode cX11_year 79 = .ok (.istore 4, 2) := by decide +kernel
theorem dX11_year_81 : decode cX11_year 81 = .ok (.iload 4, 2) := by decide +kernel
theorem dX11_year_83 : decode cX11_year 83 = .ok (.iconst 5, 1) := by decide +kernel
theorem dX11_year_84 : decode cX11_year 84 = .ok (.idiv, 1) := by decide +kernel
theorem dX11_year_85 : decode cX11_year 85 = .ok (.iconst 4, 1) := by decide +kernel
theorem dX11_year_86 : decode cX11_year 86 = .ok (.irem, 1) := by decide +kernel
theorem dX11_year_87 : decode cX11_year 87 = .ok (.istore 6, 2) := by decide +kernel
theorem dX11_year_89 : decode cX11_year 89 = .ok (.iload 6, 2) := by decide +kernel
theorem dX11_year_91 : decode cX11_year 91 = .ok (.ifCond .ne 14, 3) := by decide +kernel
theorem dX11_year_94 : decode cX11_year 94 = .ok (.iload 4, 2) := by decide +kernel
theorem dX11_year_96 : decode cX11_year 96 = .ok (.bipush 20, 2) := by decide +kernel
theorem dX11_year_98 : decode cX11_year 98 = .ok (.idiv, 1) := by decide +kernel
theorem dX11_year_99 : decode cX11_year 99 = .ok (.bipush 8, 2) := by decide +kernel
theorem dX11_year_101 : decode cX11_year 101 = .ok (.irem, 1) := by decide +kernel
theorem dX11_year_102 : decode cX11_year 102 = .ok (.goto 13, 3) := by decide +kernel
theorem dX11_year_105 : decode cX11_year 105 = .ok (.iconst 1, 1) := by decide +kernel
theorem dX11_year_106 : decode cX11_year 106 = .ok (.iload 4, 2) := by decide +kernel
theorem dX11_year_108 : decode cX11_year 108 = .ok (.bipush 20, 2) := by decide +kernel
theorem dX11_year_110 : decode cX11_year 110 = .ok (.idiv, 1) := by decide +kernel
theorem dX11_year_111 : decode cX11_year 111 = .ok (.bipush 9, 2) := by decide +kernel
theorem dX11_year_113 : decode cX11_year 113 = .ok (.irem, 1) := by decide +kernel
theorem dX11_year_114 : decode cX11_year 114 = .ok (.iadd, 1) := by decide +kernel
theorem dX11_year_115 : decode cX11_year 115 = .ok (.istore 7, 2) := by decide +kernel
theorem dX11_year_117 : decode cX11_year 117 = .ok (.iload 6, 2) := by decide +kernel
theorem dX11_year_119 : decode cX11_year 119 = .ok (.ifCond .ne 7, 3) := by decide +kernel
theorem dX11_year_122 : decode cX11_year 122 = .ok (.iconst 0, 1) := by decide +kernel
theorem dX11_year_123 : decode cX11_year 123 = .ok (.goto 24, 3) := by decide +kernel
theorem dX11_year_126 : decode cX11_year 126 = .ok (.iload 6, 2) := by decide +kernel
theorem dX11_year_128 : decode cX11_year 128 = .ok (.iconst 1, 1) := by decide +kernel
theorem dX11_year_129 : decode cX11_year 129 = .ok (.if_icmp .ne 7, 3) := by decide +kernel
theorem dX11_year_132 : decode cX11_year 132 = .ok (.iconst 2, 1) := by decide +kernel
theorem dX11_year_133 : decode cX11_year 133 = .ok (.goto 14, 3) := by decide +kernel
theorem dX11_year_136 : decode cX11_year 136 = .ok (.iload 6, 2) := by decide +kernel
theorem dX11_year_138 : decode cX11_year 138 = .ok (.iconst 2, 1) := by decide +kernel
theorem dX11_year_139 : decode cX11_year 139 = .ok (.if_icmp .ne 7, 3) := by decide +kernel
theorem dX11_year_142 : decode cX11_year 142 = .ok (.iconst 3, 1) := by decide +kernel
theorem dX11_year_143 : decode cX11_year 143 = .ok (.goto 4, 3) := by decide +kernel
theorem dX11_year_146 : decode cX11_year 146 = .ok (.iconst 4, 1) := by decide +kernel
theorem dX11_year_147 : decode cX11_year 147 = .ok (.istore 8, 2) := by decide +kernel
theorem dX11_year_149 : decode cX11_year 149 = .ok (.aload_n 0, 1) := by decide +kernel
theorem dX11_year_150 : decode cX11_year 150 = .ok (.iload 8, 2) := by decide +kernel
theorem dX11_year_152 : decode cX11_year 152 = .ok (.iload 4, 2) := by decide +kernel
theorem dX11_year_154 : decode cX11_year 154 = .ok (.iconst 5, 1) := by decide +kernel
theorem dX11_year_155 : decode cX11_year 155 = .ok (.irem, 1) := by decide +kernel
theorem dX11_year_156 : decode cX11_year 156 = .ok (.iload 7, 2) := by decide +kernel
theorem dX11_year_158 : decode cX11_year 158 = .ok (.invokevirtual 204, 3) := by decide +kernel
theorem dX11_year_161 : decode cX11_year 161 = .ok (.ifCond .ne 15, 3) := by decide +kernel
theorem dX11_year_164 : decode cX11_year 164 = .ok (.aload_n 0, 1) := by decide +kernel
theorem dX11_year_165 : decode cX11_year 165 = .ok (.iload 8, 2) := by decide +kernel
theorem dX11_year_167 : decode cX11_year 167 = .ok (.iload 4, 2) := by decide +kernel
theorem dX11_year_169 : decode cX11_year 169 = .ok (.iconst 5, 1) := by decide +kernel
theorem dX11_year_170 : decode cX11_year 170 = .ok (.irem, 1) := by decide +kernel
theorem dX11_year_171 : decode cX11_year 171 = .ok (.iload 7, 2) := by decide +kernel
theorem dX11_year_173 : decode cX11_year 173 = .ok (.invokevirtual 208, 3) := by decide +kernel
theorem dX11_year_176 : decode cX11_year 176 = .ok (.iinc 5 1, 3) := by decide +kernel
theorem dX11_year_179 : decode cX11_year 179 = .ok (.goto (-122), 3) := by decide +kernel
theorem dX11_year_182 : decode cX11_year 182 = .ok (.iconst 0, 1) := by decide +kernel
theorem dX11_year_183 : decode cX11_year 183 = .ok (.istore 5, 2) := by decide +kernel
theorem dX11_year_185 : decode cX11_year 185 = .ok (.iconst 0, 1) := by decide +kernel
theorem dX11_year_186 : decode cX11_year 186 = .ok (.istore 6, 2) := by decide +kernel
theorem dX11_year_188 : decode cX11_year 188 = .ok (.iload 6, 2) := by decide +kernel
theorem dX11_year_190 : decode cX11_year 190 = .ok (.iconst 5, 1) := by decide +kernel
theorem dX11_year_191 : decode cX11_year 191 = .ok (.if_icmp .ge 38, 3) := by decide +kernel
theorem dX11_year_194 : decode cX11_year 194 = .ok (.iload 5, 2) := by decide +kernel
theorem dX11_year_196 : decode cX11_year 196 = .ok (.aload_n 0, 1) := by decide +kernel
theorem dX11_year_197 : decode cX11_year 197 = .ok (.iload 6, 2) := by decide +kernel
theorem dX11_year_199 : decode cX11_year 199 = .ok (.invokevirtual 118, 3) := by decide +kernel
theorem dX11_year_202 : decode cX11_year 202 = .ok (.ifCond .eq 17, 3) := by decide +kernel
theorem dX11_year_205 : decode cX11_year 205 = .ok (.aload_n 0, 1) := by decide +kernel
theorem dX11_year_206 : decode cX11_year 206 = .ok (.getfield 19, 3) := by decide +kernel
theorem dX11_year_209 : decode cX11_year 209 = .ok (.iload 6, 2) := by decide +kernel
theorem dX11_year_211 : decode cX11_year 211 = .ok (.iaload, 1) := by decide +kernel
theorem dX11_year_212 : decode cX11_year 212 = .ok (.ifCond .lt 7, 3) := by decide +kernel
theorem dX11_year_215 : decode cX11_year 215 = .ok (.iconst 1, 1) := by decide +kernel
theorem dX11_year_216 : decode cX11_year 216 = .ok (.goto 4, 3) := by decide +kernel
theorem dX11_year_219 : decode cX11_year 219 = .ok (.iconst 0, 1) := by decide +kernel
theorem dX11_year_220 : decode cX11_year 220 = .ok (.iadd, 1) := by decide +kernel
theorem dX11_year_221 : decode cX11_year 221 = .ok (.istore 5, 2) := by decide +kernel
theorem dX11_year_223 : decode cX11_year 223 = .ok (.iinc 6 1, 3) := by decide +kernel
theorem dX11_year_226 : decode cX11_year 226 = .ok (.goto (-38), 3) := by decide +kernel
theorem dX11_year_229 : decode cX11_year 229 = .ok (.aload_n 0, 1) := by decide +kernel
theorem dX11_year_230 : decode cX11_year 230 = .ok (.invokevirtual 222, 3) := by decide +kernel
theorem dX11_year_233 : decode cX11_year 233 = .ok (.iload_n 3, 1) := by decide +kernel
theorem dX11_year_234 : decode cX11_year 234 = .ok (.ifCond .ne 10, 3) := by decide +kernel
theorem dX11_year_237 : decode cX11_year 237 = .ok (.aload_n 0, 1) := by decide +kernel
theorem dX11_year_238 : decode cX11_year 238 = .ok (.getfield 178, 3) := by decide +kernel
theorem dX11_year_241 : decode cX11_year 241 = .ok (.goto 19, 3) := by decide +kernel
theorem dX11_year_244 : decode cX11_year 244 = .ok (.iload_n 3, 1) := by decide +kernel
theorem dX11_year_245 : decode cX11_year 245 = .ok (.iconst 1, 1) := by decide +kernel
theorem dX11_year_246 : decode cX11_year 246 = .ok (.if_icmp .ne 12, 3) := by decide +kernel
theorem dX11_year_249 : decode cX11_year 249 = .ok (.aload_n 0, 1) := by decide +kernel
theorem dX11_year_250 : decode cX11_year 250 = .ok (.getfield 61, 3) := by decide +kernel
theorem dX11_year_253 : decode cX11_year 253 = .ok (.iconst 3, 1) := by decide +kernel
theorem dX11_year_254 : decode cX11_year 254 = .ok (.iaload, 1) := by decide +kernel
theorem dX11_year_255 : decode cX11_year 255 = .ok (.goto 5, 3) := by decide +kernel
theorem dX11_year_258 : decode cX11_year 258 = .ok (.iload 5, 2) := by decide +kernel
theorem dX11_year_260 : decode cX11_year 260 = .ok (.ireturn, 1) := by decide +kernel
theorem dX11_pass_0 : decode cX11_pass 0 = .ok (.aload_n 0, 1) := by decide +kernel
theorem dX11_pass_1 : decode cX11_pass 1 = .ok (.getfield 286, 3) := by decide +kernel
theorem dX11_pass_4 : decode cX11_pass 4 = .ok (.ifCond .eq 7, 3) := by decide +kernel
theorem dX11_pass_7 : decode cX11_pass 7 = .ok (.iload_n 1, 1) := by decide +kernel
theorem dX11_pass_8 : decode cX11_pass 8 = .ok (.goto 12, 3) := by decide +kernel
theorem dX11_pass_11 : decode cX11_pass 11 = .ok (.aload_n 0, 1) := by decide +kernel
theorem dX11_pass_12 : decode cX11_pass 12 = .ok (.getfield 80, 3) := by decide +kernel
theorem dX11_pass_15 : decode cX11_pass 15 = .ok (.aload_n 0, 1) := by decide +kernel
theorem dX11_pass_16 : decode cX11_pass 16 = .ok (.getfield 290, 3) := by decide +kernel
theorem dX11_pass_19 : decode cX11_pass 19 = .ok (.iaload, 1) := by decide +kernel
theorem dX11_pass_20 : decode cX11_pass 20 = .ok (.istore_n 2, 1) := by decide +kernel
theorem dX11_pass_21 : decode cX11_pass 21 = .ok (.aload_n 0, 1) := by decide +kernel
theorem dX11_pass_22 : decode cX11_pass 22 = .ok (.getfield 80, 3) := by decide +kernel
theorem dX11_pass_25 : decode cX11_pass 25 = .ok (.aload_n 0, 1) := by decide +kernel
theorem dX11_pass_26 : decode cX11_pass 26 = .ok (.getfield 290, 3) := by decide +kernel
theorem dX11_pass_29 : decode cX11_pass 29 = .ok (.iload_n 2, 1) := by decide +kernel
theorem dX11_pass_30 : decode cX11_pass 30 = .ok (.iastore, 1) := by decide +kernel
theorem dX11_pass_31 : decode cX11_pass 31 = .ok (.aload_n 0, 1) := by decide +kernel
theorem dX11_pass_32 : decode cX11_pass 32 = .ok (.dup, 1) := by decide +kernel
theorem dX11_pass_33 : decode cX11_pass 33 = .ok (.getfield 290, 3) := by decide +kernel
theorem dX11_pass_36 : decode cX11_pass 36 = .ok (.iconst 1, 1) := by decide +kernel
theorem dX11_pass_37 : decode cX11_pass 37 = .ok (.iadd, 1) := by decide +kernel
theorem dX11_pass_38 : decode cX11_pass 38 = .ok (.putfield 290, 3) := by decide +kernel
theorem dX11_pass_41 : decode cX11_pass 41 = .ok (.iload_n 2, 1) := by decide +kernel
theorem dX11_pass_42 : decode cX11_pass 42 = .ok (.ireturn, 1) := by decide +kernel
theorem dX11_passStones_0 : decode cX11_passStones 0 = .ok (.aload_n 0, 1) := by decide +kernel
theorem dX11_passStones_1 : decode cX11_passStones 1 = .ok (.aload_n 0, 1) := by decide +kernel
theorem dX11_passStones_2 : decode cX11_passStones 2 = .ok (.aload_n 0, 1) := by decide +kernel
theorem dX11_passStones_3 : decode cX11_passStones 3 = .ok (.getfield 99, 3) := by decide +kernel
theorem dX11_passStones_6 : decode cX11_passStones 6 = .ok (.invokevirtual 293, 3) := by decide +kernel
theorem dX11_passStones_9 : decode cX11_passStones 9 = .ok (.putfield 99, 3) := by decide +kernel
theorem dX11_passStones_12 : decode cX11_passStones 12 = .ok (.aload_n 0, 1) := by decide +kernel
theorem dX11_passStones_13 : decode cX11_passStones 13 = .ok (.aload_n 0, 1) := by decide +kernel
theorem dX11_passStones_14 : decode cX11_passStones 14 = .ok (.aload_n 0, 1) := by decide +kernel
theorem dX11_passStones_15 : decode cX11_passStones 15 = .ok (.getfield 86, 3) := by decide +kernel
theorem dX11_passStones_18 : decode cX11_passStones 18 = .ok (.invokevirtual 293, 3) := by decide +kernel
theorem dX11_passStones_21 : decode cX11_passStones 21 = .ok (.putfield 86, 3) := by decide +kernel
theorem dX11_passStones_24 : decode cX11_passStones 24 = .ok (.aload_n 0, 1) := by decide +kernel
theorem dX11_passStones_25 : decode cX11_passStones 25 = .ok (.aload_n 0, 1) := by decide +kernel
theorem dX11_passStones_26 : decode cX11_passStones 26 = .ok (.aload_n 0, 1) := by decide +kernel
theorem dX11_passStones_27 : decode cX11_passStones 27 = .ok (.getfield 90, 3) := by decide +kernel
theorem dX11_passStones_30 : decode cX11_passStones 30 = .ok (.invokevirtual 293, 3) := by decide +kernel
theorem dX11_passStones_33 : decode cX11_passStones 33 = .ok (.putfield 90, 3) := by decide +kernel
theorem dX11_passStones_36 : decode cX11_passStones 36 = .ok (.aload_n 0, 1) := by decide +kernel
theorem dX11_passStones_37 : decode cX11_passStones 37 = .ok (.aload_n 0, 1) := by decide +kernel
theorem dX11_passStones_38 : decode cX11_passStones 38 = .ok (.aload_n 0, 1) := by decide +kernel
theorem dX11_passStones_39 : decode cX11_passStones 39 = .ok (.getfield 263, 3) := by decide +kernel
theorem dX11_passStones_42 : decode cX11_passStones 42 = .ok (.invokevirtual 293, 3) := by decide +kernel
theorem dX11_passStones_45 : decode cX11_passStones 45 = .ok (.putfield 263, 3) := by decide +kernel
theorem dX11_passStones_48 : decode cX11_passStones 48 = .ok (.iconst 0, 1) := by decide +kernel
theorem dX11_passStones_49 : decode cX11_passStones 49 = .ok (.istore_n 1, 1) := by decide +kernel
theorem dX11_passStones_50 : decode cX11_passStones 50 = .ok (.iload_n 1, 1) := by decide +kernel
theorem dX11_passStones_51 : decode cX11_passStones 51 = .ok (.iconst 5, 1) := by decide +kernel
theorem dX11_passStones_52 : decode cX11_passStones 52 = .ok (.if_icmp .ge 89, 3) := by decide +kernel
theorem dX11_passStones_55 : decode cX11_passStones 55 = .ok (.aload_n 0, 1) := by decide +kernel
theorem dX11_passStones_56 : decode cX11_passStones 56 = .ok (.getfield 7, 3) := by decide +kernel
theorem dX11_passStones_59 : decode cX11_passStones 59 = .ok (.iload_n 1, 1) := by decide +kernel
theorem dX11_passStones_60 : decode cX11_passStones 60 = .ok (.aload_n 0, 1) := by decide +kernel
theorem dX11_passStones_61 : decode cX11_passStones 61 = .ok (.aload_n 0, 1) := by decide +kernel
theorem dX11_passStones_62 : decode cX11_passStones 62 = .ok (.getfield 7, 3) := by decide +kernel
theorem dX11_passStones_65 : decode cX11_passStones 65 = .ok (.iload_n 1, 1) := by decide +kernel
theorem dX11_passStones_66 : decode cX11_passStones 66 = .ok (.iaload, 1) := by decide +kernel
theorem dX11_passStones_67 : decode cX11_passStones 67 = .ok (.invokevirtual 293, 3) := by decide +kernel
theorem dX11_passStones_70 : decode cX11_passStones 70 = .ok (.iastore, 1) := by decide +kernel
theorem dX11_passStones_71 : decode cX11_passStones 71 = .ok (.aload_n 0, 1) := by decide +kernel
theorem dX11_passStones_72 : decode cX11_passStones 72 = .ok (.getfield 13, 3) := by decide +kernel
theorem dX11_passStones_75 : decode cX11_passStones 75 = .ok (.iload_n 1, 1) := by decide +kernel
theorem dX11_passStones_76 : decode cX11_passStones 76 = .ok (.aload_n 0, 1) := by decide +kernel
theorem dX11_passStones_77 : decode cX11_passStones 77 = .ok (.aload_n 0, 1) := by decide +kernel
theorem dX11_passStones_78 : decode cX11_passStones 78 = .ok (.getfield 13, 3) := by decide +kernel
theorem dX11_passStones_81 : decode cX11_passStones 81 = .ok (.iload_n 1, 1) := by decide +kernel
theorem dX11_passStones_82 : decode cX11_passStones 82 = .ok (.iaload, 1) := by decide +kernel
theorem dX11_passStones_83 : decode cX11_passStones 83 = .ok (.invokevirtual 293, 3) := by decide +kernel
theorem dX11_passStones_86 : decode cX11_passStones 86 = .ok (.iastore, 1) := by decide +kernel
theorem dX11_passStones_87 : decode cX11_passStones 87 = .ok (.aload_n 0, 1) := by decide +kernel
theorem dX11_passStones_88 : decode cX11_passStones 88 = .ok (.getfield 16, 3) := by decide +kernel
theorem dX11_passStones_91 : decode cX11_passStones 91 = .ok (.iload_n 1, 1) := by decide +kernel
theorem dX11_passStones_92 : decode cX11_passStones 92 = .ok (.aload_n 0, 1) := by decide +kernel
theorem dX11_passStones_93 : decode cX11_passStones 93 = .ok (.aload_n 0, 1) := by decide +kernel
theorem dX11_passStones_94 : decode cX11_passStones 94 = .ok (.getfield 16, 3) := by decide +kernel
theorem dX11_passStones_97 : decode cX11_passStones 97 = .ok (.iload_n 1, 1) := by decide +kernel
theorem dX11_passStones_98 : decode cX11_passStones 98 = .ok (.iaload, 1) := by decide +kernel
theorem dX11_passStones_99 : decode cX11_passStones 99 = .ok (.invokevirtual 293, 3) := by decide +kernel
theorem dX11_passStones_102 : decode cX11_passStones 102 = .ok (.iastore, 1) := by decide +kernel
theorem dX11_passStones_103 : decode cX11_passStones 103 = .ok (.aload_n 0, 1) := by decide +kernel
theorem dX11_passStones_104 : decode cX11_passStones 104 = .ok (.getfield 19, 3) := by decide +kernel
theorem dX11_passStones_107 : decode cX11_passStones 107 = .ok (.iload_n 1, 1) := by decide +kernel
theorem dX11_passStones_108 : decode cX11_passStones 108 = .ok (.aload_n 0, 1) := by decide +kernel
theorem dX11_passStones_109 : decode cX11_passStones 109 = .ok (.aload_n 0, 1) := by decide +kernel
theorem dX11_passStones_110 : decode cX11_passStones 110 = .ok (.getfield 19, 3) := by decide +kernel
theorem dX11_passStones_113 : decode cX11_passStones 113 = .ok (.iload_n 1, 1) := by decide +kernel
theorem dX11_passStones_114 : decode cX11_passStones 114 = .ok (.iaload, 1) := by decide +kernel
theorem dX11_passStones_115 : decode cX11_passStones 115 = .ok (.invokevirtual 293, 3) := by decide +kernel
theorem dX11_passStones_118 : decode cX11_passStones 118 = .ok (.iastore, 1) := by decide +kernel
theorem dX11_passStones_119 : decode cX11_passStones 119 = .ok (.aload_n 0, 1) := by decide +kernel
theorem dX11_passStones_120 : decode cX11_passStones 120 = .ok (.getfield 22, 3) := by decide +kernel
theorem dX11_passStones_123 : decode cX11_passStones 123 = .ok (.iload_n 1, 1) := by decide +kernel
theorem dX11_passStones_124 : decode cX11_passStones 124 = .ok (.aload_n 0, 1) := by decide +kernel
theorem dX11_passStones_125 : decode cX11_passStones 125 = .ok (.aload_n 0, 1) := by decide +kernel
theorem dX11_passStones_126 : decode cX11_passStones 126 = .ok (.getfield 22, 3) := by decide +kernel
theorem dX11_passStones_129 : decode cX11_passStones 129 = .ok (.iload_n 1, 1) := by decide +kernel
theorem dX11_passStones_130 : decode cX11_passStones 130 = .ok (.iaload, 1) := by decide +kernel
theorem dX11_passStones_131 : decode cX11_passStones 131 = .ok (.invokevirtual 293, 3) := by decide +kernel
theorem dX11_passStones_134 : decode cX11_passStones 134 = .ok (.iastore, 1) := by decide +kernel
theorem dX11_passStones_135 : decode cX11_passStones 135 = .ok (.iinc 1 1, 3) := by decide +kernel
theorem dX11_passStones_138 : decode cX11_passStones 138 = .ok (.goto (-88), 3) := by decide +kernel
theorem dX11_passStones_141 : decode cX11_passStones 141 = .ok (.iconst 0, 1) := by decide +kernel
theorem dX11_passStones_142 : decode cX11_passStones 142 = .ok (.istore_n 1, 1) := by decide +kernel
theorem dX11_passStones_143 : decode cX11_passStones 143 = .ok (.iload_n 1, 1) := by decide +kernel
theorem dX11_passStones_144 : decode cX11_passStones 144 = .ok (.bipush 40, 2) := by decide +kernel
theorem dX11_passStones_146 : decode cX11_passStones 146 = .ok (.if_icmp .ge 25, 3) := by decide +kernel
theorem dX11_passStones_149 : decode cX11_passStones 149 = .ok (.aload_n 0, 1) := by decide +kernel
theorem dX11_passStones_150 : decode cX11_passStones 150 = .ok (.getfield 25, 3) := by decide +kernel
theorem dX11_passStones_153 : decode cX11_passStones 153 = .ok (.iload_n 1, 1) := by decide +kernel
theorem dX11_passStones_154 : decode cX11_passStones 154 = .ok (.aload_n 0, 1) := by decide +kernel
theorem dX11_passStones_155 : decode cX11_passStones 155 = .ok (.aload_n 0, 1) := by decide +kernel
theorem dX11_passStones_156 : decode cX11_passStones 156 = .ok (.getfield 25, 3) := by decide +kernel
theorem dX11_passStones_159 : decode cX11_passStones 159 = .ok (.iload_n 1, 1) := by decide +kernel
theorem dX11_passStones_160 : decode cX11_passStones 160 = .ok (.iaload, 1) := by decide +kernel
theorem dX11_passStones_161 : decode cX11_passStones 161 = .ok (.invokevirtual 293, 3) := by decide +kernel
theorem dX11_passStones_164 : decode cX11_passStones 164 = .ok (.iastore, 1) := by decide +kernel
theorem dX11_passStones_165 : decode cX11_passStones 165 = .ok (.iinc 1 1, 3) := by decide +kernel
theorem dX11_passStones_168 : decode cX11_passStones 168 = .ok (.goto (-25), 3) := by decide +kernel
theorem dX11_passStones_171 : decode cX11_passStones 171 = .ok (.return_, 1) := by decide +kernel
theorem dX11_passAll_0 : decode cX11_passAll 0 = .ok (.aload_n 0, 1) := by decide +kernel
theorem dX11_passAll_1 : decode cX11_passAll 1 = .ok (.invokevirtual 296, 3) := by decide +kernel
theorem dX11_passAll_4 : decode cX11_passAll 4 = .ok (.iconst 0, 1) := by decide +kernel
theorem dX11_passAll_5 : decode cX11_passAll 5 = .ok (.istore_n 1, 1) := by decide +kernel
theorem dX11_passAll_6 : decode cX11_passAll 6 = .ok (.iload_n 1, 1) := by decide +kernel
theorem dX11_passAll_7 : decode cX11_passAll 7 = .ok (.bipush 8, 2) := by decide +kernel
theorem dX11_passAll_9 : decode cX11_passAll 9 = .ok (.if_icmp .ge 105, 3) := by decide +kernel
theorem dX11_passAll_12 : decode cX11_passAll 12 = .ok (.aload_n 0, 1) := by decide +kernel
theorem dX11_passAll_13 : decode cX11_passAll 13 = .ok (.getfield 28, 3) := by decide +kernel
theorem dX11_passAll_16 : decode cX11_passAll 16 = .ok (.iload_n 1, 1) := by decide +kernel
theorem dX11_passAll_17 : decode cX11_passAll 17 = .ok (.aload_n 0, 1) := by decide +kernel
theorem dX11_passAll_18 : decode cX11_passAll 18 = .ok (.aload_n 0, 1) := by decide +kernel
theorem dX11_passAll_19 : decode cX11_passAll 19 = .ok (.getfield 28, 3) := by decide +kernel
theorem dX11_passAll_22 : decode cX11_passAll 22 = .ok (.iload_n 1, 1) := by decide +kernel
theorem dX11_passAll_23 : decode cX11_passAll 23 = .ok (.iaload, 1) := by decide +kernel
theorem dX11_passAll_24 : decode cX11_passAll 24 = .ok (.invokevirtual 293, 3) := by decide +kernel
theorem dX11_passAll_27 : decode cX11_passAll 27 = .ok (.iastore, 1) := by decide +kernel
theorem dX11_passAll_28 : decode cX11_passAll 28 = .ok (.aload_n 0, 1) := by decide +kernel
theorem dX11_passAll_29 : decode cX11_passAll 29 = .ok (.getfield 31, 3) := by decide +kernel
theorem dX11_passAll_32 : decode cX11_passAll 32 = .ok (.iload_n 1, 1) := by decide +kernel
theorem dX11_passAll_33 : decode cX11_passAll 33 = .ok (.aload_n 0, 1) := by decide +kernel
theorem dX11_passAll_34 : decode cX11_passAll 34 = .ok (.aload_n 0, 1) := by decide +kernel
theorem dX11_passAll_35 : decode cX11_passAll 35 = .ok (.getfield 31, 3) := by decide +kernel
theorem dX11_passAll_38 : decode cX11_passAll 38 = .ok (.iload_n 1, 1) := by decide +kernel
theorem dX11_passAll_39 : decode cX11_passAll 39 = .ok (.iaload, 1) := by decide +kernel
theorem dX11_passAll_40 : decode cX11_passAll 40 = .ok (.invokevirtual 293, 3) := by decide +kernel
theorem dX11_passAll_43 : decode cX11_passAll 43 = .ok (.iastore, 1) := by decide +kernel
theorem dX11_passAll_44 : decode cX11_passAll 44 = .ok (.aload_n 0, 1) := by decide +kernel
theorem dX11_passAll_45 : decode cX11_passAll 45 = .ok (.getfield 34, 3) := by decide +kernel
theorem dX11_passAll_48 : decode cX11_passAll 48 = .ok (.iload_n 1, 1) := by decide +kernel
theorem dX11_passAll_49 : decode cX11_passAll 49 = .ok (.aload_n 0, 1) := by decide +kernel
theorem dX11_passAll_50 : decode cX11_passAll 50 = .ok (.aload_n 0, 1) := by decide +kernel
theorem dX11_passAll_51 : decode cX11_passAll 51 = .ok (.getfield 34, 3) := by decide +kernel
theorem dX11_passAll_54 : decode cX11_passAll 54 = .ok (.iload_n 1, 1) := by decide +kernel
theorem dX11_passAll_55 : decode cX11_passAll 55 = .ok (.iaload, 1) := by decide +kernel
theorem dX11_passAll_56 : decode cX11_passAll 56 = .ok (.invokevirtual 293, 3) := by decide +kernel
theorem dX11_passAll_59 : decode cX11_passAll 59 = .ok (.iastore, 1) := by decide +kernel
theorem dX11_passAll_60 : decode cX11_passAll 60 = .ok (.aload_n 0, 1) := by decide +kernel
theorem dX11_passAll_61 : decode cX11_passAll 61 = .ok (.getfield 40, 3) := by decide +kernel
theorem dX11_passAll_64 : decode cX11_passAll 64 = .ok (.iload_n 1, 1) := by decide +kernel
theorem dX11_passAll_65 : decode cX11_passAll 65 = .ok (.aload_n 0, 1) := by decide +kernel
theorem dX11_passAll_66 : decode cX11_passAll 66 = .ok (.aload_n 0, 1) := by decide +kernel
theorem dX11_passAll_67 : decode cX11_passAll 67 = .ok (.getfield 40, 3) := by decide +kernel
theorem dX11_passAll_70 : decode cX11_passAll 70 = .ok (.iload_n 1, 1) := by decide +kernel
theorem dX11_passAll_71 : decode cX11_passAll 71 = .ok (.iaload, 1) := by decide +kernel
theorem dX11_passAll_72 : decode cX11_passAll 72 = .ok (.invokevirtual 293, 3) := by decide +kernel
theorem dX11_passAll_75 : decode cX11_passAll 75 = .ok (.iastore, 1) := by decide +kernel
theorem dX11_passAll_76 : decode cX11_passAll 76 = .ok (.aload_n 0, 1) := by decide +kernel
theorem dX11_passAll_77 : decode cX11_passAll 77 = .ok (.getfield 43, 3) := by decide +kernel
theorem dX11_passAll_80 : decode cX11_passAll 80 = .ok (.iload_n 1, 1) := by decide +kernel
theorem dX11_passAll_81 : decode cX11_passAll 81 = .ok (.aload_n 0, 1) := by decide +kernel
theorem dX11_passAll_82 : decode cX11_passAll 82 = .ok (.aload_n 0, 1) := by decide +kernel
theorem dX11_passAll_83 : decode cX11_passAll 83 = .ok (.getfield 43, 3) := by decide +kernel
theorem dX11_passAll_86 : decode cX11_passAll 86 = .ok (.iload_n 1, 1) := by decide +kernel
theorem dX11_passAll_87 : decode cX11_passAll 87 = .ok (.iaload, 1) := by decide +kernel
theorem dX11_passAll_88 : decode cX11_passAll 88 = .ok (.invokevirtual 293, 3) := by decide +kernel
theorem dX11_passAll_91 : decode cX11_passAll 91 = .ok (.iastore, 1) := by decide +kernel
theorem dX11_passAll_92 : decode cX11_passAll 92 = .ok (.aload_n 0, 1) := by decide +kernel
theorem dX11_passAll_93 : decode cX11_passAll 93 = .ok (.getfield 46, 3) := by decide +kernel
theorem dX11_passAll_96 : decode cX11_passAll 96 = .ok (.iload_n 1, 1) := by decide +kernel
theorem dX11_passAll_97 : decode cX11_passAll 97 = .ok (.aload_n 0, 1) := by decide +kernel
theorem dX11_passAll_98 : decode cX11_passAll 98 = .ok (.aload_n 0, 1) := by decide +kernel
theorem dX11_passAll_99 : decode cX11_passAll 99 = .ok (.getfield 46, 3) := by decide +kernel
theorem dX11_passAll_102 : decode cX11_passAll 102 = .ok (.iload_n 1, 1) := by decide +kernel
theorem dX11_passAll_103 : decode cX11_passAll 103 = .ok (.iaload, 1) := by decide +kernel
theorem dX11_passAll_104 : decode cX11_passAll 104 = .ok (.invokevirtual 293, 3) := by decide +kernel
theorem dX11_passAll_107 : decode cX11_passAll 107 = .ok (.iastore, 1) := by decide +kernel
theorem dX11_passAll_108 : decode cX11_passAll 108 = .ok (.iinc 1 1, 3) := by decide +kernel
theorem dX11_passAll_111 : decode cX11_passAll 111 = .ok (.goto (-105), 3) := by decide +kernel
theorem dX11_passAll_114 : decode cX11_passAll 114 = .ok (.iconst 0, 1) := by decide +kernel
theorem dX11_passAll_115 : decode cX11_passAll 115 = .ok (.istore_n 1, 1) := by decide +kernel
theorem dX11_passAll_116 : decode cX11_passAll 116 = .ok (.iload_n 1, 1) := by decide +kernel
theorem dX11_passAll_117 : decode cX11_passAll 117 = .ok (.bipush 6, 2) := by decide +kernel
theorem dX11_passAll_119 : decode cX11_passAll 119 = .ok (.if_icmp .ge 25, 3) := by decide +kernel
theorem dX11_passAll_122 : decode cX11_passAll 122 = .ok (.aload_n 0, 1) := by decide +kernel
theorem dX11_passAll_123 : decode cX11_passAll 123 = .ok (.getfield 37, 3) := by decide +kernel
theorem dX11_passAll_126 : decode cX11_passAll 126 = .ok (.iload_n 1, 1) := by decide +kernel
theorem dX11_passAll_127 : decode cX11_passAll 127 = .ok (.aload_n 0, 1) := by decide +kernel
theorem dX11_passAll_128 : decode cX11_passAll 128 = .ok (.aload_n 0, 1) := by decide +kernel
theorem dX11_passAll_129 : decode cX11_passAll 129 = .ok (.getfield 37, 3) := by decide +kernel
theorem dX11_passAll_132 : decode cX11_passAll 132 = .ok (.iload_n 1, 1) := by decide +kernel
theorem dX11_passAll_133 : decode cX11_passAll 133 = .ok (.iaload, 1) := by decide +kernel
theorem dX11_passAll_134 : decode cX11_passAll 134 = .ok (.invokevirtual 293, 3) := by decide +kernel
theorem dX11_passAll_137 : decode cX11_passAll 137 = .ok (.iastore, 1) := by decide +kernel
theorem dX11_passAll_138 : decode cX11_passAll 138 = .ok (.iinc 1 1, 3) := by decide +kernel
theorem dX11_passAll_141 : decode cX11_passAll 141 = .ok (.goto (-25), 3) := by decide +kernel
theorem dX11_passAll_144 : decode cX11_passAll 144 = .ok (.return_, 1) := by decide +kernel
theorem dX11_image_0 : decode cX11_image 0 = .ok (.iload_n 1, 1) := by decide +kernel
theorem dX11_image_1 : decode cX11_image 1 = .ok (.i2l, 1) := by decide +kernel
theorem dX11_image_2 : decode cX11_image 2 = .ok (.lconst 0, 1) := by decide +kernel
theorem dX11_image_3 : decode cX11_image 3 = .ok (.lconst 1, 1) := by decide +kernel
theorem dX11_image_4 : decode cX11_image 4 = .ok (.invokestatic 95, 3) := by decide +kernel
theorem dX11_image_7 : decode cX11_image 7 = .ok (.ifCond .ne 6, 3) := by decide +kernel
theorem dX11_image_10 : decode cX11_image 10 = .ok (.bipush (-2), 2) := by decide +kernel
theorem dX11_image_12 : decode cX11_image 12 = .ok (.ireturn, 1) := by decide +kernel
theorem dX11_image_13 : decode cX11_image 13 = .ok (.aload_n 0, 1) := by decide +kernel
theorem dX11_image_14 : decode cX11_image 14 = .ok (.sipush 140, 3) := by decide +kernel
theorem dX11_image_17 : decode cX11_image 17 = .ok (.iload_n 1, 1) := by decide +kernel
theorem dX11_image_18 : decode cX11_image 18 = .ok (.imul, 1) := by decide +kernel
theorem dX11_image_19 : decode cX11_image 19 = .ok (.putfield 290, 3) := by decide +kernel
theorem dX11_image_22 : decode cX11_image 22 = .ok (.aload_n 0, 1) := by decide +kernel
theorem dX11_image_23 : decode cX11_image 23 = .ok (.iconst 1, 1) := by decide +kernel
theorem dX11_image_24 : decode cX11_image 24 = .ok (.putfield 286, 3) := by decide +kernel
theorem dX11_image_27 : decode cX11_image 27 = .ok (.aload_n 0, 1) := by decide +kernel
theorem dX11_image_28 : decode cX11_image 28 = .ok (.invokevirtual 299, 3) := by decide +kernel
theorem dX11_image_31 : decode cX11_image 31 = .ok (.aload_n 0, 1) := by decide +kernel
theorem dX11_image_32 : decode cX11_image 32 = .ok (.getfield 83, 3) := by decide +kernel
theorem dX11_image_35 : decode cX11_image 35 = .ok (.iload_n 1, 1) := by decide +kernel
theorem dX11_image_36 : decode cX11_image 36 = .ok (.iconst 1, 1) := by decide +kernel
theorem dX11_image_37 : decode cX11_image 37 = .ok (.bastore, 1) := by decide +kernel
theorem dX11_image_38 : decode cX11_image 38 = .ok (.iconst 1, 1) := by decide +kernel
theorem dX11_image_39 : decode cX11_image 39 = .ok (.ireturn, 1) := by decide +kernel
theorem dX11_restore_0 : decode cX11_restore 0 = .ok (.iload_n 1, 1) := by decide +kernel
theorem dX11_restore_1 : decode cX11_restore 1 = .ok (.i2l, 1) := by decide +kernel
theorem dX11_restore_2 : decode cX11_restore 2 = .ok (.lconst 0, 1) := by decide +kernel
theorem dX11_restore_3 : decode cX11_restore 3 = .ok (.lconst 1, 1) := by decide +kernel
theorem dX11_restore_4 : decode cX11_restore 4 = .ok (.invokestatic 95, 3) := by decide +kernel
theorem dX11_restore_7 : decode cX11_restore 7 = .ok (.ifCond .ne 6, 3) := by decide +kernel
theorem dX11_restore_10 : decode cX11_restore 10 = .ok (.bipush (-2), 2) := by decide +kernel
theorem dX11_restore_12 : decode cX11_restore 12 = .ok (.ireturn, 1) := by decide +kernel
theorem dX11_restore_13 : decode cX11_restore 13 = .ok (.aload_n 0, 1) := by decide +kernel
theorem dX11_restore_14 : decode cX11_restore 14 = .ok (.getfield 83, 3) := by decide +kernel
theorem dX11_restore_17 : decode cX11_restore 17 = .ok (.iload_n 1, 1) := by decide +kernel
theorem dX11_restore_18 : decode cX11_restore 18 = .ok (.baload, 1) := by decide +kernel
theorem dX11_restore_19 : decode cX11_restore 19 = .ok (.ifCond .ne 6, 3) := by decide +kernel
theorem dX11_restore_22 : decode cX11_restore 22 = .ok (.bipush (-3), 2) := by decide +kernel
theorem dX11_restore_24 : decode cX11_restore 24 = .ok (.ireturn, 1) := by decide +kernel
theorem dX11_restore_25 : decode cX11_restore 25 = .ok (.aload_n 0, 1) := by decide +kernel
theorem dX11_restore_26 : decode cX11_restore 26 = .ok (.sipush 140, 3) := by decide +kernel
theorem dX11_restore_29 : decode cX11_restore 29 = .ok (.iload_n 1, 1) := by decide +kernel
theorem dX11_restore_30 : decode cX11_restore 30 = .ok (.imul, 1) := by decide +kernel
theorem dX11_restore_31 : decode cX11_restore 31 = .ok (.putfield 290, 3) := by decide +kernel
theorem dX11_restore_34 : decode cX11_restore 34 = .ok (.aload_n 0, 1) := by decide +kernel
theorem dX11_restore_35 : decode cX11_restore 35 = .ok (.iconst 0, 1) := by decide +kernel
theorem dX11_restore_36 : decode cX11_restore 36 = .ok (.putfield 286, 3) := by decide +kernel
theorem dX11_restore_39 : decode cX11_restore 39 = .ok (.aload_n 0, 1) := by decide +kernel
theorem dX11_restore_40 : decode cX11_restore 40 = .ok (.invokevirtual 299, 3) := by decide +kernel
theorem dX11_restore_43 : decode cX11_restore 43 = .ok (.iconst 1, 1) := by decide +kernel
theorem dX11_restore_44 : decode cX11_restore 44 = .ok (.ireturn, 1) := by decide +kernel
theorem dX11_toldOfStone_0 : decode cX11_toldOfStone 0 = .ok (.aload_n 0, 1) := by decide +kernel
theorem dX11_toldOfStone_1 : decode cX11_toldOfStone 1 = .ok (.iload_n 1, 1) := by decide +kernel
theorem dX11_toldOfStone_2 : decode cX11_toldOfStone 2 = .ok (.invokevirtual 118, 3) := by decide +kernel
theorem dX11_toldOfStone_5 : decode cX11_toldOfStone 5 = .ok (.ifCond .ne 6, 3) := by decide +kernel
theorem dX11_toldOfStone_8 : decode cX11_toldOfStone 8 = .ok (.bipush (-2), 2) := by decide +kernel
theorem dX11_toldOfStone_10 : decode cX11_toldOfStone 10 = .ok (.ireturn, 1) := by decide +kernel
theorem dX11_toldOfStone_11 : decode cX11_toldOfStone 11 = .ok (.iload_n 2, 1) := by decide +kernel
theorem dX11_toldOfStone_12 : decode cX11_toldOfStone 12 = .ok (.tableswitch 71 0 4 #[36, 43, 50, 57, 64], 36) := by decide +kernel
theorem dX11_toldOfStone_48 : decode cX11_toldOfStone 48 = .ok (.aload_n 0, 1) := by decide +kernel
theorem dX11_toldOfStone_49 : decode cX11_toldOfStone 49 = .ok (.getfield 7, 3) := by decide +kernel
theorem dX11_toldOfStone_52 : decode cX11_toldOfStone 52 = .ok (.iload_n 1, 1) := by decide +kernel
theorem dX11_toldOfStone_53 : decode cX11_toldOfStone 53 = .ok (.iaload, 1) := by decide +kernel
theorem dX11_toldOfStone_54 : decode cX11_toldOfStone 54 = .ok (.ireturn, 1) := by decide +kernel
theorem dX11_toldOfStone_55 : decode cX11_toldOfStone 55 = .ok (.aload_n 0, 1) := by decide +kernel
theorem dX11_toldOfStone_56 : decode cX11_toldOfStone 56 = .ok (.getfield 13, 3) := by decide +kernel
theorem dX11_toldOfStone_59 : decode cX11_toldOfStone 59 = .ok (.iload_n 1, 1) := by decide +kernel
theorem dX11_toldOfStone_60 : decode cX11_toldOfStone 60 = .ok (.iaload, 1) := by decide +kernel
theorem dX11_toldOfStone_61 : decode cX11_toldOfStone 61 = .ok (.ireturn, 1) := by decide +kernel
theorem dX11_toldOfStone_62 : decode cX11_toldOfStone 62 = .ok (.aload_n 0, 1) := by decide +kernel
theorem dX11_toldOfStone_63 : decode cX11_toldOfStone 63 = .ok (.getfield 16, 3) := by decide +kernel
theorem dX11_toldOfStone_66 : decode cX11_toldOfStone 66 = .ok (.iload_n 1, 1) := by decide +kernel
theorem dX11_toldOfStone_67 : decode cX11_toldOfStone 67 = .ok (.iaload, 1) := by decide +kernel
theorem dX11_toldOfStone_68 : decode cX11_toldOfStone 68 = .ok (.ireturn, 1) := by decide +kernel
theorem dX11_toldOfStone_69 : decode cX11_toldOfStone 69 = .ok (.aload_n 0, 1) := by decide +kernel
theorem dX11_toldOfStone_70 : decode cX11_toldOfStone 70 = .ok (.getfield 19, 3) := by decide +kernel
theorem dX11_toldOfStone_73 : decode cX11_toldOfStone 73 = .ok (.iload_n 1, 1) := by decide +kernel
theorem dX11_toldOfStone_74 : decode cX11_toldOfStone 74 = .ok (.iaload, 1) := by decide +kernel
theorem dX11_toldOfStone_75 : decode cX11_toldOfStone 75 = .ok (.ireturn, 1) := by decide +kernel
theorem dX11_toldOfStone_76 : decode cX11_toldOfStone 76 = .ok (.aload_n 0, 1) := by decide +kernel
theorem dX11_toldOfStone_77 : decode cX11_toldOfStone 77 = .ok (.getfield 22, 3) := by decide +kernel
theorem dX11_toldOfStone_80 : decode cX11_toldOfStone 80 = .ok (.iload_n 1, 1) := by decide +kernel
theorem dX11_toldOfStone_81 : decode cX11_toldOfStone 81 = .ok (.iaload, 1) := by decide +kernel
theorem dX11_toldOfStone_82 : decode cX11_toldOfStone 82 = .ok (.ireturn, 1) := by decide +kernel
theorem dX11_toldOfStone_83 : decode cX11_toldOfStone 83 = .ok (.bipush (-2), 2) := by decide +kernel
theorem dX11_toldOfStone_85 : decode cX11_toldOfStone 85 = .ok (.ireturn, 1) := by decide +kernel
theorem dX11_toldOfPicture_0 : decode cX11_toldOfPicture 0 = .ok (.iload_n 2, 1) := by decide +kernel
theorem dX11_toldOfPicture_1 : decode cX11_toldOfPicture 1 = .ok (.ifCond .ne 12, 3) := by decide +kernel
theorem dX11_toldOfPicture_4 : decode cX11_toldOfPicture 4 = .ok (.aload_n 0, 1) := by decide +kernel
theorem dX11_toldOfPicture_5 : decode cX11_toldOfPicture 5 = .ok (.getfield 28, 3) := by decide +kernel
theorem dX11_toldOfPicture_8 : decode cX11_toldOfPicture 8 = .ok (.iload_n 1, 1) := by decide +kernel
theorem dX11_toldOfPicture_9 : decode cX11_toldOfPicture 9 = .ok (.iaload, 1) := by decide +kernel
theorem dX11_toldOfPicture_10 : decode cX11_toldOfPicture 10 = .ok (.goto 33, 3) := by decide +kernel
theorem dX11_toldOfPicture_13 : decode cX11_toldOfPicture 13 = .ok (.iload_n 2, 1) := by decide +kernel
theorem dX11_toldOfPicture_14 : decode cX11_toldOfPicture 14 = .ok (.iconst 1, 1) := by decide +kernel
theorem dX11_toldOfPicture_15 : decode cX11_toldOfPicture 15 = .ok (.if_icmp .ne 12, 3) := by decide +kernel
theorem dX11_toldOfPicture_18 : decode cX11_toldOfPicture 18 = .ok (.aload_n 0, 1) := by decide +kernel
theorem dX11_toldOfPicture_19 : decode cX11_toldOfPicture 19 = .ok (.getfield 31, 3) := by decide +kernel
theorem dX11_toldOfPicture_22 : decode cX11_toldOfPicture 22 = .ok (.iload_n 1, 1) := by decide +kernel
theorem dX11_toldOfPicture_23 : decode cX11_toldOfPicture 23 = .ok (.iaload, 1) := by decide +kernel
theorem dX11_toldOfPicture_24 : decode cX11_toldOfPicture 24 = .ok (.goto 19, 3) := by decide +kernel
theorem dX11_toldOfPicture_27 : decode cX11_toldOfPicture 27 = .ok (.iload_n 2, 1) := by decide +kernel
theorem dX11_toldOfPicture_28 : decode cX11_toldOfPicture 28 = .ok (.iconst 2, 1) := by decide +kernel
theorem dX11_toldOfPicture_29 : decode cX11_toldOfPicture 29 = .ok (.if_icmp .ne 12, 3) := by decide +kernel
theorem dX11_toldOfPicture_32 : decode cX11_toldOfPicture 32 = .ok (.aload_n 0, 1) := by decide +kernel
theorem dX11_toldOfPicture_33 : decode cX11_toldOfPicture 33 = .ok (.getfield 34, 3) := by decide +kernel
theorem dX11_toldOfPicture_36 : decode cX11_toldOfPicture 36 = .ok (.iload_n 1, 1) := by decide +kernel
theorem dX11_toldOfPicture_37 : decode cX11_toldOfPicture 37 = .ok (.iaload, 1) := by decide +kernel
theorem dX11_toldOfPicture_38 : decode cX11_toldOfPicture 38 = .ok (.goto 5, 3) := by decide +kernel
theorem dX11_toldOfPicture_41 : decode cX11_toldOfPicture 41 = .ok (.bipush (-2), 2) := by decide +kernel
theorem dX11_toldOfPicture_43 : decode cX11_toldOfPicture 43 = .ok (.ireturn, 1) := by decide +kernel
theorem dX11_told_0 : decode cX11_told 0 = .ok (.iload_n 1, 1) := by decide +kernel
theorem dX11_told_1 : decode cX11_told 1 = .ok (.i2l, 1) := by decide +kernel
theorem dX11_told_2 : decode cX11_told 2 = .ok (.ldc2_w 302, 3) := by decide +kernel
theorem dX11_told_5 : decode cX11_told 5 = .ok (.ldc2_w 304, 3) := by decide +kernel
theorem dX11_told_8 : decode cX11_told 8 = .ok (.invokestatic 95, 3) := by decide +kernel
theorem dX11_told_11 : decode cX11_told 11 = .ok (.ifCond .eq 17, 3) := by decide +kernel
theorem dX11_told_14 : decode cX11_told 14 = .ok (.aload_n 0, 1) := by decide +kernel
theorem dX11_told_15 : decode cX11_told 15 = .ok (.getfield 37, 3) := by decide +kernel
theorem dX11_told_18 : decode cX11_told 18 = .ok (.iload_n 1, 1) := by decide +kernel
theorem dX11_told_19 : decode cX11_told 19 = .ok (.sipush 10000, 3) := by decide +kernel
theorem dX11_told_22 : decode cX11_told 22 = .ok (.isub, 1) := by decide +kernel
theorem dX11_told_23 : decode cX11_told 23 = .ok (.iaload, 1) := by decide +kernel
theorem dX11_told_24 : decode cX11_told 24 = .ok (.bipush 9, 2) := by decide +kernel
theorem dX11_told_26 : decode cX11_told 26 = .ok (.iadd, 1) := by decide +kernel
theorem dX11_told_27 : decode cX11_told 27 = .ok (.ireturn, 1) := by decide +kernel
theorem dX11_told_28 : decode cX11_told 28 = .ok (.iload_n 1, 1) := by decide +kernel
theorem dX11_told_29 : decode cX11_told 29 = .ok (.i2l, 1) := by decide +kernel
theorem dX11_told_30 : decode cX11_told 30 = .ok (.ldc2_w 306, 3) := by decide +kernel
theorem dX11_told_33 : decode cX11_told 33 = .ok (.ldc2_w 308, 3) := by decide +kernel
theorem dX11_told_36 : decode cX11_told 36 = .ok (.invokestatic 95, 3) := by decide +kernel
theorem dX11_told_39 : decode cX11_told 39 = .ok (.ifCond .eq 20, 3) := by decide +kernel
theorem dX11_told_42 : decode cX11_told 42 = .ok (.aload_n 0, 1) := by decide +kernel
theorem dX11_told_43 : decode cX11_told 43 = .ok (.iload_n 1, 1) := by decide +kernel
theorem dX11_told_44 : decode cX11_told 44 = .ok (.sipush 1000, 3) := by decide +kernel
theorem dX11_told_47 : decode cX11_told 47 = .ok (.idiv, 1) := by decide +kernel
theorem dX11_told_48 : decode cX11_told 48 = .ok (.iconst 1, 1) := by decide +kernel
theorem dX11_told_49 : decode cX11_told 49 = .ok (.isub, 1) := by decide +kernel
theorem dX11_told_50 : decode cX11_told 50 = .ok (.iload_n 1, 1) := by decide +kernel
theorem dX11_told_51 : decode cX11_told 51 = .ok (.sipush 1000, 3) := by decide +kernel
theorem dX11_told_54 : decode cX11_told 54 = .ok (.irem, 1) := by decide +kernel
theorem dX11_told_55 : decode cX11_told 55 = .ok (.invokevirtual 310, 3) := by decide +kernel
theorem dX11_told_58 : decode cX11_told 58 = .ok (.ireturn, 1) := by decide +kernel
theorem dX11_told_59 : decode cX11_told 59 = .ok (.iload_n 1, 1) := by decide +kernel
theorem dX11_told_60 : decode cX11_told 60 = .ok (.i2l, 1) := by decide +kernel
theorem dX11_told_61 : decode cX11_told 61 = .ok (.ldc2_w 313, 3) := by decide +kernel
theorem dX11_told_64 : decode cX11_told 64 = .ok (.ldc2_w 315, 3) := by decide +kernel
theorem dX11_told_67 : decode cX11_told 67 = .ok (.invokestatic 95, 3) := by decide +kernel
theorem dX11_told_70 : decode cX11_told 70 = .ok (.ifCond .eq 46, 3) := by decide +kernel
theorem dX11_told_73 : decode cX11_told 73 = .ok (.iload_n 1, 1) := by decide +kernel
theorem dX11_told_74 : decode cX11_told 74 = .ok (.bipush 100, 2) := by decide +kernel
theorem dX11_told_76 : decode cX11_told 76 = .ok (.idiv, 1) := by decide +kernel
theorem dX11_told_77 : decode cX11_told 77 = .ok (.iconst 1, 1) := by decide +kernel
theorem dX11_told_78 : decode cX11_told 78 = .ok (.isub, 1) := by decide +kernel
theorem dX11_told_79 : decode cX11_told 79 = .ok (.istore_n 2, 1) := by decide +kernel
theorem dX11_told_80 : decode cX11_told 80 = .ok (.aload_n 0, 1) := by decide +kernel
theorem dX11_told_81 : decode cX11_told 81 = .ok (.iload_n 2, 1) := by decide +kernel
theorem dX11_told_82 : decode cX11_told 82 = .ok (.invokevirtual 118, 3) := by decide +kernel
theorem dX11_told_85 : decode cX11_told 85 = .ok (.ifCond .eq 28, 3) := by decide +kernel
theorem dX11_told_88 : decode cX11_told 88 = .ok (.iload_n 1, 1) := by decide +kernel
theorem dX11_told_89 : decode cX11_told 89 = .ok (.bipush 100, 2) := by decide +kernel
theorem dX11_told_91 : decode cX11_told 91 = .ok (.irem, 1) := by decide +kernel
theorem dX11_told_92 : decode cX11_told 92 = .ok (.bipush 8, 2) := by decide +kernel
theorem dX11_told_94 : decode cX11_told 94 = .ok (.if_icmp .ge 19, 3) := by decide +kernel
theorem dX11_told_97 : decode cX11_told 97 = .ok (.aload_n 0, 1) := by decide +kernel
theorem dX11_told_98 : decode cX11_told 98 = .ok (.getfield 25, 3) := by decide +kernel
theorem dX11_told_101 : decode cX11_told 101 = .ok (.iload_n 2, 1) := by decide +kernel
theorem dX11_told_102 : decode cX11_told 102 = .ok (.iload_n 1, 1) := by decide +kernel
theorem dX11_told_103 : decode cX11_told 103 = .ok (.bipush 100, 2) := by decide +kernel
theorem dX11_told_105 : decode cX11_told 105 = .ok (.irem, 1) := by decide +kernel
theorem dX11_told_106 : decode cX11_told 106 = .ok (.invokestatic 110, 3) := by decide +kernel
theorem dX11_told_109 : decode cX11_told 109 = .ok (.iaload, 1) := by decide +kernel
theorem dX11_told_110 : decode cX11_told 110 = .ok (.goto 5, 3) := by decide +kernel
theorem dX11_told_113 : decode cX11_told 113 = .ok (.bipush (-2), 2) := by decide +kernel
theorem dX11_told_115 : decode cX11_told 115 = .ok (.ireturn, 1) := by decide +kernel
theorem dX11_told_116 : decode cX11_told 116 = .ok (.iload_n 1, 1) := by decide +kernel
theorem dX11_told_117 : decode cX11_told 117 = .ok (.i2l, 1) := by decide +kernel
theorem dX11_told_118 : decode cX11_told 118 = .ok (.ldc2_w 257, 3) := by decide +kernel
theorem dX11_told_121 : decode cX11_told 121 = .ok (.ldc2_w 317, 3) := by decide +kernel
theorem dX11_told_124 : decode cX11_told 124 = .ok (.invokestatic 95, 3) := by decide +kernel
theorem dX11_told_127 : decode cX11_told 127 = .ok (.ifCond .eq 18, 3) := by decide +kernel
theorem dX11_told_130 : decode cX11_told 130 = .ok (.aload_n 0, 1) := by decide +kernel
theorem dX11_told_131 : decode cX11_told 131 = .ok (.iload_n 1, 1) := by decide +kernel
theorem dX11_told_132 : decode cX11_told 132 = .ok (.bipush 10, 2) := by decide +kernel
theorem dX11_told_134 : decode cX11_told 134 = .ok (.idiv, 1) := by decide +kernel
theorem dX11_told_135 : decode cX11_told 135 = .ok (.iconst 1, 1) := by decide +kernel
theorem dX11_told_136 : decode cX11_told 136 = .ok (.isub, 1) := by decide +kernel
theorem dX11_told_137 : decode cX11_told 137 = .ok (.iload_n 1, 1) := by decide +kernel
theorem dX11_told_138 : decode cX11_told 138 = .ok (.bipush 10, 2) := by decide +kernel
theorem dX11_told_140 : decode cX11_told 140 = .ok (.irem, 1) := by decide +kernel
theorem dX11_told_141 : decode cX11_told 141 = .ok (.invokevirtual 319, 3) := by decide +kernel
theorem dX11_told_144 : decode cX11_told 144 = .ok (.ireturn, 1) := by decide +kernel
theorem dX11_told_145 : decode cX11_told 145 = .ok (.iload_n 1, 1) := by decide +kernel
theorem dX11_told_146 : decode cX11_told 146 = .ok (.ifCond .ne 10, 3) := by decide +kernel
theorem dX11_told_149 : decode cX11_told 149 = .ok (.aload_n 0, 1) := by decide +kernel
theorem dX11_told_150 : decode cX11_told 150 = .ok (.getfield 139, 3) := by decide +kernel
theorem dX11_told_153 : decode cX11_told 153 = .ok (.goto 53, 3) := by decide +kernel
theorem dX11_told_156 : decode cX11_told 156 = .ok (.iload_n 1, 1) := by decide +kernel
theorem dX11_told_157 : decode cX11_told 157 = .ok (.iconst 1, 1) := by decide +kernel
theorem dX11_told_158 : decode cX11_told 158 = .ok (.if_icmp .ne 10, 3) := by decide +kernel
theorem dX11_told_161 : decode cX11_told 161 = .ok (.aload_n 0, 1) := by decide +kernel
theorem dX11_told_162 : decode cX11_told 162 = .ok (.getfield 99, 3) := by decide +kernel
theorem dX11_told_165 : decode cX11_told 165 = .ok (.goto 41, 3) := by decide +kernel
theorem dX11_told_168 : decode cX11_told 168 = .ok (.iload_n 1, 1) := by decide +kernel
theorem dX11_told_169 : decode cX11_told 169 = .ok (.iconst 2, 1) := by decide +kernel
theorem dX11_told_170 : decode cX11_told 170 = .ok (.if_icmp .ne 10, 3) := by decide +kernel
theorem dX11_told_173 : decode cX11_told 173 = .ok (.aload_n 0, 1) := by decide +kernel
theorem dX11_told_174 : decode cX11_told 174 = .ok (.getfield 86, 3) := by decide +kernel
theorem dX11_told_177 : decode cX11_told 177 = .ok (.goto 29, 3) := by decide +kernel
theorem dX11_told_180 : decode cX11_told 180 = .ok (.iload_n 1, 1) := by decide +kernel
theorem dX11_told_181 : decode cX11_told 181 = .ok (.iconst 3, 1) := by decide +kernel
theorem dX11_told_182 : decode cX11_told 182 = .ok (.if_icmp .ne 10, 3) := by decide +kernel
theorem dX11_told_185 : decode cX11_told 185 = .ok (.aload_n 0, 1) := by decide +kernel
theorem dX11_told_186 : decode cX11_told 186 = .ok (.getfield 90, 3) := by decide +kernel
theorem dX11_told_189 : decode cX11_told 189 = .ok (.goto 17, 3) := by decide +kernel
theorem dX11_told_192 : decode cX11_told 192 = .ok (.iload_n 1, 1) := by decide +kernel
theorem dX11_told_193 : decode cX11_told 193 = .ok (.iconst 4, 1) := by decide +kernel
theorem dX11_told_194 : decode cX11_told 194 = .ok (.if_icmp .ne 10, 3) := by decide +kernel
theorem dX11_told_197 : decode cX11_told 197 = .ok (.aload_n 0, 1) := by decide +kernel
theorem dX11_told_198 : decode cX11_told 198 = .ok (.getfield 263, 3) := by decide +kernel
theorem dX11_told_201 : decode cX11_told 201 = .ok (.goto 5, 3) := by decide +kernel
theorem dX11_told_204 : decode cX11_told 204 = .ok (.bipush (-2), 2) := by decide +kernel
theorem dX11_told_206 : decode cX11_told 206 = .ok (.ireturn, 1) := by decide +kernel
theorem dJ6_bitCount_0f7a4_0 : decode cJ6_bitCount_0f7a4 0 = .ok (.iload_n 0, 1) := by decide +kernel
theorem dJ6_bitCount_0f7a4_1 : decode cJ6_bitCount_0f7a4 1 = .ok (.iload_n 0, 1) := by decide +kernel
theorem dJ6_bitCount_0f7a4_2 : decode cJ6_bitCount_0f7a4 2 = .ok (.iconst 1, 1) := by decide +kernel
theorem dJ6_bitCount_0f7a4_3 : decode cJ6_bitCount_0f7a4 3 = .ok (.iushr, 1) := by decide +kernel
theorem dJ6_bitCount_0f7a4_4 : decode cJ6_bitCount_0f7a4 4 = .ok (.ldc_w 265, 3) := by decide +kernel
theorem dJ6_bitCount_0f7a4_7 : decode cJ6_bitCount_0f7a4 7 = .ok (.iand, 1) := by decide +kernel
theorem dJ6_bitCount_0f7a4_8 : decode cJ6_bitCount_0f7a4 8 = .ok (.isub, 1) := by decide +kernel
theorem dJ6_bitCount_0f7a4_9 : decode cJ6_bitCount_0f7a4 9 = .ok (.istore_n 0, 1) := by decide +kernel
theorem dJ6_bitCount_0f7a4_10 : decode cJ6_bitCount_0f7a4 10 = .ok (.iload_n 0, 1) := by decide +kernel
theorem dJ6_bitCount_0f7a4_11 : decode cJ6_bitCount_0f7a4 11 = .ok (.ldc_w 266, 3) := by decide +kernel
theorem dJ6_bitCount_0f7a4_14 : decode cJ6_bitCount_0f7a4 14 = .ok (.iand, 1) := by decide +kernel
theorem dJ6_bitCount_0f7a4_15 : decode cJ6_bitCount_0f7a4 15 = .ok (.iload_n 0, 1) := by decide +kernel
theorem dJ6_bitCount_0f7a4_16 : decode cJ6_bitCount_0f7a4 16 = .ok (.iconst 2, 1) := by decide +kernel
theorem dJ6_bitCount_0f7a4_17 : decode cJ6_bitCount_0f7a4 17 = .ok (.iushr, 1) := by decide +kernel
theorem dJ6_bitCount_0f7a4_18 : decode cJ6_bitCount_0f7a4 18 = .ok (.ldc_w 266, 3) := by decide +kernel
theorem dJ6_bitCount_0f7a4_21 : decode cJ6_bitCount_0f7a4 21 = .ok (.iand, 1) := by decide +kernel
theorem dJ6_bitCount_0f7a4_22 : decode cJ6_bitCount_0f7a4 22 = .ok (.iadd, 1) := by decide +kernel
theorem dJ6_bitCount_0f7a4_23 : decode cJ6_bitCount_0f7a4 23 = .ok (.istore_n 0, 1) := by decide +kernel
theorem dJ6_bitCount_0f7a4_24 : decode cJ6_bitCount_0f7a4 24 = .ok (.iload_n 0, 1) := by decide +kernel
theorem dJ6_bitCount_0f7a4_25 : decode cJ6_bitCount_0f7a4 25 = .ok (.iload_n 0, 1) := by decide +kernel
theorem dJ6_bitCount_0f7a4_26 : decode cJ6_bitCount_0f7a4 26 = .ok (.iconst 4, 1) := by decide +kernel
theorem dJ6_bitCount_0f7a4_27 : decode cJ6_bitCount_0f7a4 27 = .ok (.iushr, 1) := by decide +kernel
theorem dJ6_bitCount_0f7a4_28 : decode cJ6_bitCount_0f7a4 28 = .ok (.iadd, 1) := by decide +kernel
theorem dJ6_bitCount_0f7a4_29 : decode cJ6_bitCount_0f7a4 29 = .ok (.ldc_w 267, 3) := by decide +kernel
theorem dJ6_bitCount_0f7a4_32 : decode cJ6_bitCount_0f7a4 32 = .ok (.iand, 1) := by decide +kernel
theorem dJ6_bitCount_0f7a4_33 : decode cJ6_bitCount_0f7a4 33 = .ok (.istore_n 0, 1) := by decide +kernel
theorem dJ6_bitCount_0f7a4_34 : decode cJ6_bitCount_0f7a4 34 = .ok (.iload_n 0, 1) := by decide +kernel
theorem dJ6_bitCount_0f7a4_35 : decode cJ6_bitCount_0f7a4 35 = .ok (.iload_n 0, 1) := by decide +kernel
theorem dJ6_bitCount_0f7a4_36 : decode cJ6_bitCount_0f7a4 36 = .ok (.bipush 8, 2) := by decide +kernel
theorem dJ6_bitCount_0f7a4_38 : decode cJ6_bitCount_0f7a4 38 = .ok (.iushr, 1) := by decide +kernel
theorem dJ6_bitCount_0f7a4_39 : decode cJ6_bitCount_0f7a4 39 = .ok (.iadd, 1) := by decide +kernel
theorem dJ6_bitCount_0f7a4_40 : decode cJ6_bitCount_0f7a4 40 = .ok (.istore_n 0, 1) := by decide +kernel
theorem dJ6_bitCount_0f7a4_41 : decode cJ6_bitCount_0f7a4 41 = .ok (.iload_n 0, 1) := by decide +kernel
theorem dJ6_bitCount_0f7a4_42 : decode cJ6_bitCount_0f7a4 42 = .ok (.iload_n 0, 1) := by decide +kernel
theorem dJ6_bitCount_0f7a4_43 : decode cJ6_bitCount_0f7a4 43 = .ok (.bipush 16, 2) := by decide +kernel
theorem dJ6_bitCount_0f7a4_45 : decode cJ6_bitCount_0f7a4 45 = .ok (.iushr, 1) := by decide +kernel
theorem dJ6_bitCount_0f7a4_46 : decode cJ6_bitCount_0f7a4 46 = .ok (.iadd, 1) := by decide +kernel
theorem dJ6_bitCount_0f7a4_47 : decode cJ6_bitCount_0f7a4 47 = .ok (.istore_n 0, 1) := by decide +kernel
theorem dJ6_bitCount_0f7a4_48 : decode cJ6_bitCount_0f7a4 48 = .ok (.iload_n 0, 1) := by decide +kernel
theorem dJ6_bitCount_0f7a4_49 : decode cJ6_bitCount_0f7a4 49 = .ok (.bipush 63, 2) := by decide +kernel
theorem dJ6_bitCount_0f7a4_51 : decode cJ6_bitCount_0f7a4 51 = .ok (.iand, 1) := by decide +kernel
theorem dJ6_bitCount_0f7a4_52 : decode cJ6_bitCount_0f7a4 52 = .ok (.ireturn, 1) := by decide +kernel
theorem dJ9_abs_0f7a4_0 : decode cJ9_abs_0f7a4 0 = .ok (.iload_n 0, 1) := by decide +kernel
theorem dJ9_abs_0f7a4_1 : decode cJ9_abs_0f7a4 1 = .ok (.ifCond .ge 8, 3) := by decide +kernel
theorem dJ9_abs_0f7a4_4 : decode cJ9_abs_0f7a4 4 = .ok (.iload_n 0, 1) := by decide +kernel
theorem dJ9_abs_0f7a4_5 : decode cJ9_abs_0f7a4 5 = .ok (.ineg, 1) := by decide +kernel
theorem dJ9_abs_0f7a4_6 : decode cJ9_abs_0f7a4 6 = .ok (.goto 4, 3) := by decide +kernel
theorem dJ9_abs_0f7a4_9 : decode cJ9_abs_0f7a4 9 = .ok (.iload_n 0, 1) := by decide +kernel
theorem dJ9_abs_0f7a4_10 : decode cJ9_abs_0f7a4 10 = .ok (.ireturn, 1) := by decide +kernel
theorem dJ9_max_7cf53_0 : decode cJ9_max_7cf53 0 = .ok (.iload_n 0, 1) := by decide +kernel
theorem dJ9_max_7cf53_1 : decode cJ9_max_7cf53 1 = .ok (.iload_n 1, 1) := by decide +kernel
theorem dJ9_max_7cf53_2 : decode cJ9_max_7cf53 2 = .ok (.if_icmp .lt 7, 3) := by decide +kernel
theorem dJ9_max_7cf53_5 : decode cJ9_max_7cf53 5 = .ok (.iload_n 0, 1) := by decide +kernel
theorem dJ9_max_7cf53_6 : decode cJ9_max_7cf53 6 = .ok (.goto 4, 3) := by decide +kernel
theorem dJ9_max_7cf53_9 : decode cJ9_max_7cf53 9 = .ok (.iload_n 1, 1) := by decide +kernel
theorem dJ9_max_7cf53_10 : decode cJ9_max_7cf53 10 = .ok (.ireturn, 1) := by decide +kernel
theorem dJ9_max_f86c9_0 : decode cJ9_max_f86c9 0 = .ok (.lload_n 0, 1) := by decide +kernel
theorem dJ9_max_f86c9_1 : decode cJ9_max_f86c9 1 = .ok (.lload_n 2, 1) := by decide +kernel
theorem dJ9_max_f86c9_2 : decode cJ9_max_f86c9 2 = .ok (.lcmp, 1) := by decide +kernel
theorem dJ9_max_f86c9_3 : decode cJ9_max_f86c9 3 = .ok (.ifCond .lt 7, 3) := by decide +kernel
theorem dJ9_max_f86c9_6 : decode cJ9_max_f86c9 6 = .ok (.lload_n 0, 1) := by decide +kernel
theorem dJ9_max_f86c9_7 : decode cJ9_max_f86c9 7 = .ok (.goto 4, 3) := by decide +kernel
theorem dJ9_max_f86c9_10 : decode cJ9_max_f86c9 10 = .ok (.lload_n 2, 1) := by decide +kernel
theorem dJ9_max_f86c9_11 : decode cJ9_max_f86c9 11 = .ok (.lreturn, 1) := by decide +kernel
theorem dJ9_min_7cf53_0 : decode cJ9_min_7cf53 0 = .ok (.iload_n 0, 1) := by decide +kernel
theorem dJ9_min_7cf53_1 : decode cJ9_min_7cf53 1 = .ok (.iload_n 1, 1) := by decide +kernel
theorem dJ9_min_7cf53_2 : decode cJ9_min_7cf53 2 = .ok (.if_icmp .gt 7, 3) := by decide +kernel
theorem dJ9_min_7cf53_5 : decode cJ9_min_7cf53 5 = .ok (.iload_n 0, 1) := by decide +kernel
theorem dJ9_min_7cf53_6 : decode cJ9_min_7cf53 6 = .ok (.goto 4, 3) := by decide +kernel
theorem dJ9_min_7cf53_9 : decode cJ9_min_7cf53 9 = .ok (.iload_n 1, 1) := by decide +kernel
theorem dJ9_min_7cf53_10 : decode cJ9_min_7cf53 10 = .ok (.ireturn, 1) := by decide +kernel
