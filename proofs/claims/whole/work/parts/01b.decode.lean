theorem dX9_divisor_45 : decode cX9_divisor 45 = .ok (.lload 4, 2) := by decide +kernel
theorem dX9_divisor_47 : decode cX9_divisor 47 = .ok (.lreturn, 1) := by decide +kernel
theorem dX9_compare_0 : decode cX9_compare 0 = .ok (.lload_n 0, 1) := by decide +kernel
theorem dX9_compare_1 : decode cX9_compare 1 = .ok (.lstore 8, 2) := by decide +kernel
theorem dX9_compare_3 : decode cX9_compare 3 = .ok (.lload_n 2, 1) := by decide +kernel
theorem dX9_compare_4 : decode cX9_compare 4 = .ok (.lstore 10, 2) := by decide +kernel
theorem dX9_compare_6 : decode cX9_compare 6 = .ok (.lload 4, 2) := by decide +kernel
theorem dX9_compare_8 : decode cX9_compare 8 = .ok (.lstore 12, 2) := by decide +kernel
theorem dX9_compare_10 : decode cX9_compare 10 = .ok (.lload 6, 2) := by decide +kernel
theorem dX9_compare_12 : decode cX9_compare 12 = .ok (.lstore 14, 2) := by decide +kernel
theorem dX9_compare_14 : decode cX9_compare 14 = .ok (.iconst 0, 1) := by decide +kernel
theorem dX9_compare_15 : decode cX9_compare 15 = .ok (.istore 16, 2) := by decide +kernel
theorem dX9_compare_17 : decode cX9_compare 17 = .ok (.iload 16, 2) := by decide +kernel
theorem dX9_compare_19 : decode cX9_compare 19 = .ok (.sipush 200, 3) := by decide +kernel
theorem dX9_compare_22 : decode cX9_compare 22 = .ok (.if_icmp .ge 120, 3) := by decide +kernel
theorem dX9_compare_25 : decode cX9_compare 25 = .ok (.lload 10, 2) := by decide +kernel
theorem dX9_compare_27 : decode cX9_compare 27 = .ok (.lconst 0, 1) := by decide +kernel
theorem dX9_compare_28 : decode cX9_compare 28 = .ok (.lcmp, 1) := by decide +kernel
theorem dX9_compare_29 : decode cX9_compare 29 = .ok (.ifCond .eq 10, 3) := by decide +kernel
theorem dX9_compare_32 : decode cX9_compare 32 = .ok (.lload 14, 2) := by decide +kernel
theorem dX9_compare_34 : decode cX9_compare 34 = .ok (.lconst 0, 1) := by decide +kernel
theorem dX9_compare_35 : decode cX9_compare 35 = .ok (.lcmp, 1) := by decide +kernel
theorem dX9_compare_36 : decode cX9_compare 36 = .ok (.ifCond .ne 28, 3) := by decide +kernel
theorem dX9_compare_39 : decode cX9_compare 39 = .ok (.lload 10, 2) := by decide +kernel
theorem dX9_compare_41 : decode cX9_compare 41 = .ok (.lload 14, 2) := by decide +kernel
theorem dX9_compare_43 : decode cX9_compare 43 = .ok (.lcmp, 1) := by decide +kernel
theorem dX9_compare_44 : decode cX9_compare 44 = .ok (.ifCond .ne 7, 3) := by decide +kernel
theorem dX9_compare_47 : decode cX9_compare 47 = .ok (.iconst 0, 1) := by decide +kernel
theorem dX9_compare_48 : decode cX9_compare 48 = .ok (.goto 15, 3) := by decide +kernel
theorem dX9_compare_51 : decode cX9_compare 51 = .ok (.lload 10, 2) := by decide +kernel
theorem dX9_compare_53 : decode cX9_compare 53 = .ok (.lconst 0, 1) := by decide +kernel
theorem dX9_compare_54 : decode cX9_compare 54 = .ok (.lcmp, 1) := by decide +kernel
theorem dX9_compare_55 : decode cX9_compare 55 = .ok (.ifCond .ne 7, 3) := by decide +kernel
theorem dX9_compare_58 : decode cX9_compare 58 = .ok (.iconst 1, 1) := by decide +kernel
theorem dX9_compare_59 : decode cX9_compare 59 = .ok (.goto 4, 3) := by decide +kernel
theorem dX9_compare_62 : decode cX9_compare 62 = .ok (.iconst (-1), 1) := by decide +kernel
theorem dX9_compare_63 : decode cX9_compare 63 = .ok (.ireturn, 1) := by decide +kernel
theorem dX9_compare_64 : decode cX9_compare 64 = .ok (.lload 8, 2) := by decide +kernel
theorem dX9_compare_66 : decode cX9_compare 66 = .ok (.lload 10, 2) := by decide +kernel
theorem dX9_compare_68 : decode cX9_compare 68 = .ok (.ldiv, 1) := by decide +kernel
theorem dX9_compare_69 : decode cX9_compare 69 = .ok (.lstore 17, 2) := by decide +kernel
theorem dX9_compare_71 : decode cX9_compare 71 = .ok (.lload 12, 2) := by decide +kernel
theorem dX9_compare_73 : decode cX9_compare 73 = .ok (.lload 14, 2) := by decide +kernel
theorem dX9_compare_75 : decode cX9_compare 75 = .ok (.ldiv, 1) := by decide +kernel
theorem dX9_compare_76 : decode cX9_compare 76 = .ok (.lstore 19, 2) := by decide +kernel
theorem dX9_compare_78 : decode cX9_compare 78 = .ok (.lload 17, 2) := by decide +kernel
theorem dX9_compare_80 : decode cX9_compare 80 = .ok (.lload 19, 2) := by decide +kernel
theorem dX9_compare_82 : decode cX9_compare 82 = .ok (.lcmp, 1) := by decide +kernel
theorem dX9_compare_83 : decode cX9_compare 83 = .ok (.ifCond .eq 17, 3) := by decide +kernel
theorem dX9_compare_86 : decode cX9_compare 86 = .ok (.lload 17, 2) := by decide +kernel
theorem dX9_compare_88 : decode cX9_compare 88 = .ok (.lload 19, 2) := by decide +kernel
theorem dX9_compare_90 : decode cX9_compare 90 = .ok (.lcmp, 1) := by decide +kernel
theorem dX9_compare_91 : decode cX9_compare 91 = .ok (.ifCond .ge 7, 3) := by decide +kernel
theorem dX9_compare_94 : decode cX9_compare 94 = .ok (.iconst (-1), 1) := by decide +kernel
theorem dX9_compare_95 : decode cX9_compare 95 = .ok (.goto 4, 3) := by decide +kernel
theorem dX9_compare_98 : decode cX9_compare 98 = .ok (.iconst 1, 1) := by decide +kernel
theorem dX9_compare_99 : decode cX9_compare 99 = .ok (.ireturn, 1) := by decide +kernel
theorem dX9_compare_100 : decode cX9_compare 100 = .ok (.lload 8, 2) := by decide +kernel
theorem dX9_compare_102 : decode cX9_compare 102 = .ok (.lload 17, 2) := by decide +kernel
theorem dX9_compare_104 : decode cX9_compare 104 = .ok (.lload 10, 2) := by decide +kernel
theorem dX9_compare_106 : decode cX9_compare 106 = .ok (.lmul, 1) := by decide +kernel
theorem dX9_compare_107 : decode cX9_compare 107 = .ok (.lsub, 1) := by decide +kernel
theorem dX9_compare_108 : decode cX9_compare 108 = .ok (.lstore 21, 2) := by decide +kernel
theorem dX9_compare_110 : decode cX9_compare 110 = .ok (.lload 12, 2) := by decide +kernel
theorem dX9_compare_112 : decode cX9_compare 112 = .ok (.lload 19, 2) := by decide +kernel
theorem dX9_compare_114 : decode cX9_compare 114 = .ok (.lload 14, 2) := by decide +kernel
theorem dX9_compare_116 : decode cX9_compare 116 = .ok (.lmul, 1) := by decide +kernel
theorem dX9_compare_117 : decode cX9_compare 117 = .ok (.lsub, 1) := by decide +kernel
theorem dX9_compare_118 : decode cX9_compare 118 = .ok (.lstore 23, 2) := by decide +kernel
theorem dX9_compare_120 : decode cX9_compare 120 = .ok (.lload 14, 2) := by decide +kernel
theorem dX9_compare_122 : decode cX9_compare 122 = .ok (.lstore 8, 2) := by decide +kernel
theorem dX9_compare_124 : decode cX9_compare 124 = .ok (.lload 10, 2) := by decide +kernel
theorem dX9_compare_126 : decode cX9_compare 126 = .ok (.lstore 12, 2) := by decide +kernel
theorem dX9_compare_128 : decode cX9_compare 128 = .ok (.lload 23, 2) := by decide +kernel
theorem dX9_compare_130 : decode cX9_compare 130 = .ok (.lstore 10, 2) := by decide +kernel
theorem dX9_compare_132 : decode cX9_compare 132 = .ok (.lload 21, 2) := by decide +kernel
theorem dX9_compare_134 : decode cX9_compare 134 = .ok (.lstore 14, 2) := by decide +kernel
theorem dX9_compare_136 : decode cX9_compare 136 = .ok (.iinc 16 1, 3) := by decide +kernel
theorem dX9_compare_139 : decode cX9_compare 139 = .ok (.goto (-122), 3) := by decide +kernel
theorem dX9_compare_142 : decode cX9_compare 142 = .ok (.iconst 0, 1) := by decide +kernel
theorem dX9_compare_143 : decode cX9_compare 143 = .ok (.ireturn, 1) := by decide +kernel
theorem dX9_power_0 : decode cX9_power 0 = .ok (.lconst 1, 1) := by decide +kernel
theorem dX9_power_1 : decode cX9_power 1 = .ok (.lstore_n 3, 1) := by decide +kernel
theorem dX9_power_2 : decode cX9_power 2 = .ok (.iconst 0, 1) := by decide +kernel
theorem dX9_power_3 : decode cX9_power 3 = .ok (.istore 5, 2) := by decide +kernel
theorem dX9_power_5 : decode cX9_power 5 = .ok (.iload 5, 2) := by decide +kernel
theorem dX9_power_7 : decode cX9_power 7 = .ok (.iload_n 2, 1) := by decide +kernel
theorem dX9_power_8 : decode cX9_power 8 = .ok (.if_icmp .ge 13, 3) := by decide +kernel
theorem dX9_power_11 : decode cX9_power 11 = .ok (.lload_n 3, 1) := by decide +kernel
theorem dX9_power_12 : decode cX9_power 12 = .ok (.lload_n 0, 1) := by decide +kernel
theorem dX9_power_13 : decode cX9_power 13 = .ok (.lmul, 1) := by decide +kernel
theorem dX9_power_14 : decode cX9_power 14 = .ok (.lstore_n 3, 1) := by decide +kernel
theorem dX9_power_15 : decode cX9_power 15 = .ok (.iinc 5 1, 3) := by decide +kernel
theorem dX9_power_18 : decode cX9_power 18 = .ok (.goto (-13), 3) := by decide +kernel
theorem dX9_power_21 : decode cX9_power 21 = .ok (.lload_n 3, 1) := by decide +kernel
theorem dX9_power_22 : decode cX9_power 22 = .ok (.lreturn, 1) := by decide +kernel
theorem dX10_init_0 : decode cX10_init 0 = .ok (.aload_n 0, 1) := by decide +kernel
theorem dX10_init_1 : decode cX10_init 1 = .ok (.invokespecial 3, 3) := by decide +kernel
theorem dX10_init_4 : decode cX10_init 4 = .ok (.aload_n 0, 1) := by decide +kernel
theorem dX10_init_5 : decode cX10_init 5 = .ok (.sipush 952, 3) := by decide +kernel
theorem dX10_init_8 : decode cX10_init 8 = .ok (.newarray .int, 2) := by decide +kernel
theorem dX10_init_10 : decode cX10_init 10 = .ok (.putfield 9, 3) := by decide +kernel
theorem dX10_init_13 : decode cX10_init 13 = .ok (.aload_n 0, 1) := by decide +kernel
theorem dX10_init_14 : decode cX10_init 14 = .ok (.sipush 952, 3) := by decide +kernel
theorem dX10_init_17 : decode cX10_init 17 = .ok (.newarray .int, 2) := by decide +kernel
theorem dX10_init_19 : decode cX10_init 19 = .ok (.putfield 15, 3) := by decide +kernel
theorem dX10_init_22 : decode cX10_init 22 = .ok (.aload_n 0, 1) := by decide +kernel
theorem dX10_init_23 : decode cX10_init 23 = .ok (.iconst 3, 1) := by decide +kernel
theorem dX10_init_24 : decode cX10_init 24 = .ok (.newarray .int, 2) := by decide +kernel
theorem dX10_init_26 : decode cX10_init 26 = .ok (.putfield 18, 3) := by decide +kernel
theorem dX10_init_29 : decode cX10_init 29 = .ok (.aload_n 0, 1) := by decide +kernel
theorem dX10_init_30 : decode cX10_init 30 = .ok (.bipush 64, 2) := by decide +kernel
theorem dX10_init_32 : decode cX10_init 32 = .ok (.newarray .boolean, 2) := by decide +kernel
theorem dX10_init_34 : decode cX10_init 34 = .ok (.putfield 21, 3) := by decide +kernel
theorem dX10_init_37 : decode cX10_init 37 = .ok (.aload_n 0, 1) := by decide +kernel
theorem dX10_init_38 : decode cX10_init 38 = .ok (.iconst 3, 1) := by decide +kernel
theorem dX10_init_39 : decode cX10_init 39 = .ok (.newarray .int, 2) := by decide +kernel
theorem dX10_init_41 : decode cX10_init 41 = .ok (.putfield 25, 3) := by decide +kernel
theorem dX10_init_44 : decode cX10_init 44 = .ok (.aload_n 0, 1) := by decide +kernel
theorem dX10_init_45 : decode cX10_init 45 = .ok (.sipush 486, 3) := by decide +kernel
theorem dX10_init_48 : decode cX10_init 48 = .ok (.newarray .long, 2) := by decide +kernel
theorem dX10_init_50 : decode cX10_init 50 = .ok (.putfield 28, 3) := by decide +kernel
theorem dX10_init_53 : decode cX10_init 53 = .ok (.aload_n 0, 1) := by decide +kernel
theorem dX10_init_54 : decode cX10_init 54 = .ok (.sipush 486, 3) := by decide +kernel
theorem dX10_init_57 : decode cX10_init 57 = .ok (.newarray .long, 2) := by decide +kernel
theorem dX10_init_59 : decode cX10_init 59 = .ok (.putfield 32, 3) := by decide +kernel
theorem dX10_init_62 : decode cX10_init 62 = .ok (.aload_n 0, 1) := by decide +kernel
theorem dX10_init_63 : decode cX10_init 63 = .ok (.sipush 1458, 3) := by decide +kernel
theorem dX10_init_66 : decode cX10_init 66 = .ok (.newarray .int, 2) := by decide +kernel
theorem dX10_init_68 : decode cX10_init 68 = .ok (.putfield 35, 3) := by decide +kernel
theorem dX10_init_71 : decode cX10_init 71 = .ok (.aload_n 0, 1) := by decide +kernel
theorem dX10_init_72 : decode cX10_init 72 = .ok (.bipush 20, 2) := by decide +kernel
theorem dX10_init_74 : decode cX10_init 74 = .ok (.newarray .int, 2) := by decide +kernel
theorem dX10_init_76 : decode cX10_init 76 = .ok (.putfield 38, 3) := by decide +kernel
theorem dX10_init_79 : decode cX10_init 79 = .ok (.aload_n 0, 1) := by decide +kernel
theorem dX10_init_80 : decode cX10_init 80 = .ok (.getfield 9, 3) := by decide +kernel
theorem dX10_init_83 : decode cX10_init 83 = .ok (.bipush 6, 2) := by decide +kernel
theorem dX10_init_85 : decode cX10_init 85 = .ok (.iconst (-1), 1) := by decide +kernel
theorem dX10_init_86 : decode cX10_init 86 = .ok (.iastore, 1) := by decide +kernel
theorem dX10_init_87 : decode cX10_init 87 = .ok (.return_, 1) := by decide +kernel
theorem dX10_in_0 : decode cX10_in 0 = .ok (.iload_n 0, 1) := by decide +kernel
theorem dX10_in_1 : decode cX10_in 1 = .ok (.iload_n 1, 1) := by decide +kernel
theorem dX10_in_2 : decode cX10_in 2 = .ok (.if_icmp .lt 12, 3) := by decide +kernel
theorem dX10_in_5 : decode cX10_in 5 = .ok (.iload_n 0, 1) := by decide +kernel
theorem dX10_in_6 : decode cX10_in 6 = .ok (.iload_n 2, 1) := by decide +kernel
theorem dX10_in_7 : decode cX10_in 7 = .ok (.if_icmp .gt 7, 3) := by decide +kernel
theorem dX10_in_10 : decode cX10_in 10 = .ok (.iconst 1, 1) := by decide +kernel
theorem dX10_in_11 : decode cX10_in 11 = .ok (.goto 4, 3) := by decide +kernel
theorem dX10_in_14 : decode cX10_in 14 = .ok (.iconst 0, 1) := by decide +kernel
theorem dX10_in_15 : decode cX10_in 15 = .ok (.ireturn, 1) := by decide +kernel
theorem dX10_isRow_0 : decode cX10_isRow 0 = .ok (.iload_n 1, 1) := by decide +kernel
theorem dX10_isRow_1 : decode cX10_isRow 1 = .ok (.iconst 0, 1) := by decide +kernel
theorem dX10_isRow_2 : decode cX10_isRow 2 = .ok (.aload_n 0, 1) := by decide +kernel
theorem dX10_isRow_3 : decode cX10_isRow 3 = .ok (.getfield 9, 3) := by decide +kernel
theorem dX10_isRow_6 : decode cX10_isRow 6 = .ok (.iconst 0, 1) := by decide +kernel
theorem dX10_isRow_7 : decode cX10_isRow 7 = .ok (.iaload, 1) := by decide +kernel
theorem dX10_isRow_8 : decode cX10_isRow 8 = .ok (.iconst 1, 1) := by decide +kernel
theorem dX10_isRow_9 : decode cX10_isRow 9 = .ok (.isub, 1) := by decide +kernel
theorem dX10_isRow_10 : decode cX10_isRow 10 = .ok (.invokestatic 45, 3) := by decide +kernel
theorem dX10_isRow_13 : decode cX10_isRow 13 = .ok (.ireturn, 1) := by decide +kernel
theorem dX10_isPlayer_0 : decode cX10_isPlayer 0 = .ok (.iload_n 1, 1) := by decide +kernel
theorem dX10_isPlayer_1 : decode cX10_isPlayer 1 = .ok (.iconst 0, 1) := by decide +kernel
theorem dX10_isPlayer_2 : decode cX10_isPlayer 2 = .ok (.aload_n 0, 1) := by decide +kernel
theorem dX10_isPlayer_3 : decode cX10_isPlayer 3 = .ok (.getfield 9, 3) := by decide +kernel
theorem dX10_isPlayer_6 : decode cX10_isPlayer 6 = .ok (.iconst 1, 1) := by decide +kernel
theorem dX10_isPlayer_7 : decode cX10_isPlayer 7 = .ok (.iaload, 1) := by decide +kernel
theorem dX10_isPlayer_8 : decode cX10_isPlayer 8 = .ok (.iconst 1, 1) := by decide +kernel
theorem dX10_isPlayer_9 : decode cX10_isPlayer 9 = .ok (.isub, 1) := by decide +kernel
theorem dX10_isPlayer_10 : decode cX10_isPlayer 10 = .ok (.invokestatic 45, 3) := by decide +kernel
theorem dX10_isPlayer_13 : decode cX10_isPlayer 13 = .ok (.ireturn, 1) := by decide +kernel
theorem dX10_feed_0 : decode cX10_feed 0 = .ok (.iload_n 1, 1) := by decide +kernel
theorem dX10_feed_1 : decode cX10_feed 1 = .ok (.iconst 0, 1) := by decide +kernel
theorem dX10_feed_2 : decode cX10_feed 2 = .ok (.bipush 127, 2) := by decide +kernel
theorem dX10_feed_4 : decode cX10_feed 4 = .ok (.invokestatic 45, 3) := by decide +kernel
theorem dX10_feed_7 : decode cX10_feed 7 = .ok (.ifCond .ne 6, 3) := by decide +kernel
theorem dX10_feed_10 : decode cX10_feed 10 = .ok (.bipush (-2), 2) := by decide +kernel
theorem dX10_feed_12 : decode cX10_feed 12 = .ok (.ireturn, 1) := by decide +kernel
theorem dX10_feed_13 : decode cX10_feed 13 = .ok (.aload_n 0, 1) := by decide +kernel
theorem dX10_feed_14 : decode cX10_feed 14 = .ok (.getfield 9, 3) := by decide +kernel
theorem dX10_feed_17 : decode cX10_feed 17 = .ok (.iconst 5, 1) := by decide +kernel
theorem dX10_feed_18 : decode cX10_feed 18 = .ok (.iaload, 1) := by decide +kernel
theorem dX10_feed_19 : decode cX10_feed 19 = .ok (.bipush 100, 2) := by decide +kernel
theorem dX10_feed_21 : decode cX10_feed 21 = .ok (.if_icmp .ne 6, 3) := by decide +kernel
theorem dX10_feed_24 : decode cX10_feed 24 = .ok (.bipush (-4), 2) := by decide +kernel
theorem dX10_feed_26 : decode cX10_feed 26 = .ok (.ireturn, 1) := by decide +kernel
theorem dX10_feed_27 : decode cX10_feed 27 = .ok (.aload_n 0, 1) := by decide +kernel
theorem dX10_feed_28 : decode cX10_feed 28 = .ok (.getfield 9, 3) := by decide +kernel
theorem dX10_feed_31 : decode cX10_feed 31 = .ok (.sipush 132, 3) := by decide +kernel
theorem dX10_feed_34 : decode cX10_feed 34 = .ok (.aload_n 0, 1) := by decide +kernel
theorem dX10_feed_35 : decode cX10_feed 35 = .ok (.getfield 9, 3) := by decide +kernel
theorem dX10_feed_38 : decode cX10_feed 38 = .ok (.iconst 5, 1) := by decide +kernel
theorem dX10_feed_39 : decode cX10_feed 39 = .ok (.iaload, 1) := by decide +kernel
theorem dX10_feed_40 : decode cX10_feed 40 = .ok (.iadd, 1) := by decide +kernel
theorem dX10_feed_41 : decode cX10_feed 41 = .ok (.iload_n 1, 1) := by decide +kernel
theorem dX10_feed_42 : decode cX10_feed 42 = .ok (.iastore, 1) := by decide +kernel
theorem dX10_feed_43 : decode cX10_feed 43 = .ok (.aload_n 0, 1) := by decide +kernel
theorem dX10_feed_44 : decode cX10_feed 44 = .ok (.getfield 9, 3) := by decide +kernel
theorem dX10_feed_47 : decode cX10_feed 47 = .ok (.iconst 5, 1) := by decide +kernel
theorem dX10_feed_48 : decode cX10_feed 48 = .ok (.dup2, 1) := by decide +kernel
theorem dX10_feed_49 : decode cX10_feed 49 = .ok (.iaload, 1) := by decide +kernel
theorem dX10_feed_50 : decode cX10_feed 50 = .ok (.iconst 1, 1) := by decide +kernel
theorem dX10_feed_51 : decode cX10_feed 51 = .ok (.iadd, 1) := by decide +kernel
theorem dX10_feed_52 : decode cX10_feed 52 = .ok (.iastore, 1) := by decide +kernel
theorem dX10_feed_53 : decode cX10_feed 53 = .ok (.aload_n 0, 1) := by decide +kernel
theorem dX10_feed_54 : decode cX10_feed 54 = .ok (.getfield 9, 3) := by decide +kernel
theorem dX10_feed_57 : decode cX10_feed 57 = .ok (.iconst 5, 1) := by decide +kernel
theorem dX10_feed_58 : decode cX10_feed 58 = .ok (.iaload, 1) := by decide +kernel
theorem dX10_feed_59 : decode cX10_feed 59 = .ok (.ireturn, 1) := by decide +kernel
theorem dX10_here_0 : decode cX10_here 0 = .ok (.aload_n 0, 1) := by decide +kernel
theorem dX10_here_1 : decode cX10_here 1 = .ok (.getfield 49, 3) := by decide +kernel
theorem dX10_here_4 : decode cX10_here 4 = .ok (.aload_n 0, 1) := by decide +kernel
theorem dX10_here_5 : decode cX10_here 5 = .ok (.getfield 52, 3) := by decide +kernel
theorem dX10_here_8 : decode cX10_here 8 = .ok (.if_icmp .ge 19, 3) := by decide +kernel
theorem dX10_here_11 : decode cX10_here 11 = .ok (.aload_n 0, 1) := by decide +kernel
theorem dX10_here_12 : decode cX10_here 12 = .ok (.getfield 9, 3) := by decide +kernel
theorem dX10_here_15 : decode cX10_here 15 = .ok (.sipush 132, 3) := by decide +kernel
theorem dX10_here_18 : decode cX10_here 18 = .ok (.aload_n 0, 1) := by decide +kernel
theorem dX10_here_19 : decode cX10_here 19 = .ok (.getfield 49, 3) := by decide +kernel
theorem dX10_here_22 : decode cX10_here 22 = .ok (.iadd, 1) := by decide +kernel
theorem dX10_here_23 : decode cX10_here 23 = .ok (.iaload, 1) := by decide +kernel
theorem dX10_here_24 : decode cX10_here 24 = .ok (.goto 4, 3) := by decide +kernel
theorem dX10_here_27 : decode cX10_here 27 = .ok (.iconst (-1), 1) := by decide +kernel
theorem dX10_here_28 : decode cX10_here 28 = .ok (.ireturn, 1) := by decide +kernel
theorem dX10_must_0 : decode cX10_must 0 = .ok (.aload_n 0, 1) := by decide +kernel
theorem dX10_must_1 : decode cX10_must 1 = .ok (.aload_n 0, 1) := by decide +kernel
theorem dX10_must_2 : decode cX10_must 2 = .ok (.getfield 55, 3) := by decide +kernel
theorem dX10_must_5 : decode cX10_must 5 = .ok (.ifCond .ne 11, 3) := by decide +kernel
theorem dX10_must_8 : decode cX10_must 8 = .ok (.aload_n 0, 1) := by decide +kernel
theorem dX10_must_9 : decode cX10_must 9 = .ok (.invokevirtual 59, 3) := by decide +kernel
theorem dX10_must_12 : decode cX10_must 12 = .ok (.iload_n 1, 1) := by decide +kernel
theorem dX10_must_13 : decode cX10_must 13 = .ok (.if_icmp .eq 7, 3) := by decide +kernel
theorem dX10_must_16 : decode cX10_must 16 = .ok (.iconst 1, 1) := by decide +kernel
theorem dX10_must_17 : decode cX10_must 17 = .ok (.goto 4, 3) := by decide +kernel
theorem dX10_must_20 : decode cX10_must 20 = .ok (.iconst 0, 1) := by decide +kernel
theorem dX10_must_21 : decode cX10_must 21 = .ok (.putfield 55, 3) := by decide +kernel
theorem dX10_must_24 : decode cX10_must 24 = .ok (.aload_n 0, 1) := by decide +kernel
theorem dX10_must_25 : decode cX10_must 25 = .ok (.dup, 1) := by decide +kernel
theorem dX10_must_26 : decode cX10_must 26 = .ok (.getfield 49, 3) := by decide +kernel
theorem dX10_must_29 : decode cX10_must 29 = .ok (.aload_n 0, 1) := by decide +kernel
theorem dX10_must_30 : decode cX10_must 30 = .ok (.getfield 55, 3) := by decide +kernel
theorem dX10_must_33 : decode cX10_must 33 = .ok (.ifCond .eq 7, 3) := by decide +kernel
theorem dX10_must_36 : decode cX10_must 36 = .ok (.iconst 0, 1) := by decide +kernel
theorem dX10_must_37 : decode cX10_must 37 = .ok (.goto 4, 3) := by decide +kernel
theorem dX10_must_40 : decode cX10_must 40 = .ok (.iconst 1, 1) := by decide +kernel
theorem dX10_must_41 : decode cX10_must 41 = .ok (.iadd, 1) := by decide +kernel
theorem dX10_must_42 : decode cX10_must 42 = .ok (.putfield 49, 3) := by decide +kernel
theorem dX10_must_45 : decode cX10_must 45 = .ok (.return_, 1) := by decide +kernel
theorem dX10_spells_0 : decode cX10_spells 0 = .ok (.iconst 0, 1) := by decide +kernel
theorem dX10_spells_1 : decode cX10_spells 1 = .ok (.istore_n 2, 1) := by decide +kernel
theorem dX10_spells_2 : decode cX10_spells 2 = .ok (.iload_n 2, 1) := by decide +kernel
theorem dX10_spells_3 : decode cX10_spells 3 = .ok (.aload_n 1, 1) := by decide +kernel
theorem dX10_spells_4 : decode cX10_spells 4 = .ok (.invokevirtual 63, 3) := by decide +kernel
theorem dX10_spells_7 : decode cX10_spells 7 = .ok (.if_icmp .ge 18, 3) := by decide +kernel
theorem dX10_spells_10 : decode cX10_spells 10 = .ok (.aload_n 0, 1) := by decide +kernel
theorem dX10_spells_11 : decode cX10_spells 11 = .ok (.aload_n 1, 1) := by decide +kernel
theorem dX10_spells_12 : decode cX10_spells 12 = .ok (.iload_n 2, 1) := by decide +kernel
theorem dX10_spells_13 : decode cX10_spells 13 = .ok (.invokevirtual 68, 3) := by decide +kernel
theorem dX10_spells_16 : decode cX10_spells 16 = .ok (.invokevirtual 72, 3) := by decide +kernel
theorem dX10_spells_19 : decode cX10_spells 19 = .ok (.iinc 2 1, 3) := by decide +kernel
theorem dX10_spells_22 : decode cX10_spells 22 = .ok (.goto (-20), 3) := by decide +kernel
theorem dX10_spells_25 : decode cX10_spells 25 = .ok (.return_, 1) := by decide +kernel
theorem dX10_figures_0 : decode cX10_figures 0 = .ok (.aload_n 0, 1) := by decide +kernel
theorem dX10_figures_1 : decode cX10_figures 1 = .ok (.aload_n 0, 1) := by decide +kernel
theorem dX10_figures_2 : decode cX10_figures 2 = .ok (.getfield 55, 3) := by decide +kernel
theorem dX10_figures_5 : decode cX10_figures 5 = .ok (.ifCond .ne 17, 3) := by decide +kernel
theorem dX10_figures_8 : decode cX10_figures 8 = .ok (.aload_n 0, 1) := by decide +kernel
theorem dX10_figures_9 : decode cX10_figures 9 = .ok (.invokevirtual 59, 3) := by decide +kernel
theorem dX10_figures_12 : decode cX10_figures 12 = .ok (.bipush 48, 2) := by decide +kernel
theorem dX10_figures_14 : decode cX10_figures 14 = .ok (.bipush 57, 2) := by decide +kernel
theorem dX10_figures_16 : decode cX10_figures 16 = .ok (.invokestatic 45, 3) := by decide +kernel
theorem dX10_figures_19 : decode cX10_figures 19 = .ok (.ifCond .ne 7, 3) := by decide +kernel
theorem dX10_figures_22 : decode cX10_figures 22 = .ok (.iconst 1, 1) := by decide +kernel
theorem dX10_figures_23 : decode cX10_figures 23 = .ok (.goto 4, 3) := by decide +kernel
theorem dX10_figures_26 : decode cX10_figures 26 = .ok (.iconst 0, 1) := by decide +kernel
theorem dX10_figures_27 : decode cX10_figures 27 = .ok (.putfield 55, 3) := by decide +kernel
theorem dX10_figures_30 : decode cX10_figures 30 = .ok (.iconst 0, 1) := by decide +kernel
theorem dX10_figures_31 : decode cX10_figures 31 = .ok (.istore_n 1, 1) := by decide +kernel
theorem dX10_figures_32 : decode cX10_figures 32 = .ok (.iconst 0, 1) := by decide +kernel
theorem dX10_figures_33 : decode cX10_figures 33 = .ok (.istore_n 2, 1) := by decide +kernel
theorem dX10_figures_34 : decode cX10_figures 34 = .ok (.iload_n 2, 1) := by decide +kernel
theorem dX10_figures_35 : decode cX10_figures 35 = .ok (.iconst 2, 1) := by decide +kernel
theorem dX10_figures_36 : decode cX10_figures 36 = .ok (.if_icmp .ge 61, 3) := by decide +kernel
theorem dX10_figures_39 : decode cX10_figures 39 = .ok (.aload_n 0, 1) := by decide +kernel
theorem dX10_figures_40 : decode cX10_figures 40 = .ok (.getfield 55, 3) := by decide +kernel
theorem dX10_figures_43 : decode cX10_figures 43 = .ok (.ifCond .ne 54, 3) := by decide +kernel
theorem dX10_figures_46 : decode cX10_figures 46 = .ok (.aload_n 0, 1) := by decide +kernel
theorem dX10_figures_47 : decode cX10_figures 47 = .ok (.invokevirtual 59, 3) := by decide +kernel
theorem dX10_figures_50 : decode cX10_figures 50 = .ok (.bipush 48, 2) := by decide +kernel
theorem dX10_figures_52 : decode cX10_figures 52 = .ok (.bipush 57, 2) := by decide +kernel
theorem dX10_figures_54 : decode cX10_figures 54 = .ok (.invokestatic 45, 3) := by decide +kernel
theorem dX10_figures_57 : decode cX10_figures 57 = .ok (.ifCond .eq 40, 3) := by decide +kernel
theorem dX10_figures_60 : decode cX10_figures 60 = .ok (.iload_n 2, 1) := by decide +kernel
theorem dX10_figures_61 : decode cX10_figures 61 = .ok (.ifCond .eq 7, 3) := by decide +kernel
theorem dX10_figures_64 : decode cX10_figures 64 = .ok (.iload_n 1, 1) := by decide +kernel
theorem dX10_figures_65 : decode cX10_figures 65 = .ok (.ifCond .le 32, 3) := by decide +kernel
theorem dX10_figures_68 : decode cX10_figures 68 = .ok (.bipush 10, 2) := by decide +kernel
theorem dX10_figures_70 : decode cX10_figures 70 = .ok (.iload_n 1, 1) := by decide +kernel
theorem dX10_figures_71 : decode cX10_figures 71 = .ok (.imul, 1) := by decide +kernel
theorem dX10_figures_72 : decode cX10_figures 72 = .ok (.aload_n 0, 1) := by decide +kernel
theorem dX10_figures_73 : decode cX10_figures 73 = .ok (.invokevirtual 59, 3) := by decide +kernel
theorem dX10_figures_76 : decode cX10_figures 76 = .ok (.iadd, 1) := by decide +kernel
theorem dX10_figures_77 : decode cX10_figures 77 = .ok (.bipush 48, 2) := by decide +kernel
theorem dX10_figures_79 : decode cX10_figures 79 = .ok (.isub, 1) := by decide +kernel
theorem dX10_figures_80 : decode cX10_figures 80 = .ok (.istore_n 1, 1) := by decide +kernel
theorem dX10_figures_81 : decode cX10_figures 81 = .ok (.aload_n 0, 1) := by decide +kernel
theorem dX10_figures_82 : decode cX10_figures 82 = .ok (.dup, 1) := by decide +kernel
theorem dX10_figures_83 : decode cX10_figures 83 = .ok (.getfield 49, 3) := by decide +kernel
theorem dX10_figures_86 : decode cX10_figures 86 = .ok (.iconst 1, 1) := by decide +kernel
theorem dX10_figures_87 : decode cX10_figures 87 = .ok (.iadd, 1) := by decide +kernel
theorem dX10_figures_88 : decode cX10_figures 88 = .ok (.putfield 49, 3) := by decide +kernel
theorem dX10_figures_91 : decode cX10_figures 91 = .ok (.iinc 2 1, 3) := by decide +kernel
theorem dX10_figures_94 : decode cX10_figures 94 = .ok (.goto (-60), 3) := by decide +kernel
theorem dX10_figures_97 : decode cX10_figures 97 = .ok (.iload_n 1, 1) := by decide +kernel
theorem dX10_figures_98 : decode cX10_figures 98 = .ok (.ireturn, 1) := by decide +kernel
theorem dX10_among_0 : decode cX10_among 0 = .ok (.iconst 0, 1) := by decide +kernel
theorem dX10_among_1 : decode cX10_among 1 = .ok (.istore_n 2, 1) := by decide +kernel
theorem dX10_among_2 : decode cX10_among 2 = .ok (.iload_n 2, 1) := by decide +kernel
theorem dX10_among_3 : decode cX10_among 3 = .ok (.aload_n 1, 1) := by decide +kernel
theorem dX10_among_4 : decode cX10_among 4 = .ok (.invokevirtual 63, 3) := by decide +kernel
theorem dX10_among_7 : decode cX10_among 7 = .ok (.if_icmp .ge 33, 3) := by decide +kernel
theorem dX10_among_10 : decode cX10_among 10 = .ok (.aload_n 0, 1) := by decide +kernel
theorem dX10_among_11 : decode cX10_among 11 = .ok (.invokevirtual 59, 3) := by decide +kernel
theorem dX10_among_14 : decode cX10_among 14 = .ok (.aload_n 1, 1) := by decide +kernel
theorem dX10_among_15 : decode cX10_among 15 = .ok (.iload_n 2, 1) := by decide +kernel
theorem dX10_among_16 : decode cX10_among 16 = .ok (.invokevirtual 68, 3) := by decide +kernel
theorem dX10_among_19 : decode cX10_among 19 = .ok (.if_icmp .ne 15, 3) := by decide +kernel
theorem dX10_among_22 : decode cX10_among 22 = .ok (.aload_n 0, 1) := by decide +kernel
theorem dX10_among_23 : decode cX10_among 23 = .ok (.dup, 1) := by decide +kernel
theorem dX10_among_24 : decode cX10_among 24 = .ok (.getfield 49, 3) := by decide +kernel
theorem dX10_among_27 : decode cX10_among 27 = .ok (.iconst 1, 1) := by decide +kernel
theorem dX10_among_28 : decode cX10_among 28 = .ok (.iadd, 1) := by decide +kernel
theorem dX10_among_29 : decode cX10_among 29 = .ok (.putfield 49, 3) := by decide +kernel
theorem dX10_among_32 : decode cX10_among 32 = .ok (.iload_n 2, 1) := by decide +kernel
theorem dX10_among_33 : decode cX10_among 33 = .ok (.ireturn, 1) := by decide +kernel
theorem dX10_among_34 : decode cX10_among 34 = .ok (.iinc 2 1, 3) := by decide +kernel
theorem dX10_among_37 : decode cX10_among 37 = .ok (.goto (-35), 3) := by decide +kernel
theorem dX10_among_40 : decode cX10_among 40 = .ok (.iconst (-1), 1) := by decide +kernel
theorem dX10_among_41 : decode cX10_among 41 = .ok (.ireturn, 1) := by decide +kernel
theorem dX10_emits_0 : decode cX10_emits 0 = .ok (.aload_n 0, 1) := by decide +kernel
theorem dX10_emits_1 : decode cX10_emits 1 = .ok (.getfield 55, 3) := by decide +kernel
theorem dX10_emits_4 : decode cX10_emits 4 = .ok (.ifCond .ne 52, 3) := by decide +kernel
theorem dX10_emits_7 : decode cX10_emits 7 = .ok (.aload_n 0, 1) := by decide +kernel
theorem dX10_emits_8 : decode cX10_emits 8 = .ok (.getfield 9, 3) := by decide +kernel
theorem dX10_emits_11 : decode cX10_emits 11 = .ok (.sipush 252, 3) := by decide +kernel
theorem dX10_emits_14 : decode cX10_emits 14 = .ok (.sipush 140, 3) := by decide +kernel
theorem dX10_emits_17 : decode cX10_emits 17 = .ok (.aload_n 0, 1) := by decide +kernel
theorem dX10_emits_18 : decode cX10_emits 18 = .ok (.getfield 76, 3) := by decide +kernel
theorem dX10_emits_21 : decode cX10_emits 21 = .ok (.imul, 1) := by decide +kernel
theorem dX10_emits_22 : decode cX10_emits 22 = .ok (.iadd, 1) := by decide +kernel
theorem dX10_emits_23 : decode cX10_emits 23 = .ok (.aload_n 0, 1) := by decide +kernel
theorem dX10_emits_24 : decode cX10_emits 24 = .ok (.getfield 9, 3) := by decide +kernel
theorem dX10_emits_27 : decode cX10_emits 27 = .ok (.sipush 247, 3) := by decide +kernel
theorem dX10_emits_30 : decode cX10_emits 30 = .ok (.aload_n 0, 1) := by decide +kernel
theorem dX10_emits_31 : decode cX10_emits 31 = .ok (.getfield 76, 3) := by decide +kernel
theorem dX10_emits_34 : decode cX10_emits 34 = .ok (.iadd, 1) := by decide +kernel
theorem dX10_emits_35 : decode cX10_emits 35 = .ok (.iaload, 1) := by decide +kernel
theorem dX10_emits_36 : decode cX10_emits 36 = .ok (.iadd, 1) := by decide +kernel
theorem dX10_emits_37 : decode cX10_emits 37 = .ok (.iload_n 1, 1) := by decide +kernel
theorem dX10_emits_38 : decode cX10_emits 38 = .ok (.iastore, 1) := by decide +kernel
theorem dX10_emits_39 : decode cX10_emits 39 = .ok (.aload_n 0, 1) := by decide +kernel
theorem dX10_emits_40 : decode cX10_emits 40 = .ok (.getfield 9, 3) := by decide +kernel
theorem dX10_emits_43 : decode cX10_emits 43 = .ok (.sipush 247, 3) := by decide +kernel
theorem dX10_emits_46 : decode cX10_emits 46 = .ok (.aload_n 0, 1) := by decide +kernel
theorem dX10_emits_47 : decode cX10_emits 47 = .ok (.getfield 76, 3) := by decide +kernel
theorem dX10_emits_50 : decode cX10_emits 50 = .ok (.iadd, 1) := by decide +kernel
theorem dX10_emits_51 : decode cX10_emits 51 = .ok (.dup2, 1) := by decide +kernel
theorem dX10_emits_52 : decode cX10_emits 52 = .ok (.iaload, 1) := by decide +kernel
theorem dX10_emits_53 : decode cX10_emits 53 = .ok (.iconst 1, 1) := by decide +kernel
theorem dX10_emits_54 : decode cX10_emits 54 = .ok (.iadd, 1) := by decide +kernel
theorem dX10_emits_55 : decode cX10_emits 55 = .ok (.iastore, 1) := by decide +kernel
theorem dX10_emits_56 : decode cX10_emits 56 = .ok (.return_, 1) := by decide +kernel
theorem dX10_factor_0 : decode cX10_factor 0 = .ok (.aload_n 0, 1) := by decide +kernel
theorem dX10_factor_1 : decode cX10_factor 1 = .ok (.getfield 55, 3) := by decide +kernel
theorem dX10_factor_4 : decode cX10_factor 4 = .ok (.ifCond .eq 4, 3) := by decide +kernel
theorem dX10_factor_7 : decode cX10_factor 7 = .ok (.return_, 1) := by decide +kernel
theorem dX10_factor_8 : decode cX10_factor 8 = .ok (.aload_n 0, 1) := by decide +kernel
theorem dX10_factor_9 : decode cX10_factor 9 = .ok (.invokevirtual 59, 3) := by decide +kernel
theorem dX10_factor_12 : decode cX10_factor 12 = .ok (.istore_n 1, 1) := by decide +kernel
theorem dX10_factor_13 : decode cX10_factor 13 = .ok (.iload_n 1, 1) := by decide +kernel
theorem dX10_factor_14 : decode cX10_factor 14 = .ok (.bipush 33, 2) := by decide +kernel
theorem dX10_factor_16 : decode cX10_factor 16 = .ok (.if_icmp .eq 9, 3) := by decide +kernel
theorem dX10_factor_19 : decode cX10_factor 19 = .ok (.iload_n 1, 1) := by decide +kernel
theorem dX10_factor_20 : decode cX10_factor 20 = .ok (.bipush 40, 2) := by decide +kernel
theorem dX10_factor_22 : decode cX10_factor 22 = .ok (.if_icmp .ne 90, 3) := by decide +kernel
theorem dX10_factor_25 : decode cX10_factor 25 = .ok (.aload_n 0, 1) := by decide +kernel
theorem dX10_factor_26 : decode cX10_factor 26 = .ok (.aload_n 0, 1) := by decide +kernel
theorem dX10_factor_27 : decode cX10_factor 27 = .ok (.getfield 79, 3) := by decide +kernel
theorem dX10_factor_30 : decode cX10_factor 30 = .ok (.iconst 5, 1) := by decide +kernel
theorem dX10_factor_31 : decode cX10_factor 31 = .ok (.if_icmp .ne 7, 3) := by decide +kernel
theorem dX10_factor_34 : decode cX10_factor 34 = .ok (.iconst 1, 1) := by decide +kernel
theorem dX10_factor_35 : decode cX10_factor 35 = .ok (.goto 4, 3) := by decide +kernel
theorem dX10_factor_38 : decode cX10_factor 38 = .ok (.iconst 0, 1) := by decide +kernel
theorem dX10_factor_39 : decode cX10_factor 39 = .ok (.putfield 55, 3) := by decide +kernel
theorem dX10_factor_42 : decode cX10_factor 42 = .ok (.aload_n 0, 1) := by decide +kernel
theorem dX10_factor_43 : decode cX10_factor 43 = .ok (.dup, 1) := by decide +kernel
theorem dX10_factor_44 : decode cX10_factor 44 = .ok (.getfield 79, 3) := by decide +kernel
theorem dX10_factor_47 : decode cX10_factor 47 = .ok (.iconst 1, 1) := by decide +kernel
theorem dX10_factor_48 : decode cX10_factor 48 = .ok (.iadd, 1) := by decide +kernel
theorem dX10_factor_49 : decode cX10_factor 49 = .ok (.putfield 79, 3) := by decide +kernel
theorem dX10_factor_52 : decode cX10_factor 52 = .ok (.aload_n 0, 1) := by decide +kernel
theorem dX10_factor_53 : decode cX10_factor 53 = .ok (.dup, 1) := by decide +kernel
theorem dX10_factor_54 : decode cX10_factor 54 = .ok (.getfield 49, 3) := by decide +kernel
theorem dX10_factor_57 : decode cX10_factor 57 = .ok (.aload_n 0, 1) := by decide +kernel
theorem dX10_factor_58 : decode cX10_factor 58 = .ok (.getfield 55, 3) := by decide +kernel
theorem dX10_factor_61 : decode cX10_factor 61 = .ok (.ifCond .eq 7, 3) := by decide +kernel
theorem dX10_factor_64 : decode cX10_factor 64 = .ok (.iconst 0, 1) := by decide +kernel
theorem dX10_factor_65 : decode cX10_factor 65 = .ok (.goto 4, 3) := by decide +kernel
theorem dX10_factor_68 : decode cX10_factor 68 = .ok (.iconst 1, 1) := by decide +kernel
theorem dX10_factor_69 : decode cX10_factor 69 = .ok (.iadd, 1) := by decide +kernel
theorem dX10_factor_70 : decode cX10_factor 70 = .ok (.putfield 49, 3) := by decide +kernel
theorem dX10_factor_73 : decode cX10_factor 73 = .ok (.iload_n 1, 1) := by decide +kernel
theorem dX10_factor_74 : decode cX10_factor 74 = .ok (.bipush 33, 2) := by decide +kernel
theorem dX10_factor_76 : decode cX10_factor 76 = .ok (.if_icmp .ne 15, 3) := by decide +kernel
theorem dX10_factor_79 : decode cX10_factor 79 = .ok (.aload_n 0, 1) := by decide +kernel
theorem dX10_factor_80 : decode cX10_factor 80 = .ok (.invokevirtual 82, 3) := by decide +kernel
theorem dX10_factor_83 : decode cX10_factor 83 = .ok (.aload_n 0, 1) := by decide +kernel
theorem dX10_factor_84 : decode cX10_factor 84 = .ok (.iconst (-1), 1) := by decide +kernel
theorem dX10_factor_85 : decode cX10_factor 85 = .ok (.invokevirtual 85, 3) := by decide +kernel
theorem dX10_factor_88 : decode cX10_factor 88 = .ok (.goto 13, 3) := by decide +kernel
theorem dX10_factor_91 : decode cX10_factor 91 = .ok (.aload_n 0, 1) := by decide +kernel
theorem dX10_factor_92 : decode cX10_factor 92 = .ok (.invokevirtual 88, 3) := by decide +kernel
theorem dX10_factor_95 : decode cX10_factor 95 = .ok (.aload_n 0, 1) := by decide +kernel
theorem dX10_factor_96 : decode cX10_factor 96 = .ok (.bipush 41, 2) := by decide +kernel
theorem dX10_factor_98 : decode cX10_factor 98 = .ok (.invokevirtual 72, 3) := by decide +kernel
theorem dX10_factor_101 : decode cX10_factor 101 = .ok (.aload_n 0, 1) := by decide +kernel
theorem dX10_factor_102 : decode cX10_factor 102 = .ok (.dup, 1) := by decide +kernel
theorem dX10_factor_103 : decode cX10_factor 103 = .ok (.getfield 79, 3) := by decide +kernel
theorem dX10_factor_106 : decode cX10_factor 106 = .ok (.iconst 1, 1) := by decide +kernel
theorem dX10_factor_107 : decode cX10_factor 107 = .ok (.isub, 1) := by decide +kernel
theorem dX10_factor_108 : decode cX10_factor 108 = .ok (.putfield 79, 3) := by decide +kernel
theorem dX10_factor_111 : decode cX10_factor 111 = .ok (.return_, 1) := by decide +kernel
theorem dX10_factor_112 : decode cX10_factor 112 = .ok (.aload_n 0, 1) := by decide +kernel
theorem dX10_factor_113 : decode cX10_factor 113 = .ok (.ldc 91, 2) := by decide +kernel
theorem dX10_factor_115 : decode cX10_factor 115 = .ok (.invokevirtual 93, 3) := by decide +kernel
theorem dX10_factor_118 : decode cX10_factor 118 = .ok (.istore_n 2, 1) := by decide +kernel
theorem dX10_factor_119 : decode cX10_factor 119 = .ok (.aload_n 0, 1) := by decide +kernel
theorem dX10_factor_120 : decode cX10_factor 120 = .ok (.iload_n 2, 1) := by decide +kernel
theorem dX10_factor_121 : decode cX10_factor 121 = .ok (.iconst (-1), 1) := by decide +kernel
theorem dX10_factor_122 : decode cX10_factor 122 = .ok (.if_icmp .ne 7, 3) := by decide +kernel
theorem dX10_factor_125 : decode cX10_factor 125 = .ok (.iconst 1, 1) := by decide +kernel
theorem dX10_factor_126 : decode cX10_factor 126 = .ok (.goto 4, 3) := by decide +kernel
theorem dX10_factor_129 : decode cX10_factor 129 = .ok (.iconst 0, 1) := by decide +kernel
theorem dX10_factor_130 : decode cX10_factor 130 = .ok (.putfield 55, 3) := by decide +kernel
theorem dX10_factor_133 : decode cX10_factor 133 = .ok (.aload_n 0, 1) := by decide +kernel
theorem dX10_factor_134 : decode cX10_factor 134 = .ok (.getfield 55, 3) := by decide +kernel
theorem dX10_factor_137 : decode cX10_factor 137 = .ok (.ifCond .eq 7, 3) := by decide +kernel
theorem dX10_factor_140 : decode cX10_factor 140 = .ok (.iconst 0, 1) := by decide +kernel
theorem dX10_factor_141 : decode cX10_factor 141 = .ok (.goto 9, 3) := by decide +kernel
theorem dX10_factor_144 : decode cX10_factor 144 = .ok (.aload_n 0, 1) := by decide +kernel
theorem dX10_factor_145 : decode cX10_factor 145 = .ok (.ldc 97, 2) := by decide +kernel
theorem dX10_factor_147 : decode cX10_factor 147 = .ok (.invokevirtual 93, 3) := by decide +kernel
theorem dX10_factor_150 : decode cX10_factor 150 = .ok (.istore_n 3, 1) := by decide +kernel
theorem dX10_factor_151 : decode cX10_factor 151 = .ok (.aload_n 0, 1) := by decide +kernel
theorem dX10_factor_152 : decode cX10_factor 152 = .ok (.aload_n 0, 1) := by decide +kernel
theorem dX10_factor_153 : decode cX10_factor 153 = .ok (.getfield 55, 3) := by decide +kernel
theorem dX10_factor_156 : decode cX10_factor 156 = .ok (.ifCond .ne 8, 3) := by decide +kernel
theorem dX10_factor_159 : decode cX10_factor 159 = .ok (.iload_n 3, 1) := by decide +kernel
theorem dX10_factor_160 : decode cX10_factor 160 = .ok (.iconst (-1), 1) := by decide +kernel
theorem dX10_factor_161 : decode cX10_factor 161 = .ok (.if_icmp .ne 7, 3) := by decide +kernel
theorem dX10_factor_164 : decode cX10_factor 164 = .ok (.iconst 1, 1) := by decide +kernel
theorem dX10_factor_165 : decode cX10_factor 165 = .ok (.goto 4, 3) := by decide +kernel
theorem dX10_factor_168 : decode cX10_factor 168 = .ok (.iconst 0, 1) := by decide +kernel
theorem dX10_factor_169 : decode cX10_factor 169 = .ok (.putfield 55, 3) := by decide +kernel
theorem dX10_factor_172 : decode cX10_factor 172 = .ok (.aload_n 0, 1) := by decide +kernel
theorem dX10_factor_173 : decode cX10_factor 173 = .ok (.invokevirtual 99, 3) := by decide +kernel
theorem dX10_factor_176 : decode cX10_factor 176 = .ok (.istore 4, 2) := by decide +kernel
theorem dX10_factor_178 : decode cX10_factor 178 = .ok (.aload_n 0, 1) := by decide +kernel
theorem dX10_factor_179 : decode cX10_factor 179 = .ok (.iload_n 2, 1) := by decide +kernel
theorem dX10_factor_180 : decode cX10_factor 180 = .ok (.bipush 8, 2) := by decide +kernel
theorem dX10_factor_182 : decode cX10_factor 182 = .ok (.iload_n 3, 1) := by decide +kernel
theorem dX10_factor_183 : decode cX10_factor 183 = .ok (.imul, 1) := by decide +kernel
theorem dX10_factor_184 : decode cX10_factor 184 = .ok (.iadd, 1) := by decide +kernel
theorem dX10_factor_185 : decode cX10_factor 185 = .ok (.bipush 32, 2) := by decide +kernel
theorem dX10_factor_187 : decode cX10_factor 187 = .ok (.iload 4, 2) := by decide +kernel
theorem dX10_factor_189 : decode cX10_factor 189 = .ok (.imul, 1) := by decide +kernel
theorem dX10_factor_190 : decode cX10_factor 190 = .ok (.iadd, 1) := by decide +kernel
theorem dX10_factor_191 : decode cX10_factor 191 = .ok (.invokevirtual 85, 3) := by decide +kernel
theorem dX10_factor_194 : decode cX10_factor 194 = .ok (.return_, 1) := by decide +kernel
theorem dX10_every_0 : decode cX10_every 0 = .ok (.aload_n 0, 1) := by decide +kernel
theorem dX10_every_1 : decode cX10_every 1 = .ok (.invokevirtual 82, 3) := by decide +kernel
theorem dX10_every_4 : decode cX10_every 4 = .ok (.aload_n 0, 1) := by decide +kernel
theorem dX10_every_5 : decode cX10_every 5 = .ok (.getfield 55, 3) := by decide +kernel
theorem dX10_every_8 : decode cX10_every 8 = .ok (.ifCond .ne 35, 3) := by decide +kernel
theorem dX10_every_11 : decode cX10_every 11 = .ok (.aload_n 0, 1) := by decide +kernel
theorem dX10_every_12 : decode cX10_every 12 = .ok (.invokevirtual 59, 3) := by decide +kernel
theorem dX10_every_15 : decode cX10_every 15 = .ok (.bipush 38, 2) := by decide +kernel
theorem dX10_every_17 : decode cX10_every 17 = .ok (.if_icmp .ne 26, 3) := by decide +kernel
theorem dX10_every_20 : decode cX10_every 20 = .ok (.aload_n 0, 1) := by decide +kernel
theorem dX10_every_21 : decode cX10_every 21 = .ok (.dup, 1) := by decide +kernel
theorem dX10_every_22 : decode cX10_every 22 = .ok (.getfield 49, 3) := by decide +kernel
theorem dX10_every_25 : decode cX10_every 25 = .ok (.iconst 1, 1) := by decide +kernel
theorem dX10_every_26 : decode cX10_every 26 = .ok (.iadd, 1) := by decide +kernel
theorem dX10_every_27 : decode cX10_every 27 = .ok (.putfield 49, 3) := by decide +kernel
theorem dX10_every_30 : decode cX10_every 30 = .ok (.aload_n 0, 1) := by decide +kernel
theorem dX10_every_31 : decode cX10_every 31 = .ok (.invokevirtual 82, 3) := by decide +kernel
theorem dX10_every_34 : decode cX10_every 34 = .ok (.aload_n 0, 1) := by decide +kernel
theorem dX10_every_35 : decode cX10_every 35 = .ok (.bipush (-2), 2) := by decide +kernel
theorem dX10_every_37 : decode cX10_every 37 = .ok (.invokevirtual 85, 3) := by decide +kernel
theorem dX10_every_40 : decode cX10_every 40 = .ok (.goto (-36), 3) := by decide +kernel
theorem dX10_every_43 : decode cX10_every 43 = .ok (.return_, 1) := by decide +kernel
theorem dX10_some_0 : decode cX10_some 0 = .ok (.aload_n 0, 1) := by decide +kernel
theorem dX10_some_1 : decode cX10_some 1 = .ok (.invokevirtual 102, 3) := by decide +kernel
theorem dX10_some_4 : decode cX10_some 4 = .ok (.aload_n 0, 1) := by decide +kernel
theorem dX10_some_5 : decode cX10_some 5 = .ok (.getfield 55, 3) := by decide +kernel
theorem dX10_some_8 : decode cX10_some 8 = .ok (.ifCond .ne 35, 3) := by decide +kernel
theorem dX10_some_11 : decode cX10_some 11 = .ok (.aload_n 0, 1) := by decide +kernel
theorem dX10_some_12 : decode cX10_some 12 = .ok (.invokevirtual 59, 3) := by decide +kernel
theorem dX10_some_15 : decode cX10_some 15 = .ok (.bipush 124, 2) := by decide +kernel
theorem dX10_some_17 : decode cX10_some 17 = .ok (.if_icmp .ne 26, 3) := by decide +kernel
theorem dX10_some_20 : decode cX10_some 20 = .ok (.aload_n 0, 1) := by decide +kernel
theorem dX10_some_21 : decode cX10_some 21 = .ok (.dup, 1) := by decide +kernel
theorem dX10_some_22 : decode cX10_some 22 = .ok (.getfield 49, 3) := by decide +kernel
theorem dX10_some_25 : decode cX10_some 25 = .ok (.iconst 1, 1) := by decide +kernel
theorem dX10_some_26 : decode cX10_some 26 = .ok (.iadd, 1) := by decide +kernel
theorem dX10_some_27 : decode cX10_some 27 = .ok (.putfield 49, 3) := by decide +kernel
theorem dX10_some_30 : decode cX10_some 30 = .ok (.aload_n 0, 1) := by decide +kernel
theorem dX10_some_31 : decode cX10_some 31 = .ok (.invokevirtual 102, 3) := by decide +kernel
theorem dX10_some_34 : decode cX10_some 34 = .ok (.aload_n 0, 1) := by decide +kernel
theorem dX10_some_35 : decode cX10_some 35 = .ok (.bipush (-3), 2) := by decide +kernel
theorem dX10_some_37 : decode cX10_some 37 = .ok (.invokevirtual 85, 3) := by decide +kernel
theorem dX10_some_40 : decode cX10_some 40 = .ok (.goto (-36), 3) := by decide +kernel
theorem dX10_some_43 : decode cX10_some 43 = .ok (.return_, 1) := by decide +kernel
theorem dX10_tellsHere_0 : decode cX10_tellsHere 0 = .ok (.aload_n 0, 1) := by decide +kernel
theorem dX10_tellsHere_1 : decode cX10_tellsHere 1 = .ok (.aload_n 2, 1) := by decide +kernel
theorem dX10_tellsHere_2 : decode cX10_tellsHere 2 = .ok (.invokevirtual 105, 3) := by decide +kernel
theorem dX10_tellsHere_5 : decode cX10_tellsHere 5 = .ok (.aload_n 0, 1) := by decide +kernel
theorem dX10_tellsHere_6 : decode cX10_tellsHere 6 = .ok (.invokevirtual 99, 3) := by decide +kernel
theorem dX10_tellsHere_9 : decode cX10_tellsHere 9 = .ok (.istore_n 3, 1) := by decide +kernel
theorem dX10_tellsHere_10 : decode cX10_tellsHere 10 = .ok (.aload_n 0, 1) := by decide +kernel
theorem dX10_tellsHere_11 : decode cX10_tellsHere 11 = .ok (.getfield 55, 3) := by decide +kernel
theorem dX10_tellsHere_14 : decode cX10_tellsHere 14 = .ok (.ifCond .ne 15, 3) := by decide +kernel
theorem dX10_tellsHere_17 : decode cX10_tellsHere 17 = .ok (.aload_n 0, 1) := by decide +kernel
theorem dX10_tellsHere_18 : decode cX10_tellsHere 18 = .ok (.getfield 9, 3) := by decide +kernel
theorem dX10_tellsHere_21 : decode cX10_tellsHere 21 = .ok (.iload_n 1, 1) := by decide +kernel
theorem dX10_tellsHere_22 : decode cX10_tellsHere 22 = .ok (.aload_n 0, 1) := by decide +kernel
theorem dX10_tellsHere_23 : decode cX10_tellsHere 23 = .ok (.getfield 76, 3) := by decide +kernel
theorem dX10_tellsHere_26 : decode cX10_tellsHere 26 = .ok (.iadd, 1) := by decide +kernel
theorem dX10_tellsHere_27 : decode cX10_tellsHere 27 = .ok (.iload_n 3, 1) := by decide +kernel
theorem dX10_tellsHere_28 : decode cX10_tellsHere 28 = .ok (.iastore, 1) := by decide +kernel
theorem dX10_tellsHere_29 : decode cX10_tellsHere 29 = .ok (.return_, 1) := by decide +kernel
theorem dX10_clauseHere_0 : decode cX10_clauseHere 0 = .ok (.aload_n 0, 1) := by decide +kernel
theorem dX10_clauseHere_1 : decode cX10_clauseHere 1 = .ok (.invokevirtual 59, 3) := by decide +kernel
theorem dX10_clauseHere_4 : decode cX10_clauseHere 4 = .ok (.lookupswitch 112 #[(102, 88), (104, 44), (112, 100), (115, 76)], 44) := by decide +kernel
theorem dX10_clauseHere_48 : decode cX10_clauseHere 48 = .ok (.aload_n 0, 1) := by decide +kernel
theorem dX10_clauseHere_49 : decode cX10_clauseHere 49 = .ok (.ldc 109, 2) := by decide +kernel
theorem dX10_clauseHere_51 : decode cX10_clauseHere 51 = .ok (.invokevirtual 105, 3) := by decide +kernel
theorem dX10_clauseHere_54 : decode cX10_clauseHere 54 = .ok (.aload_n 0, 1) := by decide +kernel
theorem dX10_clauseHere_55 : decode cX10_clauseHere 55 = .ok (.invokevirtual 99, 3) := by decide +kernel
theorem dX10_clauseHere_58 : decode cX10_clauseHere 58 = .ok (.istore_n 1, 1) := by decide +kernel
theorem dX10_clauseHere_59 : decode cX10_clauseHere 59 = .ok (.aload_n 0, 1) := by decide +kernel
theorem dX10_clauseHere_60 : decode cX10_clauseHere 60 = .ok (.bipush 32, 2) := by decide +kernel
theorem dX10_clauseHere_62 : decode cX10_clauseHere 62 = .ok (.invokevirtual 72, 3) := by decide +kernel
theorem dX10_clauseHere_65 : decode cX10_clauseHere 65 = .ok (.aload_n 0, 1) := by decide +kernel
theorem dX10_clauseHere_66 : decode cX10_clauseHere 66 = .ok (.invokevirtual 88, 3) := by decide +kernel
theorem dX10_clauseHere_69 : decode cX10_clauseHere 69 = .ok (.aload_n 0, 1) := by decide +kernel
theorem dX10_clauseHere_70 : decode cX10_clauseHere 70 = .ok (.bipush (-10), 2) := by decide +kernel
theorem dX10_clauseHere_72 : decode cX10_clauseHere 72 = .ok (.iload_n 1, 1) := by decide +kernel
theorem dX10_clauseHere_73 : decode cX10_clauseHere 73 = .ok (.isub, 1) := by decide +kernel
theorem dX10_clauseHere_74 : decode cX10_clauseHere 74 = .ok (.invokevirtual 85, 3) := by decide +kernel
theorem dX10_clauseHere_77 : decode cX10_clauseHere 77 = .ok (.goto 44, 3) := by decide +kernel
theorem dX10_clauseHere_80 : decode cX10_clauseHere 80 = .ok (.aload_n 0, 1) := by decide +kernel
theorem dX10_clauseHere_81 : decode cX10_clauseHere 81 = .ok (.sipush 232, 3) := by decide +kernel
theorem dX10_clauseHere_84 : decode cX10_clauseHere 84 = .ok (.ldc 111, 2) := by decide +kernel
theorem dX10_clauseHere_86 : decode cX10_clauseHere 86 = .ok (.invokevirtual 113, 3) := by decide +kernel
theorem dX10_clauseHere_89 : decode cX10_clauseHere 89 = .ok (.goto 32, 3) := by decide +kernel
theorem dX10_clauseHere_92 : decode cX10_clauseHere 92 = .ok (.aload_n 0, 1) := by decide +kernel
theorem dX10_clauseHere_93 : decode cX10_clauseHere 93 = .ok (.sipush 237, 3) := by decide +kernel
theorem dX10_clauseHere_96 : decode cX10_clauseHere 96 = .ok (.ldc 117, 2) := by decide +kernel
theorem dX10_clauseHere_98 : decode cX10_clauseHere 98 = .ok (.invokevirtual 113, 3) := by decide +kernel
theorem dX10_clauseHere_101 : decode cX10_clauseHere 101 = .ok (.goto 20, 3) := by decide +kernel
theorem dX10_clauseHere_104 : decode cX10_clauseHere 104 = .ok (.aload_n 0, 1) := by decide +kernel
theorem dX10_clauseHere_105 : decode cX10_clauseHere 105 = .ok (.sipush 242, 3) := by decide +kernel
theorem dX10_clauseHere_108 : decode cX10_clauseHere 108 = .ok (.ldc 119, 2) := by decide +kernel
theorem dX10_clauseHere_110 : decode cX10_clauseHere 110 = .ok (.invokevirtual 113, 3) := by decide +kernel
theorem dX10_clauseHere_113 : decode cX10_clauseHere 113 = .ok (.goto 8, 3) := by decide +kernel
theorem dX10_clauseHere_116 : decode cX10_clauseHere 116 = .ok (.aload_n 0, 1) := by decide +kernel
theorem dX10_clauseHere_117 : decode cX10_clauseHere 117 = .ok (.iconst 1, 1) := by decide +kernel
theorem dX10_clauseHere_118 : decode cX10_clauseHere 118 = .ok (.putfield 55, 3) := by decide +kernel
theorem dX10_clauseHere_121 : decode cX10_clauseHere 121 = .ok (.return_, 1) := by decide +kernel
theorem dX10_stall_0 : decode cX10_stall 0 = .ok (.aload_n 0, 1) := by decide +kernel
theorem dX10_stall_1 : decode cX10_stall 1 = .ok (.getfield 9, 3) := by decide +kernel
theorem dX10_stall_4 : decode cX10_stall 4 = .ok (.iconst 2, 1) := by decide +kernel
theorem dX10_stall_5 : decode cX10_stall 5 = .ok (.iaload, 1) := by decide +kernel
theorem dX10_stall_6 : decode cX10_stall 6 = .ok (.iconst 5, 1) := by decide +kernel
theorem dX10_stall_7 : decode cX10_stall 7 = .ok (.if_icmp .ne 6, 3) := by decide +kernel
theorem dX10_stall_10 : decode cX10_stall 10 = .ok (.bipush (-4), 2) := by decide +kernel
theorem dX10_stall_12 : decode cX10_stall 12 = .ok (.ireturn, 1) := by decide +kernel
theorem dX10_stall_13 : decode cX10_stall 13 = .ok (.aload_n 0, 1) := by decide +kernel
theorem dX10_stall_14 : decode cX10_stall 14 = .ok (.aload_n 0, 1) := by decide +kernel
theorem dX10_stall_15 : decode cX10_stall 15 = .ok (.getfield 9, 3) := by decide +kernel
theorem dX10_stall_18 : decode cX10_stall 18 = .ok (.iconst 2, 1) := by decide +kernel
theorem dX10_stall_19 : decode cX10_stall 19 = .ok (.iaload, 1) := by decide +kernel
theorem dX10_stall_20 : decode cX10_stall 20 = .ok (.putfield 76, 3) := by decide +kernel
theorem dX10_stall_23 : decode cX10_stall 23 = .ok (.aload_n 0, 1) := by decide +kernel
theorem dX10_stall_24 : decode cX10_stall 24 = .ok (.aload_n 0, 1) := by decide +kernel
theorem dX10_stall_25 : decode cX10_stall 25 = .ok (.getfield 9, 3) := by decide +kernel
theorem dX10_stall_28 : decode cX10_stall 28 = .ok (.iconst 5, 1) := by decide +kernel
theorem dX10_stall_29 : decode cX10_stall 29 = .ok (.iaload, 1) := by decide +kernel
theorem dX10_stall_30 : decode cX10_stall 30 = .ok (.putfield 52, 3) := by decide +kernel
theorem dX10_stall_33 : decode cX10_stall 33 = .ok (.aload_n 0, 1) := by decide +kernel
theorem dX10_stall_34 : decode cX10_stall 34 = .ok (.getfield 9, 3) := by decide +kernel
theorem dX10_stall_37 : decode cX10_stall 37 = .ok (.iconst 5, 1) := by decide +kernel
theorem dX10_stall_38 : decode cX10_stall 38 = .ok (.iconst 0, 1) := by decide +kernel
theorem dX10_stall_39 : decode cX10_stall 39 = .ok (.iastore, 1) := by decide +kernel
theorem dX10_stall_40 : decode cX10_stall 40 = .ok (.aload_n 0, 1) := by decide +kernel
theorem dX10_stall_41 : decode cX10_stall 41 = .ok (.getfield 9, 3) := by decide +kernel
theorem dX10_stall_44 : decode cX10_stall 44 = .ok (.sipush 232, 3) := by decide +kernel
theorem dX10_stall_47 : decode cX10_stall 47 = .ok (.aload_n 0, 1) := by decide +kernel
theorem dX10_stall_48 : decode cX10_stall 48 = .ok (.getfield 76, 3) := by decide +kernel
theorem dX10_stall_51 : decode cX10_stall 51 = .ok (.iadd, 1) := by decide +kernel
theorem dX10_stall_52 : decode cX10_stall 52 = .ok (.iconst 2, 1) := by decide +kernel
theorem dX10_stall_53 : decode cX10_stall 53 = .ok (.iastore, 1) := by decide +kernel
theorem dX10_stall_54 : decode cX10_stall 54 = .ok (.aload_n 0, 1) := by decide +kernel
theorem dX10_stall_55 : decode cX10_stall 55 = .ok (.getfield 9, 3) := by decide +kernel
theorem dX10_stall_58 : decode cX10_stall 58 = .ok (.sipush 237, 3) := by decide +kernel
theorem dX10_stall_61 : decode cX10_stall 61 = .ok (.aload_n 0, 1) := by decide +kernel
theorem dX10_stall_62 : decode cX10_stall 62 = .ok (.getfield 76, 3) := by decide +kernel
theorem dX10_stall_65 : decode cX10_stall 65 = .ok (.iadd, 1) := by decide +kernel
theorem dX10_stall_66 : decode cX10_stall 66 = .ok (.iconst 1, 1) := by decide +kernel
theorem dX10_stall_67 : decode cX10_stall 67 = .ok (.iastore, 1) := by decide +kernel
theorem dX10_stall_68 : decode cX10_stall 68 = .ok (.aload_n 0, 1) := by decide +kernel
theorem dX10_stall_69 : decode cX10_stall 69 = .ok (.getfield 9, 3) := by decide +kernel
theorem dX10_stall_72 : decode cX10_stall 72 = .ok (.sipush 242, 3) := by decide +kernel
theorem dX10_stall_75 : decode cX10_stall 75 = .ok (.aload_n 0, 1) := by decide +kernel
theorem dX10_stall_76 : decode cX10_stall 76 = .ok (.getfield 76, 3) := by decide +kernel
theorem dX10_stall_79 : decode cX10_stall 79 = .ok (.iadd, 1) := by decide +kernel
theorem dX10_stall_80 : decode cX10_stall 80 = .ok (.bipush 10, 2) := by decide +kernel
theorem dX10_stall_82 : decode cX10_stall 82 = .ok (.iastore, 1) := by decide +kernel
theorem dX10_stall_83 : decode cX10_stall 83 = .ok (.aload_n 0, 1) := by decide +kernel
theorem dX10_stall_84 : decode cX10_stall 84 = .ok (.getfield 9, 3) := by decide +kernel
theorem dX10_stall_87 : decode cX10_stall 87 = .ok (.sipush 247, 3) := by decide +kernel
theorem dX10_stall_90 : decode cX10_stall 90 = .ok (.aload_n 0, 1) := by decide +kernel
theorem dX10_stall_91 : decode cX10_stall 91 = .ok (.getfield 76, 3) := by decide +kernel
theorem dX10_stall_94 : decode cX10_stall 94 = .ok (.iadd, 1) := by decide +kernel
theorem dX10_stall_95 : decode cX10_stall 95 = .ok (.iconst 0, 1) := by decide +kernel
theorem dX10_stall_96 : decode cX10_stall 96 = .ok (.iastore, 1) := by decide +kernel
theorem dX10_stall_97 : decode cX10_stall 97 = .ok (.aload_n 0, 1) := by decide +kernel
theorem dX10_stall_98 : decode cX10_stall 98 = .ok (.iconst 0, 1) := by decide +kernel
theorem dX10_stall_99 : decode cX10_stall 99 = .ok (.putfield 49, 3) := by decide +kernel
theorem dX10_stall_102 : decode cX10_stall 102 = .ok (.aload_n 0, 1) := by decide +kernel
theorem dX10_stall_103 : decode cX10_stall 103 = .ok (.iconst 0, 1) := by decide +kernel
theorem dX10_stall_104 : decode cX10_stall 104 = .ok (.putfield 55, 3) := by decide +kernel
theorem dX10_stall_107 : decode cX10_stall 107 = .ok (.aload_n 0, 1) := by decide +kernel
theorem dX10_stall_108 : decode cX10_stall 108 = .ok (.iconst 0, 1) := by decide +kernel
theorem dX10_stall_109 : decode cX10_stall 109 = .ok (.putfield 79, 3) := by decide +kernel
theorem dX10_stall_112 : decode cX10_stall 112 = .ok (.iconst 1, 1) := by decide +kernel
theorem dX10_stall_113 : decode cX10_stall 113 = .ok (.istore_n 1, 1) := by decide +kernel
theorem dX10_stall_114 : decode cX10_stall 114 = .ok (.aload_n 0, 1) := by decide +kernel
theorem dX10_stall_115 : decode cX10_stall 115 = .ok (.invokevirtual 121, 3) := by decide +kernel
theorem dX10_stall_118 : decode cX10_stall 118 = .ok (.aload_n 0, 1) := by decide +kernel
theorem dX10_stall_119 : decode cX10_stall 119 = .ok (.getfield 55, 3) := by decide +kernel
theorem dX10_stall_122 : decode cX10_stall 122 = .ok (.ifCond .ne 38, 3) := by decide +kernel
theorem dX10_stall_125 : decode cX10_stall 125 = .ok (.iload_n 1, 1) := by decide +kernel
theorem dX10_stall_126 : decode cX10_stall 126 = .ok (.bipush 10, 2) := by decide +kernel
theorem dX10_stall_128 : decode cX10_stall 128 = .ok (.if_icmp .ge 32, 3) := by decide +kernel
theorem dX10_stall_131 : decode cX10_stall 131 = .ok (.aload_n 0, 1) := by decide +kernel
theorem dX10_stall_132 : decode cX10_stall 132 = .ok (.invokevirtual 59, 3) := by decide +kernel
theorem dX10_stall_135 : decode cX10_stall 135 = .ok (.bipush 59, 2) := by decide +kernel
theorem dX10_stall_137 : decode cX10_stall 137 = .ok (.if_icmp .ne 23, 3) := by decide +kernel
theorem dX10_stall_140 : decode cX10_stall 140 = .ok (.aload_n 0, 1) := by decide +kernel
theorem dX10_stall_141 : decode cX10_stall 141 = .ok (.dup, 1) := by decide +kernel
theorem dX10_stall_142 : decode cX10_stall 142 = .ok (.getfield 49, 3) := by decide +kernel
theorem dX10_stall_145 : decode cX10_stall 145 = .ok (.iconst 1, 1) := by decide +kernel
theorem dX10_stall_146 : decode cX10_stall 146 = .ok (.iadd, 1) := by decide +kernel
theorem dX10_stall_147 : decode cX10_stall 147 = .ok (.putfield 49, 3) := by decide +kernel
theorem dX10_stall_150 : decode cX10_stall 150 = .ok (.aload_n 0, 1) := by decide +kernel
theorem dX10_stall_151 : decode cX10_stall 151 = .ok (.invokevirtual 121, 3) := by decide +kernel
theorem dX10_stall_154 : decode cX10_stall 154 = .ok (.iinc 1 1, 3) := by decide +kernel
theorem dX10_stall_157 : decode cX10_stall 157 = .ok (.goto (-39), 3) := by decide +kernel
theorem dX10_stall_160 : decode cX10_stall 160 = .ok (.aload_n 0, 1) := by decide +kernel
theorem dX10_stall_161 : decode cX10_stall 161 = .ok (.getfield 55, 3) := by decide +kernel
theorem dX10_stall_164 : decode cX10_stall 164 = .ok (.ifCond .ne 14, 3) := by decide +kernel
theorem dX10_stall_167 : decode cX10_stall 167 = .ok (.aload_n 0, 1) := by decide +kernel
theorem dX10_stall_168 : decode cX10_stall 168 = .ok (.getfield 49, 3) := by decide +kernel
theorem dX10_stall_171 : decode cX10_stall 171 = .ok (.aload_n 0, 1) := by decide +kernel
theorem dX10_stall_172 : decode cX10_stall 172 = .ok (.getfield 52, 3) := by decide +kernel
theorem dX10_stall_175 : decode cX10_stall 175 = .ok (.if_icmp .eq 11, 3) := by decide +kernel
theorem dX10_stall_178 : decode cX10_stall 178 = .ok (.bipush (-10), 2) := by decide +kernel
theorem dX10_stall_180 : decode cX10_stall 180 = .ok (.aload_n 0, 1) := by decide +kernel
theorem dX10_stall_181 : decode cX10_stall 181 = .ok (.getfield 49, 3) := by decide +kernel
theorem dX10_stall_184 : decode cX10_stall 184 = .ok (.isub, 1) := by decide +kernel
theorem dX10_stall_185 : decode cX10_stall 185 = .ok (.ireturn, 1) := by decide +kernel
theorem dX10_stall_186 : decode cX10_stall 186 = .ok (.aload_n 0, 1) := by decide +kernel
theorem dX10_stall_187 : decode cX10_stall 187 = .ok (.getfield 9, 3) := by decide +kernel
theorem dX10_stall_190 : decode cX10_stall 190 = .ok (.iconst 2, 1) := by decide +kernel
theorem dX10_stall_191 : decode cX10_stall 191 = .ok (.dup2, 1) := by decide +kernel
theorem dX10_stall_192 : decode cX10_stall 192 = .ok (.iaload, 1) := by decide +kernel
theorem dX10_stall_193 : decode cX10_stall 193 = .ok (.iconst 1, 1) := by decide +kernel
theorem dX10_stall_194 : decode cX10_stall 194 = .ok (.iadd, 1) := by decide +kernel
theorem dX10_stall_195 : decode cX10_stall 195 = .ok (.iastore, 1) := by decide +kernel
theorem dX10_stall_196 : decode cX10_stall 196 = .ok (.aload_n 0, 1) := by decide +kernel
theorem dX10_stall_197 : decode cX10_stall 197 = .ok (.getfield 9, 3) := by decide +kernel
theorem dX10_stall_200 : decode cX10_stall 200 = .ok (.bipush 6, 2) := by decide +kernel
theorem dX10_stall_202 : decode cX10_stall 202 = .ok (.aload_n 0, 1) := by decide +kernel
theorem dX10_stall_203 : decode cX10_stall 203 = .ok (.getfield 76, 3) := by decide +kernel
theorem dX10_stall_206 : decode cX10_stall 206 = .ok (.iastore, 1) := by decide +kernel
theorem dX10_stall_207 : decode cX10_stall 207 = .ok (.aload_n 0, 1) := by decide +kernel
theorem dX10_stall_208 : decode cX10_stall 208 = .ok (.getfield 76, 3) := by decide +kernel
theorem dX10_stall_211 : decode cX10_stall 211 = .ok (.ireturn, 1) := by decide +kernel
theorem dX10_tellsOf_0 : decode cX10_tellsOf 0 = .ok (.aload_n 0, 1) := by decide +kernel
theorem dX10_tellsOf_1 : decode cX10_tellsOf 1 = .ok (.getfield 9, 3) := by decide +kernel
theorem dX10_tellsOf_4 : decode cX10_tellsOf 4 = .ok (.bipush 6, 2) := by decide +kernel
theorem dX10_tellsOf_6 : decode cX10_tellsOf 6 = .ok (.iaload, 1) := by decide +kernel
theorem dX10_tellsOf_7 : decode cX10_tellsOf 7 = .ok (.iconst (-1), 1) := by decide +kernel
theorem dX10_tellsOf_8 : decode cX10_tellsOf 8 = .ok (.if_icmp .ne 7, 3) := by decide +kernel
theorem dX10_tellsOf_11 : decode cX10_tellsOf 11 = .ok (.iload_n 2, 1) := by decide +kernel
theorem dX10_tellsOf_12 : decode cX10_tellsOf 12 = .ok (.goto 17, 3) := by decide +kernel
theorem dX10_tellsOf_15 : decode cX10_tellsOf 15 = .ok (.aload_n 0, 1) := by decide +kernel
theorem dX10_tellsOf_16 : decode cX10_tellsOf 16 = .ok (.getfield 9, 3) := by decide +kernel
theorem dX10_tellsOf_19 : decode cX10_tellsOf 19 = .ok (.iload_n 1, 1) := by decide +kernel
theorem dX10_tellsOf_20 : decode cX10_tellsOf 20 = .ok (.aload_n 0, 1) := by decide +kernel
theorem dX10_tellsOf_21 : decode cX10_tellsOf 21 = .ok (.getfield 9, 3) := by decide +kernel
theorem dX10_tellsOf_24 : decode cX10_tellsOf 24 = .ok (.bipush 6, 2) := by decide +kernel
theorem dX10_tellsOf_26 : decode cX10_tellsOf 26 = .ok (.iaload, 1) := by decide +kernel
theorem dX10_tellsOf_27 : decode cX10_tellsOf 27 = .ok (.iadd, 1) := by decide +kernel
theorem dX10_tellsOf_28 : decode cX10_tellsOf 28 = .ok (.iaload, 1) := by decide +kernel
theorem dX10_tellsOf_29 : decode cX10_tellsOf 29 = .ok (.ireturn, 1) := by decide +kernel
theorem dX10_signs_0 : decode cX10_signs 0 = .ok (.aload_n 0, 1) := by decide +kernel
theorem dX10_signs_1 : decode cX10_signs 1 = .ok (.sipush 232, 3) := by decide +kernel
theorem dX10_signs_4 : decode cX10_signs 4 = .ok (.iconst 2, 1) := by decide +kernel
theorem dX10_signs_5 : decode cX10_signs 5 = .ok (.invokevirtual 124, 3) := by decide +kernel
theorem dX10_signs_8 : decode cX10_signs 8 = .ok (.iconst 2, 1) := by decide +kernel
theorem dX10_signs_9 : decode cX10_signs 9 = .ok (.if_icmp .le 7, 3) := by decide +kernel
theorem dX10_signs_12 : decode cX10_signs 12 = .ok (.iconst 3, 1) := by decide +kernel
theorem dX10_signs_13 : decode cX10_signs 13 = .ok (.goto 4, 3) := by decide +kernel
theorem dX10_signs_16 : decode cX10_signs 16 = .ok (.iconst 2, 1) := by decide +kernel
theorem dX10_signs_17 : decode cX10_signs 17 = .ok (.ireturn, 1) := by decide +kernel
theorem dX10_weightOf_0 : decode cX10_weightOf 0 = .ok (.iload_n 1, 1) := by decide +kernel
theorem dX10_weightOf_1 : decode cX10_weightOf 1 = .ok (.ifCond .ne 21, 3) := by decide +kernel
theorem dX10_weightOf_4 : decode cX10_weightOf 4 = .ok (.aload_n 0, 1) := by decide +kernel
theorem dX10_weightOf_5 : decode cX10_weightOf 5 = .ok (.getfield 9, 3) := by decide +kernel
theorem dX10_weightOf_8 : decode cX10_weightOf 8 = .ok (.bipush 8, 2) := by decide +kernel
theorem dX10_weightOf_10 : decode cX10_weightOf 10 = .ok (.iaload, 1) := by decide +kernel
theorem dX10_weightOf_11 : decode cX10_weightOf 11 = .ok (.ifCond .le 11, 3) := by decide +kernel
theorem dX10_weightOf_14 : decode cX10_weightOf 14 = .ok (.aload_n 0, 1) := by decide +kernel
theorem dX10_weightOf_15 : decode cX10_weightOf 15 = .ok (.getfield 9, 3) := by decide +kernel
theorem dX10_weightOf_18 : decode cX10_weightOf 18 = .ok (.bipush 8, 2) := by decide +kernel
theorem dX10_weightOf_20 : decode cX10_weightOf 20 = .ok (.iaload, 1) := by decide +kernel
theorem dX10_weightOf_21 : decode cX10_weightOf 21 = .ok (.ireturn, 1) := by decide +kernel
theorem dX10_weightOf_22 : decode cX10_weightOf 22 = .ok (.aload_n 0, 1) := by decide +kernel
theorem dX10_weightOf_23 : decode cX10_weightOf 23 = .ok (.getfield 18, 3) := by decide +kernel
theorem dX10_weightOf_26 : decode cX10_weightOf 26 = .ok (.iconst 0, 1) := by decide +kernel
theorem dX10_weightOf_27 : decode cX10_weightOf 27 = .ok (.iload_n 1, 1) := by decide +kernel
theorem dX10_weightOf_28 : decode cX10_weightOf 28 = .ok (.iastore, 1) := by decide +kernel
theorem dX10_weightOf_29 : decode cX10_weightOf 29 = .ok (.aload_n 0, 1) := by decide +kernel
theorem dX10_weightOf_30 : decode cX10_weightOf 30 = .ok (.getfield 18, 3) := by decide +kernel
theorem dX10_weightOf_33 : decode cX10_weightOf 33 = .ok (.iconst 1, 1) := by decide +kernel
theorem dX10_weightOf_34 : decode cX10_weightOf 34 = .ok (.aload_n 0, 1) := by decide +kernel
theorem dX10_weightOf_35 : decode cX10_weightOf 35 = .ok (.invokevirtual 128, 3) := by decide +kernel
theorem dX10_weightOf_38 : decode cX10_weightOf 38 = .ok (.iastore, 1) := by decide +kernel
theorem dX10_weightOf_39 : decode cX10_weightOf 39 = .ok (.aload_n 0, 1) := by decide +kernel
theorem dX10_weightOf_40 : decode cX10_weightOf 40 = .ok (.getfield 18, 3) := by decide +kernel
theorem dX10_weightOf_43 : decode cX10_weightOf 43 = .ok (.iconst 2, 1) := by decide +kernel
theorem dX10_weightOf_44 : decode cX10_weightOf 44 = .ok (.aload_n 0, 1) := by decide +kernel
theorem dX10_weightOf_45 : decode cX10_weightOf 45 = .ok (.getfield 9, 3) := by decide +kernel
theorem dX10_weightOf_48 : decode cX10_weightOf 48 = .ok (.bipush 7, 2) := by decide +kernel
theorem dX10_weightOf_50 : decode cX10_weightOf 50 = .ok (.iaload, 1) := by decide +kernel
theorem dX10_weightOf_51 : decode cX10_weightOf 51 = .ok (.iastore, 1) := by decide +kernel
theorem dX10_weightOf_52 : decode cX10_weightOf 52 = .ok (.iconst 1, 1) := by decide +kernel
theorem dX10_weightOf_53 : decode cX10_weightOf 53 = .ok (.istore_n 2, 1) := by decide +kernel
theorem dX10_weightOf_54 : decode cX10_weightOf 54 = .ok (.aload_n 0, 1) := by decide +kernel
theorem dX10_weightOf_55 : decode cX10_weightOf 55 = .ok (.sipush 247, 3) := by decide +kernel
theorem dX10_weightOf_58 : decode cX10_weightOf 58 = .ok (.iconst 0, 1) := by decide +kernel
theorem dX10_weightOf_59 : decode cX10_weightOf 59 = .ok (.invokevirtual 124, 3) := by decide +kernel
theorem dX10_weightOf_62 : decode cX10_weightOf 62 = .ok (.istore_n 3, 1) := by decide +kernel
theorem dX10_weightOf_63 : decode cX10_weightOf 63 = .ok (.sipush 252, 3) := by decide +kernel
theorem dX10_weightOf_66 : decode cX10_weightOf 66 = .ok (.sipush 140, 3) := by decide +kernel
theorem dX10_weightOf_69 : decode cX10_weightOf 69 = .ok (.aload_n 0, 1) := by decide +kernel
theorem dX10_weightOf_70 : decode cX10_weightOf 70 = .ok (.getfield 9, 3) := by decide +kernel
theorem dX10_weightOf_73 : decode cX10_weightOf 73 = .ok (.bipush 6, 2) := by decide +kernel
theorem dX10_weightOf_75 : decode cX10_weightOf 75 = .ok (.iaload, 1) := by decide +kernel
theorem dX10_weightOf_76 : decode cX10_weightOf 76 = .ok (.imul, 1) := by decide +kernel
theorem dX10_weightOf_77 : decode cX10_weightOf 77 = .ok (.iadd, 1) := by decide +kernel
theorem dX10_weightOf_78 : decode cX10_weightOf 78 = .ok (.istore 4, 2) := by decide +kernel
theorem dX10_weightOf_80 : decode cX10_weightOf 80 = .ok (.iconst 0, 1) := by decide +kernel
theorem dX10_weightOf_81 : decode cX10_weightOf 81 = .ok (.istore 5, 2) := by decide +kernel
theorem dX10_weightOf_83 : decode cX10_weightOf 83 = .ok (.iload 4, 2) := by decide +kernel
theorem dX10_weightOf_85 : decode cX10_weightOf 85 = .ok (.istore 6, 2) := by decide +kernel
theorem dX10_weightOf_87 : decode cX10_weightOf 87 = .ok (.iload 6, 2) := by decide +kernel
theorem dX10_weightOf_89 : decode cX10_weightOf 89 = .ok (.iload 4, 2) := by decide +kernel
theorem dX10_weightOf_91 : decode cX10_weightOf 91 = .ok (.iload_n 3, 1) := by decide +kernel
theorem dX10_weightOf_92 : decode cX10_weightOf 92 = .ok (.iadd, 1) := by decide +kernel
theorem dX10_weightOf_93 : decode cX10_weightOf 93 = .ok (.if_icmp .ge 262, 3) := by decide +kernel
theorem dX10_weightOf_96 : decode cX10_weightOf 96 = .ok (.aload_n 0, 1) := by decide +kernel
theorem dX10_weightOf_97 : decode cX10_weightOf 97 = .ok (.getfield 9, 3) := by decide +kernel
theorem dX10_weightOf_100 : decode cX10_weightOf 100 = .ok (.iload 6, 2) := by decide +kernel
theorem dX10_weightOf_102 : decode cX10_weightOf 102 = .ok (.iaload, 1) := by decide +kernel
theorem dX10_weightOf_103 : decode cX10_weightOf 103 = .ok (.istore 7, 2) := by decide +kernel
theorem dX10_weightOf_105 : decode cX10_weightOf 105 = .ok (.iload 7, 2) := by decide +kernel
theorem dX10_weightOf_107 : decode cX10_weightOf 107 = .ok (.ifCond .lt 97, 3) := by decide +kernel
theorem dX10_weightOf_110 : decode cX10_weightOf 110 = .ok (.aload_n 0, 1) := by decide +kernel
theorem dX10_weightOf_111 : decode cX10_weightOf 111 = .ok (.getfield 18, 3) := by decide +kernel
theorem dX10_weightOf_114 : decode cX10_weightOf 114 = .ok (.iload 7, 2) := by decide +kernel
theorem dX10_weightOf_116 : decode cX10_weightOf 116 = .ok (.bipush 8, 2) := by decide +kernel
theorem dX10_weightOf_118 : decode cX10_weightOf 118 = .ok (.irem, 1) := by decide +kernel
theorem dX10_weightOf_119 : decode cX10_weightOf 119 = .ok (.iaload, 1) := by decide +kernel
theorem dX10_weightOf_120 : decode cX10_weightOf 120 = .ok (.istore 8, 2) := by decide +kernel
theorem dX10_weightOf_122 : decode cX10_weightOf 122 = .ok (.iload 7, 2) := by decide +kernel
theorem dX10_weightOf_124 : decode cX10_weightOf 124 = .ok (.bipush 8, 2) := by decide +kernel
theorem dX10_weightOf_126 : decode cX10_weightOf 126 = .ok (.idiv, 1) := by decide +kernel
theorem dX10_weightOf_127 : decode cX10_weightOf 127 = .ok (.iconst 4, 1) := by decide +kernel
theorem dX10_weightOf_128 : decode cX10_weightOf 128 = .ok (.irem, 1) := by decide +kernel
theorem dX10_weightOf_129 : decode cX10_weightOf 129 = .ok (.istore 9, 2) := by decide +kernel
theorem dX10_weightOf_131 : decode cX10_weightOf 131 = .ok (.iload 7, 2) := by decide +kernel
theorem dX10_weightOf_133 : decode cX10_weightOf 133 = .ok (.bipush 32, 2) := by decide +kernel
theorem dX10_weightOf_135 : decode cX10_weightOf 135 = .ok (.idiv, 1) := by decide +kernel
theorem dX10_weightOf_136 : decode cX10_weightOf 136 = .ok (.istore 10, 2) := by decide +kernel
theorem dX10_weightOf_138 : decode cX10_weightOf 138 = .ok (.aload_n 0, 1) := by decide +kernel
theorem dX10_weightOf_139 : decode cX10_weightOf 139 = .ok (.getfield 21, 3) := by decide +kernel
theorem dX10_weightOf_142 : decode cX10_weightOf 142 = .ok (.iload 5, 2) := by decide +kernel
theorem dX10_weightOf_144 : decode cX10_weightOf 144 = .ok (.iload 9, 2) := by decide +kernel
theorem dX10_weightOf_146 : decode cX10_weightOf 146 = .ok (.ifCond .ne 18, 3) := by decide +kernel
theorem dX10_weightOf_149 : decode cX10_weightOf 149 = .ok (.iload 8, 2) := by decide +kernel
theorem dX10_weightOf_151 : decode cX10_weightOf 151 = .ok (.iload 10, 2) := by decide +kernel
theorem dX10_weightOf_153 : decode cX10_weightOf 153 = .ok (.if_icmp .ge 7, 3) := by decide +kernel
theorem dX10_weightOf_156 : decode cX10_weightOf 156 = .ok (.iconst 1, 1) := by decide +kernel
theorem dX10_weightOf_157 : decode cX10_weightOf 157 = .ok (.goto 40, 3) := by decide +kernel
theorem dX10_weightOf_160 : decode cX10_weightOf 160 = .ok (.iconst 0, 1) := by decide +kernel
theorem dX10_weightOf_161 : decode cX10_weightOf 161 = .ok (.goto 36, 3) := by decide +kernel
theorem dX10_weightOf_164 : decode cX10_weightOf 164 = .ok (.iload 9, 2) := by decide +kernel
theorem dX10_weightOf_166 : decode cX10_weightOf 166 = .ok (.iconst 1, 1) := by decide +kernel
theorem dX10_weightOf_167 : decode cX10_weightOf 167 = .ok (.if_icmp .ne 18, 3) := by decide +kernel
theorem dX10_weightOf_170 : decode cX10_weightOf 170 = .ok (.iload 8, 2) := by decide +kernel
theorem dX10_weightOf_172 : decode cX10_weightOf 172 = .ok (.iload 10, 2) := by decide +kernel
theorem dX10_weightOf_174 : decode cX10_weightOf 174 = .ok (.if_icmp .ne 7, 3) := by decide +kernel
theorem dX10_weightOf_177 : decode cX10_weightOf 177 = .ok (.iconst 1, 1) := by decide +kernel
theorem dX10_weightOf_178 : decode cX10_weightOf 178 = .ok (.goto 19, 3) := by decide +kernel
theorem dX10_weightOf_181 : decode cX10_weightOf 181 = .ok (.iconst 0, 1) := by decide +kernel
theorem dX10_weightOf_182 : decode cX10_weightOf 182 = .ok (.goto 15, 3) := by decide +kernel
theorem dX10_weightOf_185 : decode cX10_weightOf 185 = .ok (.iload 8, 2) := by decide +kernel
theorem dX10_weightOf_187 : decode cX10_weightOf 187 = .ok (.iload 10, 2) := by decide +kernel
theorem dX10_weightOf_189 : decode cX10_weightOf 189 = .ok (.if_icmp .le 7, 3) := by decide +kernel
theorem dX10_weightOf_192 : decode cX10_weightOf 192 = .ok (.iconst 1, 1) := by decide +kernel
theorem dX10_weightOf_193 : decode cX10_weightOf 193 = .ok (.goto 4, 3) := by decide +kernel
theorem dX10_weightOf_196 : decode cX10_weightOf 196 = .ok (.iconst 0, 1) := by decide +kernel
theorem dX10_weightOf_197 : decode cX10_weightOf 197 = .ok (.bastore, 1) := by decide +kernel
theorem dX10_weightOf_198 : decode cX10_weightOf 198 = .ok (.iinc 5 1, 3) := by decide +kernel
theorem dX10_weightOf_201 : decode cX10_weightOf 201 = .ok (.goto 148, 3) := by decide +kernel
theorem dX10_weightOf_204 : decode cX10_weightOf 204 = .ok (.iload 7, 2) := by decide +kernel
theorem dX10_weightOf_206 : decode cX10_weightOf 206 = .ok (.iconst (-1), 1) := by decide +kernel
theorem dX10_weightOf_207 : decode cX10_weightOf 207 = .ok (.if_icmp .ne 32, 3) := by decide +kernel
theorem dX10_weightOf_210 : decode cX10_weightOf 210 = .ok (.aload_n 0, 1) := by decide +kernel
theorem dX10_weightOf_211 : decode cX10_weightOf 211 = .ok (.getfield 21, 3) := by decide +kernel
theorem dX10_weightOf_214 : decode cX10_weightOf 214 = .ok (.iload 5, 2) := by decide +kernel
theorem dX10_weightOf_216 : decode cX10_weightOf 216 = .ok (.iconst 1, 1) := by decide +kernel
theorem dX10_weightOf_217 : decode cX10_weightOf 217 = .ok (.isub, 1) := by decide +kernel
theorem dX10_weightOf_218 : decode cX10_weightOf 218 = .ok (.aload_n 0, 1) := by decide +kernel
theorem dX10_weightOf_219 : decode cX10_weightOf 219 = .ok (.getfield 21, 3) := by decide +kernel
theorem dX10_weightOf_222 : decode cX10_weightOf 222 = .ok (.iload 5, 2) := by decide +kernel
theorem dX10_weightOf_224 : decode cX10_weightOf 224 = .ok (.iconst 1, 1) := by decide +kernel
theorem dX10_weightOf_225 : decode cX10_weightOf 225 = .ok (.isub, 1) := by decide +kernel
theorem dX10_weightOf_226 : decode cX10_weightOf 226 = .ok (.baload, 1) := by decide +kernel
theorem dX10_weightOf_227 : decode cX10_weightOf 227 = .ok (.ifCond .ne 7, 3) := by decide +kernel
theorem dX10_weightOf_230 : decode cX10_weightOf 230 = .ok (.iconst 1, 1) := by decide +kernel
theorem dX10_weightOf_231 : decode cX10_weightOf 231 = .ok (.goto 4, 3) := by decide +kernel
theorem dX10_weightOf_234 : decode cX10_weightOf 234 = .ok (.iconst 0, 1) := by decide +kernel
theorem dX10_weightOf_235 : decode cX10_weightOf 235 = .ok (.bastore, 1) := by decide +kernel
theorem dX10_weightOf_236 : decode cX10_weightOf 236 = .ok (.goto 113, 3) := by decide +kernel
theorem dX10_weightOf_239 : decode cX10_weightOf 239 = .ok (.iload 7, 2) := by decide +kernel
theorem dX10_weightOf_241 : decode cX10_weightOf 241 = .ok (.bipush (-10), 2) := by decide +kernel
theorem dX10_weightOf_243 : decode cX10_weightOf 243 = .ok (.if_icmp .le 82, 3) := by decide +kernel
theorem dX10_weightOf_246 : decode cX10_weightOf 246 = .ok (.iinc 5 (-1), 3) := by decide +kernel
theorem dX10_weightOf_249 : decode cX10_weightOf 249 = .ok (.aload_n 0, 1) := by decide +kernel
theorem dX10_weightOf_250 : decode cX10_weightOf 250 = .ok (.getfield 21, 3) := by decide +kernel
theorem dX10_weightOf_253 : decode cX10_weightOf 253 = .ok (.iload 5, 2) := by decide +kernel
theorem dX10_weightOf_255 : decode cX10_weightOf 255 = .ok (.iconst 1, 1) := by decide +kernel
theorem dX10_weightOf_256 : decode cX10_weightOf 256 = .ok (.isub, 1) := by decide +kernel
theorem dX10_weightOf_257 : decode cX10_weightOf 257 = .ok (.iload 7, 2) := by decide +kernel
theorem dX10_weightOf_259 : decode cX10_weightOf 259 = .ok (.bipush (-2), 2) := by decide +kernel
theorem dX10_weightOf_261 : decode cX10_weightOf 261 = .ok (.if_icmp .ne 33, 3) := by decide +kernel
theorem dX10_weightOf_264 : decode cX10_weightOf 264 = .ok (.aload_n 0, 1) := by decide +kernel
theorem dX10_weightOf_265 : decode cX10_weightOf 265 = .ok (.getfield 21, 3) := by decide +kernel
theorem dX10_weightOf_268 : decode cX10_weightOf 268 = .ok (.iload 5, 2) := by decide +kernel
theorem dX10_weightOf_270 : decode cX10_weightOf 270 = .ok (.iconst 1, 1) := by decide +kernel
theorem dX10_weightOf_271 : decode cX10_weightOf 271 = .ok (.isub, 1) := by decide +kernel
theorem dX10_weightOf_272 : decode cX10_weightOf 272 = .ok (.baload, 1) := by decide +kernel
theorem dX10_weightOf_273 : decode cX10_weightOf 273 = .ok (.ifCond .eq 17, 3) := by decide +kernel
theorem dX10_weightOf_276 : decode cX10_weightOf 276 = .ok (.aload_n 0, 1) := by decide +kernel
theorem dX10_weightOf_277 : decode cX10_weightOf 277 = .ok (.getfield 21, 3) := by decide +kernel
theorem dX10_weightOf_280 : decode cX10_weightOf 280 = .ok (.iload 5, 2) := by decide +kernel
theorem dX10_weightOf_282 : decode cX10_weightOf 282 = .ok (.baload, 1) := by decide +kernel
theorem dX10_weightOf_283 : decode cX10_weightOf 283 = .ok (.ifCond .eq 7, 3) := by decide +kernel
theorem dX10_weightOf_286 : decode cX10_weightOf 286 = .ok (.iconst 1, 1) := by decide +kernel
theorem dX10_weightOf_287 : decode cX10_weightOf 287 = .ok (.goto 34, 3) := by decide +kernel
theorem dX10_weightOf_290 : decode cX10_weightOf 290 = .ok (.iconst 0, 1) := by decide +kernel
theorem dX10_weightOf_291 : decode cX10_weightOf 291 = .ok (.goto 30, 3) := by decide +kernel
theorem dX10_weightOf_294 : decode cX10_weightOf 294 = .ok (.aload_n 0, 1) := by decide +kernel
theorem dX10_weightOf_295 : decode cX10_weightOf 295 = .ok (.getfield 21, 3) := by decide +kernel
theorem dX10_weightOf_298 : decode cX10_weightOf 298 = .ok (.iload 5, 2) := by decide +kernel
theorem dX10_weightOf_300 : decode cX10_weightOf 300 = .ok (.iconst 1, 1) := by decide +kernel
theorem dX10_weightOf_301 : decode cX10_weightOf 301 = .ok (.isub, 1) := by decide +kernel
theorem dX10_weightOf_302 : decode cX10_weightOf 302 = .ok (.baload, 1) := by decide +kernel
theorem dX10_weightOf_303 : decode cX10_weightOf 303 = .ok (.ifCond .ne 13, 3) := by decide +kernel
theorem dX10_weightOf_306 : decode cX10_weightOf 306 = .ok (.aload_n 0, 1) := by decide +kernel
theorem dX10_weightOf_307 : decode cX10_weightOf 307 = .ok (.getfield 21, 3) := by decide +kernel
theorem dX10_weightOf_310 : decode cX10_weightOf 310 = .ok (.iload 5, 2) := by decide +kernel
theorem dX10_weightOf_312 : decode cX10_weightOf 312 = .ok (.baload, 1) := by decide +kernel
theorem dX10_weightOf_313 : decode cX10_weightOf 313 = .ok (.ifCond .eq 7, 3) := by decide +kernel
theorem dX10_weightOf_316 : decode cX10_weightOf 316 = .ok (.iconst 1, 1) := by decide +kernel
theorem dX10_weightOf_317 : decode cX10_weightOf 317 = .ok (.goto 4, 3) := by decide +kernel
theorem dX10_weightOf_320 : decode cX10_weightOf 320 = .ok (.iconst 0, 1) := by decide +kernel
theorem dX10_weightOf_321 : decode cX10_weightOf 321 = .ok (.bastore, 1) := by decide +kernel
theorem dX10_weightOf_322 : decode cX10_weightOf 322 = .ok (.goto 27, 3) := by decide +kernel
theorem dX10_weightOf_325 : decode cX10_weightOf 325 = .ok (.iconst 0, 1) := by decide +kernel
theorem dX10_weightOf_326 : decode cX10_weightOf 326 = .ok (.istore 5, 2) := by decide +kernel
theorem dX10_weightOf_328 : decode cX10_weightOf 328 = .ok (.iload_n 2, 1) := by decide +kernel
theorem dX10_weightOf_329 : decode cX10_weightOf 329 = .ok (.aload_n 0, 1) := by decide +kernel
theorem dX10_weightOf_330 : decode cX10_weightOf 330 = .ok (.getfield 21, 3) := by decide +kernel
theorem dX10_weightOf_333 : decode cX10_weightOf 333 = .ok (.iconst 0, 1) := by decide +kernel
theorem dX10_weightOf_334 : decode cX10_weightOf 334 = .ok (.baload, 1) := by decide +kernel
theorem dX10_weightOf_335 : decode cX10_weightOf 335 = .ok (.ifCond .eq 11, 3) := by decide +kernel
theorem dX10_weightOf_338 : decode cX10_weightOf 338 = .ok (.bipush (-10), 2) := by decide +kernel
theorem dX10_weightOf_340 : decode cX10_weightOf 340 = .ok (.iload 7, 2) := by decide +kernel
theorem dX10_weightOf_342 : decode cX10_weightOf 342 = .ok (.isub, 1) := by decide +kernel
theorem dX10_weightOf_343 : decode cX10_weightOf 343 = .ok (.goto 4, 3) := by decide +kernel
theorem dX10_weightOf_346 : decode cX10_weightOf 346 = .ok (.iconst 0, 1) := by decide +kernel
theorem dX10_weightOf_347 : decode cX10_weightOf 347 = .ok (.iadd, 1) := by decide +kernel
theorem dX10_weightOf_348 : decode cX10_weightOf 348 = .ok (.istore_n 2, 1) := by decide +kernel
theorem dX10_weightOf_349 : decode cX10_weightOf 349 = .ok (.iinc 6 1, 3) := by decide +kernel
theorem dX10_weightOf_352 : decode cX10_weightOf 352 = .ok (.goto (-265), 3) := by decide +kernel
theorem dX10_weightOf_355 : decode cX10_weightOf 355 = .ok (.iload_n 2, 1) := by decide +kernel
theorem dX10_weightOf_356 : decode cX10_weightOf 356 = .ok (.iconst 4, 1) := by decide +kernel
theorem dX10_weightOf_357 : decode cX10_weightOf 357 = .ok (.if_icmp .le 7, 3) := by decide +kernel
theorem dX10_weightOf_360 : decode cX10_weightOf 360 = .ok (.iconst 4, 1) := by decide +kernel
theorem dX10_weightOf_361 : decode cX10_weightOf 361 = .ok (.goto 4, 3) := by decide +kernel
theorem dX10_weightOf_364 : decode cX10_weightOf 364 = .ok (.iload_n 2, 1) := by decide +kernel
theorem dX10_weightOf_365 : decode cX10_weightOf 365 = .ok (.ireturn, 1) := by decide +kernel
theorem dX10_looksForWeights_0 : decode cX10_looksForWeights 0 = .ok (.aload_n 0, 1) := by decide +kernel
theorem dX10_looksForWeights_1 : decode cX10_looksForWeights 1 = .ok (.iconst 0, 1) := by decide +kernel
theorem dX10_looksForWeights_2 : decode cX10_looksForWeights 2 = .ok (.putfield 131, 3) := by decide +kernel
theorem dX10_looksForWeights_5 : decode cX10_looksForWeights 5 = .ok (.iconst 0, 1) := by decide +kernel
theorem dX10_looksForWeights_6 : decode cX10_looksForWeights 6 = .ok (.istore_n 1, 1) := by decide +kernel
theorem dX10_looksForWeights_7 : decode cX10_looksForWeights 7 = .ok (.iload_n 1, 1) := by decide +kernel
theorem dX10_looksForWeights_8 : decode cX10_looksForWeights 8 = .ok (.aload_n 0, 1) := by decide +kernel
theorem dX10_looksForWeights_9 : decode cX10_looksForWeights 9 = .ok (.invokevirtual 128, 3) := by decide +kernel
theorem dX10_looksForWeights_12 : decode cX10_looksForWeights 12 = .ok (.if_icmp .ge 35, 3) := by decide +kernel
theorem dX10_looksForWeights_15 : decode cX10_looksForWeights 15 = .ok (.aload_n 0, 1) := by decide +kernel
theorem dX10_looksForWeights_16 : decode cX10_looksForWeights 16 = .ok (.getfield 25, 3) := by decide +kernel
theorem dX10_looksForWeights_19 : decode cX10_looksForWeights 19 = .ok (.iload_n 1, 1) := by decide +kernel
theorem dX10_looksForWeights_20 : decode cX10_looksForWeights 20 = .ok (.aload_n 0, 1) := by decide +kernel
theorem dX10_looksForWeights_21 : decode cX10_looksForWeights 21 = .ok (.iload_n 1, 1) := by decide +kernel
theorem dX10_looksForWeights_22 : decode cX10_looksForWeights 22 = .ok (.invokevirtual 134, 3) := by decide +kernel
theorem dX10_looksForWeights_25 : decode cX10_looksForWeights 25 = .ok (.iastore, 1) := by decide +kernel
theorem dX10_looksForWeights_26 : decode cX10_looksForWeights 26 = .ok (.aload_n 0, 1) := by decide +kernel
theorem dX10_looksForWeights_27 : decode cX10_looksForWeights 27 = .ok (.dup, 1) := by decide +kernel
theorem dX10_looksForWeights_28 : decode cX10_looksForWeights 28 = .ok (.getfield 131, 3) := by decide +kernel
theorem dX10_looksForWeights_31 : decode cX10_looksForWeights 31 = .ok (.aload_n 0, 1) := by decide +kernel
theorem dX10_looksForWeights_32 : decode cX10_looksForWeights 32 = .ok (.getfield 25, 3) := by decide +kernel
theorem dX10_looksForWeights_35 : decode cX10_looksForWeights 35 = .ok (.iload_n 1, 1) := by decide +kernel
theorem dX10_looksForWeights_36 : decode cX10_looksForWeights 36 = .ok (.iaload, 1) := by decide +kernel
theorem dX10_looksForWeights_37 : decode cX10_looksForWeights 37 = .ok (.iadd, 1) := by decide +kernel
theorem dX10_looksForWeights_38 : decode cX10_looksForWeights 38 = .ok (.putfield 131, 3) := by decide +kernel
theorem dX10_looksForWeights_41 : decode cX10_looksForWeights 41 = .ok (.iinc 1 1, 3) := by decide +kernel
theorem dX10_looksForWeights_44 : decode cX10_looksForWeights 44 = .ok (.goto (-37), 3) := by decide +kernel
theorem dX10_looksForWeights_47 : decode cX10_looksForWeights 47 = .ok (.return_, 1) := by decide +kernel
theorem dX10_day_0 : decode cX10_day 0 = .ok (.iload_n 1, 1) := by decide +kernel
theorem dX10_day_1 : decode cX10_day 1 = .ok (.iconst 0, 1) := by decide +kernel
theorem dX10_day_2 : decode cX10_day 2 = .ok (.bipush 9, 2) := by decide +kernel
theorem dX10_day_4 : decode cX10_day 4 = .ok (.invokestatic 45, 3) := by decide +kernel
theorem dX10_day_7 : decode cX10_day 7 = .ok (.ifCond .ne 6, 3) := by decide +kernel
theorem dX10_day_10 : decode cX10_day 10 = .ok (.bipush (-2), 2) := by decide +kernel
theorem dX10_day_12 : decode cX10_day 12 = .ok (.ireturn, 1) := by decide +kernel
theorem dX10_day_13 : decode cX10_day 13 = .ok (.aload_n 0, 1) := by decide +kernel
theorem dX10_day_14 : decode cX10_day 14 = .ok (.getfield 9, 3) := by decide +kernel
theorem dX10_day_17 : decode cX10_day 17 = .ok (.bipush 7, 2) := by decide +kernel
theorem dX10_day_19 : decode cX10_day 19 = .ok (.iaload, 1) := by decide +kernel
theorem dX10_day_20 : decode cX10_day 20 = .ok (.istore_n 2, 1) := by decide +kernel
theorem dX10_day_21 : decode cX10_day 21 = .ok (.aload_n 0, 1) := by decide +kernel
theorem dX10_day_22 : decode cX10_day 22 = .ok (.getfield 9, 3) := by decide +kernel
theorem dX10_day_25 : decode cX10_day 25 = .ok (.bipush 7, 2) := by decide +kernel
theorem dX10_day_27 : decode cX10_day 27 = .ok (.iload_n 1, 1) := by decide +kernel
theorem dX10_day_28 : decode cX10_day 28 = .ok (.iastore, 1) := by decide +kernel
theorem dX10_day_29 : decode cX10_day 29 = .ok (.iload_n 2, 1) := by decide +kernel
theorem dX10_day_30 : decode cX10_day 30 = .ok (.ireturn, 1) := by decide +kernel
theorem dX10_told_0 : decode cX10_told 0 = .ok (.aload_n 0, 1) := by decide +kernel
theorem dX10_told_1 : decode cX10_told 1 = .ok (.invokevirtual 138, 3) := by decide +kernel
theorem dX10_told_4 : decode cX10_told 4 = .ok (.iload_n 1, 1) := by decide +kernel
theorem dX10_told_5 : decode cX10_told 5 = .ok (.tableswitch 72 0 4 #[35, 40, 49, 59, 67], 35) := by decide +kernel
theorem dX10_told_40 : decode cX10_told 40 = .ok (.aload_n 0, 1) := by decide +kernel
theorem dX10_told_41 : decode cX10_told 41 = .ok (.invokevirtual 128, 3) := by decide +kernel
theorem dX10_told_44 : decode cX10_told 44 = .ok (.ireturn, 1) := by decide +kernel
theorem dX10_told_45 : decode cX10_told 45 = .ok (.aload_n 0, 1) := by decide +kernel
theorem dX10_told_46 : decode cX10_told 46 = .ok (.sipush 237, 3) := by decide +kernel
theorem dX10_told_49 : decode cX10_told 49 = .ok (.iconst 1, 1) := by decide +kernel
theorem dX10_told_50 : decode cX10_told 50 = .ok (.invokevirtual 124, 3) := by decide +kernel
theorem dX10_told_53 : decode cX10_told 53 = .ok (.ireturn, 1) := by decide +kernel
theorem dX10_told_54 : decode cX10_told 54 = .ok (.aload_n 0, 1) := by decide +kernel
theorem dX10_told_55 : decode cX10_told 55 = .ok (.sipush 242, 3) := by decide +kernel
theorem dX10_told_58 : decode cX10_told 58 = .ok (.bipush 10, 2) := by decide +kernel
theorem dX10_told_60 : decode cX10_told 60 = .ok (.invokevirtual 124, 3) := by decide +kernel
theorem dX10_told_63 : decode cX10_told 63 = .ok (.ireturn, 1) := by decide +kernel
theorem dX10_told_64 : decode cX10_told 64 = .ok (.aload_n 0, 1) := by decide +kernel
theorem dX10_told_65 : decode cX10_told 65 = .ok (.getfield 9, 3) := by decide +kernel
theorem dX10_told_68 : decode cX10_told 68 = .ok (.bipush 7, 2) := by decide +kernel
theorem dX10_told_70 : decode cX10_told 70 = .ok (.iaload, 1) := by decide +kernel
theorem dX10_told_71 : decode cX10_told 71 = .ok (.ireturn, 1) := by decide +kernel
theorem dX10_told_72 : decode cX10_told 72 = .ok (.aload_n 0, 1) := by decide +kernel
theorem dX10_told_73 : decode cX10_told 73 = .ok (.getfield 131, 3) := by decide +kernel
theorem dX10_told_76 : decode cX10_told 76 = .ok (.ireturn, 1) := by decide +kernel
theorem dX10_told_77 : decode cX10_told 77 = .ok (.iload_n 1, 1) := by decide +kernel
theorem dX10_told_78 : decode cX10_told 78 = .ok (.bipush 10, 2) := by decide +kernel
theorem dX10_told_80 : decode cX10_told 80 = .ok (.bipush 9, 2) := by decide +kernel
theorem dX10_told_82 : decode cX10_told 82 = .ok (.aload_n 0, 1) := by decide +kernel
theorem dX10_told_83 : decode cX10_told 83 = .ok (.invokevirtual 128, 3) := by decide +kernel
theorem dX10_told_86 : decode cX10_told 86 = .ok (.iadd, 1) := by decide +kernel
theorem dX10_told_87 : decode cX10_told 87 = .ok (.invokestatic 45, 3) := by decide +kernel
theorem dX10_told_90 : decode cX10_told 90 = .ok (.ifCond .eq 15, 3) := by decide +kernel
theorem dX10_told_93 : decode cX10_told 93 = .ok (.aload_n 0, 1) := by decide +kernel
theorem dX10_told_94 : decode cX10_told 94 = .ok (.getfield 25, 3) := by decide +kernel
theorem dX10_told_97 : decode cX10_told 97 = .ok (.iload_n 1, 1) := by decide +kernel
theorem dX10_told_98 : decode cX10_told 98 = .ok (.bipush 10, 2) := by decide +kernel
theorem dX10_told_100 : decode cX10_told 100 = .ok (.isub, 1) := by decide +kernel
theorem dX10_told_101 : decode cX10_told 101 = .ok (.iaload, 1) := by decide +kernel
theorem dX10_told_102 : decode cX10_told 102 = .ok (.goto 4, 3) := by decide +kernel
theorem dX10_told_105 : decode cX10_told 105 = .ok (.iconst (-1), 1) := by decide +kernel
theorem dX10_told_106 : decode cX10_told 106 = .ok (.ireturn, 1) := by decide +kernel
theorem dX10_sign_0 : decode cX10_sign 0 = .ok (.iload_n 1, 1) := by decide +kernel
theorem dX10_sign_1 : decode cX10_sign 1 = .ok (.iconst (-1), 1) := by decide +kernel
theorem dX10_sign_2 : decode cX10_sign 2 = .ok (.if_icmp .ne 12, 3) := by decide +kernel
theorem dX10_sign_5 : decode cX10_sign 5 = .ok (.aload_n 0, 1) := by decide +kernel
theorem dX10_sign_6 : decode cX10_sign 6 = .ok (.getfield 9, 3) := by decide +kernel
theorem dX10_sign_9 : decode cX10_sign 9 = .ok (.iconst 3, 1) := by decide +kernel
theorem dX10_sign_10 : decode cX10_sign 10 = .ok (.iconst 0, 1) := by decide +kernel
theorem dX10_sign_11 : decode cX10_sign 11 = .ok (.iastore, 1) := by decide +kernel
theorem dX10_sign_12 : decode cX10_sign 12 = .ok (.iconst 0, 1) := by decide +kernel
theorem dX10_sign_13 : decode cX10_sign 13 = .ok (.ireturn, 1) := by decide +kernel
theorem dX10_sign_14 : decode cX10_sign 14 = .ok (.iload_n 1, 1) := by decide +kernel
theorem dX10_sign_15 : decode cX10_sign 15 = .ok (.iconst 0, 1) := by decide +kernel
theorem dX10_sign_16 : decode cX10_sign 16 = .ok (.iconst 2, 1) := by decide +kernel
theorem dX10_sign_17 : decode cX10_sign 17 = .ok (.invokestatic 45, 3) := by decide +kernel
theorem dX10_sign_20 : decode cX10_sign 20 = .ok (.ifCond .ne 6, 3) := by decide +kernel
theorem dX10_sign_23 : decode cX10_sign 23 = .ok (.bipush (-2), 2) := by decide +kernel
theorem dX10_sign_25 : decode cX10_sign 25 = .ok (.ireturn, 1) := by decide +kernel
theorem dX10_sign_26 : decode cX10_sign 26 = .ok (.aload_n 0, 1) := by decide +kernel
theorem dX10_sign_27 : decode cX10_sign 27 = .ok (.getfield 9, 3) := by decide +kernel
theorem dX10_sign_30 : decode cX10_sign 30 = .ok (.iconst 3, 1) := by decide +kernel
theorem dX10_sign_31 : decode cX10_sign 31 = .ok (.iaload, 1) := by decide +kernel
theorem dX10_sign_32 : decode cX10_sign 32 = .ok (.bipush 6, 2) := by decide +kernel
theorem dX10_sign_34 : decode cX10_sign 34 = .ok (.if_icmp .ne 6, 3) := by decide +kernel
theorem dX10_sign_37 : decode cX10_sign 37 = .ok (.bipush (-4), 2) := by decide +kernel
theorem dX10_sign_39 : decode cX10_sign 39 = .ok (.ireturn, 1) := by decide +kernel
theorem dX10_sign_40 : decode cX10_sign 40 = .ok (.aload_n 0, 1) := by decide +kernel
theorem dX10_sign_41 : decode cX10_sign 41 = .ok (.getfield 9, 3) := by decide +kernel
theorem dX10_sign_44 : decode cX10_sign 44 = .ok (.bipush 66, 2) := by decide +kernel
theorem dX10_sign_46 : decode cX10_sign 46 = .ok (.aload_n 0, 1) := by decide +kernel
theorem dX10_sign_47 : decode cX10_sign 47 = .ok (.getfield 9, 3) := by decide +kernel
theorem dX10_sign_50 : decode cX10_sign 50 = .ok (.iconst 3, 1) := by decide +kernel
theorem dX10_sign_51 : decode cX10_sign 51 = .ok (.iaload, 1) := by decide +kernel
theorem dX10_sign_52 : decode cX10_sign 52 = .ok (.iadd, 1) := by decide +kernel
theorem dX10_sign_53 : decode cX10_sign 53 = .ok (.iload_n 1, 1) := by decide +kernel
theorem dX10_sign_54 : decode cX10_sign 54 = .ok (.iastore, 1) := by decide +kernel
theorem dX10_sign_55 : decode cX10_sign 55 = .ok (.aload_n 0, 1) := by decide +kernel
theorem dX10_sign_56 : decode cX10_sign 56 = .ok (.getfield 9, 3) := by decide +kernel
theorem dX10_sign_59 : decode cX10_sign 59 = .ok (.iconst 3, 1) := by decide +kernel
theorem dX10_sign_60 : decode cX10_sign 60 = .ok (.dup2, 1) := by decide +kernel
theorem dX10_sign_61 : decode cX10_sign 61 = .ok (.iaload, 1) := by decide +kernel
theorem dX10_sign_62 : decode cX10_sign 62 = .ok (.iconst 1, 1) := by decide +kernel
theorem dX10_sign_63 : decode cX10_sign 63 = .ok (.iadd, 1) := by decide +kernel
theorem dX10_sign_64 : decode cX10_sign 64 = .ok (.iastore, 1) := by decide +kernel
theorem dX10_sign_65 : decode cX10_sign 65 = .ok (.aload_n 0, 1) := by decide +kernel
theorem dX10_sign_66 : decode cX10_sign 66 = .ok (.getfield 9, 3) := by decide +kernel
theorem dX10_sign_69 : decode cX10_sign 69 = .ok (.iconst 3, 1) := by decide +kernel
theorem dX10_sign_70 : decode cX10_sign 70 = .ok (.iaload, 1) := by decide +kernel
theorem dX10_sign_71 : decode cX10_sign 71 = .ok (.ireturn, 1) := by decide +kernel
theorem dX10_row_0 : decode cX10_row 0 = .ok (.aload_n 0, 1) := by decide +kernel
theorem dX10_row_1 : decode cX10_row 1 = .ok (.getfield 9, 3) := by decide +kernel
theorem dX10_row_4 : decode cX10_row 4 = .ok (.iconst 3, 1) := by decide +kernel
theorem dX10_row_5 : decode cX10_row 5 = .ok (.iaload, 1) := by decide +kernel
theorem dX10_row_6 : decode cX10_row 6 = .ok (.ifCond .ne 6, 3) := by decide +kernel
theorem dX10_row_9 : decode cX10_row 9 = .ok (.bipush (-3), 2) := by decide +kernel
theorem dX10_row_11 : decode cX10_row 11 = .ok (.ireturn, 1) := by decide +kernel
theorem dX10_row_12 : decode cX10_row 12 = .ok (.aload_n 0, 1) := by decide +kernel
theorem dX10_row_13 : decode cX10_row 13 = .ok (.getfield 9, 3) := by decide +kernel
theorem dX10_row_16 : decode cX10_row 16 = .ok (.iconst 0, 1) := by decide +kernel
theorem dX10_row_17 : decode cX10_row 17 = .ok (.iaload, 1) := by decide +kernel
theorem dX10_row_18 : decode cX10_row 18 = .ok (.bipush 6, 2) := by decide +kernel
theorem dX10_row_20 : decode cX10_row 20 = .ok (.if_icmp .ne 6, 3) := by decide +kernel
theorem dX10_row_23 : decode cX10_row 23 = .ok (.bipush (-4), 2) := by decide +kernel
theorem dX10_row_25 : decode cX10_row 25 = .ok (.ireturn, 1) := by decide +kernel
theorem dX10_row_26 : decode cX10_row 26 = .ok (.aload_n 0, 1) := by decide +kernel
theorem dX10_row_27 : decode cX10_row 27 = .ok (.getfield 9, 3) := by decide +kernel
theorem dX10_row_30 : decode cX10_row 30 = .ok (.iconst 0, 1) := by decide +kernel
theorem dX10_row_31 : decode cX10_row 31 = .ok (.iaload, 1) := by decide +kernel
theorem dX10_row_32 : decode cX10_row 32 = .ok (.istore_n 1, 1) := by decide +kernel
theorem dX10_row_33 : decode cX10_row 33 = .ok (.iconst 0, 1) := by decide +kernel
theorem dX10_row_34 : decode cX10_row 34 = .ok (.istore_n 2, 1) := by decide +kernel
theorem dX10_row_35 : decode cX10_row 35 = .ok (.iload_n 2, 1) := by decide +kernel
theorem dX10_row_36 : decode cX10_row 36 = .ok (.bipush 6, 2) := by decide +kernel
theorem dX10_row_38 : decode cX10_row 38 = .ok (.if_icmp .ge 32, 3) := by decide +kernel
theorem dX10_row_41 : decode cX10_row 41 = .ok (.aload_n 0, 1) := by decide +kernel
theorem dX10_row_42 : decode cX10_row 42 = .ok (.getfield 9, 3) := by decide +kernel
theorem dX10_row_45 : decode cX10_row 45 = .ok (.bipush 10, 2) := by decide +kernel
theorem dX10_row_47 : decode cX10_row 47 = .ok (.bipush 6, 2) := by decide +kernel
theorem dX10_row_49 : decode cX10_row 49 = .ok (.iload_n 1, 1) := by decide +kernel
theorem dX10_row_50 : decode cX10_row 50 = .ok (.imul, 1) := by decide +kernel
theorem dX10_row_51 : decode cX10_row 51 = .ok (.iadd, 1) := by decide +kernel
theorem dX10_row_52 : decode cX10_row 52 = .ok (.iload_n 2, 1) := by decide +kernel
theorem dX10_row_53 : decode cX10_row 53 = .ok (.iadd, 1) := by decide +kernel
theorem dX10_row_54 : decode cX10_row 54 = .ok (.aload_n 0, 1) := by decide +kernel
theorem dX10_row_55 : decode cX10_row 55 = .ok (.getfield 9, 3) := by decide +kernel
theorem dX10_row_58 : decode cX10_row 58 = .ok (.bipush 66, 2) := by decide +kernel
theorem dX10_row_60 : decode cX10_row 60 = .ok (.iload_n 2, 1) := by decide +kernel
theorem dX10_row_61 : decode cX10_row 61 = .ok (.iadd, 1) := by decide +kernel
theorem dX10_row_62 : decode cX10_row 62 = .ok (.iaload, 1) := by decide +kernel
theorem dX10_row_63 : decode cX10_row 63 = .ok (.iastore, 1) := by decide +kernel
theorem dX10_row_64 : decode cX10_row 64 = .ok (.iinc 2 1, 3) := by decide +kernel
theorem dX10_row_67 : decode cX10_row 67 = .ok (.goto (-32), 3) := by decide +kernel
theorem dX10_row_70 : decode cX10_row 70 = .ok (.aload_n 0, 1) := by decide +kernel
theorem dX10_row_71 : decode cX10_row 71 = .ok (.getfield 9, 3) := by decide +kernel
theorem dX10_row_74 : decode cX10_row 74 = .ok (.bipush 58, 2) := by decide +kernel
theorem dX10_row_76 : decode cX10_row 76 = .ok (.iload_n 1, 1) := by decide +kernel
theorem dX10_row_77 : decode cX10_row 77 = .ok (.iadd, 1) := by decide +kernel
theorem dX10_row_78 : decode cX10_row 78 = .ok (.aload_n 0, 1) := by decide +kernel
theorem dX10_row_79 : decode cX10_row 79 = .ok (.getfield 9, 3) := by decide +kernel
theorem dX10_row_82 : decode cX10_row 82 = .ok (.iconst 3, 1) := by decide +kernel
theorem dX10_row_83 : decode cX10_row 83 = .ok (.iaload, 1) := by decide +kernel
theorem dX10_row_84 : decode cX10_row 84 = .ok (.iastore, 1) := by decide +kernel
theorem dX10_row_85 : decode cX10_row 85 = .ok (.aload_n 0, 1) := by decide +kernel
theorem dX10_row_86 : decode cX10_row 86 = .ok (.getfield 9, 3) := by decide +kernel
theorem dX10_row_89 : decode cX10_row 89 = .ok (.iconst 3, 1) := by decide +kernel
theorem dX10_row_90 : decode cX10_row 90 = .ok (.iconst 0, 1) := by decide +kernel
theorem dX10_row_91 : decode cX10_row 91 = .ok (.iastore, 1) := by decide +kernel
theorem dX10_row_92 : decode cX10_row 92 = .ok (.aload_n 0, 1) := by decide +kernel
theorem dX10_row_93 : decode cX10_row 93 = .ok (.getfield 9, 3) := by decide +kernel
theorem dX10_row_96 : decode cX10_row 96 = .ok (.iconst 0, 1) := by decide +kernel
theorem dX10_row_97 : decode cX10_row 97 = .ok (.dup2, 1) := by decide +kernel
theorem dX10_row_98 : decode cX10_row 98 = .ok (.iaload, 1) := by decide +kernel
theorem dX10_row_99 : decode cX10_row 99 = .ok (.iconst 1, 1) := by decide +kernel
theorem dX10_row_100 : decode cX10_row 100 = .ok (.iadd, 1) := by decide +kernel
theorem dX10_row_101 : decode cX10_row 101 = .ok (.iastore, 1) := by decide +kernel
theorem dX10_row_102 : decode cX10_row 102 = .ok (.iload_n 1, 1) := by decide +kernel
theorem dX10_row_103 : decode cX10_row 103 = .ok (.ireturn, 1) := by decide +kernel
theorem dX10_of_0 : decode cX10_of 0 = .ok (.aload_n 0, 1) := by decide +kernel
theorem dX10_of_1 : decode cX10_of 1 = .ok (.iload_n 1, 1) := by decide +kernel
theorem dX10_of_2 : decode cX10_of 2 = .ok (.invokevirtual 141, 3) := by decide +kernel
theorem dX10_of_5 : decode cX10_of 5 = .ok (.ifCond .eq 22, 3) := by decide +kernel
theorem dX10_of_8 : decode cX10_of 8 = .ok (.iload_n 2, 1) := by decide +kernel
theorem dX10_of_9 : decode cX10_of 9 = .ok (.iconst (-1), 1) := by decide +kernel
theorem dX10_of_10 : decode cX10_of 10 = .ok (.aload_n 0, 1) := by decide +kernel
theorem dX10_of_11 : decode cX10_of 11 = .ok (.getfield 9, 3) := by decide +kernel
theorem dX10_of_14 : decode cX10_of 14 = .ok (.bipush 58, 2) := by decide +kernel
theorem dX10_of_16 : decode cX10_of 16 = .ok (.iload_n 1, 1) := by decide +kernel
theorem dX10_of_17 : decode cX10_of 17 = .ok (.iadd, 1) := by decide +kernel
theorem dX10_of_18 : decode cX10_of 18 = .ok (.iaload, 1) := by decide +kernel
theorem dX10_of_19 : decode cX10_of 19 = .ok (.iconst 1, 1) := by decide +kernel
theorem dX10_of_20 : decode cX10_of 20 = .ok (.isub, 1) := by decide +kernel
theorem dX10_of_21 : decode cX10_of 21 = .ok (.invokestatic 45, 3) := by decide +kernel
theorem dX10_of_24 : decode cX10_of 24 = .ok (.ifCond .ne 5, 3) := by decide +kernel
theorem dX10_of_27 : decode cX10_of 27 = .ok (.iconst (-1), 1) := by decide +kernel
theorem dX10_of_28 : decode cX10_of 28 = .ok (.ireturn, 1) := by decide +kernel
theorem dX10_of_29 : decode cX10_of 29 = .ok (.iload_n 2, 1) := by decide +kernel
theorem dX10_of_30 : decode cX10_of 30 = .ok (.iconst (-1), 1) := by decide +kernel
theorem dX10_of_31 : decode cX10_of 31 = .ok (.if_icmp .ne 15, 3) := by decide +kernel
theorem dX10_of_34 : decode cX10_of 34 = .ok (.aload_n 0, 1) := by decide +kernel
theorem dX10_of_35 : decode cX10_of 35 = .ok (.getfield 9, 3) := by decide +kernel
theorem dX10_of_38 : decode cX10_of 38 = .ok (.bipush 58, 2) := by decide +kernel
theorem dX10_of_40 : decode cX10_of 40 = .ok (.iload_n 1, 1) := by decide +kernel
theorem dX10_of_41 : decode cX10_of 41 = .ok (.iadd, 1) := by decide +kernel
theorem dX10_of_42 : decode cX10_of 42 = .ok (.iaload, 1) := by decide +kernel
theorem dX10_of_43 : decode cX10_of 43 = .ok (.goto 17, 3) := by decide +kernel
theorem dX10_of_46 : decode cX10_of 46 = .ok (.aload_n 0, 1) := by decide +kernel
theorem dX10_of_47 : decode cX10_of 47 = .ok (.getfield 9, 3) := by decide +kernel
theorem dX10_of_50 : decode cX10_of 50 = .ok (.bipush 10, 2) := by decide +kernel
theorem dX10_of_52 : decode cX10_of 52 = .ok (.bipush 6, 2) := by decide +kernel
theorem dX10_of_54 : decode cX10_of 54 = .ok (.iload_n 1, 1) := by decide +kernel
theorem dX10_of_55 : decode cX10_of 55 = .ok (.imul, 1) := by decide +kernel
theorem dX10_of_56 : decode cX10_of 56 = .ok (.iadd, 1) := by decide +kernel
theorem dX10_of_57 : decode cX10_of 57 = .ok (.iload_n 2, 1) := by decide +kernel
theorem dX10_of_58 : decode cX10_of 58 = .ok (.iadd, 1) := by decide +kernel
theorem dX10_of_59 : decode cX10_of 59 = .ok (.iaload, 1) := by decide +kernel
theorem dX10_of_60 : decode cX10_of 60 = .ok (.ireturn, 1) := by decide +kernel
theorem dX10_player_0 : decode cX10_player 0 = .ok (.iload_n 1, 1) := by decide +kernel
theorem dX10_player_1 : decode cX10_player 1 = .ok (.iconst 0, 1) := by decide +kernel
theorem dX10_player_2 : decode cX10_player 2 = .ok (.bipush 6, 2) := by decide +kernel
theorem dX10_player_4 : decode cX10_player 4 = .ok (.invokestatic 45, 3) := by decide +kernel
theorem dX10_player_7 : decode cX10_player 7 = .ok (.ifCond .ne 5, 3) := by decide +kernel
theorem dX10_player_10 : decode cX10_player 10 = .ok (.iconst (-1), 1) := by decide +kernel
theorem dX10_player_11 : decode cX10_player 11 = .ok (.ireturn, 1) := by decide +kernel
theorem dX10_player_12 : decode cX10_player 12 = .ok (.iload_n 2, 1) := by decide +kernel
theorem dX10_player_13 : decode cX10_player 13 = .ok (.iconst 0, 1) := by decide +kernel
theorem dX10_player_14 : decode cX10_player 14 = .ok (.bipush 9, 2) := by decide +kernel
theorem dX10_player_16 : decode cX10_player 16 = .ok (.invokestatic 45, 3) := by decide +kernel
theorem dX10_player_19 : decode cX10_player 19 = .ok (.ifCond .ne 6, 3) := by decide +kernel
theorem dX10_player_22 : decode cX10_player 22 = .ok (.bipush (-2), 2) := by decide +kernel
theorem dX10_player_24 : decode cX10_player 24 = .ok (.ireturn, 1) := by decide +kernel
theorem dX10_player_25 : decode cX10_player 25 = .ok (.aload_n 0, 1) := by decide +kernel
theorem dX10_player_26 : decode cX10_player 26 = .ok (.getfield 9, 3) := by decide +kernel
theorem dX10_player_29 : decode cX10_player 29 = .ok (.iconst 1, 1) := by decide +kernel
theorem dX10_player_30 : decode cX10_player 30 = .ok (.iaload, 1) := by decide +kernel
theorem dX10_player_31 : decode cX10_player 31 = .ok (.iconst 4, 1) := by decide +kernel
theorem dX10_player_32 : decode cX10_player 32 = .ok (.if_icmp .ne 6, 3) := by decide +kernel
theorem dX10_player_35 : decode cX10_player 35 = .ok (.bipush (-4), 2) := by decide +kernel
theorem dX10_player_37 : decode cX10_player 37 = .ok (.ireturn, 1) := by decide +kernel
theorem dX10_player_38 : decode cX10_player 38 = .ok (.aload_n 0, 1) := by decide +kernel
theorem dX10_player_39 : decode cX10_player 39 = .ok (.getfield 9, 3) := by decide +kernel
theorem dX10_player_42 : decode cX10_player 42 = .ok (.iconst 1, 1) := by decide +kernel
theorem dX10_player_43 : decode cX10_player 43 = .ok (.iaload, 1) := by decide +kernel
theorem dX10_player_44 : decode cX10_player 44 = .ok (.istore_n 3, 1) := by decide +kernel
theorem dX10_player_45 : decode cX10_player 45 = .ok (.aload_n 0, 1) := by decide +kernel
theorem dX10_player_46 : decode cX10_player 46 = .ok (.getfield 9, 3) := by decide +kernel
theorem dX10_player_49 : decode cX10_player 49 = .ok (.bipush 96, 2) := by decide +kernel
theorem dX10_player_51 : decode cX10_player 51 = .ok (.iload_n 3, 1) := by decide +kernel
theorem dX10_player_52 : decode cX10_player 52 = .ok (.iadd, 1) := by decide +kernel
theorem dX10_player_53 : decode cX10_player 53 = .ok (.iload_n 1, 1) := by decide +kernel
theorem dX10_player_54 : decode cX10_player 54 = .ok (.iastore, 1) := by decide +kernel
theorem dX10_player_55 : decode cX10_player 55 = .ok (.aload_n 0, 1) := by decide +kernel
theorem dX10_player_56 : decode cX10_player 56 = .ok (.getfield 9, 3) := by decide +kernel
theorem dX10_player_59 : decode cX10_player 59 = .ok (.bipush 100, 2) := by decide +kernel
theorem dX10_player_61 : decode cX10_player 61 = .ok (.iload_n 3, 1) := by decide +kernel
theorem dX10_player_62 : decode cX10_player 62 = .ok (.iadd, 1) := by decide +kernel
theorem dX10_player_63 : decode cX10_player 63 = .ok (.iload_n 2, 1) := by decide +kernel
theorem dX10_player_64 : decode cX10_player 64 = .ok (.iastore, 1) := by decide +kernel
theorem dX10_player_65 : decode cX10_player 65 = .ok (.aload_n 0, 1) := by decide +kernel
theorem dX10_player_66 : decode cX10_player 66 = .ok (.getfield 9, 3) := by decide +kernel
theorem dX10_player_69 : decode cX10_player 69 = .ok (.sipush 128, 3) := by decide +kernel
theorem dX10_player_72 : decode cX10_player 72 = .ok (.iload_n 3, 1) := by decide +kernel
theorem dX10_player_73 : decode cX10_player 73 = .ok (.iadd, 1) := by decide +kernel
theorem dX10_player_74 : decode cX10_player 74 = .ok (.iconst 0, 1) := by decide +kernel
theorem dX10_player_75 : decode cX10_player 75 = .ok (.iastore, 1) := by decide +kernel
theorem dX10_player_76 : decode cX10_player 76 = .ok (.aload_n 0, 1) := by decide +kernel
theorem dX10_player_77 : decode cX10_player 77 = .ok (.getfield 9, 3) := by decide +kernel
theorem dX10_player_80 : decode cX10_player 80 = .ok (.iconst 1, 1) := by decide +kernel
theorem dX10_player_81 : decode cX10_player 81 = .ok (.dup2, 1) := by decide +kernel
theorem dX10_player_82 : decode cX10_player 82 = .ok (.iaload, 1) := by decide +kernel
theorem dX10_player_83 : decode cX10_player 83 = .ok (.iconst 1, 1) := by decide +kernel
theorem dX10_player_84 : decode cX10_player 84 = .ok (.iadd, 1) := by decide +kernel
theorem dX10_player_85 : decode cX10_player 85 = .ok (.iastore, 1) := by decide +kernel
theorem dX10_player_86 : decode cX10_player 86 = .ok (.iload_n 3, 1) := by decide +kernel
theorem dX10_player_87 : decode cX10_player 87 = .ok (.ireturn, 1) := by decide +kernel
theorem dX10_own_0 : decode cX10_own 0 = .ok (.aload_n 0, 1) := by decide +kernel
theorem dX10_own_1 : decode cX10_own 1 = .ok (.iload_n 1, 1) := by decide +kernel
theorem dX10_own_2 : decode cX10_own 2 = .ok (.invokevirtual 145, 3) := by decide +kernel
theorem dX10_own_5 : decode cX10_own 5 = .ok (.ifCond .ne 5, 3) := by decide +kernel
theorem dX10_own_8 : decode cX10_own 8 = .ok (.iconst (-1), 1) := by decide +kernel
theorem dX10_own_9 : decode cX10_own 9 = .ok (.ireturn, 1) := by decide +kernel
theorem dX10_own_10 : decode cX10_own 10 = .ok (.aload_n 0, 1) := by decide +kernel
theorem dX10_own_11 : decode cX10_own 11 = .ok (.getfield 9, 3) := by decide +kernel
theorem dX10_own_14 : decode cX10_own 14 = .ok (.bipush 96, 2) := by decide +kernel
theorem dX10_own_16 : decode cX10_own 16 = .ok (.iload_n 1, 1) := by decide +kernel
theorem dX10_own_17 : decode cX10_own 17 = .ok (.iadd, 1) := by decide +kernel
theorem dX10_own_18 : decode cX10_own 18 = .ok (.iaload, 1) := by decide +kernel
theorem dX10_own_19 : decode cX10_own 19 = .ok (.bipush 6, 2) := by decide +kernel
theorem dX10_own_21 : decode cX10_own 21 = .ok (.if_icmp .eq 6, 3) := by decide +kernel
theorem dX10_own_24 : decode cX10_own 24 = .ok (.bipush (-3), 2) := by decide +kernel
theorem dX10_own_26 : decode cX10_own 26 = .ok (.ireturn, 1) := by decide +kernel
theorem dX10_own_27 : decode cX10_own 27 = .ok (.iconst 0, 1) := by decide +kernel
theorem dX10_own_28 : decode cX10_own 28 = .ok (.istore_n 2, 1) := by decide +kernel
theorem dX10_own_29 : decode cX10_own 29 = .ok (.iload_n 2, 1) := by decide +kernel
theorem dX10_own_30 : decode cX10_own 30 = .ok (.bipush 6, 2) := by decide +kernel
theorem dX10_own_32 : decode cX10_own 32 = .ok (.if_icmp .ge 32, 3) := by decide +kernel
theorem dX10_own_35 : decode cX10_own 35 = .ok (.aload_n 0, 1) := by decide +kernel
theorem dX10_own_36 : decode cX10_own 36 = .ok (.getfield 9, 3) := by decide +kernel
theorem dX10_own_39 : decode cX10_own 39 = .ok (.bipush 104, 2) := by decide +kernel
theorem dX10_own_41 : decode cX10_own 41 = .ok (.bipush 6, 2) := by decide +kernel
theorem dX10_own_43 : decode cX10_own 43 = .ok (.iload_n 1, 1) := by decide +kernel
theorem dX10_own_44 : decode cX10_own 44 = .ok (.imul, 1) := by decide +kernel
theorem dX10_own_45 : decode cX10_own 45 = .ok (.iadd, 1) := by decide +kernel
theorem dX10_own_46 : decode cX10_own 46 = .ok (.iload_n 2, 1) := by decide +kernel
theorem dX10_own_47 : decode cX10_own 47 = .ok (.iadd, 1) := by decide +kernel
theorem dX10_own_48 : decode cX10_own 48 = .ok (.aload_n 0, 1) := by decide +kernel
theorem dX10_own_49 : decode cX10_own 49 = .ok (.getfield 9, 3) := by decide +kernel
theorem dX10_own_52 : decode cX10_own 52 = .ok (.bipush 66, 2) := by decide +kernel
theorem dX10_own_54 : decode cX10_own 54 = .ok (.iload_n 2, 1) := by decide +kernel
theorem dX10_own_55 : decode cX10_own 55 = .ok (.iadd, 1) := by decide +kernel
theorem dX10_own_56 : decode cX10_own 56 = .ok (.iaload, 1) := by decide +kernel
theorem dX10_own_57 : decode cX10_own 57 = .ok (.iastore, 1) := by decide +kernel
theorem dX10_own_58 : decode cX10_own 58 = .ok (.iinc 2 1, 3) := by decide +kernel
theorem dX10_own_61 : decode cX10_own 61 = .ok (.goto (-32), 3) := by decide +kernel
theorem dX10_own_64 : decode cX10_own 64 = .ok (.aload_n 0, 1) := by decide +kernel
theorem dX10_own_65 : decode cX10_own 65 = .ok (.getfield 9, 3) := by decide +kernel
theorem dX10_own_68 : decode cX10_own 68 = .ok (.sipush 128, 3) := by decide +kernel
theorem dX10_own_71 : decode cX10_own 71 = .ok (.iload_n 1, 1) := by decide +kernel
theorem dX10_own_72 : decode cX10_own 72 = .ok (.iadd, 1) := by decide +kernel
theorem dX10_own_73 : decode cX10_own 73 = .ok (.aload_n 0, 1) := by decide +kernel
theorem dX10_own_74 : decode cX10_own 74 = .ok (.getfield 9, 3) := by decide +kernel
theorem dX10_own_77 : decode cX10_own 77 = .ok (.iconst 3, 1) := by decide +kernel
theorem dX10_own_78 : decode cX10_own 78 = .ok (.iaload, 1) := by decide +kernel
theorem dX10_own_79 : decode cX10_own 79 = .ok (.iastore, 1) := by decide +kernel
theorem dX10_own_80 : decode cX10_own 80 = .ok (.aload_n 0, 1) := by decide +kernel
theorem dX10_own_81 : decode cX10_own 81 = .ok (.getfield 9, 3) := by decide +kernel
theorem dX10_own_84 : decode cX10_own 84 = .ok (.iconst 3, 1) := by decide +kernel
theorem dX10_own_85 : decode cX10_own 85 = .ok (.iconst 0, 1) := by decide +kernel
theorem dX10_own_86 : decode cX10_own 86 = .ok (.iastore, 1) := by decide +kernel
theorem dX10_own_87 : decode cX10_own 87 = .ok (.aload_n 0, 1) := by decide +kernel
theorem dX10_own_88 : decode cX10_own 88 = .ok (.getfield 9, 3) := by decide +kernel
theorem dX10_own_91 : decode cX10_own 91 = .ok (.sipush 128, 3) := by decide +kernel
theorem dX10_own_94 : decode cX10_own 94 = .ok (.iload_n 1, 1) := by decide +kernel
theorem dX10_own_95 : decode cX10_own 95 = .ok (.iadd, 1) := by decide +kernel
theorem dX10_own_96 : decode cX10_own 96 = .ok (.iaload, 1) := by decide +kernel
theorem dX10_own_97 : decode cX10_own 97 = .ok (.ireturn, 1) := by decide +kernel
theorem dX10_isLawful_0 : decode cX10_isLawful 0 = .ok (.iconst 1, 1) := by decide +kernel
theorem dX10_isLawful_1 : decode cX10_isLawful 1 = .ok (.istore_n 2, 1) := by decide +kernel
theorem dX10_isLawful_2 : decode cX10_isLawful 2 = .ok (.iconst 0, 1) := by decide +kernel
theorem dX10_isLawful_3 : decode cX10_isLawful 3 = .ok (.istore_n 3, 1) := by decide +kernel
theorem dX10_isLawful_4 : decode cX10_isLawful 4 = .ok (.iload_n 3, 1) := by decide +kernel
theorem dX10_isLawful_5 : decode cX10_isLawful 5 = .ok (.aload_n 0, 1) := by decide +kernel
theorem dX10_isLawful_6 : decode cX10_isLawful 6 = .ok (.getfield 9, 3) := by decide +kernel
theorem dX10_isLawful_9 : decode cX10_isLawful 9 = .ok (.bipush 58, 2) := by decide +kernel
theorem dX10_isLawful_11 : decode cX10_isLawful 11 = .ok (.iload_n 1, 1) := by decide +kernel
theorem dX10_isLawful_12 : decode cX10_isLawful 12 = .ok (.iadd, 1) := by decide +kernel
theorem dX10_isLawful_13 : decode cX10_isLawful 13 = .ok (.iaload, 1) := by decide +kernel
theorem dX10_isLawful_14 : decode cX10_isLawful 14 = .ok (.if_icmp .ge 40, 3) := by decide +kernel
theorem dX10_isLawful_17 : decode cX10_isLawful 17 = .ok (.iload_n 2, 1) := by decide +kernel
theorem dX10_isLawful_18 : decode cX10_isLawful 18 = .ok (.ifCond .eq 28, 3) := by decide +kernel
theorem dX10_isLawful_21 : decode cX10_isLawful 21 = .ok (.aload_n 0, 1) := by decide +kernel
theorem dX10_isLawful_22 : decode cX10_isLawful 22 = .ok (.getfield 9, 3) := by decide +kernel
theorem dX10_isLawful_25 : decode cX10_isLawful 25 = .ok (.bipush 10, 2) := by decide +kernel
theorem dX10_isLawful_27 : decode cX10_isLawful 27 = .ok (.bipush 6, 2) := by decide +kernel
theorem dX10_isLawful_29 : decode cX10_isLawful 29 = .ok (.iload_n 1, 1) := by decide +kernel
theorem dX10_isLawful_30 : decode cX10_isLawful 30 = .ok (.imul, 1) := by decide +kernel
theorem dX10_isLawful_31 : decode cX10_isLawful 31 = .ok (.iadd, 1) := by decide +kernel
theorem dX10_isLawful_32 : decode cX10_isLawful 32 = .ok (.iload_n 3, 1) := by decide +kernel
theorem dX10_isLawful_33 : decode cX10_isLawful 33 = .ok (.iadd, 1) := by decide +kernel
theorem dX10_isLawful_34 : decode cX10_isLawful 34 = .ok (.iaload, 1) := by decide +kernel
theorem dX10_isLawful_35 : decode cX10_isLawful 35 = .ok (.aload_n 0, 1) := by decide +kernel
theorem dX10_isLawful_36 : decode cX10_isLawful 36 = .ok (.invokevirtual 128, 3) := by decide +kernel
theorem dX10_isLawful_39 : decode cX10_isLawful 39 = .ok (.if_icmp .ge 7, 3) := by decide +kernel
theorem dX10_isLawful_42 : decode cX10_isLawful 42 = .ok (.iconst 1, 1) := by decide +kernel
theorem dX10_isLawful_43 : decode cX10_isLawful 43 = .ok (.goto 4, 3) := by decide +kernel
theorem dX10_isLawful_46 : decode cX10_isLawful 46 = .ok (.iconst 0, 1) := by decide +kernel
theorem dX10_isLawful_47 : decode cX10_isLawful 47 = .ok (.istore_n 2, 1) := by decide +kernel
theorem dX10_isLawful_48 : decode cX10_isLawful 48 = .ok (.iinc 3 1, 3) := by decide +kernel
theorem dX10_isLawful_51 : decode cX10_isLawful 51 = .ok (.goto (-47), 3) := by decide +kernel
theorem dX10_isLawful_54 : decode cX10_isLawful 54 = .ok (.iload_n 2, 1) := by decide +kernel
theorem dX10_isLawful_55 : decode cX10_isLawful 55 = .ok (.ireturn, 1) := by decide +kernel
theorem dX10_endsWith_0 : decode cX10_endsWith 0 = .ok (.iload_n 2, 1) := by decide +kernel
theorem dX10_endsWith_1 : decode cX10_endsWith 1 = .ok (.iload 4, 2) := by decide +kernel
theorem dX10_endsWith_3 : decode cX10_endsWith 3 = .ok (.if_icmp .lt 7, 3) := by decide +kernel
theorem dX10_endsWith_6 : decode cX10_endsWith 6 = .ok (.iconst 1, 1) := by decide +kernel
theorem dX10_endsWith_7 : decode cX10_endsWith 7 = .ok (.goto 4, 3) := by decide +kernel
theorem dX10_endsWith_10 : decode cX10_endsWith 10 = .ok (.iconst 0, 1) := by decide +kernel
theorem dX10_endsWith_11 : decode cX10_endsWith 11 = .ok (.istore 5, 2) := by decide +kernel
theorem dX10_endsWith_13 : decode cX10_endsWith 13 = .ok (.iconst 0, 1) := by decide +kernel
theorem dX10_endsWith_14 : decode cX10_endsWith 14 = .ok (.istore 6, 2) := by decide +kernel
theorem dX10_endsWith_16 : decode cX10_endsWith 16 = .ok (.iload 6, 2) := by decide +kernel
theorem dX10_endsWith_18 : decode cX10_endsWith 18 = .ok (.iload 4, 2) := by decide +kernel
theorem dX10_endsWith_20 : decode cX10_endsWith 20 = .ok (.if_icmp .ge 53, 3) := by decide +kernel
theorem dX10_endsWith_23 : decode cX10_endsWith 23 = .ok (.iload 5, 2) := by decide +kernel
theorem dX10_endsWith_25 : decode cX10_endsWith 25 = .ok (.ifCond .eq 48, 3) := by decide +kernel
theorem dX10_endsWith_28 : decode cX10_endsWith 28 = .ok (.aload_n 0, 1) := by decide +kernel
theorem dX10_endsWith_29 : decode cX10_endsWith 29 = .ok (.getfield 9, 3) := by decide +kernel
theorem dX10_endsWith_32 : decode cX10_endsWith 32 = .ok (.iload_n 1, 1) := by decide +kernel
theorem dX10_endsWith_33 : decode cX10_endsWith 33 = .ok (.iload_n 2, 1) := by decide +kernel
theorem dX10_endsWith_34 : decode cX10_endsWith 34 = .ok (.iadd, 1) := by decide +kernel
theorem dX10_endsWith_35 : decode cX10_endsWith 35 = .ok (.iload 4, 2) := by decide +kernel
theorem dX10_endsWith_37 : decode cX10_endsWith 37 = .ok (.isub, 1) := by decide +kernel
theorem dX10_endsWith_38 : decode cX10_endsWith 38 = .ok (.iload 6, 2) := by decide +kernel
theorem dX10_endsWith_40 : decode cX10_endsWith 40 = .ok (.iadd, 1) := by decide +kernel
theorem dX10_endsWith_41 : decode cX10_endsWith 41 = .ok (.iaload, 1) := by decide +kernel
theorem dX10_endsWith_42 : decode cX10_endsWith 42 = .ok (.aload_n 0, 1) := by decide +kernel
theorem dX10_endsWith_43 : decode cX10_endsWith 43 = .ok (.getfield 9, 3) := by decide +kernel
theorem dX10_endsWith_46 : decode cX10_endsWith 46 = .ok (.bipush 10, 2) := by decide +kernel
theorem dX10_endsWith_48 : decode cX10_endsWith 48 = .ok (.bipush 6, 2) := by decide +kernel
theorem dX10_endsWith_50 : decode cX10_endsWith 50 = .ok (.iload_n 3, 1) := by decide +kernel
theorem dX10_endsWith_51 : decode cX10_endsWith 51 = .ok (.imul, 1) := by decide +kernel
theorem dX10_endsWith_52 : decode cX10_endsWith 52 = .ok (.iadd, 1) := by decide +kernel
theorem dX10_endsWith_53 : decode cX10_endsWith 53 = .ok (.iload 6, 2) := by decide +kernel
theorem dX10_endsWith_55 : decode cX10_endsWith 55 = .ok (.iadd, 1) := by decide +kernel
theorem dX10_endsWith_56 : decode cX10_endsWith 56 = .ok (.iaload, 1) := by decide +kernel
theorem dX10_endsWith_57 : decode cX10_endsWith 57 = .ok (.if_icmp .ne 7, 3) := by decide +kernel
theorem dX10_endsWith_60 : decode cX10_endsWith 60 = .ok (.iconst 1, 1) := by decide +kernel
theorem dX10_endsWith_61 : decode cX10_endsWith 61 = .ok (.goto 4, 3) := by decide +kernel
theorem dX10_endsWith_64 : decode cX10_endsWith 64 = .ok (.iconst 0, 1) := by decide +kernel
theorem dX10_endsWith_65 : decode cX10_endsWith 65 = .ok (.istore 5, 2) := by decide +kernel
theorem dX10_endsWith_67 : decode cX10_endsWith 67 = .ok (.iinc 6 1, 3) := by decide +kernel
theorem dX10_endsWith_70 : decode cX10_endsWith 70 = .ok (.goto (-54), 3) := by decide +kernel
theorem dX10_endsWith_73 : decode cX10_endsWith 73 = .ok (.iload 5, 2) := by decide +kernel
theorem dX10_endsWith_75 : decode cX10_endsWith 75 = .ok (.ireturn, 1) := by decide +kernel
theorem dX10_isWithin_0 : decode cX10_isWithin 0 = .ok (.iconst 0, 1) := by decide +kernel
theorem dX10_isWithin_1 : decode cX10_isWithin 1 = .ok (.istore 4, 2) := by decide +kernel
theorem dX10_isWithin_3 : decode cX10_isWithin 3 = .ok (.iconst 1, 1) := by decide +kernel
theorem dX10_isWithin_4 : decode cX10_isWithin 4 = .ok (.istore 5, 2) := by decide +kernel
theorem dX10_isWithin_6 : decode cX10_isWithin 6 = .ok (.iload 5, 2) := by decide +kernel
theorem dX10_isWithin_8 : decode cX10_isWithin 8 = .ok (.iload_n 3, 1) := by decide +kernel
theorem dX10_isWithin_9 : decode cX10_isWithin 9 = .ok (.if_icmp .gt 41, 3) := by decide +kernel
theorem dX10_isWithin_12 : decode cX10_isWithin 12 = .ok (.iload 4, 2) := by decide +kernel
theorem dX10_isWithin_14 : decode cX10_isWithin 14 = .ok (.ifCond .ne 23, 3) := by decide +kernel
theorem dX10_isWithin_17 : decode cX10_isWithin 17 = .ok (.aload_n 0, 1) := by decide +kernel
theorem dX10_isWithin_18 : decode cX10_isWithin 18 = .ok (.iload_n 2, 1) := by decide +kernel
theorem dX10_isWithin_19 : decode cX10_isWithin 19 = .ok (.iload 5, 2) := by decide +kernel
theorem dX10_isWithin_21 : decode cX10_isWithin 21 = .ok (.iload_n 1, 1) := by decide +kernel
theorem dX10_isWithin_22 : decode cX10_isWithin 22 = .ok (.aload_n 0, 1) := by decide +kernel
theorem dX10_isWithin_23 : decode cX10_isWithin 23 = .ok (.getfield 9, 3) := by decide +kernel
theorem dX10_isWithin_26 : decode cX10_isWithin 26 = .ok (.bipush 58, 2) := by decide +kernel
theorem dX10_isWithin_28 : decode cX10_isWithin 28 = .ok (.iload_n 1, 1) := by decide +kernel
theorem dX10_isWithin_29 : decode cX10_isWithin 29 = .ok (.iadd, 1) := by decide +kernel
theorem dX10_isWithin_30 : decode cX10_isWithin 30 = .ok (.iaload, 1) := by decide +kernel
theorem dX10_isWithin_31 : decode cX10_isWithin 31 = .ok (.invokevirtual 148, 3) := by decide +kernel
theorem dX10_isWithin_34 : decode cX10_isWithin 34 = .ok (.ifCond .eq 7, 3) := by decide +kernel
theorem dX10_isWithin_37 : decode cX10_isWithin 37 = .ok (.iconst 1, 1) := by decide +kernel
theorem dX10_isWithin_38 : decode cX10_isWithin 38 = .ok (.goto 4, 3) := by decide +kernel
theorem dX10_isWithin_41 : decode cX10_isWithin 41 = .ok (.iconst 0, 1) := by decide +kernel
theorem dX10_isWithin_42 : decode cX10_isWithin 42 = .ok (.istore 4, 2) := by decide +kernel
theorem dX10_isWithin_44 : decode cX10_isWithin 44 = .ok (.iinc 5 1, 3) := by decide +kernel
theorem dX10_isWithin_47 : decode cX10_isWithin 47 = .ok (.goto (-41), 3) := by decide +kernel
theorem dX10_isWithin_50 : decode cX10_isWithin 50 = .ok (.iload 4, 2) := by decide +kernel
theorem dX10_isWithin_52 : decode cX10_isWithin 52 = .ok (.ireturn, 1) := by decide +kernel
theorem dX10_areApart_0 : decode cX10_areApart 0 = .ok (.aload_n 0, 1) := by decide +kernel
theorem dX10_areApart_1 : decode cX10_areApart 1 = .ok (.iload_n 1, 1) := by decide +kernel
theorem dX10_areApart_2 : decode cX10_areApart 2 = .ok (.bipush 10, 2) := by decide +kernel
theorem dX10_areApart_4 : decode cX10_areApart 4 = .ok (.bipush 6, 2) := by decide +kernel
theorem dX10_areApart_6 : decode cX10_areApart 6 = .ok (.iload_n 2, 1) := by decide +kernel
theorem dX10_areApart_7 : decode cX10_areApart 7 = .ok (.imul, 1) := by decide +kernel
theorem dX10_areApart_8 : decode cX10_areApart 8 = .ok (.iadd, 1) := by decide +kernel
theorem dX10_areApart_9 : decode cX10_areApart 9 = .ok (.aload_n 0, 1) := by decide +kernel
theorem dX10_areApart_10 : decode cX10_areApart 10 = .ok (.getfield 9, 3) := by decide +kernel
theorem dX10_areApart_13 : decode cX10_areApart 13 = .ok (.bipush 58, 2) := by decide +kernel
theorem dX10_areApart_15 : decode cX10_areApart 15 = .ok (.iload_n 2, 1) := by decide +kernel
theorem dX10_areApart_16 : decode cX10_areApart 16 = .ok (.iadd, 1) := by decide +kernel
theorem dX10_areApart_17 : decode cX10_areApart 17 = .ok (.iaload, 1) := by decide +kernel
theorem dX10_areApart_18 : decode cX10_areApart 18 = .ok (.invokevirtual 152, 3) := by decide +kernel
theorem dX10_areApart_21 : decode cX10_areApart 21 = .ok (.ifCond .ne 31, 3) := by decide +kernel
theorem dX10_areApart_24 : decode cX10_areApart 24 = .ok (.aload_n 0, 1) := by decide +kernel
theorem dX10_areApart_25 : decode cX10_areApart 25 = .ok (.iload_n 2, 1) := by decide +kernel
theorem dX10_areApart_26 : decode cX10_areApart 26 = .ok (.bipush 10, 2) := by decide +kernel
theorem dX10_areApart_28 : decode cX10_areApart 28 = .ok (.bipush 6, 2) := by decide +kernel
theorem dX10_areApart_30 : decode cX10_areApart 30 = .ok (.iload_n 1, 1) := by decide +kernel
theorem dX10_areApart_31 : decode cX10_areApart 31 = .ok (.imul, 1) := by decide +kernel
theorem dX10_areApart_32 : decode cX10_areApart 32 = .ok (.iadd, 1) := by decide +kernel
theorem dX10_areApart_33 : decode cX10_areApart 33 = .ok (.aload_n 0, 1) := by decide +kernel
theorem dX10_areApart_34 : decode cX10_areApart 34 = .ok (.getfield 9, 3) := by decide +kernel
theorem dX10_areApart_37 : decode cX10_areApart 37 = .ok (.bipush 58, 2) := by decide +kernel
theorem dX10_areApart_39 : decode cX10_areApart 39 = .ok (.iload_n 1, 1) := by decide +kernel
theorem dX10_areApart_40 : decode cX10_areApart 40 = .ok (.iadd, 1) := by decide +kernel
theorem dX10_areApart_41 : decode cX10_areApart 41 = .ok (.iaload, 1) := by decide +kernel
theorem dX10_areApart_42 : decode cX10_areApart 42 = .ok (.invokevirtual 152, 3) := by decide +kernel
theorem dX10_areApart_45 : decode cX10_areApart 45 = .ok (.ifCond .ne 7, 3) := by decide +kernel
theorem dX10_areApart_48 : decode cX10_areApart 48 = .ok (.iconst 1, 1) := by decide +kernel
theorem dX10_areApart_49 : decode cX10_areApart 49 = .ok (.goto 4, 3) := by decide +kernel
theorem dX10_areApart_52 : decode cX10_areApart 52 = .ok (.iconst 0, 1) := by decide +kernel
theorem dX10_areApart_53 : decode cX10_areApart 53 = .ok (.ireturn, 1) := by decide +kernel
theorem dX10_weightsFrom_0 : decode cX10_weightsFrom 0 = .ok (.lconst 1, 1) := by decide +kernel
theorem dX10_weightsFrom_1 : decode cX10_weightsFrom 1 = .ok (.lstore_n 3, 1) := by decide +kernel
theorem dX10_weightsFrom_2 : decode cX10_weightsFrom 2 = .ok (.iload_n 2, 1) := by decide +kernel
theorem dX10_weightsFrom_3 : decode cX10_weightsFrom 3 = .ok (.istore 5, 2) := by decide +kernel
theorem dX10_weightsFrom_5 : decode cX10_weightsFrom 5 = .ok (.iload 5, 2) := by decide +kernel
theorem dX10_weightsFrom_7 : decode cX10_weightsFrom 7 = .ok (.aload_n 0, 1) := by decide +kernel
theorem dX10_weightsFrom_8 : decode cX10_weightsFrom 8 = .ok (.getfield 9, 3) := by decide +kernel
theorem dX10_weightsFrom_11 : decode cX10_weightsFrom 11 = .ok (.bipush 58, 2) := by decide +kernel
theorem dX10_weightsFrom_13 : decode cX10_weightsFrom 13 = .ok (.iload_n 1, 1) := by decide +kernel
theorem dX10_weightsFrom_14 : decode cX10_weightsFrom 14 = .ok (.iadd, 1) := by decide +kernel
theorem dX10_weightsFrom_15 : decode cX10_weightsFrom 15 = .ok (.iaload, 1) := by decide +kernel
theorem dX10_weightsFrom_16 : decode cX10_weightsFrom 16 = .ok (.if_icmp .ge 33, 3) := by decide +kernel
theorem dX10_weightsFrom_19 : decode cX10_weightsFrom 19 = .ok (.lload_n 3, 1) := by decide +kernel
theorem dX10_weightsFrom_20 : decode cX10_weightsFrom 20 = .ok (.aload_n 0, 1) := by decide +kernel
theorem dX10_weightsFrom_21 : decode cX10_weightsFrom 21 = .ok (.getfield 25, 3) := by decide +kernel
theorem dX10_weightsFrom_24 : decode cX10_weightsFrom 24 = .ok (.aload_n 0, 1) := by decide +kernel
theorem dX10_weightsFrom_25 : decode cX10_weightsFrom 25 = .ok (.getfield 9, 3) := by decide +kernel
theorem dX10_weightsFrom_28 : decode cX10_weightsFrom 28 = .ok (.bipush 10, 2) := by decide +kernel
theorem dX10_weightsFrom_30 : decode cX10_weightsFrom 30 = .ok (.bipush 6, 2) := by decide +kernel
theorem dX10_weightsFrom_32 : decode cX10_weightsFrom 32 = .ok (.iload_n 1, 1) := by decide +kernel
theorem dX10_weightsFrom_33 : decode cX10_weightsFrom 33 = .ok (.imul, 1) := by decide +kernel
theorem dX10_weightsFrom_34 : decode cX10_weightsFrom 34 = .ok (.iadd, 1) := by decide +kernel
theorem dX10_weightsFrom_35 : decode cX10_weightsFrom 35 = .ok (.iload 5, 2) := by decide +kernel
theorem dX10_weightsFrom_37 : decode cX10_weightsFrom 37 = .ok (.iadd, 1) := by decide +kernel
theorem dX10_weightsFrom_38 : decode cX10_weightsFrom 38 = .ok (.iaload, 1) := by decide +kernel
theorem dX10_weightsFrom_39 : decode cX10_weightsFrom 39 = .ok (.iaload, 1) := by decide +kernel
theorem dX10_weightsFrom_40 : decode cX10_weightsFrom 40 = .ok (.i2l, 1) := by decide +kernel
theorem dX10_weightsFrom_41 : decode cX10_weightsFrom 41 = .ok (.lmul, 1) := by decide +kernel
theorem dX10_weightsFrom_42 : decode cX10_weightsFrom 42 = .ok (.lstore_n 3, 1) := by decide +kernel
theorem dX10_weightsFrom_43 : decode cX10_weightsFrom 43 = .ok (.iinc 5 1, 3) := by decide +kernel
theorem dX10_weightsFrom_46 : decode cX10_weightsFrom 46 = .ok (.goto (-41), 3) := by decide +kernel
theorem dX10_weightsFrom_49 : decode cX10_weightsFrom 49 = .ok (.lload_n 3, 1) := by decide +kernel
theorem dX10_weightsFrom_50 : decode cX10_weightsFrom 50 = .ok (.lreturn, 1) := by decide +kernel
theorem dX10_lap_0 : decode cX10_lap 0 = .ok (.lconst 0, 1) := by decide +kernel
theorem dX10_lap_1 : decode cX10_lap 1 = .ok (.lstore 4, 2) := by decide +kernel
theorem dX10_lap_3 : decode cX10_lap 3 = .ok (.lconst 1, 1) := by decide +kernel
theorem dX10_lap_4 : decode cX10_lap 4 = .ok (.lstore 6, 2) := by decide +kernel
theorem dX10_lap_6 : decode cX10_lap 6 = .ok (.iconst 1, 1) := by decide +kernel
theorem dX10_lap_7 : decode cX10_lap 7 = .ok (.istore 8, 2) := by decide +kernel
theorem dX10_lap_9 : decode cX10_lap 9 = .ok (.iload 8, 2) := by decide +kernel
theorem dX10_lap_11 : decode cX10_lap 11 = .ok (.aload_n 0, 1) := by decide +kernel
theorem dX10_lap_12 : decode cX10_lap 12 = .ok (.getfield 9, 3) := by decide +kernel
theorem dX10_lap_15 : decode cX10_lap 15 = .ok (.bipush 58, 2) := by decide +kernel
theorem dX10_lap_17 : decode cX10_lap 17 = .ok (.iload_n 3, 1) := by decide +kernel
theorem dX10_lap_18 : decode cX10_lap 18 = .ok (.iadd, 1) := by decide +kernel
theorem dX10_lap_19 : decode cX10_lap 19 = .ok (.iaload, 1) := by decide +kernel
theorem dX10_lap_20 : decode cX10_lap 20 = .ok (.if_icmp .gt 50, 3) := by decide +kernel
theorem dX10_lap_23 : decode cX10_lap 23 = .ok (.lload 6, 2) := by decide +kernel
theorem dX10_lap_25 : decode cX10_lap 25 = .ok (.aload_n 0, 1) := by decide +kernel
theorem dX10_lap_26 : decode cX10_lap 26 = .ok (.getfield 131, 3) := by decide +kernel
theorem dX10_lap_29 : decode cX10_lap 29 = .ok (.i2l, 1) := by decide +kernel
theorem dX10_lap_30 : decode cX10_lap 30 = .ok (.lmul, 1) := by decide +kernel
theorem dX10_lap_31 : decode cX10_lap 31 = .ok (.lstore 6, 2) := by decide +kernel
theorem dX10_lap_33 : decode cX10_lap 33 = .ok (.lload 4, 2) := by decide +kernel
theorem dX10_lap_35 : decode cX10_lap 35 = .ok (.aload_n 0, 1) := by decide +kernel
theorem dX10_lap_36 : decode cX10_lap 36 = .ok (.iload_n 1, 1) := by decide +kernel
theorem dX10_lap_37 : decode cX10_lap 37 = .ok (.iload_n 2, 1) := by decide +kernel
theorem dX10_lap_38 : decode cX10_lap 38 = .ok (.iload_n 3, 1) := by decide +kernel
theorem dX10_lap_39 : decode cX10_lap 39 = .ok (.iload 8, 2) := by decide +kernel
theorem dX10_lap_41 : decode cX10_lap 41 = .ok (.invokevirtual 148, 3) := by decide +kernel
theorem dX10_lap_44 : decode cX10_lap 44 = .ok (.ifCond .eq 16, 3) := by decide +kernel
theorem dX10_lap_47 : decode cX10_lap 47 = .ok (.lload 6, 2) := by decide +kernel
theorem dX10_lap_49 : decode cX10_lap 49 = .ok (.aload_n 0, 1) := by decide +kernel
theorem dX10_lap_50 : decode cX10_lap 50 = .ok (.iload_n 3, 1) := by decide +kernel
theorem dX10_lap_51 : decode cX10_lap 51 = .ok (.iload 8, 2) := by decide +kernel
theorem dX10_lap_53 : decode cX10_lap 53 = .ok (.invokevirtual 155, 3) := by decide +kernel
theorem dX10_lap_56 : decode cX10_lap 56 = .ok (.lmul, 1) := by decide +kernel
theorem dX10_lap_57 : decode cX10_lap 57 = .ok (.goto 4, 3) := by decide +kernel
theorem dX10_lap_60 : decode cX10_lap 60 = .ok (.lconst 0, 1) := by decide +kernel
theorem dX10_lap_61 : decode cX10_lap 61 = .ok (.ladd, 1) := by decide +kernel
theorem dX10_lap_62 : decode cX10_lap 62 = .ok (.lstore 4, 2) := by decide +kernel
theorem dX10_lap_64 : decode cX10_lap 64 = .ok (.iinc 8 1, 3) := by decide +kernel
theorem dX10_lap_67 : decode cX10_lap 67 = .ok (.goto (-58), 3) := by decide +kernel
theorem dX10_lap_70 : decode cX10_lap 70 = .ok (.lload 4, 2) := by decide +kernel
theorem dX10_lap_72 : decode cX10_lap 72 = .ok (.lreturn, 1) := by decide +kernel
theorem dX10_lapOf_0 : decode cX10_lapOf 0 = .ok (.aload_n 0, 1) := by decide +kernel
theorem dX10_lapOf_1 : decode cX10_lapOf 1 = .ok (.bipush 10, 2) := by decide +kernel
theorem dX10_lapOf_3 : decode cX10_lapOf 3 = .ok (.bipush 6, 2) := by decide +kernel
theorem dX10_lapOf_5 : decode cX10_lapOf 5 = .ok (.iload_n 1, 1) := by decide +kernel
theorem dX10_lapOf_6 : decode cX10_lapOf 6 = .ok (.imul, 1) := by decide +kernel
theorem dX10_lapOf_7 : decode cX10_lapOf 7 = .ok (.iadd, 1) := by decide +kernel
theorem dX10_lapOf_8 : decode cX10_lapOf 8 = .ok (.aload_n 0, 1) := by decide +kernel
theorem dX10_lapOf_9 : decode cX10_lapOf 9 = .ok (.getfield 9, 3) := by decide +kernel
theorem dX10_lapOf_12 : decode cX10_lapOf 12 = .ok (.bipush 58, 2) := by decide +kernel
theorem dX10_lapOf_14 : decode cX10_lapOf 14 = .ok (.iload_n 1, 1) := by decide +kernel
theorem dX10_lapOf_15 : decode cX10_lapOf 15 = .ok (.iadd, 1) := by decide +kernel
theorem dX10_lapOf_16 : decode cX10_lapOf 16 = .ok (.iaload, 1) := by decide +kernel
theorem dX10_lapOf_17 : decode cX10_lapOf 17 = .ok (.iload_n 2, 1) := by decide +kernel
theorem dX10_lapOf_18 : decode cX10_lapOf 18 = .ok (.invokevirtual 159, 3) := by decide +kernel
theorem dX10_lapOf_21 : decode cX10_lapOf 21 = .ok (.lreturn, 1) := by decide +kernel
theorem dX10_looksForOdds_0 : decode cX10_looksForOdds 0 = .ok (.aload_n 0, 1) := by decide +kernel
theorem dX10_looksForOdds_1 : decode cX10_looksForOdds 1 = .ok (.invokevirtual 138, 3) := by decide +kernel
theorem dX10_looksForOdds_4 : decode cX10_looksForOdds 4 = .ok (.aload_n 0, 1) := by decide +kernel
theorem dX10_looksForOdds_5 : decode cX10_looksForOdds 5 = .ok (.iload_n 1, 1) := by decide +kernel
theorem dX10_looksForOdds_6 : decode cX10_looksForOdds 6 = .ok (.iconst 0, 1) := by decide +kernel
theorem dX10_looksForOdds_7 : decode cX10_looksForOdds 7 = .ok (.invokevirtual 155, 3) := by decide +kernel
theorem dX10_looksForOdds_10 : decode cX10_looksForOdds 10 = .ok (.lstore_n 3, 1) := by decide +kernel
theorem dX10_looksForOdds_11 : decode cX10_looksForOdds 11 = .ok (.aload_n 0, 1) := by decide +kernel
theorem dX10_looksForOdds_12 : decode cX10_looksForOdds 12 = .ok (.iload_n 2, 1) := by decide +kernel
theorem dX10_looksForOdds_13 : decode cX10_looksForOdds 13 = .ok (.iconst 0, 1) := by decide +kernel
theorem dX10_looksForOdds_14 : decode cX10_looksForOdds 14 = .ok (.invokevirtual 155, 3) := by decide +kernel
theorem dX10_looksForOdds_17 : decode cX10_looksForOdds 17 = .ok (.lstore 5, 2) := by decide +kernel
theorem dX10_looksForOdds_19 : decode cX10_looksForOdds 19 = .ok (.aload_n 0, 1) := by decide +kernel
theorem dX10_looksForOdds_20 : decode cX10_looksForOdds 20 = .ok (.aload_n 0, 1) := by decide +kernel
theorem dX10_looksForOdds_21 : decode cX10_looksForOdds 21 = .ok (.iload_n 2, 1) := by decide +kernel
theorem dX10_looksForOdds_22 : decode cX10_looksForOdds 22 = .ok (.iload_n 2, 1) := by decide +kernel
theorem dX10_looksForOdds_23 : decode cX10_looksForOdds 23 = .ok (.invokevirtual 163, 3) := by decide +kernel
theorem dX10_looksForOdds_26 : decode cX10_looksForOdds 26 = .ok (.lload_n 3, 1) := by decide +kernel
theorem dX10_looksForOdds_27 : decode cX10_looksForOdds 27 = .ok (.lmul, 1) := by decide +kernel
theorem dX10_looksForOdds_28 : decode cX10_looksForOdds 28 = .ok (.aload_n 0, 1) := by decide +kernel
theorem dX10_looksForOdds_29 : decode cX10_looksForOdds 29 = .ok (.iload_n 2, 1) := by decide +kernel
theorem dX10_looksForOdds_30 : decode cX10_looksForOdds 30 = .ok (.iload_n 1, 1) := by decide +kernel
theorem dX10_looksForOdds_31 : decode cX10_looksForOdds 31 = .ok (.invokevirtual 163, 3) := by decide +kernel
theorem dX10_looksForOdds_34 : decode cX10_looksForOdds 34 = .ok (.lload 5, 2) := by decide +kernel
theorem dX10_looksForOdds_36 : decode cX10_looksForOdds 36 = .ok (.lmul, 1) := by decide +kernel
theorem dX10_looksForOdds_37 : decode cX10_looksForOdds 37 = .ok (.lsub, 1) := by decide +kernel
theorem dX10_looksForOdds_38 : decode cX10_looksForOdds 38 = .ok (.putfield 166, 3) := by decide +kernel
theorem dX10_looksForOdds_41 : decode cX10_looksForOdds 41 = .ok (.aload_n 0, 1) := by decide +kernel
theorem dX10_looksForOdds_42 : decode cX10_looksForOdds 42 = .ok (.aload_n 0, 1) := by decide +kernel
theorem dX10_looksForOdds_43 : decode cX10_looksForOdds 43 = .ok (.iload_n 1, 1) := by decide +kernel
theorem dX10_looksForOdds_44 : decode cX10_looksForOdds 44 = .ok (.iload_n 1, 1) := by decide +kernel
theorem dX10_looksForOdds_45 : decode cX10_looksForOdds 45 = .ok (.invokevirtual 163, 3) := by decide +kernel
theorem dX10_looksForOdds_48 : decode cX10_looksForOdds 48 = .ok (.lload 5, 2) := by decide +kernel
theorem dX10_looksForOdds_50 : decode cX10_looksForOdds 50 = .ok (.lmul, 1) := by decide +kernel
theorem dX10_looksForOdds_51 : decode cX10_looksForOdds 51 = .ok (.aload_n 0, 1) := by decide +kernel
theorem dX10_looksForOdds_52 : decode cX10_looksForOdds 52 = .ok (.iload_n 1, 1) := by decide +kernel
theorem dX10_looksForOdds_53 : decode cX10_looksForOdds 53 = .ok (.iload_n 2, 1) := by decide +kernel
theorem dX10_looksForOdds_54 : decode cX10_looksForOdds 54 = .ok (.invokevirtual 163, 3) := by decide +kernel
theorem dX10_looksForOdds_57 : decode cX10_looksForOdds 57 = .ok (.lload_n 3, 1) := by decide +kernel
theorem dX10_looksForOdds_58 : decode cX10_looksForOdds 58 = .ok (.lmul, 1) := by decide +kernel
theorem dX10_looksForOdds_59 : decode cX10_looksForOdds 59 = .ok (.lsub, 1) := by decide +kernel
theorem dX10_looksForOdds_60 : decode cX10_looksForOdds 60 = .ok (.putfield 170, 3) := by decide +kernel
theorem dX10_looksForOdds_63 : decode cX10_looksForOdds 63 = .ok (.return_, 1) := by decide +kernel
theorem dX10_divisor_0 : decode cX10_divisor 0 = .ok (.lload_n 0, 1) := by decide +kernel
theorem dX10_divisor_1 : decode cX10_divisor 1 = .ok (.lconst 0, 1) := by decide +kernel
theorem dX10_divisor_2 : decode cX10_divisor 2 = .ok (.lcmp, 1) := by decide +kernel
theorem dX10_divisor_3 : decode cX10_divisor 3 = .ok (.ifCond .ge 8, 3) := by decide +kernel
theorem dX10_divisor_6 : decode cX10_divisor 6 = .ok (.lload_n 0, 1) := by decide +kernel
theorem dX10_divisor_7 : decode cX10_divisor 7 = .ok (.lneg, 1) := by decide +kernel
theorem dX10_divisor_8 : decode cX10_divisor 8 = .ok (.goto 4, 3) := by decide +kernel
theorem dX10_divisor_11 : decode cX10_divisor 11 = .ok (.lload_n 0, 1) := by decide +kernel
theorem dX10_divisor_12 : decode cX10_divisor 12 = .ok (.lstore 4, 2) := by decide +kernel
theorem dX10_divisor_14 : decode cX10_divisor 14 = .ok (.lload_n 2, 1) := by decide +kernel
theorem dX10_divisor_15 : decode cX10_divisor 15 = .ok (.lstore 6, 2) := by decide +kernel
theorem dX10_divisor_17 : decode cX10_divisor 17 = .ok (.lload 6, 2) := by decide +kernel
theorem dX10_divisor_19 : decode cX10_divisor 19 = .ok (.lconst 0, 1) := by decide +kernel
theorem dX10_divisor_20 : decode cX10_divisor 20 = .ok (.lcmp, 1) := by decide +kernel
theorem dX10_divisor_21 : decode cX10_divisor 21 = .ok (.ifCond .eq 21, 3) := by decide +kernel
theorem dX10_divisor_24 : decode cX10_divisor 24 = .ok (.lload 4, 2) := by decide +kernel
theorem dX10_divisor_26 : decode cX10_divisor 26 = .ok (.lload 6, 2) := by decide +kernel
theorem dX10_divisor_28 : decode cX10_divisor 28 = .ok (.lrem, 1) := by decide +kernel
theorem dX10_divisor_29 : decode cX10_divisor 29 = .ok (.lstore 8, 2) := by decide +kernel
theorem dX10_divisor_31 : decode cX10_divisor 31 = .ok (.lload 6, 2) := by decide +kernel
theorem dX10_divisor_33 : decode cX10_divisor 33 = .ok (.lstore 4, 2) := by decide +kernel
theorem dX10_divisor_35 : decode cX10_divisor 35 = .ok (.lload 8, 2) := by decide +kernel
theorem dX10_divisor_37 : decode cX10_divisor 37 = .ok (.lstore 6, 2) := by decide +kernel
theorem dX10_divisor_39 : decode cX10_divisor 39 = .ok (.goto (-22), 3) := by decide +kernel
theorem dX10_divisor_42 : decode cX10_divisor 42 = .ok (.lload 4, 2) := by decide +kernel
theorem dX10_divisor_44 : decode cX10_divisor 44 = .ok (.lreturn, 1) := by decide +kernel
theorem dX10_lowest_0 : decode cX10_lowest 0 = .ok (.iload 4, 2) := by decide +kernel
theorem dX10_lowest_2 : decode cX10_lowest 2 = .ok (.ifCond .ne 7, 3) := by decide +kernel
theorem dX10_lowest_5 : decode cX10_lowest 5 = .ok (.lload_n 0, 1) := by decide +kernel
theorem dX10_lowest_6 : decode cX10_lowest 6 = .ok (.goto 4, 3) := by decide +kernel
theorem dX10_lowest_9 : decode cX10_lowest 9 = .ok (.lload_n 2, 1) := by decide +kernel
theorem dX10_lowest_10 : decode cX10_lowest 10 = .ok (.lload_n 0, 1) := by decide +kernel
theorem dX10_lowest_11 : decode cX10_lowest 11 = .ok (.lload_n 2, 1) := by decide +kernel
theorem dX10_lowest_12 : decode cX10_lowest 12 = .ok (.invokestatic 173, 3) := by decide +kernel
theorem dX10_lowest_15 : decode cX10_lowest 15 = .ok (.ldiv, 1) := by decide +kernel
theorem dX10_lowest_16 : decode cX10_lowest 16 = .ok (.lreturn, 1) := by decide +kernel
theorem dX10_canMeet_0 : decode cX10_canMeet 0 = .ok (.aload_n 0, 1) := by decide +kernel
theorem dX10_canMeet_1 : decode cX10_canMeet 1 = .ok (.iload_n 1, 1) := by decide +kernel
theorem dX10_canMeet_2 : decode cX10_canMeet 2 = .ok (.invokevirtual 141, 3) := by decide +kernel
theorem dX10_canMeet_5 : decode cX10_canMeet 5 = .ok (.ifCond .eq 40, 3) := by decide +kernel
theorem dX10_canMeet_8 : decode cX10_canMeet 8 = .ok (.aload_n 0, 1) := by decide +kernel
theorem dX10_canMeet_9 : decode cX10_canMeet 9 = .ok (.iload_n 2, 1) := by decide +kernel
theorem dX10_canMeet_10 : decode cX10_canMeet 10 = .ok (.invokevirtual 141, 3) := by decide +kernel
theorem dX10_canMeet_13 : decode cX10_canMeet 13 = .ok (.ifCond .eq 32, 3) := by decide +kernel
theorem dX10_canMeet_16 : decode cX10_canMeet 16 = .ok (.aload_n 0, 1) := by decide +kernel
theorem dX10_canMeet_17 : decode cX10_canMeet 17 = .ok (.iload_n 1, 1) := by decide +kernel
theorem dX10_canMeet_18 : decode cX10_canMeet 18 = .ok (.invokevirtual 177, 3) := by decide +kernel
theorem dX10_canMeet_21 : decode cX10_canMeet 21 = .ok (.ifCond .eq 24, 3) := by decide +kernel
theorem dX10_canMeet_24 : decode cX10_canMeet 24 = .ok (.aload_n 0, 1) := by decide +kernel
theorem dX10_canMeet_25 : decode cX10_canMeet 25 = .ok (.iload_n 2, 1) := by decide +kernel
theorem dX10_canMeet_26 : decode cX10_canMeet 26 = .ok (.invokevirtual 177, 3) := by decide +kernel
theorem dX10_canMeet_29 : decode cX10_canMeet 29 = .ok (.ifCond .eq 16, 3) := by decide +kernel
theorem dX10_canMeet_32 : decode cX10_canMeet 32 = .ok (.aload_n 0, 1) := by decide +kernel
theorem dX10_canMeet_33 : decode cX10_canMeet 33 = .ok (.iload_n 1, 1) := by decide +kernel
theorem dX10_canMeet_34 : decode cX10_canMeet 34 = .ok (.iload_n 2, 1) := by decide +kernel
theorem dX10_canMeet_35 : decode cX10_canMeet 35 = .ok (.invokevirtual 180, 3) := by decide +kernel
theorem dX10_canMeet_38 : decode cX10_canMeet 38 = .ok (.ifCond .eq 7, 3) := by decide +kernel
theorem dX10_canMeet_41 : decode cX10_canMeet 41 = .ok (.iconst 1, 1) := by decide +kernel
theorem dX10_canMeet_42 : decode cX10_canMeet 42 = .ok (.goto 4, 3) := by decide +kernel
theorem dX10_canMeet_45 : decode cX10_canMeet 45 = .ok (.iconst 0, 1) := by decide +kernel
theorem dX10_canMeet_46 : decode cX10_canMeet 46 = .ok (.ireturn, 1) := by decide +kernel
theorem dX10_waits_0 : decode cX10_waits 0 = .ok (.aload_n 0, 1) := by decide +kernel
theorem dX10_waits_1 : decode cX10_waits 1 = .ok (.iload_n 1, 1) := by decide +kernel
theorem dX10_waits_2 : decode cX10_waits 2 = .ok (.invokevirtual 141, 3) := by decide +kernel
theorem dX10_waits_5 : decode cX10_waits 5 = .ok (.ifCond .eq 20, 3) := by decide +kernel
theorem dX10_waits_8 : decode cX10_waits 8 = .ok (.aload_n 0, 1) := by decide +kernel
theorem dX10_waits_9 : decode cX10_waits 9 = .ok (.iload_n 1, 1) := by decide +kernel
theorem dX10_waits_10 : decode cX10_waits 10 = .ok (.invokevirtual 177, 3) := by decide +kernel
theorem dX10_waits_13 : decode cX10_waits 13 = .ok (.ifCond .eq 12, 3) := by decide +kernel
theorem dX10_waits_16 : decode cX10_waits 16 = .ok (.iload_n 2, 1) := by decide +kernel
theorem dX10_waits_17 : decode cX10_waits 17 = .ok (.iconst 0, 1) := by decide +kernel
theorem dX10_waits_18 : decode cX10_waits 18 = .ok (.iconst 1, 1) := by decide +kernel
theorem dX10_waits_19 : decode cX10_waits 19 = .ok (.invokestatic 45, 3) := by decide +kernel
theorem dX10_waits_22 : decode cX10_waits 22 = .ok (.ifCond .ne 7, 3) := by decide +kernel
theorem dX10_waits_25 : decode cX10_waits 25 = .ok (.ldc2_w 184, 3) := by decide +kernel
theorem dX10_waits_28 : decode cX10_waits 28 = .ok (.lreturn, 1) := by decide +kernel
theorem dX10_waits_29 : decode cX10_waits 29 = .ok (.aload_n 0, 1) := by decide +kernel
theorem dX10_waits_30 : decode cX10_waits 30 = .ok (.invokevirtual 138, 3) := by decide +kernel
theorem dX10_waits_33 : decode cX10_waits 33 = .ok (.aload_n 0, 1) := by decide +kernel
theorem dX10_waits_34 : decode cX10_waits 34 = .ok (.iload_n 1, 1) := by decide +kernel
theorem dX10_waits_35 : decode cX10_waits 35 = .ok (.iload_n 1, 1) := by decide +kernel
theorem dX10_waits_36 : decode cX10_waits 36 = .ok (.invokevirtual 163, 3) := by decide +kernel
theorem dX10_waits_39 : decode cX10_waits 39 = .ok (.aload_n 0, 1) := by decide +kernel
theorem dX10_waits_40 : decode cX10_waits 40 = .ok (.iload_n 1, 1) := by decide +kernel
theorem dX10_waits_41 : decode cX10_waits 41 = .ok (.iconst 0, 1) := by decide +kernel
theorem dX10_waits_42 : decode cX10_waits 42 = .ok (.invokevirtual 155, 3) := by decide +kernel
theorem dX10_waits_45 : decode cX10_waits 45 = .ok (.iload_n 2, 1) := by decide +kernel
theorem dX10_waits_46 : decode cX10_waits 46 = .ok (.invokestatic 186, 3) := by decide +kernel
theorem dX10_waits_49 : decode cX10_waits 49 = .ok (.lreturn, 1) := by decide +kernel
theorem dX10_odds_0 : decode cX10_odds 0 = .ok (.aload_n 0, 1) := by decide +kernel
theorem dX10_odds_1 : decode cX10_odds 1 = .ok (.iload_n 1, 1) := by decide +kernel
theorem dX10_odds_2 : decode cX10_odds 2 = .ok (.iload_n 2, 1) := by decide +kernel
theorem dX10_odds_3 : decode cX10_odds 3 = .ok (.invokevirtual 190, 3) := by decide +kernel
theorem dX10_odds_6 : decode cX10_odds 6 = .ok (.ifCond .eq 12, 3) := by decide +kernel
theorem dX10_odds_9 : decode cX10_odds 9 = .ok (.iload_n 3, 1) := by decide +kernel
theorem dX10_odds_10 : decode cX10_odds 10 = .ok (.iconst 0, 1) := by decide +kernel
theorem dX10_odds_11 : decode cX10_odds 11 = .ok (.iconst 1, 1) := by decide +kernel
theorem dX10_odds_12 : decode cX10_odds 12 = .ok (.invokestatic 45, 3) := by decide +kernel
theorem dX10_odds_15 : decode cX10_odds 15 = .ok (.ifCond .ne 7, 3) := by decide +kernel
theorem dX10_odds_18 : decode cX10_odds 18 = .ok (.ldc2_w 184, 3) := by decide +kernel
theorem dX10_odds_21 : decode cX10_odds 21 = .ok (.lreturn, 1) := by decide +kernel
theorem dX10_odds_22 : decode cX10_odds 22 = .ok (.aload_n 0, 1) := by decide +kernel
theorem dX10_odds_23 : decode cX10_odds 23 = .ok (.iload_n 1, 1) := by decide +kernel
theorem dX10_odds_24 : decode cX10_odds 24 = .ok (.iload_n 2, 1) := by decide +kernel
theorem dX10_odds_25 : decode cX10_odds 25 = .ok (.invokevirtual 193, 3) := by decide +kernel
theorem dX10_odds_28 : decode cX10_odds 28 = .ok (.aload_n 0, 1) := by decide +kernel
theorem dX10_odds_29 : decode cX10_odds 29 = .ok (.getfield 166, 3) := by decide +kernel
theorem dX10_odds_32 : decode cX10_odds 32 = .ok (.aload_n 0, 1) := by decide +kernel
theorem dX10_odds_33 : decode cX10_odds 33 = .ok (.getfield 166, 3) := by decide +kernel
theorem dX10_odds_36 : decode cX10_odds 36 = .ok (.aload_n 0, 1) := by decide +kernel
theorem dX10_odds_37 : decode cX10_odds 37 = .ok (.getfield 170, 3) := by decide +kernel
theorem dX10_odds_40 : decode cX10_odds 40 = .ok (.ladd, 1) := by decide +kernel
theorem dX10_odds_41 : decode cX10_odds 41 = .ok (.iload_n 3, 1) := by decide +kernel
theorem dX10_odds_42 : decode cX10_odds 42 = .ok (.invokestatic 186, 3) := by decide +kernel
theorem dX10_odds_45 : decode cX10_odds 45 = .ok (.lreturn, 1) := by decide +kernel
theorem dX10_lastsAbove_0 : decode cX10_lastsAbove 0 = .ok (.aload_n 0, 1) := by decide +kernel
theorem dX10_lastsAbove_1 : decode cX10_lastsAbove 1 = .ok (.iload_n 1, 1) := by decide +kernel
theorem dX10_lastsAbove_2 : decode cX10_lastsAbove 2 = .ok (.iload_n 2, 1) := by decide +kernel
theorem dX10_lastsAbove_3 : decode cX10_lastsAbove 3 = .ok (.invokevirtual 193, 3) := by decide +kernel
theorem dX10_lastsAbove_6 : decode cX10_lastsAbove 6 = .ok (.aload_n 0, 1) := by decide +kernel
theorem dX10_lastsAbove_7 : decode cX10_lastsAbove 7 = .ok (.getfield 166, 3) := by decide +kernel
theorem dX10_lastsAbove_10 : decode cX10_lastsAbove 10 = .ok (.aload_n 0, 1) := by decide +kernel
theorem dX10_lastsAbove_11 : decode cX10_lastsAbove 11 = .ok (.getfield 166, 3) := by decide +kernel
theorem dX10_lastsAbove_14 : decode cX10_lastsAbove 14 = .ok (.aload_n 0, 1) := by decide +kernel
theorem dX10_lastsAbove_15 : decode cX10_lastsAbove 15 = .ok (.getfield 170, 3) := by decide +kernel
theorem dX10_lastsAbove_18 : decode cX10_lastsAbove 18 = .ok (.ladd, 1) := by decide +kernel
theorem dX10_lastsAbove_19 : decode cX10_lastsAbove 19 = .ok (.invokestatic 173, 3) := by decide +kernel
theorem dX10_lastsAbove_22 : decode cX10_lastsAbove 22 = .ok (.lstore_n 3, 1) := by decide +kernel
theorem dX10_lastsAbove_23 : decode cX10_lastsAbove 23 = .ok (.aload_n 0, 1) := by decide +kernel
theorem dX10_lastsAbove_24 : decode cX10_lastsAbove 24 = .ok (.dup, 1) := by decide +kernel
theorem dX10_lastsAbove_25 : decode cX10_lastsAbove 25 = .ok (.getfield 166, 3) := by decide +kernel
theorem dX10_lastsAbove_28 : decode cX10_lastsAbove 28 = .ok (.lload_n 3, 1) := by decide +kernel
theorem dX10_lastsAbove_29 : decode cX10_lastsAbove 29 = .ok (.ldiv, 1) := by decide +kernel
theorem dX10_lastsAbove_30 : decode cX10_lastsAbove 30 = .ok (.putfield 166, 3) := by decide +kernel
theorem dX10_lastsAbove_33 : decode cX10_lastsAbove 33 = .ok (.aload_n 0, 1) := by decide +kernel
theorem dX10_lastsAbove_34 : decode cX10_lastsAbove 34 = .ok (.dup, 1) := by decide +kernel
theorem dX10_lastsAbove_35 : decode cX10_lastsAbove 35 = .ok (.getfield 170, 3) := by decide +kernel
theorem dX10_lastsAbove_38 : decode cX10_lastsAbove 38 = .ok (.lload_n 3, 1) := by decide +kernel
theorem dX10_lastsAbove_39 : decode cX10_lastsAbove 39 = .ok (.ldiv, 1) := by decide +kernel
theorem dX10_lastsAbove_40 : decode cX10_lastsAbove 40 = .ok (.putfield 170, 3) := by decide +kernel
theorem dX10_lastsAbove_43 : decode cX10_lastsAbove 43 = .ok (.aload_n 0, 1) := by decide +kernel
theorem dX10_lastsAbove_44 : decode cX10_lastsAbove 44 = .ok (.iload_n 2, 1) := by decide +kernel
theorem dX10_lastsAbove_45 : decode cX10_lastsAbove 45 = .ok (.iload_n 1, 1) := by decide +kernel
theorem dX10_lastsAbove_46 : decode cX10_lastsAbove 46 = .ok (.invokevirtual 163, 3) := by decide +kernel
theorem dX10_lastsAbove_49 : decode cX10_lastsAbove 49 = .ok (.lstore 5, 2) := by decide +kernel
theorem dX10_lastsAbove_51 : decode cX10_lastsAbove 51 = .ok (.aload_n 0, 1) := by decide +kernel
theorem dX10_lastsAbove_52 : decode cX10_lastsAbove 52 = .ok (.getfield 166, 3) := by decide +kernel
theorem dX10_lastsAbove_55 : decode cX10_lastsAbove 55 = .ok (.aload_n 0, 1) := by decide +kernel
theorem dX10_lastsAbove_56 : decode cX10_lastsAbove 56 = .ok (.iload_n 1, 1) := by decide +kernel
theorem dX10_lastsAbove_57 : decode cX10_lastsAbove 57 = .ok (.iload_n 1, 1) := by decide +kernel
theorem dX10_lastsAbove_58 : decode cX10_lastsAbove 58 = .ok (.invokevirtual 163, 3) := by decide +kernel
theorem dX10_lastsAbove_61 : decode cX10_lastsAbove 61 = .ok (.lload 5, 2) := by decide +kernel
theorem dX10_lastsAbove_63 : decode cX10_lastsAbove 63 = .ok (.lsub, 1) := by decide +kernel
theorem dX10_lastsAbove_64 : decode cX10_lastsAbove 64 = .ok (.lmul, 1) := by decide +kernel
theorem dX10_lastsAbove_65 : decode cX10_lastsAbove 65 = .ok (.lload 5, 2) := by decide +kernel
theorem dX10_lastsAbove_67 : decode cX10_lastsAbove 67 = .ok (.aload_n 0, 1) := by decide +kernel
theorem dX10_lastsAbove_68 : decode cX10_lastsAbove 68 = .ok (.getfield 166, 3) := by decide +kernel
theorem dX10_lastsAbove_71 : decode cX10_lastsAbove 71 = .ok (.aload_n 0, 1) := by decide +kernel
theorem dX10_lastsAbove_72 : decode cX10_lastsAbove 72 = .ok (.getfield 170, 3) := by decide +kernel
theorem dX10_lastsAbove_75 : decode cX10_lastsAbove 75 = .ok (.ladd, 1) := by decide +kernel
theorem dX10_lastsAbove_76 : decode cX10_lastsAbove 76 = .ok (.lmul, 1) := by decide +kernel
theorem dX10_lastsAbove_77 : decode cX10_lastsAbove 77 = .ok (.ladd, 1) := by decide +kernel
theorem dX10_lastsAbove_78 : decode cX10_lastsAbove 78 = .ok (.lreturn, 1) := by decide +kernel
theorem dX10_lasts_0 : decode cX10_lasts 0 = .ok (.aload_n 0, 1) := by decide +kernel
theorem dX10_lasts_1 : decode cX10_lasts 1 = .ok (.iload_n 1, 1) := by decide +kernel
theorem dX10_lasts_2 : decode cX10_lasts 2 = .ok (.iload_n 2, 1) := by decide +kernel
theorem dX10_lasts_3 : decode cX10_lasts 3 = .ok (.invokevirtual 190, 3) := by decide +kernel
theorem dX10_lasts_6 : decode cX10_lasts 6 = .ok (.ifCond .eq 12, 3) := by decide +kernel
theorem dX10_lasts_9 : decode cX10_lasts 9 = .ok (.iload_n 3, 1) := by decide +kernel
theorem dX10_lasts_10 : decode cX10_lasts 10 = .ok (.iconst 0, 1) := by decide +kernel
theorem dX10_lasts_11 : decode cX10_lasts 11 = .ok (.iconst 1, 1) := by decide +kernel
theorem dX10_lasts_12 : decode cX10_lasts 12 = .ok (.invokestatic 45, 3) := by decide +kernel
theorem dX10_lasts_15 : decode cX10_lasts 15 = .ok (.ifCond .ne 7, 3) := by decide +kernel
theorem dX10_lasts_18 : decode cX10_lasts 18 = .ok (.ldc2_w 184, 3) := by decide +kernel
theorem dX10_lasts_21 : decode cX10_lasts 21 = .ok (.lreturn, 1) := by decide +kernel
theorem dX10_lasts_22 : decode cX10_lasts 22 = .ok (.aload_n 0, 1) := by decide +kernel
theorem dX10_lasts_23 : decode cX10_lasts 23 = .ok (.iload_n 1, 1) := by decide +kernel
theorem dX10_lasts_24 : decode cX10_lasts 24 = .ok (.iload_n 2, 1) := by decide +kernel
theorem dX10_lasts_25 : decode cX10_lasts 25 = .ok (.invokevirtual 197, 3) := by decide +kernel
theorem dX10_lasts_28 : decode cX10_lasts 28 = .ok (.lstore 4, 2) := by decide +kernel
theorem dX10_lasts_30 : decode cX10_lasts 30 = .ok (.lload 4, 2) := by decide +kernel
theorem dX10_lasts_32 : decode cX10_lasts 32 = .ok (.aload_n 0, 1) := by decide +kernel
theorem dX10_lasts_33 : decode cX10_lasts 33 = .ok (.getfield 166, 3) := by decide +kernel
theorem dX10_lasts_36 : decode cX10_lasts 36 = .ok (.aload_n 0, 1) := by decide +kernel
theorem dX10_lasts_37 : decode cX10_lasts 37 = .ok (.getfield 170, 3) := by decide +kernel
theorem dX10_lasts_40 : decode cX10_lasts 40 = .ok (.ladd, 1) := by decide +kernel
theorem dX10_lasts_41 : decode cX10_lasts 41 = .ok (.aload_n 0, 1) := by decide +kernel
theorem dX10_lasts_42 : decode cX10_lasts 42 = .ok (.iload_n 1, 1) := by decide +kernel
theorem dX10_lasts_43 : decode cX10_lasts 43 = .ok (.iconst 0, 1) := by decide +kernel
theorem dX10_lasts_44 : decode cX10_lasts 44 = .ok (.invokevirtual 155, 3) := by decide +kernel
theorem dX10_lasts_47 : decode cX10_lasts 47 = .ok (.lmul, 1) := by decide +kernel
theorem dX10_lasts_48 : decode cX10_lasts 48 = .ok (.iload_n 3, 1) := by decide +kernel
theorem dX10_lasts_49 : decode cX10_lasts 49 = .ok (.invokestatic 186, 3) := by decide +kernel
theorem dX10_lasts_52 : decode cX10_lasts 52 = .ok (.lreturn, 1) := by decide +kernel
theorem dX10_worth_0 : decode cX10_worth 0 = .ok (.aload_n 0, 1) := by decide +kernel
theorem dX10_worth_1 : decode cX10_worth 1 = .ok (.iload_n 1, 1) := by decide +kernel
theorem dX10_worth_2 : decode cX10_worth 2 = .ok (.iload_n 2, 1) := by decide +kernel
theorem dX10_worth_3 : decode cX10_worth 3 = .ok (.invokevirtual 190, 3) := by decide +kernel
theorem dX10_worth_6 : decode cX10_worth 6 = .ok (.ifCond .eq 12, 3) := by decide +kernel
theorem dX10_worth_9 : decode cX10_worth 9 = .ok (.iload_n 3, 1) := by decide +kernel
theorem dX10_worth_10 : decode cX10_worth 10 = .ok (.iconst 0, 1) := by decide +kernel
theorem dX10_worth_11 : decode cX10_worth 11 = .ok (.iconst 1, 1) := by decide +kernel
theorem dX10_worth_12 : decode cX10_worth 12 = .ok (.invokestatic 45, 3) := by decide +kernel
theorem dX10_worth_15 : decode cX10_worth 15 = .ok (.ifCond .ne 7, 3) := by decide +kernel
theorem dX10_worth_18 : decode cX10_worth 18 = .ok (.ldc2_w 184, 3) := by decide +kernel
theorem dX10_worth_21 : decode cX10_worth 21 = .ok (.lreturn, 1) := by decide +kernel
theorem dX10_worth_22 : decode cX10_worth 22 = .ok (.aload_n 0, 1) := by decide +kernel
theorem dX10_worth_23 : decode cX10_worth 23 = .ok (.iload_n 1, 1) := by decide +kernel
theorem dX10_worth_24 : decode cX10_worth 24 = .ok (.iload_n 2, 1) := by decide +kernel
theorem dX10_worth_25 : decode cX10_worth 25 = .ok (.invokevirtual 197, 3) := by decide +kernel
theorem dX10_worth_28 : decode cX10_worth 28 = .ok (.lstore 4, 2) := by decide +kernel
theorem dX10_worth_30 : decode cX10_worth 30 = .ok (.aload_n 0, 1) := by decide +kernel
theorem dX10_worth_31 : decode cX10_worth 31 = .ok (.iload_n 1, 1) := by decide +kernel
theorem dX10_worth_32 : decode cX10_worth 32 = .ok (.iconst 0, 1) := by decide +kernel
theorem dX10_worth_33 : decode cX10_worth 33 = .ok (.invokevirtual 155, 3) := by decide +kernel
theorem dX10_worth_36 : decode cX10_worth 36 = .ok (.lstore 6, 2) := by decide +kernel
theorem dX10_worth_38 : decode cX10_worth 38 = .ok (.aload_n 0, 1) := by decide +kernel
theorem dX10_worth_39 : decode cX10_worth 39 = .ok (.sipush 242, 3) := by decide +kernel
theorem dX10_worth_42 : decode cX10_worth 42 = .ok (.bipush 10, 2) := by decide +kernel
theorem dX10_worth_44 : decode cX10_worth 44 = .ok (.invokevirtual 124, 3) := by decide +kernel
theorem dX10_worth_47 : decode cX10_worth 47 = .ok (.i2l, 1) := by decide +kernel
theorem dX10_worth_48 : decode cX10_worth 48 = .ok (.aload_n 0, 1) := by decide +kernel
theorem dX10_worth_49 : decode cX10_worth 49 = .ok (.getfield 166, 3) := by decide +kernel
theorem dX10_worth_52 : decode cX10_worth 52 = .ok (.lmul, 1) := by decide +kernel
theorem dX10_worth_53 : decode cX10_worth 53 = .ok (.lload 6, 2) := by decide +kernel
theorem dX10_worth_55 : decode cX10_worth 55 = .ok (.lmul, 1) := by decide +kernel
theorem dX10_worth_56 : decode cX10_worth 56 = .ok (.aload_n 0, 1) := by decide +kernel
theorem dX10_worth_57 : decode cX10_worth 57 = .ok (.sipush 237, 3) := by decide +kernel
theorem dX10_worth_60 : decode cX10_worth 60 = .ok (.iconst 1, 1) := by decide +kernel
theorem dX10_worth_61 : decode cX10_worth 61 = .ok (.invokevirtual 124, 3) := by decide +kernel
theorem dX10_worth_64 : decode cX10_worth 64 = .ok (.i2l, 1) := by decide +kernel
theorem dX10_worth_65 : decode cX10_worth 65 = .ok (.lload 4, 2) := by decide +kernel
theorem dX10_worth_67 : decode cX10_worth 67 = .ok (.lmul, 1) := by decide +kernel
theorem dX10_worth_68 : decode cX10_worth 68 = .ok (.lsub, 1) := by decide +kernel
theorem dX10_worth_69 : decode cX10_worth 69 = .ok (.aload_n 0, 1) := by decide +kernel
theorem dX10_worth_70 : decode cX10_worth 70 = .ok (.getfield 166, 3) := by decide +kernel
theorem dX10_worth_73 : decode cX10_worth 73 = .ok (.aload_n 0, 1) := by decide +kernel
theorem dX10_worth_74 : decode cX10_worth 74 = .ok (.getfield 170, 3) := by decide +kernel
theorem dX10_worth_77 : decode cX10_worth 77 = .ok (.ladd, 1) := by decide +kernel
theorem dX10_worth_78 : decode cX10_worth 78 = .ok (.lload 6, 2) := by decide +kernel
theorem dX10_worth_80 : decode cX10_worth 80 = .ok (.lmul, 1) := by decide +kernel
theorem dX10_worth_81 : decode cX10_worth 81 = .ok (.iload_n 3, 1) := by decide +kernel
theorem dX10_worth_82 : decode cX10_worth 82 = .ok (.invokestatic 186, 3) := by decide +kernel
theorem dX10_worth_85 : decode cX10_worth 85 = .ok (.lreturn, 1) := by decide +kernel
theorem dX10_areSigns_0 : decode cX10_areSigns 0 = .ok (.iconst 1, 1) := by decide +kernel
theorem dX10_areSigns_1 : decode cX10_areSigns 1 = .ok (.istore_n 1, 1) := by decide +kernel
theorem dX10_areSigns_2 : decode cX10_areSigns 2 = .ok (.iconst 0, 1) := by decide +kernel
theorem dX10_areSigns_3 : decode cX10_areSigns 3 = .ok (.istore_n 2, 1) := by decide +kernel
theorem dX10_areSigns_4 : decode cX10_areSigns 4 = .ok (.iload_n 2, 1) := by decide +kernel
theorem dX10_areSigns_5 : decode cX10_areSigns 5 = .ok (.aload_n 0, 1) := by decide +kernel
theorem dX10_areSigns_6 : decode cX10_areSigns 6 = .ok (.getfield 9, 3) := by decide +kernel
theorem dX10_areSigns_9 : decode cX10_areSigns 9 = .ok (.iconst 4, 1) := by decide +kernel
theorem dX10_areSigns_10 : decode cX10_areSigns 10 = .ok (.iaload, 1) := by decide +kernel
theorem dX10_areSigns_11 : decode cX10_areSigns 11 = .ok (.if_icmp .ge 35, 3) := by decide +kernel
theorem dX10_areSigns_14 : decode cX10_areSigns 14 = .ok (.iload_n 1, 1) := by decide +kernel
theorem dX10_areSigns_15 : decode cX10_areSigns 15 = .ok (.ifCond .eq 23, 3) := by decide +kernel
theorem dX10_areSigns_18 : decode cX10_areSigns 18 = .ok (.aload_n 0, 1) := by decide +kernel
theorem dX10_areSigns_19 : decode cX10_areSigns 19 = .ok (.getfield 9, 3) := by decide +kernel
theorem dX10_areSigns_22 : decode cX10_areSigns 22 = .ok (.bipush 72, 2) := by decide +kernel
theorem dX10_areSigns_24 : decode cX10_areSigns 24 = .ok (.iload_n 2, 1) := by decide +kernel
theorem dX10_areSigns_25 : decode cX10_areSigns 25 = .ok (.iadd, 1) := by decide +kernel
theorem dX10_areSigns_26 : decode cX10_areSigns 26 = .ok (.iaload, 1) := by decide +kernel
theorem dX10_areSigns_27 : decode cX10_areSigns 27 = .ok (.aload_n 0, 1) := by decide +kernel
theorem dX10_areSigns_28 : decode cX10_areSigns 28 = .ok (.invokevirtual 128, 3) := by decide +kernel
theorem dX10_areSigns_31 : decode cX10_areSigns 31 = .ok (.if_icmp .ge 7, 3) := by decide +kernel
theorem dX10_areSigns_34 : decode cX10_areSigns 34 = .ok (.iconst 1, 1) := by decide +kernel
theorem dX10_areSigns_35 : decode cX10_areSigns 35 = .ok (.goto 4, 3) := by decide +kernel
theorem dX10_areSigns_38 : decode cX10_areSigns 38 = .ok (.iconst 0, 1) := by decide +kernel
theorem dX10_areSigns_39 : decode cX10_areSigns 39 = .ok (.istore_n 1, 1) := by decide +kernel
theorem dX10_areSigns_40 : decode cX10_areSigns 40 = .ok (.iinc 2 1, 3) := by decide +kernel
theorem dX10_areSigns_43 : decode cX10_areSigns 43 = .ok (.goto (-39), 3) := by decide +kernel
theorem dX10_areSigns_46 : decode cX10_areSigns 46 = .ok (.iload_n 1, 1) := by decide +kernel
theorem dX10_areSigns_47 : decode cX10_areSigns 47 = .ok (.ireturn, 1) := by decide +kernel
theorem dX10_half_0 : decode cX10_half 0 = .ok (.aload_n 0, 1) := by decide +kernel
theorem dX10_half_1 : decode cX10_half 1 = .ok (.iload_n 1, 1) := by decide +kernel
theorem dX10_half_2 : decode cX10_half 2 = .ok (.iload_n 2, 1) := by decide +kernel
theorem dX10_half_3 : decode cX10_half 3 = .ok (.invokevirtual 190, 3) := by decide +kernel
theorem dX10_half_6 : decode cX10_half 6 = .ok (.ifCond .eq 51, 3) := by decide +kernel
theorem dX10_half_9 : decode cX10_half 9 = .ok (.iload_n 3, 1) := by decide +kernel
theorem dX10_half_10 : decode cX10_half 10 = .ok (.iconst 0, 1) := by decide +kernel
theorem dX10_half_11 : decode cX10_half 11 = .ok (.iconst 1, 1) := by decide +kernel
theorem dX10_half_12 : decode cX10_half 12 = .ok (.invokestatic 45, 3) := by decide +kernel
theorem dX10_half_15 : decode cX10_half 15 = .ok (.ifCond .eq 42, 3) := by decide +kernel
theorem dX10_half_18 : decode cX10_half 18 = .ok (.aload_n 0, 1) := by decide +kernel
theorem dX10_half_19 : decode cX10_half 19 = .ok (.invokevirtual 200, 3) := by decide +kernel
theorem dX10_half_22 : decode cX10_half 22 = .ok (.ifCond .eq 35, 3) := by decide +kernel
theorem dX10_half_25 : decode cX10_half 25 = .ok (.aload_n 0, 1) := by decide +kernel
theorem dX10_half_26 : decode cX10_half 26 = .ok (.iload_n 1, 1) := by decide +kernel
theorem dX10_half_27 : decode cX10_half 27 = .ok (.bipush 72, 2) := by decide +kernel
theorem dX10_half_29 : decode cX10_half 29 = .ok (.aload_n 0, 1) := by decide +kernel
theorem dX10_half_30 : decode cX10_half 30 = .ok (.getfield 9, 3) := by decide +kernel
theorem dX10_half_33 : decode cX10_half 33 = .ok (.iconst 4, 1) := by decide +kernel
theorem dX10_half_34 : decode cX10_half 34 = .ok (.iaload, 1) := by decide +kernel
theorem dX10_half_35 : decode cX10_half 35 = .ok (.invokevirtual 152, 3) := by decide +kernel
theorem dX10_half_38 : decode cX10_half 38 = .ok (.ifCond .ne 19, 3) := by decide +kernel
theorem dX10_half_41 : decode cX10_half 41 = .ok (.aload_n 0, 1) := by decide +kernel
theorem dX10_half_42 : decode cX10_half 42 = .ok (.iload_n 2, 1) := by decide +kernel
theorem dX10_half_43 : decode cX10_half 43 = .ok (.bipush 72, 2) := by decide +kernel
theorem dX10_half_45 : decode cX10_half 45 = .ok (.aload_n 0, 1) := by decide +kernel
theorem dX10_half_46 : decode cX10_half 46 = .ok (.getfield 9, 3) := by decide +kernel
theorem dX10_half_49 : decode cX10_half 49 = .ok (.iconst 4, 1) := by decide +kernel
theorem dX10_half_50 : decode cX10_half 50 = .ok (.iaload, 1) := by decide +kernel
theorem dX10_half_51 : decode cX10_half 51 = .ok (.invokevirtual 152, 3) := by decide +kernel
theorem dX10_half_54 : decode cX10_half 54 = .ok (.ifCond .eq 7, 3) := by decide +kernel
theorem dX10_half_57 : decode cX10_half 57 = .ok (.ldc2_w 184, 3) := by decide +kernel
theorem dX10_half_60 : decode cX10_half 60 = .ok (.lreturn, 1) := by decide +kernel
theorem dX10_half_61 : decode cX10_half 61 = .ok (.aload_n 0, 1) := by decide +kernel
theorem dX10_half_62 : decode cX10_half 62 = .ok (.iload_n 1, 1) := by decide +kernel
theorem dX10_half_63 : decode cX10_half 63 = .ok (.iload_n 2, 1) := by decide +kernel
theorem dX10_half_64 : decode cX10_half 64 = .ok (.invokevirtual 193, 3) := by decide +kernel
theorem dX10_half_67 : decode cX10_half 67 = .ok (.aload_n 0, 1) := by decide +kernel
theorem dX10_half_68 : decode cX10_half 68 = .ok (.getfield 166, 3) := by decide +kernel
theorem dX10_half_71 : decode cX10_half 71 = .ok (.aload_n 0, 1) := by decide +kernel
theorem dX10_half_72 : decode cX10_half 72 = .ok (.bipush 72, 2) := by decide +kernel
theorem dX10_half_74 : decode cX10_half 74 = .ok (.aload_n 0, 1) := by decide +kernel
theorem dX10_half_75 : decode cX10_half 75 = .ok (.getfield 9, 3) := by decide +kernel
theorem dX10_half_78 : decode cX10_half 78 = .ok (.iconst 4, 1) := by decide +kernel
theorem dX10_half_79 : decode cX10_half 79 = .ok (.iaload, 1) := by decide +kernel
theorem dX10_half_80 : decode cX10_half 80 = .ok (.iload_n 2, 1) := by decide +kernel
theorem dX10_half_81 : decode cX10_half 81 = .ok (.invokevirtual 159, 3) := by decide +kernel
theorem dX10_half_84 : decode cX10_half 84 = .ok (.aload_n 0, 1) := by decide +kernel
theorem dX10_half_85 : decode cX10_half 85 = .ok (.iload_n 1, 1) := by decide +kernel
theorem dX10_half_86 : decode cX10_half 86 = .ok (.iconst 0, 1) := by decide +kernel
theorem dX10_half_87 : decode cX10_half 87 = .ok (.invokevirtual 155, 3) := by decide +kernel
theorem dX10_half_90 : decode cX10_half 90 = .ok (.lmul, 1) := by decide +kernel
theorem dX10_half_91 : decode cX10_half 91 = .ok (.lsub, 1) := by decide +kernel
theorem dX10_half_92 : decode cX10_half 92 = .ok (.aload_n 0, 1) := by decide +kernel
theorem dX10_half_93 : decode cX10_half 93 = .ok (.bipush 72, 2) := by decide +kernel
theorem dX10_half_95 : decode cX10_half 95 = .ok (.aload_n 0, 1) := by decide +kernel
theorem dX10_half_96 : decode cX10_half 96 = .ok (.getfield 9, 3) := by decide +kernel
theorem dX10_half_99 : decode cX10_half 99 = .ok (.iconst 4, 1) := by decide +kernel
theorem dX10_half_100 : decode cX10_half 100 = .ok (.iaload, 1) := by decide +kernel
theorem dX10_half_101 : decode cX10_half 101 = .ok (.iload_n 1, 1) := by decide +kernel
theorem dX10_half_102 : decode cX10_half 102 = .ok (.invokevirtual 159, 3) := by decide +kernel
theorem dX10_half_105 : decode cX10_half 105 = .ok (.aload_n 0, 1) := by decide +kernel
theorem dX10_half_106 : decode cX10_half 106 = .ok (.iload_n 2, 1) := by decide +kernel
theorem dX10_half_107 : decode cX10_half 107 = .ok (.iconst 0, 1) := by decide +kernel
theorem dX10_half_108 : decode cX10_half 108 = .ok (.invokevirtual 155, 3) := by decide +kernel
theorem dX10_half_111 : decode cX10_half 111 = .ok (.lmul, 1) := by decide +kernel
theorem dX10_half_112 : decode cX10_half 112 = .ok (.ladd, 1) := by decide +kernel
theorem dX10_half_113 : decode cX10_half 113 = .ok (.lstore 4, 2) := by decide +kernel
theorem dX10_half_115 : decode cX10_half 115 = .ok (.lload 4, 2) := by decide +kernel
theorem dX10_half_117 : decode cX10_half 117 = .ok (.aload_n 0, 1) := by decide +kernel
theorem dX10_half_118 : decode cX10_half 118 = .ok (.getfield 166, 3) := by decide +kernel
theorem dX10_half_121 : decode cX10_half 121 = .ok (.aload_n 0, 1) := by decide +kernel
theorem dX10_half_122 : decode cX10_half 122 = .ok (.getfield 170, 3) := by decide +kernel
theorem dX10_half_125 : decode cX10_half 125 = .ok (.ladd, 1) := by decide +kernel
theorem dX10_half_126 : decode cX10_half 126 = .ok (.iload_n 3, 1) := by decide +kernel
theorem dX10_half_127 : decode cX10_half 127 = .ok (.invokestatic 186, 3) := by decide +kernel
theorem dX10_half_130 : decode cX10_half 130 = .ok (.lreturn, 1) := by decide +kernel
theorem dX10_isLess_0 : decode cX10_isLess 0 = .ok (.lload_n 0, 1) := by decide +kernel
theorem dX10_isLess_1 : decode cX10_isLess 1 = .ok (.lstore 8, 2) := by decide +kernel
theorem dX10_isLess_3 : decode cX10_isLess 3 = .ok (.lload_n 2, 1) := by decide +kernel
theorem dX10_isLess_4 : decode cX10_isLess 4 = .ok (.lstore 10, 2) := by decide +kernel
theorem dX10_isLess_6 : decode cX10_isLess 6 = .ok (.lload 4, 2) := by decide +kernel
theorem dX10_isLess_8 : decode cX10_isLess 8 = .ok (.lstore 12, 2) := by decide +kernel
theorem dX10_isLess_10 : decode cX10_isLess 10 = .ok (.lload 6, 2) := by decide +kernel
theorem dX10_isLess_12 : decode cX10_isLess 12 = .ok (.lstore 14, 2) := by decide +kernel
theorem dX10_isLess_14 : decode cX10_isLess 14 = .ok (.lload 8, 2) := by decide +kernel
theorem dX10_isLess_16 : decode cX10_isLess 16 = .ok (.lload 10, 2) := by decide +kernel
theorem dX10_isLess_18 : decode cX10_isLess 18 = .ok (.ldiv, 1) := by decide +kernel
theorem dX10_isLess_19 : decode cX10_isLess 19 = .ok (.lload 12, 2) := by decide +kernel
theorem dX10_isLess_21 : decode cX10_isLess 21 = .ok (.lload 14, 2) := by decide +kernel
theorem dX10_isLess_23 : decode cX10_isLess 23 = .ok (.ldiv, 1) := by decide +kernel
theorem dX10_isLess_24 : decode cX10_isLess 24 = .ok (.lcmp, 1) := by decide +kernel
theorem dX10_isLess_25 : decode cX10_isLess 25 = .ok (.ifCond .ne 62, 3) := by decide +kernel
theorem dX10_isLess_28 : decode cX10_isLess 28 = .ok (.lload 8, 2) := by decide +kernel
theorem dX10_isLess_30 : decode cX10_isLess 30 = .ok (.lload 10, 2) := by decide +kernel
theorem dX10_isLess_32 : decode cX10_isLess 32 = .ok (.lrem, 1) := by decide +kernel
theorem dX10_isLess_33 : decode cX10_isLess 33 = .ok (.lstore 8, 2) := by decide +kernel
theorem dX10_isLess_35 : decode cX10_isLess 35 = .ok (.lload 12, 2) := by decide +kernel
theorem dX10_isLess_37 : decode cX10_isLess 37 = .ok (.lload 14, 2) := by decide +kernel
theorem dX10_isLess_39 : decode cX10_isLess 39 = .ok (.lrem, 1) := by decide +kernel
theorem dX10_isLess_40 : decode cX10_isLess 40 = .ok (.lstore 12, 2) := by decide +kernel
theorem dX10_isLess_42 : decode cX10_isLess 42 = .ok (.lload 12, 2) := by decide +kernel
theorem dX10_isLess_44 : decode cX10_isLess 44 = .ok (.lconst 0, 1) := by decide +kernel
theorem dX10_isLess_45 : decode cX10_isLess 45 = .ok (.lcmp, 1) := by decide +kernel
theorem dX10_isLess_46 : decode cX10_isLess 46 = .ok (.ifCond .ne 5, 3) := by decide +kernel
theorem dX10_isLess_49 : decode cX10_isLess 49 = .ok (.iconst 0, 1) := by decide +kernel
theorem dX10_isLess_50 : decode cX10_isLess 50 = .ok (.ireturn, 1) := by decide +kernel
theorem dX10_isLess_51 : decode cX10_isLess 51 = .ok (.lload 8, 2) := by decide +kernel
theorem dX10_isLess_53 : decode cX10_isLess 53 = .ok (.lconst 0, 1) := by decide +kernel
theorem dX10_isLess_54 : decode cX10_isLess 54 = .ok (.lcmp, 1) := by decide +kernel
theorem dX10_isLess_55 : decode cX10_isLess 55 = .ok (.ifCond .ne 5, 3) := by decide +kernel
theorem dX10_isLess_58 : decode cX10_isLess 58 = .ok (.iconst 1, 1) := by decide +kernel
theorem dX10_isLess_59 : decode cX10_isLess 59 = .ok (.ireturn, 1) := by decide +kernel
theorem dX10_isLess_60 : decode cX10_isLess 60 = .ok (.lload 8, 2) := by decide +kernel
theorem dX10_isLess_62 : decode cX10_isLess 62 = .ok (.lstore 16, 2) := by decide +kernel
theorem dX10_isLess_64 : decode cX10_isLess 64 = .ok (.lload 10, 2) := by decide +kernel
theorem dX10_isLess_66 : decode cX10_isLess 66 = .ok (.lstore 18, 2) := by decide +kernel
theorem dX10_isLess_68 : decode cX10_isLess 68 = .ok (.lload 14, 2) := by decide +kernel
theorem dX10_isLess_70 : decode cX10_isLess 70 = .ok (.lstore 8, 2) := by decide +kernel
theorem dX10_isLess_72 : decode cX10_isLess 72 = .ok (.lload 12, 2) := by decide +kernel
theorem dX10_isLess_74 : decode cX10_isLess 74 = .ok (.lstore 10, 2) := by decide +kernel
theorem dX10_isLess_76 : decode cX10_isLess 76 = .ok (.lload 18, 2) := by decide +kernel
theorem dX10_isLess_78 : decode cX10_isLess 78 = .ok (.lstore 12, 2) := by decide +kernel
theorem dX10_isLess_80 : decode cX10_isLess 80 = .ok (.lload 16, 2) := by decide +kernel
theorem dX10_isLess_82 : decode cX10_isLess 82 = .ok (.lstore 14, 2) := by decide +kernel
theorem dX10_isLess_84 : decode cX10_isLess 84 = .ok (.goto (-70), 3) := by decide +kernel
theorem dX10_isLess_87 : decode cX10_isLess 87 = .ok (.lload 8, 2) := by decide +kernel
theorem dX10_isLess_89 : decode cX10_isLess 89 = .ok (.lload 10, 2) := by decide +kernel
theorem dX10_isLess_91 : decode cX10_isLess 91 = .ok (.ldiv, 1) := by decide +kernel
theorem dX10_isLess_92 : decode cX10_isLess 92 = .ok (.lload 12, 2) := by decide +kernel
theorem dX10_isLess_94 : decode cX10_isLess 94 = .ok (.lload 14, 2) := by decide +kernel
theorem dX10_isLess_96 : decode cX10_isLess 96 = .ok (.ldiv, 1) := by decide +kernel
theorem dX10_isLess_97 : decode cX10_isLess 97 = .ok (.lcmp, 1) := by decide +kernel
theorem dX10_isLess_98 : decode cX10_isLess 98 = .ok (.ifCond .ge 7, 3) := by decide +kernel
theorem dX10_isLess_101 : decode cX10_isLess 101 = .ok (.iconst 1, 1) := by decide +kernel
theorem dX10_isLess_102 : decode cX10_isLess 102 = .ok (.goto 4, 3) := by decide +kernel
theorem dX10_isLess_105 : decode cX10_isLess 105 = .ok (.iconst 0, 1) := by decide +kernel
theorem dX10_isLess_106 : decode cX10_isLess 106 = .ok (.ireturn, 1) := by decide +kernel
theorem dX10_copies_0 : decode cX10_copies 0 = .ok (.iconst 0, 1) := by decide +kernel
theorem dX10_copies_1 : decode cX10_copies 1 = .ok (.istore 4, 2) := by decide +kernel
theorem dX10_copies_3 : decode cX10_copies 3 = .ok (.iload 4, 2) := by decide +kernel
theorem dX10_copies_5 : decode cX10_copies 5 = .ok (.bipush 6, 2) := by decide +kernel
theorem dX10_copies_7 : decode cX10_copies 7 = .ok (.if_icmp .ge 43, 3) := by decide +kernel
theorem dX10_copies_10 : decode cX10_copies 10 = .ok (.aload_n 0, 1) := by decide +kernel
theorem dX10_copies_11 : decode cX10_copies 11 = .ok (.getfield 9, 3) := by decide +kernel
theorem dX10_copies_14 : decode cX10_copies 14 = .ok (.bipush 10, 2) := by decide +kernel
theorem dX10_copies_16 : decode cX10_copies 16 = .ok (.bipush 6, 2) := by decide +kernel
theorem dX10_copies_18 : decode cX10_copies 18 = .ok (.iload_n 3, 1) := by decide +kernel
theorem dX10_copies_19 : decode cX10_copies 19 = .ok (.imul, 1) := by decide +kernel
theorem dX10_copies_20 : decode cX10_copies 20 = .ok (.iadd, 1) := by decide +kernel
theorem dX10_copies_21 : decode cX10_copies 21 = .ok (.iload 4, 2) := by decide +kernel
theorem dX10_copies_23 : decode cX10_copies 23 = .ok (.iadd, 1) := by decide +kernel
theorem dX10_copies_24 : decode cX10_copies 24 = .ok (.iload 4, 2) := by decide +kernel
theorem dX10_copies_26 : decode cX10_copies 26 = .ok (.iload_n 2, 1) := by decide +kernel
theorem dX10_copies_27 : decode cX10_copies 27 = .ok (.if_icmp .ge 15, 3) := by decide +kernel
theorem dX10_copies_30 : decode cX10_copies 30 = .ok (.aload_n 0, 1) := by decide +kernel
theorem dX10_copies_31 : decode cX10_copies 31 = .ok (.getfield 9, 3) := by decide +kernel
theorem dX10_copies_34 : decode cX10_copies 34 = .ok (.iload_n 1, 1) := by decide +kernel
theorem dX10_copies_35 : decode cX10_copies 35 = .ok (.iload 4, 2) := by decide +kernel
theorem dX10_copies_37 : decode cX10_copies 37 = .ok (.iadd, 1) := by decide +kernel
theorem dX10_copies_38 : decode cX10_copies 38 = .ok (.iaload, 1) := by decide +kernel
theorem dX10_copies_39 : decode cX10_copies 39 = .ok (.goto 4, 3) := by decide +kernel
theorem dX10_copies_42 : decode cX10_copies 42 = .ok (.iconst 0, 1) := by decide +kernel
theorem dX10_copies_43 : decode cX10_copies 43 = .ok (.iastore, 1) := by decide +kernel
theorem dX10_copies_44 : decode cX10_copies 44 = .ok (.iinc 4 1, 3) := by decide +kernel
theorem dX10_copies_47 : decode cX10_copies 47 = .ok (.goto (-44), 3) := by decide +kernel
theorem dX10_copies_50 : decode cX10_copies 50 = .ok (.aload_n 0, 1) := by decide +kernel
theorem dX10_copies_51 : decode cX10_copies 51 = .ok (.getfield 9, 3) := by decide +kernel
theorem dX10_copies_54 : decode cX10_copies 54 = .ok (.bipush 58, 2) := by decide +kernel
theorem dX10_copies_56 : decode cX10_copies 56 = .ok (.iload_n 3, 1) := by decide +kernel
theorem dX10_copies_57 : decode cX10_copies 57 = .ok (.iadd, 1) := by decide +kernel
theorem dX10_copies_58 : decode cX10_copies 58 = .ok (.iload_n 2, 1) := by decide +kernel
theorem dX10_copies_59 : decode cX10_copies 59 = .ok (.iastore, 1) := by decide +kernel
theorem dX10_copies_60 : decode cX10_copies 60 = .ok (.return_, 1) := by decide +kernel
theorem dX10_rowsOf_0 : decode cX10_rowsOf 0 = .ok (.iconst 1, 1) := by decide +kernel
theorem dX10_rowsOf_1 : decode cX10_rowsOf 1 = .ok (.istore_n 2, 1) := by decide +kernel
theorem dX10_rowsOf_2 : decode cX10_rowsOf 2 = .ok (.iconst 0, 1) := by decide +kernel
theorem dX10_rowsOf_3 : decode cX10_rowsOf 3 = .ok (.istore_n 3, 1) := by decide +kernel
theorem dX10_rowsOf_4 : decode cX10_rowsOf 4 = .ok (.iload_n 3, 1) := by decide +kernel
theorem dX10_rowsOf_5 : decode cX10_rowsOf 5 = .ok (.iload_n 1, 1) := by decide +kernel
theorem dX10_rowsOf_6 : decode cX10_rowsOf 6 = .ok (.if_icmp .ge 16, 3) := by decide +kernel
theorem dX10_rowsOf_9 : decode cX10_rowsOf 9 = .ok (.iload_n 2, 1) := by decide +kernel
theorem dX10_rowsOf_10 : decode cX10_rowsOf 10 = .ok (.aload_n 0, 1) := by decide +kernel
theorem dX10_rowsOf_11 : decode cX10_rowsOf 11 = .ok (.invokevirtual 128, 3) := by decide +kernel
theorem dX10_rowsOf_14 : decode cX10_rowsOf 14 = .ok (.imul, 1) := by decide +kernel
theorem dX10_rowsOf_15 : decode cX10_rowsOf 15 = .ok (.istore_n 2, 1) := by decide +kernel
theorem dX10_rowsOf_16 : decode cX10_rowsOf 16 = .ok (.iinc 3 1, 3) := by decide +kernel
theorem dX10_rowsOf_19 : decode cX10_rowsOf 19 = .ok (.goto (-15), 3) := by decide +kernel
theorem dX10_rowsOf_22 : decode cX10_rowsOf 22 = .ok (.iload_n 2, 1) := by decide +kernel
theorem dX10_rowsOf_23 : decode cX10_rowsOf 23 = .ok (.ireturn, 1) := by decide +kernel
theorem dX10_comes_0 : decode cX10_comes 0 = .ok (.iload_n 1, 1) := by decide +kernel
theorem dX10_comes_1 : decode cX10_comes 1 = .ok (.istore_n 3, 1) := by decide +kernel
theorem dX10_comes_2 : decode cX10_comes 2 = .ok (.aload_n 0, 1) := by decide +kernel
theorem dX10_comes_3 : decode cX10_comes 3 = .ok (.getfield 9, 3) := by decide +kernel
theorem dX10_comes_6 : decode cX10_comes 6 = .ok (.bipush 65, 2) := by decide +kernel
theorem dX10_comes_8 : decode cX10_comes 8 = .ok (.iload_n 2, 1) := by decide +kernel
theorem dX10_comes_9 : decode cX10_comes 9 = .ok (.iastore, 1) := by decide +kernel
theorem dX10_comes_10 : decode cX10_comes 10 = .ok (.iload_n 2, 1) := by decide +kernel
theorem dX10_comes_11 : decode cX10_comes 11 = .ok (.iconst 1, 1) := by decide +kernel
theorem dX10_comes_12 : decode cX10_comes 12 = .ok (.isub, 1) := by decide +kernel
theorem dX10_comes_13 : decode cX10_comes 13 = .ok (.istore 4, 2) := by decide +kernel
theorem dX10_comes_15 : decode cX10_comes 15 = .ok (.iload 4, 2) := by decide +kernel
theorem dX10_comes_17 : decode cX10_comes 17 = .ok (.ifCond .lt 32, 3) := by decide +kernel
theorem dX10_comes_20 : decode cX10_comes 20 = .ok (.aload_n 0, 1) := by decide +kernel
theorem dX10_comes_21 : decode cX10_comes 21 = .ok (.getfield 9, 3) := by decide +kernel
theorem dX10_comes_24 : decode cX10_comes 24 = .ok (.bipush 52, 2) := by decide +kernel
theorem dX10_comes_26 : decode cX10_comes 26 = .ok (.iload 4, 2) := by decide +kernel
theorem dX10_comes_28 : decode cX10_comes 28 = .ok (.iadd, 1) := by decide +kernel
theorem dX10_comes_29 : decode cX10_comes 29 = .ok (.iload_n 3, 1) := by decide +kernel
theorem dX10_comes_30 : decode cX10_comes 30 = .ok (.aload_n 0, 1) := by decide +kernel
theorem dX10_comes_31 : decode cX10_comes 31 = .ok (.invokevirtual 128, 3) := by decide +kernel
theorem dX10_comes_34 : decode cX10_comes 34 = .ok (.irem, 1) := by decide +kernel
theorem dX10_comes_35 : decode cX10_comes 35 = .ok (.iastore, 1) := by decide +kernel
theorem dX10_comes_36 : decode cX10_comes 36 = .ok (.iload_n 3, 1) := by decide +kernel
theorem dX10_comes_37 : decode cX10_comes 37 = .ok (.aload_n 0, 1) := by decide +kernel
theorem dX10_comes_38 : decode cX10_comes 38 = .ok (.invokevirtual 128, 3) := by decide +kernel
theorem dX10_comes_41 : decode cX10_comes 41 = .ok (.idiv, 1) := by decide +kernel
theorem dX10_comes_42 : decode cX10_comes 42 = .ok (.istore_n 3, 1) := by decide +kernel
theorem dX10_comes_43 : decode cX10_comes 43 = .ok (.iinc 4 (-1), 3) := by decide +kernel
theorem dX10_comes_46 : decode cX10_comes 46 = .ok (.goto (-31), 3) := by decide +kernel
theorem dX10_comes_49 : decode cX10_comes 49 = .ok (.return_, 1) := by decide +kernel
theorem dX10_picks_0 : decode cX10_picks 0 = .ok (.aload_n 0, 1) := by decide +kernel
theorem dX10_picks_1 : decode cX10_picks 1 = .ok (.bipush 52, 2) := by decide +kernel
theorem dX10_picks_3 : decode cX10_picks 3 = .ok (.aload_n 0, 1) := by decide +kernel
theorem dX10_picks_4 : decode cX10_picks 4 = .ok (.getfield 9, 3) := by decide +kernel
theorem dX10_picks_7 : decode cX10_picks 7 = .ok (.bipush 65, 2) := by decide +kernel
theorem dX10_picks_9 : decode cX10_picks 9 = .ok (.iaload, 1) := by decide +kernel
theorem dX10_picks_10 : decode cX10_picks 10 = .ok (.bipush 6, 2) := by decide +kernel
theorem dX10_picks_12 : decode cX10_picks 12 = .ok (.invokevirtual 204, 3) := by decide +kernel
theorem dX10_picks_15 : decode cX10_picks 15 = .ok (.return_, 1) := by decide +kernel
theorem dX10_picksBest_0 : decode cX10_picksBest 0 = .ok (.iconst 0, 1) := by decide +kernel
theorem dX10_picksBest_1 : decode cX10_picksBest 1 = .ok (.istore_n 3, 1) := by decide +kernel
theorem dX10_picksBest_2 : decode cX10_picksBest 2 = .ok (.lconst 0, 1) := by decide +kernel
theorem dX10_picksBest_3 : decode cX10_picksBest 3 = .ok (.lstore 4, 2) := by decide +kernel
theorem dX10_picksBest_5 : decode cX10_picksBest 5 = .ok (.lconst 1, 1) := by decide +kernel
theorem dX10_picksBest_6 : decode cX10_picksBest 6 = .ok (.lstore 6, 2) := by decide +kernel
theorem dX10_picksBest_8 : decode cX10_picksBest 8 = .ok (.iconst 0, 1) := by decide +kernel
theorem dX10_picksBest_9 : decode cX10_picksBest 9 = .ok (.istore 8, 2) := by decide +kernel
theorem dX10_picksBest_11 : decode cX10_picksBest 11 = .ok (.iload 8, 2) := by decide +kernel
theorem dX10_picksBest_13 : decode cX10_picksBest 13 = .ok (.aload_n 0, 1) := by decide +kernel
theorem dX10_picksBest_14 : decode cX10_picksBest 14 = .ok (.iload_n 2, 1) := by decide +kernel
theorem dX10_picksBest_15 : decode cX10_picksBest 15 = .ok (.invokevirtual 208, 3) := by decide +kernel
theorem dX10_picksBest_18 : decode cX10_picksBest 18 = .ok (.if_icmp .ge 83, 3) := by decide +kernel
theorem dX10_picksBest_21 : decode cX10_picksBest 21 = .ok (.aload_n 0, 1) := by decide +kernel
theorem dX10_picksBest_22 : decode cX10_picksBest 22 = .ok (.iload 8, 2) := by decide +kernel
theorem dX10_picksBest_24 : decode cX10_picksBest 24 = .ok (.iload_n 2, 1) := by decide +kernel
theorem dX10_picksBest_25 : decode cX10_picksBest 25 = .ok (.invokevirtual 211, 3) := by decide +kernel
theorem dX10_picksBest_28 : decode cX10_picksBest 28 = .ok (.aload_n 0, 1) := by decide +kernel
theorem dX10_picksBest_29 : decode cX10_picksBest 29 = .ok (.bipush 7, 2) := by decide +kernel
theorem dX10_picksBest_31 : decode cX10_picksBest 31 = .ok (.iload_n 1, 1) := by decide +kernel
theorem dX10_picksBest_32 : decode cX10_picksBest 32 = .ok (.invokevirtual 180, 3) := by decide +kernel
theorem dX10_picksBest_35 : decode cX10_picksBest 35 = .ok (.ifCond .eq 60, 3) := by decide +kernel
theorem dX10_picksBest_38 : decode cX10_picksBest 38 = .ok (.aload_n 0, 1) := by decide +kernel
theorem dX10_picksBest_39 : decode cX10_picksBest 39 = .ok (.bipush 7, 2) := by decide +kernel
theorem dX10_picksBest_41 : decode cX10_picksBest 41 = .ok (.iload_n 1, 1) := by decide +kernel
theorem dX10_picksBest_42 : decode cX10_picksBest 42 = .ok (.invokevirtual 193, 3) := by decide +kernel
theorem dX10_picksBest_45 : decode cX10_picksBest 45 = .ok (.iload_n 3, 1) := by decide +kernel
theorem dX10_picksBest_46 : decode cX10_picksBest 46 = .ok (.ifCond .eq 26, 3) := by decide +kernel
theorem dX10_picksBest_49 : decode cX10_picksBest 49 = .ok (.lload 4, 2) := by decide +kernel
theorem dX10_picksBest_51 : decode cX10_picksBest 51 = .ok (.lload 6, 2) := by decide +kernel
theorem dX10_picksBest_53 : decode cX10_picksBest 53 = .ok (.aload_n 0, 1) := by decide +kernel
theorem dX10_picksBest_54 : decode cX10_picksBest 54 = .ok (.getfield 166, 3) := by decide +kernel
theorem dX10_picksBest_57 : decode cX10_picksBest 57 = .ok (.aload_n 0, 1) := by decide +kernel
theorem dX10_picksBest_58 : decode cX10_picksBest 58 = .ok (.getfield 166, 3) := by decide +kernel
theorem dX10_picksBest_61 : decode cX10_picksBest 61 = .ok (.aload_n 0, 1) := by decide +kernel
theorem dX10_picksBest_62 : decode cX10_picksBest 62 = .ok (.getfield 170, 3) := by decide +kernel
theorem dX10_picksBest_65 : decode cX10_picksBest 65 = .ok (.ladd, 1) := by decide +kernel
theorem dX10_picksBest_66 : decode cX10_picksBest 66 = .ok (.invokestatic 214, 3) := by decide +kernel
theorem dX10_picksBest_69 : decode cX10_picksBest 69 = .ok (.ifCond .eq 26, 3) := by decide +kernel
theorem dX10_picksBest_72 : decode cX10_picksBest 72 = .ok (.iconst 1, 1) := by decide +kernel
theorem dX10_picksBest_73 : decode cX10_picksBest 73 = .ok (.istore_n 3, 1) := by decide +kernel
theorem dX10_picksBest_74 : decode cX10_picksBest 74 = .ok (.aload_n 0, 1) := by decide +kernel
theorem dX10_picksBest_75 : decode cX10_picksBest 75 = .ok (.getfield 166, 3) := by decide +kernel
theorem dX10_picksBest_78 : decode cX10_picksBest 78 = .ok (.lstore 4, 2) := by decide +kernel
theorem dX10_picksBest_80 : decode cX10_picksBest 80 = .ok (.aload_n 0, 1) := by decide +kernel
theorem dX10_picksBest_81 : decode cX10_picksBest 81 = .ok (.getfield 166, 3) := by decide +kernel
theorem dX10_picksBest_84 : decode cX10_picksBest 84 = .ok (.aload_n 0, 1) := by decide +kernel
theorem dX10_picksBest_85 : decode cX10_picksBest 85 = .ok (.getfield 170, 3) := by decide +kernel
theorem dX10_picksBest_88 : decode cX10_picksBest 88 = .ok (.ladd, 1) := by decide +kernel
theorem dX10_picksBest_89 : decode cX10_picksBest 89 = .ok (.lstore 6, 2) := by decide +kernel
theorem dX10_picksBest_91 : decode cX10_picksBest 91 = .ok (.aload_n 0, 1) := by decide +kernel
theorem dX10_picksBest_92 : decode cX10_picksBest 92 = .ok (.invokevirtual 218, 3) := by decide +kernel
theorem dX10_picksBest_95 : decode cX10_picksBest 95 = .ok (.iinc 8 1, 3) := by decide +kernel
theorem dX10_picksBest_98 : decode cX10_picksBest 98 = .ok (.goto (-87), 3) := by decide +kernel
theorem dX10_picksBest_101 : decode cX10_picksBest 101 = .ok (.iload_n 3, 1) := by decide +kernel
theorem dX10_picksBest_102 : decode cX10_picksBest 102 = .ok (.ireturn, 1) := by decide +kernel
theorem dX10_picksByWait_0 : decode cX10_picksByWait 0 = .ok (.iconst 0, 1) := by decide +kernel
theorem dX10_picksByWait_1 : decode cX10_picksByWait 1 = .ok (.istore 4, 2) := by decide +kernel
theorem dX10_picksByWait_3 : decode cX10_picksByWait 3 = .ok (.lconst 0, 1) := by decide +kernel
theorem dX10_picksByWait_4 : decode cX10_picksByWait 4 = .ok (.lstore 5, 2) := by decide +kernel
theorem dX10_picksByWait_6 : decode cX10_picksByWait 6 = .ok (.lconst 1, 1) := by decide +kernel
theorem dX10_picksByWait_7 : decode cX10_picksByWait 7 = .ok (.lstore 7, 2) := by decide +kernel
theorem dX10_picksByWait_9 : decode cX10_picksByWait 9 = .ok (.aload_n 0, 1) := by decide +kernel
theorem dX10_picksByWait_10 : decode cX10_picksByWait 10 = .ok (.invokevirtual 138, 3) := by decide +kernel
theorem dX10_picksByWait_13 : decode cX10_picksByWait 13 = .ok (.iconst 0, 1) := by decide +kernel
theorem dX10_picksByWait_14 : decode cX10_picksByWait 14 = .ok (.istore 9, 2) := by decide +kernel
theorem dX10_picksByWait_16 : decode cX10_picksByWait 16 = .ok (.iload 9, 2) := by decide +kernel
theorem dX10_picksByWait_18 : decode cX10_picksByWait 18 = .ok (.aload_n 0, 1) := by decide +kernel
theorem dX10_picksByWait_19 : decode cX10_picksByWait 19 = .ok (.iload_n 1, 1) := by decide +kernel
theorem dX10_picksByWait_20 : decode cX10_picksByWait 20 = .ok (.invokevirtual 208, 3) := by decide +kernel
theorem dX10_picksByWait_23 : decode cX10_picksByWait 23 = .ok (.if_icmp .ge 148, 3) := by decide +kernel
theorem dX10_picksByWait_26 : decode cX10_picksByWait 26 = .ok (.aload_n 0, 1) := by decide +kernel
theorem dX10_picksByWait_27 : decode cX10_picksByWait 27 = .ok (.iload 9, 2) := by decide +kernel
theorem dX10_picksByWait_29 : decode cX10_picksByWait 29 = .ok (.iload_n 1, 1) := by decide +kernel
theorem dX10_picksByWait_30 : decode cX10_picksByWait 30 = .ok (.invokevirtual 211, 3) := by decide +kernel
theorem dX10_picksByWait_33 : decode cX10_picksByWait 33 = .ok (.iload_n 3, 1) := by decide +kernel
theorem dX10_picksByWait_34 : decode cX10_picksByWait 34 = .ok (.iconst (-1), 1) := by decide +kernel
theorem dX10_picksByWait_35 : decode cX10_picksByWait 35 = .ok (.if_icmp .ne 7, 3) := by decide +kernel
theorem dX10_picksByWait_38 : decode cX10_picksByWait 38 = .ok (.iconst 1, 1) := by decide +kernel
theorem dX10_picksByWait_39 : decode cX10_picksByWait 39 = .ok (.goto 4, 3) := by decide +kernel
theorem dX10_picksByWait_42 : decode cX10_picksByWait 42 = .ok (.iconst 0, 1) := by decide +kernel
theorem dX10_picksByWait_43 : decode cX10_picksByWait 43 = .ok (.istore 10, 2) := by decide +kernel
theorem dX10_picksByWait_45 : decode cX10_picksByWait 45 = .ok (.iload 10, 2) := by decide +kernel
theorem dX10_picksByWait_47 : decode cX10_picksByWait 47 = .ok (.ifCond .ne 39, 3) := by decide +kernel
theorem dX10_picksByWait_50 : decode cX10_picksByWait 50 = .ok (.aload_n 0, 1) := by decide +kernel
theorem dX10_picksByWait_51 : decode cX10_picksByWait 51 = .ok (.bipush 7, 2) := by decide +kernel
theorem dX10_picksByWait_53 : decode cX10_picksByWait 53 = .ok (.iload_n 3, 1) := by decide +kernel
theorem dX10_picksByWait_54 : decode cX10_picksByWait 54 = .ok (.invokevirtual 180, 3) := by decide +kernel
theorem dX10_picksByWait_57 : decode cX10_picksByWait 57 = .ok (.ifCond .eq 29, 3) := by decide +kernel
theorem dX10_picksByWait_60 : decode cX10_picksByWait 60 = .ok (.aload_n 0, 1) := by decide +kernel
theorem dX10_picksByWait_61 : decode cX10_picksByWait 61 = .ok (.bipush 7, 2) := by decide +kernel
theorem dX10_picksByWait_63 : decode cX10_picksByWait 63 = .ok (.iload_n 3, 1) := by decide +kernel
theorem dX10_picksByWait_64 : decode cX10_picksByWait 64 = .ok (.invokevirtual 193, 3) := by decide +kernel
theorem dX10_picksByWait_67 : decode cX10_picksByWait 67 = .ok (.aload_n 0, 1) := by decide +kernel
theorem dX10_picksByWait_68 : decode cX10_picksByWait 68 = .ok (.getfield 166, 3) := by decide +kernel
theorem dX10_picksByWait_71 : decode cX10_picksByWait 71 = .ok (.aload_n 0, 1) := by decide +kernel
theorem dX10_picksByWait_72 : decode cX10_picksByWait 72 = .ok (.getfield 170, 3) := by decide +kernel
theorem dX10_picksByWait_75 : decode cX10_picksByWait 75 = .ok (.lcmp, 1) := by decide +kernel
theorem dX10_picksByWait_76 : decode cX10_picksByWait 76 = .ok (.ifCond .lt 7, 3) := by decide +kernel
theorem dX10_picksByWait_79 : decode cX10_picksByWait 79 = .ok (.iconst 1, 1) := by decide +kernel
theorem dX10_picksByWait_80 : decode cX10_picksByWait 80 = .ok (.goto 4, 3) := by decide +kernel
theorem dX10_picksByWait_83 : decode cX10_picksByWait 83 = .ok (.iconst 0, 1) := by decide +kernel
theorem dX10_picksByWait_84 : decode cX10_picksByWait 84 = .ok (.istore 10, 2) := by decide +kernel
theorem dX10_picksByWait_86 : decode cX10_picksByWait 86 = .ok (.aload_n 0, 1) := by decide +kernel
theorem dX10_picksByWait_87 : decode cX10_picksByWait 87 = .ok (.bipush 7, 2) := by decide +kernel
theorem dX10_picksByWait_89 : decode cX10_picksByWait 89 = .ok (.bipush 7, 2) := by decide +kernel
theorem dX10_picksByWait_91 : decode cX10_picksByWait 91 = .ok (.invokevirtual 163, 3) := by decide +kernel
theorem dX10_picksByWait_94 : decode cX10_picksByWait 94 = .ok (.lstore 11, 2) := by decide +kernel
theorem dX10_picksByWait_96 : decode cX10_picksByWait 96 = .ok (.aload_n 0, 1) := by decide +kernel
theorem dX10_picksByWait_97 : decode cX10_picksByWait 97 = .ok (.bipush 7, 2) := by decide +kernel
theorem dX10_picksByWait_99 : decode cX10_picksByWait 99 = .ok (.iconst 0, 1) := by decide +kernel
theorem dX10_picksByWait_100 : decode cX10_picksByWait 100 = .ok (.invokevirtual 155, 3) := by decide +kernel
theorem dX10_picksByWait_103 : decode cX10_picksByWait 103 = .ok (.lstore 13, 2) := by decide +kernel
theorem dX10_picksByWait_105 : decode cX10_picksByWait 105 = .ok (.iload 10, 2) := by decide +kernel
theorem dX10_picksByWait_107 : decode cX10_picksByWait 107 = .ok (.ifCond .eq 58, 3) := by decide +kernel
theorem dX10_picksByWait_110 : decode cX10_picksByWait 110 = .ok (.iload 4, 2) := by decide +kernel
theorem dX10_picksByWait_112 : decode cX10_picksByWait 112 = .ok (.ifCond .eq 38, 3) := by decide +kernel
theorem dX10_picksByWait_115 : decode cX10_picksByWait 115 = .ok (.iload_n 2, 1) := by decide +kernel
theorem dX10_picksByWait_116 : decode cX10_picksByWait 116 = .ok (.ifCond .eq 20, 3) := by decide +kernel
theorem dX10_picksByWait_119 : decode cX10_picksByWait 119 = .ok (.lload 5, 2) := by decide +kernel
theorem dX10_picksByWait_121 : decode cX10_picksByWait 121 = .ok (.lload 7, 2) := by decide +kernel
theorem dX10_picksByWait_123 : decode cX10_picksByWait 123 = .ok (.lload 11, 2) := by decide +kernel
theorem dX10_picksByWait_125 : decode cX10_picksByWait 125 = .ok (.lload 13, 2) := by decide +kernel
theorem dX10_picksByWait_127 : decode cX10_picksByWait 127 = .ok (.invokestatic 214, 3) := by decide +kernel
theorem dX10_picksByWait_130 : decode cX10_picksByWait 130 = .ok (.ifCond .eq 35, 3) := by decide +kernel
theorem dX10_picksByWait_133 : decode cX10_picksByWait 133 = .ok (.goto 17, 3) := by decide +kernel
theorem dX10_picksByWait_136 : decode cX10_picksByWait 136 = .ok (.lload 11, 2) := by decide +kernel
theorem dX10_picksByWait_138 : decode cX10_picksByWait 138 = .ok (.lload 13, 2) := by decide +kernel
theorem dX10_picksByWait_140 : decode cX10_picksByWait 140 = .ok (.lload 5, 2) := by decide +kernel
theorem dX10_picksByWait_142 : decode cX10_picksByWait 142 = .ok (.lload 7, 2) := by decide +kernel
theorem dX10_picksByWait_144 : decode cX10_picksByWait 144 = .ok (.invokestatic 214, 3) := by decide +kernel
theorem dX10_picksByWait_147 : decode cX10_picksByWait 147 = .ok (.ifCond .eq 18, 3) := by decide +kernel
theorem dX10_picksByWait_150 : decode cX10_picksByWait 150 = .ok (.iconst 1, 1) := by decide +kernel
theorem dX10_picksByWait_151 : decode cX10_picksByWait 151 = .ok (.istore 4, 2) := by decide +kernel
theorem dX10_picksByWait_153 : decode cX10_picksByWait 153 = .ok (.lload 11, 2) := by decide +kernel
theorem dX10_picksByWait_155 : decode cX10_picksByWait 155 = .ok (.lstore 5, 2) := by decide +kernel
theorem dX10_picksByWait_157 : decode cX10_picksByWait 157 = .ok (.lload 13, 2) := by decide +kernel
theorem dX10_picksByWait_159 : decode cX10_picksByWait 159 = .ok (.lstore 7, 2) := by decide +kernel
theorem dX10_picksByWait_161 : decode cX10_picksByWait 161 = .ok (.aload_n 0, 1) := by decide +kernel
theorem dX10_picksByWait_162 : decode cX10_picksByWait 162 = .ok (.invokevirtual 218, 3) := by decide +kernel
theorem dX10_picksByWait_165 : decode cX10_picksByWait 165 = .ok (.iinc 9 1, 3) := by decide +kernel
theorem dX10_picksByWait_168 : decode cX10_picksByWait 168 = .ok (.goto (-152), 3) := by decide +kernel
theorem dX10_picksByWait_171 : decode cX10_picksByWait 171 = .ok (.iload 4, 2) := by decide +kernel
theorem dX10_picksByWait_173 : decode cX10_picksByWait 173 = .ok (.ireturn, 1) := by decide +kernel
theorem dX10_picksNext_0 : decode cX10_picksNext 0 = .ok (.aload_n 0, 1) := by decide +kernel
theorem dX10_picksNext_1 : decode cX10_picksNext 1 = .ok (.bipush 10, 2) := by decide +kernel
theorem dX10_picksNext_3 : decode cX10_picksNext 3 = .ok (.bipush 6, 2) := by decide +kernel
theorem dX10_picksNext_5 : decode cX10_picksNext 5 = .ok (.iload_n 1, 1) := by decide +kernel
theorem dX10_picksNext_6 : decode cX10_picksNext 6 = .ok (.imul, 1) := by decide +kernel
theorem dX10_picksNext_7 : decode cX10_picksNext 7 = .ok (.iadd, 1) := by decide +kernel
theorem dX10_picksNext_8 : decode cX10_picksNext 8 = .ok (.aload_n 0, 1) := by decide +kernel
theorem dX10_picksNext_9 : decode cX10_picksNext 9 = .ok (.getfield 9, 3) := by decide +kernel
theorem dX10_picksNext_12 : decode cX10_picksNext 12 = .ok (.bipush 58, 2) := by decide +kernel
theorem dX10_picksNext_14 : decode cX10_picksNext 14 = .ok (.iload_n 1, 1) := by decide +kernel
theorem dX10_picksNext_15 : decode cX10_picksNext 15 = .ok (.iadd, 1) := by decide +kernel
theorem dX10_picksNext_16 : decode cX10_picksNext 16 = .ok (.iaload, 1) := by decide +kernel
theorem dX10_picksNext_17 : decode cX10_picksNext 17 = .ok (.bipush 6, 2) := by decide +kernel
theorem dX10_picksNext_19 : decode cX10_picksNext 19 = .ok (.invokevirtual 204, 3) := by decide +kernel
theorem dX10_picksNext_22 : decode cX10_picksNext 22 = .ok (.bipush 46, 2) := by decide +kernel
theorem dX10_picksNext_24 : decode cX10_picksNext 24 = .ok (.aload_n 0, 1) := by decide +kernel
theorem dX10_picksNext_25 : decode cX10_picksNext 25 = .ok (.getfield 9, 3) := by decide +kernel
theorem dX10_picksNext_28 : decode cX10_picksNext 28 = .ok (.bipush 58, 2) := by decide +kernel
theorem dX10_picksNext_30 : decode cX10_picksNext 30 = .ok (.iload_n 1, 1) := by decide +kernel
theorem dX10_picksNext_31 : decode cX10_picksNext 31 = .ok (.iadd, 1) := by decide +kernel
theorem dX10_picksNext_32 : decode cX10_picksNext 32 = .ok (.iaload, 1) := by decide +kernel
theorem dX10_picksNext_33 : decode cX10_picksNext 33 = .ok (.iadd, 1) := by decide +kernel
theorem dX10_picksNext_34 : decode cX10_picksNext 34 = .ok (.iconst 1, 1) := by decide +kernel
theorem dX10_picksNext_35 : decode cX10_picksNext 35 = .ok (.isub, 1) := by decide +kernel
theorem dX10_picksNext_36 : decode cX10_picksNext 36 = .ok (.istore_n 2, 1) := by decide +kernel
theorem dX10_picksNext_37 : decode cX10_picksNext 37 = .ok (.aload_n 0, 1) := by decide +kernel
theorem dX10_picksNext_38 : decode cX10_picksNext 38 = .ok (.getfield 9, 3) := by decide +kernel
theorem dX10_picksNext_41 : decode cX10_picksNext 41 = .ok (.iload_n 2, 1) := by decide +kernel
theorem dX10_picksNext_42 : decode cX10_picksNext 42 = .ok (.aload_n 0, 1) := by decide +kernel
theorem dX10_picksNext_43 : decode cX10_picksNext 43 = .ok (.getfield 9, 3) := by decide +kernel
theorem dX10_picksNext_46 : decode cX10_picksNext 46 = .ok (.iload_n 2, 1) := by decide +kernel
theorem dX10_picksNext_47 : decode cX10_picksNext 47 = .ok (.iaload, 1) := by decide +kernel
theorem dX10_picksNext_48 : decode cX10_picksNext 48 = .ok (.iconst 1, 1) := by decide +kernel
theorem dX10_picksNext_49 : decode cX10_picksNext 49 = .ok (.iadd, 1) := by decide +kernel
theorem dX10_picksNext_50 : decode cX10_picksNext 50 = .ok (.aload_n 0, 1) := by decide +kernel
theorem dX10_picksNext_51 : decode cX10_picksNext 51 = .ok (.invokevirtual 128, 3) := by decide +kernel
theorem dX10_picksNext_54 : decode cX10_picksNext 54 = .ok (.irem, 1) := by decide +kernel
theorem dX10_picksNext_55 : decode cX10_picksNext 55 = .ok (.iastore, 1) := by decide +kernel
theorem dX10_picksNext_56 : decode cX10_picksNext 56 = .ok (.return_, 1) := by decide +kernel
theorem dX10_picksFor_0 : decode cX10_picksFor 0 = .ok (.aload_n 0, 1) := by decide +kernel
theorem dX10_picksFor_1 : decode cX10_picksFor 1 = .ok (.getfield 9, 3) := by decide +kernel
theorem dX10_picksFor_4 : decode cX10_picksFor 4 = .ok (.bipush 100, 2) := by decide +kernel
theorem dX10_picksFor_6 : decode cX10_picksFor 6 = .ok (.iload_n 1, 1) := by decide +kernel
theorem dX10_picksFor_7 : decode cX10_picksFor 7 = .ok (.iadd, 1) := by decide +kernel
theorem dX10_picksFor_8 : decode cX10_picksFor 8 = .ok (.iaload, 1) := by decide +kernel
theorem dX10_picksFor_9 : decode cX10_picksFor 9 = .ok (.iconst 4, 1) := by decide +kernel
theorem dX10_picksFor_10 : decode cX10_picksFor 10 = .ok (.irem, 1) := by decide +kernel
theorem dX10_picksFor_11 : decode cX10_picksFor 11 = .ok (.iconst 1, 1) := by decide +kernel
theorem dX10_picksFor_12 : decode cX10_picksFor 12 = .ok (.iadd, 1) := by decide +kernel
theorem dX10_picksFor_13 : decode cX10_picksFor 13 = .ok (.istore_n 3, 1) := by decide +kernel
theorem dX10_picksFor_14 : decode cX10_picksFor 14 = .ok (.aload_n 0, 1) := by decide +kernel
theorem dX10_picksFor_15 : decode cX10_picksFor 15 = .ok (.getfield 9, 3) := by decide +kernel
theorem dX10_picksFor_18 : decode cX10_picksFor 18 = .ok (.bipush 96, 2) := by decide +kernel
theorem dX10_picksFor_20 : decode cX10_picksFor 20 = .ok (.iload_n 1, 1) := by decide +kernel
theorem dX10_picksFor_21 : decode cX10_picksFor 21 = .ok (.iadd, 1) := by decide +kernel
theorem dX10_picksFor_22 : decode cX10_picksFor 22 = .ok (.iaload, 1) := by decide +kernel
theorem dX10_picksFor_23 : decode cX10_picksFor 23 = .ok (.tableswitch 155 1 6 #[37, 48, 59, 67, 87, 108], 37) := by decide +kernel
theorem dX10_picksFor_60 : decode cX10_picksFor 60 = .ok (.aload_n 0, 1) := by decide +kernel
theorem dX10_picksFor_61 : decode cX10_picksFor 61 = .ok (.iload_n 3, 1) := by decide +kernel
theorem dX10_picksFor_62 : decode cX10_picksFor 62 = .ok (.iconst 0, 1) := by decide +kernel
theorem dX10_picksFor_63 : decode cX10_picksFor 63 = .ok (.iconst (-1), 1) := by decide +kernel
theorem dX10_picksFor_64 : decode cX10_picksFor 64 = .ok (.invokevirtual 221, 3) := by decide +kernel
theorem dX10_picksFor_67 : decode cX10_picksFor 67 = .ok (.pop, 1) := by decide +kernel
theorem dX10_picksFor_68 : decode cX10_picksFor 68 = .ok (.goto 120, 3) := by decide +kernel
theorem dX10_picksFor_71 : decode cX10_picksFor 71 = .ok (.aload_n 0, 1) := by decide +kernel
theorem dX10_picksFor_72 : decode cX10_picksFor 72 = .ok (.iload_n 3, 1) := by decide +kernel
theorem dX10_picksFor_73 : decode cX10_picksFor 73 = .ok (.iconst 1, 1) := by decide +kernel
theorem dX10_picksFor_74 : decode cX10_picksFor 74 = .ok (.iconst (-1), 1) := by decide +kernel
theorem dX10_picksFor_75 : decode cX10_picksFor 75 = .ok (.invokevirtual 221, 3) := by decide +kernel
theorem dX10_picksFor_78 : decode cX10_picksFor 78 = .ok (.pop, 1) := by decide +kernel
theorem dX10_picksFor_79 : decode cX10_picksFor 79 = .ok (.goto 109, 3) := by decide +kernel
theorem dX10_picksFor_82 : decode cX10_picksFor 82 = .ok (.aload_n 0, 1) := by decide +kernel
theorem dX10_picksFor_83 : decode cX10_picksFor 83 = .ok (.iload_n 2, 1) := by decide +kernel
theorem dX10_picksFor_84 : decode cX10_picksFor 84 = .ok (.invokevirtual 225, 3) := by decide +kernel
theorem dX10_picksFor_87 : decode cX10_picksFor 87 = .ok (.goto 101, 3) := by decide +kernel
theorem dX10_picksFor_90 : decode cX10_picksFor 90 = .ok (.aload_n 0, 1) := by decide +kernel
theorem dX10_picksFor_91 : decode cX10_picksFor 91 = .ok (.iload_n 2, 1) := by decide +kernel
theorem dX10_picksFor_92 : decode cX10_picksFor 92 = .ok (.iload_n 3, 1) := by decide +kernel
theorem dX10_picksFor_93 : decode cX10_picksFor 93 = .ok (.invokevirtual 228, 3) := by decide +kernel
theorem dX10_picksFor_96 : decode cX10_picksFor 96 = .ok (.ifCond .ne 92, 3) := by decide +kernel
theorem dX10_picksFor_99 : decode cX10_picksFor 99 = .ok (.aload_n 0, 1) := by decide +kernel
theorem dX10_picksFor_100 : decode cX10_picksFor 100 = .ok (.iload_n 3, 1) := by decide +kernel
theorem dX10_picksFor_101 : decode cX10_picksFor 101 = .ok (.iconst 0, 1) := by decide +kernel
theorem dX10_picksFor_102 : decode cX10_picksFor 102 = .ok (.iconst (-1), 1) := by decide +kernel
theorem dX10_picksFor_103 : decode cX10_picksFor 103 = .ok (.invokevirtual 221, 3) := by decide +kernel
theorem dX10_picksFor_106 : decode cX10_picksFor 106 = .ok (.pop, 1) := by decide +kernel
theorem dX10_picksFor_107 : decode cX10_picksFor 107 = .ok (.goto 81, 3) := by decide +kernel
theorem dX10_picksFor_110 : decode cX10_picksFor 110 = .ok (.aload_n 0, 1) := by decide +kernel
theorem dX10_picksFor_111 : decode cX10_picksFor 111 = .ok (.iload_n 3, 1) := by decide +kernel
theorem dX10_picksFor_112 : decode cX10_picksFor 112 = .ok (.iconst 1, 1) := by decide +kernel
theorem dX10_picksFor_113 : decode cX10_picksFor 113 = .ok (.iload_n 2, 1) := by decide +kernel
theorem dX10_picksFor_114 : decode cX10_picksFor 114 = .ok (.invokevirtual 221, 3) := by decide +kernel
theorem dX10_picksFor_117 : decode cX10_picksFor 117 = .ok (.ifCond .ne 71, 3) := by decide +kernel
theorem dX10_picksFor_120 : decode cX10_picksFor 120 = .ok (.aload_n 0, 1) := by decide +kernel
theorem dX10_picksFor_121 : decode cX10_picksFor 121 = .ok (.iload_n 3, 1) := by decide +kernel
theorem dX10_picksFor_122 : decode cX10_picksFor 122 = .ok (.iconst 1, 1) := by decide +kernel
theorem dX10_picksFor_123 : decode cX10_picksFor 123 = .ok (.iconst (-1), 1) := by decide +kernel
theorem dX10_picksFor_124 : decode cX10_picksFor 124 = .ok (.invokevirtual 221, 3) := by decide +kernel
theorem dX10_picksFor_127 : decode cX10_picksFor 127 = .ok (.pop, 1) := by decide +kernel
theorem dX10_picksFor_128 : decode cX10_picksFor 128 = .ok (.goto 60, 3) := by decide +kernel
theorem dX10_picksFor_131 : decode cX10_picksFor 131 = .ok (.aload_n 0, 1) := by decide +kernel
theorem dX10_picksFor_132 : decode cX10_picksFor 132 = .ok (.getfield 9, 3) := by decide +kernel
theorem dX10_picksFor_135 : decode cX10_picksFor 135 = .ok (.sipush 128, 3) := by decide +kernel
theorem dX10_picksFor_138 : decode cX10_picksFor 138 = .ok (.iload_n 1, 1) := by decide +kernel
theorem dX10_picksFor_139 : decode cX10_picksFor 139 = .ok (.iadd, 1) := by decide +kernel
theorem dX10_picksFor_140 : decode cX10_picksFor 140 = .ok (.iaload, 1) := by decide +kernel
theorem dX10_picksFor_141 : decode cX10_picksFor 141 = .ok (.ifCond .le 29, 3) := by decide +kernel
theorem dX10_picksFor_144 : decode cX10_picksFor 144 = .ok (.aload_n 0, 1) := by decide +kernel
theorem dX10_picksFor_145 : decode cX10_picksFor 145 = .ok (.bipush 104, 2) := by decide +kernel
theorem dX10_picksFor_147 : decode cX10_picksFor 147 = .ok (.bipush 6, 2) := by decide +kernel
theorem dX10_picksFor_149 : decode cX10_picksFor 149 = .ok (.iload_n 1, 1) := by decide +kernel
theorem dX10_picksFor_150 : decode cX10_picksFor 150 = .ok (.imul, 1) := by decide +kernel
theorem dX10_picksFor_151 : decode cX10_picksFor 151 = .ok (.iadd, 1) := by decide +kernel
theorem dX10_picksFor_152 : decode cX10_picksFor 152 = .ok (.aload_n 0, 1) := by decide +kernel
theorem dX10_picksFor_153 : decode cX10_picksFor 153 = .ok (.getfield 9, 3) := by decide +kernel
theorem dX10_picksFor_156 : decode cX10_picksFor 156 = .ok (.sipush 128, 3) := by decide +kernel
theorem dX10_picksFor_159 : decode cX10_picksFor 159 = .ok (.iload_n 1, 1) := by decide +kernel
theorem dX10_picksFor_160 : decode cX10_picksFor 160 = .ok (.iadd, 1) := by decide +kernel
theorem dX10_picksFor_161 : decode cX10_picksFor 161 = .ok (.iaload, 1) := by decide +kernel
theorem dX10_picksFor_162 : decode cX10_picksFor 162 = .ok (.bipush 6, 2) := by decide +kernel
theorem dX10_picksFor_164 : decode cX10_picksFor 164 = .ok (.invokevirtual 204, 3) := by decide +kernel
theorem dX10_picksFor_167 : decode cX10_picksFor 167 = .ok (.goto 21, 3) := by decide +kernel
theorem dX10_picksFor_170 : decode cX10_picksFor 170 = .ok (.aload_n 0, 1) := by decide +kernel
theorem dX10_picksFor_171 : decode cX10_picksFor 171 = .ok (.iload_n 2, 1) := by decide +kernel
theorem dX10_picksFor_172 : decode cX10_picksFor 172 = .ok (.invokevirtual 225, 3) := by decide +kernel
theorem dX10_picksFor_175 : decode cX10_picksFor 175 = .ok (.goto 13, 3) := by decide +kernel
theorem dX10_picksFor_178 : decode cX10_picksFor 178 = .ok (.aload_n 0, 1) := by decide +kernel
theorem dX10_picksFor_179 : decode cX10_picksFor 179 = .ok (.iconst 0, 1) := by decide +kernel
theorem dX10_picksFor_180 : decode cX10_picksFor 180 = .ok (.iload_n 3, 1) := by decide +kernel
theorem dX10_picksFor_181 : decode cX10_picksFor 181 = .ok (.invokevirtual 211, 3) := by decide +kernel
theorem dX10_picksFor_184 : decode cX10_picksFor 184 = .ok (.aload_n 0, 1) := by decide +kernel
theorem dX10_picksFor_185 : decode cX10_picksFor 185 = .ok (.invokevirtual 218, 3) := by decide +kernel
theorem dX10_picksFor_188 : decode cX10_picksFor 188 = .ok (.return_, 1) := by decide +kernel
theorem dX10_best_0 : decode cX10_best 0 = .ok (.aload_n 0, 1) := by decide +kernel
theorem dX10_best_1 : decode cX10_best 1 = .ok (.iload_n 1, 1) := by decide +kernel
theorem dX10_best_2 : decode cX10_best 2 = .ok (.invokevirtual 141, 3) := by decide +kernel
theorem dX10_best_5 : decode cX10_best 5 = .ok (.ifCond .eq 12, 3) := by decide +kernel
theorem dX10_best_8 : decode cX10_best 8 = .ok (.iload_n 3, 1) := by decide +kernel
theorem dX10_best_9 : decode cX10_best 9 = .ok (.iconst 0, 1) := by decide +kernel
theorem dX10_best_10 : decode cX10_best 10 = .ok (.iconst 3, 1) := by decide +kernel
theorem dX10_best_11 : decode cX10_best 11 = .ok (.invokestatic 45, 3) := by decide +kernel
theorem dX10_best_14 : decode cX10_best 14 = .ok (.ifCond .ne 5, 3) := by decide +kernel
theorem dX10_best_17 : decode cX10_best 17 = .ok (.iconst (-1), 1) := by decide +kernel
theorem dX10_best_18 : decode cX10_best 18 = .ok (.ireturn, 1) := by decide +kernel
theorem dX10_best_19 : decode cX10_best 19 = .ok (.iload_n 2, 1) := by decide +kernel
theorem dX10_best_20 : decode cX10_best 20 = .ok (.iconst 1, 1) := by decide +kernel
theorem dX10_best_21 : decode cX10_best 21 = .ok (.iconst 4, 1) := by decide +kernel
theorem dX10_best_22 : decode cX10_best 22 = .ok (.invokestatic 45, 3) := by decide +kernel
theorem dX10_best_25 : decode cX10_best 25 = .ok (.ifCond .ne 6, 3) := by decide +kernel
theorem dX10_best_28 : decode cX10_best 28 = .ok (.bipush (-2), 2) := by decide +kernel
theorem dX10_best_30 : decode cX10_best 30 = .ok (.ireturn, 1) := by decide +kernel
theorem dX10_best_31 : decode cX10_best 31 = .ok (.aload_n 0, 1) := by decide +kernel
theorem dX10_best_32 : decode cX10_best 32 = .ok (.iload_n 1, 1) := by decide +kernel
theorem dX10_best_33 : decode cX10_best 33 = .ok (.invokevirtual 177, 3) := by decide +kernel
theorem dX10_best_36 : decode cX10_best 36 = .ok (.ifCond .ne 6, 3) := by decide +kernel
theorem dX10_best_39 : decode cX10_best 39 = .ok (.bipush (-3), 2) := by decide +kernel
theorem dX10_best_41 : decode cX10_best 41 = .ok (.ireturn, 1) := by decide +kernel
theorem dX10_best_42 : decode cX10_best 42 = .ok (.iload_n 3, 1) := by decide +kernel
theorem dX10_best_43 : decode cX10_best 43 = .ok (.iload_n 2, 1) := by decide +kernel
theorem dX10_best_44 : decode cX10_best 44 = .ok (.if_icmp .ge 12, 3) := by decide +kernel
theorem dX10_best_47 : decode cX10_best 47 = .ok (.aload_n 0, 1) := by decide +kernel
theorem dX10_best_48 : decode cX10_best 48 = .ok (.iload_n 1, 1) := by decide +kernel
theorem dX10_best_49 : decode cX10_best 49 = .ok (.iload_n 2, 1) := by decide +kernel
theorem dX10_best_50 : decode cX10_best 50 = .ok (.invokevirtual 228, 3) := by decide +kernel
theorem dX10_best_53 : decode cX10_best 53 = .ok (.ifCond .ne 7, 3) := by decide +kernel
theorem dX10_best_56 : decode cX10_best 56 = .ok (.iconst (-1), 1) := by decide +kernel
theorem dX10_best_57 : decode cX10_best 57 = .ok (.goto 12, 3) := by decide +kernel
theorem dX10_best_60 : decode cX10_best 60 = .ok (.aload_n 0, 1) := by decide +kernel
theorem dX10_best_61 : decode cX10_best 61 = .ok (.getfield 9, 3) := by decide +kernel
theorem dX10_best_64 : decode cX10_best 64 = .ok (.bipush 46, 2) := by decide +kernel
theorem dX10_best_66 : decode cX10_best 66 = .ok (.iload_n 3, 1) := by decide +kernel
theorem dX10_best_67 : decode cX10_best 67 = .ok (.iadd, 1) := by decide +kernel
theorem dX10_best_68 : decode cX10_best 68 = .ok (.iaload, 1) := by decide +kernel
theorem dX10_best_69 : decode cX10_best 69 = .ok (.ireturn, 1) := by decide +kernel
theorem dX10_isAheadOf_0 : decode cX10_isAheadOf 0 = .ok (.aload_n 0, 1) := by decide +kernel
theorem dX10_isAheadOf_1 : decode cX10_isAheadOf 1 = .ok (.iload_n 1, 1) := by decide +kernel
theorem dX10_isAheadOf_2 : decode cX10_isAheadOf 2 = .ok (.iload_n 2, 1) := by decide +kernel
theorem dX10_isAheadOf_3 : decode cX10_isAheadOf 3 = .ok (.invokevirtual 180, 3) := by decide +kernel
theorem dX10_isAheadOf_6 : decode cX10_isAheadOf 6 = .ok (.ifCond .ne 5, 3) := by decide +kernel
theorem dX10_isAheadOf_9 : decode cX10_isAheadOf 9 = .ok (.iconst 0, 1) := by decide +kernel
theorem dX10_isAheadOf_10 : decode cX10_isAheadOf 10 = .ok (.ireturn, 1) := by decide +kernel
theorem dX10_isAheadOf_11 : decode cX10_isAheadOf 11 = .ok (.aload_n 0, 1) := by decide +kernel
theorem dX10_isAheadOf_12 : decode cX10_isAheadOf 12 = .ok (.iload_n 1, 1) := by decide +kernel
theorem dX10_isAheadOf_13 : decode cX10_isAheadOf 13 = .ok (.iload_n 2, 1) := by decide +kernel
theorem dX10_isAheadOf_14 : decode cX10_isAheadOf 14 = .ok (.invokevirtual 193, 3) := by decide +kernel
theorem dX10_isAheadOf_17 : decode cX10_isAheadOf 17 = .ok (.aload_n 0, 1) := by decide +kernel
theorem dX10_isAheadOf_18 : decode cX10_isAheadOf 18 = .ok (.getfield 166, 3) := by decide +kernel
theorem dX10_isAheadOf_21 : decode cX10_isAheadOf 21 = .ok (.aload_n 0, 1) := by decide +kernel
theorem dX10_isAheadOf_22 : decode cX10_isAheadOf 22 = .ok (.getfield 170, 3) := by decide +kernel
theorem dX10_isAheadOf_25 : decode cX10_isAheadOf 25 = .ok (.lcmp, 1) := by decide +kernel
theorem dX10_isAheadOf_26 : decode cX10_isAheadOf 26 = .ok (.ifCond .le 7, 3) := by decide +kernel
theorem dX10_isAheadOf_29 : decode cX10_isAheadOf 29 = .ok (.iconst 1, 1) := by decide +kernel
theorem dX10_isAheadOf_30 : decode cX10_isAheadOf 30 = .ok (.goto 4, 3) := by decide +kernel
theorem dX10_isAheadOf_33 : decode cX10_isAheadOf 33 = .ok (.iconst 0, 1) := by decide +kernel
theorem dX10_isAheadOf_34 : decode cX10_isAheadOf 34 = .ok (.ireturn, 1) := by decide +kernel
theorem dX10_ring_0 : decode cX10_ring 0 = .ok (.aload_n 0, 1) := by decide +kernel
theorem dX10_ring_1 : decode cX10_ring 1 = .ok (.iload_n 1, 1) := by decide +kernel
theorem dX10_ring_2 : decode cX10_ring 2 = .ok (.invokevirtual 141, 3) := by decide +kernel
theorem dX10_ring_5 : decode cX10_ring 5 = .ok (.ifCond .eq 19, 3) := by decide +kernel
theorem dX10_ring_8 : decode cX10_ring 8 = .ok (.aload_n 0, 1) := by decide +kernel
theorem dX10_ring_9 : decode cX10_ring 9 = .ok (.iload_n 2, 1) := by decide +kernel
theorem dX10_ring_10 : decode cX10_ring 10 = .ok (.invokevirtual 141, 3) := by decide +kernel
theorem dX10_ring_13 : decode cX10_ring 13 = .ok (.ifCond .eq 11, 3) := by decide +kernel
theorem dX10_ring_16 : decode cX10_ring 16 = .ok (.aload_n 0, 1) := by decide +kernel
theorem dX10_ring_17 : decode cX10_ring 17 = .ok (.iload_n 3, 1) := by decide +kernel
theorem dX10_ring_18 : decode cX10_ring 18 = .ok (.invokevirtual 141, 3) := by decide +kernel
theorem dX10_ring_21 : decode cX10_ring 21 = .ok (.ifCond .ne 5, 3) := by decide +kernel
theorem dX10_ring_24 : decode cX10_ring 24 = .ok (.iconst (-1), 1) := by decide +kernel
theorem dX10_ring_25 : decode cX10_ring 25 = .ok (.ireturn, 1) := by decide +kernel
theorem dX10_ring_26 : decode cX10_ring 26 = .ok (.aload_n 0, 1) := by decide +kernel
theorem dX10_ring_27 : decode cX10_ring 27 = .ok (.iload_n 1, 1) := by decide +kernel
theorem dX10_ring_28 : decode cX10_ring 28 = .ok (.invokevirtual 177, 3) := by decide +kernel
theorem dX10_ring_31 : decode cX10_ring 31 = .ok (.ifCond .eq 19, 3) := by decide +kernel
theorem dX10_ring_34 : decode cX10_ring 34 = .ok (.aload_n 0, 1) := by decide +kernel
theorem dX10_ring_35 : decode cX10_ring 35 = .ok (.iload_n 2, 1) := by decide +kernel
theorem dX10_ring_36 : decode cX10_ring 36 = .ok (.invokevirtual 177, 3) := by decide +kernel
theorem dX10_ring_39 : decode cX10_ring 39 = .ok (.ifCond .eq 11, 3) := by decide +kernel
theorem dX10_ring_42 : decode cX10_ring 42 = .ok (.aload_n 0, 1) := by decide +kernel
theorem dX10_ring_43 : decode cX10_ring 43 = .ok (.iload_n 3, 1) := by decide +kernel
theorem dX10_ring_44 : decode cX10_ring 44 = .ok (.invokevirtual 177, 3) := by decide +kernel
theorem dX10_ring_47 : decode cX10_ring 47 = .ok (.ifCond .ne 6, 3) := by decide +kernel
theorem dX10_ring_50 : decode cX10_ring 50 = .ok (.bipush (-3), 2) := by decide +kernel
theorem dX10_ring_52 : decode cX10_ring 52 = .ok (.ireturn, 1) := by decide +kernel
theorem dX10_ring_53 : decode cX10_ring 53 = .ok (.aload_n 0, 1) := by decide +kernel
theorem dX10_ring_54 : decode cX10_ring 54 = .ok (.iload_n 1, 1) := by decide +kernel
theorem dX10_ring_55 : decode cX10_ring 55 = .ok (.iload_n 2, 1) := by decide +kernel
theorem dX10_ring_56 : decode cX10_ring 56 = .ok (.invokevirtual 231, 3) := by decide +kernel
theorem dX10_ring_59 : decode cX10_ring 59 = .ok (.ifCond .eq 25, 3) := by decide +kernel
theorem dX10_ring_62 : decode cX10_ring 62 = .ok (.aload_n 0, 1) := by decide +kernel
theorem dX10_ring_63 : decode cX10_ring 63 = .ok (.iload_n 2, 1) := by decide +kernel
theorem dX10_ring_64 : decode cX10_ring 64 = .ok (.iload_n 3, 1) := by decide +kernel
theorem dX10_ring_65 : decode cX10_ring 65 = .ok (.invokevirtual 231, 3) := by decide +kernel
theorem dX10_ring_68 : decode cX10_ring 68 = .ok (.ifCond .eq 16, 3) := by decide +kernel
theorem dX10_ring_71 : decode cX10_ring 71 = .ok (.aload_n 0, 1) := by decide +kernel
theorem dX10_ring_72 : decode cX10_ring 72 = .ok (.iload_n 3, 1) := by decide +kernel
theorem dX10_ring_73 : decode cX10_ring 73 = .ok (.iload_n 1, 1) := by decide +kernel
theorem dX10_ring_74 : decode cX10_ring 74 = .ok (.invokevirtual 231, 3) := by decide +kernel
theorem dX10_ring_77 : decode cX10_ring 77 = .ok (.ifCond .eq 7, 3) := by decide +kernel
theorem dX10_ring_80 : decode cX10_ring 80 = .ok (.iconst 1, 1) := by decide +kernel
theorem dX10_ring_81 : decode cX10_ring 81 = .ok (.goto 4, 3) := by decide +kernel
theorem dX10_ring_84 : decode cX10_ring 84 = .ok (.iconst 0, 1) := by decide +kernel
theorem dX10_ring_85 : decode cX10_ring 85 = .ok (.ireturn, 1) := by decide +kernel
theorem dX10_pick_0 : decode cX10_pick 0 = .ok (.aload_n 0, 1) := by decide +kernel
theorem dX10_pick_1 : decode cX10_pick 1 = .ok (.iload_n 1, 1) := by decide +kernel
theorem dX10_pick_2 : decode cX10_pick 2 = .ok (.invokevirtual 145, 3) := by decide +kernel
theorem dX10_pick_5 : decode cX10_pick 5 = .ok (.ifCond .eq 20, 3) := by decide +kernel
theorem dX10_pick_8 : decode cX10_pick 8 = .ok (.aload_n 0, 1) := by decide +kernel
theorem dX10_pick_9 : decode cX10_pick 9 = .ok (.iload_n 2, 1) := by decide +kernel
theorem dX10_pick_10 : decode cX10_pick 10 = .ok (.invokevirtual 141, 3) := by decide +kernel
theorem dX10_pick_13 : decode cX10_pick 13 = .ok (.ifCond .eq 12, 3) := by decide +kernel
theorem dX10_pick_16 : decode cX10_pick 16 = .ok (.iload_n 3, 1) := by decide +kernel
theorem dX10_pick_17 : decode cX10_pick 17 = .ok (.iconst (-1), 1) := by decide +kernel
theorem dX10_pick_18 : decode cX10_pick 18 = .ok (.iconst 5, 1) := by decide +kernel
theorem dX10_pick_19 : decode cX10_pick 19 = .ok (.invokestatic 45, 3) := by decide +kernel
theorem dX10_pick_22 : decode cX10_pick 22 = .ok (.ifCond .ne 5, 3) := by decide +kernel
theorem dX10_pick_25 : decode cX10_pick 25 = .ok (.iconst (-1), 1) := by decide +kernel
theorem dX10_pick_26 : decode cX10_pick 26 = .ok (.ireturn, 1) := by decide +kernel
theorem dX10_pick_27 : decode cX10_pick 27 = .ok (.aload_n 0, 1) := by decide +kernel
theorem dX10_pick_28 : decode cX10_pick 28 = .ok (.iload_n 2, 1) := by decide +kernel
theorem dX10_pick_29 : decode cX10_pick 29 = .ok (.invokevirtual 177, 3) := by decide +kernel
theorem dX10_pick_32 : decode cX10_pick 32 = .ok (.ifCond .ne 6, 3) := by decide +kernel
theorem dX10_pick_35 : decode cX10_pick 35 = .ok (.bipush (-3), 2) := by decide +kernel
theorem dX10_pick_37 : decode cX10_pick 37 = .ok (.ireturn, 1) := by decide +kernel
theorem dX10_pick_38 : decode cX10_pick 38 = .ok (.aload_n 0, 1) := by decide +kernel
theorem dX10_pick_39 : decode cX10_pick 39 = .ok (.iload_n 1, 1) := by decide +kernel
theorem dX10_pick_40 : decode cX10_pick 40 = .ok (.iload_n 2, 1) := by decide +kernel
theorem dX10_pick_41 : decode cX10_pick 41 = .ok (.invokevirtual 234, 3) := by decide +kernel
theorem dX10_pick_44 : decode cX10_pick 44 = .ok (.aload_n 0, 1) := by decide +kernel
theorem dX10_pick_45 : decode cX10_pick 45 = .ok (.getfield 9, 3) := by decide +kernel
theorem dX10_pick_48 : decode cX10_pick 48 = .ok (.bipush 64, 2) := by decide +kernel
theorem dX10_pick_50 : decode cX10_pick 50 = .ok (.iaload, 1) := by decide +kernel
theorem dX10_pick_51 : decode cX10_pick 51 = .ok (.istore 4, 2) := by decide +kernel
theorem dX10_pick_53 : decode cX10_pick 53 = .ok (.iload_n 3, 1) := by decide +kernel
theorem dX10_pick_54 : decode cX10_pick 54 = .ok (.iconst (-1), 1) := by decide +kernel
theorem dX10_pick_55 : decode cX10_pick 55 = .ok (.if_icmp .ne 8, 3) := by decide +kernel
theorem dX10_pick_58 : decode cX10_pick 58 = .ok (.iload 4, 2) := by decide +kernel
theorem dX10_pick_60 : decode cX10_pick 60 = .ok (.goto 22, 3) := by decide +kernel
theorem dX10_pick_63 : decode cX10_pick 63 = .ok (.iload_n 3, 1) := by decide +kernel
theorem dX10_pick_64 : decode cX10_pick 64 = .ok (.iload 4, 2) := by decide +kernel
theorem dX10_pick_66 : decode cX10_pick 66 = .ok (.if_icmp .ge 15, 3) := by decide +kernel
theorem dX10_pick_69 : decode cX10_pick 69 = .ok (.aload_n 0, 1) := by decide +kernel
theorem dX10_pick_70 : decode cX10_pick 70 = .ok (.getfield 9, 3) := by decide +kernel
theorem dX10_pick_73 : decode cX10_pick 73 = .ok (.bipush 46, 2) := by decide +kernel
theorem dX10_pick_75 : decode cX10_pick 75 = .ok (.iload_n 3, 1) := by decide +kernel
theorem dX10_pick_76 : decode cX10_pick 76 = .ok (.iadd, 1) := by decide +kernel
theorem dX10_pick_77 : decode cX10_pick 77 = .ok (.iaload, 1) := by decide +kernel
theorem dX10_pick_78 : decode cX10_pick 78 = .ok (.goto 4, 3) := by decide +kernel
theorem dX10_pick_81 : decode cX10_pick 81 = .ok (.iconst (-1), 1) := by decide +kernel
theorem dX10_pick_82 : decode cX10_pick 82 = .ok (.ireturn, 1) := by decide +kernel
theorem dX10_fair_0 : decode cX10_fair 0 = .ok (.aload_n 0, 1) := by decide +kernel
theorem dX10_fair_1 : decode cX10_fair 1 = .ok (.iload_n 1, 1) := by decide +kernel
theorem dX10_fair_2 : decode cX10_fair 2 = .ok (.invokevirtual 141, 3) := by decide +kernel
theorem dX10_fair_5 : decode cX10_fair 5 = .ok (.ifCond .eq 11, 3) := by decide +kernel
theorem dX10_fair_8 : decode cX10_fair 8 = .ok (.aload_n 0, 1) := by decide +kernel
theorem dX10_fair_9 : decode cX10_fair 9 = .ok (.iload_n 2, 1) := by decide +kernel
theorem dX10_fair_10 : decode cX10_fair 10 = .ok (.invokevirtual 141, 3) := by decide +kernel
theorem dX10_fair_13 : decode cX10_fair 13 = .ok (.ifCond .ne 5, 3) := by decide +kernel
theorem dX10_fair_16 : decode cX10_fair 16 = .ok (.iconst (-1), 1) := by decide +kernel
theorem dX10_fair_17 : decode cX10_fair 17 = .ok (.ireturn, 1) := by decide +kernel
theorem dX10_fair_18 : decode cX10_fair 18 = .ok (.aload_n 0, 1) := by decide +kernel
theorem dX10_fair_19 : decode cX10_fair 19 = .ok (.iload_n 1, 1) := by decide +kernel
theorem dX10_fair_20 : decode cX10_fair 20 = .ok (.iload_n 2, 1) := by decide +kernel
theorem dX10_fair_21 : decode cX10_fair 21 = .ok (.invokevirtual 190, 3) := by decide +kernel
theorem dX10_fair_24 : decode cX10_fair 24 = .ok (.ifCond .ne 6, 3) := by decide +kernel
theorem dX10_fair_27 : decode cX10_fair 27 = .ok (.bipush (-3), 2) := by decide +kernel
theorem dX10_fair_29 : decode cX10_fair 29 = .ok (.ireturn, 1) := by decide +kernel
theorem dX10_fair_30 : decode cX10_fair 30 = .ok (.iconst 0, 1) := by decide +kernel
theorem dX10_fair_31 : decode cX10_fair 31 = .ok (.istore_n 3, 1) := by decide +kernel
theorem dX10_fair_32 : decode cX10_fair 32 = .ok (.lconst 0, 1) := by decide +kernel
theorem dX10_fair_33 : decode cX10_fair 33 = .ok (.lstore 4, 2) := by decide +kernel
theorem dX10_fair_35 : decode cX10_fair 35 = .ok (.lconst 1, 1) := by decide +kernel
theorem dX10_fair_36 : decode cX10_fair 36 = .ok (.lstore 6, 2) := by decide +kernel
theorem dX10_fair_38 : decode cX10_fair 38 = .ok (.iconst 1, 1) := by decide +kernel
theorem dX10_fair_39 : decode cX10_fair 39 = .ok (.istore 8, 2) := by decide +kernel
theorem dX10_fair_41 : decode cX10_fair 41 = .ok (.iload 8, 2) := by decide +kernel
theorem dX10_fair_43 : decode cX10_fair 43 = .ok (.bipush 10, 2) := by decide +kernel
theorem dX10_fair_45 : decode cX10_fair 45 = .ok (.if_icmp .ge 102, 3) := by decide +kernel
theorem dX10_fair_48 : decode cX10_fair 48 = .ok (.aload_n 0, 1) := by decide +kernel
theorem dX10_fair_49 : decode cX10_fair 49 = .ok (.getfield 9, 3) := by decide +kernel
theorem dX10_fair_52 : decode cX10_fair 52 = .ok (.bipush 8, 2) := by decide +kernel
theorem dX10_fair_54 : decode cX10_fair 54 = .ok (.iload 8, 2) := by decide +kernel
theorem dX10_fair_56 : decode cX10_fair 56 = .ok (.iastore, 1) := by decide +kernel
theorem dX10_fair_57 : decode cX10_fair 57 = .ok (.aload_n 0, 1) := by decide +kernel
theorem dX10_fair_58 : decode cX10_fair 58 = .ok (.iload_n 1, 1) := by decide +kernel
theorem dX10_fair_59 : decode cX10_fair 59 = .ok (.iload_n 2, 1) := by decide +kernel
theorem dX10_fair_60 : decode cX10_fair 60 = .ok (.invokevirtual 193, 3) := by decide +kernel
theorem dX10_fair_63 : decode cX10_fair 63 = .ok (.aload_n 0, 1) := by decide +kernel
theorem dX10_fair_64 : decode cX10_fair 64 = .ok (.getfield 166, 3) := by decide +kernel
theorem dX10_fair_67 : decode cX10_fair 67 = .ok (.aload_n 0, 1) := by decide +kernel
theorem dX10_fair_68 : decode cX10_fair 68 = .ok (.getfield 170, 3) := by decide +kernel
theorem dX10_fair_71 : decode cX10_fair 71 = .ok (.lcmp, 1) := by decide +kernel
theorem dX10_fair_72 : decode cX10_fair 72 = .ok (.ifCond .ge 15, 3) := by decide +kernel
theorem dX10_fair_75 : decode cX10_fair 75 = .ok (.aload_n 0, 1) := by decide +kernel
theorem dX10_fair_76 : decode cX10_fair 76 = .ok (.getfield 170, 3) := by decide +kernel
theorem dX10_fair_79 : decode cX10_fair 79 = .ok (.aload_n 0, 1) := by decide +kernel
theorem dX10_fair_80 : decode cX10_fair 80 = .ok (.getfield 166, 3) := by decide +kernel
theorem dX10_fair_83 : decode cX10_fair 83 = .ok (.lsub, 1) := by decide +kernel
theorem dX10_fair_84 : decode cX10_fair 84 = .ok (.goto 12, 3) := by decide +kernel
theorem dX10_fair_87 : decode cX10_fair 87 = .ok (.aload_n 0, 1) := by decide +kernel
theorem dX10_fair_88 : decode cX10_fair 88 = .ok (.getfield 166, 3) := by decide +kernel
theorem dX10_fair_91 : decode cX10_fair 91 = .ok (.aload_n 0, 1) := by decide +kernel
theorem dX10_fair_92 : decode cX10_fair 92 = .ok (.getfield 170, 3) := by decide +kernel
theorem dX10_fair_95 : decode cX10_fair 95 = .ok (.lsub, 1) := by decide +kernel
theorem dX10_fair_96 : decode cX10_fair 96 = .ok (.lstore 9, 2) := by decide +kernel
theorem dX10_fair_98 : decode cX10_fair 98 = .ok (.iload_n 3, 1) := by decide +kernel
theorem dX10_fair_99 : decode cX10_fair 99 = .ok (.ifCond .eq 24, 3) := by decide +kernel
theorem dX10_fair_102 : decode cX10_fair 102 = .ok (.lload 9, 2) := by decide +kernel
theorem dX10_fair_104 : decode cX10_fair 104 = .ok (.aload_n 0, 1) := by decide +kernel
theorem dX10_fair_105 : decode cX10_fair 105 = .ok (.getfield 166, 3) := by decide +kernel
theorem dX10_fair_108 : decode cX10_fair 108 = .ok (.aload_n 0, 1) := by decide +kernel
theorem dX10_fair_109 : decode cX10_fair 109 = .ok (.getfield 170, 3) := by decide +kernel
theorem dX10_fair_112 : decode cX10_fair 112 = .ok (.ladd, 1) := by decide +kernel
theorem dX10_fair_113 : decode cX10_fair 113 = .ok (.lload 4, 2) := by decide +kernel
theorem dX10_fair_115 : decode cX10_fair 115 = .ok (.lload 6, 2) := by decide +kernel
theorem dX10_fair_117 : decode cX10_fair 117 = .ok (.invokestatic 214, 3) := by decide +kernel
theorem dX10_fair_120 : decode cX10_fair 120 = .ok (.ifCond .eq 21, 3) := by decide +kernel
theorem dX10_fair_123 : decode cX10_fair 123 = .ok (.iload 8, 2) := by decide +kernel
theorem dX10_fair_125 : decode cX10_fair 125 = .ok (.istore_n 3, 1) := by decide +kernel
theorem dX10_fair_126 : decode cX10_fair 126 = .ok (.lload 9, 2) := by decide +kernel
theorem dX10_fair_128 : decode cX10_fair 128 = .ok (.lstore 4, 2) := by decide +kernel
theorem dX10_fair_130 : decode cX10_fair 130 = .ok (.aload_n 0, 1) := by decide +kernel
theorem dX10_fair_131 : decode cX10_fair 131 = .ok (.getfield 166, 3) := by decide +kernel
theorem dX10_fair_134 : decode cX10_fair 134 = .ok (.aload_n 0, 1) := by decide +kernel
theorem dX10_fair_135 : decode cX10_fair 135 = .ok (.getfield 170, 3) := by decide +kernel
theorem dX10_fair_138 : decode cX10_fair 138 = .ok (.ladd, 1) := by decide +kernel
theorem dX10_fair_139 : decode cX10_fair 139 = .ok (.lstore 6, 2) := by decide +kernel
theorem dX10_fair_141 : decode cX10_fair 141 = .ok (.iinc 8 1, 3) := by decide +kernel
theorem dX10_fair_144 : decode cX10_fair 144 = .ok (.goto (-103), 3) := by decide +kernel
theorem dX10_fair_147 : decode cX10_fair 147 = .ok (.aload_n 0, 1) := by decide +kernel
theorem dX10_fair_148 : decode cX10_fair 148 = .ok (.getfield 9, 3) := by decide +kernel
theorem dX10_fair_151 : decode cX10_fair 151 = .ok (.bipush 8, 2) := by decide +kernel
theorem dX10_fair_153 : decode cX10_fair 153 = .ok (.iconst 0, 1) := by decide +kernel
theorem dX10_fair_154 : decode cX10_fair 154 = .ok (.iastore, 1) := by decide +kernel
theorem dX10_fair_155 : decode cX10_fair 155 = .ok (.iload_n 3, 1) := by decide +kernel
theorem dX10_fair_156 : decode cX10_fair 156 = .ok (.ireturn, 1) := by decide +kernel
theorem dX10_threes_0 : decode cX10_threes 0 = .ok (.iconst 1, 1) := by decide +kernel
theorem dX10_threes_1 : decode cX10_threes 1 = .ok (.istore_n 1, 1) := by decide +kernel
theorem dX10_threes_2 : decode cX10_threes 2 = .ok (.iconst 0, 1) := by decide +kernel
theorem dX10_threes_3 : decode cX10_threes 3 = .ok (.istore_n 2, 1) := by decide +kernel
theorem dX10_threes_4 : decode cX10_threes 4 = .ok (.iload_n 2, 1) := by decide +kernel
theorem dX10_threes_5 : decode cX10_threes 5 = .ok (.iload_n 0, 1) := by decide +kernel
theorem dX10_threes_6 : decode cX10_threes 6 = .ok (.if_icmp .ge 13, 3) := by decide +kernel
theorem dX10_threes_9 : decode cX10_threes 9 = .ok (.iload_n 1, 1) := by decide +kernel
theorem dX10_threes_10 : decode cX10_threes 10 = .ok (.iconst 3, 1) := by decide +kernel
theorem dX10_threes_11 : decode cX10_threes 11 = .ok (.imul, 1) := by decide +kernel
theorem dX10_threes_12 : decode cX10_threes 12 = .ok (.istore_n 1, 1) := by decide +kernel
theorem dX10_threes_13 : decode cX10_threes 13 = .ok (.iinc 2 1, 3) := by decide +kernel
theorem dX10_threes_16 : decode cX10_threes 16 = .ok (.goto (-12), 3) := by decide +kernel
theorem dX10_threes_19 : decode cX10_threes 19 = .ok (.iload_n 1, 1) := by decide +kernel
theorem dX10_threes_20 : decode cX10_threes 20 = .ok (.ireturn, 1) := by decide +kernel
theorem dX10_doesEnd_0 : decode cX10_doesEnd 0 = .ok (.aload_n 0, 1) := by decide +kernel
theorem dX10_doesEnd_1 : decode cX10_doesEnd 1 = .ok (.getfield 9, 3) := by decide +kernel
theorem dX10_doesEnd_4 : decode cX10_doesEnd 4 = .ok (.bipush 58, 2) := by decide +kernel
theorem dX10_doesEnd_6 : decode cX10_doesEnd 6 = .ok (.iload_n 2, 1) := by decide +kernel
theorem dX10_doesEnd_7 : decode cX10_doesEnd 7 = .ok (.iadd, 1) := by decide +kernel
theorem dX10_doesEnd_8 : decode cX10_doesEnd 8 = .ok (.iaload, 1) := by decide +kernel
theorem dX10_doesEnd_9 : decode cX10_doesEnd 9 = .ok (.istore_n 3, 1) := by decide +kernel
theorem dX10_doesEnd_10 : decode cX10_doesEnd 10 = .ok (.iconst 0, 1) := by decide +kernel
theorem dX10_doesEnd_11 : decode cX10_doesEnd 11 = .ok (.istore 4, 2) := by decide +kernel
theorem dX10_doesEnd_13 : decode cX10_doesEnd 13 = .ok (.iconst 0, 1) := by decide +kernel
theorem dX10_doesEnd_14 : decode cX10_doesEnd 14 = .ok (.istore 5, 2) := by decide +kernel
theorem dX10_doesEnd_16 : decode cX10_doesEnd 16 = .ok (.iload 5, 2) := by decide +kernel
theorem dX10_doesEnd_18 : decode cX10_doesEnd 18 = .ok (.iload_n 3, 1) := by decide +kernel
theorem dX10_doesEnd_19 : decode cX10_doesEnd 19 = .ok (.if_icmp .ge 31, 3) := by decide +kernel
theorem dX10_doesEnd_22 : decode cX10_doesEnd 22 = .ok (.iconst 3, 1) := by decide +kernel
theorem dX10_doesEnd_23 : decode cX10_doesEnd 23 = .ok (.iload 4, 2) := by decide +kernel
theorem dX10_doesEnd_25 : decode cX10_doesEnd 25 = .ok (.imul, 1) := by decide +kernel
theorem dX10_doesEnd_26 : decode cX10_doesEnd 26 = .ok (.aload_n 0, 1) := by decide +kernel
theorem dX10_doesEnd_27 : decode cX10_doesEnd 27 = .ok (.getfield 9, 3) := by decide +kernel
theorem dX10_doesEnd_30 : decode cX10_doesEnd 30 = .ok (.bipush 10, 2) := by decide +kernel
theorem dX10_doesEnd_32 : decode cX10_doesEnd 32 = .ok (.bipush 6, 2) := by decide +kernel
theorem dX10_doesEnd_34 : decode cX10_doesEnd 34 = .ok (.iload_n 2, 1) := by decide +kernel
theorem dX10_doesEnd_35 : decode cX10_doesEnd 35 = .ok (.imul, 1) := by decide +kernel
theorem dX10_doesEnd_36 : decode cX10_doesEnd 36 = .ok (.iadd, 1) := by decide +kernel
theorem dX10_doesEnd_37 : decode cX10_doesEnd 37 = .ok (.iload 5, 2) := by decide +kernel
theorem dX10_doesEnd_39 : decode cX10_doesEnd 39 = .ok (.iadd, 1) := by decide +kernel
theorem dX10_doesEnd_40 : decode cX10_doesEnd 40 = .ok (.iaload, 1) := by decide +kernel
theorem dX10_doesEnd_41 : decode cX10_doesEnd 41 = .ok (.iadd, 1) := by decide +kernel
theorem dX10_doesEnd_42 : decode cX10_doesEnd 42 = .ok (.istore 4, 2) := by decide +kernel
theorem dX10_doesEnd_44 : decode cX10_doesEnd 44 = .ok (.iinc 5 1, 3) := by decide +kernel
theorem dX10_doesEnd_47 : decode cX10_doesEnd 47 = .ok (.goto (-31), 3) := by decide +kernel
theorem dX10_doesEnd_50 : decode cX10_doesEnd 50 = .ok (.iload_n 1, 1) := by decide +kernel
theorem dX10_doesEnd_51 : decode cX10_doesEnd 51 = .ok (.iload_n 3, 1) := by decide +kernel
theorem dX10_doesEnd_52 : decode cX10_doesEnd 52 = .ok (.invokestatic 237, 3) := by decide +kernel
theorem dX10_doesEnd_55 : decode cX10_doesEnd 55 = .ok (.if_icmp .lt 18, 3) := by decide +kernel
theorem dX10_doesEnd_58 : decode cX10_doesEnd 58 = .ok (.iload_n 1, 1) := by decide +kernel
theorem dX10_doesEnd_59 : decode cX10_doesEnd 59 = .ok (.iload_n 3, 1) := by decide +kernel
theorem dX10_doesEnd_60 : decode cX10_doesEnd 60 = .ok (.invokestatic 237, 3) := by decide +kernel
theorem dX10_doesEnd_63 : decode cX10_doesEnd 63 = .ok (.irem, 1) := by decide +kernel
theorem dX10_doesEnd_64 : decode cX10_doesEnd 64 = .ok (.iload 4, 2) := by decide +kernel
theorem dX10_doesEnd_66 : decode cX10_doesEnd 66 = .ok (.if_icmp .ne 7, 3) := by decide +kernel
theorem dX10_doesEnd_69 : decode cX10_doesEnd 69 = .ok (.iconst 1, 1) := by decide +kernel
theorem dX10_doesEnd_70 : decode cX10_doesEnd 70 = .ok (.goto 4, 3) := by decide +kernel
theorem dX10_doesEnd_73 : decode cX10_doesEnd 73 = .ok (.iconst 0, 1) := by decide +kernel
theorem dX10_doesEnd_74 : decode cX10_doesEnd 74 = .ok (.ireturn, 1) := by decide +kernel
theorem dX10_firstEnd_0 : decode cX10_firstEnd 0 = .ok (.iconst 0, 1) := by decide +kernel
theorem dX10_firstEnd_1 : decode cX10_firstEnd 1 = .ok (.istore_n 2, 1) := by decide +kernel
theorem dX10_firstEnd_2 : decode cX10_firstEnd 2 = .ok (.iload_n 2, 1) := by decide +kernel
theorem dX10_firstEnd_3 : decode cX10_firstEnd 3 = .ok (.aload_n 0, 1) := by decide +kernel
theorem dX10_firstEnd_4 : decode cX10_firstEnd 4 = .ok (.getfield 9, 3) := by decide +kernel
theorem dX10_firstEnd_7 : decode cX10_firstEnd 7 = .ok (.iconst 0, 1) := by decide +kernel
theorem dX10_firstEnd_8 : decode cX10_firstEnd 8 = .ok (.iaload, 1) := by decide +kernel
theorem dX10_firstEnd_9 : decode cX10_firstEnd 9 = .ok (.if_icmp .ge 28, 3) := by decide +kernel
theorem dX10_firstEnd_12 : decode cX10_firstEnd 12 = .ok (.aload_n 0, 1) := by decide +kernel
theorem dX10_firstEnd_13 : decode cX10_firstEnd 13 = .ok (.iload_n 2, 1) := by decide +kernel
theorem dX10_firstEnd_14 : decode cX10_firstEnd 14 = .ok (.invokevirtual 177, 3) := by decide +kernel
theorem dX10_firstEnd_17 : decode cX10_firstEnd 17 = .ok (.ifCond .eq 14, 3) := by decide +kernel
theorem dX10_firstEnd_20 : decode cX10_firstEnd 20 = .ok (.aload_n 0, 1) := by decide +kernel
theorem dX10_firstEnd_21 : decode cX10_firstEnd 21 = .ok (.iload_n 1, 1) := by decide +kernel
theorem dX10_firstEnd_22 : decode cX10_firstEnd 22 = .ok (.iload_n 2, 1) := by decide +kernel
theorem dX10_firstEnd_23 : decode cX10_firstEnd 23 = .ok (.invokevirtual 240, 3) := by decide +kernel
theorem dX10_firstEnd_26 : decode cX10_firstEnd 26 = .ok (.ifCond .eq 5, 3) := by decide +kernel
theorem dX10_firstEnd_29 : decode cX10_firstEnd 29 = .ok (.iload_n 2, 1) := by decide +kernel
theorem dX10_firstEnd_30 : decode cX10_firstEnd 30 = .ok (.ireturn, 1) := by decide +kernel
theorem dX10_firstEnd_31 : decode cX10_firstEnd 31 = .ok (.iinc 2 1, 3) := by decide +kernel
theorem dX10_firstEnd_34 : decode cX10_firstEnd 34 = .ok (.goto (-32), 3) := by decide +kernel
theorem dX10_firstEnd_37 : decode cX10_firstEnd 37 = .ok (.iconst (-1), 1) := by decide +kernel
theorem dX10_firstEnd_38 : decode cX10_firstEnd 38 = .ok (.ireturn, 1) := by decide +kernel
theorem dX10_looksForEnds_0 : decode cX10_looksForEnds 0 = .ok (.iconst 1, 1) := by decide +kernel
theorem dX10_looksForEnds_1 : decode cX10_looksForEnds 1 = .ok (.istore_n 1, 1) := by decide +kernel
theorem dX10_looksForEnds_2 : decode cX10_looksForEnds 2 = .ok (.iload_n 1, 1) := by decide +kernel
theorem dX10_looksForEnds_3 : decode cX10_looksForEnds 3 = .ok (.sipush 1458, 3) := by decide +kernel
theorem dX10_looksForEnds_6 : decode cX10_looksForEnds 6 = .ok (.if_icmp .ge 20, 3) := by decide +kernel
theorem dX10_looksForEnds_9 : decode cX10_looksForEnds 9 = .ok (.aload_n 0, 1) := by decide +kernel
theorem dX10_looksForEnds_10 : decode cX10_looksForEnds 10 = .ok (.getfield 35, 3) := by decide +kernel
theorem dX10_looksForEnds_13 : decode cX10_looksForEnds 13 = .ok (.iload_n 1, 1) := by decide +kernel
theorem dX10_looksForEnds_14 : decode cX10_looksForEnds 14 = .ok (.aload_n 0, 1) := by decide +kernel
theorem dX10_looksForEnds_15 : decode cX10_looksForEnds 15 = .ok (.iload_n 1, 1) := by decide +kernel
theorem dX10_looksForEnds_16 : decode cX10_looksForEnds 16 = .ok (.invokevirtual 243, 3) := by decide +kernel
theorem dX10_looksForEnds_19 : decode cX10_looksForEnds 19 = .ok (.iastore, 1) := by decide +kernel
theorem dX10_looksForEnds_20 : decode cX10_looksForEnds 20 = .ok (.iinc 1 1, 3) := by decide +kernel
theorem dX10_looksForEnds_23 : decode cX10_looksForEnds 23 = .ok (.goto (-21), 3) := by decide +kernel
theorem dX10_looksForEnds_26 : decode cX10_looksForEnds 26 = .ok (.return_, 1) := by decide +kernel
theorem dX10_throwsOn_0 : decode cX10_throwsOn 0 = .ok (.lconst 0, 1) := by decide +kernel
theorem dX10_throwsOn_1 : decode cX10_throwsOn 1 = .ok (.lstore_n 3, 1) := by decide +kernel
theorem dX10_throwsOn_2 : decode cX10_throwsOn 2 = .ok (.iconst 0, 1) := by decide +kernel
theorem dX10_throwsOn_3 : decode cX10_throwsOn 3 = .ok (.istore 5, 2) := by decide +kernel
theorem dX10_throwsOn_5 : decode cX10_throwsOn 5 = .ok (.iload 5, 2) := by decide +kernel
theorem dX10_throwsOn_7 : decode cX10_throwsOn 7 = .ok (.sipush 486, 3) := by decide +kernel
theorem dX10_throwsOn_10 : decode cX10_throwsOn 10 = .ok (.if_icmp .ge 17, 3) := by decide +kernel
theorem dX10_throwsOn_13 : decode cX10_throwsOn 13 = .ok (.aload_n 0, 1) := by decide +kernel
theorem dX10_throwsOn_14 : decode cX10_throwsOn 14 = .ok (.getfield 32, 3) := by decide +kernel
theorem dX10_throwsOn_17 : decode cX10_throwsOn 17 = .ok (.iload 5, 2) := by decide +kernel
theorem dX10_throwsOn_19 : decode cX10_throwsOn 19 = .ok (.lconst 0, 1) := by decide +kernel
theorem dX10_throwsOn_20 : decode cX10_throwsOn 20 = .ok (.lastore, 1) := by decide +kernel
theorem dX10_throwsOn_21 : decode cX10_throwsOn 21 = .ok (.iinc 5 1, 3) := by decide +kernel
theorem dX10_throwsOn_24 : decode cX10_throwsOn 24 = .ok (.goto (-19), 3) := by decide +kernel
theorem dX10_throwsOn_27 : decode cX10_throwsOn 27 = .ok (.iconst 1, 1) := by decide +kernel
theorem dX10_throwsOn_28 : decode cX10_throwsOn 28 = .ok (.istore 5, 2) := by decide +kernel
theorem dX10_throwsOn_30 : decode cX10_throwsOn 30 = .ok (.iload 5, 2) := by decide +kernel
theorem dX10_throwsOn_32 : decode cX10_throwsOn 32 = .ok (.sipush 486, 3) := by decide +kernel
theorem dX10_throwsOn_35 : decode cX10_throwsOn 35 = .ok (.if_icmp .ge 143, 3) := by decide +kernel
theorem dX10_throwsOn_38 : decode cX10_throwsOn 38 = .ok (.iconst 0, 1) := by decide +kernel
theorem dX10_throwsOn_39 : decode cX10_throwsOn 39 = .ok (.istore 6, 2) := by decide +kernel
theorem dX10_throwsOn_41 : decode cX10_throwsOn 41 = .ok (.iload 6, 2) := by decide +kernel
theorem dX10_throwsOn_43 : decode cX10_throwsOn 43 = .ok (.aload_n 0, 1) := by decide +kernel
theorem dX10_throwsOn_44 : decode cX10_throwsOn 44 = .ok (.invokevirtual 128, 3) := by decide +kernel
theorem dX10_throwsOn_47 : decode cX10_throwsOn 47 = .ok (.if_icmp .ge 125, 3) := by decide +kernel
theorem dX10_throwsOn_50 : decode cX10_throwsOn 50 = .ok (.aload_n 0, 1) := by decide +kernel
theorem dX10_throwsOn_51 : decode cX10_throwsOn 51 = .ok (.getfield 28, 3) := by decide +kernel
theorem dX10_throwsOn_54 : decode cX10_throwsOn 54 = .ok (.iload 5, 2) := by decide +kernel
theorem dX10_throwsOn_56 : decode cX10_throwsOn 56 = .ok (.laload, 1) := by decide +kernel
theorem dX10_throwsOn_57 : decode cX10_throwsOn 57 = .ok (.lconst 0, 1) := by decide +kernel
theorem dX10_throwsOn_58 : decode cX10_throwsOn 58 = .ok (.lcmp, 1) := by decide +kernel
theorem dX10_throwsOn_59 : decode cX10_throwsOn 59 = .ok (.ifCond .le 113, 3) := by decide +kernel
theorem dX10_throwsOn_62 : decode cX10_throwsOn 62 = .ok (.iconst 3, 1) := by decide +kernel
theorem dX10_throwsOn_63 : decode cX10_throwsOn 63 = .ok (.iload 5, 2) := by decide +kernel
theorem dX10_throwsOn_65 : decode cX10_throwsOn 65 = .ok (.imul, 1) := by decide +kernel
theorem dX10_throwsOn_66 : decode cX10_throwsOn 66 = .ok (.iload 6, 2) := by decide +kernel
theorem dX10_throwsOn_68 : decode cX10_throwsOn 68 = .ok (.iadd, 1) := by decide +kernel
theorem dX10_throwsOn_69 : decode cX10_throwsOn 69 = .ok (.istore 7, 2) := by decide +kernel
theorem dX10_throwsOn_71 : decode cX10_throwsOn 71 = .ok (.aload_n 0, 1) := by decide +kernel
theorem dX10_throwsOn_72 : decode cX10_throwsOn 72 = .ok (.getfield 28, 3) := by decide +kernel
theorem dX10_throwsOn_75 : decode cX10_throwsOn 75 = .ok (.iload 5, 2) := by decide +kernel
theorem dX10_throwsOn_77 : decode cX10_throwsOn 77 = .ok (.laload, 1) := by decide +kernel
theorem dX10_throwsOn_78 : decode cX10_throwsOn 78 = .ok (.iload_n 2, 1) := by decide +kernel
theorem dX10_throwsOn_79 : decode cX10_throwsOn 79 = .ok (.ifCond .eq 13, 3) := by decide +kernel
theorem dX10_throwsOn_82 : decode cX10_throwsOn 82 = .ok (.aload_n 0, 1) := by decide +kernel
theorem dX10_throwsOn_83 : decode cX10_throwsOn 83 = .ok (.getfield 25, 3) := by decide +kernel
theorem dX10_throwsOn_86 : decode cX10_throwsOn 86 = .ok (.iload 6, 2) := by decide +kernel
theorem dX10_throwsOn_88 : decode cX10_throwsOn 88 = .ok (.iaload, 1) := by decide +kernel
theorem dX10_throwsOn_89 : decode cX10_throwsOn 89 = .ok (.goto 4, 3) := by decide +kernel
theorem dX10_throwsOn_92 : decode cX10_throwsOn 92 = .ok (.iconst 1, 1) := by decide +kernel
theorem dX10_throwsOn_93 : decode cX10_throwsOn 93 = .ok (.i2l, 1) := by decide +kernel
theorem dX10_throwsOn_94 : decode cX10_throwsOn 94 = .ok (.lmul, 1) := by decide +kernel
theorem dX10_throwsOn_95 : decode cX10_throwsOn 95 = .ok (.lstore 8, 2) := by decide +kernel
theorem dX10_throwsOn_97 : decode cX10_throwsOn 97 = .ok (.aload_n 0, 1) := by decide +kernel
theorem dX10_throwsOn_98 : decode cX10_throwsOn 98 = .ok (.getfield 35, 3) := by decide +kernel
theorem dX10_throwsOn_101 : decode cX10_throwsOn 101 = .ok (.iload 7, 2) := by decide +kernel
theorem dX10_throwsOn_103 : decode cX10_throwsOn 103 = .ok (.iaload, 1) := by decide +kernel
theorem dX10_throwsOn_104 : decode cX10_throwsOn 104 = .ok (.istore 10, 2) := by decide +kernel
theorem dX10_throwsOn_106 : decode cX10_throwsOn 106 = .ok (.lload_n 3, 1) := by decide +kernel
theorem dX10_throwsOn_107 : decode cX10_throwsOn 107 = .ok (.iload 10, 2) := by decide +kernel
theorem dX10_throwsOn_109 : decode cX10_throwsOn 109 = .ok (.iconst (-1), 1) := by decide +kernel
theorem dX10_throwsOn_110 : decode cX10_throwsOn 110 = .ok (.if_icmp .eq 14, 3) := by decide +kernel
theorem dX10_throwsOn_113 : decode cX10_throwsOn 113 = .ok (.iload 10, 2) := by decide +kernel
theorem dX10_throwsOn_115 : decode cX10_throwsOn 115 = .ok (.iload_n 1, 1) := by decide +kernel
theorem dX10_throwsOn_116 : decode cX10_throwsOn 116 = .ok (.if_icmp .ne 8, 3) := by decide +kernel
theorem dX10_throwsOn_119 : decode cX10_throwsOn 119 = .ok (.lload 8, 2) := by decide +kernel
theorem dX10_throwsOn_121 : decode cX10_throwsOn 121 = .ok (.goto 4, 3) := by decide +kernel
theorem dX10_throwsOn_124 : decode cX10_throwsOn 124 = .ok (.lconst 0, 1) := by decide +kernel
theorem dX10_throwsOn_125 : decode cX10_throwsOn 125 = .ok (.ladd, 1) := by decide +kernel
theorem dX10_throwsOn_126 : decode cX10_throwsOn 126 = .ok (.lstore_n 3, 1) := by decide +kernel
theorem dX10_throwsOn_127 : decode cX10_throwsOn 127 = .ok (.iload 10, 2) := by decide +kernel
theorem dX10_throwsOn_129 : decode cX10_throwsOn 129 = .ok (.iconst (-1), 1) := by decide +kernel
theorem dX10_throwsOn_130 : decode cX10_throwsOn 130 = .ok (.if_icmp .ne 36, 3) := by decide +kernel
theorem dX10_throwsOn_133 : decode cX10_throwsOn 133 = .ok (.aload_n 0, 1) := by decide +kernel
theorem dX10_throwsOn_134 : decode cX10_throwsOn 134 = .ok (.getfield 32, 3) := by decide +kernel
theorem dX10_throwsOn_137 : decode cX10_throwsOn 137 = .ok (.iload 7, 2) := by decide +kernel
theorem dX10_throwsOn_139 : decode cX10_throwsOn 139 = .ok (.sipush 486, 3) := by decide +kernel
theorem dX10_throwsOn_142 : decode cX10_throwsOn 142 = .ok (.if_icmp .ge 8, 3) := by decide +kernel
theorem dX10_throwsOn_145 : decode cX10_throwsOn 145 = .ok (.iload 7, 2) := by decide +kernel
theorem dX10_throwsOn_147 : decode cX10_throwsOn 147 = .ok (.goto 13, 3) := by decide +kernel
theorem dX10_throwsOn_150 : decode cX10_throwsOn 150 = .ok (.sipush 243, 3) := by decide +kernel
theorem dX10_throwsOn_153 : decode cX10_throwsOn 153 = .ok (.iload 7, 2) := by decide +kernel
theorem dX10_throwsOn_155 : decode cX10_throwsOn 155 = .ok (.sipush 243, 3) := by decide +kernel
theorem dX10_throwsOn_158 : decode cX10_throwsOn 158 = .ok (.irem, 1) := by decide +kernel
theorem dX10_throwsOn_159 : decode cX10_throwsOn 159 = .ok (.iadd, 1) := by decide +kernel
theorem dX10_throwsOn_160 : decode cX10_throwsOn 160 = .ok (.dup2, 1) := by decide +kernel
theorem dX10_throwsOn_161 : decode cX10_throwsOn 161 = .ok (.laload, 1) := by decide +kernel
theorem dX10_throwsOn_162 : decode cX10_throwsOn 162 = .ok (.lload 8, 2) := by decide +kernel
theorem dX10_throwsOn_164 : decode cX10_throwsOn 164 = .ok (.ladd, 1) := by decide +kernel
theorem dX10_throwsOn_165 : decode cX10_throwsOn 165 = .ok (.lastore, 1) := by decide +kernel
theorem dX10_throwsOn_166 : decode cX10_throwsOn 166 = .ok (.iinc 6 1, 3) := by decide +kernel
theorem dX10_throwsOn_169 : decode cX10_throwsOn 169 = .ok (.goto (-128), 3) := by decide +kernel
theorem dX10_throwsOn_172 : decode cX10_throwsOn 172 = .ok (.iinc 5 1, 3) := by decide +kernel
theorem dX10_throwsOn_175 : decode cX10_throwsOn 175 = .ok (.goto (-145), 3) := by decide +kernel
theorem dX10_throwsOn_178 : decode cX10_throwsOn 178 = .ok (.aload_n 0, 1) := by decide +kernel
theorem dX10_throwsOn_179 : decode cX10_throwsOn 179 = .ok (.getfield 28, 3) := by decide +kernel
theorem dX10_throwsOn_182 : decode cX10_throwsOn 182 = .ok (.astore 5, 2) := by decide +kernel
theorem dX10_throwsOn_184 : decode cX10_throwsOn 184 = .ok (.aload_n 0, 1) := by decide +kernel
theorem dX10_throwsOn_185 : decode cX10_throwsOn 185 = .ok (.aload_n 0, 1) := by decide +kernel
theorem dX10_throwsOn_186 : decode cX10_throwsOn 186 = .ok (.getfield 32, 3) := by decide +kernel
theorem dX10_throwsOn_189 : decode cX10_throwsOn 189 = .ok (.putfield 28, 3) := by decide +kernel
theorem dX10_throwsOn_192 : decode cX10_throwsOn 192 = .ok (.aload_n 0, 1) := by decide +kernel
theorem dX10_throwsOn_193 : decode cX10_throwsOn 193 = .ok (.aload 5, 2) := by decide +kernel
theorem dX10_throwsOn_195 : decode cX10_throwsOn 195 = .ok (.putfield 32, 3) := by decide +kernel
theorem dX10_throwsOn_198 : decode cX10_throwsOn 198 = .ok (.lload_n 3, 1) := by decide +kernel
theorem dX10_throwsOn_199 : decode cX10_throwsOn 199 = .ok (.lreturn, 1) := by decide +kernel
theorem dX10_beginsThrows_0 : decode cX10_beginsThrows 0 = .ok (.aload_n 0, 1) := by decide +kernel
theorem dX10_beginsThrows_1 : decode cX10_beginsThrows 1 = .ok (.invokevirtual 138, 3) := by decide +kernel
theorem dX10_beginsThrows_4 : decode cX10_beginsThrows 4 = .ok (.aload_n 0, 1) := by decide +kernel
theorem dX10_beginsThrows_5 : decode cX10_beginsThrows 5 = .ok (.invokevirtual 246, 3) := by decide +kernel
theorem dX10_beginsThrows_8 : decode cX10_beginsThrows 8 = .ok (.iconst 0, 1) := by decide +kernel
theorem dX10_beginsThrows_9 : decode cX10_beginsThrows 9 = .ok (.istore_n 1, 1) := by decide +kernel
theorem dX10_beginsThrows_10 : decode cX10_beginsThrows 10 = .ok (.iload_n 1, 1) := by decide +kernel
theorem dX10_beginsThrows_11 : decode cX10_beginsThrows 11 = .ok (.sipush 486, 3) := by decide +kernel
theorem dX10_beginsThrows_14 : decode cX10_beginsThrows 14 = .ok (.if_icmp .ge 25, 3) := by decide +kernel
theorem dX10_beginsThrows_17 : decode cX10_beginsThrows 17 = .ok (.aload_n 0, 1) := by decide +kernel
theorem dX10_beginsThrows_18 : decode cX10_beginsThrows 18 = .ok (.getfield 28, 3) := by decide +kernel
theorem dX10_beginsThrows_21 : decode cX10_beginsThrows 21 = .ok (.iload_n 1, 1) := by decide +kernel
theorem dX10_beginsThrows_22 : decode cX10_beginsThrows 22 = .ok (.iload_n 1, 1) := by decide +kernel
theorem dX10_beginsThrows_23 : decode cX10_beginsThrows 23 = .ok (.iconst 1, 1) := by decide +kernel
theorem dX10_beginsThrows_24 : decode cX10_beginsThrows 24 = .ok (.if_icmp .ne 7, 3) := by decide +kernel
theorem dX10_beginsThrows_27 : decode cX10_beginsThrows 27 = .ok (.lconst 1, 1) := by decide +kernel
theorem dX10_beginsThrows_28 : decode cX10_beginsThrows 28 = .ok (.goto 4, 3) := by decide +kernel
theorem dX10_beginsThrows_31 : decode cX10_beginsThrows 31 = .ok (.lconst 0, 1) := by decide +kernel
theorem dX10_beginsThrows_32 : decode cX10_beginsThrows 32 = .ok (.lastore, 1) := by decide +kernel
theorem dX10_beginsThrows_33 : decode cX10_beginsThrows 33 = .ok (.iinc 1 1, 3) := by decide +kernel
theorem dX10_beginsThrows_36 : decode cX10_beginsThrows 36 = .ok (.goto (-26), 3) := by decide +kernel
theorem dX10_beginsThrows_39 : decode cX10_beginsThrows 39 = .ok (.return_, 1) := by decide +kernel
theorem dX10_within_0 : decode cX10_within 0 = .ok (.aload_n 0, 1) := by decide +kernel
theorem dX10_within_1 : decode cX10_within 1 = .ok (.iload_n 1, 1) := by decide +kernel
theorem dX10_within_2 : decode cX10_within 2 = .ok (.invokevirtual 141, 3) := by decide +kernel
theorem dX10_within_5 : decode cX10_within 5 = .ok (.ifCond .eq 30, 3) := by decide +kernel
theorem dX10_within_8 : decode cX10_within 8 = .ok (.aload_n 0, 1) := by decide +kernel
theorem dX10_within_9 : decode cX10_within 9 = .ok (.iload_n 1, 1) := by decide +kernel
theorem dX10_within_10 : decode cX10_within 10 = .ok (.invokevirtual 177, 3) := by decide +kernel
theorem dX10_within_13 : decode cX10_within 13 = .ok (.ifCond .eq 22, 3) := by decide +kernel
theorem dX10_within_16 : decode cX10_within 16 = .ok (.iload_n 2, 1) := by decide +kernel
theorem dX10_within_17 : decode cX10_within 17 = .ok (.iconst 0, 1) := by decide +kernel
theorem dX10_within_18 : decode cX10_within 18 = .ok (.bipush 15, 2) := by decide +kernel
theorem dX10_within_20 : decode cX10_within 20 = .ok (.invokestatic 45, 3) := by decide +kernel
theorem dX10_within_23 : decode cX10_within 23 = .ok (.ifCond .eq 12, 3) := by decide +kernel
theorem dX10_within_26 : decode cX10_within 26 = .ok (.iload_n 3, 1) := by decide +kernel
theorem dX10_within_27 : decode cX10_within 27 = .ok (.iconst 0, 1) := by decide +kernel
theorem dX10_within_28 : decode cX10_within 28 = .ok (.iconst 1, 1) := by decide +kernel
theorem dX10_within_29 : decode cX10_within 29 = .ok (.invokestatic 45, 3) := by decide +kernel
theorem dX10_within_32 : decode cX10_within 32 = .ok (.ifCond .ne 7, 3) := by decide +kernel
theorem dX10_within_35 : decode cX10_within 35 = .ok (.ldc2_w 184, 3) := by decide +kernel
theorem dX10_within_38 : decode cX10_within 38 = .ok (.lreturn, 1) := by decide +kernel
theorem dX10_within_39 : decode cX10_within 39 = .ok (.aload_n 0, 1) := by decide +kernel
theorem dX10_within_40 : decode cX10_within 40 = .ok (.invokevirtual 249, 3) := by decide +kernel
theorem dX10_within_43 : decode cX10_within 43 = .ok (.lconst 0, 1) := by decide +kernel
theorem dX10_within_44 : decode cX10_within 44 = .ok (.lstore 4, 2) := by decide +kernel
theorem dX10_within_46 : decode cX10_within 46 = .ok (.lconst 1, 1) := by decide +kernel
theorem dX10_within_47 : decode cX10_within 47 = .ok (.lstore 6, 2) := by decide +kernel
theorem dX10_within_49 : decode cX10_within 49 = .ok (.iconst 0, 1) := by decide +kernel
theorem dX10_within_50 : decode cX10_within 50 = .ok (.istore 8, 2) := by decide +kernel
theorem dX10_within_52 : decode cX10_within 52 = .ok (.iload 8, 2) := by decide +kernel
theorem dX10_within_54 : decode cX10_within 54 = .ok (.iload_n 2, 1) := by decide +kernel
theorem dX10_within_55 : decode cX10_within 55 = .ok (.if_icmp .ge 36, 3) := by decide +kernel
theorem dX10_within_58 : decode cX10_within 58 = .ok (.lload 4, 2) := by decide +kernel
theorem dX10_within_60 : decode cX10_within 60 = .ok (.aload_n 0, 1) := by decide +kernel
theorem dX10_within_61 : decode cX10_within 61 = .ok (.getfield 131, 3) := by decide +kernel
theorem dX10_within_64 : decode cX10_within 64 = .ok (.i2l, 1) := by decide +kernel
theorem dX10_within_65 : decode cX10_within 65 = .ok (.lmul, 1) := by decide +kernel
theorem dX10_within_66 : decode cX10_within 66 = .ok (.aload_n 0, 1) := by decide +kernel
theorem dX10_within_67 : decode cX10_within 67 = .ok (.iload_n 1, 1) := by decide +kernel
theorem dX10_within_68 : decode cX10_within 68 = .ok (.iconst 1, 1) := by decide +kernel
theorem dX10_within_69 : decode cX10_within 69 = .ok (.invokevirtual 252, 3) := by decide +kernel
theorem dX10_within_72 : decode cX10_within 72 = .ok (.ladd, 1) := by decide +kernel
theorem dX10_within_73 : decode cX10_within 73 = .ok (.lstore 4, 2) := by decide +kernel
theorem dX10_within_75 : decode cX10_within 75 = .ok (.lload 6, 2) := by decide +kernel
theorem dX10_within_77 : decode cX10_within 77 = .ok (.aload_n 0, 1) := by decide +kernel
theorem dX10_within_78 : decode cX10_within 78 = .ok (.getfield 131, 3) := by decide +kernel
theorem dX10_within_81 : decode cX10_within 81 = .ok (.i2l, 1) := by decide +kernel
theorem dX10_within_82 : decode cX10_within 82 = .ok (.lmul, 1) := by decide +kernel
theorem dX10_within_83 : decode cX10_within 83 = .ok (.lstore 6, 2) := by decide +kernel
theorem dX10_within_85 : decode cX10_within 85 = .ok (.iinc 8 1, 3) := by decide +kernel
theorem dX10_within_88 : decode cX10_within 88 = .ok (.goto (-36), 3) := by decide +kernel
theorem dX10_within_91 : decode cX10_within 91 = .ok (.lload 4, 2) := by decide +kernel
theorem dX10_within_93 : decode cX10_within 93 = .ok (.lload 6, 2) := by decide +kernel
theorem dX10_within_95 : decode cX10_within 95 = .ok (.iload_n 3, 1) := by decide +kernel
theorem dX10_within_96 : decode cX10_within 96 = .ok (.invokestatic 186, 3) := by decide +kernel
theorem dX10_within_99 : decode cX10_within 99 = .ok (.lreturn, 1) := by decide +kernel
theorem dX10_often_0 : decode cX10_often 0 = .ok (.aload_n 0, 1) := by decide +kernel
theorem dX10_often_1 : decode cX10_often 1 = .ok (.iload_n 1, 1) := by decide +kernel
theorem dX10_often_2 : decode cX10_often 2 = .ok (.invokevirtual 141, 3) := by decide +kernel
theorem dX10_often_5 : decode cX10_often 5 = .ok (.ifCond .eq 30, 3) := by decide +kernel
theorem dX10_often_8 : decode cX10_often 8 = .ok (.aload_n 0, 1) := by decide +kernel
theorem dX10_often_9 : decode cX10_often 9 = .ok (.iload_n 1, 1) := by decide +kernel
theorem dX10_often_10 : decode cX10_often 10 = .ok (.invokevirtual 177, 3) := by decide +kernel
theorem dX10_often_13 : decode cX10_often 13 = .ok (.ifCond .eq 22, 3) := by decide +kernel
theorem dX10_often_16 : decode cX10_often 16 = .ok (.iload_n 2, 1) := by decide +kernel
theorem dX10_often_17 : decode cX10_often 17 = .ok (.iconst 0, 1) := by decide +kernel
theorem dX10_often_18 : decode cX10_often 18 = .ok (.bipush 60, 2) := by decide +kernel
theorem dX10_often_20 : decode cX10_often 20 = .ok (.invokestatic 45, 3) := by decide +kernel
theorem dX10_often_23 : decode cX10_often 23 = .ok (.ifCond .eq 12, 3) := by decide +kernel
theorem dX10_often_26 : decode cX10_often 26 = .ok (.iload_n 3, 1) := by decide +kernel
theorem dX10_often_27 : decode cX10_often 27 = .ok (.iconst 0, 1) := by decide +kernel
theorem dX10_often_28 : decode cX10_often 28 = .ok (.iconst 1, 1) := by decide +kernel
theorem dX10_often_29 : decode cX10_often 29 = .ok (.invokestatic 45, 3) := by decide +kernel
theorem dX10_often_32 : decode cX10_often 32 = .ok (.ifCond .ne 7, 3) := by decide +kernel
theorem dX10_often_35 : decode cX10_often 35 = .ok (.ldc2_w 184, 3) := by decide +kernel
theorem dX10_often_38 : decode cX10_often 38 = .ok (.lreturn, 1) := by decide +kernel
theorem dX10_often_39 : decode cX10_often 39 = .ok (.aload_n 0, 1) := by decide +kernel
theorem dX10_often_40 : decode cX10_often 40 = .ok (.invokevirtual 138, 3) := by decide +kernel
theorem dX10_often_43 : decode cX10_often 43 = .ok (.lconst 1, 1) := by decide +kernel
theorem dX10_often_44 : decode cX10_often 44 = .ok (.lstore 4, 2) := by decide +kernel
theorem dX10_often_46 : decode cX10_often 46 = .ok (.iconst 0, 1) := by decide +kernel
theorem dX10_often_47 : decode cX10_often 47 = .ok (.istore 6, 2) := by decide +kernel
theorem dX10_often_49 : decode cX10_often 49 = .ok (.iload 6, 2) := by decide +kernel
theorem dX10_often_51 : decode cX10_often 51 = .ok (.aload_n 0, 1) := by decide +kernel
theorem dX10_often_52 : decode cX10_often 52 = .ok (.getfield 9, 3) := by decide +kernel
theorem dX10_often_55 : decode cX10_often 55 = .ok (.bipush 58, 2) := by decide +kernel
theorem dX10_often_57 : decode cX10_often 57 = .ok (.iload_n 1, 1) := by decide +kernel
theorem dX10_often_58 : decode cX10_often 58 = .ok (.iadd, 1) := by decide +kernel
theorem dX10_often_59 : decode cX10_often 59 = .ok (.iaload, 1) := by decide +kernel
theorem dX10_often_60 : decode cX10_often 60 = .ok (.if_icmp .ge 19, 3) := by decide +kernel
theorem dX10_often_63 : decode cX10_often 63 = .ok (.lload 4, 2) := by decide +kernel
theorem dX10_often_65 : decode cX10_often 65 = .ok (.aload_n 0, 1) := by decide +kernel
theorem dX10_often_66 : decode cX10_often 66 = .ok (.getfield 131, 3) := by decide +kernel
theorem dX10_often_69 : decode cX10_often 69 = .ok (.i2l, 1) := by decide +kernel
theorem dX10_often_70 : decode cX10_often 70 = .ok (.lmul, 1) := by decide +kernel
theorem dX10_often_71 : decode cX10_often 71 = .ok (.lstore 4, 2) := by decide +kernel
theorem dX10_often_73 : decode cX10_often 73 = .ok (.iinc 6 1, 3) := by decide +kernel
theorem dX10_often_76 : decode cX10_often 76 = .ok (.goto (-27), 3) := by decide +kernel
theorem dX10_often_79 : decode cX10_often 79 = .ok (.iload_n 2, 1) := by decide +kernel
theorem dX10_often_80 : decode cX10_often 80 = .ok (.aload_n 0, 1) := by decide +kernel
theorem dX10_often_81 : decode cX10_often 81 = .ok (.getfield 9, 3) := by decide +kernel
theorem dX10_often_84 : decode cX10_often 84 = .ok (.bipush 58, 2) := by decide +kernel
theorem dX10_often_86 : decode cX10_often 86 = .ok (.iload_n 1, 1) := by decide +kernel
theorem dX10_often_87 : decode cX10_often 87 = .ok (.iadd, 1) := by decide +kernel
theorem dX10_often_88 : decode cX10_often 88 = .ok (.iaload, 1) := by decide +kernel
theorem dX10_often_89 : decode cX10_often 89 = .ok (.isub, 1) := by decide +kernel
theorem dX10_often_90 : decode cX10_often 90 = .ok (.iconst 1, 1) := by decide +kernel
theorem dX10_often_91 : decode cX10_often 91 = .ok (.iadd, 1) := by decide +kernel
theorem dX10_often_92 : decode cX10_often 92 = .ok (.istore 6, 2) := by decide +kernel
theorem dX10_often_94 : decode cX10_often 94 = .ok (.iload 6, 2) := by decide +kernel
theorem dX10_often_96 : decode cX10_often 96 = .ok (.ifCond .ge 7, 3) := by decide +kernel
theorem dX10_often_99 : decode cX10_often 99 = .ok (.iconst 0, 1) := by decide +kernel
theorem dX10_often_100 : decode cX10_often 100 = .ok (.goto 5, 3) := by decide +kernel
theorem dX10_often_103 : decode cX10_often 103 = .ok (.iload 6, 2) := by decide +kernel
theorem dX10_often_105 : decode cX10_often 105 = .ok (.i2l, 1) := by decide +kernel
theorem dX10_often_106 : decode cX10_often 106 = .ok (.aload_n 0, 1) := by decide +kernel
theorem dX10_often_107 : decode cX10_often 107 = .ok (.iload_n 1, 1) := by decide +kernel
theorem dX10_often_108 : decode cX10_often 108 = .ok (.iconst 0, 1) := by decide +kernel
theorem dX10_often_109 : decode cX10_often 109 = .ok (.invokevirtual 155, 3) := by decide +kernel
theorem dX10_often_112 : decode cX10_often 112 = .ok (.lmul, 1) := by decide +kernel
theorem dX10_often_113 : decode cX10_often 113 = .ok (.lload 4, 2) := by decide +kernel
theorem dX10_often_115 : decode cX10_often 115 = .ok (.iload_n 3, 1) := by decide +kernel
theorem dX10_often_116 : decode cX10_often 116 = .ok (.invokestatic 186, 3) := by decide +kernel
theorem dX10_often_119 : decode cX10_often 119 = .ok (.lreturn, 1) := by decide +kernel
theorem dX10_free_0 : decode cX10_free 0 = .ok (.iload_n 1, 1) := by decide +kernel
theorem dX10_free_1 : decode cX10_free 1 = .ok (.iconst 0, 1) := by decide +kernel
theorem dX10_free_2 : decode cX10_free 2 = .ok (.bipush 30, 2) := by decide +kernel
theorem dX10_free_4 : decode cX10_free 4 = .ok (.invokestatic 45, 3) := by decide +kernel
theorem dX10_free_7 : decode cX10_free 7 = .ok (.ifCond .ne 7, 3) := by decide +kernel
theorem dX10_free_10 : decode cX10_free 10 = .ok (.ldc2_w 184, 3) := by decide +kernel
theorem dX10_free_13 : decode cX10_free 13 = .ok (.lreturn, 1) := by decide +kernel
theorem dX10_free_14 : decode cX10_free 14 = .ok (.aload_n 0, 1) := by decide +kernel
theorem dX10_free_15 : decode cX10_free 15 = .ok (.invokevirtual 249, 3) := by decide +kernel
theorem dX10_free_18 : decode cX10_free 18 = .ok (.iconst 0, 1) := by decide +kernel
theorem dX10_free_19 : decode cX10_free 19 = .ok (.istore_n 2, 1) := by decide +kernel
theorem dX10_free_20 : decode cX10_free 20 = .ok (.iload_n 2, 1) := by decide +kernel
theorem dX10_free_21 : decode cX10_free 21 = .ok (.iload_n 1, 1) := by decide +kernel
theorem dX10_free_22 : decode cX10_free 22 = .ok (.if_icmp .ge 16, 3) := by decide +kernel
theorem dX10_free_25 : decode cX10_free 25 = .ok (.aload_n 0, 1) := by decide +kernel
theorem dX10_free_26 : decode cX10_free 26 = .ok (.iconst (-1), 1) := by decide +kernel
theorem dX10_free_27 : decode cX10_free 27 = .ok (.iconst 0, 1) := by decide +kernel
theorem dX10_free_28 : decode cX10_free 28 = .ok (.invokevirtual 252, 3) := by decide +kernel
theorem dX10_free_31 : decode cX10_free 31 = .ok (.pop2, 1) := by decide +kernel
theorem dX10_free_32 : decode cX10_free 32 = .ok (.iinc 2 1, 3) := by decide +kernel
theorem dX10_free_35 : decode cX10_free 35 = .ok (.goto (-15), 3) := by decide +kernel
theorem dX10_free_38 : decode cX10_free 38 = .ok (.lconst 0, 1) := by decide +kernel
theorem dX10_free_39 : decode cX10_free 39 = .ok (.lstore_n 2, 1) := by decide +kernel
theorem dX10_free_40 : decode cX10_free 40 = .ok (.iconst 0, 1) := by decide +kernel
theorem dX10_free_41 : decode cX10_free 41 = .ok (.istore 4, 2) := by decide +kernel
theorem dX10_free_43 : decode cX10_free 43 = .ok (.iload 4, 2) := by decide +kernel
theorem dX10_free_45 : decode cX10_free 45 = .ok (.sipush 486, 3) := by decide +kernel
theorem dX10_free_48 : decode cX10_free 48 = .ok (.if_icmp .ge 19, 3) := by decide +kernel
theorem dX10_free_51 : decode cX10_free 51 = .ok (.lload_n 2, 1) := by decide +kernel
theorem dX10_free_52 : decode cX10_free 52 = .ok (.aload_n 0, 1) := by decide +kernel
theorem dX10_free_53 : decode cX10_free 53 = .ok (.getfield 28, 3) := by decide +kernel
theorem dX10_free_56 : decode cX10_free 56 = .ok (.iload 4, 2) := by decide +kernel
theorem dX10_free_58 : decode cX10_free 58 = .ok (.laload, 1) := by decide +kernel
theorem dX10_free_59 : decode cX10_free 59 = .ok (.ladd, 1) := by decide +kernel
theorem dX10_free_60 : decode cX10_free 60 = .ok (.lstore_n 2, 1) := by decide +kernel
theorem dX10_free_61 : decode cX10_free 61 = .ok (.iinc 4 1, 3) := by decide +kernel
theorem dX10_free_64 : decode cX10_free 64 = .ok (.goto (-21), 3) := by decide +kernel
theorem dX10_free_67 : decode cX10_free 67 = .ok (.lload_n 2, 1) := by decide +kernel
theorem dX10_free_68 : decode cX10_free 68 = .ok (.lreturn, 1) := by decide +kernel
theorem dX10_toss_0 : decode cX10_toss 0 = .ok (.iload_n 1, 1) := by decide +kernel
theorem dX10_toss_1 : decode cX10_toss 1 = .ok (.iconst (-1), 1) := by decide +kernel
theorem dX10_toss_2 : decode cX10_toss 2 = .ok (.if_icmp .ne 12, 3) := by decide +kernel
theorem dX10_toss_5 : decode cX10_toss 5 = .ok (.aload_n 0, 1) := by decide +kernel
theorem dX10_toss_6 : decode cX10_toss 6 = .ok (.getfield 9, 3) := by decide +kernel
theorem dX10_toss_9 : decode cX10_toss 9 = .ok (.iconst 4, 1) := by decide +kernel
theorem dX10_toss_10 : decode cX10_toss 10 = .ok (.iconst 0, 1) := by decide +kernel
theorem dX10_toss_11 : decode cX10_toss 11 = .ok (.iastore, 1) := by decide +kernel
theorem dX10_toss_12 : decode cX10_toss 12 = .ok (.iconst 0, 1) := by decide +kernel
theorem dX10_toss_13 : decode cX10_toss 13 = .ok (.ireturn, 1) := by decide +kernel
theorem dX10_toss_14 : decode cX10_toss 14 = .ok (.iload_n 1, 1) := by decide +kernel
theorem dX10_toss_15 : decode cX10_toss 15 = .ok (.iconst 0, 1) := by decide +kernel
theorem dX10_toss_16 : decode cX10_toss 16 = .ok (.iconst 2, 1) := by decide +kernel
theorem dX10_toss_17 : decode cX10_toss 17 = .ok (.invokestatic 45, 3) := by decide +kernel
theorem dX10_toss_20 : decode cX10_toss 20 = .ok (.ifCond .ne 6, 3) := by decide +kernel
theorem dX10_toss_23 : decode cX10_toss 23 = .ok (.bipush (-2), 2) := by decide +kernel
theorem dX10_toss_25 : decode cX10_toss 25 = .ok (.ireturn, 1) := by decide +kernel
theorem dX10_toss_26 : decode cX10_toss 26 = .ok (.aload_n 0, 1) := by decide +kernel
theorem dX10_toss_27 : decode cX10_toss 27 = .ok (.getfield 9, 3) := by decide +kernel
theorem dX10_toss_30 : decode cX10_toss 30 = .ok (.iconst 4, 1) := by decide +kernel
theorem dX10_toss_31 : decode cX10_toss 31 = .ok (.iaload, 1) := by decide +kernel
theorem dX10_toss_32 : decode cX10_toss 32 = .ok (.bipush 24, 2) := by decide +kernel
theorem dX10_toss_34 : decode cX10_toss 34 = .ok (.if_icmp .ne 6, 3) := by decide +kernel
theorem dX10_toss_37 : decode cX10_toss 37 = .ok (.bipush (-4), 2) := by decide +kernel
theorem dX10_toss_39 : decode cX10_toss 39 = .ok (.ireturn, 1) := by decide +kernel
theorem dX10_toss_40 : decode cX10_toss 40 = .ok (.aload_n 0, 1) := by decide +kernel
theorem dX10_toss_41 : decode cX10_toss 41 = .ok (.getfield 9, 3) := by decide +kernel
theorem dX10_toss_44 : decode cX10_toss 44 = .ok (.bipush 72, 2) := by decide +kernel
theorem dX10_toss_46 : decode cX10_toss 46 = .ok (.aload_n 0, 1) := by decide +kernel
theorem dX10_toss_47 : decode cX10_toss 47 = .ok (.getfield 9, 3) := by decide +kernel
theorem dX10_toss_50 : decode cX10_toss 50 = .ok (.iconst 4, 1) := by decide +kernel
theorem dX10_toss_51 : decode cX10_toss 51 = .ok (.iaload, 1) := by decide +kernel
theorem dX10_toss_52 : decode cX10_toss 52 = .ok (.iadd, 1) := by decide +kernel
theorem dX10_toss_53 : decode cX10_toss 53 = .ok (.iload_n 1, 1) := by decide +kernel
theorem dX10_toss_54 : decode cX10_toss 54 = .ok (.iastore, 1) := by decide +kernel
theorem dX10_toss_55 : decode cX10_toss 55 = .ok (.aload_n 0, 1) := by decide +kernel
theorem dX10_toss_56 : decode cX10_toss 56 = .ok (.getfield 9, 3) := by decide +kernel
theorem dX10_toss_59 : decode cX10_toss 59 = .ok (.iconst 4, 1) := by decide +kernel
theorem dX10_toss_60 : decode cX10_toss 60 = .ok (.dup2, 1) := by decide +kernel
theorem dX10_toss_61 : decode cX10_toss 61 = .ok (.iaload, 1) := by decide +kernel
theorem dX10_toss_62 : decode cX10_toss 62 = .ok (.iconst 1, 1) := by decide +kernel
theorem dX10_toss_63 : decode cX10_toss 63 = .ok (.iadd, 1) := by decide +kernel
theorem dX10_toss_64 : decode cX10_toss 64 = .ok (.iastore, 1) := by decide +kernel
theorem dX10_toss_65 : decode cX10_toss 65 = .ok (.aload_n 0, 1) := by decide +kernel
theorem dX10_toss_66 : decode cX10_toss 66 = .ok (.getfield 9, 3) := by decide +kernel
theorem dX10_toss_69 : decode cX10_toss 69 = .ok (.iconst 4, 1) := by decide +kernel
theorem dX10_toss_70 : decode cX10_toss 70 = .ok (.iaload, 1) := by decide +kernel
theorem dX10_toss_71 : decode cX10_toss 71 = .ok (.ireturn, 1) := by decide +kernel
theorem dX10_cameBehind_0 : decode cX10_cameBehind 0 = .ok (.iconst 1, 1) := by decide +kernel
theorem dX10_cameBehind_1 : decode cX10_cameBehind 1 = .ok (.istore_n 2, 1) := by decide +kernel
theorem dX10_cameBehind_2 : decode cX10_cameBehind 2 = .ok (.iload_n 2, 1) := by decide +kernel
theorem dX10_cameBehind_3 : decode cX10_cameBehind 3 = .ok (.aload_n 0, 1) := by decide +kernel
theorem dX10_cameBehind_4 : decode cX10_cameBehind 4 = .ok (.getfield 9, 3) := by decide +kernel
theorem dX10_cameBehind_7 : decode cX10_cameBehind 7 = .ok (.iconst 4, 1) := by decide +kernel
theorem dX10_cameBehind_8 : decode cX10_cameBehind 8 = .ok (.iaload, 1) := by decide +kernel
theorem dX10_cameBehind_9 : decode cX10_cameBehind 9 = .ok (.if_icmp .gt 31, 3) := by decide +kernel
theorem dX10_cameBehind_12 : decode cX10_cameBehind 12 = .ok (.aload_n 0, 1) := by decide +kernel
theorem dX10_cameBehind_13 : decode cX10_cameBehind 13 = .ok (.bipush 72, 2) := by decide +kernel
theorem dX10_cameBehind_15 : decode cX10_cameBehind 15 = .ok (.iload_n 2, 1) := by decide +kernel
theorem dX10_cameBehind_16 : decode cX10_cameBehind 16 = .ok (.iload_n 1, 1) := by decide +kernel
theorem dX10_cameBehind_17 : decode cX10_cameBehind 17 = .ok (.aload_n 0, 1) := by decide +kernel
theorem dX10_cameBehind_18 : decode cX10_cameBehind 18 = .ok (.getfield 9, 3) := by decide +kernel
theorem dX10_cameBehind_21 : decode cX10_cameBehind 21 = .ok (.bipush 58, 2) := by decide +kernel
theorem dX10_cameBehind_23 : decode cX10_cameBehind 23 = .ok (.iload_n 1, 1) := by decide +kernel
theorem dX10_cameBehind_24 : decode cX10_cameBehind 24 = .ok (.iadd, 1) := by decide +kernel
theorem dX10_cameBehind_25 : decode cX10_cameBehind 25 = .ok (.iaload, 1) := by decide +kernel
theorem dX10_cameBehind_26 : decode cX10_cameBehind 26 = .ok (.invokevirtual 148, 3) := by decide +kernel
theorem dX10_cameBehind_29 : decode cX10_cameBehind 29 = .ok (.ifCond .eq 5, 3) := by decide +kernel
theorem dX10_cameBehind_32 : decode cX10_cameBehind 32 = .ok (.iload_n 2, 1) := by decide +kernel
theorem dX10_cameBehind_33 : decode cX10_cameBehind 33 = .ok (.ireturn, 1) := by decide +kernel
theorem dX10_cameBehind_34 : decode cX10_cameBehind 34 = .ok (.iinc 2 1, 3) := by decide +kernel
theorem dX10_cameBehind_37 : decode cX10_cameBehind 37 = .ok (.goto (-35), 3) := by decide +kernel
theorem dX10_cameBehind_40 : decode cX10_cameBehind 40 = .ok (.bipush (-5), 2) := by decide +kernel
theorem dX10_cameBehind_42 : decode cX10_cameBehind 42 = .ok (.ireturn, 1) := by decide +kernel
theorem dX10_came_0 : decode cX10_came 0 = .ok (.aload_n 0, 1) := by decide +kernel
theorem dX10_came_1 : decode cX10_came 1 = .ok (.iload_n 1, 1) := by decide +kernel
theorem dX10_came_2 : decode cX10_came 2 = .ok (.invokevirtual 141, 3) := by decide +kernel
theorem dX10_came_5 : decode cX10_came 5 = .ok (.ifCond .eq 11, 3) := by decide +kernel
theorem dX10_came_8 : decode cX10_came 8 = .ok (.aload_n 0, 1) := by decide +kernel
theorem dX10_came_9 : decode cX10_came 9 = .ok (.iload_n 1, 1) := by decide +kernel
theorem dX10_came_10 : decode cX10_came 10 = .ok (.invokevirtual 256, 3) := by decide +kernel
theorem dX10_came_13 : decode cX10_came 13 = .ok (.goto 4, 3) := by decide +kernel
theorem dX10_came_16 : decode cX10_came 16 = .ok (.iconst (-1), 1) := by decide +kernel
theorem dX10_came_17 : decode cX10_came 17 = .ok (.ireturn, 1) := by decide +kernel
theorem dX10_ends_0 : decode cX10_ends 0 = .ok (.aload_n 0, 1) := by decide +kernel
theorem dX10_ends_1 : decode cX10_ends 1 = .ok (.iload_n 1, 1) := by decide +kernel
theorem dX10_ends_2 : decode cX10_ends 2 = .ok (.invokevirtual 141, 3) := by decide +kernel
theorem dX10_ends_5 : decode cX10_ends 5 = .ok (.ifCond .ne 5, 3) := by decide +kernel
theorem dX10_ends_8 : decode cX10_ends 8 = .ok (.iconst (-1), 1) := by decide +kernel
theorem dX10_ends_9 : decode cX10_ends 9 = .ok (.ireturn, 1) := by decide +kernel
theorem dX10_ends_10 : decode cX10_ends 10 = .ok (.iconst 0, 1) := by decide +kernel
theorem dX10_ends_11 : decode cX10_ends 11 = .ok (.istore_n 2, 1) := by decide +kernel
theorem dX10_ends_12 : decode cX10_ends 12 = .ok (.iconst 1, 1) := by decide +kernel
theorem dX10_ends_13 : decode cX10_ends 13 = .ok (.istore_n 3, 1) := by decide +kernel
theorem dX10_ends_14 : decode cX10_ends 14 = .ok (.iload_n 3, 1) := by decide +kernel
theorem dX10_ends_15 : decode cX10_ends 15 = .ok (.aload_n 0, 1) := by decide +kernel
theorem dX10_ends_16 : decode cX10_ends 16 = .ok (.getfield 9, 3) := by decide +kernel
theorem dX10_ends_19 : decode cX10_ends 19 = .ok (.iconst 4, 1) := by decide +kernel
theorem dX10_ends_20 : decode cX10_ends 20 = .ok (.iaload, 1) := by decide +kernel
theorem dX10_ends_21 : decode cX10_ends 21 = .ok (.if_icmp .gt 37, 3) := by decide +kernel
theorem dX10_ends_24 : decode cX10_ends 24 = .ok (.iload_n 2, 1) := by decide +kernel
theorem dX10_ends_25 : decode cX10_ends 25 = .ok (.aload_n 0, 1) := by decide +kernel
theorem dX10_ends_26 : decode cX10_ends 26 = .ok (.bipush 72, 2) := by decide +kernel
theorem dX10_ends_28 : decode cX10_ends 28 = .ok (.iload_n 3, 1) := by decide +kernel
theorem dX10_ends_29 : decode cX10_ends 29 = .ok (.iload_n 1, 1) := by decide +kernel
theorem dX10_ends_30 : decode cX10_ends 30 = .ok (.aload_n 0, 1) := by decide +kernel
theorem dX10_ends_31 : decode cX10_ends 31 = .ok (.getfield 9, 3) := by decide +kernel
theorem dX10_ends_34 : decode cX10_ends 34 = .ok (.bipush 58, 2) := by decide +kernel
theorem dX10_ends_36 : decode cX10_ends 36 = .ok (.iload_n 1, 1) := by decide +kernel
theorem dX10_ends_37 : decode cX10_ends 37 = .ok (.iadd, 1) := by decide +kernel
theorem dX10_ends_38 : decode cX10_ends 38 = .ok (.iaload, 1) := by decide +kernel
theorem dX10_ends_39 : decode cX10_ends 39 = .ok (.invokevirtual 148, 3) := by decide +kernel
theorem dX10_ends_42 : decode cX10_ends 42 = .ok (.ifCond .eq 7, 3) := by decide +kernel
theorem dX10_ends_45 : decode cX10_ends 45 = .ok (.iconst 1, 1) := by decide +kernel
theorem dX10_ends_46 : decode cX10_ends 46 = .ok (.goto 4, 3) := by decide +kernel
theorem dX10_ends_49 : decode cX10_ends 49 = .ok (.iconst 0, 1) := by decide +kernel
theorem dX10_ends_50 : decode cX10_ends 50 = .ok (.iadd, 1) := by decide +kernel
theorem dX10_ends_51 : decode cX10_ends 51 = .ok (.istore_n 2, 1) := by decide +kernel
theorem dX10_ends_52 : decode cX10_ends 52 = .ok (.iinc 3 1, 3) := by decide +kernel
theorem dX10_ends_55 : decode cX10_ends 55 = .ok (.goto (-41), 3) := by decide +kernel
theorem dX10_ends_58 : decode cX10_ends 58 = .ok (.iload_n 2, 1) := by decide +kernel
theorem dX10_ends_59 : decode cX10_ends 59 = .ok (.ireturn, 1) := by decide +kernel
theorem dX10_ahead_0 : decode cX10_ahead 0 = .ok (.bipush (-5), 2) := by decide +kernel
theorem dX10_ahead_2 : decode cX10_ahead 2 = .ok (.istore_n 1, 1) := by decide +kernel
theorem dX10_ahead_3 : decode cX10_ahead 3 = .ok (.aload_n 0, 1) := by decide +kernel
theorem dX10_ahead_4 : decode cX10_ahead 4 = .ok (.getfield 9, 3) := by decide +kernel
theorem dX10_ahead_7 : decode cX10_ahead 7 = .ok (.iconst 0, 1) := by decide +kernel
theorem dX10_ahead_8 : decode cX10_ahead 8 = .ok (.iaload, 1) := by decide +kernel
theorem dX10_ahead_9 : decode cX10_ahead 9 = .ok (.iconst 1, 1) := by decide +kernel
theorem dX10_ahead_10 : decode cX10_ahead 10 = .ok (.isub, 1) := by decide +kernel
theorem dX10_ahead_11 : decode cX10_ahead 11 = .ok (.istore_n 2, 1) := by decide +kernel
theorem dX10_ahead_12 : decode cX10_ahead 12 = .ok (.iload_n 2, 1) := by decide +kernel
theorem dX10_ahead_13 : decode cX10_ahead 13 = .ok (.ifCond .lt 42, 3) := by decide +kernel
theorem dX10_ahead_16 : decode cX10_ahead 16 = .ok (.aload_n 0, 1) := by decide +kernel
theorem dX10_ahead_17 : decode cX10_ahead 17 = .ok (.iload_n 2, 1) := by decide +kernel
theorem dX10_ahead_18 : decode cX10_ahead 18 = .ok (.invokevirtual 256, 3) := by decide +kernel
theorem dX10_ahead_21 : decode cX10_ahead 21 = .ok (.istore_n 3, 1) := by decide +kernel
theorem dX10_ahead_22 : decode cX10_ahead 22 = .ok (.iload_n 3, 1) := by decide +kernel
theorem dX10_ahead_23 : decode cX10_ahead 23 = .ok (.bipush (-5), 2) := by decide +kernel
theorem dX10_ahead_25 : decode cX10_ahead 25 = .ok (.if_icmp .eq 22, 3) := by decide +kernel
theorem dX10_ahead_28 : decode cX10_ahead 28 = .ok (.iload_n 1, 1) := by decide +kernel
theorem dX10_ahead_29 : decode cX10_ahead 29 = .ok (.bipush (-5), 2) := by decide +kernel
theorem dX10_ahead_31 : decode cX10_ahead 31 = .ok (.if_icmp .eq 12, 3) := by decide +kernel
theorem dX10_ahead_34 : decode cX10_ahead 34 = .ok (.iload_n 3, 1) := by decide +kernel
theorem dX10_ahead_35 : decode cX10_ahead 35 = .ok (.aload_n 0, 1) := by decide +kernel
theorem dX10_ahead_36 : decode cX10_ahead 36 = .ok (.iload_n 1, 1) := by decide +kernel
theorem dX10_ahead_37 : decode cX10_ahead 37 = .ok (.invokevirtual 256, 3) := by decide +kernel
theorem dX10_ahead_40 : decode cX10_ahead 40 = .ok (.if_icmp .gt 7, 3) := by decide +kernel
theorem dX10_ahead_43 : decode cX10_ahead 43 = .ok (.iload_n 2, 1) := by decide +kernel
theorem dX10_ahead_44 : decode cX10_ahead 44 = .ok (.goto 4, 3) := by decide +kernel
theorem dX10_ahead_47 : decode cX10_ahead 47 = .ok (.iload_n 1, 1) := by decide +kernel
theorem dX10_ahead_48 : decode cX10_ahead 48 = .ok (.istore_n 1, 1) := by decide +kernel
theorem dX10_ahead_49 : decode cX10_ahead 49 = .ok (.iinc 2 (-1), 3) := by decide +kernel
theorem dX10_ahead_52 : decode cX10_ahead 52 = .ok (.goto (-40), 3) := by decide +kernel
theorem dX10_ahead_55 : decode cX10_ahead 55 = .ok (.iload_n 1, 1) := by decide +kernel
theorem dX10_ahead_56 : decode cX10_ahead 56 = .ok (.ireturn, 1) := by decide +kernel
theorem dX10_ranBody_0 : decode cX10_ranBody 0 = .ok (.aload_n 0, 1) := by decide +kernel
theorem dX10_ranBody_1 : decode cX10_ranBody 1 = .ok (.getfield 259, 3) := by decide +kernel
theorem dX10_ranBody_4 : decode cX10_ranBody 4 = .ok (.bipush 20, 2) := by decide +kernel
theorem dX10_ranBody_6 : decode cX10_ranBody 6 = .ok (.if_icmp .ge 13, 3) := by decide +kernel
theorem dX10_ranBody_9 : decode cX10_ranBody 9 = .ok (.aload_n 0, 1) := by decide +kernel
theorem dX10_ranBody_10 : decode cX10_ranBody 10 = .ok (.getfield 38, 3) := by decide +kernel
theorem dX10_ranBody_13 : decode cX10_ranBody 13 = .ok (.aload_n 0, 1) := by decide +kernel
theorem dX10_ranBody_14 : decode cX10_ranBody 14 = .ok (.getfield 259, 3) := by decide +kernel
theorem dX10_ranBody_17 : decode cX10_ranBody 17 = .ok (.iload_n 1, 1) := by decide +kernel
theorem dX10_ranBody_18 : decode cX10_ranBody 18 = .ok (.iastore, 1) := by decide +kernel
theorem dX10_ranBody_19 : decode cX10_ranBody 19 = .ok (.aload_n 0, 1) := by decide +kernel
theorem dX10_ranBody_20 : decode cX10_ranBody 20 = .ok (.dup, 1) := by decide +kernel
theorem dX10_ranBody_21 : decode cX10_ranBody 21 = .ok (.getfield 259, 3) := by decide +kernel
theorem dX10_ranBody_24 : decode cX10_ranBody 24 = .ok (.iconst 1, 1) := by decide +kernel
theorem dX10_ranBody_25 : decode cX10_ranBody 25 = .ok (.iadd, 1) := by decide +kernel
theorem dX10_ranBody_26 : decode cX10_ranBody 26 = .ok (.putfield 259, 3) := by decide +kernel
theorem dX10_ranBody_29 : decode cX10_ranBody 29 = .ok (.return_, 1) := by decide +kernel
theorem dX10_isUnder_0 : decode cX10_isUnder 0 = .ok (.iload_n 1, 1) := by decide +kernel
theorem dX10_isUnder_1 : decode cX10_isUnder 1 = .ok (.ifCond .eq 24, 3) := by decide +kernel
theorem dX10_isUnder_4 : decode cX10_isUnder 4 = .ok (.iload_n 1, 1) := by decide +kernel
theorem dX10_isUnder_5 : decode cX10_isUnder 5 = .ok (.iload_n 0, 1) := by decide +kernel
theorem dX10_isUnder_6 : decode cX10_isUnder 6 = .ok (.if_icmp .eq 19, 3) := by decide +kernel
theorem dX10_isUnder_9 : decode cX10_isUnder 9 = .ok (.iload_n 1, 1) := by decide +kernel
theorem dX10_isUnder_10 : decode cX10_isUnder 10 = .ok (.ifCond .le 19, 3) := by decide +kernel
theorem dX10_isUnder_13 : decode cX10_isUnder 13 = .ok (.iload_n 1, 1) := by decide +kernel
theorem dX10_isUnder_14 : decode cX10_isUnder 14 = .ok (.iconst 4, 1) := by decide +kernel
theorem dX10_isUnder_15 : decode cX10_isUnder 15 = .ok (.if_icmp .ge 14, 3) := by decide +kernel
theorem dX10_isUnder_18 : decode cX10_isUnder 18 = .ok (.iload_n 0, 1) := by decide +kernel
theorem dX10_isUnder_19 : decode cX10_isUnder 19 = .ok (.iload_n 1, 1) := by decide +kernel
theorem dX10_isUnder_20 : decode cX10_isUnder 20 = .ok (.iconst 3, 1) := by decide +kernel
theorem dX10_isUnder_21 : decode cX10_isUnder 21 = .ok (.iadd, 1) := by decide +kernel
theorem dX10_isUnder_22 : decode cX10_isUnder 22 = .ok (.if_icmp .ne 7, 3) := by decide +kernel
theorem dX10_isUnder_25 : decode cX10_isUnder 25 = .ok (.iconst 1, 1) := by decide +kernel
theorem dX10_isUnder_26 : decode cX10_isUnder 26 = .ok (.goto 4, 3) := by decide +kernel
theorem dX10_isUnder_29 : decode cX10_isUnder 29 = .ok (.iconst 0, 1) := by decide +kernel
theorem dX10_isUnder_30 : decode cX10_isUnder 30 = .ok (.ireturn, 1) := by decide +kernel
theorem dX10_plainPicks_0 : decode cX10_plainPicks 0 = .ok (.aload_n 0, 1) := by decide +kernel
theorem dX10_plainPicks_1 : decode cX10_plainPicks 1 = .ok (.iconst 1, 1) := by decide +kernel
theorem dX10_plainPicks_2 : decode cX10_plainPicks 2 = .ok (.invokevirtual 262, 3) := by decide +kernel
theorem dX10_plainPicks_5 : decode cX10_plainPicks 5 = .ok (.iload_n 1, 1) := by decide +kernel
theorem dX10_plainPicks_6 : decode cX10_plainPicks 6 = .ok (.aload_n 0, 1) := by decide +kernel
theorem dX10_plainPicks_7 : decode cX10_plainPicks 7 = .ok (.getfield 265, 3) := by decide +kernel
theorem dX10_plainPicks_10 : decode cX10_plainPicks 10 = .ok (.iadd, 1) := by decide +kernel
theorem dX10_plainPicks_11 : decode cX10_plainPicks 11 = .ok (.ireturn, 1) := by decide +kernel
theorem dX10_picksActs_0 : decode cX10_picksActs 0 = .ok (.aload_n 0, 1) := by decide +kernel
theorem dX10_picksActs_1 : decode cX10_picksActs 1 = .ok (.getfield 268, 3) := by decide +kernel
theorem dX10_picksActs_4 : decode cX10_picksActs 4 = .ok (.iconst 1, 1) := by decide +kernel
theorem dX10_picksActs_5 : decode cX10_picksActs 5 = .ok (.invokestatic 271, 3) := by decide +kernel
theorem dX10_picksActs_8 : decode cX10_picksActs 8 = .ok (.ifCond .eq 17, 3) := by decide +kernel
theorem dX10_picksActs_11 : decode cX10_picksActs 11 = .ok (.aload_n 0, 1) := by decide +kernel
theorem dX10_picksActs_12 : decode cX10_picksActs 12 = .ok (.bipush 11, 2) := by decide +kernel
theorem dX10_picksActs_14 : decode cX10_picksActs 14 = .ok (.invokevirtual 262, 3) := by decide +kernel
theorem dX10_picksActs_17 : decode cX10_picksActs 17 = .ok (.aload_n 0, 1) := by decide +kernel
theorem dX10_picksActs_18 : decode cX10_picksActs 18 = .ok (.iload_n 1, 1) := by decide +kernel
theorem dX10_picksActs_19 : decode cX10_picksActs 19 = .ok (.iconst 3, 1) := by decide +kernel
theorem dX10_picksActs_20 : decode cX10_picksActs 20 = .ok (.imul, 1) := by decide +kernel
theorem dX10_picksActs_21 : decode cX10_picksActs 21 = .ok (.invokevirtual 274, 3) := by decide +kernel
theorem dX10_picksActs_24 : decode cX10_picksActs 24 = .ok (.ireturn, 1) := by decide +kernel
theorem dX10_picksActs_25 : decode cX10_picksActs 25 = .ok (.aload_n 0, 1) := by decide +kernel
theorem dX10_picksActs_26 : decode cX10_picksActs 26 = .ok (.getfield 268, 3) := by decide +kernel
theorem dX10_picksActs_29 : decode cX10_picksActs 29 = .ok (.iconst 5, 1) := by decide +kernel
theorem dX10_picksActs_30 : decode cX10_picksActs 30 = .ok (.if_icmp .ne 20, 3) := by decide +kernel
theorem dX10_picksActs_33 : decode cX10_picksActs 33 = .ok (.aload_n 0, 1) := by decide +kernel
theorem dX10_picksActs_34 : decode cX10_picksActs 34 = .ok (.bipush 51, 2) := by decide +kernel
theorem dX10_picksActs_36 : decode cX10_picksActs 36 = .ok (.invokevirtual 262, 3) := by decide +kernel
theorem dX10_picksActs_39 : decode cX10_picksActs 39 = .ok (.aload_n 0, 1) := by decide +kernel
theorem dX10_picksActs_40 : decode cX10_picksActs 40 = .ok (.iload_n 1, 1) := by decide +kernel
theorem dX10_picksActs_41 : decode cX10_picksActs 41 = .ok (.invokevirtual 274, 3) := by decide +kernel
theorem dX10_picksActs_44 : decode cX10_picksActs 44 = .ok (.aload_n 0, 1) := by decide +kernel
theorem dX10_picksActs_45 : decode cX10_picksActs 45 = .ok (.getfield 265, 3) := by decide +kernel
theorem dX10_picksActs_48 : decode cX10_picksActs 48 = .ok (.ixor, 1) := by decide +kernel
theorem dX10_picksActs_49 : decode cX10_picksActs 49 = .ok (.ireturn, 1) := by decide +kernel
theorem dX10_picksActs_50 : decode cX10_picksActs 50 = .ok (.aload_n 0, 1) := by decide +kernel
theorem dX10_picksActs_51 : decode cX10_picksActs 51 = .ok (.iload_n 1, 1) := by decide +kernel
theorem dX10_picksActs_52 : decode cX10_picksActs 52 = .ok (.invokevirtual 274, 3) := by decide +kernel
theorem dX10_picksActs_55 : decode cX10_picksActs 55 = .ok (.ireturn, 1) := by decide +kernel
theorem dX10_plainPays_0 : decode cX10_plainPays 0 = .ok (.aload_n 0, 1) := by decide +kernel
theorem dX10_plainPays_1 : decode cX10_plainPays 1 = .ok (.iconst 2, 1) := by decide +kernel
theorem dX10_plainPays_2 : decode cX10_plainPays 2 = .ok (.invokevirtual 262, 3) := by decide +kernel
theorem dX10_plainPays_5 : decode cX10_plainPays 5 = .ok (.aload_n 0, 1) := by decide +kernel
theorem dX10_plainPays_6 : decode cX10_plainPays 6 = .ok (.iload_n 1, 1) := by decide +kernel
theorem dX10_plainPays_7 : decode cX10_plainPays 7 = .ok (.invokevirtual 277, 3) := by decide +kernel
theorem dX10_plainPays_10 : decode cX10_plainPays 10 = .ok (.aload_n 0, 1) := by decide +kernel
theorem dX10_plainPays_11 : decode cX10_plainPays 11 = .ok (.getfield 280, 3) := by decide +kernel
theorem dX10_plainPays_14 : decode cX10_plainPays 14 = .ok (.isub, 1) := by decide +kernel
theorem dX10_plainPays_15 : decode cX10_plainPays 15 = .ok (.ireturn, 1) := by decide +kernel
theorem dX10_paysActs_0 : decode cX10_paysActs 0 = .ok (.aload_n 0, 1) := by decide +kernel
theorem dX10_paysActs_1 : decode cX10_paysActs 1 = .ok (.getfield 268, 3) := by decide +kernel
theorem dX10_paysActs_4 : decode cX10_paysActs 4 = .ok (.iconst 2, 1) := by decide +kernel
theorem dX10_paysActs_5 : decode cX10_paysActs 5 = .ok (.invokestatic 271, 3) := by decide +kernel
theorem dX10_paysActs_8 : decode cX10_paysActs 8 = .ok (.ifCond .eq 16, 3) := by decide +kernel
theorem dX10_paysActs_11 : decode cX10_paysActs 11 = .ok (.aload_n 0, 1) := by decide +kernel
theorem dX10_paysActs_12 : decode cX10_paysActs 12 = .ok (.bipush 21, 2) := by decide +kernel
theorem dX10_paysActs_14 : decode cX10_paysActs 14 = .ok (.invokevirtual 262, 3) := by decide +kernel
theorem dX10_paysActs_17 : decode cX10_paysActs 17 = .ok (.aload_n 0, 1) := by decide +kernel
theorem dX10_paysActs_18 : decode cX10_paysActs 18 = .ok (.iload_n 1, 1) := by decide +kernel
theorem dX10_paysActs_19 : decode cX10_paysActs 19 = .ok (.invokevirtual 283, 3) := by decide +kernel
theorem dX10_paysActs_22 : decode cX10_paysActs 22 = .ok (.ineg, 1) := by decide +kernel
theorem dX10_paysActs_23 : decode cX10_paysActs 23 = .ok (.ireturn, 1) := by decide +kernel
theorem dX10_paysActs_24 : decode cX10_paysActs 24 = .ok (.aload_n 0, 1) := by decide +kernel
theorem dX10_paysActs_25 : decode cX10_paysActs 25 = .ok (.getfield 268, 3) := by decide +kernel
theorem dX10_paysActs_28 : decode cX10_paysActs 28 = .ok (.bipush 6, 2) := by decide +kernel
theorem dX10_paysActs_30 : decode cX10_paysActs 30 = .ok (.if_icmp .ne 20, 3) := by decide +kernel
theorem dX10_paysActs_33 : decode cX10_paysActs 33 = .ok (.aload_n 0, 1) := by decide +kernel
theorem dX10_paysActs_34 : decode cX10_paysActs 34 = .ok (.bipush 61, 2) := by decide +kernel
theorem dX10_paysActs_36 : decode cX10_paysActs 36 = .ok (.invokevirtual 262, 3) := by decide +kernel
theorem dX10_paysActs_39 : decode cX10_paysActs 39 = .ok (.aload_n 0, 1) := by decide +kernel
theorem dX10_paysActs_40 : decode cX10_paysActs 40 = .ok (.iload_n 1, 1) := by decide +kernel
theorem dX10_paysActs_41 : decode cX10_paysActs 41 = .ok (.invokevirtual 283, 3) := by decide +kernel
theorem dX10_paysActs_44 : decode cX10_paysActs 44 = .ok (.aload_n 0, 1) := by decide +kernel
theorem dX10_paysActs_45 : decode cX10_paysActs 45 = .ok (.getfield 280, 3) := by decide +kernel
theorem dX10_paysActs_48 : decode cX10_paysActs 48 = .ok (.iadd, 1) := by decide +kernel
theorem dX10_paysActs_49 : decode cX10_paysActs 49 = .ok (.ireturn, 1) := by decide +kernel
theorem dX10_paysActs_50 : decode cX10_paysActs 50 = .ok (.aload_n 0, 1) := by decide +kernel
theorem dX10_paysActs_51 : decode cX10_paysActs 51 = .ok (.iload_n 1, 1) := by decide +kernel
theorem dX10_paysActs_52 : decode cX10_paysActs 52 = .ok (.invokevirtual 283, 3) := by decide +kernel
theorem dX10_paysActs_55 : decode cX10_paysActs 55 = .ok (.ireturn, 1) := by decide +kernel
theorem dX10_plainTells_0 : decode cX10_plainTells 0 = .ok (.aload_n 0, 1) := by decide +kernel
theorem dX10_plainTells_1 : decode cX10_plainTells 1 = .ok (.iconst 3, 1) := by decide +kernel
theorem dX10_plainTells_2 : decode cX10_plainTells 2 = .ok (.invokevirtual 262, 3) := by decide +kernel
theorem dX10_plainTells_5 : decode cX10_plainTells 5 = .ok (.aload_n 0, 1) := by decide +kernel
theorem dX10_plainTells_6 : decode cX10_plainTells 6 = .ok (.iload_n 1, 1) := by decide +kernel
theorem dX10_plainTells_7 : decode cX10_plainTells 7 = .ok (.invokevirtual 286, 3) := by decide +kernel
theorem dX10_plainTells_10 : decode cX10_plainTells 10 = .ok (.iconst 2, 1) := by decide +kernel
theorem dX10_plainTells_11 : decode cX10_plainTells 11 = .ok (.imul, 1) := by decide +kernel
theorem dX10_plainTells_12 : decode cX10_plainTells 12 = .ok (.ireturn, 1) := by decide +kernel
theorem dX10_tellsActs_0 : decode cX10_tellsActs 0 = .ok (.aload_n 0, 1) := by decide +kernel
theorem dX10_tellsActs_1 : decode cX10_tellsActs 1 = .ok (.getfield 268, 3) := by decide +kernel
theorem dX10_tellsActs_4 : decode cX10_tellsActs 4 = .ok (.iconst 3, 1) := by decide +kernel
theorem dX10_tellsActs_5 : decode cX10_tellsActs 5 = .ok (.invokestatic 271, 3) := by decide +kernel
theorem dX10_tellsActs_8 : decode cX10_tellsActs 8 = .ok (.ifCond .eq 18, 3) := by decide +kernel
theorem dX10_tellsActs_11 : decode cX10_tellsActs 11 = .ok (.aload_n 0, 1) := by decide +kernel
theorem dX10_tellsActs_12 : decode cX10_tellsActs 12 = .ok (.bipush 31, 2) := by decide +kernel
theorem dX10_tellsActs_14 : decode cX10_tellsActs 14 = .ok (.invokevirtual 262, 3) := by decide +kernel
theorem dX10_tellsActs_17 : decode cX10_tellsActs 17 = .ok (.aload_n 0, 1) := by decide +kernel
theorem dX10_tellsActs_18 : decode cX10_tellsActs 18 = .ok (.iload_n 1, 1) := by decide +kernel
theorem dX10_tellsActs_19 : decode cX10_tellsActs 19 = .ok (.invokevirtual 289, 3) := by decide +kernel
theorem dX10_tellsActs_22 : decode cX10_tellsActs 22 = .ok (.bipush 7, 2) := by decide +kernel
theorem dX10_tellsActs_24 : decode cX10_tellsActs 24 = .ok (.ixor, 1) := by decide +kernel
theorem dX10_tellsActs_25 : decode cX10_tellsActs 25 = .ok (.ireturn, 1) := by decide +kernel
theorem dX10_tellsActs_26 : decode cX10_tellsActs 26 = .ok (.aload_n 0, 1) := by decide +kernel
theorem dX10_tellsActs_27 : decode cX10_tellsActs 27 = .ok (.getfield 268, 3) := by decide +kernel
theorem dX10_tellsActs_30 : decode cX10_tellsActs 30 = .ok (.iconst 4, 1) := by decide +kernel
theorem dX10_tellsActs_31 : decode cX10_tellsActs 31 = .ok (.if_icmp .ne 25, 3) := by decide +kernel
theorem dX10_tellsActs_34 : decode cX10_tellsActs 34 = .ok (.aload_n 0, 1) := by decide +kernel
theorem dX10_tellsActs_35 : decode cX10_tellsActs 35 = .ok (.bipush 41, 2) := by decide +kernel
theorem dX10_tellsActs_37 : decode cX10_tellsActs 37 = .ok (.invokevirtual 262, 3) := by decide +kernel
theorem dX10_tellsActs_40 : decode cX10_tellsActs 40 = .ok (.aload_n 0, 1) := by decide +kernel
theorem dX10_tellsActs_41 : decode cX10_tellsActs 41 = .ok (.iload_n 1, 1) := by decide +kernel
theorem dX10_tellsActs_42 : decode cX10_tellsActs 42 = .ok (.iconst 1, 1) := by decide +kernel
theorem dX10_tellsActs_43 : decode cX10_tellsActs 43 = .ok (.isub, 1) := by decide +kernel
theorem dX10_tellsActs_44 : decode cX10_tellsActs 44 = .ok (.invokevirtual 289, 3) := by decide +kernel
theorem dX10_tellsActs_47 : decode cX10_tellsActs 47 = .ok (.istore_n 2, 1) := by decide +kernel
theorem dX10_tellsActs_48 : decode cX10_tellsActs 48 = .ok (.iload_n 2, 1) := by decide +kernel
theorem dX10_tellsActs_49 : decode cX10_tellsActs 49 = .ok (.aload_n 0, 1) := by decide +kernel
theorem dX10_tellsActs_50 : decode cX10_tellsActs 50 = .ok (.iconst 2, 1) := by decide +kernel
theorem dX10_tellsActs_51 : decode cX10_tellsActs 51 = .ok (.invokevirtual 277, 3) := by decide +kernel
theorem dX10_tellsActs_54 : decode cX10_tellsActs 54 = .ok (.iadd, 1) := by decide +kernel
theorem dX10_tellsActs_55 : decode cX10_tellsActs 55 = .ok (.ireturn, 1) := by decide +kernel
theorem dX10_tellsActs_56 : decode cX10_tellsActs 56 = .ok (.aload_n 0, 1) := by decide +kernel
theorem dX10_tellsActs_57 : decode cX10_tellsActs 57 = .ok (.iload_n 1, 1) := by decide +kernel
theorem dX10_tellsActs_58 : decode cX10_tellsActs 58 = .ok (.invokevirtual 289, 3) := by decide +kernel
theorem dX10_tellsActs_61 : decode cX10_tellsActs 61 = .ok (.ireturn, 1) := by decide +kernel
theorem dX10_act_0 : decode cX10_act 0 = .ok (.aload_n 0, 1) := by decide +kernel
theorem dX10_act_1 : decode cX10_act 1 = .ok (.iconst 0, 1) := by decide +kernel
theorem dX10_act_2 : decode cX10_act 2 = .ok (.putfield 259, 3) := by decide +kernel
theorem dX10_act_5 : decode cX10_act 5 = .ok (.aload_n 0, 1) := by decide +kernel
theorem dX10_act_6 : decode cX10_act 6 = .ok (.iload_n 1, 1) := by decide +kernel
theorem dX10_act_7 : decode cX10_act 7 = .ok (.invokevirtual 145, 3) := by decide +kernel
theorem dX10_act_10 : decode cX10_act 10 = .ok (.ifCond .eq 12, 3) := by decide +kernel
theorem dX10_act_13 : decode cX10_act 13 = .ok (.iload_n 2, 1) := by decide +kernel
theorem dX10_act_14 : decode cX10_act 14 = .ok (.iconst 0, 1) := by decide +kernel
theorem dX10_act_15 : decode cX10_act 15 = .ok (.iconst 2, 1) := by decide +kernel
theorem dX10_act_16 : decode cX10_act 16 = .ok (.invokestatic 45, 3) := by decide +kernel
theorem dX10_act_19 : decode cX10_act 19 = .ok (.ifCond .ne 5, 3) := by decide +kernel
theorem dX10_act_22 : decode cX10_act 22 = .ok (.iconst 0, 1) := by decide +kernel
theorem dX10_act_23 : decode cX10_act 23 = .ok (.ireturn, 1) := by decide +kernel
theorem dX10_act_24 : decode cX10_act 24 = .ok (.aload_n 0, 1) := by decide +kernel
theorem dX10_act_25 : decode cX10_act 25 = .ok (.aload_n 0, 1) := by decide +kernel
theorem dX10_act_26 : decode cX10_act 26 = .ok (.getfield 9, 3) := by decide +kernel
theorem dX10_act_29 : decode cX10_act 29 = .ok (.bipush 96, 2) := by decide +kernel
theorem dX10_act_31 : decode cX10_act 31 = .ok (.iload_n 1, 1) := by decide +kernel
theorem dX10_act_32 : decode cX10_act 32 = .ok (.iadd, 1) := by decide +kernel
theorem dX10_act_33 : decode cX10_act 33 = .ok (.iaload, 1) := by decide +kernel
theorem dX10_act_34 : decode cX10_act 34 = .ok (.putfield 268, 3) := by decide +kernel
theorem dX10_act_37 : decode cX10_act 37 = .ok (.aload_n 0, 1) := by decide +kernel
theorem dX10_act_38 : decode cX10_act 38 = .ok (.iload_n 1, 1) := by decide +kernel
theorem dX10_act_39 : decode cX10_act 39 = .ok (.putfield 265, 3) := by decide +kernel
theorem dX10_act_42 : decode cX10_act 42 = .ok (.aload_n 0, 1) := by decide +kernel
theorem dX10_act_43 : decode cX10_act 43 = .ok (.aload_n 0, 1) := by decide +kernel
theorem dX10_act_44 : decode cX10_act 44 = .ok (.getfield 9, 3) := by decide +kernel
theorem dX10_act_47 : decode cX10_act 47 = .ok (.bipush 100, 2) := by decide +kernel
theorem dX10_act_49 : decode cX10_act 49 = .ok (.iload_n 1, 1) := by decide +kernel
theorem dX10_act_50 : decode cX10_act 50 = .ok (.iadd, 1) := by decide +kernel
theorem dX10_act_51 : decode cX10_act 51 = .ok (.iaload, 1) := by decide +kernel
theorem dX10_act_52 : decode cX10_act 52 = .ok (.putfield 280, 3) := by decide +kernel
theorem dX10_act_55 : decode cX10_act 55 = .ok (.iload_n 2, 1) := by decide +kernel
theorem dX10_act_56 : decode cX10_act 56 = .ok (.ifCond .ne 11, 3) := by decide +kernel
theorem dX10_act_59 : decode cX10_act 59 = .ok (.aload_n 0, 1) := by decide +kernel
theorem dX10_act_60 : decode cX10_act 60 = .ok (.iload_n 3, 1) := by decide +kernel
theorem dX10_act_61 : decode cX10_act 61 = .ok (.invokevirtual 277, 3) := by decide +kernel
theorem dX10_act_64 : decode cX10_act 64 = .ok (.goto 21, 3) := by decide +kernel
theorem dX10_act_67 : decode cX10_act 67 = .ok (.iload_n 2, 1) := by decide +kernel
theorem dX10_act_68 : decode cX10_act 68 = .ok (.iconst 1, 1) := by decide +kernel
theorem dX10_act_69 : decode cX10_act 69 = .ok (.if_icmp .ne 11, 3) := by decide +kernel
theorem dX10_act_72 : decode cX10_act 72 = .ok (.aload_n 0, 1) := by decide +kernel
theorem dX10_act_73 : decode cX10_act 73 = .ok (.iload_n 3, 1) := by decide +kernel
theorem dX10_act_74 : decode cX10_act 74 = .ok (.invokevirtual 286, 3) := by decide +kernel
theorem dX10_act_77 : decode cX10_act 77 = .ok (.goto 8, 3) := by decide +kernel
theorem dX10_act_80 : decode cX10_act 80 = .ok (.aload_n 0, 1) := by decide +kernel
theorem dX10_act_81 : decode cX10_act 81 = .ok (.iload_n 3, 1) := by decide +kernel
theorem dX10_act_82 : decode cX10_act 82 = .ok (.invokevirtual 292, 3) := by decide +kernel
theorem dX10_act_85 : decode cX10_act 85 = .ok (.ireturn, 1) := by decide +kernel
theorem dX10_trace_0 : decode cX10_trace 0 = .ok (.iload_n 1, 1) := by decide +kernel
theorem dX10_trace_1 : decode cX10_trace 1 = .ok (.iconst 0, 1) := by decide +kernel
theorem dX10_trace_2 : decode cX10_trace 2 = .ok (.aload_n 0, 1) := by decide +kernel
theorem dX10_trace_3 : decode cX10_trace 3 = .ok (.getfield 259, 3) := by decide +kernel
theorem dX10_trace_6 : decode cX10_trace 6 = .ok (.bipush 20, 2) := by decide +kernel
theorem dX10_trace_8 : decode cX10_trace 8 = .ok (.if_icmp .ge 10, 3) := by decide +kernel
theorem dX10_trace_11 : decode cX10_trace 11 = .ok (.aload_n 0, 1) := by decide +kernel
theorem dX10_trace_12 : decode cX10_trace 12 = .ok (.getfield 259, 3) := by decide +kernel
theorem dX10_trace_15 : decode cX10_trace 15 = .ok (.goto 5, 3) := by decide +kernel
theorem dX10_trace_18 : decode cX10_trace 18 = .ok (.bipush 20, 2) := by decide +kernel
theorem dX10_trace_20 : decode cX10_trace 20 = .ok (.iconst 1, 1) := by decide +kernel
theorem dX10_trace_21 : decode cX10_trace 21 = .ok (.isub, 1) := by decide +kernel
theorem dX10_trace_22 : decode cX10_trace 22 = .ok (.invokestatic 45, 3) := by decide +kernel
theorem dX10_trace_25 : decode cX10_trace 25 = .ok (.ifCond .eq 12, 3) := by decide +kernel
theorem dX10_trace_28 : decode cX10_trace 28 = .ok (.aload_n 0, 1) := by decide +kernel
theorem dX10_trace_29 : decode cX10_trace 29 = .ok (.getfield 38, 3) := by decide +kernel
theorem dX10_trace_32 : decode cX10_trace 32 = .ok (.iload_n 1, 1) := by decide +kernel
theorem dX10_trace_33 : decode cX10_trace 33 = .ok (.iaload, 1) := by decide +kernel
theorem dX10_trace_34 : decode cX10_trace 34 = .ok (.goto 4, 3) := by decide +kernel
theorem dX10_trace_37 : decode cX10_trace 37 = .ok (.iconst (-1), 1) := by decide +kernel
theorem dX10_trace_38 : decode cX10_trace 38 = .ok (.ireturn, 1) := by decide +kernel
theorem dX10_as_0 : decode cX10_as 0 = .ok (.aload_n 0, 1) := by decide +kernel
theorem dX10_as_1 : decode cX10_as 1 = .ok (.iload_n 1, 1) := by decide +kernel
theorem dX10_as_2 : decode cX10_as 2 = .ok (.invokevirtual 145, 3) := by decide +kernel
theorem dX10_as_5 : decode cX10_as 5 = .ok (.ifCond .eq 13, 3) := by decide +kernel
theorem dX10_as_8 : decode cX10_as 8 = .ok (.iload_n 2, 1) := by decide +kernel
theorem dX10_as_9 : decode cX10_as 9 = .ok (.iconst 0, 1) := by decide +kernel
theorem dX10_as_10 : decode cX10_as 10 = .ok (.bipush 6, 2) := by decide +kernel
theorem dX10_as_12 : decode cX10_as 12 = .ok (.invokestatic 45, 3) := by decide +kernel
theorem dX10_as_15 : decode cX10_as 15 = .ok (.ifCond .ne 5, 3) := by decide +kernel
theorem dX10_as_18 : decode cX10_as 18 = .ok (.iconst (-1), 1) := by decide +kernel
theorem dX10_as_19 : decode cX10_as 19 = .ok (.ireturn, 1) := by decide +kernel
theorem dX10_as_20 : decode cX10_as 20 = .ok (.aload_n 0, 1) := by decide +kernel
theorem dX10_as_21 : decode cX10_as 21 = .ok (.getfield 9, 3) := by decide +kernel
theorem dX10_as_24 : decode cX10_as 24 = .ok (.bipush 96, 2) := by decide +kernel
theorem dX10_as_26 : decode cX10_as 26 = .ok (.iload_n 1, 1) := by decide +kernel
theorem dX10_as_27 : decode cX10_as 27 = .ok (.iadd, 1) := by decide +kernel
theorem dX10_as_28 : decode cX10_as 28 = .ok (.iaload, 1) := by decide +kernel
theorem dX10_as_29 : decode cX10_as 29 = .ok (.iload_n 2, 1) := by decide +kernel
theorem dX10_as_30 : decode cX10_as 30 = .ok (.invokestatic 271, 3) := by decide +kernel
theorem dX10_as_33 : decode cX10_as 33 = .ok (.ifCond .eq 15, 3) := by decide +kernel
theorem dX10_as_36 : decode cX10_as 36 = .ok (.aload_n 0, 1) := by decide +kernel
theorem dX10_as_37 : decode cX10_as 37 = .ok (.getfield 9, 3) := by decide +kernel
theorem dX10_as_40 : decode cX10_as 40 = .ok (.bipush 100, 2) := by decide +kernel
theorem dX10_as_42 : decode cX10_as 42 = .ok (.iload_n 1, 1) := by decide +kernel
theorem dX10_as_43 : decode cX10_as 43 = .ok (.iadd, 1) := by decide +kernel
theorem dX10_as_44 : decode cX10_as 44 = .ok (.iaload, 1) := by decide +kernel
theorem dX10_as_45 : decode cX10_as 45 = .ok (.goto 5, 3) := by decide +kernel
theorem dX10_as_48 : decode cX10_as 48 = .ok (.bipush (-6), 2) := by decide +kernel
theorem dX10_as_50 : decode cX10_as 50 = .ok (.ireturn, 1) := by decide +kernel
theorem dX10_image_0 : decode cX10_image 0 = .ok (.iconst 0, 1) := by decide +kernel
theorem dX10_image_1 : decode cX10_image 1 = .ok (.istore_n 1, 1) := by decide +kernel
theorem dX10_image_2 : decode cX10_image 2 = .ok (.iload_n 1, 1) := by decide +kernel
theorem dX10_image_3 : decode cX10_image 3 = .ok (.sipush 952, 3) := by decide +kernel
theorem dX10_image_6 : decode cX10_image 6 = .ok (.if_icmp .ge 21, 3) := by decide +kernel
theorem dX10_image_9 : decode cX10_image 9 = .ok (.aload_n 0, 1) := by decide +kernel
theorem dX10_image_10 : decode cX10_image 10 = .ok (.getfield 15, 3) := by decide +kernel
theorem dX10_image_13 : decode cX10_image 13 = .ok (.iload_n 1, 1) := by decide +kernel
theorem dX10_image_14 : decode cX10_image 14 = .ok (.aload_n 0, 1) := by decide +kernel
theorem dX10_image_15 : decode cX10_image 15 = .ok (.getfield 9, 3) := by decide +kernel
theorem dX10_image_18 : decode cX10_image 18 = .ok (.iload_n 1, 1) := by decide +kernel
theorem dX10_image_19 : decode cX10_image 19 = .ok (.iaload, 1) := by decide +kernel
theorem dX10_image_20 : decode cX10_image 20 = .ok (.iastore, 1) := by decide +kernel
theorem dX10_image_21 : decode cX10_image 21 = .ok (.iinc 1 1, 3) := by decide +kernel
theorem dX10_image_24 : decode cX10_image 24 = .ok (.goto (-22), 3) := by decide +kernel
theorem dX10_image_27 : decode cX10_image 27 = .ok (.aload_n 0, 1) := by decide +kernel
theorem dX10_image_28 : decode cX10_image 28 = .ok (.iconst 1, 1) := by decide +kernel
theorem dX10_image_29 : decode cX10_image 29 = .ok (.putfield 295, 3) := by decide +kernel
theorem dX10_image_32 : decode cX10_image 32 = .ok (.aload_n 0, 1) := by decide +kernel
theorem dX10_image_33 : decode cX10_image 33 = .ok (.getfield 9, 3) := by decide +kernel
theorem dX10_image_36 : decode cX10_image 36 = .ok (.iconst 0, 1) := by decide +kernel
theorem dX10_image_37 : decode cX10_image 37 = .ok (.iaload, 1) := by decide +kernel
theorem dX10_image_38 : decode cX10_image 38 = .ok (.ireturn, 1) := by decide +kernel
theorem dX10_undo_0 : decode cX10_undo 0 = .ok (.aload_n 0, 1) := by decide +kernel
theorem dX10_undo_1 : decode cX10_undo 1 = .ok (.getfield 295, 3) := by decide +kernel
theorem dX10_undo_4 : decode cX10_undo 4 = .ok (.ifCond .ne 6, 3) := by decide +kernel
theorem dX10_undo_7 : decode cX10_undo 7 = .ok (.bipush (-3), 2) := by decide +kernel
theorem dX10_undo_9 : decode cX10_undo 9 = .ok (.ireturn, 1) := by decide +kernel
theorem dX10_undo_10 : decode cX10_undo 10 = .ok (.iconst 0, 1) := by decide +kernel
theorem dX10_undo_11 : decode cX10_undo 11 = .ok (.istore_n 1, 1) := by decide +kernel
theorem dX10_undo_12 : decode cX10_undo 12 = .ok (.iload_n 1, 1) := by decide +kernel
theorem dX10_undo_13 : decode cX10_undo 13 = .ok (.sipush 952, 3) := by decide +kernel
theorem dX10_undo_16 : decode cX10_undo 16 = .ok (.if_icmp .ge 21, 3) := by decide +kernel
theorem dX10_undo_19 : decode cX10_undo 19 = .ok (.aload_n 0, 1) := by decide +kernel
theorem dX10_undo_20 : decode cX10_undo 20 = .ok (.getfield 9, 3) := by decide +kernel
theorem dX10_undo_23 : decode cX10_undo 23 = .ok (.iload_n 1, 1) := by decide +kernel
theorem dX10_undo_24 : decode cX10_undo 24 = .ok (.aload_n 0, 1) := by decide +kernel
theorem dX10_undo_25 : decode cX10_undo 25 = .ok (.getfield 15, 3) := by decide +kernel
theorem dX10_undo_28 : decode cX10_undo 28 = .ok (.iload_n 1, 1) := by decide +kernel
theorem dX10_undo_29 : decode cX10_undo 29 = .ok (.iaload, 1) := by decide +kernel
theorem dX10_undo_30 : decode cX10_undo 30 = .ok (.iastore, 1) := by decide +kernel
theorem dX10_undo_31 : decode cX10_undo 31 = .ok (.iinc 1 1, 3) := by decide +kernel
theorem dX10_undo_34 : decode cX10_undo 34 = .ok (.goto (-22), 3) := by decide +kernel
theorem dX10_undo_37 : decode cX10_undo 37 = .ok (.aload_n 0, 1) := by decide +kernel
theorem dX10_undo_38 : decode cX10_undo 38 = .ok (.getfield 9, 3) := by decide +kernel
theorem dX10_undo_41 : decode cX10_undo 41 = .ok (.iconst 0, 1) := by decide +kernel
theorem dX10_undo_42 : decode cX10_undo 42 = .ok (.iaload, 1) := by decide +kernel
theorem dX10_undo_43 : decode cX10_undo 43 = .ok (.ireturn, 1) := by decide +kernel
theorem dX10_count_0 : decode cX10_count 0 = .ok (.iload_n 1, 1) := by decide +kernel
theorem dX10_count_1 : decode cX10_count 1 = .ok (.tableswitch 90 0 6 #[43, 50, 57, 64, 71, 78, 85], 43) := by decide +kernel
theorem dX10_count_44 : decode cX10_count 44 = .ok (.aload_n 0, 1) := by decide +kernel
theorem dX10_count_45 : decode cX10_count 45 = .ok (.getfield 9, 3) := by decide +kernel
theorem dX10_count_48 : decode cX10_count 48 = .ok (.iconst 0, 1) := by decide +kernel
theorem dX10_count_49 : decode cX10_count 49 = .ok (.iaload, 1) := by decide +kernel
theorem dX10_count_50 : decode cX10_count 50 = .ok (.ireturn, 1) := by decide +kernel
theorem dX10_count_51 : decode cX10_count 51 = .ok (.aload_n 0, 1) := by decide +kernel
theorem dX10_count_52 : decode cX10_count 52 = .ok (.getfield 9, 3) := by decide +kernel
theorem dX10_count_55 : decode cX10_count 55 = .ok (.iconst 1, 1) := by decide +kernel
theorem dX10_count_56 : decode cX10_count 56 = .ok (.iaload, 1) := by decide +kernel
theorem dX10_count_57 : decode cX10_count 57 = .ok (.ireturn, 1) := by decide +kernel
theorem dX10_count_58 : decode cX10_count 58 = .ok (.aload_n 0, 1) := by decide +kernel
theorem dX10_count_59 : decode cX10_count 59 = .ok (.getfield 9, 3) := by decide +kernel
theorem dX10_count_62 : decode cX10_count 62 = .ok (.iconst 2, 1) := by decide +kernel
theorem dX10_count_63 : decode cX10_count 63 = .ok (.iaload, 1) := by decide +kernel
theorem dX10_count_64 : decode cX10_count 64 = .ok (.ireturn, 1) := by decide +kernel
theorem dX10_count_65 : decode cX10_count 65 = .ok (.aload_n 0, 1) := by decide +kernel
theorem dX10_count_66 : decode cX10_count 66 = .ok (.getfield 9, 3) := by decide +kernel
theorem dX10_count_69 : decode cX10_count 69 = .ok (.iconst 3, 1) := by decide +kernel
theorem dX10_count_70 : decode cX10_count 70 = .ok (.iaload, 1) := by decide +kernel
theorem dX10_count_71 : decode cX10_count 71 = .ok (.ireturn, 1) := by decide +kernel
theorem dX10_count_72 : decode cX10_count 72 = .ok (.aload_n 0, 1) := by decide +kernel
theorem dX10_count_73 : decode cX10_count 73 = .ok (.getfield 9, 3) := by decide +kernel
theorem dX10_count_76 : decode cX10_count 76 = .ok (.iconst 4, 1) := by decide +kernel
theorem dX10_count_77 : decode cX10_count 77 = .ok (.iaload, 1) := by decide +kernel
theorem dX10_count_78 : decode cX10_count 78 = .ok (.ireturn, 1) := by decide +kernel
theorem dX10_count_79 : decode cX10_count 79 = .ok (.aload_n 0, 1) := by decide +kernel
theorem dX10_count_80 : decode cX10_count 80 = .ok (.getfield 9, 3) := by decide +kernel
theorem dX10_count_83 : decode cX10_count 83 = .ok (.iconst 5, 1) := by decide +kernel
theorem dX10_count_84 : decode cX10_count 84 = .ok (.iaload, 1) := by decide +kernel
theorem dX10_count_85 : decode cX10_count 85 = .ok (.ireturn, 1) := by decide +kernel
theorem dX10_count_86 : decode cX10_count 86 = .ok (.aload_n 0, 1) := by decide +kernel
theorem dX10_count_87 : decode cX10_count 87 = .ok (.getfield 259, 3) := by decide +kernel
theorem dX10_count_90 : decode cX10_count 90 = .ok (.ireturn, 1) := by decide +kernel
theorem dX10_count_91 : decode cX10_count 91 = .ok (.iconst (-1), 1) := by decide +kernel
theorem dX10_count_92 : decode cX10_count 92 = .ok (.ireturn, 1) := by decide +kernel
