theorem dX5_rickOf_87 : decode cX5_rickOf 87 = .ok (.ireturn, 1) := by decide +kernel
theorem dX5_rickOf_88 : decode cX5_rickOf 88 = .ok (.aload_n 0, 1) := by decide +kernel
theorem dX5_rickOf_89 : decode cX5_rickOf 89 = .ok (.iload_n 1, 1) := by decide +kernel
theorem dX5_rickOf_90 : decode cX5_rickOf 90 = .ok (.invokevirtual 170, 3) := by decide +kernel
theorem dX5_rickOf_93 : decode cX5_rickOf 93 = .ok (.ireturn, 1) := by decide +kernel
theorem dX5_rickOf_94 : decode cX5_rickOf 94 = .ok (.aload_n 0, 1) := by decide +kernel
theorem dX5_rickOf_95 : decode cX5_rickOf 95 = .ok (.aload_n 0, 1) := by decide +kernel
theorem dX5_rickOf_96 : decode cX5_rickOf 96 = .ok (.iload_n 1, 1) := by decide +kernel
theorem dX5_rickOf_97 : decode cX5_rickOf 97 = .ok (.invokevirtual 124, 3) := by decide +kernel
theorem dX5_rickOf_100 : decode cX5_rickOf 100 = .ok (.invokevirtual 142, 3) := by decide +kernel
theorem dX5_rickOf_103 : decode cX5_rickOf 103 = .ok (.ireturn, 1) := by decide +kernel
theorem dX5_rickOf_104 : decode cX5_rickOf 104 = .ok (.aload_n 0, 1) := by decide +kernel
theorem dX5_rickOf_105 : decode cX5_rickOf 105 = .ok (.iload_n 1, 1) := by decide +kernel
theorem dX5_rickOf_106 : decode cX5_rickOf 106 = .ok (.invokevirtual 136, 3) := by decide +kernel
theorem dX5_rickOf_109 : decode cX5_rickOf 109 = .ok (.ireturn, 1) := by decide +kernel
theorem dX5_rickOf_110 : decode cX5_rickOf 110 = .ok (.aload_n 0, 1) := by decide +kernel
theorem dX5_rickOf_111 : decode cX5_rickOf 111 = .ok (.iload_n 1, 1) := by decide +kernel
theorem dX5_rickOf_112 : decode cX5_rickOf 112 = .ok (.invokevirtual 173, 3) := by decide +kernel
theorem dX5_rickOf_115 : decode cX5_rickOf 115 = .ok (.ireturn, 1) := by decide +kernel
theorem dX5_rickOf_116 : decode cX5_rickOf 116 = .ok (.aload_n 0, 1) := by decide +kernel
theorem dX5_rickOf_117 : decode cX5_rickOf 117 = .ok (.iload_n 1, 1) := by decide +kernel
theorem dX5_rickOf_118 : decode cX5_rickOf 118 = .ok (.invokevirtual 176, 3) := by decide +kernel
theorem dX5_rickOf_121 : decode cX5_rickOf 121 = .ok (.ireturn, 1) := by decide +kernel
theorem dX5_rickOf_122 : decode cX5_rickOf 122 = .ok (.aload_n 0, 1) := by decide +kernel
theorem dX5_rickOf_123 : decode cX5_rickOf 123 = .ok (.iload_n 1, 1) := by decide +kernel
theorem dX5_rickOf_124 : decode cX5_rickOf 124 = .ok (.invokevirtual 179, 3) := by decide +kernel
theorem dX5_rickOf_127 : decode cX5_rickOf 127 = .ok (.ireturn, 1) := by decide +kernel
theorem dX5_rickOf_128 : decode cX5_rickOf 128 = .ok (.bipush (-12), 2) := by decide +kernel
theorem dX5_rickOf_130 : decode cX5_rickOf 130 = .ok (.ireturn, 1) := by decide +kernel
theorem dX5_rank_0 : decode cX5_rank 0 = .ok (.iload_n 1, 1) := by decide +kernel
theorem dX5_rank_1 : decode cX5_rank 1 = .ok (.invokestatic 110, 3) := by decide +kernel
theorem dX5_rank_4 : decode cX5_rank 4 = .ok (.ifCond .ne 6, 3) := by decide +kernel
theorem dX5_rank_7 : decode cX5_rank 7 = .ok (.bipush (-11), 2) := by decide +kernel
theorem dX5_rank_9 : decode cX5_rank 9 = .ok (.ireturn, 1) := by decide +kernel
theorem dX5_rank_10 : decode cX5_rank 10 = .ok (.aload_n 0, 1) := by decide +kernel
theorem dX5_rank_11 : decode cX5_rank 11 = .ok (.iload_n 1, 1) := by decide +kernel
theorem dX5_rank_12 : decode cX5_rank 12 = .ok (.invokevirtual 100, 3) := by decide +kernel
theorem dX5_rank_15 : decode cX5_rank 15 = .ok (.iconst 0, 1) := by decide +kernel
theorem dX5_rank_16 : decode cX5_rank 16 = .ok (.istore_n 3, 1) := by decide +kernel
theorem dX5_rank_17 : decode cX5_rank 17 = .ok (.iload_n 3, 1) := by decide +kernel
theorem dX5_rank_18 : decode cX5_rank 18 = .ok (.aload_n 0, 1) := by decide +kernel
theorem dX5_rank_19 : decode cX5_rank 19 = .ok (.getfield 84, 3) := by decide +kernel
theorem dX5_rank_22 : decode cX5_rank 22 = .ok (.if_icmp .ge 25, 3) := by decide +kernel
theorem dX5_rank_25 : decode cX5_rank 25 = .ok (.aload_n 0, 1) := by decide +kernel
theorem dX5_rank_26 : decode cX5_rank 26 = .ok (.iload_n 1, 1) := by decide +kernel
theorem dX5_rank_27 : decode cX5_rank 27 = .ok (.aload_n 0, 1) := by decide +kernel
theorem dX5_rank_28 : decode cX5_rank 28 = .ok (.getfield 24, 3) := by decide +kernel
theorem dX5_rank_31 : decode cX5_rank 31 = .ok (.iload_n 3, 1) := by decide +kernel
theorem dX5_rank_32 : decode cX5_rank 32 = .ok (.iaload, 1) := by decide +kernel
theorem dX5_rank_33 : decode cX5_rank 33 = .ok (.iconst 0, 1) := by decide +kernel
theorem dX5_rank_34 : decode cX5_rank 34 = .ok (.invokevirtual 62, 3) := by decide +kernel
theorem dX5_rank_37 : decode cX5_rank 37 = .ok (.iload_n 2, 1) := by decide +kernel
theorem dX5_rank_38 : decode cX5_rank 38 = .ok (.if_icmp .ge 9, 3) := by decide +kernel
theorem dX5_rank_41 : decode cX5_rank 41 = .ok (.iinc 3 1, 3) := by decide +kernel
theorem dX5_rank_44 : decode cX5_rank 44 = .ok (.goto (-27), 3) := by decide +kernel
theorem dX5_rank_47 : decode cX5_rank 47 = .ok (.iload_n 3, 1) := by decide +kernel
theorem dX5_rank_48 : decode cX5_rank 48 = .ok (.ireturn, 1) := by decide +kernel
theorem dX5_rankAgain_0 : decode cX5_rankAgain 0 = .ok (.aload_n 0, 1) := by decide +kernel
theorem dX5_rankAgain_1 : decode cX5_rankAgain 1 = .ok (.iload_n 1, 1) := by decide +kernel
theorem dX5_rankAgain_2 : decode cX5_rankAgain 2 = .ok (.iload_n 2, 1) := by decide +kernel
theorem dX5_rankAgain_3 : decode cX5_rankAgain 3 = .ok (.invokevirtual 182, 3) := by decide +kernel
theorem dX5_rankAgain_6 : decode cX5_rankAgain 6 = .ok (.ireturn, 1) := by decide +kernel
theorem dX5_at_0 : decode cX5_at 0 = .ok (.iload_n 1, 1) := by decide +kernel
theorem dX5_at_1 : decode cX5_at 1 = .ok (.invokestatic 110, 3) := by decide +kernel
theorem dX5_at_4 : decode cX5_at 4 = .ok (.ifCond .ne 6, 3) := by decide +kernel
theorem dX5_at_7 : decode cX5_at 7 = .ok (.bipush (-11), 2) := by decide +kernel
theorem dX5_at_9 : decode cX5_at 9 = .ok (.ireturn, 1) := by decide +kernel
theorem dX5_at_10 : decode cX5_at 10 = .ok (.aload_n 0, 1) := by decide +kernel
theorem dX5_at_11 : decode cX5_at 11 = .ok (.iload_n 1, 1) := by decide +kernel
theorem dX5_at_12 : decode cX5_at 12 = .ok (.invokevirtual 100, 3) := by decide +kernel
theorem dX5_at_15 : decode cX5_at 15 = .ok (.iload_n 2, 1) := by decide +kernel
theorem dX5_at_16 : decode cX5_at 16 = .ok (.iconst 0, 1) := by decide +kernel
theorem dX5_at_17 : decode cX5_at 17 = .ok (.aload_n 0, 1) := by decide +kernel
theorem dX5_at_18 : decode cX5_at 18 = .ok (.getfield 84, 3) := by decide +kernel
theorem dX5_at_21 : decode cX5_at 21 = .ok (.iconst 1, 1) := by decide +kernel
theorem dX5_at_22 : decode cX5_at 22 = .ok (.isub, 1) := by decide +kernel
theorem dX5_at_23 : decode cX5_at 23 = .ok (.invokestatic 58, 3) := by decide +kernel
theorem dX5_at_26 : decode cX5_at 26 = .ok (.ifCond .eq 18, 3) := by decide +kernel
theorem dX5_at_29 : decode cX5_at 29 = .ok (.aload_n 0, 1) := by decide +kernel
theorem dX5_at_30 : decode cX5_at 30 = .ok (.iload_n 1, 1) := by decide +kernel
theorem dX5_at_31 : decode cX5_at 31 = .ok (.aload_n 0, 1) := by decide +kernel
theorem dX5_at_32 : decode cX5_at 32 = .ok (.getfield 24, 3) := by decide +kernel
theorem dX5_at_35 : decode cX5_at 35 = .ok (.iload_n 2, 1) := by decide +kernel
theorem dX5_at_36 : decode cX5_at 36 = .ok (.iaload, 1) := by decide +kernel
theorem dX5_at_37 : decode cX5_at 37 = .ok (.iconst 0, 1) := by decide +kernel
theorem dX5_at_38 : decode cX5_at 38 = .ok (.invokevirtual 62, 3) := by decide +kernel
theorem dX5_at_41 : decode cX5_at 41 = .ok (.goto 5, 3) := by decide +kernel
theorem dX5_at_44 : decode cX5_at 44 = .ok (.bipush (-11), 2) := by decide +kernel
theorem dX5_at_46 : decode cX5_at 46 = .ok (.ireturn, 1) := by decide +kernel
theorem dX5_between_0 : decode cX5_between 0 = .ok (.iload_n 1, 1) := by decide +kernel
theorem dX5_between_1 : decode cX5_between 1 = .ok (.invokestatic 110, 3) := by decide +kernel
theorem dX5_between_4 : decode cX5_between 4 = .ok (.ifCond .ne 6, 3) := by decide +kernel
theorem dX5_between_7 : decode cX5_between 7 = .ok (.bipush (-11), 2) := by decide +kernel
theorem dX5_between_9 : decode cX5_between 9 = .ok (.ireturn, 1) := by decide +kernel
theorem dX5_between_10 : decode cX5_between 10 = .ok (.aload_n 0, 1) := by decide +kernel
theorem dX5_between_11 : decode cX5_between 11 = .ok (.iload_n 1, 1) := by decide +kernel
theorem dX5_between_12 : decode cX5_between 12 = .ok (.invokevirtual 100, 3) := by decide +kernel
theorem dX5_between_15 : decode cX5_between 15 = .ok (.iconst 0, 1) := by decide +kernel
theorem dX5_between_16 : decode cX5_between 16 = .ok (.istore 4, 2) := by decide +kernel
theorem dX5_between_18 : decode cX5_between 18 = .ok (.iconst 0, 1) := by decide +kernel
theorem dX5_between_19 : decode cX5_between 19 = .ok (.istore 5, 2) := by decide +kernel
theorem dX5_between_21 : decode cX5_between 21 = .ok (.iload 5, 2) := by decide +kernel
theorem dX5_between_23 : decode cX5_between 23 = .ok (.aload_n 0, 1) := by decide +kernel
theorem dX5_between_24 : decode cX5_between 24 = .ok (.getfield 84, 3) := by decide +kernel
theorem dX5_between_27 : decode cX5_between 27 = .ok (.if_icmp .ge 52, 3) := by decide +kernel
theorem dX5_between_30 : decode cX5_between 30 = .ok (.iload 4, 2) := by decide +kernel
theorem dX5_between_32 : decode cX5_between 32 = .ok (.aload_n 0, 1) := by decide +kernel
theorem dX5_between_33 : decode cX5_between 33 = .ok (.iload_n 1, 1) := by decide +kernel
theorem dX5_between_34 : decode cX5_between 34 = .ok (.aload_n 0, 1) := by decide +kernel
theorem dX5_between_35 : decode cX5_between 35 = .ok (.getfield 24, 3) := by decide +kernel
theorem dX5_between_38 : decode cX5_between 38 = .ok (.iload 5, 2) := by decide +kernel
theorem dX5_between_40 : decode cX5_between 40 = .ok (.iaload, 1) := by decide +kernel
theorem dX5_between_41 : decode cX5_between 41 = .ok (.iconst 0, 1) := by decide +kernel
theorem dX5_between_42 : decode cX5_between 42 = .ok (.invokevirtual 62, 3) := by decide +kernel
theorem dX5_between_45 : decode cX5_between 45 = .ok (.iload_n 2, 1) := by decide +kernel
theorem dX5_between_46 : decode cX5_between 46 = .ok (.iload_n 3, 1) := by decide +kernel
theorem dX5_between_47 : decode cX5_between 47 = .ok (.invokestatic 58, 3) := by decide +kernel
theorem dX5_between_50 : decode cX5_between 50 = .ok (.ifCond .eq 19, 3) := by decide +kernel
theorem dX5_between_53 : decode cX5_between 53 = .ok (.aload_n 0, 1) := by decide +kernel
theorem dX5_between_54 : decode cX5_between 54 = .ok (.iload_n 1, 1) := by decide +kernel
theorem dX5_between_55 : decode cX5_between 55 = .ok (.aload_n 0, 1) := by decide +kernel
theorem dX5_between_56 : decode cX5_between 56 = .ok (.getfield 24, 3) := by decide +kernel
theorem dX5_between_59 : decode cX5_between 59 = .ok (.iload 5, 2) := by decide +kernel
theorem dX5_between_61 : decode cX5_between 61 = .ok (.iaload, 1) := by decide +kernel
theorem dX5_between_62 : decode cX5_between 62 = .ok (.iconst 1, 1) := by decide +kernel
theorem dX5_between_63 : decode cX5_between 63 = .ok (.invokevirtual 62, 3) := by decide +kernel
theorem dX5_between_66 : decode cX5_between 66 = .ok (.goto 4, 3) := by decide +kernel
theorem dX5_between_69 : decode cX5_between 69 = .ok (.iconst 0, 1) := by decide +kernel
theorem dX5_between_70 : decode cX5_between 70 = .ok (.iadd, 1) := by decide +kernel
theorem dX5_between_71 : decode cX5_between 71 = .ok (.istore 4, 2) := by decide +kernel
theorem dX5_between_73 : decode cX5_between 73 = .ok (.iinc 5 1, 3) := by decide +kernel
theorem dX5_between_76 : decode cX5_between 76 = .ok (.goto (-55), 3) := by decide +kernel
theorem dX5_between_79 : decode cX5_between 79 = .ok (.iload 4, 2) := by decide +kernel
theorem dX5_between_81 : decode cX5_between 81 = .ok (.ireturn, 1) := by decide +kernel
theorem dX5_betweenAgain_0 : decode cX5_betweenAgain 0 = .ok (.aload_n 0, 1) := by decide +kernel
theorem dX5_betweenAgain_1 : decode cX5_betweenAgain 1 = .ok (.iload_n 1, 1) := by decide +kernel
theorem dX5_betweenAgain_2 : decode cX5_betweenAgain 2 = .ok (.iload_n 2, 1) := by decide +kernel
theorem dX5_betweenAgain_3 : decode cX5_betweenAgain 3 = .ok (.iload_n 3, 1) := by decide +kernel
theorem dX5_betweenAgain_4 : decode cX5_betweenAgain 4 = .ok (.invokevirtual 185, 3) := by decide +kernel
theorem dX5_betweenAgain_7 : decode cX5_betweenAgain 7 = .ok (.ireturn, 1) := by decide +kernel
theorem dX5_isThere_0 : decode cX5_isThere 0 = .ok (.aload_n 0, 1) := by decide +kernel
theorem dX5_isThere_1 : decode cX5_isThere 1 = .ok (.iload_n 1, 1) := by decide +kernel
theorem dX5_isThere_2 : decode cX5_isThere 2 = .ok (.bipush 30, 2) := by decide +kernel
theorem dX5_isThere_4 : decode cX5_isThere 4 = .ok (.idiv, 1) := by decide +kernel
theorem dX5_isThere_5 : decode cX5_isThere 5 = .ok (.iload_n 1, 1) := by decide +kernel
theorem dX5_isThere_6 : decode cX5_isThere 6 = .ok (.bipush 30, 2) := by decide +kernel
theorem dX5_isThere_8 : decode cX5_isThere 8 = .ok (.irem, 1) := by decide +kernel
theorem dX5_isThere_9 : decode cX5_isThere 9 = .ok (.iconst 0, 1) := by decide +kernel
theorem dX5_isThere_10 : decode cX5_isThere 10 = .ok (.invokevirtual 62, 3) := by decide +kernel
theorem dX5_isThere_13 : decode cX5_isThere 13 = .ok (.ifCond .lt 7, 3) := by decide +kernel
theorem dX5_isThere_16 : decode cX5_isThere 16 = .ok (.iconst 1, 1) := by decide +kernel
theorem dX5_isThere_17 : decode cX5_isThere 17 = .ok (.goto 4, 3) := by decide +kernel
theorem dX5_isThere_20 : decode cX5_isThere 20 = .ok (.iconst 0, 1) := by decide +kernel
theorem dX5_isThere_21 : decode cX5_isThere 21 = .ok (.ireturn, 1) := by decide +kernel
theorem dX5_ofAll_0 : decode cX5_ofAll 0 = .ok (.aload_n 0, 1) := by decide +kernel
theorem dX5_ofAll_1 : decode cX5_ofAll 1 = .ok (.iload_n 1, 1) := by decide +kernel
theorem dX5_ofAll_2 : decode cX5_ofAll 2 = .ok (.bipush 30, 2) := by decide +kernel
theorem dX5_ofAll_4 : decode cX5_ofAll 4 = .ok (.idiv, 1) := by decide +kernel
theorem dX5_ofAll_5 : decode cX5_ofAll 5 = .ok (.iload_n 1, 1) := by decide +kernel
theorem dX5_ofAll_6 : decode cX5_ofAll 6 = .ok (.bipush 30, 2) := by decide +kernel
theorem dX5_ofAll_8 : decode cX5_ofAll 8 = .ok (.irem, 1) := by decide +kernel
theorem dX5_ofAll_9 : decode cX5_ofAll 9 = .ok (.iload_n 2, 1) := by decide +kernel
theorem dX5_ofAll_10 : decode cX5_ofAll 10 = .ok (.invokevirtual 62, 3) := by decide +kernel
theorem dX5_ofAll_13 : decode cX5_ofAll 13 = .ok (.ireturn, 1) := by decide +kernel
theorem dX5_isAhead_0 : decode cX5_isAhead 0 = .ok (.aload_n 0, 1) := by decide +kernel
theorem dX5_isAhead_1 : decode cX5_isAhead 1 = .ok (.iload_n 1, 1) := by decide +kernel
theorem dX5_isAhead_2 : decode cX5_isAhead 2 = .ok (.iconst 1, 1) := by decide +kernel
theorem dX5_isAhead_3 : decode cX5_isAhead 3 = .ok (.invokevirtual 188, 3) := by decide +kernel
theorem dX5_isAhead_6 : decode cX5_isAhead 6 = .ok (.aload_n 0, 1) := by decide +kernel
theorem dX5_isAhead_7 : decode cX5_isAhead 7 = .ok (.iload_n 2, 1) := by decide +kernel
theorem dX5_isAhead_8 : decode cX5_isAhead 8 = .ok (.iconst 1, 1) := by decide +kernel
theorem dX5_isAhead_9 : decode cX5_isAhead 9 = .ok (.invokevirtual 188, 3) := by decide +kernel
theorem dX5_isAhead_12 : decode cX5_isAhead 12 = .ok (.isub, 1) := by decide +kernel
theorem dX5_isAhead_13 : decode cX5_isAhead 13 = .ok (.istore_n 3, 1) := by decide +kernel
theorem dX5_isAhead_14 : decode cX5_isAhead 14 = .ok (.aload_n 0, 1) := by decide +kernel
theorem dX5_isAhead_15 : decode cX5_isAhead 15 = .ok (.iload_n 1, 1) := by decide +kernel
theorem dX5_isAhead_16 : decode cX5_isAhead 16 = .ok (.iconst 0, 1) := by decide +kernel
theorem dX5_isAhead_17 : decode cX5_isAhead 17 = .ok (.invokevirtual 188, 3) := by decide +kernel
theorem dX5_isAhead_20 : decode cX5_isAhead 20 = .ok (.aload_n 0, 1) := by decide +kernel
theorem dX5_isAhead_21 : decode cX5_isAhead 21 = .ok (.iload_n 2, 1) := by decide +kernel
theorem dX5_isAhead_22 : decode cX5_isAhead 22 = .ok (.iconst 0, 1) := by decide +kernel
theorem dX5_isAhead_23 : decode cX5_isAhead 23 = .ok (.invokevirtual 188, 3) := by decide +kernel
theorem dX5_isAhead_26 : decode cX5_isAhead 26 = .ok (.isub, 1) := by decide +kernel
theorem dX5_isAhead_27 : decode cX5_isAhead 27 = .ok (.istore 4, 2) := by decide +kernel
theorem dX5_isAhead_29 : decode cX5_isAhead 29 = .ok (.iload_n 3, 1) := by decide +kernel
theorem dX5_isAhead_30 : decode cX5_isAhead 30 = .ok (.ifCond .eq 15, 3) := by decide +kernel
theorem dX5_isAhead_33 : decode cX5_isAhead 33 = .ok (.iload_n 3, 1) := by decide +kernel
theorem dX5_isAhead_34 : decode cX5_isAhead 34 = .ok (.ifCond .le 7, 3) := by decide +kernel
theorem dX5_isAhead_37 : decode cX5_isAhead 37 = .ok (.iconst 1, 1) := by decide +kernel
theorem dX5_isAhead_38 : decode cX5_isAhead 38 = .ok (.goto 41, 3) := by decide +kernel
theorem dX5_isAhead_41 : decode cX5_isAhead 41 = .ok (.iconst 0, 1) := by decide +kernel
theorem dX5_isAhead_42 : decode cX5_isAhead 42 = .ok (.goto 37, 3) := by decide +kernel
theorem dX5_isAhead_45 : decode cX5_isAhead 45 = .ok (.iload 4, 2) := by decide +kernel
theorem dX5_isAhead_47 : decode cX5_isAhead 47 = .ok (.ifCond .eq 16, 3) := by decide +kernel
theorem dX5_isAhead_50 : decode cX5_isAhead 50 = .ok (.iload 4, 2) := by decide +kernel
theorem dX5_isAhead_52 : decode cX5_isAhead 52 = .ok (.ifCond .ge 7, 3) := by decide +kernel
theorem dX5_isAhead_55 : decode cX5_isAhead 55 = .ok (.iconst 1, 1) := by decide +kernel
theorem dX5_isAhead_56 : decode cX5_isAhead 56 = .ok (.goto 23, 3) := by decide +kernel
theorem dX5_isAhead_59 : decode cX5_isAhead 59 = .ok (.iconst 0, 1) := by decide +kernel
theorem dX5_isAhead_60 : decode cX5_isAhead 60 = .ok (.goto 19, 3) := by decide +kernel
theorem dX5_isAhead_63 : decode cX5_isAhead 63 = .ok (.iload_n 1, 1) := by decide +kernel
theorem dX5_isAhead_64 : decode cX5_isAhead 64 = .ok (.bipush 30, 2) := by decide +kernel
theorem dX5_isAhead_66 : decode cX5_isAhead 66 = .ok (.idiv, 1) := by decide +kernel
theorem dX5_isAhead_67 : decode cX5_isAhead 67 = .ok (.iload_n 2, 1) := by decide +kernel
theorem dX5_isAhead_68 : decode cX5_isAhead 68 = .ok (.bipush 30, 2) := by decide +kernel
theorem dX5_isAhead_70 : decode cX5_isAhead 70 = .ok (.idiv, 1) := by decide +kernel
theorem dX5_isAhead_71 : decode cX5_isAhead 71 = .ok (.if_icmp .ge 7, 3) := by decide +kernel
theorem dX5_isAhead_74 : decode cX5_isAhead 74 = .ok (.iconst 1, 1) := by decide +kernel
theorem dX5_isAhead_75 : decode cX5_isAhead 75 = .ok (.goto 4, 3) := by decide +kernel
theorem dX5_isAhead_78 : decode cX5_isAhead 78 = .ok (.iconst 0, 1) := by decide +kernel
theorem dX5_isAhead_79 : decode cX5_isAhead 79 = .ok (.ireturn, 1) := by decide +kernel
theorem dX5_heaviest_0 : decode cX5_heaviest 0 = .ok (.iconst 0, 1) := by decide +kernel
theorem dX5_heaviest_1 : decode cX5_heaviest 1 = .ok (.istore_n 2, 1) := by decide +kernel
theorem dX5_heaviest_2 : decode cX5_heaviest 2 = .ok (.iload_n 2, 1) := by decide +kernel
theorem dX5_heaviest_3 : decode cX5_heaviest 3 = .ok (.bipush 90, 2) := by decide +kernel
theorem dX5_heaviest_5 : decode cX5_heaviest 5 = .ok (.if_icmp .ge 91, 3) := by decide +kernel
theorem dX5_heaviest_8 : decode cX5_heaviest 8 = .ok (.iconst 0, 1) := by decide +kernel
theorem dX5_heaviest_9 : decode cX5_heaviest 9 = .ok (.istore_n 3, 1) := by decide +kernel
theorem dX5_heaviest_10 : decode cX5_heaviest 10 = .ok (.iconst 0, 1) := by decide +kernel
theorem dX5_heaviest_11 : decode cX5_heaviest 11 = .ok (.istore 4, 2) := by decide +kernel
theorem dX5_heaviest_13 : decode cX5_heaviest 13 = .ok (.iload 4, 2) := by decide +kernel
theorem dX5_heaviest_15 : decode cX5_heaviest 15 = .ok (.bipush 90, 2) := by decide +kernel
theorem dX5_heaviest_17 : decode cX5_heaviest 17 = .ok (.if_icmp .ge 44, 3) := by decide +kernel
theorem dX5_heaviest_20 : decode cX5_heaviest 20 = .ok (.aload_n 0, 1) := by decide +kernel
theorem dX5_heaviest_21 : decode cX5_heaviest 21 = .ok (.iload_n 2, 1) := by decide +kernel
theorem dX5_heaviest_22 : decode cX5_heaviest 22 = .ok (.invokevirtual 191, 3) := by decide +kernel
theorem dX5_heaviest_25 : decode cX5_heaviest 25 = .ok (.ifCond .eq 36, 3) := by decide +kernel
theorem dX5_heaviest_28 : decode cX5_heaviest 28 = .ok (.iload_n 3, 1) := by decide +kernel
theorem dX5_heaviest_29 : decode cX5_heaviest 29 = .ok (.aload_n 0, 1) := by decide +kernel
theorem dX5_heaviest_30 : decode cX5_heaviest 30 = .ok (.iload 4, 2) := by decide +kernel
theorem dX5_heaviest_32 : decode cX5_heaviest 32 = .ok (.invokevirtual 191, 3) := by decide +kernel
theorem dX5_heaviest_35 : decode cX5_heaviest 35 = .ok (.ifCond .eq 17, 3) := by decide +kernel
theorem dX5_heaviest_38 : decode cX5_heaviest 38 = .ok (.aload_n 0, 1) := by decide +kernel
theorem dX5_heaviest_39 : decode cX5_heaviest 39 = .ok (.iload 4, 2) := by decide +kernel
theorem dX5_heaviest_41 : decode cX5_heaviest 41 = .ok (.iload_n 2, 1) := by decide +kernel
theorem dX5_heaviest_42 : decode cX5_heaviest 42 = .ok (.invokevirtual 194, 3) := by decide +kernel
theorem dX5_heaviest_45 : decode cX5_heaviest 45 = .ok (.ifCond .eq 7, 3) := by decide +kernel
theorem dX5_heaviest_48 : decode cX5_heaviest 48 = .ok (.iconst 1, 1) := by decide +kernel
theorem dX5_heaviest_49 : decode cX5_heaviest 49 = .ok (.goto 4, 3) := by decide +kernel
theorem dX5_heaviest_52 : decode cX5_heaviest 52 = .ok (.iconst 0, 1) := by decide +kernel
theorem dX5_heaviest_53 : decode cX5_heaviest 53 = .ok (.iadd, 1) := by decide +kernel
theorem dX5_heaviest_54 : decode cX5_heaviest 54 = .ok (.istore_n 3, 1) := by decide +kernel
theorem dX5_heaviest_55 : decode cX5_heaviest 55 = .ok (.iinc 4 1, 3) := by decide +kernel
theorem dX5_heaviest_58 : decode cX5_heaviest 58 = .ok (.goto (-45), 3) := by decide +kernel
theorem dX5_heaviest_61 : decode cX5_heaviest 61 = .ok (.aload_n 0, 1) := by decide +kernel
theorem dX5_heaviest_62 : decode cX5_heaviest 62 = .ok (.iload_n 2, 1) := by decide +kernel
theorem dX5_heaviest_63 : decode cX5_heaviest 63 = .ok (.invokevirtual 191, 3) := by decide +kernel
theorem dX5_heaviest_66 : decode cX5_heaviest 66 = .ok (.ifCond .eq 24, 3) := by decide +kernel
theorem dX5_heaviest_69 : decode cX5_heaviest 69 = .ok (.iload_n 3, 1) := by decide +kernel
theorem dX5_heaviest_70 : decode cX5_heaviest 70 = .ok (.iload_n 1, 1) := by decide +kernel
theorem dX5_heaviest_71 : decode cX5_heaviest 71 = .ok (.if_icmp .ne 19, 3) := by decide +kernel
theorem dX5_heaviest_74 : decode cX5_heaviest 74 = .ok (.sipush 1000, 3) := by decide +kernel
theorem dX5_heaviest_77 : decode cX5_heaviest 77 = .ok (.iload_n 2, 1) := by decide +kernel
theorem dX5_heaviest_78 : decode cX5_heaviest 78 = .ok (.bipush 30, 2) := by decide +kernel
theorem dX5_heaviest_80 : decode cX5_heaviest 80 = .ok (.idiv, 1) := by decide +kernel
theorem dX5_heaviest_81 : decode cX5_heaviest 81 = .ok (.imul, 1) := by decide +kernel
theorem dX5_heaviest_82 : decode cX5_heaviest 82 = .ok (.aload_n 0, 1) := by decide +kernel
theorem dX5_heaviest_83 : decode cX5_heaviest 83 = .ok (.iload_n 2, 1) := by decide +kernel
theorem dX5_heaviest_84 : decode cX5_heaviest 84 = .ok (.iconst 0, 1) := by decide +kernel
theorem dX5_heaviest_85 : decode cX5_heaviest 85 = .ok (.invokevirtual 188, 3) := by decide +kernel
theorem dX5_heaviest_88 : decode cX5_heaviest 88 = .ok (.iadd, 1) := by decide +kernel
theorem dX5_heaviest_89 : decode cX5_heaviest 89 = .ok (.ireturn, 1) := by decide +kernel
theorem dX5_heaviest_90 : decode cX5_heaviest 90 = .ok (.iinc 2 1, 3) := by decide +kernel
theorem dX5_heaviest_93 : decode cX5_heaviest 93 = .ok (.goto (-91), 3) := by decide +kernel
theorem dX5_heaviest_96 : decode cX5_heaviest 96 = .ok (.bipush (-11), 2) := by decide +kernel
theorem dX5_heaviest_98 : decode cX5_heaviest 98 = .ok (.ireturn, 1) := by decide +kernel
theorem dX5_load_0 : decode cX5_load 0 = .ok (.iconst 0, 1) := by decide +kernel
theorem dX5_load_1 : decode cX5_load 1 = .ok (.istore 4, 2) := by decide +kernel
theorem dX5_load_3 : decode cX5_load 3 = .ok (.iconst 0, 1) := by decide +kernel
theorem dX5_load_4 : decode cX5_load 4 = .ok (.istore 5, 2) := by decide +kernel
theorem dX5_load_6 : decode cX5_load 6 = .ok (.iconst 0, 1) := by decide +kernel
theorem dX5_load_7 : decode cX5_load 7 = .ok (.istore 6, 2) := by decide +kernel
theorem dX5_load_9 : decode cX5_load 9 = .ok (.iload 6, 2) := by decide +kernel
theorem dX5_load_11 : decode cX5_load 11 = .ok (.iload_n 2, 1) := by decide +kernel
theorem dX5_load_12 : decode cX5_load 12 = .ok (.if_icmp .gt 64, 3) := by decide +kernel
theorem dX5_load_15 : decode cX5_load 15 = .ok (.aload_n 0, 1) := by decide +kernel
theorem dX5_load_16 : decode cX5_load 16 = .ok (.iload_n 1, 1) := by decide +kernel
theorem dX5_load_17 : decode cX5_load 17 = .ok (.aload_n 0, 1) := by decide +kernel
theorem dX5_load_18 : decode cX5_load 18 = .ok (.getfield 24, 3) := by decide +kernel
theorem dX5_load_21 : decode cX5_load 21 = .ok (.iload 6, 2) := by decide +kernel
theorem dX5_load_23 : decode cX5_load 23 = .ok (.iaload, 1) := by decide +kernel
theorem dX5_load_24 : decode cX5_load 24 = .ok (.iconst 1, 1) := by decide +kernel
theorem dX5_load_25 : decode cX5_load 25 = .ok (.invokevirtual 62, 3) := by decide +kernel
theorem dX5_load_28 : decode cX5_load 28 = .ok (.istore 7, 2) := by decide +kernel
theorem dX5_load_30 : decode cX5_load 30 = .ok (.iload 4, 2) := by decide +kernel
theorem dX5_load_32 : decode cX5_load 32 = .ok (.iload 5, 2) := by decide +kernel
theorem dX5_load_34 : decode cX5_load 34 = .ok (.iload 7, 2) := by decide +kernel
theorem dX5_load_36 : decode cX5_load 36 = .ok (.iadd, 1) := by decide +kernel
theorem dX5_load_37 : decode cX5_load 37 = .ok (.iload_n 3, 1) := by decide +kernel
theorem dX5_load_38 : decode cX5_load 38 = .ok (.if_icmp .le 7, 3) := by decide +kernel
theorem dX5_load_41 : decode cX5_load 41 = .ok (.iconst 1, 1) := by decide +kernel
theorem dX5_load_42 : decode cX5_load 42 = .ok (.goto 4, 3) := by decide +kernel
theorem dX5_load_45 : decode cX5_load 45 = .ok (.iconst 0, 1) := by decide +kernel
theorem dX5_load_46 : decode cX5_load 46 = .ok (.iadd, 1) := by decide +kernel
theorem dX5_load_47 : decode cX5_load 47 = .ok (.istore 4, 2) := by decide +kernel
theorem dX5_load_49 : decode cX5_load 49 = .ok (.iload 5, 2) := by decide +kernel
theorem dX5_load_51 : decode cX5_load 51 = .ok (.iload 7, 2) := by decide +kernel
theorem dX5_load_53 : decode cX5_load 53 = .ok (.iadd, 1) := by decide +kernel
theorem dX5_load_54 : decode cX5_load 54 = .ok (.iload_n 3, 1) := by decide +kernel
theorem dX5_load_55 : decode cX5_load 55 = .ok (.if_icmp .le 8, 3) := by decide +kernel
theorem dX5_load_58 : decode cX5_load 58 = .ok (.iload 7, 2) := by decide +kernel
theorem dX5_load_60 : decode cX5_load 60 = .ok (.goto 8, 3) := by decide +kernel
theorem dX5_load_63 : decode cX5_load 63 = .ok (.iload 5, 2) := by decide +kernel
theorem dX5_load_65 : decode cX5_load 65 = .ok (.iload 7, 2) := by decide +kernel
theorem dX5_load_67 : decode cX5_load 67 = .ok (.iadd, 1) := by decide +kernel
theorem dX5_load_68 : decode cX5_load 68 = .ok (.istore 5, 2) := by decide +kernel
theorem dX5_load_70 : decode cX5_load 70 = .ok (.iinc 6 1, 3) := by decide +kernel
theorem dX5_load_73 : decode cX5_load 73 = .ok (.goto (-64), 3) := by decide +kernel
theorem dX5_load_76 : decode cX5_load 76 = .ok (.iload 4, 2) := by decide +kernel
theorem dX5_load_78 : decode cX5_load 78 = .ok (.ireturn, 1) := by decide +kernel
theorem dX5_isBearing_0 : decode cX5_isBearing 0 = .ok (.iload_n 0, 1) := by decide +kernel
theorem dX5_isBearing_1 : decode cX5_isBearing 1 = .ok (.bipush 99, 2) := by decide +kernel
theorem dX5_isBearing_3 : decode cX5_isBearing 3 = .ok (.sipush 999, 3) := by decide +kernel
theorem dX5_isBearing_6 : decode cX5_isBearing 6 = .ok (.invokestatic 58, 3) := by decide +kernel
theorem dX5_isBearing_9 : decode cX5_isBearing 9 = .ok (.ireturn, 1) := by decide +kernel
theorem dX5_carts_0 : decode cX5_carts 0 = .ok (.iload_n 1, 1) := by decide +kernel
theorem dX5_carts_1 : decode cX5_carts 1 = .ok (.invokestatic 110, 3) := by decide +kernel
theorem dX5_carts_4 : decode cX5_carts 4 = .ok (.ifCond .ne 6, 3) := by decide +kernel
theorem dX5_carts_7 : decode cX5_carts 7 = .ok (.bipush (-11), 2) := by decide +kernel
theorem dX5_carts_9 : decode cX5_carts 9 = .ok (.ireturn, 1) := by decide +kernel
theorem dX5_carts_10 : decode cX5_carts 10 = .ok (.iload_n 2, 1) := by decide +kernel
theorem dX5_carts_11 : decode cX5_carts 11 = .ok (.invokestatic 197, 3) := by decide +kernel
theorem dX5_carts_14 : decode cX5_carts 14 = .ok (.ifCond .ne 6, 3) := by decide +kernel
theorem dX5_carts_17 : decode cX5_carts 17 = .ok (.bipush (-12), 2) := by decide +kernel
theorem dX5_carts_19 : decode cX5_carts 19 = .ok (.ireturn, 1) := by decide +kernel
theorem dX5_carts_20 : decode cX5_carts 20 = .ok (.aload_n 0, 1) := by decide +kernel
theorem dX5_carts_21 : decode cX5_carts 21 = .ok (.iload_n 1, 1) := by decide +kernel
theorem dX5_carts_22 : decode cX5_carts 22 = .ok (.invokevirtual 100, 3) := by decide +kernel
theorem dX5_carts_25 : decode cX5_carts 25 = .ok (.aload_n 0, 1) := by decide +kernel
theorem dX5_carts_26 : decode cX5_carts 26 = .ok (.getfield 84, 3) := by decide +kernel
theorem dX5_carts_29 : decode cX5_carts 29 = .ok (.ifCond .ne 7, 3) := by decide +kernel
theorem dX5_carts_32 : decode cX5_carts 32 = .ok (.iconst 0, 1) := by decide +kernel
theorem dX5_carts_33 : decode cX5_carts 33 = .ok (.goto 17, 3) := by decide +kernel
theorem dX5_carts_36 : decode cX5_carts 36 = .ok (.aload_n 0, 1) := by decide +kernel
theorem dX5_carts_37 : decode cX5_carts 37 = .ok (.iload_n 1, 1) := by decide +kernel
theorem dX5_carts_38 : decode cX5_carts 38 = .ok (.aload_n 0, 1) := by decide +kernel
theorem dX5_carts_39 : decode cX5_carts 39 = .ok (.getfield 84, 3) := by decide +kernel
theorem dX5_carts_42 : decode cX5_carts 42 = .ok (.iconst 1, 1) := by decide +kernel
theorem dX5_carts_43 : decode cX5_carts 43 = .ok (.isub, 1) := by decide +kernel
theorem dX5_carts_44 : decode cX5_carts 44 = .ok (.iload_n 2, 1) := by decide +kernel
theorem dX5_carts_45 : decode cX5_carts 45 = .ok (.invokevirtual 200, 3) := by decide +kernel
theorem dX5_carts_48 : decode cX5_carts 48 = .ok (.iconst 1, 1) := by decide +kernel
theorem dX5_carts_49 : decode cX5_carts 49 = .ok (.iadd, 1) := by decide +kernel
theorem dX5_carts_50 : decode cX5_carts 50 = .ok (.ireturn, 1) := by decide +kernel
theorem dX5_cartOf_0 : decode cX5_cartOf 0 = .ok (.iload_n 1, 1) := by decide +kernel
theorem dX5_cartOf_1 : decode cX5_cartOf 1 = .ok (.invokestatic 110, 3) := by decide +kernel
theorem dX5_cartOf_4 : decode cX5_cartOf 4 = .ok (.ifCond .eq 12, 3) := by decide +kernel
theorem dX5_cartOf_7 : decode cX5_cartOf 7 = .ok (.aload_n 0, 1) := by decide +kernel
theorem dX5_cartOf_8 : decode cX5_cartOf 8 = .ok (.iload_n 1, 1) := by decide +kernel
theorem dX5_cartOf_9 : decode cX5_cartOf 9 = .ok (.iload_n 2, 1) := by decide +kernel
theorem dX5_cartOf_10 : decode cX5_cartOf 10 = .ok (.invokevirtual 117, 3) := by decide +kernel
theorem dX5_cartOf_13 : decode cX5_cartOf 13 = .ok (.ifCond .ge 6, 3) := by decide +kernel
theorem dX5_cartOf_16 : decode cX5_cartOf 16 = .ok (.bipush (-11), 2) := by decide +kernel
theorem dX5_cartOf_18 : decode cX5_cartOf 18 = .ok (.ireturn, 1) := by decide +kernel
theorem dX5_cartOf_19 : decode cX5_cartOf 19 = .ok (.iload_n 3, 1) := by decide +kernel
theorem dX5_cartOf_20 : decode cX5_cartOf 20 = .ok (.invokestatic 197, 3) := by decide +kernel
theorem dX5_cartOf_23 : decode cX5_cartOf 23 = .ok (.ifCond .ne 6, 3) := by decide +kernel
theorem dX5_cartOf_26 : decode cX5_cartOf 26 = .ok (.bipush (-12), 2) := by decide +kernel
theorem dX5_cartOf_28 : decode cX5_cartOf 28 = .ok (.ireturn, 1) := by decide +kernel
theorem dX5_cartOf_29 : decode cX5_cartOf 29 = .ok (.aload_n 0, 1) := by decide +kernel
theorem dX5_cartOf_30 : decode cX5_cartOf 30 = .ok (.iload_n 1, 1) := by decide +kernel
theorem dX5_cartOf_31 : decode cX5_cartOf 31 = .ok (.aload_n 0, 1) := by decide +kernel
theorem dX5_cartOf_32 : decode cX5_cartOf 32 = .ok (.iload_n 1, 1) := by decide +kernel
theorem dX5_cartOf_33 : decode cX5_cartOf 33 = .ok (.iload_n 2, 1) := by decide +kernel
theorem dX5_cartOf_34 : decode cX5_cartOf 34 = .ok (.invokevirtual 182, 3) := by decide +kernel
theorem dX5_cartOf_37 : decode cX5_cartOf 37 = .ok (.iload_n 3, 1) := by decide +kernel
theorem dX5_cartOf_38 : decode cX5_cartOf 38 = .ok (.invokevirtual 200, 3) := by decide +kernel
theorem dX5_cartOf_41 : decode cX5_cartOf 41 = .ok (.ireturn, 1) := by decide +kernel
theorem dX5_bits_0 : decode cX5_bits 0 = .ok (.iload_n 2, 1) := by decide +kernel
theorem dX5_bits_1 : decode cX5_bits 1 = .ok (.ifCond .ge 7, 3) := by decide +kernel
theorem dX5_bits_4 : decode cX5_bits 4 = .ok (.lload_n 3, 1) := by decide +kernel
theorem dX5_bits_5 : decode cX5_bits 5 = .ok (.iconst 1, 1) := by decide +kernel
theorem dX5_bits_6 : decode cX5_bits 6 = .ok (.lshl, 1) := by decide +kernel
theorem dX5_bits_7 : decode cX5_bits 7 = .ok (.lreturn, 1) := by decide +kernel
theorem dX5_bits_8 : decode cX5_bits 8 = .ok (.aload_n 0, 1) := by decide +kernel
theorem dX5_bits_9 : decode cX5_bits 9 = .ok (.iload_n 1, 1) := by decide +kernel
theorem dX5_bits_10 : decode cX5_bits 10 = .ok (.aload_n 0, 1) := by decide +kernel
theorem dX5_bits_11 : decode cX5_bits 11 = .ok (.iload_n 1, 1) := by decide +kernel
theorem dX5_bits_12 : decode cX5_bits 12 = .ok (.iload_n 2, 1) := by decide +kernel
theorem dX5_bits_13 : decode cX5_bits 13 = .ok (.iconst 3, 1) := by decide +kernel
theorem dX5_bits_14 : decode cX5_bits 14 = .ok (.invokevirtual 62, 3) := by decide +kernel
theorem dX5_bits_17 : decode cX5_bits 17 = .ok (.aload_n 0, 1) := by decide +kernel
theorem dX5_bits_18 : decode cX5_bits 18 = .ok (.iload_n 1, 1) := by decide +kernel
theorem dX5_bits_19 : decode cX5_bits 19 = .ok (.aload_n 0, 1) := by decide +kernel
theorem dX5_bits_20 : decode cX5_bits 20 = .ok (.iload_n 1, 1) := by decide +kernel
theorem dX5_bits_21 : decode cX5_bits 21 = .ok (.iload_n 2, 1) := by decide +kernel
theorem dX5_bits_22 : decode cX5_bits 22 = .ok (.iconst 2, 1) := by decide +kernel
theorem dX5_bits_23 : decode cX5_bits 23 = .ok (.invokevirtual 62, 3) := by decide +kernel
theorem dX5_bits_26 : decode cX5_bits 26 = .ok (.lload_n 3, 1) := by decide +kernel
theorem dX5_bits_27 : decode cX5_bits 27 = .ok (.iconst 1, 1) := by decide +kernel
theorem dX5_bits_28 : decode cX5_bits 28 = .ok (.lshl, 1) := by decide +kernel
theorem dX5_bits_29 : decode cX5_bits 29 = .ok (.lconst 1, 1) := by decide +kernel
theorem dX5_bits_30 : decode cX5_bits 30 = .ok (.lor, 1) := by decide +kernel
theorem dX5_bits_31 : decode cX5_bits 31 = .ok (.invokevirtual 203, 3) := by decide +kernel
theorem dX5_bits_34 : decode cX5_bits 34 = .ok (.invokevirtual 203, 3) := by decide +kernel
theorem dX5_bits_37 : decode cX5_bits 37 = .ok (.lreturn, 1) := by decide +kernel
theorem dX5_shape_0 : decode cX5_shape 0 = .ok (.iload_n 1, 1) := by decide +kernel
theorem dX5_shape_1 : decode cX5_shape 1 = .ok (.invokestatic 110, 3) := by decide +kernel
theorem dX5_shape_4 : decode cX5_shape 4 = .ok (.ifCond .eq 17, 3) := by decide +kernel
theorem dX5_shape_7 : decode cX5_shape 7 = .ok (.aload_n 0, 1) := by decide +kernel
theorem dX5_shape_8 : decode cX5_shape 8 = .ok (.iload_n 1, 1) := by decide +kernel
theorem dX5_shape_9 : decode cX5_shape 9 = .ok (.aload_n 0, 1) := by decide +kernel
theorem dX5_shape_10 : decode cX5_shape 10 = .ok (.iload_n 1, 1) := by decide +kernel
theorem dX5_shape_11 : decode cX5_shape 11 = .ok (.invokevirtual 73, 3) := by decide +kernel
theorem dX5_shape_14 : decode cX5_shape 14 = .ok (.lconst 0, 1) := by decide +kernel
theorem dX5_shape_15 : decode cX5_shape 15 = .ok (.invokevirtual 203, 3) := by decide +kernel
theorem dX5_shape_18 : decode cX5_shape 18 = .ok (.goto 6, 3) := by decide +kernel
theorem dX5_shape_21 : decode cX5_shape 21 = .ok (.ldc2_w 207, 3) := by decide +kernel
theorem dX5_shape_24 : decode cX5_shape 24 = .ok (.lreturn, 1) := by decide +kernel
theorem dX5_weights_0 : decode cX5_weights 0 = .ok (.lconst 0, 1) := by decide +kernel
theorem dX5_weights_1 : decode cX5_weights 1 = .ok (.lstore_n 3, 1) := by decide +kernel
theorem dX5_weights_2 : decode cX5_weights 2 = .ok (.iconst 0, 1) := by decide +kernel
theorem dX5_weights_3 : decode cX5_weights 3 = .ok (.istore 5, 2) := by decide +kernel
theorem dX5_weights_5 : decode cX5_weights 5 = .ok (.iload 5, 2) := by decide +kernel
theorem dX5_weights_7 : decode cX5_weights 7 = .ok (.bipush 64, 2) := by decide +kernel
theorem dX5_weights_9 : decode cX5_weights 9 = .ok (.if_icmp .ge 50, 3) := by decide +kernel
theorem dX5_weights_12 : decode cX5_weights 12 = .ok (.iload_n 1, 1) := by decide +kernel
theorem dX5_weights_13 : decode cX5_weights 13 = .ok (.invokestatic 110, 3) := by decide +kernel
theorem dX5_weights_16 : decode cX5_weights 16 = .ok (.ifCond .eq 43, 3) := by decide +kernel
theorem dX5_weights_19 : decode cX5_weights 19 = .ok (.iload_n 2, 1) := by decide +kernel
theorem dX5_weights_20 : decode cX5_weights 20 = .ok (.iconst 0, 1) := by decide +kernel
theorem dX5_weights_21 : decode cX5_weights 21 = .ok (.sipush 936, 3) := by decide +kernel
theorem dX5_weights_24 : decode cX5_weights 24 = .ok (.invokestatic 58, 3) := by decide +kernel
theorem dX5_weights_27 : decode cX5_weights 27 = .ok (.ifCond .eq 32, 3) := by decide +kernel
theorem dX5_weights_30 : decode cX5_weights 30 = .ok (.lload_n 3, 1) := by decide +kernel
theorem dX5_weights_31 : decode cX5_weights 31 = .ok (.aload_n 0, 1) := by decide +kernel
theorem dX5_weights_32 : decode cX5_weights 32 = .ok (.iload_n 1, 1) := by decide +kernel
theorem dX5_weights_33 : decode cX5_weights 33 = .ok (.iload_n 2, 1) := by decide +kernel
theorem dX5_weights_34 : decode cX5_weights 34 = .ok (.iload 5, 2) := by decide +kernel
theorem dX5_weights_36 : decode cX5_weights 36 = .ok (.iadd, 1) := by decide +kernel
theorem dX5_weights_37 : decode cX5_weights 37 = .ok (.invokevirtual 117, 3) := by decide +kernel
theorem dX5_weights_40 : decode cX5_weights 40 = .ok (.ifCond .lt 10, 3) := by decide +kernel
theorem dX5_weights_43 : decode cX5_weights 43 = .ok (.lconst 1, 1) := by decide +kernel
theorem dX5_weights_44 : decode cX5_weights 44 = .ok (.iload 5, 2) := by decide +kernel
theorem dX5_weights_46 : decode cX5_weights 46 = .ok (.lshl, 1) := by decide +kernel
theorem dX5_weights_47 : decode cX5_weights 47 = .ok (.goto 4, 3) := by decide +kernel
theorem dX5_weights_50 : decode cX5_weights 50 = .ok (.lconst 0, 1) := by decide +kernel
theorem dX5_weights_51 : decode cX5_weights 51 = .ok (.lor, 1) := by decide +kernel
theorem dX5_weights_52 : decode cX5_weights 52 = .ok (.lstore_n 3, 1) := by decide +kernel
theorem dX5_weights_53 : decode cX5_weights 53 = .ok (.iinc 5 1, 3) := by decide +kernel
theorem dX5_weights_56 : decode cX5_weights 56 = .ok (.goto (-51), 3) := by decide +kernel
theorem dX5_weights_59 : decode cX5_weights 59 = .ok (.lload_n 3, 1) := by decide +kernel
theorem dX5_weights_60 : decode cX5_weights 60 = .ok (.lreturn, 1) := by decide +kernel
theorem dX5_leaningShare_0 : decode cX5_leaningShare 0 = .ok (.iload_n 1, 1) := by decide +kernel
theorem dX5_leaningShare_1 : decode cX5_leaningShare 1 = .ok (.invokestatic 110, 3) := by decide +kernel
theorem dX5_leaningShare_4 : decode cX5_leaningShare 4 = .ok (.ifCond .ne 6, 3) := by decide +kernel
theorem dX5_leaningShare_7 : decode cX5_leaningShare 7 = .ok (.bipush (-11), 2) := by decide +kernel
theorem dX5_leaningShare_9 : decode cX5_leaningShare 9 = .ok (.ireturn, 1) := by decide +kernel
theorem dX5_leaningShare_10 : decode cX5_leaningShare 10 = .ok (.aload_n 0, 1) := by decide +kernel
theorem dX5_leaningShare_11 : decode cX5_leaningShare 11 = .ok (.iload_n 1, 1) := by decide +kernel
theorem dX5_leaningShare_12 : decode cX5_leaningShare 12 = .ok (.invokevirtual 124, 3) := by decide +kernel
theorem dX5_leaningShare_15 : decode cX5_leaningShare 15 = .ok (.ifCond .ne 8, 3) := by decide +kernel
theorem dX5_leaningShare_18 : decode cX5_leaningShare 18 = .ok (.bipush (-15), 2) := by decide +kernel
theorem dX5_leaningShare_20 : decode cX5_leaningShare 20 = .ok (.goto 19, 3) := by decide +kernel
theorem dX5_leaningShare_23 : decode cX5_leaningShare 23 = .ok (.aload_n 0, 1) := by decide +kernel
theorem dX5_leaningShare_24 : decode cX5_leaningShare 24 = .ok (.iload_n 1, 1) := by decide +kernel
theorem dX5_leaningShare_25 : decode cX5_leaningShare 25 = .ok (.invokevirtual 173, 3) := by decide +kernel
theorem dX5_leaningShare_28 : decode cX5_leaningShare 28 = .ok (.i2f, 1) := by decide +kernel
theorem dX5_leaningShare_29 : decode cX5_leaningShare 29 = .ok (.aload_n 0, 1) := by decide +kernel
theorem dX5_leaningShare_30 : decode cX5_leaningShare 30 = .ok (.iload_n 1, 1) := by decide +kernel
theorem dX5_leaningShare_31 : decode cX5_leaningShare 31 = .ok (.invokevirtual 124, 3) := by decide +kernel
theorem dX5_leaningShare_34 : decode cX5_leaningShare 34 = .ok (.i2f, 1) := by decide +kernel
theorem dX5_leaningShare_35 : decode cX5_leaningShare 35 = .ok (.fdiv, 1) := by decide +kernel
theorem dX5_leaningShare_36 : decode cX5_leaningShare 36 = .ok (.invokestatic 209, 3) := by decide +kernel
theorem dX5_leaningShare_39 : decode cX5_leaningShare 39 = .ok (.ireturn, 1) := by decide +kernel
theorem dX5_meanDepth_0 : decode cX5_meanDepth 0 = .ok (.iload_n 1, 1) := by decide +kernel
theorem dX5_meanDepth_1 : decode cX5_meanDepth 1 = .ok (.invokestatic 110, 3) := by decide +kernel
theorem dX5_meanDepth_4 : decode cX5_meanDepth 4 = .ok (.ifCond .ne 7, 3) := by decide +kernel
theorem dX5_meanDepth_7 : decode cX5_meanDepth 7 = .ok (.ldc2_w 207, 3) := by decide +kernel
theorem dX5_meanDepth_10 : decode cX5_meanDepth 10 = .ok (.lreturn, 1) := by decide +kernel
theorem dX5_meanDepth_11 : decode cX5_meanDepth 11 = .ok (.aload_n 0, 1) := by decide +kernel
theorem dX5_meanDepth_12 : decode cX5_meanDepth 12 = .ok (.iload_n 1, 1) := by decide +kernel
theorem dX5_meanDepth_13 : decode cX5_meanDepth 13 = .ok (.invokevirtual 124, 3) := by decide +kernel
theorem dX5_meanDepth_16 : decode cX5_meanDepth 16 = .ok (.ifCond .ne 9, 3) := by decide +kernel
theorem dX5_meanDepth_19 : decode cX5_meanDepth 19 = .ok (.ldc2_w 215, 3) := by decide +kernel
theorem dX5_meanDepth_22 : decode cX5_meanDepth 22 = .ok (.goto 19, 3) := by decide +kernel
theorem dX5_meanDepth_25 : decode cX5_meanDepth 25 = .ok (.aload_n 0, 1) := by decide +kernel
theorem dX5_meanDepth_26 : decode cX5_meanDepth 26 = .ok (.iload_n 1, 1) := by decide +kernel
theorem dX5_meanDepth_27 : decode cX5_meanDepth 27 = .ok (.invokevirtual 176, 3) := by decide +kernel
theorem dX5_meanDepth_30 : decode cX5_meanDepth 30 = .ok (.i2d, 1) := by decide +kernel
theorem dX5_meanDepth_31 : decode cX5_meanDepth 31 = .ok (.aload_n 0, 1) := by decide +kernel
theorem dX5_meanDepth_32 : decode cX5_meanDepth 32 = .ok (.iload_n 1, 1) := by decide +kernel
theorem dX5_meanDepth_33 : decode cX5_meanDepth 33 = .ok (.invokevirtual 124, 3) := by decide +kernel
theorem dX5_meanDepth_36 : decode cX5_meanDepth 36 = .ok (.i2d, 1) := by decide +kernel
theorem dX5_meanDepth_37 : decode cX5_meanDepth 37 = .ok (.ddiv, 1) := by decide +kernel
theorem dX5_meanDepth_38 : decode cX5_meanDepth 38 = .ok (.invokestatic 217, 3) := by decide +kernel
theorem dX5_meanDepth_41 : decode cX5_meanDepth 41 = .ok (.lreturn, 1) := by decide +kernel
theorem dX5_append_0 : decode cX5_append 0 = .ok (.iload_n 1, 1) := by decide +kernel
theorem dX5_append_1 : decode cX5_append 1 = .ok (.bipush 32, 2) := by decide +kernel
theorem dX5_append_3 : decode cX5_append 3 = .ok (.bipush 126, 2) := by decide +kernel
theorem dX5_append_5 : decode cX5_append 5 = .ok (.invokestatic 58, 3) := by decide +kernel
theorem dX5_append_8 : decode cX5_append 8 = .ok (.ifCond .ne 6, 3) := by decide +kernel
theorem dX5_append_11 : decode cX5_append 11 = .ok (.bipush (-12), 2) := by decide +kernel
theorem dX5_append_13 : decode cX5_append 13 = .ok (.ireturn, 1) := by decide +kernel
theorem dX5_append_14 : decode cX5_append 14 = .ok (.aload_n 0, 1) := by decide +kernel
theorem dX5_append_15 : decode cX5_append 15 = .ok (.getfield 223, 3) := by decide +kernel
theorem dX5_append_18 : decode cX5_append 18 = .ok (.bipush 60, 2) := by decide +kernel
theorem dX5_append_20 : decode cX5_append 20 = .ok (.if_icmp .ne 6, 3) := by decide +kernel
theorem dX5_append_23 : decode cX5_append 23 = .ok (.bipush (-13), 2) := by decide +kernel
theorem dX5_append_25 : decode cX5_append 25 = .ok (.ireturn, 1) := by decide +kernel
theorem dX5_append_26 : decode cX5_append 26 = .ok (.aload_n 0, 1) := by decide +kernel
theorem dX5_append_27 : decode cX5_append 27 = .ok (.getfield 30, 3) := by decide +kernel
theorem dX5_append_30 : decode cX5_append 30 = .ok (.aload_n 0, 1) := by decide +kernel
theorem dX5_append_31 : decode cX5_append 31 = .ok (.getfield 223, 3) := by decide +kernel
theorem dX5_append_34 : decode cX5_append 34 = .ok (.iload_n 1, 1) := by decide +kernel
theorem dX5_append_35 : decode cX5_append 35 = .ok (.iastore, 1) := by decide +kernel
theorem dX5_append_36 : decode cX5_append 36 = .ok (.aload_n 0, 1) := by decide +kernel
theorem dX5_append_37 : decode cX5_append 37 = .ok (.dup, 1) := by decide +kernel
theorem dX5_append_38 : decode cX5_append 38 = .ok (.getfield 223, 3) := by decide +kernel
theorem dX5_append_41 : decode cX5_append 41 = .ok (.iconst 1, 1) := by decide +kernel
theorem dX5_append_42 : decode cX5_append 42 = .ok (.iadd, 1) := by decide +kernel
theorem dX5_append_43 : decode cX5_append 43 = .ok (.putfield 223, 3) := by decide +kernel
theorem dX5_append_46 : decode cX5_append 46 = .ok (.aload_n 0, 1) := by decide +kernel
theorem dX5_append_47 : decode cX5_append 47 = .ok (.getfield 223, 3) := by decide +kernel
theorem dX5_append_50 : decode cX5_append 50 = .ok (.ireturn, 1) := by decide +kernel
theorem dX5_sees_0 : decode cX5_sees 0 = .ok (.aload_n 0, 1) := by decide +kernel
theorem dX5_sees_1 : decode cX5_sees 1 = .ok (.getfield 226, 3) := by decide +kernel
theorem dX5_sees_4 : decode cX5_sees 4 = .ok (.ifCond .ne 35, 3) := by decide +kernel
theorem dX5_sees_7 : decode cX5_sees 7 = .ok (.aload_n 0, 1) := by decide +kernel
theorem dX5_sees_8 : decode cX5_sees 8 = .ok (.getfield 229, 3) := by decide +kernel
theorem dX5_sees_11 : decode cX5_sees 11 = .ok (.aload_n 0, 1) := by decide +kernel
theorem dX5_sees_12 : decode cX5_sees 12 = .ok (.getfield 223, 3) := by decide +kernel
theorem dX5_sees_15 : decode cX5_sees 15 = .ok (.if_icmp .ge 24, 3) := by decide +kernel
theorem dX5_sees_18 : decode cX5_sees 18 = .ok (.aload_n 0, 1) := by decide +kernel
theorem dX5_sees_19 : decode cX5_sees 19 = .ok (.getfield 30, 3) := by decide +kernel
theorem dX5_sees_22 : decode cX5_sees 22 = .ok (.aload_n 0, 1) := by decide +kernel
theorem dX5_sees_23 : decode cX5_sees 23 = .ok (.getfield 229, 3) := by decide +kernel
theorem dX5_sees_26 : decode cX5_sees 26 = .ok (.iaload, 1) := by decide +kernel
theorem dX5_sees_27 : decode cX5_sees 27 = .ok (.iload_n 1, 1) := by decide +kernel
theorem dX5_sees_28 : decode cX5_sees 28 = .ok (.iload_n 2, 1) := by decide +kernel
theorem dX5_sees_29 : decode cX5_sees 29 = .ok (.invokestatic 58, 3) := by decide +kernel
theorem dX5_sees_32 : decode cX5_sees 32 = .ok (.ifCond .eq 7, 3) := by decide +kernel
theorem dX5_sees_35 : decode cX5_sees 35 = .ok (.iconst 1, 1) := by decide +kernel
theorem dX5_sees_36 : decode cX5_sees 36 = .ok (.goto 4, 3) := by decide +kernel
theorem dX5_sees_39 : decode cX5_sees 39 = .ok (.iconst 0, 1) := by decide +kernel
theorem dX5_sees_40 : decode cX5_sees 40 = .ok (.ireturn, 1) := by decide +kernel
theorem dX5_must_0 : decode cX5_must 0 = .ok (.aload_n 0, 1) := by decide +kernel
theorem dX5_must_1 : decode cX5_must 1 = .ok (.dup, 1) := by decide +kernel
theorem dX5_must_2 : decode cX5_must 2 = .ok (.getfield 226, 3) := by decide +kernel
theorem dX5_must_5 : decode cX5_must 5 = .ok (.aload_n 0, 1) := by decide +kernel
theorem dX5_must_6 : decode cX5_must 6 = .ok (.iload_n 1, 1) := by decide +kernel
theorem dX5_must_7 : decode cX5_must 7 = .ok (.iload_n 1, 1) := by decide +kernel
theorem dX5_must_8 : decode cX5_must 8 = .ok (.invokevirtual 232, 3) := by decide +kernel
theorem dX5_must_11 : decode cX5_must 11 = .ok (.ifCond .ne 7, 3) := by decide +kernel
theorem dX5_must_14 : decode cX5_must 14 = .ok (.iconst 1, 1) := by decide +kernel
theorem dX5_must_15 : decode cX5_must 15 = .ok (.goto 4, 3) := by decide +kernel
theorem dX5_must_18 : decode cX5_must 18 = .ok (.iconst 0, 1) := by decide +kernel
theorem dX5_must_19 : decode cX5_must 19 = .ok (.ior, 1) := by decide +kernel
theorem dX5_must_20 : decode cX5_must 20 = .ok (.putfield 226, 3) := by decide +kernel
theorem dX5_must_23 : decode cX5_must 23 = .ok (.aload_n 0, 1) := by decide +kernel
theorem dX5_must_24 : decode cX5_must 24 = .ok (.dup, 1) := by decide +kernel
theorem dX5_must_25 : decode cX5_must 25 = .ok (.getfield 229, 3) := by decide +kernel
theorem dX5_must_28 : decode cX5_must 28 = .ok (.aload_n 0, 1) := by decide +kernel
theorem dX5_must_29 : decode cX5_must 29 = .ok (.getfield 226, 3) := by decide +kernel
theorem dX5_must_32 : decode cX5_must 32 = .ok (.ifCond .eq 7, 3) := by decide +kernel
theorem dX5_must_35 : decode cX5_must 35 = .ok (.iconst 0, 1) := by decide +kernel
theorem dX5_must_36 : decode cX5_must 36 = .ok (.goto 4, 3) := by decide +kernel
theorem dX5_must_39 : decode cX5_must 39 = .ok (.iconst 1, 1) := by decide +kernel
theorem dX5_must_40 : decode cX5_must 40 = .ok (.iadd, 1) := by decide +kernel
theorem dX5_must_41 : decode cX5_must 41 = .ok (.putfield 229, 3) := by decide +kernel
theorem dX5_must_44 : decode cX5_must 44 = .ok (.return_, 1) := by decide +kernel
theorem dX5_readNumber_0 : decode cX5_readNumber 0 = .ok (.aload_n 0, 1) := by decide +kernel
theorem dX5_readNumber_1 : decode cX5_readNumber 1 = .ok (.dup, 1) := by decide +kernel
theorem dX5_readNumber_2 : decode cX5_readNumber 2 = .ok (.getfield 226, 3) := by decide +kernel
theorem dX5_readNumber_5 : decode cX5_readNumber 5 = .ok (.aload_n 0, 1) := by decide +kernel
theorem dX5_readNumber_6 : decode cX5_readNumber 6 = .ok (.bipush 48, 2) := by decide +kernel
theorem dX5_readNumber_8 : decode cX5_readNumber 8 = .ok (.bipush 57, 2) := by decide +kernel
theorem dX5_readNumber_10 : decode cX5_readNumber 10 = .ok (.invokevirtual 232, 3) := by decide +kernel
theorem dX5_readNumber_13 : decode cX5_readNumber 13 = .ok (.ifCond .ne 7, 3) := by decide +kernel
theorem dX5_readNumber_16 : decode cX5_readNumber 16 = .ok (.iconst 1, 1) := by decide +kernel
theorem dX5_readNumber_17 : decode cX5_readNumber 17 = .ok (.goto 4, 3) := by decide +kernel
theorem dX5_readNumber_20 : decode cX5_readNumber 20 = .ok (.iconst 0, 1) := by decide +kernel
theorem dX5_readNumber_21 : decode cX5_readNumber 21 = .ok (.ior, 1) := by decide +kernel
theorem dX5_readNumber_22 : decode cX5_readNumber 22 = .ok (.putfield 226, 3) := by decide +kernel
theorem dX5_readNumber_25 : decode cX5_readNumber 25 = .ok (.iconst 0, 1) := by decide +kernel
theorem dX5_readNumber_26 : decode cX5_readNumber 26 = .ok (.istore_n 2, 1) := by decide +kernel
theorem dX5_readNumber_27 : decode cX5_readNumber 27 = .ok (.iconst 0, 1) := by decide +kernel
theorem dX5_readNumber_28 : decode cX5_readNumber 28 = .ok (.istore_n 3, 1) := by decide +kernel
theorem dX5_readNumber_29 : decode cX5_readNumber 29 = .ok (.iload_n 3, 1) := by decide +kernel
theorem dX5_readNumber_30 : decode cX5_readNumber 30 = .ok (.iload_n 1, 1) := by decide +kernel
theorem dX5_readNumber_31 : decode cX5_readNumber 31 = .ok (.if_icmp .ge 48, 3) := by decide +kernel
theorem dX5_readNumber_34 : decode cX5_readNumber 34 = .ok (.aload_n 0, 1) := by decide +kernel
theorem dX5_readNumber_35 : decode cX5_readNumber 35 = .ok (.bipush 48, 2) := by decide +kernel
theorem dX5_readNumber_37 : decode cX5_readNumber 37 = .ok (.bipush 57, 2) := by decide +kernel
theorem dX5_readNumber_39 : decode cX5_readNumber 39 = .ok (.invokevirtual 232, 3) := by decide +kernel
theorem dX5_readNumber_42 : decode cX5_readNumber 42 = .ok (.ifCond .eq 37, 3) := by decide +kernel
theorem dX5_readNumber_45 : decode cX5_readNumber 45 = .ok (.bipush 10, 2) := by decide +kernel
theorem dX5_readNumber_47 : decode cX5_readNumber 47 = .ok (.iload_n 2, 1) := by decide +kernel
theorem dX5_readNumber_48 : decode cX5_readNumber 48 = .ok (.imul, 1) := by decide +kernel
theorem dX5_readNumber_49 : decode cX5_readNumber 49 = .ok (.aload_n 0, 1) := by decide +kernel
theorem dX5_readNumber_50 : decode cX5_readNumber 50 = .ok (.getfield 30, 3) := by decide +kernel
theorem dX5_readNumber_53 : decode cX5_readNumber 53 = .ok (.aload_n 0, 1) := by decide +kernel
theorem dX5_readNumber_54 : decode cX5_readNumber 54 = .ok (.getfield 229, 3) := by decide +kernel
theorem dX5_readNumber_57 : decode cX5_readNumber 57 = .ok (.iaload, 1) := by decide +kernel
theorem dX5_readNumber_58 : decode cX5_readNumber 58 = .ok (.iadd, 1) := by decide +kernel
theorem dX5_readNumber_59 : decode cX5_readNumber 59 = .ok (.bipush 48, 2) := by decide +kernel
theorem dX5_readNumber_61 : decode cX5_readNumber 61 = .ok (.isub, 1) := by decide +kernel
theorem dX5_readNumber_62 : decode cX5_readNumber 62 = .ok (.istore_n 2, 1) := by decide +kernel
theorem dX5_readNumber_63 : decode cX5_readNumber 63 = .ok (.aload_n 0, 1) := by decide +kernel
theorem dX5_readNumber_64 : decode cX5_readNumber 64 = .ok (.dup, 1) := by decide +kernel
theorem dX5_readNumber_65 : decode cX5_readNumber 65 = .ok (.getfield 229, 3) := by decide +kernel
theorem dX5_readNumber_68 : decode cX5_readNumber 68 = .ok (.iconst 1, 1) := by decide +kernel
theorem dX5_readNumber_69 : decode cX5_readNumber 69 = .ok (.iadd, 1) := by decide +kernel
theorem dX5_readNumber_70 : decode cX5_readNumber 70 = .ok (.putfield 229, 3) := by decide +kernel
theorem dX5_readNumber_73 : decode cX5_readNumber 73 = .ok (.iinc 3 1, 3) := by decide +kernel
theorem dX5_readNumber_76 : decode cX5_readNumber 76 = .ok (.goto (-47), 3) := by decide +kernel
theorem dX5_readNumber_79 : decode cX5_readNumber 79 = .ok (.iload_n 2, 1) := by decide +kernel
theorem dX5_readNumber_80 : decode cX5_readNumber 80 = .ok (.ireturn, 1) := by decide +kernel
theorem dX5_readSheaf_0 : decode cX5_readSheaf 0 = .ok (.aload_n 0, 1) := by decide +kernel
theorem dX5_readSheaf_1 : decode cX5_readSheaf 1 = .ok (.aload_n 0, 1) := by decide +kernel
theorem dX5_readSheaf_2 : decode cX5_readSheaf 2 = .ok (.iconst 1, 1) := by decide +kernel
theorem dX5_readSheaf_3 : decode cX5_readSheaf 3 = .ok (.invokevirtual 235, 3) := by decide +kernel
theorem dX5_readSheaf_6 : decode cX5_readSheaf 6 = .ok (.putfield 238, 3) := by decide +kernel
theorem dX5_readSheaf_9 : decode cX5_readSheaf 9 = .ok (.aload_n 0, 1) := by decide +kernel
theorem dX5_readSheaf_10 : decode cX5_readSheaf 10 = .ok (.bipush 58, 2) := by decide +kernel
theorem dX5_readSheaf_12 : decode cX5_readSheaf 12 = .ok (.invokevirtual 241, 3) := by decide +kernel
theorem dX5_readSheaf_15 : decode cX5_readSheaf 15 = .ok (.aload_n 0, 1) := by decide +kernel
theorem dX5_readSheaf_16 : decode cX5_readSheaf 16 = .ok (.aload_n 0, 1) := by decide +kernel
theorem dX5_readSheaf_17 : decode cX5_readSheaf 17 = .ok (.iconst 3, 1) := by decide +kernel
theorem dX5_readSheaf_18 : decode cX5_readSheaf 18 = .ok (.invokevirtual 235, 3) := by decide +kernel
theorem dX5_readSheaf_21 : decode cX5_readSheaf 21 = .ok (.putfield 244, 3) := by decide +kernel
theorem dX5_readSheaf_24 : decode cX5_readSheaf 24 = .ok (.return_, 1) := by decide +kernel
theorem dX5_readOrder_0 : decode cX5_readOrder 0 = .ok (.aload_n 0, 1) := by decide +kernel
theorem dX5_readOrder_1 : decode cX5_readOrder 1 = .ok (.aload_n 0, 1) := by decide +kernel
theorem dX5_readOrder_2 : decode cX5_readOrder 2 = .ok (.getfield 226, 3) := by decide +kernel
theorem dX5_readOrder_5 : decode cX5_readOrder 5 = .ok (.ifCond .ne 26, 3) := by decide +kernel
theorem dX5_readOrder_8 : decode cX5_readOrder 8 = .ok (.aload_n 0, 1) := by decide +kernel
theorem dX5_readOrder_9 : decode cX5_readOrder 9 = .ok (.getfield 229, 3) := by decide +kernel
theorem dX5_readOrder_12 : decode cX5_readOrder 12 = .ok (.aload_n 0, 1) := by decide +kernel
theorem dX5_readOrder_13 : decode cX5_readOrder 13 = .ok (.getfield 223, 3) := by decide +kernel
theorem dX5_readOrder_16 : decode cX5_readOrder 16 = .ok (.if_icmp .ge 15, 3) := by decide +kernel
theorem dX5_readOrder_19 : decode cX5_readOrder 19 = .ok (.aload_n 0, 1) := by decide +kernel
theorem dX5_readOrder_20 : decode cX5_readOrder 20 = .ok (.getfield 30, 3) := by decide +kernel
theorem dX5_readOrder_23 : decode cX5_readOrder 23 = .ok (.aload_n 0, 1) := by decide +kernel
theorem dX5_readOrder_24 : decode cX5_readOrder 24 = .ok (.getfield 229, 3) := by decide +kernel
theorem dX5_readOrder_27 : decode cX5_readOrder 27 = .ok (.iaload, 1) := by decide +kernel
theorem dX5_readOrder_28 : decode cX5_readOrder 28 = .ok (.goto 5, 3) := by decide +kernel
theorem dX5_readOrder_31 : decode cX5_readOrder 31 = .ok (.bipush 32, 2) := by decide +kernel
theorem dX5_readOrder_33 : decode cX5_readOrder 33 = .ok (.putfield 247, 3) := by decide +kernel
theorem dX5_readOrder_36 : decode cX5_readOrder 36 = .ok (.aload_n 0, 1) := by decide +kernel
theorem dX5_readOrder_37 : decode cX5_readOrder 37 = .ok (.dup, 1) := by decide +kernel
theorem dX5_readOrder_38 : decode cX5_readOrder 38 = .ok (.getfield 226, 3) := by decide +kernel
theorem dX5_readOrder_41 : decode cX5_readOrder 41 = .ok (.ldc 250, 2) := by decide +kernel
theorem dX5_readOrder_43 : decode cX5_readOrder 43 = .ok (.aload_n 0, 1) := by decide +kernel
theorem dX5_readOrder_44 : decode cX5_readOrder 44 = .ok (.getfield 247, 3) := by decide +kernel
theorem dX5_readOrder_47 : decode cX5_readOrder 47 = .ok (.i2c, 1) := by decide +kernel
theorem dX5_readOrder_48 : decode cX5_readOrder 48 = .ok (.invokevirtual 252, 3) := by decide +kernel
theorem dX5_readOrder_51 : decode cX5_readOrder 51 = .ok (.ifCond .ge 7, 3) := by decide +kernel
theorem dX5_readOrder_54 : decode cX5_readOrder 54 = .ok (.iconst 1, 1) := by decide +kernel
theorem dX5_readOrder_55 : decode cX5_readOrder 55 = .ok (.goto 4, 3) := by decide +kernel
theorem dX5_readOrder_58 : decode cX5_readOrder 58 = .ok (.iconst 0, 1) := by decide +kernel
theorem dX5_readOrder_59 : decode cX5_readOrder 59 = .ok (.ior, 1) := by decide +kernel
theorem dX5_readOrder_60 : decode cX5_readOrder 60 = .ok (.putfield 226, 3) := by decide +kernel
theorem dX5_readOrder_63 : decode cX5_readOrder 63 = .ok (.aload_n 0, 1) := by decide +kernel
theorem dX5_readOrder_64 : decode cX5_readOrder 64 = .ok (.dup, 1) := by decide +kernel
theorem dX5_readOrder_65 : decode cX5_readOrder 65 = .ok (.getfield 229, 3) := by decide +kernel
theorem dX5_readOrder_68 : decode cX5_readOrder 68 = .ok (.aload_n 0, 1) := by decide +kernel
theorem dX5_readOrder_69 : decode cX5_readOrder 69 = .ok (.getfield 226, 3) := by decide +kernel
theorem dX5_readOrder_72 : decode cX5_readOrder 72 = .ok (.ifCond .eq 7, 3) := by decide +kernel
theorem dX5_readOrder_75 : decode cX5_readOrder 75 = .ok (.iconst 0, 1) := by decide +kernel
theorem dX5_readOrder_76 : decode cX5_readOrder 76 = .ok (.goto 4, 3) := by decide +kernel
theorem dX5_readOrder_79 : decode cX5_readOrder 79 = .ok (.iconst 1, 1) := by decide +kernel
theorem dX5_readOrder_80 : decode cX5_readOrder 80 = .ok (.iadd, 1) := by decide +kernel
theorem dX5_readOrder_81 : decode cX5_readOrder 81 = .ok (.putfield 229, 3) := by decide +kernel
theorem dX5_readOrder_84 : decode cX5_readOrder 84 = .ok (.aload_n 0, 1) := by decide +kernel
theorem dX5_readOrder_85 : decode cX5_readOrder 85 = .ok (.getfield 247, 3) := by decide +kernel
theorem dX5_readOrder_88 : decode cX5_readOrder 88 = .ok (.lookupswitch 106 #[(43, 44), (45, 66), (61, 73), (62, 85)], 44) := by decide +kernel
theorem dX5_readOrder_132 : decode cX5_readOrder 132 = .ok (.aload_n 0, 1) := by decide +kernel
theorem dX5_readOrder_133 : decode cX5_readOrder 133 = .ok (.invokevirtual 257, 3) := by decide +kernel
theorem dX5_readOrder_136 : decode cX5_readOrder 136 = .ok (.aload_n 0, 1) := by decide +kernel
theorem dX5_readOrder_137 : decode cX5_readOrder 137 = .ok (.bipush 42, 2) := by decide +kernel
theorem dX5_readOrder_139 : decode cX5_readOrder 139 = .ok (.invokevirtual 241, 3) := by decide +kernel
theorem dX5_readOrder_142 : decode cX5_readOrder 142 = .ok (.aload_n 0, 1) := by decide +kernel
theorem dX5_readOrder_143 : decode cX5_readOrder 143 = .ok (.aload_n 0, 1) := by decide +kernel
theorem dX5_readOrder_144 : decode cX5_readOrder 144 = .ok (.iconst 2, 1) := by decide +kernel
theorem dX5_readOrder_145 : decode cX5_readOrder 145 = .ok (.invokevirtual 235, 3) := by decide +kernel
theorem dX5_readOrder_148 : decode cX5_readOrder 148 = .ok (.putfield 260, 3) := by decide +kernel
theorem dX5_readOrder_151 : decode cX5_readOrder 151 = .ok (.goto 52, 3) := by decide +kernel
theorem dX5_readOrder_154 : decode cX5_readOrder 154 = .ok (.aload_n 0, 1) := by decide +kernel
theorem dX5_readOrder_155 : decode cX5_readOrder 155 = .ok (.invokevirtual 257, 3) := by decide +kernel
theorem dX5_readOrder_158 : decode cX5_readOrder 158 = .ok (.goto 45, 3) := by decide +kernel
theorem dX5_readOrder_161 : decode cX5_readOrder 161 = .ok (.aload_n 0, 1) := by decide +kernel
theorem dX5_readOrder_162 : decode cX5_readOrder 162 = .ok (.aload_n 0, 1) := by decide +kernel
theorem dX5_readOrder_163 : decode cX5_readOrder 163 = .ok (.iconst 1, 1) := by decide +kernel
theorem dX5_readOrder_164 : decode cX5_readOrder 164 = .ok (.invokevirtual 235, 3) := by decide +kernel
theorem dX5_readOrder_167 : decode cX5_readOrder 167 = .ok (.putfield 238, 3) := by decide +kernel
theorem dX5_readOrder_170 : decode cX5_readOrder 170 = .ok (.goto 33, 3) := by decide +kernel
theorem dX5_readOrder_173 : decode cX5_readOrder 173 = .ok (.aload_n 0, 1) := by decide +kernel
theorem dX5_readOrder_174 : decode cX5_readOrder 174 = .ok (.aload_n 0, 1) := by decide +kernel
theorem dX5_readOrder_175 : decode cX5_readOrder 175 = .ok (.iconst 1, 1) := by decide +kernel
theorem dX5_readOrder_176 : decode cX5_readOrder 176 = .ok (.invokevirtual 235, 3) := by decide +kernel
theorem dX5_readOrder_179 : decode cX5_readOrder 179 = .ok (.putfield 238, 3) := by decide +kernel
theorem dX5_readOrder_182 : decode cX5_readOrder 182 = .ok (.aload_n 0, 1) := by decide +kernel
theorem dX5_readOrder_183 : decode cX5_readOrder 183 = .ok (.aload_n 0, 1) := by decide +kernel
theorem dX5_readOrder_184 : decode cX5_readOrder 184 = .ok (.iconst 1, 1) := by decide +kernel
theorem dX5_readOrder_185 : decode cX5_readOrder 185 = .ok (.invokevirtual 235, 3) := by decide +kernel
theorem dX5_readOrder_188 : decode cX5_readOrder 188 = .ok (.putfield 244, 3) := by decide +kernel
theorem dX5_readOrder_191 : decode cX5_readOrder 191 = .ok (.goto 12, 3) := by decide +kernel
theorem dX5_readOrder_194 : decode cX5_readOrder 194 = .ok (.aload_n 0, 1) := by decide +kernel
theorem dX5_readOrder_195 : decode cX5_readOrder 195 = .ok (.aload_n 0, 1) := by decide +kernel
theorem dX5_readOrder_196 : decode cX5_readOrder 196 = .ok (.iconst 2, 1) := by decide +kernel
theorem dX5_readOrder_197 : decode cX5_readOrder 197 = .ok (.invokevirtual 235, 3) := by decide +kernel
theorem dX5_readOrder_200 : decode cX5_readOrder 200 = .ok (.putfield 238, 3) := by decide +kernel
theorem dX5_readOrder_203 : decode cX5_readOrder 203 = .ok (.return_, 1) := by decide +kernel
theorem dX5_countOrders_0 : decode cX5_countOrders 0 = .ok (.aload_n 0, 1) := by decide +kernel
theorem dX5_countOrders_1 : decode cX5_countOrders 1 = .ok (.iconst 0, 1) := by decide +kernel
theorem dX5_countOrders_2 : decode cX5_countOrders 2 = .ok (.putfield 229, 3) := by decide +kernel
theorem dX5_countOrders_5 : decode cX5_countOrders 5 = .ok (.aload_n 0, 1) := by decide +kernel
theorem dX5_countOrders_6 : decode cX5_countOrders 6 = .ok (.iconst 0, 1) := by decide +kernel
theorem dX5_countOrders_7 : decode cX5_countOrders 7 = .ok (.putfield 226, 3) := by decide +kernel
theorem dX5_countOrders_10 : decode cX5_countOrders 10 = .ok (.iconst 1, 1) := by decide +kernel
theorem dX5_countOrders_11 : decode cX5_countOrders 11 = .ok (.istore_n 1, 1) := by decide +kernel
theorem dX5_countOrders_12 : decode cX5_countOrders 12 = .ok (.aload_n 0, 1) := by decide +kernel
theorem dX5_countOrders_13 : decode cX5_countOrders 13 = .ok (.invokevirtual 263, 3) := by decide +kernel
theorem dX5_countOrders_16 : decode cX5_countOrders 16 = .ok (.aload_n 0, 1) := by decide +kernel
theorem dX5_countOrders_17 : decode cX5_countOrders 17 = .ok (.getfield 226, 3) := by decide +kernel
theorem dX5_countOrders_20 : decode cX5_countOrders 20 = .ok (.ifCond .ne 30, 3) := by decide +kernel
theorem dX5_countOrders_23 : decode cX5_countOrders 23 = .ok (.aload_n 0, 1) := by decide +kernel
theorem dX5_countOrders_24 : decode cX5_countOrders 24 = .ok (.getfield 229, 3) := by decide +kernel
theorem dX5_countOrders_27 : decode cX5_countOrders 27 = .ok (.aload_n 0, 1) := by decide +kernel
theorem dX5_countOrders_28 : decode cX5_countOrders 28 = .ok (.getfield 223, 3) := by decide +kernel
theorem dX5_countOrders_31 : decode cX5_countOrders 31 = .ok (.if_icmp .ge 19, 3) := by decide +kernel
theorem dX5_countOrders_34 : decode cX5_countOrders 34 = .ok (.aload_n 0, 1) := by decide +kernel
theorem dX5_countOrders_35 : decode cX5_countOrders 35 = .ok (.bipush 59, 2) := by decide +kernel
theorem dX5_countOrders_37 : decode cX5_countOrders 37 = .ok (.invokevirtual 241, 3) := by decide +kernel
theorem dX5_countOrders_40 : decode cX5_countOrders 40 = .ok (.aload_n 0, 1) := by decide +kernel
theorem dX5_countOrders_41 : decode cX5_countOrders 41 = .ok (.invokevirtual 263, 3) := by decide +kernel
theorem dX5_countOrders_44 : decode cX5_countOrders 44 = .ok (.iinc 1 1, 3) := by decide +kernel
theorem dX5_countOrders_47 : decode cX5_countOrders 47 = .ok (.goto (-31), 3) := by decide +kernel
theorem dX5_countOrders_50 : decode cX5_countOrders 50 = .ok (.iload_n 1, 1) := by decide +kernel
theorem dX5_countOrders_51 : decode cX5_countOrders 51 = .ok (.ireturn, 1) := by decide +kernel
theorem dX5_carryOut_0 : decode cX5_carryOut 0 = .ok (.aload_n 0, 1) := by decide +kernel
theorem dX5_carryOut_1 : decode cX5_carryOut 1 = .ok (.getfield 247, 3) := by decide +kernel
theorem dX5_carryOut_4 : decode cX5_carryOut 4 = .ok (.lookupswitch 96 #[(43, 44), (45, 61), (61, 74), (62, 83)], 44) := by decide +kernel
theorem dX5_carryOut_48 : decode cX5_carryOut 48 = .ok (.aload_n 0, 1) := by decide +kernel
theorem dX5_carryOut_49 : decode cX5_carryOut 49 = .ok (.aload_n 0, 1) := by decide +kernel
theorem dX5_carryOut_50 : decode cX5_carryOut 50 = .ok (.getfield 238, 3) := by decide +kernel
theorem dX5_carryOut_53 : decode cX5_carryOut 53 = .ok (.aload_n 0, 1) := by decide +kernel
theorem dX5_carryOut_54 : decode cX5_carryOut 54 = .ok (.getfield 244, 3) := by decide +kernel
theorem dX5_carryOut_57 : decode cX5_carryOut 57 = .ok (.aload_n 0, 1) := by decide +kernel
theorem dX5_carryOut_58 : decode cX5_carryOut 58 = .ok (.getfield 260, 3) := by decide +kernel
theorem dX5_carryOut_61 : decode cX5_carryOut 61 = .ok (.invokevirtual 266, 3) := by decide +kernel
theorem dX5_carryOut_64 : decode cX5_carryOut 64 = .ok (.ireturn, 1) := by decide +kernel
theorem dX5_carryOut_65 : decode cX5_carryOut 65 = .ok (.aload_n 0, 1) := by decide +kernel
theorem dX5_carryOut_66 : decode cX5_carryOut 66 = .ok (.aload_n 0, 1) := by decide +kernel
theorem dX5_carryOut_67 : decode cX5_carryOut 67 = .ok (.getfield 238, 3) := by decide +kernel
theorem dX5_carryOut_70 : decode cX5_carryOut 70 = .ok (.aload_n 0, 1) := by decide +kernel
theorem dX5_carryOut_71 : decode cX5_carryOut 71 = .ok (.getfield 244, 3) := by decide +kernel
theorem dX5_carryOut_74 : decode cX5_carryOut 74 = .ok (.invokevirtual 268, 3) := by decide +kernel
theorem dX5_carryOut_77 : decode cX5_carryOut 77 = .ok (.ireturn, 1) := by decide +kernel
theorem dX5_carryOut_78 : decode cX5_carryOut 78 = .ok (.aload_n 0, 1) := by decide +kernel
theorem dX5_carryOut_79 : decode cX5_carryOut 79 = .ok (.aload_n 0, 1) := by decide +kernel
theorem dX5_carryOut_80 : decode cX5_carryOut 80 = .ok (.getfield 238, 3) := by decide +kernel
theorem dX5_carryOut_83 : decode cX5_carryOut 83 = .ok (.invokevirtual 271, 3) := by decide +kernel
theorem dX5_carryOut_86 : decode cX5_carryOut 86 = .ok (.ireturn, 1) := by decide +kernel
theorem dX5_carryOut_87 : decode cX5_carryOut 87 = .ok (.aload_n 0, 1) := by decide +kernel
theorem dX5_carryOut_88 : decode cX5_carryOut 88 = .ok (.aload_n 0, 1) := by decide +kernel
theorem dX5_carryOut_89 : decode cX5_carryOut 89 = .ok (.getfield 238, 3) := by decide +kernel
theorem dX5_carryOut_92 : decode cX5_carryOut 92 = .ok (.aload_n 0, 1) := by decide +kernel
theorem dX5_carryOut_93 : decode cX5_carryOut 93 = .ok (.getfield 244, 3) := by decide +kernel
theorem dX5_carryOut_96 : decode cX5_carryOut 96 = .ok (.invokevirtual 274, 3) := by decide +kernel
theorem dX5_carryOut_99 : decode cX5_carryOut 99 = .ok (.ireturn, 1) := by decide +kernel
theorem dX5_carryOut_100 : decode cX5_carryOut 100 = .ok (.aload_n 0, 1) := by decide +kernel
theorem dX5_carryOut_101 : decode cX5_carryOut 101 = .ok (.aload_n 0, 1) := by decide +kernel
theorem dX5_carryOut_102 : decode cX5_carryOut 102 = .ok (.getfield 238, 3) := by decide +kernel
theorem dX5_carryOut_105 : decode cX5_carryOut 105 = .ok (.invokevirtual 277, 3) := by decide +kernel
theorem dX5_carryOut_108 : decode cX5_carryOut 108 = .ok (.ireturn, 1) := by decide +kernel
theorem dX5_run_0 : decode cX5_run 0 = .ok (.aload_n 0, 1) := by decide +kernel
theorem dX5_run_1 : decode cX5_run 1 = .ok (.invokevirtual 280, 3) := by decide +kernel
theorem dX5_run_4 : decode cX5_run 4 = .ok (.istore_n 1, 1) := by decide +kernel
theorem dX5_run_5 : decode cX5_run 5 = .ok (.aload_n 0, 1) := by decide +kernel
theorem dX5_run_6 : decode cX5_run 6 = .ok (.getfield 226, 3) := by decide +kernel
theorem dX5_run_9 : decode cX5_run 9 = .ok (.ifCond .eq 17, 3) := by decide +kernel
theorem dX5_run_12 : decode cX5_run 12 = .ok (.aload_n 0, 1) := by decide +kernel
theorem dX5_run_13 : decode cX5_run 13 = .ok (.iconst 0, 1) := by decide +kernel
theorem dX5_run_14 : decode cX5_run 14 = .ok (.putfield 223, 3) := by decide +kernel
theorem dX5_run_17 : decode cX5_run 17 = .ok (.sipush (-1000), 3) := by decide +kernel
theorem dX5_run_20 : decode cX5_run 20 = .ok (.aload_n 0, 1) := by decide +kernel
theorem dX5_run_21 : decode cX5_run 21 = .ok (.getfield 229, 3) := by decide +kernel
theorem dX5_run_24 : decode cX5_run 24 = .ok (.isub, 1) := by decide +kernel
theorem dX5_run_25 : decode cX5_run 25 = .ok (.ireturn, 1) := by decide +kernel
theorem dX5_run_26 : decode cX5_run 26 = .ok (.aload_n 0, 1) := by decide +kernel
theorem dX5_run_27 : decode cX5_run 27 = .ok (.getfield 9, 3) := by decide +kernel
theorem dX5_run_30 : decode cX5_run 30 = .ok (.aload_n 0, 1) := by decide +kernel
theorem dX5_run_31 : decode cX5_run 31 = .ok (.getfield 16, 3) := by decide +kernel
theorem dX5_run_34 : decode cX5_run 34 = .ok (.invokestatic 46, 3) := by decide +kernel
theorem dX5_run_37 : decode cX5_run 37 = .ok (.aload_n 0, 1) := by decide +kernel
theorem dX5_run_38 : decode cX5_run 38 = .ok (.iconst 1, 1) := by decide +kernel
theorem dX5_run_39 : decode cX5_run 39 = .ok (.putfield 50, 3) := by decide +kernel
theorem dX5_run_42 : decode cX5_run 42 = .ok (.iconst 0, 1) := by decide +kernel
theorem dX5_run_43 : decode cX5_run 43 = .ok (.istore_n 2, 1) := by decide +kernel
theorem dX5_run_44 : decode cX5_run 44 = .ok (.aload_n 0, 1) := by decide +kernel
theorem dX5_run_45 : decode cX5_run 45 = .ok (.iconst 0, 1) := by decide +kernel
theorem dX5_run_46 : decode cX5_run 46 = .ok (.putfield 229, 3) := by decide +kernel
theorem dX5_run_49 : decode cX5_run 49 = .ok (.iconst 0, 1) := by decide +kernel
theorem dX5_run_50 : decode cX5_run 50 = .ok (.istore_n 3, 1) := by decide +kernel
theorem dX5_run_51 : decode cX5_run 51 = .ok (.iload_n 3, 1) := by decide +kernel
theorem dX5_run_52 : decode cX5_run 52 = .ok (.iload_n 1, 1) := by decide +kernel
theorem dX5_run_53 : decode cX5_run 53 = .ok (.if_icmp .ge 49, 3) := by decide +kernel
theorem dX5_run_56 : decode cX5_run 56 = .ok (.iload_n 2, 1) := by decide +kernel
theorem dX5_run_57 : decode cX5_run 57 = .ok (.ifCond .lt 45, 3) := by decide +kernel
theorem dX5_run_60 : decode cX5_run 60 = .ok (.aload_n 0, 1) := by decide +kernel
theorem dX5_run_61 : decode cX5_run 61 = .ok (.invokevirtual 263, 3) := by decide +kernel
theorem dX5_run_64 : decode cX5_run 64 = .ok (.aload_n 0, 1) := by decide +kernel
theorem dX5_run_65 : decode cX5_run 65 = .ok (.dup, 1) := by decide +kernel
theorem dX5_run_66 : decode cX5_run 66 = .ok (.getfield 229, 3) := by decide +kernel
theorem dX5_run_69 : decode cX5_run 69 = .ok (.iconst 1, 1) := by decide +kernel
theorem dX5_run_70 : decode cX5_run 70 = .ok (.iadd, 1) := by decide +kernel
theorem dX5_run_71 : decode cX5_run 71 = .ok (.putfield 229, 3) := by decide +kernel
theorem dX5_run_74 : decode cX5_run 74 = .ok (.aload_n 0, 1) := by decide +kernel
theorem dX5_run_75 : decode cX5_run 75 = .ok (.invokevirtual 284, 3) := by decide +kernel
theorem dX5_run_78 : decode cX5_run 78 = .ok (.istore_n 2, 1) := by decide +kernel
theorem dX5_run_79 : decode cX5_run 79 = .ok (.aload_n 0, 1) := by decide +kernel
theorem dX5_run_80 : decode cX5_run 80 = .ok (.iload_n 2, 1) := by decide +kernel
theorem dX5_run_81 : decode cX5_run 81 = .ok (.ifCond .ge 7, 3) := by decide +kernel
theorem dX5_run_84 : decode cX5_run 84 = .ok (.iconst 1, 1) := by decide +kernel
theorem dX5_run_85 : decode cX5_run 85 = .ok (.goto 4, 3) := by decide +kernel
theorem dX5_run_88 : decode cX5_run 88 = .ok (.iconst 0, 1) := by decide +kernel
theorem dX5_run_89 : decode cX5_run 89 = .ok (.bipush 6, 2) := by decide +kernel
theorem dX5_run_91 : decode cX5_run 91 = .ok (.iload_n 3, 1) := by decide +kernel
theorem dX5_run_92 : decode cX5_run 92 = .ok (.invokevirtual 120, 3) := by decide +kernel
theorem dX5_run_95 : decode cX5_run 95 = .ok (.pop, 1) := by decide +kernel
theorem dX5_run_96 : decode cX5_run 96 = .ok (.iinc 3 1, 3) := by decide +kernel
theorem dX5_run_99 : decode cX5_run 99 = .ok (.goto (-48), 3) := by decide +kernel
theorem dX5_run_102 : decode cX5_run 102 = .ok (.aload_n 0, 1) := by decide +kernel
theorem dX5_run_103 : decode cX5_run 103 = .ok (.iconst 0, 1) := by decide +kernel
theorem dX5_run_104 : decode cX5_run 104 = .ok (.putfield 50, 3) := by decide +kernel
theorem dX5_run_107 : decode cX5_run 107 = .ok (.aload_n 0, 1) := by decide +kernel
theorem dX5_run_108 : decode cX5_run 108 = .ok (.iconst 0, 1) := by decide +kernel
theorem dX5_run_109 : decode cX5_run 109 = .ok (.putfield 223, 3) := by decide +kernel
theorem dX5_run_112 : decode cX5_run 112 = .ok (.iload_n 2, 1) := by decide +kernel
theorem dX5_run_113 : decode cX5_run 113 = .ok (.ifCond .ge 17, 3) := by decide +kernel
theorem dX5_run_116 : decode cX5_run 116 = .ok (.aload_n 0, 1) := by decide +kernel
theorem dX5_run_117 : decode cX5_run 117 = .ok (.getfield 16, 3) := by decide +kernel
theorem dX5_run_120 : decode cX5_run 120 = .ok (.aload_n 0, 1) := by decide +kernel
theorem dX5_run_121 : decode cX5_run 121 = .ok (.getfield 9, 3) := by decide +kernel
theorem dX5_run_124 : decode cX5_run 124 = .ok (.invokestatic 46, 3) := by decide +kernel
theorem dX5_run_127 : decode cX5_run 127 = .ok (.bipush (-14), 2) := by decide +kernel
theorem dX5_run_129 : decode cX5_run 129 = .ok (.ireturn, 1) := by decide +kernel
theorem dX5_run_130 : decode cX5_run 130 = .ok (.aload_n 0, 1) := by decide +kernel
theorem dX5_run_131 : decode cX5_run 131 = .ok (.aload_n 0, 1) := by decide +kernel
theorem dX5_run_132 : decode cX5_run 132 = .ok (.getfield 16, 3) := by decide +kernel
theorem dX5_run_135 : decode cX5_run 135 = .ok (.invokevirtual 54, 3) := by decide +kernel
theorem dX5_run_138 : decode cX5_run 138 = .ok (.iload_n 1, 1) := by decide +kernel
theorem dX5_run_139 : decode cX5_run 139 = .ok (.ireturn, 1) := by decide +kernel
theorem dX5_write_0 : decode cX5_write 0 = .ok (.aload_n 0, 1) := by decide +kernel
theorem dX5_write_1 : decode cX5_write 1 = .ok (.getfield 287, 3) := by decide +kernel
theorem dX5_write_4 : decode cX5_write 4 = .ok (.bipush 60, 2) := by decide +kernel
theorem dX5_write_6 : decode cX5_write 6 = .ok (.if_icmp .ge 23, 3) := by decide +kernel
theorem dX5_write_9 : decode cX5_write 9 = .ok (.aload_n 0, 1) := by decide +kernel
theorem dX5_write_10 : decode cX5_write 10 = .ok (.getfield 33, 3) := by decide +kernel
theorem dX5_write_13 : decode cX5_write 13 = .ok (.aload_n 0, 1) := by decide +kernel
theorem dX5_write_14 : decode cX5_write 14 = .ok (.getfield 287, 3) := by decide +kernel
theorem dX5_write_17 : decode cX5_write 17 = .ok (.iload_n 1, 1) := by decide +kernel
theorem dX5_write_18 : decode cX5_write 18 = .ok (.iastore, 1) := by decide +kernel
theorem dX5_write_19 : decode cX5_write 19 = .ok (.aload_n 0, 1) := by decide +kernel
theorem dX5_write_20 : decode cX5_write 20 = .ok (.dup, 1) := by decide +kernel
theorem dX5_write_21 : decode cX5_write 21 = .ok (.getfield 287, 3) := by decide +kernel
theorem dX5_write_24 : decode cX5_write 24 = .ok (.iconst 1, 1) := by decide +kernel
theorem dX5_write_25 : decode cX5_write 25 = .ok (.iadd, 1) := by decide +kernel
theorem dX5_write_26 : decode cX5_write 26 = .ok (.putfield 287, 3) := by decide +kernel
theorem dX5_write_29 : decode cX5_write 29 = .ok (.return_, 1) := by decide +kernel
theorem dX5_writeNumber_0 : decode cX5_writeNumber 0 = .ok (.iload_n 1, 1) := by decide +kernel
theorem dX5_writeNumber_1 : decode cX5_writeNumber 1 = .ok (.bipush 9, 2) := by decide +kernel
theorem dX5_writeNumber_3 : decode cX5_writeNumber 3 = .ok (.if_icmp .le 11, 3) := by decide +kernel
theorem dX5_writeNumber_6 : decode cX5_writeNumber 6 = .ok (.aload_n 0, 1) := by decide +kernel
theorem dX5_writeNumber_7 : decode cX5_writeNumber 7 = .ok (.iload_n 1, 1) := by decide +kernel
theorem dX5_writeNumber_8 : decode cX5_writeNumber 8 = .ok (.bipush 10, 2) := by decide +kernel
theorem dX5_writeNumber_10 : decode cX5_writeNumber 10 = .ok (.idiv, 1) := by decide +kernel
theorem dX5_writeNumber_11 : decode cX5_writeNumber 11 = .ok (.invokevirtual 290, 3) := by decide +kernel
theorem dX5_writeNumber_14 : decode cX5_writeNumber 14 = .ok (.aload_n 0, 1) := by decide +kernel
theorem dX5_writeNumber_15 : decode cX5_writeNumber 15 = .ok (.bipush 48, 2) := by decide +kernel
theorem dX5_writeNumber_17 : decode cX5_writeNumber 17 = .ok (.iload_n 1, 1) := by decide +kernel
theorem dX5_writeNumber_18 : decode cX5_writeNumber 18 = .ok (.bipush 10, 2) := by decide +kernel
theorem dX5_writeNumber_20 : decode cX5_writeNumber 20 = .ok (.irem, 1) := by decide +kernel
theorem dX5_writeNumber_21 : decode cX5_writeNumber 21 = .ok (.iadd, 1) := by decide +kernel
theorem dX5_writeNumber_22 : decode cX5_writeNumber 22 = .ok (.invokevirtual 293, 3) := by decide +kernel
theorem dX5_writeNumber_25 : decode cX5_writeNumber 25 = .ok (.return_, 1) := by decide +kernel
theorem dX5_writeSheaf_0 : decode cX5_writeSheaf 0 = .ok (.iload_n 2, 1) := by decide +kernel
theorem dX5_writeSheaf_1 : decode cX5_writeSheaf 1 = .ok (.ifCond .ge 4, 3) := by decide +kernel
theorem dX5_writeSheaf_4 : decode cX5_writeSheaf 4 = .ok (.return_, 1) := by decide +kernel
theorem dX5_writeSheaf_5 : decode cX5_writeSheaf 5 = .ok (.aload_n 0, 1) := by decide +kernel
theorem dX5_writeSheaf_6 : decode cX5_writeSheaf 6 = .ok (.bipush 40, 2) := by decide +kernel
theorem dX5_writeSheaf_8 : decode cX5_writeSheaf 8 = .ok (.invokevirtual 293, 3) := by decide +kernel
theorem dX5_writeSheaf_11 : decode cX5_writeSheaf 11 = .ok (.aload_n 0, 1) := by decide +kernel
theorem dX5_writeSheaf_12 : decode cX5_writeSheaf 12 = .ok (.iload_n 1, 1) := by decide +kernel
theorem dX5_writeSheaf_13 : decode cX5_writeSheaf 13 = .ok (.aload_n 0, 1) := by decide +kernel
theorem dX5_writeSheaf_14 : decode cX5_writeSheaf 14 = .ok (.iload_n 1, 1) := by decide +kernel
theorem dX5_writeSheaf_15 : decode cX5_writeSheaf 15 = .ok (.iload_n 2, 1) := by decide +kernel
theorem dX5_writeSheaf_16 : decode cX5_writeSheaf 16 = .ok (.iconst 2, 1) := by decide +kernel
theorem dX5_writeSheaf_17 : decode cX5_writeSheaf 17 = .ok (.invokevirtual 62, 3) := by decide +kernel
theorem dX5_writeSheaf_20 : decode cX5_writeSheaf 20 = .ok (.invokevirtual 296, 3) := by decide +kernel
theorem dX5_writeSheaf_23 : decode cX5_writeSheaf 23 = .ok (.aload_n 0, 1) := by decide +kernel
theorem dX5_writeSheaf_24 : decode cX5_writeSheaf 24 = .ok (.aload_n 0, 1) := by decide +kernel
theorem dX5_writeSheaf_25 : decode cX5_writeSheaf 25 = .ok (.iload_n 1, 1) := by decide +kernel
theorem dX5_writeSheaf_26 : decode cX5_writeSheaf 26 = .ok (.iload_n 2, 1) := by decide +kernel
theorem dX5_writeSheaf_27 : decode cX5_writeSheaf 27 = .ok (.iconst 0, 1) := by decide +kernel
theorem dX5_writeSheaf_28 : decode cX5_writeSheaf 28 = .ok (.invokevirtual 62, 3) := by decide +kernel
theorem dX5_writeSheaf_31 : decode cX5_writeSheaf 31 = .ok (.invokevirtual 290, 3) := by decide +kernel
theorem dX5_writeSheaf_34 : decode cX5_writeSheaf 34 = .ok (.aload_n 0, 1) := by decide +kernel
theorem dX5_writeSheaf_35 : decode cX5_writeSheaf 35 = .ok (.iload_n 1, 1) := by decide +kernel
theorem dX5_writeSheaf_36 : decode cX5_writeSheaf 36 = .ok (.iload_n 2, 1) := by decide +kernel
theorem dX5_writeSheaf_37 : decode cX5_writeSheaf 37 = .ok (.invokevirtual 145, 3) := by decide +kernel
theorem dX5_writeSheaf_40 : decode cX5_writeSheaf 40 = .ok (.ifCond .eq 9, 3) := by decide +kernel
theorem dX5_writeSheaf_43 : decode cX5_writeSheaf 43 = .ok (.aload_n 0, 1) := by decide +kernel
theorem dX5_writeSheaf_44 : decode cX5_writeSheaf 44 = .ok (.bipush 33, 2) := by decide +kernel
theorem dX5_writeSheaf_46 : decode cX5_writeSheaf 46 = .ok (.invokevirtual 293, 3) := by decide +kernel
theorem dX5_writeSheaf_49 : decode cX5_writeSheaf 49 = .ok (.aload_n 0, 1) := by decide +kernel
theorem dX5_writeSheaf_50 : decode cX5_writeSheaf 50 = .ok (.iload_n 1, 1) := by decide +kernel
theorem dX5_writeSheaf_51 : decode cX5_writeSheaf 51 = .ok (.aload_n 0, 1) := by decide +kernel
theorem dX5_writeSheaf_52 : decode cX5_writeSheaf 52 = .ok (.iload_n 1, 1) := by decide +kernel
theorem dX5_writeSheaf_53 : decode cX5_writeSheaf 53 = .ok (.iload_n 2, 1) := by decide +kernel
theorem dX5_writeSheaf_54 : decode cX5_writeSheaf 54 = .ok (.iconst 3, 1) := by decide +kernel
theorem dX5_writeSheaf_55 : decode cX5_writeSheaf 55 = .ok (.invokevirtual 62, 3) := by decide +kernel
theorem dX5_writeSheaf_58 : decode cX5_writeSheaf 58 = .ok (.invokevirtual 296, 3) := by decide +kernel
theorem dX5_writeSheaf_61 : decode cX5_writeSheaf 61 = .ok (.aload_n 0, 1) := by decide +kernel
theorem dX5_writeSheaf_62 : decode cX5_writeSheaf 62 = .ok (.bipush 41, 2) := by decide +kernel
theorem dX5_writeSheaf_64 : decode cX5_writeSheaf 64 = .ok (.invokevirtual 293, 3) := by decide +kernel
theorem dX5_writeSheaf_67 : decode cX5_writeSheaf 67 = .ok (.return_, 1) := by decide +kernel
theorem dX5_tell_0 : decode cX5_tell 0 = .ok (.iload_n 1, 1) := by decide +kernel
theorem dX5_tell_1 : decode cX5_tell 1 = .ok (.invokestatic 110, 3) := by decide +kernel
theorem dX5_tell_4 : decode cX5_tell 4 = .ok (.ifCond .ne 6, 3) := by decide +kernel
theorem dX5_tell_7 : decode cX5_tell 7 = .ok (.bipush (-11), 2) := by decide +kernel
theorem dX5_tell_9 : decode cX5_tell 9 = .ok (.ireturn, 1) := by decide +kernel
theorem dX5_tell_10 : decode cX5_tell 10 = .ok (.aload_n 0, 1) := by decide +kernel
theorem dX5_tell_11 : decode cX5_tell 11 = .ok (.iconst 0, 1) := by decide +kernel
theorem dX5_tell_12 : decode cX5_tell 12 = .ok (.putfield 287, 3) := by decide +kernel
theorem dX5_tell_15 : decode cX5_tell 15 = .ok (.aload_n 0, 1) := by decide +kernel
theorem dX5_tell_16 : decode cX5_tell 16 = .ok (.iload_n 1, 1) := by decide +kernel
theorem dX5_tell_17 : decode cX5_tell 17 = .ok (.aload_n 0, 1) := by decide +kernel
theorem dX5_tell_18 : decode cX5_tell 18 = .ok (.iload_n 1, 1) := by decide +kernel
theorem dX5_tell_19 : decode cX5_tell 19 = .ok (.invokevirtual 73, 3) := by decide +kernel
theorem dX5_tell_22 : decode cX5_tell 22 = .ok (.invokevirtual 296, 3) := by decide +kernel
theorem dX5_tell_25 : decode cX5_tell 25 = .ok (.aload_n 0, 1) := by decide +kernel
theorem dX5_tell_26 : decode cX5_tell 26 = .ok (.getfield 287, 3) := by decide +kernel
theorem dX5_tell_29 : decode cX5_tell 29 = .ok (.ireturn, 1) := by decide +kernel
theorem dX5_character_0 : decode cX5_character 0 = .ok (.iload_n 1, 1) := by decide +kernel
theorem dX5_character_1 : decode cX5_character 1 = .ok (.iconst 0, 1) := by decide +kernel
theorem dX5_character_2 : decode cX5_character 2 = .ok (.aload_n 0, 1) := by decide +kernel
theorem dX5_character_3 : decode cX5_character 3 = .ok (.getfield 287, 3) := by decide +kernel
theorem dX5_character_6 : decode cX5_character 6 = .ok (.iconst 1, 1) := by decide +kernel
theorem dX5_character_7 : decode cX5_character 7 = .ok (.isub, 1) := by decide +kernel
theorem dX5_character_8 : decode cX5_character 8 = .ok (.invokestatic 58, 3) := by decide +kernel
theorem dX5_character_11 : decode cX5_character 11 = .ok (.ifCond .eq 12, 3) := by decide +kernel
theorem dX5_character_14 : decode cX5_character 14 = .ok (.aload_n 0, 1) := by decide +kernel
theorem dX5_character_15 : decode cX5_character 15 = .ok (.getfield 33, 3) := by decide +kernel
theorem dX5_character_18 : decode cX5_character 18 = .ok (.iload_n 1, 1) := by decide +kernel
theorem dX5_character_19 : decode cX5_character 19 = .ok (.iaload, 1) := by decide +kernel
theorem dX5_character_20 : decode cX5_character 20 = .ok (.goto 5, 3) := by decide +kernel
theorem dX5_character_23 : decode cX5_character 23 = .ok (.bipush (-11), 2) := by decide +kernel
theorem dX5_character_25 : decode cX5_character 25 = .ok (.ireturn, 1) := by decide +kernel
theorem dX5_reason_0 : decode cX5_reason 0 = .ok (.aload_n 0, 1) := by decide +kernel
theorem dX5_reason_1 : decode cX5_reason 1 = .ok (.getfield 36, 3) := by decide +kernel
theorem dX5_reason_4 : decode cX5_reason 4 = .ok (.ifCond .ne 8, 3) := by decide +kernel
theorem dX5_reason_7 : decode cX5_reason 7 = .ok (.bipush (-15), 2) := by decide +kernel
theorem dX5_reason_9 : decode cX5_reason 9 = .ok (.goto 18, 3) := by decide +kernel
theorem dX5_reason_12 : decode cX5_reason 12 = .ok (.iload_n 1, 1) := by decide +kernel
theorem dX5_reason_13 : decode cX5_reason 13 = .ok (.ifCond .eq 10, 3) := by decide +kernel
theorem dX5_reason_16 : decode cX5_reason 16 = .ok (.aload_n 0, 1) := by decide +kernel
theorem dX5_reason_17 : decode cX5_reason 17 = .ok (.getfield 40, 3) := by decide +kernel
theorem dX5_reason_20 : decode cX5_reason 20 = .ok (.goto 7, 3) := by decide +kernel
theorem dX5_reason_23 : decode cX5_reason 23 = .ok (.aload_n 0, 1) := by decide +kernel
theorem dX5_reason_24 : decode cX5_reason 24 = .ok (.getfield 36, 3) := by decide +kernel
theorem dX5_reason_27 : decode cX5_reason 27 = .ok (.ireturn, 1) := by decide +kernel
theorem dX5_allSheaves_0 : decode cX5_allSheaves 0 = .ok (.aload_n 0, 1) := by decide +kernel
theorem dX5_allSheaves_1 : decode cX5_allSheaves 1 = .ok (.iconst 0, 1) := by decide +kernel
theorem dX5_allSheaves_2 : decode cX5_allSheaves 2 = .ok (.invokevirtual 124, 3) := by decide +kernel
theorem dX5_allSheaves_5 : decode cX5_allSheaves 5 = .ok (.aload_n 0, 1) := by decide +kernel
theorem dX5_allSheaves_6 : decode cX5_allSheaves 6 = .ok (.iconst 1, 1) := by decide +kernel
theorem dX5_allSheaves_7 : decode cX5_allSheaves 7 = .ok (.invokevirtual 124, 3) := by decide +kernel
theorem dX5_allSheaves_10 : decode cX5_allSheaves 10 = .ok (.iadd, 1) := by decide +kernel
theorem dX5_allSheaves_11 : decode cX5_allSheaves 11 = .ok (.aload_n 0, 1) := by decide +kernel
theorem dX5_allSheaves_12 : decode cX5_allSheaves 12 = .ok (.iconst 2, 1) := by decide +kernel
theorem dX5_allSheaves_13 : decode cX5_allSheaves 13 = .ok (.invokevirtual 124, 3) := by decide +kernel
theorem dX5_allSheaves_16 : decode cX5_allSheaves 16 = .ok (.iadd, 1) := by decide +kernel
theorem dX5_allSheaves_17 : decode cX5_allSheaves 17 = .ok (.ireturn, 1) := by decide +kernel
theorem dX5_account_0 : decode cX5_account 0 = .ok (.iload_n 1, 1) := by decide +kernel
theorem dX5_account_1 : decode cX5_account 1 = .ok (.tableswitch 123 0 10 #[59, 64, 97, 97, 97, 97, 97, 97, 106, 113, 118], 59) := by decide +kernel
theorem dX5_account_60 : decode cX5_account 60 = .ok (.aload_n 0, 1) := by decide +kernel
theorem dX5_account_61 : decode cX5_account 61 = .ok (.invokevirtual 299, 3) := by decide +kernel
theorem dX5_account_64 : decode cX5_account 64 = .ok (.ireturn, 1) := by decide +kernel
theorem dX5_account_65 : decode cX5_account 65 = .ok (.aload_n 0, 1) := by decide +kernel
theorem dX5_account_66 : decode cX5_account 66 = .ok (.iconst 0, 1) := by decide +kernel
theorem dX5_account_67 : decode cX5_account 67 = .ok (.aload_n 0, 1) := by decide +kernel
theorem dX5_account_68 : decode cX5_account 68 = .ok (.iconst 0, 1) := by decide +kernel
theorem dX5_account_69 : decode cX5_account 69 = .ok (.invokevirtual 73, 3) := by decide +kernel
theorem dX5_account_72 : decode cX5_account 72 = .ok (.invokevirtual 70, 3) := by decide +kernel
theorem dX5_account_75 : decode cX5_account 75 = .ok (.aload_n 0, 1) := by decide +kernel
theorem dX5_account_76 : decode cX5_account 76 = .ok (.iconst 1, 1) := by decide +kernel
theorem dX5_account_77 : decode cX5_account 77 = .ok (.aload_n 0, 1) := by decide +kernel
theorem dX5_account_78 : decode cX5_account 78 = .ok (.iconst 1, 1) := by decide +kernel
theorem dX5_account_79 : decode cX5_account 79 = .ok (.invokevirtual 73, 3) := by decide +kernel
theorem dX5_account_82 : decode cX5_account 82 = .ok (.invokevirtual 70, 3) := by decide +kernel
theorem dX5_account_85 : decode cX5_account 85 = .ok (.iadd, 1) := by decide +kernel
theorem dX5_account_86 : decode cX5_account 86 = .ok (.aload_n 0, 1) := by decide +kernel
theorem dX5_account_87 : decode cX5_account 87 = .ok (.iconst 2, 1) := by decide +kernel
theorem dX5_account_88 : decode cX5_account 88 = .ok (.aload_n 0, 1) := by decide +kernel
theorem dX5_account_89 : decode cX5_account 89 = .ok (.iconst 2, 1) := by decide +kernel
theorem dX5_account_90 : decode cX5_account 90 = .ok (.invokevirtual 73, 3) := by decide +kernel
theorem dX5_account_93 : decode cX5_account 93 = .ok (.invokevirtual 70, 3) := by decide +kernel
theorem dX5_account_96 : decode cX5_account 96 = .ok (.iadd, 1) := by decide +kernel
theorem dX5_account_97 : decode cX5_account 97 = .ok (.ireturn, 1) := by decide +kernel
theorem dX5_account_98 : decode cX5_account 98 = .ok (.aload_n 0, 1) := by decide +kernel
theorem dX5_account_99 : decode cX5_account 99 = .ok (.getfield 9, 3) := by decide +kernel
theorem dX5_account_102 : decode cX5_account 102 = .ok (.iload_n 1, 1) := by decide +kernel
theorem dX5_account_103 : decode cX5_account 103 = .ok (.iconst 1, 1) := by decide +kernel
theorem dX5_account_104 : decode cX5_account 104 = .ok (.isub, 1) := by decide +kernel
theorem dX5_account_105 : decode cX5_account 105 = .ok (.iaload, 1) := by decide +kernel
theorem dX5_account_106 : decode cX5_account 106 = .ok (.ireturn, 1) := by decide +kernel
theorem dX5_account_107 : decode cX5_account 107 = .ok (.aload_n 0, 1) := by decide +kernel
theorem dX5_account_108 : decode cX5_account 108 = .ok (.getfield 9, 3) := by decide +kernel
theorem dX5_account_111 : decode cX5_account 111 = .ok (.iconst 0, 1) := by decide +kernel
theorem dX5_account_112 : decode cX5_account 112 = .ok (.iaload, 1) := by decide +kernel
theorem dX5_account_113 : decode cX5_account 113 = .ok (.ireturn, 1) := by decide +kernel
theorem dX5_account_114 : decode cX5_account 114 = .ok (.aload_n 0, 1) := by decide +kernel
theorem dX5_account_115 : decode cX5_account 115 = .ok (.getfield 223, 3) := by decide +kernel
theorem dX5_account_118 : decode cX5_account 118 = .ok (.ireturn, 1) := by decide +kernel
theorem dX5_account_119 : decode cX5_account 119 = .ok (.aload_n 0, 1) := by decide +kernel
theorem dX5_account_120 : decode cX5_account 120 = .ok (.getfield 43, 3) := by decide +kernel
theorem dX5_account_123 : decode cX5_account 123 = .ok (.ireturn, 1) := by decide +kernel
theorem dX5_account_124 : decode cX5_account 124 = .ok (.bipush (-12), 2) := by decide +kernel
theorem dX5_account_126 : decode cX5_account 126 = .ok (.ireturn, 1) := by decide +kernel
theorem dX5_isBalanced_0 : decode cX5_isBalanced 0 = .ok (.iconst 1, 1) := by decide +kernel
theorem dX5_isBalanced_1 : decode cX5_isBalanced 1 = .ok (.ireturn, 1) := by decide +kernel
theorem dX5_undo_0 : decode cX5_undo 0 = .ok (.aload_n 0, 1) := by decide +kernel
theorem dX5_undo_1 : decode cX5_undo 1 = .ok (.getfield 43, 3) := by decide +kernel
theorem dX5_undo_4 : decode cX5_undo 4 = .ok (.ifCond .ne 6, 3) := by decide +kernel
theorem dX5_undo_7 : decode cX5_undo 7 = .ok (.bipush (-15), 2) := by decide +kernel
theorem dX5_undo_9 : decode cX5_undo 9 = .ok (.ireturn, 1) := by decide +kernel
theorem dX5_undo_10 : decode cX5_undo 10 = .ok (.aload_n 0, 1) := by decide +kernel
theorem dX5_undo_11 : decode cX5_undo 11 = .ok (.dup, 1) := by decide +kernel
theorem dX5_undo_12 : decode cX5_undo 12 = .ok (.getfield 43, 3) := by decide +kernel
theorem dX5_undo_15 : decode cX5_undo 15 = .ok (.iconst 1, 1) := by decide +kernel
theorem dX5_undo_16 : decode cX5_undo 16 = .ok (.isub, 1) := by decide +kernel
theorem dX5_undo_17 : decode cX5_undo 17 = .ok (.putfield 43, 3) := by decide +kernel
theorem dX5_undo_20 : decode cX5_undo 20 = .ok (.aload_n 0, 1) := by decide +kernel
theorem dX5_undo_21 : decode cX5_undo 21 = .ok (.getfield 21, 3) := by decide +kernel
theorem dX5_undo_24 : decode cX5_undo 24 = .ok (.aload_n 0, 1) := by decide +kernel
theorem dX5_undo_25 : decode cX5_undo 25 = .ok (.getfield 43, 3) := by decide +kernel
theorem dX5_undo_28 : decode cX5_undo 28 = .ok (.aaload, 1) := by decide +kernel
theorem dX5_undo_29 : decode cX5_undo 29 = .ok (.aload_n 0, 1) := by decide +kernel
theorem dX5_undo_30 : decode cX5_undo 30 = .ok (.getfield 9, 3) := by decide +kernel
theorem dX5_undo_33 : decode cX5_undo 33 = .ok (.invokestatic 46, 3) := by decide +kernel
theorem dX5_undo_36 : decode cX5_undo 36 = .ok (.aload_n 0, 1) := by decide +kernel
theorem dX5_undo_37 : decode cX5_undo 37 = .ok (.getfield 43, 3) := by decide +kernel
theorem dX5_undo_40 : decode cX5_undo 40 = .ok (.ireturn, 1) := by decide +kernel
theorem dX5_save_0 : decode cX5_save 0 = .ok (.aload_n 0, 1) := by decide +kernel
theorem dX5_save_1 : decode cX5_save 1 = .ok (.iconst 1, 1) := by decide +kernel
theorem dX5_save_2 : decode cX5_save 2 = .ok (.putfield 302, 3) := by decide +kernel
theorem dX5_save_5 : decode cX5_save 5 = .ok (.aload_n 0, 1) := by decide +kernel
theorem dX5_save_6 : decode cX5_save 6 = .ok (.getfield 9, 3) := by decide +kernel
theorem dX5_save_9 : decode cX5_save 9 = .ok (.aload_n 0, 1) := by decide +kernel
theorem dX5_save_10 : decode cX5_save 10 = .ok (.getfield 13, 3) := by decide +kernel
theorem dX5_save_13 : decode cX5_save 13 = .ok (.invokestatic 46, 3) := by decide +kernel
theorem dX5_save_16 : decode cX5_save 16 = .ok (.aload_n 0, 1) := by decide +kernel
theorem dX5_save_17 : decode cX5_save 17 = .ok (.invokevirtual 299, 3) := by decide +kernel
theorem dX5_save_20 : decode cX5_save 20 = .ok (.ireturn, 1) := by decide +kernel
theorem dX5_restore_0 : decode cX5_restore 0 = .ok (.aload_n 0, 1) := by decide +kernel
theorem dX5_restore_1 : decode cX5_restore 1 = .ok (.getfield 302, 3) := by decide +kernel
theorem dX5_restore_4 : decode cX5_restore 4 = .ok (.ifCond .ne 6, 3) := by decide +kernel
theorem dX5_restore_7 : decode cX5_restore 7 = .ok (.bipush (-15), 2) := by decide +kernel
theorem dX5_restore_9 : decode cX5_restore 9 = .ok (.ireturn, 1) := by decide +kernel
theorem dX5_restore_10 : decode cX5_restore 10 = .ok (.aload_n 0, 1) := by decide +kernel
theorem dX5_restore_11 : decode cX5_restore 11 = .ok (.getfield 13, 3) := by decide +kernel
theorem dX5_restore_14 : decode cX5_restore 14 = .ok (.aload_n 0, 1) := by decide +kernel
theorem dX5_restore_15 : decode cX5_restore 15 = .ok (.getfield 9, 3) := by decide +kernel
theorem dX5_restore_18 : decode cX5_restore 18 = .ok (.invokestatic 46, 3) := by decide +kernel
theorem dX5_restore_21 : decode cX5_restore 21 = .ok (.aload_n 0, 1) := by decide +kernel
theorem dX5_restore_22 : decode cX5_restore 22 = .ok (.iconst 0, 1) := by decide +kernel
theorem dX5_restore_23 : decode cX5_restore 23 = .ok (.putfield 43, 3) := by decide +kernel
theorem dX5_restore_26 : decode cX5_restore 26 = .ok (.aload_n 0, 1) := by decide +kernel
theorem dX5_restore_27 : decode cX5_restore 27 = .ok (.invokevirtual 299, 3) := by decide +kernel
theorem dX5_restore_30 : decode cX5_restore 30 = .ok (.ireturn, 1) := by decide +kernel
theorem dJ11_isValidCodePoint_9a6ad_0 : decode cJ11_isValidCodePoint_9a6ad 0 = .ok (.iload_n 0, 1) := by decide +kernel
theorem dJ11_isValidCodePoint_9a6ad_1 : decode cJ11_isValidCodePoint_9a6ad 1 = .ok (.bipush 16, 2) := by decide +kernel
theorem dJ11_isValidCodePoint_9a6ad_3 : decode cJ11_isValidCodePoint_9a6ad 3 = .ok (.iushr, 1) := by decide +kernel
theorem dJ11_isValidCodePoint_9a6ad_4 : decode cJ11_isValidCodePoint_9a6ad 4 = .ok (.istore_n 1, 1) := by decide +kernel
theorem dJ11_isValidCodePoint_9a6ad_5 : decode cJ11_isValidCodePoint_9a6ad 5 = .ok (.iload_n 1, 1) := by decide +kernel
theorem dJ11_isValidCodePoint_9a6ad_6 : decode cJ11_isValidCodePoint_9a6ad 6 = .ok (.bipush 17, 2) := by decide +kernel
theorem dJ11_isValidCodePoint_9a6ad_8 : decode cJ11_isValidCodePoint_9a6ad 8 = .ok (.if_icmp .ge 7, 3) := by decide +kernel
theorem dJ11_isValidCodePoint_9a6ad_11 : decode cJ11_isValidCodePoint_9a6ad 11 = .ok (.iconst 1, 1) := by decide +kernel
theorem dJ11_isValidCodePoint_9a6ad_12 : decode cJ11_isValidCodePoint_9a6ad 12 = .ok (.goto 4, 3) := by decide +kernel
theorem dJ11_isValidCodePoint_9a6ad_15 : decode cJ11_isValidCodePoint_9a6ad 15 = .ok (.iconst 0, 1) := by decide +kernel
theorem dJ11_isValidCodePoint_9a6ad_16 : decode cJ11_isValidCodePoint_9a6ad 16 = .ok (.ireturn, 1) := by decide +kernel
theorem dJ11_highSurrogate_5068e_0 : decode cJ11_highSurrogate_5068e 0 = .ok (.iload_n 0, 1) := by decide +kernel
theorem dJ11_highSurrogate_5068e_1 : decode cJ11_highSurrogate_5068e 1 = .ok (.bipush 10, 2) := by decide +kernel
theorem dJ11_highSurrogate_5068e_3 : decode cJ11_highSurrogate_5068e 3 = .ok (.iushr, 1) := by decide +kernel
theorem dJ11_highSurrogate_5068e_4 : decode cJ11_highSurrogate_5068e 4 = .ok (.ldc 110, 2) := by decide +kernel
theorem dJ11_highSurrogate_5068e_6 : decode cJ11_highSurrogate_5068e 6 = .ok (.iadd, 1) := by decide +kernel
theorem dJ11_highSurrogate_5068e_7 : decode cJ11_highSurrogate_5068e 7 = .ok (.i2c, 1) := by decide +kernel
theorem dJ11_highSurrogate_5068e_8 : decode cJ11_highSurrogate_5068e 8 = .ok (.ireturn, 1) := by decide +kernel
theorem dJ11_lowSurrogate_5068e_0 : decode cJ11_lowSurrogate_5068e 0 = .ok (.iload_n 0, 1) := by decide +kernel
theorem dJ11_lowSurrogate_5068e_1 : decode cJ11_lowSurrogate_5068e 1 = .ok (.sipush 1023, 3) := by decide +kernel
theorem dJ11_lowSurrogate_5068e_4 : decode cJ11_lowSurrogate_5068e 4 = .ok (.iand, 1) := by decide +kernel
theorem dJ11_lowSurrogate_5068e_5 : decode cJ11_lowSurrogate_5068e 5 = .ok (.ldc 76, 2) := by decide +kernel
theorem dJ11_lowSurrogate_5068e_7 : decode cJ11_lowSurrogate_5068e 7 = .ok (.iadd, 1) := by decide +kernel
theorem dJ11_lowSurrogate_5068e_8 : decode cJ11_lowSurrogate_5068e 8 = .ok (.i2c, 1) := by decide +kernel
theorem dJ11_lowSurrogate_5068e_9 : decode cJ11_lowSurrogate_5068e 9 = .ok (.ireturn, 1) := by decide +kernel
theorem dJxe99ae_isNaN_b9ae7_0 : decode cJxe99ae_isNaN_b9ae7 0 = .ok (.dload_n 0, 1) := by decide +kernel
theorem dJxe99ae_isNaN_b9ae7_1 : decode cJxe99ae_isNaN_b9ae7 1 = .ok (.dload_n 0, 1) := by decide +kernel
theorem dJxe99ae_isNaN_b9ae7_2 : decode cJxe99ae_isNaN_b9ae7 2 = .ok (.dcmp .l, 1) := by decide +kernel
theorem dJxe99ae_isNaN_b9ae7_3 : decode cJxe99ae_isNaN_b9ae7 3 = .ok (.ifCond .eq 7, 3) := by decide +kernel
theorem dJxe99ae_isNaN_b9ae7_6 : decode cJxe99ae_isNaN_b9ae7 6 = .ok (.iconst 1, 1) := by decide +kernel
theorem dJxe99ae_isNaN_b9ae7_7 : decode cJxe99ae_isNaN_b9ae7 7 = .ok (.goto 4, 3) := by decide +kernel
theorem dJxe99ae_isNaN_b9ae7_10 : decode cJxe99ae_isNaN_b9ae7 10 = .ok (.iconst 0, 1) := by decide +kernel
theorem dJxe99ae_isNaN_b9ae7_11 : decode cJxe99ae_isNaN_b9ae7 11 = .ok (.ireturn, 1) := by decide +kernel
theorem dJxe99ae_doubleToLongBits_ccdee_0 : decode cJxe99ae_doubleToLongBits_ccdee 0 = .ok (.dload_n 0, 1) := by decide +kernel
theorem dJxe99ae_doubleToLongBits_ccdee_1 : decode cJxe99ae_doubleToLongBits_ccdee 1 = .ok (.invokestatic 122, 3) := by decide +kernel
theorem dJxe99ae_doubleToLongBits_ccdee_4 : decode cJxe99ae_doubleToLongBits_ccdee 4 = .ok (.ifCond .ne 8, 3) := by decide +kernel
theorem dJxe99ae_doubleToLongBits_ccdee_7 : decode cJxe99ae_doubleToLongBits_ccdee 7 = .ok (.dload_n 0, 1) := by decide +kernel
theorem dJxe99ae_doubleToLongBits_ccdee_8 : decode cJxe99ae_doubleToLongBits_ccdee 8 = .ok (.invokestatic 134, 3) := by decide +kernel
theorem dJxe99ae_doubleToLongBits_ccdee_11 : decode cJxe99ae_doubleToLongBits_ccdee 11 = .ok (.lreturn, 1) := by decide +kernel
theorem dJxe99ae_doubleToLongBits_ccdee_12 : decode cJxe99ae_doubleToLongBits_ccdee 12 = .ok (.ldc2_w 137, 3) := by decide +kernel
theorem dJxe99ae_doubleToLongBits_ccdee_15 : decode cJxe99ae_doubleToLongBits_ccdee 15 = .ok (.lreturn, 1) := by decide +kernel
theorem dJxf58ca_isNaN_12338_0 : decode cJxf58ca_isNaN_12338 0 = .ok (.fload_n 0, 1) := by decide +kernel
theorem dJxf58ca_isNaN_12338_1 : decode cJxf58ca_isNaN_12338 1 = .ok (.fload_n 0, 1) := by decide +kernel
theorem dJxf58ca_isNaN_12338_2 : decode cJxf58ca_isNaN_12338 2 = .ok (.fcmp .l, 1) := by decide +kernel
theorem dJxf58ca_isNaN_12338_3 : decode cJxf58ca_isNaN_12338 3 = .ok (.ifCond .eq 7, 3) := by decide +kernel
theorem dJxf58ca_isNaN_12338_6 : decode cJxf58ca_isNaN_12338 6 = .ok (.iconst 1, 1) := by decide +kernel
theorem dJxf58ca_isNaN_12338_7 : decode cJxf58ca_isNaN_12338 7 = .ok (.goto 4, 3) := by decide +kernel
theorem dJxf58ca_isNaN_12338_10 : decode cJxf58ca_isNaN_12338 10 = .ok (.iconst 0, 1) := by decide +kernel
theorem dJxf58ca_isNaN_12338_11 : decode cJxf58ca_isNaN_12338 11 = .ok (.ireturn, 1) := by decide +kernel
theorem dJxf58ca_floatToIntBits_5c35a_0 : decode cJxf58ca_floatToIntBits_5c35a 0 = .ok (.fload_n 0, 1) := by decide +kernel
theorem dJxf58ca_floatToIntBits_5c35a_1 : decode cJxf58ca_floatToIntBits_5c35a 1 = .ok (.invokestatic 59, 3) := by decide +kernel
theorem dJxf58ca_floatToIntBits_5c35a_4 : decode cJxf58ca_floatToIntBits_5c35a 4 = .ok (.ifCond .ne 8, 3) := by decide +kernel
theorem dJxf58ca_floatToIntBits_5c35a_7 : decode cJxf58ca_floatToIntBits_5c35a 7 = .ok (.fload_n 0, 1) := by decide +kernel
theorem dJxf58ca_floatToIntBits_5c35a_8 : decode cJxf58ca_floatToIntBits_5c35a 8 = .ok (.invokestatic 74, 3) := by decide +kernel
theorem dJxf58ca_floatToIntBits_5c35a_11 : decode cJxf58ca_floatToIntBits_5c35a 11 = .ok (.ireturn, 1) := by decide +kernel
theorem dJxf58ca_floatToIntBits_5c35a_12 : decode cJxf58ca_floatToIntBits_5c35a 12 = .ok (.ldc 77, 2) := by decide +kernel
theorem dJxf58ca_floatToIntBits_5c35a_14 : decode cJxf58ca_floatToIntBits_5c35a 14 = .ok (.ireturn, 1) := by decide +kernel
theorem dJ9_max_7cf53_0 : decode cJ9_max_7cf53 0 = .ok (.iload_n 0, 1) := by decide +kernel
theorem dJ9_max_7cf53_1 : decode cJ9_max_7cf53 1 = .ok (.iload_n 1, 1) := by decide +kernel
theorem dJ9_max_7cf53_2 : decode cJ9_max_7cf53 2 = .ok (.if_icmp .lt 7, 3) := by decide +kernel
theorem dJ9_max_7cf53_5 : decode cJ9_max_7cf53 5 = .ok (.iload_n 0, 1) := by decide +kernel
theorem dJ9_max_7cf53_6 : decode cJ9_max_7cf53 6 = .ok (.goto 4, 3) := by decide +kernel
theorem dJ9_max_7cf53_9 : decode cJ9_max_7cf53 9 = .ok (.iload_n 1, 1) := by decide +kernel
theorem dJ9_max_7cf53_10 : decode cJ9_max_7cf53 10 = .ok (.ireturn, 1) := by decide +kernel
theorem dJ9_min_7cf53_0 : decode cJ9_min_7cf53 0 = .ok (.iload_n 0, 1) := by decide +kernel
theorem dJ9_min_7cf53_1 : decode cJ9_min_7cf53 1 = .ok (.iload_n 1, 1) := by decide +kernel
theorem dJ9_min_7cf53_2 : decode cJ9_min_7cf53 2 = .ok (.if_icmp .gt 7, 3) := by decide +kernel
theorem dJ9_min_7cf53_5 : decode cJ9_min_7cf53 5 = .ok (.iload_n 0, 1) := by decide +kernel
theorem dJ9_min_7cf53_6 : decode cJ9_min_7cf53 6 = .ok (.goto 4, 3) := by decide +kernel
theorem dJ9_min_7cf53_9 : decode cJ9_min_7cf53 9 = .ok (.iload_n 1, 1) := by decide +kernel
theorem dJ9_min_7cf53_10 : decode cJ9_min_7cf53 10 = .ok (.ireturn, 1) := by decide +kernel
theorem dJ0_length_8abf5_0 : decode cJ0_length_8abf5 0 = .ok (.aload_n 0, 1) := by decide +kernel
theorem dJ0_length_8abf5_1 : decode cJ0_length_8abf5 1 = .ok (.getfield 9, 3) := by decide +kernel
theorem dJ0_length_8abf5_4 : decode cJ0_length_8abf5 4 = .ok (.arraylength, 1) := by decide +kernel
theorem dJ0_length_8abf5_5 : decode cJ0_length_8abf5 5 = .ok (.aload_n 0, 1) := by decide +kernel
theorem dJ0_length_8abf5_6 : decode cJ0_length_8abf5 6 = .ok (.invokevirtual 335, 3) := by decide +kernel
theorem dJ0_length_8abf5_9 : decode cJ0_length_8abf5 9 = .ok (.ishr, 1) := by decide +kernel
theorem dJ0_length_8abf5_10 : decode cJ0_length_8abf5 10 = .ok (.ireturn, 1) := by decide +kernel
theorem dJ0_indexOf_0f7a4_0 : decode cJ0_indexOf_0f7a4 0 = .ok (.aload_n 0, 1) := by decide +kernel
theorem dJ0_indexOf_0f7a4_1 : decode cJ0_indexOf_0f7a4 1 = .ok (.iload_n 1, 1) := by decide +kernel
theorem dJ0_indexOf_0f7a4_2 : decode cJ0_indexOf_0f7a4 2 = .ok (.iconst 0, 1) := by decide +kernel
theorem dJ0_indexOf_0f7a4_3 : decode cJ0_indexOf_0f7a4 3 = .ok (.invokevirtual 633, 3) := by decide +kernel
theorem dJ0_indexOf_0f7a4_6 : decode cJ0_indexOf_0f7a4 6 = .ok (.ireturn, 1) := by decide +kernel
theorem dJ0_indexOf_7cf53_0 : decode cJ0_indexOf_7cf53 0 = .ok (.aload_n 0, 1) := by decide +kernel
theorem dJ0_indexOf_7cf53_1 : decode cJ0_indexOf_7cf53 1 = .ok (.invokevirtual 492, 3) := by decide +kernel
theorem dJ0_indexOf_7cf53_4 : decode cJ0_indexOf_7cf53 4 = .ok (.ifCond .eq 19, 3) := by decide +kernel
theorem dJ0_indexOf_7cf53_7 : decode cJ0_indexOf_7cf53 7 = .ok (.aload_n 0, 1) := by decide +kernel
theorem dJ0_indexOf_7cf53_8 : decode cJ0_indexOf_7cf53 8 = .ok (.getfield 9, 3) := by decide +kernel
theorem dJ0_indexOf_7cf53_11 : decode cJ0_indexOf_7cf53 11 = .ok (.iload_n 1, 1) := by decide +kernel
theorem dJ0_indexOf_7cf53_12 : decode cJ0_indexOf_7cf53 12 = .ok (.iload_n 2, 1) := by decide +kernel
theorem dJ0_indexOf_7cf53_13 : decode cJ0_indexOf_7cf53 13 = .ok (.aload_n 0, 1) := by decide +kernel
theorem dJ0_indexOf_7cf53_14 : decode cJ0_indexOf_7cf53 14 = .ok (.invokevirtual 505, 3) := by decide +kernel
theorem dJ0_indexOf_7cf53_17 : decode cJ0_indexOf_7cf53 17 = .ok (.invokestatic 637, 3) := by decide +kernel
theorem dJ0_indexOf_7cf53_20 : decode cJ0_indexOf_7cf53 20 = .ok (.goto 16, 3) := by decide +kernel
theorem dJ0_indexOf_7cf53_23 : decode cJ0_indexOf_7cf53 23 = .ok (.aload_n 0, 1) := by decide +kernel
theorem dJ0_indexOf_7cf53_24 : decode cJ0_indexOf_7cf53 24 = .ok (.getfield 9, 3) := by decide +kernel
theorem dJ0_indexOf_7cf53_27 : decode cJ0_indexOf_7cf53 27 = .ok (.iload_n 1, 1) := by decide +kernel
theorem dJ0_indexOf_7cf53_28 : decode cJ0_indexOf_7cf53 28 = .ok (.iload_n 2, 1) := by decide +kernel
theorem dJ0_indexOf_7cf53_29 : decode cJ0_indexOf_7cf53 29 = .ok (.aload_n 0, 1) := by decide +kernel
theorem dJ0_indexOf_7cf53_30 : decode cJ0_indexOf_7cf53 30 = .ok (.invokevirtual 505, 3) := by decide +kernel
theorem dJ0_indexOf_7cf53_33 : decode cJ0_indexOf_7cf53 33 = .ok (.invokestatic 640, 3) := by decide +kernel
theorem dJ0_indexOf_7cf53_36 : decode cJ0_indexOf_7cf53 36 = .ok (.ireturn, 1) := by decide +kernel
theorem dJ0_coder_7d493_0 : decode cJ0_coder_7d493 0 = .ok (.getstatic 38, 3) := by decide +kernel
theorem dJ0_coder_7d493_3 : decode cJ0_coder_7d493 3 = .ok (.ifCond .eq 10, 3) := by decide +kernel
theorem dJ0_coder_7d493_6 : decode cJ0_coder_7d493 6 = .ok (.aload_n 0, 1) := by decide +kernel
theorem dJ0_coder_7d493_7 : decode cJ0_coder_7d493 7 = .ok (.getfield 15, 3) := by decide +kernel
theorem dJ0_coder_7d493_10 : decode cJ0_coder_7d493 10 = .ok (.goto 4, 3) := by decide +kernel
theorem dJ0_coder_7d493_13 : decode cJ0_coder_7d493 13 = .ok (.iconst 1, 1) := by decide +kernel
theorem dJ0_coder_7d493_14 : decode cJ0_coder_7d493 14 = .ok (.ireturn, 1) := by decide +kernel
theorem dJ0_isLatin1_aae02_0 : decode cJ0_isLatin1_aae02 0 = .ok (.getstatic 38, 3) := by decide +kernel
theorem dJ0_isLatin1_aae02_3 : decode cJ0_isLatin1_aae02 3 = .ok (.ifCond .eq 14, 3) := by decide +kernel
theorem dJ0_isLatin1_aae02_6 : decode cJ0_isLatin1_aae02 6 = .ok (.aload_n 0, 1) := by decide +kernel
theorem dJ0_isLatin1_aae02_7 : decode cJ0_isLatin1_aae02 7 = .ok (.getfield 15, 3) := by decide +kernel
theorem dJ0_isLatin1_aae02_10 : decode cJ0_isLatin1_aae02 10 = .ok (.ifCond .ne 7, 3) := by decide +kernel
theorem dJ0_isLatin1_aae02_13 : decode cJ0_isLatin1_aae02 13 = .ok (.iconst 1, 1) := by decide +kernel
theorem dJ0_isLatin1_aae02_14 : decode cJ0_isLatin1_aae02 14 = .ok (.goto 4, 3) := by decide +kernel
theorem dJ0_isLatin1_aae02_17 : decode cJ0_isLatin1_aae02 17 = .ok (.iconst 0, 1) := by decide +kernel
theorem dJ0_isLatin1_aae02_18 : decode cJ0_isLatin1_aae02 18 = .ok (.ireturn, 1) := by decide +kernel
theorem dJ0_checkBoundsBeginEnd_23922_0 : decode cJ0_checkBoundsBeginEnd_23922 0 = .ok (.iload_n 0, 1) := by decide +kernel
theorem dJ0_checkBoundsBeginEnd_23922_1 : decode cJ0_checkBoundsBeginEnd_23922 1 = .ok (.iload_n 1, 1) := by decide +kernel
theorem dJ0_checkBoundsBeginEnd_23922_2 : decode cJ0_checkBoundsBeginEnd_23922 2 = .ok (.iload_n 2, 1) := by decide +kernel
theorem dJ0_checkBoundsBeginEnd_23922_3 : decode cJ0_checkBoundsBeginEnd_23922 3 = .ok (.getstatic 1053, 3) := by decide +kernel
theorem dJ0_checkBoundsBeginEnd_23922_6 : decode cJ0_checkBoundsBeginEnd_23922 6 = .ok (.invokestatic 1062, 3) := by decide +kernel
theorem dJ0_checkBoundsBeginEnd_23922_9 : decode cJ0_checkBoundsBeginEnd_23922 9 = .ok (.pop, 1) := by decide +kernel
theorem dJ0_checkBoundsBeginEnd_23922_10 : decode cJ0_checkBoundsBeginEnd_23922 10 = .ok (.return_, 1) := by decide +kernel
theorem dJ1_canEncode_9a6ad_0 : decode cJ1_canEncode_9a6ad 0 = .ok (.iload_n 0, 1) := by decide +kernel
theorem dJ1_canEncode_9a6ad_1 : decode cJ1_canEncode_9a6ad 1 = .ok (.ifCond .lt 14, 3) := by decide +kernel
theorem dJ1_canEncode_9a6ad_4 : decode cJ1_canEncode_9a6ad 4 = .ok (.iload_n 0, 1) := by decide +kernel
theorem dJ1_canEncode_9a6ad_5 : decode cJ1_canEncode_9a6ad 5 = .ok (.sipush 255, 3) := by decide +kernel
theorem dJ1_canEncode_9a6ad_8 : decode cJ1_canEncode_9a6ad 8 = .ok (.if_icmp .gt 7, 3) := by decide +kernel
theorem dJ1_canEncode_9a6ad_11 : decode cJ1_canEncode_9a6ad 11 = .ok (.iconst 1, 1) := by decide +kernel
theorem dJ1_canEncode_9a6ad_12 : decode cJ1_canEncode_9a6ad 12 = .ok (.goto 4, 3) := by decide +kernel
theorem dJ1_canEncode_9a6ad_15 : decode cJ1_canEncode_9a6ad 15 = .ok (.iconst 0, 1) := by decide +kernel
theorem dJ1_canEncode_9a6ad_16 : decode cJ1_canEncode_9a6ad 16 = .ok (.ireturn, 1) := by decide +kernel
theorem dJ1_indexOf_4cfef_0 : decode cJ1_indexOf_4cfef 0 = .ok (.iload_n 1, 1) := by decide +kernel
theorem dJ1_indexOf_4cfef_1 : decode cJ1_indexOf_4cfef 1 = .ok (.invokestatic 88, 3) := by decide +kernel
theorem dJ1_indexOf_4cfef_4 : decode cJ1_indexOf_4cfef 4 = .ok (.ifCond .ne 5, 3) := by decide +kernel
theorem dJ1_indexOf_4cfef_7 : decode cJ1_indexOf_4cfef 7 = .ok (.iconst (-1), 1) := by decide +kernel
theorem dJ1_indexOf_4cfef_8 : decode cJ1_indexOf_4cfef 8 = .ok (.ireturn, 1) := by decide +kernel
theorem dJ1_indexOf_4cfef_9 : decode cJ1_indexOf_4cfef 9 = .ok (.iload_n 2, 1) := by decide +kernel
theorem dJ1_indexOf_4cfef_10 : decode cJ1_indexOf_4cfef 10 = .ok (.iconst 0, 1) := by decide +kernel
theorem dJ1_indexOf_4cfef_11 : decode cJ1_indexOf_4cfef 11 = .ok (.invokestatic 92, 3) := by decide +kernel
theorem dJ1_indexOf_4cfef_14 : decode cJ1_indexOf_4cfef 14 = .ok (.istore_n 2, 1) := by decide +kernel
theorem dJ1_indexOf_4cfef_15 : decode cJ1_indexOf_4cfef 15 = .ok (.iload_n 3, 1) := by decide +kernel
theorem dJ1_indexOf_4cfef_16 : decode cJ1_indexOf_4cfef 16 = .ok (.aload_n 0, 1) := by decide +kernel
theorem dJ1_indexOf_4cfef_17 : decode cJ1_indexOf_4cfef 17 = .ok (.arraylength, 1) := by decide +kernel
theorem dJ1_indexOf_4cfef_18 : decode cJ1_indexOf_4cfef 18 = .ok (.invokestatic 38, 3) := by decide +kernel
theorem dJ1_indexOf_4cfef_21 : decode cJ1_indexOf_4cfef 21 = .ok (.istore_n 3, 1) := by decide +kernel
theorem dJ1_indexOf_4cfef_22 : decode cJ1_indexOf_4cfef 22 = .ok (.iload_n 2, 1) := by decide +kernel
theorem dJ1_indexOf_4cfef_23 : decode cJ1_indexOf_4cfef 23 = .ok (.iload_n 3, 1) := by decide +kernel
theorem dJ1_indexOf_4cfef_24 : decode cJ1_indexOf_4cfef 24 = .ok (.if_icmp .lt 5, 3) := by decide +kernel
theorem dJ1_indexOf_4cfef_27 : decode cJ1_indexOf_4cfef 27 = .ok (.iconst (-1), 1) := by decide +kernel
theorem dJ1_indexOf_4cfef_28 : decode cJ1_indexOf_4cfef 28 = .ok (.ireturn, 1) := by decide +kernel
theorem dJ1_indexOf_4cfef_29 : decode cJ1_indexOf_4cfef 29 = .ok (.aload_n 0, 1) := by decide +kernel
theorem dJ1_indexOf_4cfef_30 : decode cJ1_indexOf_4cfef 30 = .ok (.iload_n 1, 1) := by decide +kernel
theorem dJ1_indexOf_4cfef_31 : decode cJ1_indexOf_4cfef 31 = .ok (.iload_n 2, 1) := by decide +kernel
theorem dJ1_indexOf_4cfef_32 : decode cJ1_indexOf_4cfef 32 = .ok (.iload_n 3, 1) := by decide +kernel
theorem dJ1_indexOf_4cfef_33 : decode cJ1_indexOf_4cfef 33 = .ok (.invokestatic 95, 3) := by decide +kernel
theorem dJ1_indexOf_4cfef_36 : decode cJ1_indexOf_4cfef 36 = .ok (.ireturn, 1) := by decide +kernel
theorem dJ1_indexOfChar_4cfef_0 : decode cJ1_indexOfChar_4cfef 0 = .ok (.iload_n 1, 1) := by decide +kernel
theorem dJ1_indexOfChar_4cfef_1 : decode cJ1_indexOfChar_4cfef 1 = .ok (.i2b, 1) := by decide +kernel
theorem dJ1_indexOfChar_4cfef_2 : decode cJ1_indexOfChar_4cfef 2 = .ok (.istore 4, 2) := by decide +kernel
theorem dJ1_indexOfChar_4cfef_4 : decode cJ1_indexOfChar_4cfef 4 = .ok (.iload_n 2, 1) := by decide +kernel
theorem dJ1_indexOfChar_4cfef_5 : decode cJ1_indexOfChar_4cfef 5 = .ok (.istore 5, 2) := by decide +kernel
theorem dJ1_indexOfChar_4cfef_7 : decode cJ1_indexOfChar_4cfef 7 = .ok (.iload 5, 2) := by decide +kernel
theorem dJ1_indexOfChar_4cfef_9 : decode cJ1_indexOfChar_4cfef 9 = .ok (.iload_n 3, 1) := by decide +kernel
theorem dJ1_indexOfChar_4cfef_10 : decode cJ1_indexOfChar_4cfef 10 = .ok (.if_icmp .ge 21, 3) := by decide +kernel
theorem dJ1_indexOfChar_4cfef_13 : decode cJ1_indexOfChar_4cfef 13 = .ok (.aload_n 0, 1) := by decide +kernel
theorem dJ1_indexOfChar_4cfef_14 : decode cJ1_indexOfChar_4cfef 14 = .ok (.iload 5, 2) := by decide +kernel
theorem dJ1_indexOfChar_4cfef_16 : decode cJ1_indexOfChar_4cfef 16 = .ok (.baload, 1) := by decide +kernel
theorem dJ1_indexOfChar_4cfef_17 : decode cJ1_indexOfChar_4cfef 17 = .ok (.iload 4, 2) := by decide +kernel
theorem dJ1_indexOfChar_4cfef_19 : decode cJ1_indexOfChar_4cfef 19 = .ok (.if_icmp .ne 6, 3) := by decide +kernel
theorem dJ1_indexOfChar_4cfef_22 : decode cJ1_indexOfChar_4cfef 22 = .ok (.iload 5, 2) := by decide +kernel
theorem dJ1_indexOfChar_4cfef_24 : decode cJ1_indexOfChar_4cfef 24 = .ok (.ireturn, 1) := by decide +kernel
theorem dJ1_indexOfChar_4cfef_25 : decode cJ1_indexOfChar_4cfef 25 = .ok (.iinc 5 1, 3) := by decide +kernel
theorem dJ1_indexOfChar_4cfef_28 : decode cJ1_indexOfChar_4cfef 28 = .ok (.goto (-21), 3) := by decide +kernel
theorem dJ1_indexOfChar_4cfef_31 : decode cJ1_indexOfChar_4cfef 31 = .ok (.iconst (-1), 1) := by decide +kernel
theorem dJ1_indexOfChar_4cfef_32 : decode cJ1_indexOfChar_4cfef 32 = .ok (.ireturn, 1) := by decide +kernel
theorem dJ2_getChar_3b067_0 : decode cJ2_getChar_3b067 0 = .ok (.getstatic 44, 3) := by decide +kernel
theorem dJ2_getChar_3b067_3 : decode cJ2_getChar_3b067 3 = .ok (.ifCond .ne 25, 3) := by decide +kernel
theorem dJ2_getChar_3b067_6 : decode cJ2_getChar_3b067 6 = .ok (.iload_n 1, 1) := by decide +kernel
theorem dJ2_getChar_3b067_7 : decode cJ2_getChar_3b067 7 = .ok (.ifCond .lt 11, 3) := by decide +kernel
theorem dJ2_getChar_3b067_10 : decode cJ2_getChar_3b067 10 = .ok (.iload_n 1, 1) := by decide +kernel
theorem dJ2_getChar_3b067_11 : decode cJ2_getChar_3b067 11 = .ok (.aload_n 0, 1) := by decide +kernel
theorem dJ2_getChar_3b067_12 : decode cJ2_getChar_3b067 12 = .ok (.invokestatic 48, 3) := by decide +kernel
theorem dJ2_getChar_3b067_15 : decode cJ2_getChar_3b067 15 = .ok (.if_icmp .lt 13, 3) := by decide +kernel
theorem dJ2_getChar_3b067_18 : decode cJ2_getChar_3b067 18 = .ok (.new 52, 3) := by decide +kernel
theorem dJ2_getChar_3b067_21 : decode cJ2_getChar_3b067 21 = .ok (.dup, 1) := by decide +kernel
theorem dJ2_getChar_3b067_22 : decode cJ2_getChar_3b067 22 = .ok (.ldc 54, 2) := by decide +kernel
theorem dJ2_getChar_3b067_24 : decode cJ2_getChar_3b067 24 = .ok (.invokespecial 56, 3) := by decide +kernel
theorem dJ2_getChar_3b067_27 : decode cJ2_getChar_3b067 27 = .ok (.athrow, 1) := by decide +kernel
theorem dJ2_getChar_3b067_28 : decode cJ2_getChar_3b067 28 = .ok (.iload_n 1, 1) := by decide +kernel
theorem dJ2_getChar_3b067_29 : decode cJ2_getChar_3b067 29 = .ok (.iconst 1, 1) := by decide +kernel
theorem dJ2_getChar_3b067_30 : decode cJ2_getChar_3b067 30 = .ok (.ishl, 1) := by decide +kernel
theorem dJ2_getChar_3b067_31 : decode cJ2_getChar_3b067 31 = .ok (.istore_n 1, 1) := by decide +kernel
theorem dJ2_getChar_3b067_32 : decode cJ2_getChar_3b067 32 = .ok (.aload_n 0, 1) := by decide +kernel
theorem dJ2_getChar_3b067_33 : decode cJ2_getChar_3b067 33 = .ok (.iload_n 1, 1) := by decide +kernel
theorem dJ2_getChar_3b067_34 : decode cJ2_getChar_3b067 34 = .ok (.iinc 1 1, 3) := by decide +kernel
theorem dJ2_getChar_3b067_37 : decode cJ2_getChar_3b067 37 = .ok (.baload, 1) := by decide +kernel
theorem dJ2_getChar_3b067_38 : decode cJ2_getChar_3b067 38 = .ok (.sipush 255, 3) := by decide +kernel
theorem dJ2_getChar_3b067_41 : decode cJ2_getChar_3b067 41 = .ok (.iand, 1) := by decide +kernel
theorem dJ2_getChar_3b067_42 : decode cJ2_getChar_3b067 42 = .ok (.getstatic 59, 3) := by decide +kernel
theorem dJ2_getChar_3b067_45 : decode cJ2_getChar_3b067 45 = .ok (.ishl, 1) := by decide +kernel
theorem dJ2_getChar_3b067_46 : decode cJ2_getChar_3b067 46 = .ok (.aload_n 0, 1) := by decide +kernel
theorem dJ2_getChar_3b067_47 : decode cJ2_getChar_3b067 47 = .ok (.iload_n 1, 1) := by decide +kernel
theorem dJ2_getChar_3b067_48 : decode cJ2_getChar_3b067 48 = .ok (.baload, 1) := by decide +kernel
theorem dJ2_getChar_3b067_49 : decode cJ2_getChar_3b067 49 = .ok (.sipush 255, 3) := by decide +kernel
theorem dJ2_getChar_3b067_52 : decode cJ2_getChar_3b067 52 = .ok (.iand, 1) := by decide +kernel
theorem dJ2_getChar_3b067_53 : decode cJ2_getChar_3b067 53 = .ok (.getstatic 63, 3) := by decide +kernel
theorem dJ2_getChar_3b067_56 : decode cJ2_getChar_3b067 56 = .ok (.ishl, 1) := by decide +kernel
theorem dJ2_getChar_3b067_57 : decode cJ2_getChar_3b067 57 = .ok (.ior, 1) := by decide +kernel
theorem dJ2_getChar_3b067_58 : decode cJ2_getChar_3b067 58 = .ok (.i2c, 1) := by decide +kernel
theorem dJ2_getChar_3b067_59 : decode cJ2_getChar_3b067 59 = .ok (.ireturn, 1) := by decide +kernel
theorem dJ2_length_9d52b_0 : decode cJ2_length_9d52b 0 = .ok (.aload_n 0, 1) := by decide +kernel
theorem dJ2_length_9d52b_1 : decode cJ2_length_9d52b 1 = .ok (.arraylength, 1) := by decide +kernel
theorem dJ2_length_9d52b_2 : decode cJ2_length_9d52b 2 = .ok (.iconst 1, 1) := by decide +kernel
theorem dJ2_length_9d52b_3 : decode cJ2_length_9d52b 3 = .ok (.ishr, 1) := by decide +kernel
theorem dJ2_length_9d52b_4 : decode cJ2_length_9d52b 4 = .ok (.ireturn, 1) := by decide +kernel
theorem dJ2_indexOf_4cfef_0 : decode cJ2_indexOf_4cfef 0 = .ok (.iload_n 2, 1) := by decide +kernel
theorem dJ2_indexOf_4cfef_1 : decode cJ2_indexOf_4cfef 1 = .ok (.iconst 0, 1) := by decide +kernel
theorem dJ2_indexOf_4cfef_2 : decode cJ2_indexOf_4cfef 2 = .ok (.invokestatic 224, 3) := by decide +kernel
theorem dJ2_indexOf_4cfef_5 : decode cJ2_indexOf_4cfef 5 = .ok (.istore_n 2, 1) := by decide +kernel
theorem dJ2_indexOf_4cfef_6 : decode cJ2_indexOf_4cfef 6 = .ok (.iload_n 3, 1) := by decide +kernel
theorem dJ2_indexOf_4cfef_7 : decode cJ2_indexOf_4cfef 7 = .ok (.aload_n 0, 1) := by decide +kernel
theorem dJ2_indexOf_4cfef_8 : decode cJ2_indexOf_4cfef 8 = .ok (.arraylength, 1) := by decide +kernel
theorem dJ2_indexOf_4cfef_9 : decode cJ2_indexOf_4cfef 9 = .ok (.iconst 1, 1) := by decide +kernel
theorem dJ2_indexOf_4cfef_10 : decode cJ2_indexOf_4cfef 10 = .ok (.ishr, 1) := by decide +kernel
theorem dJ2_indexOf_4cfef_11 : decode cJ2_indexOf_4cfef 11 = .ok (.invokestatic 183, 3) := by decide +kernel
theorem dJ2_indexOf_4cfef_14 : decode cJ2_indexOf_4cfef 14 = .ok (.istore_n 3, 1) := by decide +kernel
theorem dJ2_indexOf_4cfef_15 : decode cJ2_indexOf_4cfef 15 = .ok (.iload_n 2, 1) := by decide +kernel
theorem dJ2_indexOf_4cfef_16 : decode cJ2_indexOf_4cfef 16 = .ok (.iload_n 3, 1) := by decide +kernel
theorem dJ2_indexOf_4cfef_17 : decode cJ2_indexOf_4cfef 17 = .ok (.if_icmp .lt 5, 3) := by decide +kernel
theorem dJ2_indexOf_4cfef_20 : decode cJ2_indexOf_4cfef 20 = .ok (.iconst (-1), 1) := by decide +kernel
theorem dJ2_indexOf_4cfef_21 : decode cJ2_indexOf_4cfef 21 = .ok (.ireturn, 1) := by decide +kernel
theorem dJ2_indexOf_4cfef_22 : decode cJ2_indexOf_4cfef 22 = .ok (.iload_n 1, 1) := by decide +kernel
theorem dJ2_indexOf_4cfef_23 : decode cJ2_indexOf_4cfef 23 = .ok (.ldc 227, 2) := by decide +kernel
theorem dJ2_indexOf_4cfef_25 : decode cJ2_indexOf_4cfef 25 = .ok (.if_icmp .ge 11, 3) := by decide +kernel
theorem dJ2_indexOf_4cfef_28 : decode cJ2_indexOf_4cfef 28 = .ok (.aload_n 0, 1) := by decide +kernel
theorem dJ2_indexOf_4cfef_29 : decode cJ2_indexOf_4cfef 29 = .ok (.iload_n 1, 1) := by decide +kernel
theorem dJ2_indexOf_4cfef_30 : decode cJ2_indexOf_4cfef 30 = .ok (.iload_n 2, 1) := by decide +kernel
theorem dJ2_indexOf_4cfef_31 : decode cJ2_indexOf_4cfef 31 = .ok (.iload_n 3, 1) := by decide +kernel
theorem dJ2_indexOf_4cfef_32 : decode cJ2_indexOf_4cfef 32 = .ok (.invokestatic 228, 3) := by decide +kernel
theorem dJ2_indexOf_4cfef_35 : decode cJ2_indexOf_4cfef 35 = .ok (.ireturn, 1) := by decide +kernel
theorem dJ2_indexOf_4cfef_36 : decode cJ2_indexOf_4cfef 36 = .ok (.aload_n 0, 1) := by decide +kernel
theorem dJ2_indexOf_4cfef_37 : decode cJ2_indexOf_4cfef 37 = .ok (.iload_n 1, 1) := by decide +kernel
theorem dJ2_indexOf_4cfef_38 : decode cJ2_indexOf_4cfef 38 = .ok (.iload_n 2, 1) := by decide +kernel
theorem dJ2_indexOf_4cfef_39 : decode cJ2_indexOf_4cfef 39 = .ok (.iload_n 3, 1) := by decide +kernel
theorem dJ2_indexOf_4cfef_40 : decode cJ2_indexOf_4cfef 40 = .ok (.invokestatic 232, 3) := by decide +kernel
theorem dJ2_indexOf_4cfef_43 : decode cJ2_indexOf_4cfef 43 = .ok (.ireturn, 1) := by decide +kernel
theorem dJ2_indexOfChar_4cfef_0 : decode cJ2_indexOfChar_4cfef 0 = .ok (.iload_n 2, 1) := by decide +kernel
theorem dJ2_indexOfChar_4cfef_1 : decode cJ2_indexOfChar_4cfef 1 = .ok (.iload_n 3, 1) := by decide +kernel
theorem dJ2_indexOfChar_4cfef_2 : decode cJ2_indexOfChar_4cfef 2 = .ok (.aload_n 0, 1) := by decide +kernel
theorem dJ2_indexOfChar_4cfef_3 : decode cJ2_indexOfChar_4cfef 3 = .ok (.invokestatic 96, 3) := by decide +kernel
theorem dJ2_indexOfChar_4cfef_6 : decode cJ2_indexOfChar_4cfef 6 = .ok (.aload_n 0, 1) := by decide +kernel
theorem dJ2_indexOfChar_4cfef_7 : decode cJ2_indexOfChar_4cfef 7 = .ok (.iload_n 1, 1) := by decide +kernel
theorem dJ2_indexOfChar_4cfef_8 : decode cJ2_indexOfChar_4cfef 8 = .ok (.iload_n 2, 1) := by decide +kernel
theorem dJ2_indexOfChar_4cfef_9 : decode cJ2_indexOfChar_4cfef 9 = .ok (.iload_n 3, 1) := by decide +kernel
theorem dJ2_indexOfChar_4cfef_10 : decode cJ2_indexOfChar_4cfef 10 = .ok (.invokestatic 244, 3) := by decide +kernel
theorem dJ2_indexOfChar_4cfef_13 : decode cJ2_indexOfChar_4cfef 13 = .ok (.ireturn, 1) := by decide +kernel
theorem dJ2_indexOfCharUnsafe_4cfef_0 : decode cJ2_indexOfCharUnsafe_4cfef 0 = .ok (.iload_n 2, 1) := by decide +kernel
theorem dJ2_indexOfCharUnsafe_4cfef_1 : decode cJ2_indexOfCharUnsafe_4cfef 1 = .ok (.istore 4, 2) := by decide +kernel
theorem dJ2_indexOfCharUnsafe_4cfef_3 : decode cJ2_indexOfCharUnsafe_4cfef 3 = .ok (.iload 4, 2) := by decide +kernel
theorem dJ2_indexOfCharUnsafe_4cfef_5 : decode cJ2_indexOfCharUnsafe_4cfef 5 = .ok (.iload_n 3, 1) := by decide +kernel
theorem dJ2_indexOfCharUnsafe_4cfef_6 : decode cJ2_indexOfCharUnsafe_4cfef 6 = .ok (.if_icmp .ge 22, 3) := by decide +kernel
theorem dJ2_indexOfCharUnsafe_4cfef_9 : decode cJ2_indexOfCharUnsafe_4cfef 9 = .ok (.aload_n 0, 1) := by decide +kernel
theorem dJ2_indexOfCharUnsafe_4cfef_10 : decode cJ2_indexOfCharUnsafe_4cfef 10 = .ok (.iload 4, 2) := by decide +kernel
theorem dJ2_indexOfCharUnsafe_4cfef_12 : decode cJ2_indexOfCharUnsafe_4cfef 12 = .ok (.invokestatic 71, 3) := by decide +kernel
theorem dJ2_indexOfCharUnsafe_4cfef_15 : decode cJ2_indexOfCharUnsafe_4cfef 15 = .ok (.iload_n 1, 1) := by decide +kernel
theorem dJ2_indexOfCharUnsafe_4cfef_16 : decode cJ2_indexOfCharUnsafe_4cfef 16 = .ok (.if_icmp .ne 6, 3) := by decide +kernel
theorem dJ2_indexOfCharUnsafe_4cfef_19 : decode cJ2_indexOfCharUnsafe_4cfef 19 = .ok (.iload 4, 2) := by decide +kernel
theorem dJ2_indexOfCharUnsafe_4cfef_21 : decode cJ2_indexOfCharUnsafe_4cfef 21 = .ok (.ireturn, 1) := by decide +kernel
theorem dJ2_indexOfCharUnsafe_4cfef_22 : decode cJ2_indexOfCharUnsafe_4cfef 22 = .ok (.iinc 4 1, 3) := by decide +kernel
theorem dJ2_indexOfCharUnsafe_4cfef_25 : decode cJ2_indexOfCharUnsafe_4cfef 25 = .ok (.goto (-22), 3) := by decide +kernel
theorem dJ2_indexOfCharUnsafe_4cfef_28 : decode cJ2_indexOfCharUnsafe_4cfef 28 = .ok (.iconst (-1), 1) := by decide +kernel
theorem dJ2_indexOfCharUnsafe_4cfef_29 : decode cJ2_indexOfCharUnsafe_4cfef 29 = .ok (.ireturn, 1) := by decide +kernel
theorem dJ2_indexOfSupplementary_4cfef_0 : decode cJ2_indexOfSupplementary_4cfef 0 = .ok (.iload_n 1, 1) := by decide +kernel
theorem dJ2_indexOfSupplementary_4cfef_1 : decode cJ2_indexOfSupplementary_4cfef 1 = .ok (.invokestatic 164, 3) := by decide +kernel
theorem dJ2_indexOfSupplementary_4cfef_4 : decode cJ2_indexOfSupplementary_4cfef 4 = .ok (.ifCond .eq 65, 3) := by decide +kernel
theorem dJ2_indexOfSupplementary_4cfef_7 : decode cJ2_indexOfSupplementary_4cfef 7 = .ok (.iload_n 1, 1) := by decide +kernel
theorem dJ2_indexOfSupplementary_4cfef_8 : decode cJ2_indexOfSupplementary_4cfef 8 = .ok (.invokestatic 157, 3) := by decide +kernel
theorem dJ2_indexOfSupplementary_4cfef_11 : decode cJ2_indexOfSupplementary_4cfef 11 = .ok (.istore 4, 2) := by decide +kernel
theorem dJ2_indexOfSupplementary_4cfef_13 : decode cJ2_indexOfSupplementary_4cfef 13 = .ok (.iload_n 1, 1) := by decide +kernel
theorem dJ2_indexOfSupplementary_4cfef_14 : decode cJ2_indexOfSupplementary_4cfef 14 = .ok (.invokestatic 161, 3) := by decide +kernel
theorem dJ2_indexOfSupplementary_4cfef_17 : decode cJ2_indexOfSupplementary_4cfef 17 = .ok (.istore 5, 2) := by decide +kernel
theorem dJ2_indexOfSupplementary_4cfef_19 : decode cJ2_indexOfSupplementary_4cfef 19 = .ok (.iload_n 2, 1) := by decide +kernel
theorem dJ2_indexOfSupplementary_4cfef_20 : decode cJ2_indexOfSupplementary_4cfef 20 = .ok (.iload_n 3, 1) := by decide +kernel
theorem dJ2_indexOfSupplementary_4cfef_21 : decode cJ2_indexOfSupplementary_4cfef 21 = .ok (.aload_n 0, 1) := by decide +kernel
theorem dJ2_indexOfSupplementary_4cfef_22 : decode cJ2_indexOfSupplementary_4cfef 22 = .ok (.invokestatic 96, 3) := by decide +kernel
theorem dJ2_indexOfSupplementary_4cfef_25 : decode cJ2_indexOfSupplementary_4cfef 25 = .ok (.iload_n 2, 1) := by decide +kernel
theorem dJ2_indexOfSupplementary_4cfef_26 : decode cJ2_indexOfSupplementary_4cfef 26 = .ok (.istore 6, 2) := by decide +kernel
theorem dJ2_indexOfSupplementary_4cfef_28 : decode cJ2_indexOfSupplementary_4cfef 28 = .ok (.iload 6, 2) := by decide +kernel
theorem dJ2_indexOfSupplementary_4cfef_30 : decode cJ2_indexOfSupplementary_4cfef 30 = .ok (.iload_n 3, 1) := by decide +kernel
theorem dJ2_indexOfSupplementary_4cfef_31 : decode cJ2_indexOfSupplementary_4cfef 31 = .ok (.iconst 1, 1) := by decide +kernel
theorem dJ2_indexOfSupplementary_4cfef_32 : decode cJ2_indexOfSupplementary_4cfef 32 = .ok (.isub, 1) := by decide +kernel
theorem dJ2_indexOfSupplementary_4cfef_33 : decode cJ2_indexOfSupplementary_4cfef 33 = .ok (.if_icmp .ge 36, 3) := by decide +kernel
theorem dJ2_indexOfSupplementary_4cfef_36 : decode cJ2_indexOfSupplementary_4cfef 36 = .ok (.aload_n 0, 1) := by decide +kernel
theorem dJ2_indexOfSupplementary_4cfef_37 : decode cJ2_indexOfSupplementary_4cfef 37 = .ok (.iload 6, 2) := by decide +kernel
theorem dJ2_indexOfSupplementary_4cfef_39 : decode cJ2_indexOfSupplementary_4cfef 39 = .ok (.invokestatic 71, 3) := by decide +kernel
theorem dJ2_indexOfSupplementary_4cfef_42 : decode cJ2_indexOfSupplementary_4cfef 42 = .ok (.iload 4, 2) := by decide +kernel
theorem dJ2_indexOfSupplementary_4cfef_44 : decode cJ2_indexOfSupplementary_4cfef 44 = .ok (.if_icmp .ne 19, 3) := by decide +kernel
theorem dJ2_indexOfSupplementary_4cfef_47 : decode cJ2_indexOfSupplementary_4cfef 47 = .ok (.aload_n 0, 1) := by decide +kernel
theorem dJ2_indexOfSupplementary_4cfef_48 : decode cJ2_indexOfSupplementary_4cfef 48 = .ok (.iload 6, 2) := by decide +kernel
theorem dJ2_indexOfSupplementary_4cfef_50 : decode cJ2_indexOfSupplementary_4cfef 50 = .ok (.iconst 1, 1) := by decide +kernel
theorem dJ2_indexOfSupplementary_4cfef_51 : decode cJ2_indexOfSupplementary_4cfef 51 = .ok (.iadd, 1) := by decide +kernel
theorem dJ2_indexOfSupplementary_4cfef_52 : decode cJ2_indexOfSupplementary_4cfef 52 = .ok (.invokestatic 71, 3) := by decide +kernel
theorem dJ2_indexOfSupplementary_4cfef_55 : decode cJ2_indexOfSupplementary_4cfef 55 = .ok (.iload 5, 2) := by decide +kernel
theorem dJ2_indexOfSupplementary_4cfef_57 : decode cJ2_indexOfSupplementary_4cfef 57 = .ok (.if_icmp .ne 6, 3) := by decide +kernel
theorem dJ2_indexOfSupplementary_4cfef_60 : decode cJ2_indexOfSupplementary_4cfef 60 = .ok (.iload 6, 2) := by decide +kernel
theorem dJ2_indexOfSupplementary_4cfef_62 : decode cJ2_indexOfSupplementary_4cfef 62 = .ok (.ireturn, 1) := by decide +kernel
theorem dJ2_indexOfSupplementary_4cfef_63 : decode cJ2_indexOfSupplementary_4cfef 63 = .ok (.iinc 6 1, 3) := by decide +kernel
theorem dJ2_indexOfSupplementary_4cfef_66 : decode cJ2_indexOfSupplementary_4cfef 66 = .ok (.goto (-38), 3) := by decide +kernel
theorem dJ2_indexOfSupplementary_4cfef_69 : decode cJ2_indexOfSupplementary_4cfef 69 = .ok (.iconst (-1), 1) := by decide +kernel
theorem dJ2_indexOfSupplementary_4cfef_70 : decode cJ2_indexOfSupplementary_4cfef 70 = .ok (.ireturn, 1) := by decide +kernel
theorem dJ2_checkBoundsBeginEnd_d044e_0 : decode cJ2_checkBoundsBeginEnd_d044e 0 = .ok (.iload_n 0, 1) := by decide +kernel
theorem dJ2_checkBoundsBeginEnd_d044e_1 : decode cJ2_checkBoundsBeginEnd_d044e 1 = .ok (.iload_n 1, 1) := by decide +kernel
theorem dJ2_checkBoundsBeginEnd_d044e_2 : decode cJ2_checkBoundsBeginEnd_d044e 2 = .ok (.aload_n 2, 1) := by decide +kernel
theorem dJ2_checkBoundsBeginEnd_d044e_3 : decode cJ2_checkBoundsBeginEnd_d044e 3 = .ok (.invokestatic 48, 3) := by decide +kernel
theorem dJ2_checkBoundsBeginEnd_d044e_6 : decode cJ2_checkBoundsBeginEnd_d044e 6 = .ok (.invokestatic 241, 3) := by decide +kernel
theorem dJ2_checkBoundsBeginEnd_d044e_9 : decode cJ2_checkBoundsBeginEnd_d044e 9 = .ok (.return_, 1) := by decide +kernel
theorem dJ3_checkFromToIndex_8c36e_0 : decode cJ3_checkFromToIndex_8c36e 0 = .ok (.iload_n 0, 1) := by decide +kernel
theorem dJ3_checkFromToIndex_8c36e_1 : decode cJ3_checkFromToIndex_8c36e 1 = .ok (.ifCond .lt 13, 3) := by decide +kernel
theorem dJ3_checkFromToIndex_8c36e_4 : decode cJ3_checkFromToIndex_8c36e 4 = .ok (.iload_n 0, 1) := by decide +kernel
theorem dJ3_checkFromToIndex_8c36e_5 : decode cJ3_checkFromToIndex_8c36e 5 = .ok (.iload_n 1, 1) := by decide +kernel
theorem dJ3_checkFromToIndex_8c36e_6 : decode cJ3_checkFromToIndex_8c36e 6 = .ok (.if_icmp .gt 8, 3) := by decide +kernel
theorem dJ3_checkFromToIndex_8c36e_9 : decode cJ3_checkFromToIndex_8c36e 9 = .ok (.iload_n 1, 1) := by decide +kernel
theorem dJ3_checkFromToIndex_8c36e_10 : decode cJ3_checkFromToIndex_8c36e 10 = .ok (.iload_n 2, 1) := by decide +kernel
theorem dJ3_checkFromToIndex_8c36e_11 : decode cJ3_checkFromToIndex_8c36e 11 = .ok (.if_icmp .le 11, 3) := by decide +kernel
theorem dJ3_checkFromToIndex_8c36e_14 : decode cJ3_checkFromToIndex_8c36e 14 = .ok (.aload_n 3, 1) := by decide +kernel
theorem dJ3_checkFromToIndex_8c36e_15 : decode cJ3_checkFromToIndex_8c36e 15 = .ok (.iload_n 0, 1) := by decide +kernel
theorem dJ3_checkFromToIndex_8c36e_16 : decode cJ3_checkFromToIndex_8c36e 16 = .ok (.iload_n 1, 1) := by decide +kernel
theorem dJ3_checkFromToIndex_8c36e_17 : decode cJ3_checkFromToIndex_8c36e 17 = .ok (.iload_n 2, 1) := by decide +kernel
theorem dJ3_checkFromToIndex_8c36e_18 : decode cJ3_checkFromToIndex_8c36e 18 = .ok (.invokestatic 99, 3) := by decide +kernel
theorem dJ3_checkFromToIndex_8c36e_21 : decode cJ3_checkFromToIndex_8c36e 21 = .ok (.athrow, 1) := by decide +kernel
theorem dJ3_checkFromToIndex_8c36e_22 : decode cJ3_checkFromToIndex_8c36e 22 = .ok (.iload_n 0, 1) := by decide +kernel
theorem dJ3_checkFromToIndex_8c36e_23 : decode cJ3_checkFromToIndex_8c36e 23 = .ok (.ireturn, 1) := by decide +kernel
