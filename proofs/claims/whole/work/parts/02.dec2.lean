theorem dX5_init_53 : decode cX5_init 53 = .ok (.bipush 30, 2) := by decide +kernel
theorem dX5_init_55 : decode cX5_init 55 = .ok (.newarray .int, 2) := by decide +kernel
theorem dX5_init_57 : decode cX5_init 57 = .ok (.putfield 27, 3) := by decide +kernel
theorem dX5_init_60 : decode cX5_init 60 = .ok (.aload_n 0, 1) := by decide +kernel
theorem dX5_init_61 : decode cX5_init 61 = .ok (.bipush 60, 2) := by decide +kernel
theorem dX5_init_63 : decode cX5_init 63 = .ok (.newarray .int, 2) := by decide +kernel
theorem dX5_init_65 : decode cX5_init 65 = .ok (.putfield 30, 3) := by decide +kernel
theorem dX5_init_68 : decode cX5_init 68 = .ok (.aload_n 0, 1) := by decide +kernel
theorem dX5_init_69 : decode cX5_init 69 = .ok (.bipush 60, 2) := by decide +kernel
theorem dX5_init_71 : decode cX5_init 71 = .ok (.newarray .int, 2) := by decide +kernel
theorem dX5_init_73 : decode cX5_init 73 = .ok (.putfield 33, 3) := by decide +kernel
theorem dX5_init_76 : decode cX5_init 76 = .ok (.aload_n 0, 1) := by decide +kernel
theorem dX5_init_77 : decode cX5_init 77 = .ok (.getfield 9, 3) := by decide +kernel
theorem dX5_init_80 : decode cX5_init 80 = .ok (.iconst 0, 1) := by decide +kernel
theorem dX5_init_81 : decode cX5_init 81 = .ok (.bipush 70, 2) := by decide +kernel
theorem dX5_init_83 : decode cX5_init 83 = .ok (.iastore, 1) := by decide +kernel
theorem dX5_init_84 : decode cX5_init 84 = .ok (.return_, 1) := by decide +kernel
theorem dX5_isBetween_0 : decode cX5_isBetween 0 = .ok (.iload_n 0, 1) := by decide +kernel
theorem dX5_isBetween_1 : decode cX5_isBetween 1 = .ok (.iload_n 1, 1) := by decide +kernel
theorem dX5_isBetween_2 : decode cX5_isBetween 2 = .ok (.if_icmp .lt 12, 3) := by decide +kernel
theorem dX5_isBetween_5 : decode cX5_isBetween 5 = .ok (.iload_n 0, 1) := by decide +kernel
theorem dX5_isBetween_6 : decode cX5_isBetween 6 = .ok (.iload_n 2, 1) := by decide +kernel
theorem dX5_isBetween_7 : decode cX5_isBetween 7 = .ok (.if_icmp .gt 7, 3) := by decide +kernel
theorem dX5_isBetween_10 : decode cX5_isBetween 10 = .ok (.iconst 1, 1) := by decide +kernel
theorem dX5_isBetween_11 : decode cX5_isBetween 11 = .ok (.goto 4, 3) := by decide +kernel
theorem dX5_isBetween_14 : decode cX5_isBetween 14 = .ok (.iconst 0, 1) := by decide +kernel
theorem dX5_isBetween_15 : decode cX5_isBetween 15 = .ok (.ireturn, 1) := by decide +kernel
theorem dX5_copyRow_0 : decode cX5_copyRow 0 = .ok (.iconst 0, 1) := by decide +kernel
theorem dX5_copyRow_1 : decode cX5_copyRow 1 = .ok (.istore_n 2, 1) := by decide +kernel
theorem dX5_copyRow_2 : decode cX5_copyRow 2 = .ok (.iload_n 2, 1) := by decide +kernel
theorem dX5_copyRow_3 : decode cX5_copyRow 3 = .ok (.sipush 373, 3) := by decide +kernel
theorem dX5_copyRow_6 : decode cX5_copyRow 6 = .ok (.if_icmp .ge 15, 3) := by decide +kernel
theorem dX5_copyRow_9 : decode cX5_copyRow 9 = .ok (.aload_n 1, 1) := by decide +kernel
theorem dX5_copyRow_10 : decode cX5_copyRow 10 = .ok (.iload_n 2, 1) := by decide +kernel
theorem dX5_copyRow_11 : decode cX5_copyRow 11 = .ok (.aload_n 0, 1) := by decide +kernel
theorem dX5_copyRow_12 : decode cX5_copyRow 12 = .ok (.iload_n 2, 1) := by decide +kernel
theorem dX5_copyRow_13 : decode cX5_copyRow 13 = .ok (.iaload, 1) := by decide +kernel
theorem dX5_copyRow_14 : decode cX5_copyRow 14 = .ok (.iastore, 1) := by decide +kernel
theorem dX5_copyRow_15 : decode cX5_copyRow 15 = .ok (.iinc 2 1, 3) := by decide +kernel
theorem dX5_copyRow_18 : decode cX5_copyRow 18 = .ok (.goto (-16), 3) := by decide +kernel
theorem dX5_copyRow_21 : decode cX5_copyRow 21 = .ok (.return_, 1) := by decide +kernel
theorem dX5_refuse_0 : decode cX5_refuse 0 = .ok (.iload_n 1, 1) := by decide +kernel
theorem dX5_refuse_1 : decode cX5_refuse 1 = .ok (.ifCond .eq 13, 3) := by decide +kernel
theorem dX5_refuse_4 : decode cX5_refuse 4 = .ok (.aload_n 0, 1) := by decide +kernel
theorem dX5_refuse_5 : decode cX5_refuse 5 = .ok (.iload_n 2, 1) := by decide +kernel
theorem dX5_refuse_6 : decode cX5_refuse 6 = .ok (.putfield 36, 3) := by decide +kernel
theorem dX5_refuse_9 : decode cX5_refuse 9 = .ok (.aload_n 0, 1) := by decide +kernel
theorem dX5_refuse_10 : decode cX5_refuse 10 = .ok (.iload_n 3, 1) := by decide +kernel
theorem dX5_refuse_11 : decode cX5_refuse 11 = .ok (.putfield 40, 3) := by decide +kernel
theorem dX5_refuse_14 : decode cX5_refuse 14 = .ok (.iload_n 1, 1) := by decide +kernel
theorem dX5_refuse_15 : decode cX5_refuse 15 = .ok (.ireturn, 1) := by decide +kernel
theorem dX5_remember_0 : decode cX5_remember 0 = .ok (.aload_n 0, 1) := by decide +kernel
theorem dX5_remember_1 : decode cX5_remember 1 = .ok (.getfield 43, 3) := by decide +kernel
theorem dX5_remember_4 : decode cX5_remember 4 = .ok (.bipush 8, 2) := by decide +kernel
theorem dX5_remember_6 : decode cX5_remember 6 = .ok (.if_icmp .ne 46, 3) := by decide +kernel
theorem dX5_remember_9 : decode cX5_remember 9 = .ok (.aload_n 0, 1) := by decide +kernel
theorem dX5_remember_10 : decode cX5_remember 10 = .ok (.dup, 1) := by decide +kernel
theorem dX5_remember_11 : decode cX5_remember 11 = .ok (.getfield 43, 3) := by decide +kernel
theorem dX5_remember_14 : decode cX5_remember 14 = .ok (.iconst 1, 1) := by decide +kernel
theorem dX5_remember_15 : decode cX5_remember 15 = .ok (.isub, 1) := by decide +kernel
theorem dX5_remember_16 : decode cX5_remember 16 = .ok (.putfield 43, 3) := by decide +kernel
theorem dX5_remember_19 : decode cX5_remember 19 = .ok (.iconst 0, 1) := by decide +kernel
theorem dX5_remember_20 : decode cX5_remember 20 = .ok (.istore_n 2, 1) := by decide +kernel
theorem dX5_remember_21 : decode cX5_remember 21 = .ok (.iload_n 2, 1) := by decide +kernel
theorem dX5_remember_22 : decode cX5_remember 22 = .ok (.aload_n 0, 1) := by decide +kernel
theorem dX5_remember_23 : decode cX5_remember 23 = .ok (.getfield 43, 3) := by decide +kernel
theorem dX5_remember_26 : decode cX5_remember 26 = .ok (.if_icmp .ge 26, 3) := by decide +kernel
theorem dX5_remember_29 : decode cX5_remember 29 = .ok (.aload_n 0, 1) := by decide +kernel
theorem dX5_remember_30 : decode cX5_remember 30 = .ok (.getfield 21, 3) := by decide +kernel
theorem dX5_remember_33 : decode cX5_remember 33 = .ok (.iload_n 2, 1) := by decide +kernel
theorem dX5_remember_34 : decode cX5_remember 34 = .ok (.iconst 1, 1) := by decide +kernel
theorem dX5_remember_35 : decode cX5_remember 35 = .ok (.iadd, 1) := by decide +kernel
theorem dX5_remember_36 : decode cX5_remember 36 = .ok (.aaload, 1) := by decide +kernel
theorem dX5_remember_37 : decode cX5_remember 37 = .ok (.aload_n 0, 1) := by decide +kernel
theorem dX5_remember_38 : decode cX5_remember 38 = .ok (.getfield 21, 3) := by decide +kernel
theorem dX5_remember_41 : decode cX5_remember 41 = .ok (.iload_n 2, 1) := by decide +kernel
theorem dX5_remember_42 : decode cX5_remember 42 = .ok (.aaload, 1) := by decide +kernel
theorem dX5_remember_43 : decode cX5_remember 43 = .ok (.invokestatic 46, 3) := by decide +kernel
theorem dX5_remember_46 : decode cX5_remember 46 = .ok (.iinc 2 1, 3) := by decide +kernel
theorem dX5_remember_49 : decode cX5_remember 49 = .ok (.goto (-28), 3) := by decide +kernel
theorem dX5_remember_52 : decode cX5_remember 52 = .ok (.aload_n 1, 1) := by decide +kernel
theorem dX5_remember_53 : decode cX5_remember 53 = .ok (.aload_n 0, 1) := by decide +kernel
theorem dX5_remember_54 : decode cX5_remember 54 = .ok (.getfield 21, 3) := by decide +kernel
theorem dX5_remember_57 : decode cX5_remember 57 = .ok (.aload_n 0, 1) := by decide +kernel
theorem dX5_remember_58 : decode cX5_remember 58 = .ok (.getfield 43, 3) := by decide +kernel
theorem dX5_remember_61 : decode cX5_remember 61 = .ok (.aaload, 1) := by decide +kernel
theorem dX5_remember_62 : decode cX5_remember 62 = .ok (.invokestatic 46, 3) := by decide +kernel
theorem dX5_remember_65 : decode cX5_remember 65 = .ok (.aload_n 0, 1) := by decide +kernel
theorem dX5_remember_66 : decode cX5_remember 66 = .ok (.dup, 1) := by decide +kernel
theorem dX5_remember_67 : decode cX5_remember 67 = .ok (.getfield 43, 3) := by decide +kernel
theorem dX5_remember_70 : decode cX5_remember 70 = .ok (.iconst 1, 1) := by decide +kernel
theorem dX5_remember_71 : decode cX5_remember 71 = .ok (.iadd, 1) := by decide +kernel
theorem dX5_remember_72 : decode cX5_remember 72 = .ok (.putfield 43, 3) := by decide +kernel
theorem dX5_remember_75 : decode cX5_remember 75 = .ok (.return_, 1) := by decide +kernel
theorem dX5_change_0 : decode cX5_change 0 = .ok (.aload_n 0, 1) := by decide +kernel
theorem dX5_change_1 : decode cX5_change 1 = .ok (.getfield 50, 3) := by decide +kernel
theorem dX5_change_4 : decode cX5_change 4 = .ok (.ifCond .ne 11, 3) := by decide +kernel
theorem dX5_change_7 : decode cX5_change 7 = .ok (.aload_n 0, 1) := by decide +kernel
theorem dX5_change_8 : decode cX5_change 8 = .ok (.aload_n 0, 1) := by decide +kernel
theorem dX5_change_9 : decode cX5_change 9 = .ok (.getfield 9, 3) := by decide +kernel
theorem dX5_change_12 : decode cX5_change 12 = .ok (.invokevirtual 54, 3) := by decide +kernel
theorem dX5_change_15 : decode cX5_change 15 = .ok (.return_, 1) := by decide +kernel
theorem dX5_isRick_0 : decode cX5_isRick 0 = .ok (.iload_n 0, 1) := by decide +kernel
theorem dX5_isRick_1 : decode cX5_isRick 1 = .ok (.iconst 0, 1) := by decide +kernel
theorem dX5_isRick_2 : decode cX5_isRick 2 = .ok (.iconst 2, 1) := by decide +kernel
theorem dX5_isRick_3 : decode cX5_isRick 3 = .ok (.invokestatic 58, 3) := by decide +kernel
theorem dX5_isRick_6 : decode cX5_isRick 6 = .ok (.ireturn, 1) := by decide +kernel
theorem dX5_top_0 : decode cX5_top 0 = .ok (.aload_n 0, 1) := by decide +kernel
theorem dX5_top_1 : decode cX5_top 1 = .ok (.getfield 9, 3) := by decide +kernel
theorem dX5_top_4 : decode cX5_top 4 = .ok (.bipush 7, 2) := by decide +kernel
theorem dX5_top_6 : decode cX5_top 6 = .ok (.bipush 122, 2) := by decide +kernel
theorem dX5_top_8 : decode cX5_top 8 = .ok (.iload_n 1, 1) := by decide +kernel
theorem dX5_top_9 : decode cX5_top 9 = .ok (.imul, 1) := by decide +kernel
theorem dX5_top_10 : decode cX5_top 10 = .ok (.iadd, 1) := by decide +kernel
theorem dX5_top_11 : decode cX5_top 11 = .ok (.iaload, 1) := by decide +kernel
theorem dX5_top_12 : decode cX5_top 12 = .ok (.iconst 1, 1) := by decide +kernel
theorem dX5_top_13 : decode cX5_top 13 = .ok (.isub, 1) := by decide +kernel
theorem dX5_top_14 : decode cX5_top 14 = .ok (.ireturn, 1) := by decide +kernel
theorem dX5_most_0 : decode cX5_most 0 = .ok (.aload_n 0, 1) := by decide +kernel
theorem dX5_most_1 : decode cX5_most 1 = .ok (.getfield 9, 3) := by decide +kernel
theorem dX5_most_4 : decode cX5_most 4 = .ok (.bipush 7, 2) := by decide +kernel
theorem dX5_most_6 : decode cX5_most 6 = .ok (.bipush 122, 2) := by decide +kernel
theorem dX5_most_8 : decode cX5_most 8 = .ok (.iload_n 1, 1) := by decide +kernel
theorem dX5_most_9 : decode cX5_most 9 = .ok (.imul, 1) := by decide +kernel
theorem dX5_most_10 : decode cX5_most 10 = .ok (.iadd, 1) := by decide +kernel
theorem dX5_most_11 : decode cX5_most 11 = .ok (.iconst 1, 1) := by decide +kernel
theorem dX5_most_12 : decode cX5_most 12 = .ok (.iadd, 1) := by decide +kernel
theorem dX5_most_13 : decode cX5_most 13 = .ok (.iaload, 1) := by decide +kernel
theorem dX5_most_14 : decode cX5_most 14 = .ok (.ireturn, 1) := by decide +kernel
theorem dX5_setTop_0 : decode cX5_setTop 0 = .ok (.aload_n 0, 1) := by decide +kernel
theorem dX5_setTop_1 : decode cX5_setTop 1 = .ok (.getfield 9, 3) := by decide +kernel
theorem dX5_setTop_4 : decode cX5_setTop 4 = .ok (.bipush 7, 2) := by decide +kernel
theorem dX5_setTop_6 : decode cX5_setTop 6 = .ok (.bipush 122, 2) := by decide +kernel
theorem dX5_setTop_8 : decode cX5_setTop 8 = .ok (.iload_n 1, 1) := by decide +kernel
theorem dX5_setTop_9 : decode cX5_setTop 9 = .ok (.imul, 1) := by decide +kernel
theorem dX5_setTop_10 : decode cX5_setTop 10 = .ok (.iadd, 1) := by decide +kernel
theorem dX5_setTop_11 : decode cX5_setTop 11 = .ok (.iload_n 2, 1) := by decide +kernel
theorem dX5_setTop_12 : decode cX5_setTop 12 = .ok (.iconst 1, 1) := by decide +kernel
theorem dX5_setTop_13 : decode cX5_setTop 13 = .ok (.iadd, 1) := by decide +kernel
theorem dX5_setTop_14 : decode cX5_setTop 14 = .ok (.iastore, 1) := by decide +kernel
theorem dX5_setTop_15 : decode cX5_setTop 15 = .ok (.return_, 1) := by decide +kernel
theorem dX5_setMost_0 : decode cX5_setMost 0 = .ok (.aload_n 0, 1) := by decide +kernel
theorem dX5_setMost_1 : decode cX5_setMost 1 = .ok (.getfield 9, 3) := by decide +kernel
theorem dX5_setMost_4 : decode cX5_setMost 4 = .ok (.bipush 7, 2) := by decide +kernel
theorem dX5_setMost_6 : decode cX5_setMost 6 = .ok (.bipush 122, 2) := by decide +kernel
theorem dX5_setMost_8 : decode cX5_setMost 8 = .ok (.iload_n 1, 1) := by decide +kernel
theorem dX5_setMost_9 : decode cX5_setMost 9 = .ok (.imul, 1) := by decide +kernel
theorem dX5_setMost_10 : decode cX5_setMost 10 = .ok (.iadd, 1) := by decide +kernel
theorem dX5_setMost_11 : decode cX5_setMost 11 = .ok (.iconst 1, 1) := by decide +kernel
theorem dX5_setMost_12 : decode cX5_setMost 12 = .ok (.iadd, 1) := by decide +kernel
theorem dX5_setMost_13 : decode cX5_setMost 13 = .ok (.iload_n 2, 1) := by decide +kernel
theorem dX5_setMost_14 : decode cX5_setMost 14 = .ok (.iastore, 1) := by decide +kernel
theorem dX5_setMost_15 : decode cX5_setMost 15 = .ok (.return_, 1) := by decide +kernel
theorem dX5_of_0 : decode cX5_of 0 = .ok (.aload_n 0, 1) := by decide +kernel
theorem dX5_of_1 : decode cX5_of 1 = .ok (.getfield 9, 3) := by decide +kernel
theorem dX5_of_4 : decode cX5_of 4 = .ok (.bipush 7, 2) := by decide +kernel
theorem dX5_of_6 : decode cX5_of 6 = .ok (.bipush 122, 2) := by decide +kernel
theorem dX5_of_8 : decode cX5_of 8 = .ok (.iload_n 1, 1) := by decide +kernel
theorem dX5_of_9 : decode cX5_of 9 = .ok (.imul, 1) := by decide +kernel
theorem dX5_of_10 : decode cX5_of 10 = .ok (.iadd, 1) := by decide +kernel
theorem dX5_of_11 : decode cX5_of 11 = .ok (.iconst 2, 1) := by decide +kernel
theorem dX5_of_12 : decode cX5_of 12 = .ok (.iadd, 1) := by decide +kernel
theorem dX5_of_13 : decode cX5_of 13 = .ok (.iconst 4, 1) := by decide +kernel
theorem dX5_of_14 : decode cX5_of 14 = .ok (.iload_n 2, 1) := by decide +kernel
theorem dX5_of_15 : decode cX5_of 15 = .ok (.imul, 1) := by decide +kernel
theorem dX5_of_16 : decode cX5_of 16 = .ok (.iadd, 1) := by decide +kernel
theorem dX5_of_17 : decode cX5_of 17 = .ok (.iload_n 3, 1) := by decide +kernel
theorem dX5_of_18 : decode cX5_of 18 = .ok (.iadd, 1) := by decide +kernel
theorem dX5_of_19 : decode cX5_of 19 = .ok (.iaload, 1) := by decide +kernel
theorem dX5_of_20 : decode cX5_of 20 = .ok (.iload_n 3, 1) := by decide +kernel
theorem dX5_of_21 : decode cX5_of 21 = .ok (.iconst 1, 1) := by decide +kernel
theorem dX5_of_22 : decode cX5_of 22 = .ok (.if_icmp .ne 7, 3) := by decide +kernel
theorem dX5_of_25 : decode cX5_of 25 = .ok (.iconst 0, 1) := by decide +kernel
theorem dX5_of_26 : decode cX5_of 26 = .ok (.goto 4, 3) := by decide +kernel
theorem dX5_of_29 : decode cX5_of 29 = .ok (.iconst 1, 1) := by decide +kernel
theorem dX5_of_30 : decode cX5_of 30 = .ok (.isub, 1) := by decide +kernel
theorem dX5_of_31 : decode cX5_of 31 = .ok (.ireturn, 1) := by decide +kernel
theorem dX5_put_0 : decode cX5_put 0 = .ok (.aload_n 0, 1) := by decide +kernel
theorem dX5_put_1 : decode cX5_put 1 = .ok (.getfield 9, 3) := by decide +kernel
theorem dX5_put_4 : decode cX5_put 4 = .ok (.bipush 7, 2) := by decide +kernel
theorem dX5_put_6 : decode cX5_put 6 = .ok (.bipush 122, 2) := by decide +kernel
theorem dX5_put_8 : decode cX5_put 8 = .ok (.iload_n 1, 1) := by decide +kernel
theorem dX5_put_9 : decode cX5_put 9 = .ok (.imul, 1) := by decide +kernel
theorem dX5_put_10 : decode cX5_put 10 = .ok (.iadd, 1) := by decide +kernel
theorem dX5_put_11 : decode cX5_put 11 = .ok (.iconst 2, 1) := by decide +kernel
theorem dX5_put_12 : decode cX5_put 12 = .ok (.iadd, 1) := by decide +kernel
theorem dX5_put_13 : decode cX5_put 13 = .ok (.iconst 4, 1) := by decide +kernel
theorem dX5_put_14 : decode cX5_put 14 = .ok (.iload_n 2, 1) := by decide +kernel
theorem dX5_put_15 : decode cX5_put 15 = .ok (.imul, 1) := by decide +kernel
theorem dX5_put_16 : decode cX5_put 16 = .ok (.iadd, 1) := by decide +kernel
theorem dX5_put_17 : decode cX5_put 17 = .ok (.iload_n 3, 1) := by decide +kernel
theorem dX5_put_18 : decode cX5_put 18 = .ok (.iadd, 1) := by decide +kernel
theorem dX5_put_19 : decode cX5_put 19 = .ok (.iload 4, 2) := by decide +kernel
theorem dX5_put_21 : decode cX5_put 21 = .ok (.iload_n 3, 1) := by decide +kernel
theorem dX5_put_22 : decode cX5_put 22 = .ok (.iconst 1, 1) := by decide +kernel
theorem dX5_put_23 : decode cX5_put 23 = .ok (.if_icmp .ne 7, 3) := by decide +kernel
theorem dX5_put_26 : decode cX5_put 26 = .ok (.iconst 0, 1) := by decide +kernel
theorem dX5_put_27 : decode cX5_put 27 = .ok (.goto 4, 3) := by decide +kernel
theorem dX5_put_30 : decode cX5_put 30 = .ok (.iconst 1, 1) := by decide +kernel
theorem dX5_put_31 : decode cX5_put 31 = .ok (.iadd, 1) := by decide +kernel
theorem dX5_put_32 : decode cX5_put 32 = .ok (.iastore, 1) := by decide +kernel
theorem dX5_put_33 : decode cX5_put 33 = .ok (.return_, 1) := by decide +kernel
theorem dX5_size_0 : decode cX5_size 0 = .ok (.iload_n 2, 1) := by decide +kernel
theorem dX5_size_1 : decode cX5_size 1 = .ok (.ifCond .ge 7, 3) := by decide +kernel
theorem dX5_size_4 : decode cX5_size 4 = .ok (.iconst 0, 1) := by decide +kernel
theorem dX5_size_5 : decode cX5_size 5 = .ok (.goto 30, 3) := by decide +kernel
theorem dX5_size_8 : decode cX5_size 8 = .ok (.iconst 1, 1) := by decide +kernel
theorem dX5_size_9 : decode cX5_size 9 = .ok (.aload_n 0, 1) := by decide +kernel
theorem dX5_size_10 : decode cX5_size 10 = .ok (.iload_n 1, 1) := by decide +kernel
theorem dX5_size_11 : decode cX5_size 11 = .ok (.aload_n 0, 1) := by decide +kernel
theorem dX5_size_12 : decode cX5_size 12 = .ok (.iload_n 1, 1) := by decide +kernel
theorem dX5_size_13 : decode cX5_size 13 = .ok (.iload_n 2, 1) := by decide +kernel
theorem dX5_size_14 : decode cX5_size 14 = .ok (.iconst 2, 1) := by decide +kernel
theorem dX5_size_15 : decode cX5_size 15 = .ok (.invokevirtual 62, 3) := by decide +kernel
theorem dX5_size_18 : decode cX5_size 18 = .ok (.invokevirtual 66, 3) := by decide +kernel
theorem dX5_size_21 : decode cX5_size 21 = .ok (.iadd, 1) := by decide +kernel
theorem dX5_size_22 : decode cX5_size 22 = .ok (.aload_n 0, 1) := by decide +kernel
theorem dX5_size_23 : decode cX5_size 23 = .ok (.iload_n 1, 1) := by decide +kernel
theorem dX5_size_24 : decode cX5_size 24 = .ok (.aload_n 0, 1) := by decide +kernel
theorem dX5_size_25 : decode cX5_size 25 = .ok (.iload_n 1, 1) := by decide +kernel
theorem dX5_size_26 : decode cX5_size 26 = .ok (.iload_n 2, 1) := by decide +kernel
theorem dX5_size_27 : decode cX5_size 27 = .ok (.iconst 3, 1) := by decide +kernel
theorem dX5_size_28 : decode cX5_size 28 = .ok (.invokevirtual 62, 3) := by decide +kernel
theorem dX5_size_31 : decode cX5_size 31 = .ok (.invokevirtual 66, 3) := by decide +kernel
theorem dX5_size_34 : decode cX5_size 34 = .ok (.iadd, 1) := by decide +kernel
theorem dX5_size_35 : decode cX5_size 35 = .ok (.ireturn, 1) := by decide +kernel
theorem dX5_loads_0 : decode cX5_loads 0 = .ok (.iload_n 2, 1) := by decide +kernel
theorem dX5_loads_1 : decode cX5_loads 1 = .ok (.ifCond .ge 7, 3) := by decide +kernel
theorem dX5_loads_4 : decode cX5_loads 4 = .ok (.iconst 0, 1) := by decide +kernel
theorem dX5_loads_5 : decode cX5_loads 5 = .ok (.goto 36, 3) := by decide +kernel
theorem dX5_loads_8 : decode cX5_loads 8 = .ok (.aload_n 0, 1) := by decide +kernel
theorem dX5_loads_9 : decode cX5_loads 9 = .ok (.iload_n 1, 1) := by decide +kernel
theorem dX5_loads_10 : decode cX5_loads 10 = .ok (.iload_n 2, 1) := by decide +kernel
theorem dX5_loads_11 : decode cX5_loads 11 = .ok (.iconst 1, 1) := by decide +kernel
theorem dX5_loads_12 : decode cX5_loads 12 = .ok (.invokevirtual 62, 3) := by decide +kernel
theorem dX5_loads_15 : decode cX5_loads 15 = .ok (.aload_n 0, 1) := by decide +kernel
theorem dX5_loads_16 : decode cX5_loads 16 = .ok (.iload_n 1, 1) := by decide +kernel
theorem dX5_loads_17 : decode cX5_loads 17 = .ok (.aload_n 0, 1) := by decide +kernel
theorem dX5_loads_18 : decode cX5_loads 18 = .ok (.iload_n 1, 1) := by decide +kernel
theorem dX5_loads_19 : decode cX5_loads 19 = .ok (.iload_n 2, 1) := by decide +kernel
theorem dX5_loads_20 : decode cX5_loads 20 = .ok (.iconst 2, 1) := by decide +kernel
theorem dX5_loads_21 : decode cX5_loads 21 = .ok (.invokevirtual 62, 3) := by decide +kernel
theorem dX5_loads_24 : decode cX5_loads 24 = .ok (.invokevirtual 70, 3) := by decide +kernel
theorem dX5_loads_27 : decode cX5_loads 27 = .ok (.iadd, 1) := by decide +kernel
theorem dX5_loads_28 : decode cX5_loads 28 = .ok (.aload_n 0, 1) := by decide +kernel
theorem dX5_loads_29 : decode cX5_loads 29 = .ok (.iload_n 1, 1) := by decide +kernel
theorem dX5_loads_30 : decode cX5_loads 30 = .ok (.aload_n 0, 1) := by decide +kernel
theorem dX5_loads_31 : decode cX5_loads 31 = .ok (.iload_n 1, 1) := by decide +kernel
theorem dX5_loads_32 : decode cX5_loads 32 = .ok (.iload_n 2, 1) := by decide +kernel
theorem dX5_loads_33 : decode cX5_loads 33 = .ok (.iconst 3, 1) := by decide +kernel
theorem dX5_loads_34 : decode cX5_loads 34 = .ok (.invokevirtual 62, 3) := by decide +kernel
theorem dX5_loads_37 : decode cX5_loads 37 = .ok (.invokevirtual 70, 3) := by decide +kernel
theorem dX5_loads_40 : decode cX5_loads 40 = .ok (.iadd, 1) := by decide +kernel
theorem dX5_loads_41 : decode cX5_loads 41 = .ok (.ireturn, 1) := by decide +kernel
theorem dX5_count_0 : decode cX5_count 0 = .ok (.aload_n 0, 1) := by decide +kernel
theorem dX5_count_1 : decode cX5_count 1 = .ok (.iload_n 1, 1) := by decide +kernel
theorem dX5_count_2 : decode cX5_count 2 = .ok (.aload_n 0, 1) := by decide +kernel
theorem dX5_count_3 : decode cX5_count 3 = .ok (.iload_n 1, 1) := by decide +kernel
theorem dX5_count_4 : decode cX5_count 4 = .ok (.invokevirtual 73, 3) := by decide +kernel
theorem dX5_count_7 : decode cX5_count 7 = .ok (.invokevirtual 66, 3) := by decide +kernel
theorem dX5_count_10 : decode cX5_count 10 = .ok (.ireturn, 1) := by decide +kernel
theorem dX5_find_0 : decode cX5_find 0 = .ok (.aload_n 0, 1) := by decide +kernel
theorem dX5_find_1 : decode cX5_find 1 = .ok (.iload_n 1, 1) := by decide +kernel
theorem dX5_find_2 : decode cX5_find 2 = .ok (.invokevirtual 73, 3) := by decide +kernel
theorem dX5_find_5 : decode cX5_find 5 = .ok (.istore_n 3, 1) := by decide +kernel
theorem dX5_find_6 : decode cX5_find 6 = .ok (.iload_n 3, 1) := by decide +kernel
theorem dX5_find_7 : decode cX5_find 7 = .ok (.ifCond .lt 40, 3) := by decide +kernel
theorem dX5_find_10 : decode cX5_find 10 = .ok (.aload_n 0, 1) := by decide +kernel
theorem dX5_find_11 : decode cX5_find 11 = .ok (.iload_n 1, 1) := by decide +kernel
theorem dX5_find_12 : decode cX5_find 12 = .ok (.iload_n 3, 1) := by decide +kernel
theorem dX5_find_13 : decode cX5_find 13 = .ok (.iconst 0, 1) := by decide +kernel
theorem dX5_find_14 : decode cX5_find 14 = .ok (.invokevirtual 62, 3) := by decide +kernel
theorem dX5_find_17 : decode cX5_find 17 = .ok (.iload_n 2, 1) := by decide +kernel
theorem dX5_find_18 : decode cX5_find 18 = .ok (.if_icmp .eq 29, 3) := by decide +kernel
theorem dX5_find_21 : decode cX5_find 21 = .ok (.aload_n 0, 1) := by decide +kernel
theorem dX5_find_22 : decode cX5_find 22 = .ok (.iload_n 1, 1) := by decide +kernel
theorem dX5_find_23 : decode cX5_find 23 = .ok (.iload_n 3, 1) := by decide +kernel
theorem dX5_find_24 : decode cX5_find 24 = .ok (.iload_n 2, 1) := by decide +kernel
theorem dX5_find_25 : decode cX5_find 25 = .ok (.aload_n 0, 1) := by decide +kernel
theorem dX5_find_26 : decode cX5_find 26 = .ok (.iload_n 1, 1) := by decide +kernel
theorem dX5_find_27 : decode cX5_find 27 = .ok (.iload_n 3, 1) := by decide +kernel
theorem dX5_find_28 : decode cX5_find 28 = .ok (.iconst 0, 1) := by decide +kernel
theorem dX5_find_29 : decode cX5_find 29 = .ok (.invokevirtual 62, 3) := by decide +kernel
theorem dX5_find_32 : decode cX5_find 32 = .ok (.if_icmp .ge 7, 3) := by decide +kernel
theorem dX5_find_35 : decode cX5_find 35 = .ok (.iconst 2, 1) := by decide +kernel
theorem dX5_find_36 : decode cX5_find 36 = .ok (.goto 4, 3) := by decide +kernel
theorem dX5_find_39 : decode cX5_find 39 = .ok (.iconst 3, 1) := by decide +kernel
theorem dX5_find_40 : decode cX5_find 40 = .ok (.invokevirtual 62, 3) := by decide +kernel
theorem dX5_find_43 : decode cX5_find 43 = .ok (.istore_n 3, 1) := by decide +kernel
theorem dX5_find_44 : decode cX5_find 44 = .ok (.goto (-38), 3) := by decide +kernel
theorem dX5_find_47 : decode cX5_find 47 = .ok (.iload_n 3, 1) := by decide +kernel
theorem dX5_find_48 : decode cX5_find 48 = .ok (.ireturn, 1) := by decide +kernel
theorem dX5_above_0 : decode cX5_above 0 = .ok (.aload_n 0, 1) := by decide +kernel
theorem dX5_above_1 : decode cX5_above 1 = .ok (.iload_n 1, 1) := by decide +kernel
theorem dX5_above_2 : decode cX5_above 2 = .ok (.invokevirtual 73, 3) := by decide +kernel
theorem dX5_above_5 : decode cX5_above 5 = .ok (.istore_n 3, 1) := by decide +kernel
theorem dX5_above_6 : decode cX5_above 6 = .ok (.iconst (-1), 1) := by decide +kernel
theorem dX5_above_7 : decode cX5_above 7 = .ok (.istore 4, 2) := by decide +kernel
theorem dX5_above_9 : decode cX5_above 9 = .ok (.iload_n 3, 1) := by decide +kernel
theorem dX5_above_10 : decode cX5_above 10 = .ok (.iload_n 2, 1) := by decide +kernel
theorem dX5_above_11 : decode cX5_above 11 = .ok (.if_icmp .eq 38, 3) := by decide +kernel
theorem dX5_above_14 : decode cX5_above 14 = .ok (.iload_n 3, 1) := by decide +kernel
theorem dX5_above_15 : decode cX5_above 15 = .ok (.istore 4, 2) := by decide +kernel
theorem dX5_above_17 : decode cX5_above 17 = .ok (.aload_n 0, 1) := by decide +kernel
theorem dX5_above_18 : decode cX5_above 18 = .ok (.iload_n 1, 1) := by decide +kernel
theorem dX5_above_19 : decode cX5_above 19 = .ok (.iload_n 3, 1) := by decide +kernel
theorem dX5_above_20 : decode cX5_above 20 = .ok (.aload_n 0, 1) := by decide +kernel
theorem dX5_above_21 : decode cX5_above 21 = .ok (.iload_n 1, 1) := by decide +kernel
theorem dX5_above_22 : decode cX5_above 22 = .ok (.iload_n 2, 1) := by decide +kernel
theorem dX5_above_23 : decode cX5_above 23 = .ok (.iconst 0, 1) := by decide +kernel
theorem dX5_above_24 : decode cX5_above 24 = .ok (.invokevirtual 62, 3) := by decide +kernel
theorem dX5_above_27 : decode cX5_above 27 = .ok (.aload_n 0, 1) := by decide +kernel
theorem dX5_above_28 : decode cX5_above 28 = .ok (.iload_n 1, 1) := by decide +kernel
theorem dX5_above_29 : decode cX5_above 29 = .ok (.iload_n 3, 1) := by decide +kernel
theorem dX5_above_30 : decode cX5_above 30 = .ok (.iconst 0, 1) := by decide +kernel
theorem dX5_above_31 : decode cX5_above 31 = .ok (.invokevirtual 62, 3) := by decide +kernel
theorem dX5_above_34 : decode cX5_above 34 = .ok (.if_icmp .ge 7, 3) := by decide +kernel
theorem dX5_above_37 : decode cX5_above 37 = .ok (.iconst 2, 1) := by decide +kernel
theorem dX5_above_38 : decode cX5_above 38 = .ok (.goto 4, 3) := by decide +kernel
theorem dX5_above_41 : decode cX5_above 41 = .ok (.iconst 3, 1) := by decide +kernel
theorem dX5_above_42 : decode cX5_above 42 = .ok (.invokevirtual 62, 3) := by decide +kernel
theorem dX5_above_45 : decode cX5_above 45 = .ok (.istore_n 3, 1) := by decide +kernel
theorem dX5_above_46 : decode cX5_above 46 = .ok (.goto (-37), 3) := by decide +kernel
theorem dX5_above_49 : decode cX5_above 49 = .ok (.iload 4, 2) := by decide +kernel
theorem dX5_above_51 : decode cX5_above 51 = .ok (.ireturn, 1) := by decide +kernel
theorem dX5_depth_0 : decode cX5_depth 0 = .ok (.iconst 0, 1) := by decide +kernel
theorem dX5_depth_1 : decode cX5_depth 1 = .ok (.istore_n 3, 1) := by decide +kernel
theorem dX5_depth_2 : decode cX5_depth 2 = .ok (.aload_n 0, 1) := by decide +kernel
theorem dX5_depth_3 : decode cX5_depth 3 = .ok (.iload_n 1, 1) := by decide +kernel
theorem dX5_depth_4 : decode cX5_depth 4 = .ok (.iload_n 2, 1) := by decide +kernel
theorem dX5_depth_5 : decode cX5_depth 5 = .ok (.invokevirtual 77, 3) := by decide +kernel
theorem dX5_depth_8 : decode cX5_depth 8 = .ok (.istore 4, 2) := by decide +kernel
theorem dX5_depth_10 : decode cX5_depth 10 = .ok (.iload 4, 2) := by decide +kernel
theorem dX5_depth_12 : decode cX5_depth 12 = .ok (.ifCond .lt 18, 3) := by decide +kernel
theorem dX5_depth_15 : decode cX5_depth 15 = .ok (.iinc 3 1, 3) := by decide +kernel
theorem dX5_depth_18 : decode cX5_depth 18 = .ok (.aload_n 0, 1) := by decide +kernel
theorem dX5_depth_19 : decode cX5_depth 19 = .ok (.iload_n 1, 1) := by decide +kernel
theorem dX5_depth_20 : decode cX5_depth 20 = .ok (.iload 4, 2) := by decide +kernel
theorem dX5_depth_22 : decode cX5_depth 22 = .ok (.invokevirtual 77, 3) := by decide +kernel
theorem dX5_depth_25 : decode cX5_depth 25 = .ok (.istore 4, 2) := by decide +kernel
theorem dX5_depth_27 : decode cX5_depth 27 = .ok (.goto (-17), 3) := by decide +kernel
theorem dX5_depth_30 : decode cX5_depth 30 = .ok (.iload_n 3, 1) := by decide +kernel
theorem dX5_depth_31 : decode cX5_depth 31 = .ok (.ireturn, 1) := by decide +kernel
theorem dX5_leans_0 : decode cX5_leans 0 = .ok (.aload_n 0, 1) := by decide +kernel
theorem dX5_leans_1 : decode cX5_leans 1 = .ok (.iload_n 1, 1) := by decide +kernel
theorem dX5_leans_2 : decode cX5_leans 2 = .ok (.aload_n 0, 1) := by decide +kernel
theorem dX5_leans_3 : decode cX5_leans 3 = .ok (.iload_n 1, 1) := by decide +kernel
theorem dX5_leans_4 : decode cX5_leans 4 = .ok (.iload_n 2, 1) := by decide +kernel
theorem dX5_leans_5 : decode cX5_leans 5 = .ok (.iconst 2, 1) := by decide +kernel
theorem dX5_leans_6 : decode cX5_leans 6 = .ok (.invokevirtual 62, 3) := by decide +kernel
theorem dX5_leans_9 : decode cX5_leans 9 = .ok (.invokevirtual 66, 3) := by decide +kernel
theorem dX5_leans_12 : decode cX5_leans 12 = .ok (.istore_n 3, 1) := by decide +kernel
theorem dX5_leans_13 : decode cX5_leans 13 = .ok (.aload_n 0, 1) := by decide +kernel
theorem dX5_leans_14 : decode cX5_leans 14 = .ok (.iload_n 1, 1) := by decide +kernel
theorem dX5_leans_15 : decode cX5_leans 15 = .ok (.aload_n 0, 1) := by decide +kernel
theorem dX5_leans_16 : decode cX5_leans 16 = .ok (.iload_n 1, 1) := by decide +kernel
theorem dX5_leans_17 : decode cX5_leans 17 = .ok (.iload_n 2, 1) := by decide +kernel
theorem dX5_leans_18 : decode cX5_leans 18 = .ok (.iconst 3, 1) := by decide +kernel
theorem dX5_leans_19 : decode cX5_leans 19 = .ok (.invokevirtual 62, 3) := by decide +kernel
theorem dX5_leans_22 : decode cX5_leans 22 = .ok (.invokevirtual 66, 3) := by decide +kernel
theorem dX5_leans_25 : decode cX5_leans 25 = .ok (.istore 4, 2) := by decide +kernel
theorem dX5_leans_27 : decode cX5_leans 27 = .ok (.iload_n 3, 1) := by decide +kernel
theorem dX5_leans_28 : decode cX5_leans 28 = .ok (.iload 4, 2) := by decide +kernel
theorem dX5_leans_30 : decode cX5_leans 30 = .ok (.iadd, 1) := by decide +kernel
theorem dX5_leans_31 : decode cX5_leans 31 = .ok (.iconst 1, 1) := by decide +kernel
theorem dX5_leans_32 : decode cX5_leans 32 = .ok (.iadd, 1) := by decide +kernel
theorem dX5_leans_33 : decode cX5_leans 33 = .ok (.istore 5, 2) := by decide +kernel
theorem dX5_leans_35 : decode cX5_leans 35 = .ok (.bipush 100, 2) := by decide +kernel
theorem dX5_leans_37 : decode cX5_leans 37 = .ok (.iload_n 3, 1) := by decide +kernel
theorem dX5_leans_38 : decode cX5_leans 38 = .ok (.imul, 1) := by decide +kernel
theorem dX5_leans_39 : decode cX5_leans 39 = .ok (.aload_n 0, 1) := by decide +kernel
theorem dX5_leans_40 : decode cX5_leans 40 = .ok (.getfield 9, 3) := by decide +kernel
theorem dX5_leans_43 : decode cX5_leans 43 = .ok (.iconst 0, 1) := by decide +kernel
theorem dX5_leans_44 : decode cX5_leans 44 = .ok (.iaload, 1) := by decide +kernel
theorem dX5_leans_45 : decode cX5_leans 45 = .ok (.iload 5, 2) := by decide +kernel
theorem dX5_leans_47 : decode cX5_leans 47 = .ok (.imul, 1) := by decide +kernel
theorem dX5_leans_48 : decode cX5_leans 48 = .ok (.if_icmp .gt 20, 3) := by decide +kernel
theorem dX5_leans_51 : decode cX5_leans 51 = .ok (.bipush 100, 2) := by decide +kernel
theorem dX5_leans_53 : decode cX5_leans 53 = .ok (.iload 4, 2) := by decide +kernel
theorem dX5_leans_55 : decode cX5_leans 55 = .ok (.imul, 1) := by decide +kernel
theorem dX5_leans_56 : decode cX5_leans 56 = .ok (.aload_n 0, 1) := by decide +kernel
theorem dX5_leans_57 : decode cX5_leans 57 = .ok (.getfield 9, 3) := by decide +kernel
theorem dX5_leans_60 : decode cX5_leans 60 = .ok (.iconst 0, 1) := by decide +kernel
theorem dX5_leans_61 : decode cX5_leans 61 = .ok (.iaload, 1) := by decide +kernel
theorem dX5_leans_62 : decode cX5_leans 62 = .ok (.iload 5, 2) := by decide +kernel
theorem dX5_leans_64 : decode cX5_leans 64 = .ok (.imul, 1) := by decide +kernel
theorem dX5_leans_65 : decode cX5_leans 65 = .ok (.if_icmp .le 7, 3) := by decide +kernel
theorem dX5_leans_68 : decode cX5_leans 68 = .ok (.iconst 1, 1) := by decide +kernel
theorem dX5_leans_69 : decode cX5_leans 69 = .ok (.goto 4, 3) := by decide +kernel
theorem dX5_leans_72 : decode cX5_leans 72 = .ok (.iconst 0, 1) := by decide +kernel
theorem dX5_leans_73 : decode cX5_leans 73 = .ok (.ireturn, 1) := by decide +kernel
theorem dX5_mayHave_0 : decode cX5_mayHave 0 = .ok (.iconst 0, 1) := by decide +kernel
theorem dX5_mayHave_1 : decode cX5_mayHave 1 = .ok (.istore_n 2, 1) := by decide +kernel
theorem dX5_mayHave_2 : decode cX5_mayHave 2 = .ok (.iload_n 1, 1) := by decide +kernel
theorem dX5_mayHave_3 : decode cX5_mayHave 3 = .ok (.aload_n 0, 1) := by decide +kernel
theorem dX5_mayHave_4 : decode cX5_mayHave 4 = .ok (.getfield 9, 3) := by decide +kernel
theorem dX5_mayHave_7 : decode cX5_mayHave 7 = .ok (.iconst 0, 1) := by decide +kernel
theorem dX5_mayHave_8 : decode cX5_mayHave 8 = .ok (.iaload, 1) := by decide +kernel
theorem dX5_mayHave_9 : decode cX5_mayHave 9 = .ok (.imul, 1) := by decide +kernel
theorem dX5_mayHave_10 : decode cX5_mayHave 10 = .ok (.bipush 100, 2) := by decide +kernel
theorem dX5_mayHave_12 : decode cX5_mayHave 12 = .ok (.idiv, 1) := by decide +kernel
theorem dX5_mayHave_13 : decode cX5_mayHave 13 = .ok (.istore_n 3, 1) := by decide +kernel
theorem dX5_mayHave_14 : decode cX5_mayHave 14 = .ok (.iload_n 3, 1) := by decide +kernel
theorem dX5_mayHave_15 : decode cX5_mayHave 15 = .ok (.ifCond .le 21, 3) := by decide +kernel
theorem dX5_mayHave_18 : decode cX5_mayHave 18 = .ok (.iinc 2 1, 3) := by decide +kernel
theorem dX5_mayHave_21 : decode cX5_mayHave 21 = .ok (.iload_n 3, 1) := by decide +kernel
theorem dX5_mayHave_22 : decode cX5_mayHave 22 = .ok (.aload_n 0, 1) := by decide +kernel
theorem dX5_mayHave_23 : decode cX5_mayHave 23 = .ok (.getfield 9, 3) := by decide +kernel
theorem dX5_mayHave_26 : decode cX5_mayHave 26 = .ok (.iconst 0, 1) := by decide +kernel
theorem dX5_mayHave_27 : decode cX5_mayHave 27 = .ok (.iaload, 1) := by decide +kernel
theorem dX5_mayHave_28 : decode cX5_mayHave 28 = .ok (.imul, 1) := by decide +kernel
theorem dX5_mayHave_29 : decode cX5_mayHave 29 = .ok (.bipush 100, 2) := by decide +kernel
theorem dX5_mayHave_31 : decode cX5_mayHave 31 = .ok (.idiv, 1) := by decide +kernel
theorem dX5_mayHave_32 : decode cX5_mayHave 32 = .ok (.istore_n 3, 1) := by decide +kernel
theorem dX5_mayHave_33 : decode cX5_mayHave 33 = .ok (.goto (-19), 3) := by decide +kernel
theorem dX5_mayHave_36 : decode cX5_mayHave 36 = .ok (.iload_n 2, 1) := by decide +kernel
theorem dX5_mayHave_37 : decode cX5_mayHave 37 = .ok (.ireturn, 1) := by decide +kernel
theorem dX5_listFrom_0 : decode cX5_listFrom 0 = .ok (.iload_n 2, 1) := by decide +kernel
theorem dX5_listFrom_1 : decode cX5_listFrom 1 = .ok (.ifCond .lt 47, 3) := by decide +kernel
theorem dX5_listFrom_4 : decode cX5_listFrom 4 = .ok (.aload_n 0, 1) := by decide +kernel
theorem dX5_listFrom_5 : decode cX5_listFrom 5 = .ok (.iload_n 1, 1) := by decide +kernel
theorem dX5_listFrom_6 : decode cX5_listFrom 6 = .ok (.aload_n 0, 1) := by decide +kernel
theorem dX5_listFrom_7 : decode cX5_listFrom 7 = .ok (.iload_n 1, 1) := by decide +kernel
theorem dX5_listFrom_8 : decode cX5_listFrom 8 = .ok (.iload_n 2, 1) := by decide +kernel
theorem dX5_listFrom_9 : decode cX5_listFrom 9 = .ok (.iconst 2, 1) := by decide +kernel
theorem dX5_listFrom_10 : decode cX5_listFrom 10 = .ok (.invokevirtual 62, 3) := by decide +kernel
theorem dX5_listFrom_13 : decode cX5_listFrom 13 = .ok (.invokevirtual 80, 3) := by decide +kernel
theorem dX5_listFrom_16 : decode cX5_listFrom 16 = .ok (.aload_n 0, 1) := by decide +kernel
theorem dX5_listFrom_17 : decode cX5_listFrom 17 = .ok (.getfield 24, 3) := by decide +kernel
theorem dX5_listFrom_20 : decode cX5_listFrom 20 = .ok (.aload_n 0, 1) := by decide +kernel
theorem dX5_listFrom_21 : decode cX5_listFrom 21 = .ok (.getfield 84, 3) := by decide +kernel
theorem dX5_listFrom_24 : decode cX5_listFrom 24 = .ok (.iload_n 2, 1) := by decide +kernel
theorem dX5_listFrom_25 : decode cX5_listFrom 25 = .ok (.iastore, 1) := by decide +kernel
theorem dX5_listFrom_26 : decode cX5_listFrom 26 = .ok (.aload_n 0, 1) := by decide +kernel
theorem dX5_listFrom_27 : decode cX5_listFrom 27 = .ok (.dup, 1) := by decide +kernel
theorem dX5_listFrom_28 : decode cX5_listFrom 28 = .ok (.getfield 84, 3) := by decide +kernel
theorem dX5_listFrom_31 : decode cX5_listFrom 31 = .ok (.iconst 1, 1) := by decide +kernel
theorem dX5_listFrom_32 : decode cX5_listFrom 32 = .ok (.iadd, 1) := by decide +kernel
theorem dX5_listFrom_33 : decode cX5_listFrom 33 = .ok (.putfield 84, 3) := by decide +kernel
theorem dX5_listFrom_36 : decode cX5_listFrom 36 = .ok (.aload_n 0, 1) := by decide +kernel
theorem dX5_listFrom_37 : decode cX5_listFrom 37 = .ok (.iload_n 1, 1) := by decide +kernel
theorem dX5_listFrom_38 : decode cX5_listFrom 38 = .ok (.aload_n 0, 1) := by decide +kernel
theorem dX5_listFrom_39 : decode cX5_listFrom 39 = .ok (.iload_n 1, 1) := by decide +kernel
theorem dX5_listFrom_40 : decode cX5_listFrom 40 = .ok (.iload_n 2, 1) := by decide +kernel
theorem dX5_listFrom_41 : decode cX5_listFrom 41 = .ok (.iconst 3, 1) := by decide +kernel
theorem dX5_listFrom_42 : decode cX5_listFrom 42 = .ok (.invokevirtual 62, 3) := by decide +kernel
theorem dX5_listFrom_45 : decode cX5_listFrom 45 = .ok (.invokevirtual 80, 3) := by decide +kernel
theorem dX5_listFrom_48 : decode cX5_listFrom 48 = .ok (.return_, 1) := by decide +kernel
theorem dX5_listAll_0 : decode cX5_listAll 0 = .ok (.aload_n 0, 1) := by decide +kernel
theorem dX5_listAll_1 : decode cX5_listAll 1 = .ok (.iconst 0, 1) := by decide +kernel
theorem dX5_listAll_2 : decode cX5_listAll 2 = .ok (.putfield 84, 3) := by decide +kernel
theorem dX5_listAll_5 : decode cX5_listAll 5 = .ok (.aload_n 0, 1) := by decide +kernel
theorem dX5_listAll_6 : decode cX5_listAll 6 = .ok (.iload_n 1, 1) := by decide +kernel
theorem dX5_listAll_7 : decode cX5_listAll 7 = .ok (.aload_n 0, 1) := by decide +kernel
theorem dX5_listAll_8 : decode cX5_listAll 8 = .ok (.iload_n 1, 1) := by decide +kernel
theorem dX5_listAll_9 : decode cX5_listAll 9 = .ok (.invokevirtual 73, 3) := by decide +kernel
theorem dX5_listAll_12 : decode cX5_listAll 12 = .ok (.invokevirtual 80, 3) := by decide +kernel
theorem dX5_listAll_15 : decode cX5_listAll 15 = .ok (.return_, 1) := by decide +kernel
theorem dX5_make_0 : decode cX5_make 0 = .ok (.iload_n 2, 1) := by decide +kernel
theorem dX5_make_1 : decode cX5_make 1 = .ok (.iload_n 3, 1) := by decide +kernel
theorem dX5_make_2 : decode cX5_make 2 = .ok (.if_icmp .le 5, 3) := by decide +kernel
theorem dX5_make_5 : decode cX5_make 5 = .ok (.iconst (-1), 1) := by decide +kernel
theorem dX5_make_6 : decode cX5_make 6 = .ok (.ireturn, 1) := by decide +kernel
theorem dX5_make_7 : decode cX5_make 7 = .ok (.iload_n 2, 1) := by decide +kernel
theorem dX5_make_8 : decode cX5_make 8 = .ok (.iload_n 3, 1) := by decide +kernel
theorem dX5_make_9 : decode cX5_make 9 = .ok (.iadd, 1) := by decide +kernel
theorem dX5_make_10 : decode cX5_make 10 = .ok (.iconst 2, 1) := by decide +kernel
theorem dX5_make_11 : decode cX5_make 11 = .ok (.idiv, 1) := by decide +kernel
theorem dX5_make_12 : decode cX5_make 12 = .ok (.istore 4, 2) := by decide +kernel
theorem dX5_make_14 : decode cX5_make 14 = .ok (.aload_n 0, 1) := by decide +kernel
theorem dX5_make_15 : decode cX5_make 15 = .ok (.getfield 24, 3) := by decide +kernel
theorem dX5_make_18 : decode cX5_make 18 = .ok (.iload 4, 2) := by decide +kernel
theorem dX5_make_20 : decode cX5_make 20 = .ok (.iaload, 1) := by decide +kernel
theorem dX5_make_21 : decode cX5_make 21 = .ok (.istore 5, 2) := by decide +kernel
theorem dX5_make_23 : decode cX5_make 23 = .ok (.aload_n 0, 1) := by decide +kernel
theorem dX5_make_24 : decode cX5_make 24 = .ok (.iload_n 1, 1) := by decide +kernel
theorem dX5_make_25 : decode cX5_make 25 = .ok (.iload 5, 2) := by decide +kernel
theorem dX5_make_27 : decode cX5_make 27 = .ok (.iconst 2, 1) := by decide +kernel
theorem dX5_make_28 : decode cX5_make 28 = .ok (.aload_n 0, 1) := by decide +kernel
theorem dX5_make_29 : decode cX5_make 29 = .ok (.iload_n 1, 1) := by decide +kernel
theorem dX5_make_30 : decode cX5_make 30 = .ok (.iload_n 2, 1) := by decide +kernel
theorem dX5_make_31 : decode cX5_make 31 = .ok (.iload 4, 2) := by decide +kernel
theorem dX5_make_33 : decode cX5_make 33 = .ok (.iconst 1, 1) := by decide +kernel
theorem dX5_make_34 : decode cX5_make 34 = .ok (.isub, 1) := by decide +kernel
theorem dX5_make_35 : decode cX5_make 35 = .ok (.invokevirtual 87, 3) := by decide +kernel
theorem dX5_make_38 : decode cX5_make 38 = .ok (.invokevirtual 90, 3) := by decide +kernel
theorem dX5_make_41 : decode cX5_make 41 = .ok (.aload_n 0, 1) := by decide +kernel
theorem dX5_make_42 : decode cX5_make 42 = .ok (.iload_n 1, 1) := by decide +kernel
theorem dX5_make_43 : decode cX5_make 43 = .ok (.iload 5, 2) := by decide +kernel
theorem dX5_make_45 : decode cX5_make 45 = .ok (.iconst 3, 1) := by decide +kernel
theorem dX5_make_46 : decode cX5_make 46 = .ok (.aload_n 0, 1) := by decide +kernel
theorem dX5_make_47 : decode cX5_make 47 = .ok (.iload_n 1, 1) := by decide +kernel
theorem dX5_make_48 : decode cX5_make 48 = .ok (.iload 4, 2) := by decide +kernel
theorem dX5_make_50 : decode cX5_make 50 = .ok (.iconst 1, 1) := by decide +kernel
theorem dX5_make_51 : decode cX5_make 51 = .ok (.iadd, 1) := by decide +kernel
theorem dX5_make_52 : decode cX5_make 52 = .ok (.iload_n 3, 1) := by decide +kernel
theorem dX5_make_53 : decode cX5_make 53 = .ok (.invokevirtual 87, 3) := by decide +kernel
theorem dX5_make_56 : decode cX5_make 56 = .ok (.invokevirtual 90, 3) := by decide +kernel
theorem dX5_make_59 : decode cX5_make 59 = .ok (.iload 5, 2) := by decide +kernel
theorem dX5_make_61 : decode cX5_make 61 = .ok (.ireturn, 1) := by decide +kernel
theorem dX5_replace_0 : decode cX5_replace 0 = .ok (.iload_n 2, 1) := by decide +kernel
theorem dX5_replace_1 : decode cX5_replace 1 = .ok (.ifCond .ge 13, 3) := by decide +kernel
theorem dX5_replace_4 : decode cX5_replace 4 = .ok (.aload_n 0, 1) := by decide +kernel
theorem dX5_replace_5 : decode cX5_replace 5 = .ok (.iload_n 1, 1) := by decide +kernel
theorem dX5_replace_6 : decode cX5_replace 6 = .ok (.iload 4, 2) := by decide +kernel
theorem dX5_replace_8 : decode cX5_replace 8 = .ok (.invokevirtual 94, 3) := by decide +kernel
theorem dX5_replace_11 : decode cX5_replace 11 = .ok (.goto 27, 3) := by decide +kernel
theorem dX5_replace_14 : decode cX5_replace 14 = .ok (.aload_n 0, 1) := by decide +kernel
theorem dX5_replace_15 : decode cX5_replace 15 = .ok (.iload_n 1, 1) := by decide +kernel
theorem dX5_replace_16 : decode cX5_replace 16 = .ok (.iload_n 2, 1) := by decide +kernel
theorem dX5_replace_17 : decode cX5_replace 17 = .ok (.aload_n 0, 1) := by decide +kernel
theorem dX5_replace_18 : decode cX5_replace 18 = .ok (.iload_n 1, 1) := by decide +kernel
theorem dX5_replace_19 : decode cX5_replace 19 = .ok (.iload_n 2, 1) := by decide +kernel
theorem dX5_replace_20 : decode cX5_replace 20 = .ok (.iconst 2, 1) := by decide +kernel
theorem dX5_replace_21 : decode cX5_replace 21 = .ok (.invokevirtual 62, 3) := by decide +kernel
theorem dX5_replace_24 : decode cX5_replace 24 = .ok (.iload_n 3, 1) := by decide +kernel
theorem dX5_replace_25 : decode cX5_replace 25 = .ok (.if_icmp .ne 7, 3) := by decide +kernel
theorem dX5_replace_28 : decode cX5_replace 28 = .ok (.iconst 2, 1) := by decide +kernel
theorem dX5_replace_29 : decode cX5_replace 29 = .ok (.goto 4, 3) := by decide +kernel
theorem dX5_replace_32 : decode cX5_replace 32 = .ok (.iconst 3, 1) := by decide +kernel
theorem dX5_replace_33 : decode cX5_replace 33 = .ok (.iload 4, 2) := by decide +kernel
theorem dX5_replace_35 : decode cX5_replace 35 = .ok (.invokevirtual 90, 3) := by decide +kernel
theorem dX5_replace_38 : decode cX5_replace 38 = .ok (.return_, 1) := by decide +kernel
theorem dX5_buildPart_0 : decode cX5_buildPart 0 = .ok (.aload_n 0, 1) := by decide +kernel
theorem dX5_buildPart_1 : decode cX5_buildPart 1 = .ok (.iload_n 1, 1) := by decide +kernel
theorem dX5_buildPart_2 : decode cX5_buildPart 2 = .ok (.iload_n 2, 1) := by decide +kernel
theorem dX5_buildPart_3 : decode cX5_buildPart 3 = .ok (.invokevirtual 77, 3) := by decide +kernel
theorem dX5_buildPart_6 : decode cX5_buildPart 6 = .ok (.istore_n 3, 1) := by decide +kernel
theorem dX5_buildPart_7 : decode cX5_buildPart 7 = .ok (.aload_n 0, 1) := by decide +kernel
theorem dX5_buildPart_8 : decode cX5_buildPart 8 = .ok (.iconst 0, 1) := by decide +kernel
theorem dX5_buildPart_9 : decode cX5_buildPart 9 = .ok (.putfield 84, 3) := by decide +kernel
theorem dX5_buildPart_12 : decode cX5_buildPart 12 = .ok (.aload_n 0, 1) := by decide +kernel
theorem dX5_buildPart_13 : decode cX5_buildPart 13 = .ok (.iload_n 1, 1) := by decide +kernel
theorem dX5_buildPart_14 : decode cX5_buildPart 14 = .ok (.iload_n 2, 1) := by decide +kernel
theorem dX5_buildPart_15 : decode cX5_buildPart 15 = .ok (.invokevirtual 80, 3) := by decide +kernel
theorem dX5_buildPart_18 : decode cX5_buildPart 18 = .ok (.aload_n 0, 1) := by decide +kernel
theorem dX5_buildPart_19 : decode cX5_buildPart 19 = .ok (.iload_n 1, 1) := by decide +kernel
theorem dX5_buildPart_20 : decode cX5_buildPart 20 = .ok (.iload_n 3, 1) := by decide +kernel
theorem dX5_buildPart_21 : decode cX5_buildPart 21 = .ok (.iload_n 2, 1) := by decide +kernel
theorem dX5_buildPart_22 : decode cX5_buildPart 22 = .ok (.aload_n 0, 1) := by decide +kernel
theorem dX5_buildPart_23 : decode cX5_buildPart 23 = .ok (.iload_n 1, 1) := by decide +kernel
theorem dX5_buildPart_24 : decode cX5_buildPart 24 = .ok (.iconst 0, 1) := by decide +kernel
theorem dX5_buildPart_25 : decode cX5_buildPart 25 = .ok (.aload_n 0, 1) := by decide +kernel
theorem dX5_buildPart_26 : decode cX5_buildPart 26 = .ok (.getfield 84, 3) := by decide +kernel
theorem dX5_buildPart_29 : decode cX5_buildPart 29 = .ok (.iconst 1, 1) := by decide +kernel
theorem dX5_buildPart_30 : decode cX5_buildPart 30 = .ok (.isub, 1) := by decide +kernel
theorem dX5_buildPart_31 : decode cX5_buildPart 31 = .ok (.invokevirtual 87, 3) := by decide +kernel
theorem dX5_buildPart_34 : decode cX5_buildPart 34 = .ok (.invokevirtual 97, 3) := by decide +kernel
theorem dX5_buildPart_37 : decode cX5_buildPart 37 = .ok (.aload_n 0, 1) := by decide +kernel
theorem dX5_buildPart_38 : decode cX5_buildPart 38 = .ok (.getfield 9, 3) := by decide +kernel
theorem dX5_buildPart_41 : decode cX5_buildPart 41 = .ok (.iconst 5, 1) := by decide +kernel
theorem dX5_buildPart_42 : decode cX5_buildPart 42 = .ok (.dup2, 1) := by decide +kernel
theorem dX5_buildPart_43 : decode cX5_buildPart 43 = .ok (.iaload, 1) := by decide +kernel
theorem dX5_buildPart_44 : decode cX5_buildPart 44 = .ok (.aload_n 0, 1) := by decide +kernel
theorem dX5_buildPart_45 : decode cX5_buildPart 45 = .ok (.getfield 84, 3) := by decide +kernel
theorem dX5_buildPart_48 : decode cX5_buildPart 48 = .ok (.iadd, 1) := by decide +kernel
theorem dX5_buildPart_49 : decode cX5_buildPart 49 = .ok (.iastore, 1) := by decide +kernel
theorem dX5_buildPart_50 : decode cX5_buildPart 50 = .ok (.return_, 1) := by decide +kernel
theorem dX5_buildWhole_0 : decode cX5_buildWhole 0 = .ok (.aload_n 0, 1) := by decide +kernel
theorem dX5_buildWhole_1 : decode cX5_buildWhole 1 = .ok (.iload_n 1, 1) := by decide +kernel
theorem dX5_buildWhole_2 : decode cX5_buildWhole 2 = .ok (.invokevirtual 100, 3) := by decide +kernel
theorem dX5_buildWhole_5 : decode cX5_buildWhole 5 = .ok (.aload_n 0, 1) := by decide +kernel
theorem dX5_buildWhole_6 : decode cX5_buildWhole 6 = .ok (.iload_n 1, 1) := by decide +kernel
theorem dX5_buildWhole_7 : decode cX5_buildWhole 7 = .ok (.aload_n 0, 1) := by decide +kernel
theorem dX5_buildWhole_8 : decode cX5_buildWhole 8 = .ok (.iload_n 1, 1) := by decide +kernel
theorem dX5_buildWhole_9 : decode cX5_buildWhole 9 = .ok (.iconst 0, 1) := by decide +kernel
theorem dX5_buildWhole_10 : decode cX5_buildWhole 10 = .ok (.aload_n 0, 1) := by decide +kernel
theorem dX5_buildWhole_11 : decode cX5_buildWhole 11 = .ok (.getfield 84, 3) := by decide +kernel
theorem dX5_buildWhole_14 : decode cX5_buildWhole 14 = .ok (.iconst 1, 1) := by decide +kernel
theorem dX5_buildWhole_15 : decode cX5_buildWhole 15 = .ok (.isub, 1) := by decide +kernel
theorem dX5_buildWhole_16 : decode cX5_buildWhole 16 = .ok (.invokevirtual 87, 3) := by decide +kernel
theorem dX5_buildWhole_19 : decode cX5_buildWhole 19 = .ok (.invokevirtual 94, 3) := by decide +kernel
theorem dX5_buildWhole_22 : decode cX5_buildWhole 22 = .ok (.aload_n 0, 1) := by decide +kernel
theorem dX5_buildWhole_23 : decode cX5_buildWhole 23 = .ok (.iload_n 1, 1) := by decide +kernel
theorem dX5_buildWhole_24 : decode cX5_buildWhole 24 = .ok (.aload_n 0, 1) := by decide +kernel
theorem dX5_buildWhole_25 : decode cX5_buildWhole 25 = .ok (.getfield 84, 3) := by decide +kernel
theorem dX5_buildWhole_28 : decode cX5_buildWhole 28 = .ok (.invokevirtual 104, 3) := by decide +kernel
theorem dX5_buildWhole_31 : decode cX5_buildWhole 31 = .ok (.aload_n 0, 1) := by decide +kernel
theorem dX5_buildWhole_32 : decode cX5_buildWhole 32 = .ok (.getfield 9, 3) := by decide +kernel
theorem dX5_buildWhole_35 : decode cX5_buildWhole 35 = .ok (.iconst 4, 1) := by decide +kernel
theorem dX5_buildWhole_36 : decode cX5_buildWhole 36 = .ok (.dup2, 1) := by decide +kernel
theorem dX5_buildWhole_37 : decode cX5_buildWhole 37 = .ok (.iaload, 1) := by decide +kernel
theorem dX5_buildWhole_38 : decode cX5_buildWhole 38 = .ok (.iconst 1, 1) := by decide +kernel
theorem dX5_buildWhole_39 : decode cX5_buildWhole 39 = .ok (.iadd, 1) := by decide +kernel
theorem dX5_buildWhole_40 : decode cX5_buildWhole 40 = .ok (.iastore, 1) := by decide +kernel
theorem dX5_buildWhole_41 : decode cX5_buildWhole 41 = .ok (.aload_n 0, 1) := by decide +kernel
theorem dX5_buildWhole_42 : decode cX5_buildWhole 42 = .ok (.getfield 9, 3) := by decide +kernel
theorem dX5_buildWhole_45 : decode cX5_buildWhole 45 = .ok (.iconst 5, 1) := by decide +kernel
theorem dX5_buildWhole_46 : decode cX5_buildWhole 46 = .ok (.dup2, 1) := by decide +kernel
theorem dX5_buildWhole_47 : decode cX5_buildWhole 47 = .ok (.iaload, 1) := by decide +kernel
theorem dX5_buildWhole_48 : decode cX5_buildWhole 48 = .ok (.aload_n 0, 1) := by decide +kernel
theorem dX5_buildWhole_49 : decode cX5_buildWhole 49 = .ok (.getfield 84, 3) := by decide +kernel
theorem dX5_buildWhole_52 : decode cX5_buildWhole 52 = .ok (.iadd, 1) := by decide +kernel
theorem dX5_buildWhole_53 : decode cX5_buildWhole 53 = .ok (.iastore, 1) := by decide +kernel
theorem dX5_buildWhole_54 : decode cX5_buildWhole 54 = .ok (.return_, 1) := by decide +kernel
theorem dX5_emptyStall_0 : decode cX5_emptyStall 0 = .ok (.iconst 0, 1) := by decide +kernel
theorem dX5_emptyStall_1 : decode cX5_emptyStall 1 = .ok (.istore_n 2, 1) := by decide +kernel
theorem dX5_emptyStall_2 : decode cX5_emptyStall 2 = .ok (.aload_n 0, 1) := by decide +kernel
theorem dX5_emptyStall_3 : decode cX5_emptyStall 3 = .ok (.iload_n 1, 1) := by decide +kernel
theorem dX5_emptyStall_4 : decode cX5_emptyStall 4 = .ok (.iload_n 2, 1) := by decide +kernel
theorem dX5_emptyStall_5 : decode cX5_emptyStall 5 = .ok (.iconst 0, 1) := by decide +kernel
theorem dX5_emptyStall_6 : decode cX5_emptyStall 6 = .ok (.invokevirtual 62, 3) := by decide +kernel
theorem dX5_emptyStall_9 : decode cX5_emptyStall 9 = .ok (.ifCond .lt 9, 3) := by decide +kernel
theorem dX5_emptyStall_12 : decode cX5_emptyStall 12 = .ok (.iinc 2 1, 3) := by decide +kernel
theorem dX5_emptyStall_15 : decode cX5_emptyStall 15 = .ok (.goto (-13), 3) := by decide +kernel
theorem dX5_emptyStall_18 : decode cX5_emptyStall 18 = .ok (.iload_n 2, 1) := by decide +kernel
theorem dX5_emptyStall_19 : decode cX5_emptyStall 19 = .ok (.ireturn, 1) := by decide +kernel
theorem dX5_enter_0 : decode cX5_enter 0 = .ok (.aload_n 0, 1) := by decide +kernel
theorem dX5_enter_1 : decode cX5_enter 1 = .ok (.iload_n 1, 1) := by decide +kernel
theorem dX5_enter_2 : decode cX5_enter 2 = .ok (.invokevirtual 107, 3) := by decide +kernel
theorem dX5_enter_5 : decode cX5_enter 5 = .ok (.istore 4, 2) := by decide +kernel
theorem dX5_enter_7 : decode cX5_enter 7 = .ok (.aload_n 0, 1) := by decide +kernel
theorem dX5_enter_8 : decode cX5_enter 8 = .ok (.iload_n 1, 1) := by decide +kernel
theorem dX5_enter_9 : decode cX5_enter 9 = .ok (.iload 4, 2) := by decide +kernel
theorem dX5_enter_11 : decode cX5_enter 11 = .ok (.iconst 0, 1) := by decide +kernel
theorem dX5_enter_12 : decode cX5_enter 12 = .ok (.iload_n 2, 1) := by decide +kernel
theorem dX5_enter_13 : decode cX5_enter 13 = .ok (.invokevirtual 90, 3) := by decide +kernel
theorem dX5_enter_16 : decode cX5_enter 16 = .ok (.aload_n 0, 1) := by decide +kernel
theorem dX5_enter_17 : decode cX5_enter 17 = .ok (.iload_n 1, 1) := by decide +kernel
theorem dX5_enter_18 : decode cX5_enter 18 = .ok (.iload 4, 2) := by decide +kernel
theorem dX5_enter_20 : decode cX5_enter 20 = .ok (.iconst 1, 1) := by decide +kernel
theorem dX5_enter_21 : decode cX5_enter 21 = .ok (.iload_n 3, 1) := by decide +kernel
theorem dX5_enter_22 : decode cX5_enter 22 = .ok (.invokevirtual 90, 3) := by decide +kernel
theorem dX5_enter_25 : decode cX5_enter 25 = .ok (.aload_n 0, 1) := by decide +kernel
theorem dX5_enter_26 : decode cX5_enter 26 = .ok (.iload_n 1, 1) := by decide +kernel
theorem dX5_enter_27 : decode cX5_enter 27 = .ok (.iload 4, 2) := by decide +kernel
theorem dX5_enter_29 : decode cX5_enter 29 = .ok (.iconst 2, 1) := by decide +kernel
theorem dX5_enter_30 : decode cX5_enter 30 = .ok (.iconst (-1), 1) := by decide +kernel
theorem dX5_enter_31 : decode cX5_enter 31 = .ok (.invokevirtual 90, 3) := by decide +kernel
theorem dX5_enter_34 : decode cX5_enter 34 = .ok (.aload_n 0, 1) := by decide +kernel
theorem dX5_enter_35 : decode cX5_enter 35 = .ok (.iload_n 1, 1) := by decide +kernel
theorem dX5_enter_36 : decode cX5_enter 36 = .ok (.iload 4, 2) := by decide +kernel
theorem dX5_enter_38 : decode cX5_enter 38 = .ok (.iconst 3, 1) := by decide +kernel
theorem dX5_enter_39 : decode cX5_enter 39 = .ok (.iconst (-1), 1) := by decide +kernel
theorem dX5_enter_40 : decode cX5_enter 40 = .ok (.invokevirtual 90, 3) := by decide +kernel
theorem dX5_enter_43 : decode cX5_enter 43 = .ok (.iload 4, 2) := by decide +kernel
theorem dX5_enter_45 : decode cX5_enter 45 = .ok (.ireturn, 1) := by decide +kernel
theorem dX5_hang_0 : decode cX5_hang 0 = .ok (.iconst (-1), 1) := by decide +kernel
theorem dX5_hang_1 : decode cX5_hang 1 = .ok (.istore_n 3, 1) := by decide +kernel
theorem dX5_hang_2 : decode cX5_hang 2 = .ok (.iconst 2, 1) := by decide +kernel
theorem dX5_hang_3 : decode cX5_hang 3 = .ok (.istore 4, 2) := by decide +kernel
theorem dX5_hang_5 : decode cX5_hang 5 = .ok (.aload_n 0, 1) := by decide +kernel
theorem dX5_hang_6 : decode cX5_hang 6 = .ok (.iload_n 1, 1) := by decide +kernel
theorem dX5_hang_7 : decode cX5_hang 7 = .ok (.invokevirtual 73, 3) := by decide +kernel
theorem dX5_hang_10 : decode cX5_hang 10 = .ok (.istore 5, 2) := by decide +kernel
theorem dX5_hang_12 : decode cX5_hang 12 = .ok (.iload 5, 2) := by decide +kernel
theorem dX5_hang_14 : decode cX5_hang 14 = .ok (.ifCond .lt 45, 3) := by decide +kernel
theorem dX5_hang_17 : decode cX5_hang 17 = .ok (.iload 5, 2) := by decide +kernel
theorem dX5_hang_19 : decode cX5_hang 19 = .ok (.istore_n 3, 1) := by decide +kernel
theorem dX5_hang_20 : decode cX5_hang 20 = .ok (.aload_n 0, 1) := by decide +kernel
theorem dX5_hang_21 : decode cX5_hang 21 = .ok (.iload_n 1, 1) := by decide +kernel
theorem dX5_hang_22 : decode cX5_hang 22 = .ok (.iload_n 2, 1) := by decide +kernel
theorem dX5_hang_23 : decode cX5_hang 23 = .ok (.iconst 0, 1) := by decide +kernel
theorem dX5_hang_24 : decode cX5_hang 24 = .ok (.invokevirtual 62, 3) := by decide +kernel
theorem dX5_hang_27 : decode cX5_hang 27 = .ok (.aload_n 0, 1) := by decide +kernel
theorem dX5_hang_28 : decode cX5_hang 28 = .ok (.iload_n 1, 1) := by decide +kernel
theorem dX5_hang_29 : decode cX5_hang 29 = .ok (.iload 5, 2) := by decide +kernel
theorem dX5_hang_31 : decode cX5_hang 31 = .ok (.iconst 0, 1) := by decide +kernel
theorem dX5_hang_32 : decode cX5_hang 32 = .ok (.invokevirtual 62, 3) := by decide +kernel
theorem dX5_hang_35 : decode cX5_hang 35 = .ok (.if_icmp .ge 7, 3) := by decide +kernel
theorem dX5_hang_38 : decode cX5_hang 38 = .ok (.iconst 2, 1) := by decide +kernel
theorem dX5_hang_39 : decode cX5_hang 39 = .ok (.goto 4, 3) := by decide +kernel
theorem dX5_hang_42 : decode cX5_hang 42 = .ok (.iconst 3, 1) := by decide +kernel
theorem dX5_hang_43 : decode cX5_hang 43 = .ok (.istore 4, 2) := by decide +kernel
theorem dX5_hang_45 : decode cX5_hang 45 = .ok (.aload_n 0, 1) := by decide +kernel
theorem dX5_hang_46 : decode cX5_hang 46 = .ok (.iload_n 1, 1) := by decide +kernel
theorem dX5_hang_47 : decode cX5_hang 47 = .ok (.iload 5, 2) := by decide +kernel
theorem dX5_hang_49 : decode cX5_hang 49 = .ok (.iload 4, 2) := by decide +kernel
theorem dX5_hang_51 : decode cX5_hang 51 = .ok (.invokevirtual 62, 3) := by decide +kernel
theorem dX5_hang_54 : decode cX5_hang 54 = .ok (.istore 5, 2) := by decide +kernel
theorem dX5_hang_56 : decode cX5_hang 56 = .ok (.goto (-44), 3) := by decide +kernel
theorem dX5_hang_59 : decode cX5_hang 59 = .ok (.iload_n 3, 1) := by decide +kernel
theorem dX5_hang_60 : decode cX5_hang 60 = .ok (.ifCond .ge 12, 3) := by decide +kernel
theorem dX5_hang_63 : decode cX5_hang 63 = .ok (.aload_n 0, 1) := by decide +kernel
theorem dX5_hang_64 : decode cX5_hang 64 = .ok (.iload_n 1, 1) := by decide +kernel
theorem dX5_hang_65 : decode cX5_hang 65 = .ok (.iload_n 2, 1) := by decide +kernel
theorem dX5_hang_66 : decode cX5_hang 66 = .ok (.invokevirtual 94, 3) := by decide +kernel
theorem dX5_hang_69 : decode cX5_hang 69 = .ok (.goto 12, 3) := by decide +kernel
theorem dX5_hang_72 : decode cX5_hang 72 = .ok (.aload_n 0, 1) := by decide +kernel
theorem dX5_hang_73 : decode cX5_hang 73 = .ok (.iload_n 1, 1) := by decide +kernel
theorem dX5_hang_74 : decode cX5_hang 74 = .ok (.iload_n 3, 1) := by decide +kernel
theorem dX5_hang_75 : decode cX5_hang 75 = .ok (.iload 4, 2) := by decide +kernel
theorem dX5_hang_77 : decode cX5_hang 77 = .ok (.iload_n 2, 1) := by decide +kernel
theorem dX5_hang_78 : decode cX5_hang 78 = .ok (.invokevirtual 90, 3) := by decide +kernel
theorem dX5_hang_81 : decode cX5_hang 81 = .ok (.return_, 1) := by decide +kernel
theorem dX5_isWeight_0 : decode cX5_isWeight 0 = .ok (.iload_n 0, 1) := by decide +kernel
theorem dX5_isWeight_1 : decode cX5_isWeight 1 = .ok (.iconst 0, 1) := by decide +kernel
theorem dX5_isWeight_2 : decode cX5_isWeight 2 = .ok (.sipush 999, 3) := by decide +kernel
theorem dX5_isWeight_5 : decode cX5_isWeight 5 = .ok (.invokestatic 58, 3) := by decide +kernel
theorem dX5_isWeight_8 : decode cX5_isWeight 8 = .ok (.ireturn, 1) := by decide +kernel
theorem dX5_put__0 : decode cX5_put_ 0 = .ok (.iload_n 1, 1) := by decide +kernel
theorem dX5_put__1 : decode cX5_put_ 1 = .ok (.invokestatic 110, 3) := by decide +kernel
theorem dX5_put__4 : decode cX5_put_ 4 = .ok (.ifCond .ne 6, 3) := by decide +kernel
theorem dX5_put__7 : decode cX5_put_ 7 = .ok (.bipush (-11), 2) := by decide +kernel
theorem dX5_put__9 : decode cX5_put_ 9 = .ok (.ireturn, 1) := by decide +kernel
theorem dX5_put__10 : decode cX5_put_ 10 = .ok (.iload_n 2, 1) := by decide +kernel
theorem dX5_put__11 : decode cX5_put_ 11 = .ok (.invokestatic 114, 3) := by decide +kernel
theorem dX5_put__14 : decode cX5_put_ 14 = .ok (.ifCond .eq 13, 3) := by decide +kernel
theorem dX5_put__17 : decode cX5_put_ 17 = .ok (.iload_n 3, 1) := by decide +kernel
theorem dX5_put__18 : decode cX5_put_ 18 = .ok (.iconst 1, 1) := by decide +kernel
theorem dX5_put__19 : decode cX5_put_ 19 = .ok (.bipush 99, 2) := by decide +kernel
theorem dX5_put__21 : decode cX5_put_ 21 = .ok (.invokestatic 58, 3) := by decide +kernel
theorem dX5_put__24 : decode cX5_put_ 24 = .ok (.ifCond .ne 6, 3) := by decide +kernel
theorem dX5_put__27 : decode cX5_put_ 27 = .ok (.bipush (-12), 2) := by decide +kernel
theorem dX5_put__29 : decode cX5_put_ 29 = .ok (.ireturn, 1) := by decide +kernel
theorem dX5_put__30 : decode cX5_put_ 30 = .ok (.aload_n 0, 1) := by decide +kernel
theorem dX5_put__31 : decode cX5_put_ 31 = .ok (.aload_n 0, 1) := by decide +kernel
theorem dX5_put__32 : decode cX5_put_ 32 = .ok (.iload_n 1, 1) := by decide +kernel
theorem dX5_put__33 : decode cX5_put_ 33 = .ok (.iload_n 2, 1) := by decide +kernel
theorem dX5_put__34 : decode cX5_put_ 34 = .ok (.invokevirtual 117, 3) := by decide +kernel
theorem dX5_put__37 : decode cX5_put_ 37 = .ok (.ifCond .lt 7, 3) := by decide +kernel
theorem dX5_put__40 : decode cX5_put_ 40 = .ok (.iconst 1, 1) := by decide +kernel
theorem dX5_put__41 : decode cX5_put_ 41 = .ok (.goto 4, 3) := by decide +kernel
theorem dX5_put__44 : decode cX5_put_ 44 = .ok (.iconst 0, 1) := by decide +kernel
theorem dX5_put__45 : decode cX5_put_ 45 = .ok (.iconst 2, 1) := by decide +kernel
theorem dX5_put__46 : decode cX5_put_ 46 = .ok (.iload_n 2, 1) := by decide +kernel
theorem dX5_put__47 : decode cX5_put_ 47 = .ok (.invokevirtual 120, 3) := by decide +kernel
theorem dX5_put__50 : decode cX5_put_ 50 = .ok (.ifCond .ne 28, 3) := by decide +kernel
theorem dX5_put__53 : decode cX5_put_ 53 = .ok (.aload_n 0, 1) := by decide +kernel
theorem dX5_put__54 : decode cX5_put_ 54 = .ok (.aload_n 0, 1) := by decide +kernel
theorem dX5_put__55 : decode cX5_put_ 55 = .ok (.iload_n 1, 1) := by decide +kernel
theorem dX5_put__56 : decode cX5_put_ 56 = .ok (.invokevirtual 124, 3) := by decide +kernel
theorem dX5_put__59 : decode cX5_put_ 59 = .ok (.bipush 30, 2) := by decide +kernel
theorem dX5_put__61 : decode cX5_put_ 61 = .ok (.if_icmp .ne 7, 3) := by decide +kernel
theorem dX5_put__64 : decode cX5_put_ 64 = .ok (.iconst 1, 1) := by decide +kernel
theorem dX5_put__65 : decode cX5_put_ 65 = .ok (.goto 4, 3) := by decide +kernel
theorem dX5_put__68 : decode cX5_put_ 68 = .ok (.iconst 0, 1) := by decide +kernel
theorem dX5_put__69 : decode cX5_put_ 69 = .ok (.iconst 1, 1) := by decide +kernel
theorem dX5_put__70 : decode cX5_put_ 70 = .ok (.bipush 30, 2) := by decide +kernel
theorem dX5_put__72 : decode cX5_put_ 72 = .ok (.invokevirtual 120, 3) := by decide +kernel
theorem dX5_put__75 : decode cX5_put_ 75 = .ok (.ifCond .eq 6, 3) := by decide +kernel
theorem dX5_put__78 : decode cX5_put_ 78 = .ok (.bipush (-14), 2) := by decide +kernel
theorem dX5_put__80 : decode cX5_put_ 80 = .ok (.ireturn, 1) := by decide +kernel
theorem dX5_put__81 : decode cX5_put_ 81 = .ok (.aload_n 0, 1) := by decide +kernel
theorem dX5_put__82 : decode cX5_put_ 82 = .ok (.invokevirtual 127, 3) := by decide +kernel
theorem dX5_put__85 : decode cX5_put_ 85 = .ok (.aload_n 0, 1) := by decide +kernel
theorem dX5_put__86 : decode cX5_put_ 86 = .ok (.iload_n 1, 1) := by decide +kernel
theorem dX5_put__87 : decode cX5_put_ 87 = .ok (.iload_n 2, 1) := by decide +kernel
theorem dX5_put__88 : decode cX5_put_ 88 = .ok (.iload_n 3, 1) := by decide +kernel
theorem dX5_put__89 : decode cX5_put_ 89 = .ok (.invokevirtual 130, 3) := by decide +kernel
theorem dX5_put__92 : decode cX5_put_ 92 = .ok (.istore 4, 2) := by decide +kernel
theorem dX5_put__94 : decode cX5_put_ 94 = .ok (.aload_n 0, 1) := by decide +kernel
theorem dX5_put__95 : decode cX5_put_ 95 = .ok (.iload_n 1, 1) := by decide +kernel
theorem dX5_put__96 : decode cX5_put_ 96 = .ok (.iload 4, 2) := by decide +kernel
theorem dX5_put__98 : decode cX5_put_ 98 = .ok (.invokevirtual 133, 3) := by decide +kernel
theorem dX5_put__101 : decode cX5_put_ 101 = .ok (.aload_n 0, 1) := by decide +kernel
theorem dX5_put__102 : decode cX5_put_ 102 = .ok (.getfield 9, 3) := by decide +kernel
theorem dX5_put__105 : decode cX5_put_ 105 = .ok (.iconst 1, 1) := by decide +kernel
theorem dX5_put__106 : decode cX5_put_ 106 = .ok (.dup2, 1) := by decide +kernel
theorem dX5_put__107 : decode cX5_put_ 107 = .ok (.iaload, 1) := by decide +kernel
theorem dX5_put__108 : decode cX5_put_ 108 = .ok (.iconst 1, 1) := by decide +kernel
theorem dX5_put__109 : decode cX5_put_ 109 = .ok (.iadd, 1) := by decide +kernel
theorem dX5_put__110 : decode cX5_put_ 110 = .ok (.iastore, 1) := by decide +kernel
theorem dX5_put__111 : decode cX5_put_ 111 = .ok (.aload_n 0, 1) := by decide +kernel
theorem dX5_put__112 : decode cX5_put_ 112 = .ok (.iload_n 1, 1) := by decide +kernel
theorem dX5_put__113 : decode cX5_put_ 113 = .ok (.aload_n 0, 1) := by decide +kernel
theorem dX5_put__114 : decode cX5_put_ 114 = .ok (.iload_n 1, 1) := by decide +kernel
theorem dX5_put__115 : decode cX5_put_ 115 = .ok (.invokevirtual 124, 3) := by decide +kernel
theorem dX5_put__118 : decode cX5_put_ 118 = .ok (.aload_n 0, 1) := by decide +kernel
theorem dX5_put__119 : decode cX5_put_ 119 = .ok (.iload_n 1, 1) := by decide +kernel
theorem dX5_put__120 : decode cX5_put_ 120 = .ok (.invokevirtual 136, 3) := by decide +kernel
theorem dX5_put__123 : decode cX5_put_ 123 = .ok (.if_icmp .le 11, 3) := by decide +kernel
theorem dX5_put__126 : decode cX5_put_ 126 = .ok (.aload_n 0, 1) := by decide +kernel
theorem dX5_put__127 : decode cX5_put_ 127 = .ok (.iload_n 1, 1) := by decide +kernel
theorem dX5_put__128 : decode cX5_put_ 128 = .ok (.invokevirtual 124, 3) := by decide +kernel
theorem dX5_put__131 : decode cX5_put_ 131 = .ok (.goto 8, 3) := by decide +kernel
theorem dX5_put__134 : decode cX5_put_ 134 = .ok (.aload_n 0, 1) := by decide +kernel
theorem dX5_put__135 : decode cX5_put_ 135 = .ok (.iload_n 1, 1) := by decide +kernel
theorem dX5_put__136 : decode cX5_put_ 136 = .ok (.invokevirtual 136, 3) := by decide +kernel
theorem dX5_put__139 : decode cX5_put_ 139 = .ok (.invokevirtual 104, 3) := by decide +kernel
theorem dX5_put__142 : decode cX5_put_ 142 = .ok (.aload_n 0, 1) := by decide +kernel
theorem dX5_put__143 : decode cX5_put_ 143 = .ok (.iload_n 1, 1) := by decide +kernel
theorem dX5_put__144 : decode cX5_put_ 144 = .ok (.iload 4, 2) := by decide +kernel
theorem dX5_put__146 : decode cX5_put_ 146 = .ok (.invokevirtual 139, 3) := by decide +kernel
theorem dX5_put__149 : decode cX5_put_ 149 = .ok (.aload_n 0, 1) := by decide +kernel
theorem dX5_put__150 : decode cX5_put_ 150 = .ok (.aload_n 0, 1) := by decide +kernel
theorem dX5_put__151 : decode cX5_put_ 151 = .ok (.iload_n 1, 1) := by decide +kernel
theorem dX5_put__152 : decode cX5_put_ 152 = .ok (.invokevirtual 124, 3) := by decide +kernel
theorem dX5_put__155 : decode cX5_put_ 155 = .ok (.invokevirtual 142, 3) := by decide +kernel
theorem dX5_put__158 : decode cX5_put_ 158 = .ok (.if_icmp .le 13, 3) := by decide +kernel
theorem dX5_put__161 : decode cX5_put_ 161 = .ok (.aload_n 0, 1) := by decide +kernel
theorem dX5_put__162 : decode cX5_put_ 162 = .ok (.iload_n 1, 1) := by decide +kernel
theorem dX5_put__163 : decode cX5_put_ 163 = .ok (.iload 4, 2) := by decide +kernel
theorem dX5_put__165 : decode cX5_put_ 165 = .ok (.invokevirtual 77, 3) := by decide +kernel
theorem dX5_put__168 : decode cX5_put_ 168 = .ok (.goto 4, 3) := by decide +kernel
theorem dX5_put__171 : decode cX5_put_ 171 = .ok (.iconst (-1), 1) := by decide +kernel
theorem dX5_put__172 : decode cX5_put_ 172 = .ok (.istore 5, 2) := by decide +kernel
theorem dX5_put__174 : decode cX5_put_ 174 = .ok (.iload 5, 2) := by decide +kernel
theorem dX5_put__176 : decode cX5_put_ 176 = .ok (.ifCond .lt 25, 3) := by decide +kernel
theorem dX5_put__179 : decode cX5_put_ 179 = .ok (.aload_n 0, 1) := by decide +kernel
theorem dX5_put__180 : decode cX5_put_ 180 = .ok (.iload_n 1, 1) := by decide +kernel
theorem dX5_put__181 : decode cX5_put_ 181 = .ok (.iload 5, 2) := by decide +kernel
theorem dX5_put__183 : decode cX5_put_ 183 = .ok (.invokevirtual 145, 3) := by decide +kernel
theorem dX5_put__186 : decode cX5_put_ 186 = .ok (.ifCond .ne 15, 3) := by decide +kernel
theorem dX5_put__189 : decode cX5_put_ 189 = .ok (.aload_n 0, 1) := by decide +kernel
theorem dX5_put__190 : decode cX5_put_ 190 = .ok (.iload_n 1, 1) := by decide +kernel
theorem dX5_put__191 : decode cX5_put_ 191 = .ok (.iload 5, 2) := by decide +kernel
theorem dX5_put__193 : decode cX5_put_ 193 = .ok (.invokevirtual 77, 3) := by decide +kernel
theorem dX5_put__196 : decode cX5_put_ 196 = .ok (.istore 5, 2) := by decide +kernel
theorem dX5_put__198 : decode cX5_put_ 198 = .ok (.goto (-24), 3) := by decide +kernel
theorem dX5_put__201 : decode cX5_put_ 201 = .ok (.iload 5, 2) := by decide +kernel
theorem dX5_put__203 : decode cX5_put_ 203 = .ok (.ifCond .ge 5, 3) := by decide +kernel
theorem dX5_put__206 : decode cX5_put_ 206 = .ok (.iconst 0, 1) := by decide +kernel
theorem dX5_put__207 : decode cX5_put_ 207 = .ok (.ireturn, 1) := by decide +kernel
theorem dX5_put__208 : decode cX5_put_ 208 = .ok (.aload_n 0, 1) := by decide +kernel
theorem dX5_put__209 : decode cX5_put_ 209 = .ok (.iload_n 1, 1) := by decide +kernel
theorem dX5_put__210 : decode cX5_put_ 210 = .ok (.iload 5, 2) := by decide +kernel
theorem dX5_put__212 : decode cX5_put_ 212 = .ok (.invokevirtual 66, 3) := by decide +kernel
theorem dX5_put__215 : decode cX5_put_ 215 = .ok (.istore 6, 2) := by decide +kernel
theorem dX5_put__217 : decode cX5_put_ 217 = .ok (.aload_n 0, 1) := by decide +kernel
theorem dX5_put__218 : decode cX5_put_ 218 = .ok (.iload_n 1, 1) := by decide +kernel
theorem dX5_put__219 : decode cX5_put_ 219 = .ok (.iload 5, 2) := by decide +kernel
theorem dX5_put__221 : decode cX5_put_ 221 = .ok (.invokevirtual 149, 3) := by decide +kernel
theorem dX5_put__224 : decode cX5_put_ 224 = .ok (.aload_n 0, 1) := by decide +kernel
theorem dX5_put__225 : decode cX5_put_ 225 = .ok (.getfield 9, 3) := by decide +kernel
theorem dX5_put__228 : decode cX5_put_ 228 = .ok (.iconst 3, 1) := by decide +kernel
theorem dX5_put__229 : decode cX5_put_ 229 = .ok (.dup2, 1) := by decide +kernel
theorem dX5_put__230 : decode cX5_put_ 230 = .ok (.iaload, 1) := by decide +kernel
theorem dX5_put__231 : decode cX5_put_ 231 = .ok (.iconst 1, 1) := by decide +kernel
theorem dX5_put__232 : decode cX5_put_ 232 = .ok (.iadd, 1) := by decide +kernel
theorem dX5_put__233 : decode cX5_put_ 233 = .ok (.iastore, 1) := by decide +kernel
theorem dX5_put__234 : decode cX5_put_ 234 = .ok (.iload 6, 2) := by decide +kernel
theorem dX5_put__236 : decode cX5_put_ 236 = .ok (.ireturn, 1) := by decide +kernel
theorem dX5_unhang_0 : decode cX5_unhang 0 = .ok (.aload_n 0, 1) := by decide +kernel
theorem dX5_unhang_1 : decode cX5_unhang 1 = .ok (.iload_n 1, 1) := by decide +kernel
theorem dX5_unhang_2 : decode cX5_unhang 2 = .ok (.iload_n 2, 1) := by decide +kernel
theorem dX5_unhang_3 : decode cX5_unhang 3 = .ok (.iconst 2, 1) := by decide +kernel
theorem dX5_unhang_4 : decode cX5_unhang 4 = .ok (.invokevirtual 62, 3) := by decide +kernel
theorem dX5_unhang_7 : decode cX5_unhang 7 = .ok (.ifCond .lt 13, 3) := by decide +kernel
theorem dX5_unhang_10 : decode cX5_unhang 10 = .ok (.aload_n 0, 1) := by decide +kernel
theorem dX5_unhang_11 : decode cX5_unhang 11 = .ok (.iload_n 1, 1) := by decide +kernel
theorem dX5_unhang_12 : decode cX5_unhang 12 = .ok (.iload_n 2, 1) := by decide +kernel
theorem dX5_unhang_13 : decode cX5_unhang 13 = .ok (.iconst 2, 1) := by decide +kernel
theorem dX5_unhang_14 : decode cX5_unhang 14 = .ok (.invokevirtual 62, 3) := by decide +kernel
theorem dX5_unhang_17 : decode cX5_unhang 17 = .ok (.goto 10, 3) := by decide +kernel
theorem dX5_unhang_20 : decode cX5_unhang 20 = .ok (.aload_n 0, 1) := by decide +kernel
theorem dX5_unhang_21 : decode cX5_unhang 21 = .ok (.iload_n 1, 1) := by decide +kernel
theorem dX5_unhang_22 : decode cX5_unhang 22 = .ok (.iload_n 2, 1) := by decide +kernel
theorem dX5_unhang_23 : decode cX5_unhang 23 = .ok (.iconst 3, 1) := by decide +kernel
theorem dX5_unhang_24 : decode cX5_unhang 24 = .ok (.invokevirtual 62, 3) := by decide +kernel
theorem dX5_unhang_27 : decode cX5_unhang 27 = .ok (.istore_n 3, 1) := by decide +kernel
theorem dX5_unhang_28 : decode cX5_unhang 28 = .ok (.aload_n 0, 1) := by decide +kernel
theorem dX5_unhang_29 : decode cX5_unhang 29 = .ok (.iload_n 1, 1) := by decide +kernel
theorem dX5_unhang_30 : decode cX5_unhang 30 = .ok (.aload_n 0, 1) := by decide +kernel
theorem dX5_unhang_31 : decode cX5_unhang 31 = .ok (.iload_n 1, 1) := by decide +kernel
theorem dX5_unhang_32 : decode cX5_unhang 32 = .ok (.iload_n 2, 1) := by decide +kernel
theorem dX5_unhang_33 : decode cX5_unhang 33 = .ok (.invokevirtual 77, 3) := by decide +kernel
theorem dX5_unhang_36 : decode cX5_unhang 36 = .ok (.iload_n 2, 1) := by decide +kernel
theorem dX5_unhang_37 : decode cX5_unhang 37 = .ok (.iload_n 3, 1) := by decide +kernel
theorem dX5_unhang_38 : decode cX5_unhang 38 = .ok (.invokevirtual 97, 3) := by decide +kernel
theorem dX5_unhang_41 : decode cX5_unhang 41 = .ok (.return_, 1) := by decide +kernel
theorem dX5_takeOut_0 : decode cX5_takeOut 0 = .ok (.aload_n 0, 1) := by decide +kernel
theorem dX5_takeOut_1 : decode cX5_takeOut 1 = .ok (.iload_n 1, 1) := by decide +kernel
theorem dX5_takeOut_2 : decode cX5_takeOut 2 = .ok (.iload_n 2, 1) := by decide +kernel
theorem dX5_takeOut_3 : decode cX5_takeOut 3 = .ok (.iconst 2, 1) := by decide +kernel
theorem dX5_takeOut_4 : decode cX5_takeOut 4 = .ok (.invokevirtual 62, 3) := by decide +kernel
theorem dX5_takeOut_7 : decode cX5_takeOut 7 = .ok (.ifCond .lt 13, 3) := by decide +kernel
theorem dX5_takeOut_10 : decode cX5_takeOut 10 = .ok (.aload_n 0, 1) := by decide +kernel
theorem dX5_takeOut_11 : decode cX5_takeOut 11 = .ok (.iload_n 1, 1) := by decide +kernel
theorem dX5_takeOut_12 : decode cX5_takeOut 12 = .ok (.iload_n 2, 1) := by decide +kernel
theorem dX5_takeOut_13 : decode cX5_takeOut 13 = .ok (.iconst 3, 1) := by decide +kernel
theorem dX5_takeOut_14 : decode cX5_takeOut 14 = .ok (.invokevirtual 62, 3) := by decide +kernel
theorem dX5_takeOut_17 : decode cX5_takeOut 17 = .ok (.ifCond .ge 10, 3) := by decide +kernel
theorem dX5_takeOut_20 : decode cX5_takeOut 20 = .ok (.aload_n 0, 1) := by decide +kernel
theorem dX5_takeOut_21 : decode cX5_takeOut 21 = .ok (.iload_n 1, 1) := by decide +kernel
theorem dX5_takeOut_22 : decode cX5_takeOut 22 = .ok (.iload_n 2, 1) := by decide +kernel
theorem dX5_takeOut_23 : decode cX5_takeOut 23 = .ok (.invokevirtual 152, 3) := by decide +kernel
theorem dX5_takeOut_26 : decode cX5_takeOut 26 = .ok (.return_, 1) := by decide +kernel
theorem dX5_takeOut_27 : decode cX5_takeOut 27 = .ok (.aload_n 0, 1) := by decide +kernel
theorem dX5_takeOut_28 : decode cX5_takeOut 28 = .ok (.iload_n 1, 1) := by decide +kernel
theorem dX5_takeOut_29 : decode cX5_takeOut 29 = .ok (.iload_n 2, 1) := by decide +kernel
theorem dX5_takeOut_30 : decode cX5_takeOut 30 = .ok (.iconst 3, 1) := by decide +kernel
theorem dX5_takeOut_31 : decode cX5_takeOut 31 = .ok (.invokevirtual 62, 3) := by decide +kernel
theorem dX5_takeOut_34 : decode cX5_takeOut 34 = .ok (.istore_n 3, 1) := by decide +kernel
theorem dX5_takeOut_35 : decode cX5_takeOut 35 = .ok (.aload_n 0, 1) := by decide +kernel
theorem dX5_takeOut_36 : decode cX5_takeOut 36 = .ok (.iload_n 1, 1) := by decide +kernel
theorem dX5_takeOut_37 : decode cX5_takeOut 37 = .ok (.iload_n 3, 1) := by decide +kernel
theorem dX5_takeOut_38 : decode cX5_takeOut 38 = .ok (.iconst 2, 1) := by decide +kernel
theorem dX5_takeOut_39 : decode cX5_takeOut 39 = .ok (.invokevirtual 62, 3) := by decide +kernel
theorem dX5_takeOut_42 : decode cX5_takeOut 42 = .ok (.ifCond .lt 14, 3) := by decide +kernel
theorem dX5_takeOut_45 : decode cX5_takeOut 45 = .ok (.aload_n 0, 1) := by decide +kernel
theorem dX5_takeOut_46 : decode cX5_takeOut 46 = .ok (.iload_n 1, 1) := by decide +kernel
theorem dX5_takeOut_47 : decode cX5_takeOut 47 = .ok (.iload_n 3, 1) := by decide +kernel
theorem dX5_takeOut_48 : decode cX5_takeOut 48 = .ok (.iconst 2, 1) := by decide +kernel
theorem dX5_takeOut_49 : decode cX5_takeOut 49 = .ok (.invokevirtual 62, 3) := by decide +kernel
theorem dX5_takeOut_52 : decode cX5_takeOut 52 = .ok (.istore_n 3, 1) := by decide +kernel
theorem dX5_takeOut_53 : decode cX5_takeOut 53 = .ok (.goto (-18), 3) := by decide +kernel
theorem dX5_takeOut_56 : decode cX5_takeOut 56 = .ok (.aload_n 0, 1) := by decide +kernel
theorem dX5_takeOut_57 : decode cX5_takeOut 57 = .ok (.iload_n 1, 1) := by decide +kernel
theorem dX5_takeOut_58 : decode cX5_takeOut 58 = .ok (.iload_n 3, 1) := by decide +kernel
theorem dX5_takeOut_59 : decode cX5_takeOut 59 = .ok (.invokevirtual 152, 3) := by decide +kernel
theorem dX5_takeOut_62 : decode cX5_takeOut 62 = .ok (.aload_n 0, 1) := by decide +kernel
theorem dX5_takeOut_63 : decode cX5_takeOut 63 = .ok (.iload_n 1, 1) := by decide +kernel
theorem dX5_takeOut_64 : decode cX5_takeOut 64 = .ok (.iload_n 2, 1) := by decide +kernel
theorem dX5_takeOut_65 : decode cX5_takeOut 65 = .ok (.invokevirtual 77, 3) := by decide +kernel
theorem dX5_takeOut_68 : decode cX5_takeOut 68 = .ok (.istore 4, 2) := by decide +kernel
theorem dX5_takeOut_70 : decode cX5_takeOut 70 = .ok (.aload_n 0, 1) := by decide +kernel
theorem dX5_takeOut_71 : decode cX5_takeOut 71 = .ok (.iload_n 1, 1) := by decide +kernel
theorem dX5_takeOut_72 : decode cX5_takeOut 72 = .ok (.iload_n 3, 1) := by decide +kernel
theorem dX5_takeOut_73 : decode cX5_takeOut 73 = .ok (.iconst 2, 1) := by decide +kernel
theorem dX5_takeOut_74 : decode cX5_takeOut 74 = .ok (.aload_n 0, 1) := by decide +kernel
theorem dX5_takeOut_75 : decode cX5_takeOut 75 = .ok (.iload_n 1, 1) := by decide +kernel
theorem dX5_takeOut_76 : decode cX5_takeOut 76 = .ok (.iload_n 2, 1) := by decide +kernel
theorem dX5_takeOut_77 : decode cX5_takeOut 77 = .ok (.iconst 2, 1) := by decide +kernel
theorem dX5_takeOut_78 : decode cX5_takeOut 78 = .ok (.invokevirtual 62, 3) := by decide +kernel
theorem dX5_takeOut_81 : decode cX5_takeOut 81 = .ok (.invokevirtual 90, 3) := by decide +kernel
theorem dX5_takeOut_84 : decode cX5_takeOut 84 = .ok (.aload_n 0, 1) := by decide +kernel
theorem dX5_takeOut_85 : decode cX5_takeOut 85 = .ok (.iload_n 1, 1) := by decide +kernel
theorem dX5_takeOut_86 : decode cX5_takeOut 86 = .ok (.iload_n 3, 1) := by decide +kernel
theorem dX5_takeOut_87 : decode cX5_takeOut 87 = .ok (.iconst 3, 1) := by decide +kernel
theorem dX5_takeOut_88 : decode cX5_takeOut 88 = .ok (.aload_n 0, 1) := by decide +kernel
theorem dX5_takeOut_89 : decode cX5_takeOut 89 = .ok (.iload_n 1, 1) := by decide +kernel
theorem dX5_takeOut_90 : decode cX5_takeOut 90 = .ok (.iload_n 2, 1) := by decide +kernel
theorem dX5_takeOut_91 : decode cX5_takeOut 91 = .ok (.iconst 3, 1) := by decide +kernel
theorem dX5_takeOut_92 : decode cX5_takeOut 92 = .ok (.invokevirtual 62, 3) := by decide +kernel
theorem dX5_takeOut_95 : decode cX5_takeOut 95 = .ok (.invokevirtual 90, 3) := by decide +kernel
theorem dX5_takeOut_98 : decode cX5_takeOut 98 = .ok (.aload_n 0, 1) := by decide +kernel
theorem dX5_takeOut_99 : decode cX5_takeOut 99 = .ok (.iload_n 1, 1) := by decide +kernel
theorem dX5_takeOut_100 : decode cX5_takeOut 100 = .ok (.iload 4, 2) := by decide +kernel
theorem dX5_takeOut_102 : decode cX5_takeOut 102 = .ok (.iload_n 2, 1) := by decide +kernel
theorem dX5_takeOut_103 : decode cX5_takeOut 103 = .ok (.iload_n 3, 1) := by decide +kernel
theorem dX5_takeOut_104 : decode cX5_takeOut 104 = .ok (.invokevirtual 97, 3) := by decide +kernel
theorem dX5_takeOut_107 : decode cX5_takeOut 107 = .ok (.return_, 1) := by decide +kernel
theorem dX5_clear_0 : decode cX5_clear 0 = .ok (.aload_n 0, 1) := by decide +kernel
theorem dX5_clear_1 : decode cX5_clear 1 = .ok (.iload_n 1, 1) := by decide +kernel
theorem dX5_clear_2 : decode cX5_clear 2 = .ok (.iload_n 2, 1) := by decide +kernel
theorem dX5_clear_3 : decode cX5_clear 3 = .ok (.iconst 0, 1) := by decide +kernel
theorem dX5_clear_4 : decode cX5_clear 4 = .ok (.iconst (-1), 1) := by decide +kernel
theorem dX5_clear_5 : decode cX5_clear 5 = .ok (.invokevirtual 90, 3) := by decide +kernel
theorem dX5_clear_8 : decode cX5_clear 8 = .ok (.aload_n 0, 1) := by decide +kernel
theorem dX5_clear_9 : decode cX5_clear 9 = .ok (.iload_n 1, 1) := by decide +kernel
theorem dX5_clear_10 : decode cX5_clear 10 = .ok (.iload_n 2, 1) := by decide +kernel
theorem dX5_clear_11 : decode cX5_clear 11 = .ok (.iconst 1, 1) := by decide +kernel
theorem dX5_clear_12 : decode cX5_clear 12 = .ok (.iconst 0, 1) := by decide +kernel
theorem dX5_clear_13 : decode cX5_clear 13 = .ok (.invokevirtual 90, 3) := by decide +kernel
theorem dX5_clear_16 : decode cX5_clear 16 = .ok (.aload_n 0, 1) := by decide +kernel
theorem dX5_clear_17 : decode cX5_clear 17 = .ok (.iload_n 1, 1) := by decide +kernel
theorem dX5_clear_18 : decode cX5_clear 18 = .ok (.iload_n 2, 1) := by decide +kernel
theorem dX5_clear_19 : decode cX5_clear 19 = .ok (.iconst 2, 1) := by decide +kernel
theorem dX5_clear_20 : decode cX5_clear 20 = .ok (.iconst (-1), 1) := by decide +kernel
theorem dX5_clear_21 : decode cX5_clear 21 = .ok (.invokevirtual 90, 3) := by decide +kernel
theorem dX5_clear_24 : decode cX5_clear 24 = .ok (.aload_n 0, 1) := by decide +kernel
theorem dX5_clear_25 : decode cX5_clear 25 = .ok (.iload_n 1, 1) := by decide +kernel
theorem dX5_clear_26 : decode cX5_clear 26 = .ok (.iload_n 2, 1) := by decide +kernel
theorem dX5_clear_27 : decode cX5_clear 27 = .ok (.iconst 3, 1) := by decide +kernel
theorem dX5_clear_28 : decode cX5_clear 28 = .ok (.iconst (-1), 1) := by decide +kernel
theorem dX5_clear_29 : decode cX5_clear 29 = .ok (.invokevirtual 90, 3) := by decide +kernel
theorem dX5_clear_32 : decode cX5_clear 32 = .ok (.return_, 1) := by decide +kernel
theorem dX5_take_0 : decode cX5_take 0 = .ok (.iload_n 1, 1) := by decide +kernel
theorem dX5_take_1 : decode cX5_take 1 = .ok (.invokestatic 110, 3) := by decide +kernel
theorem dX5_take_4 : decode cX5_take 4 = .ok (.ifCond .eq 12, 3) := by decide +kernel
theorem dX5_take_7 : decode cX5_take 7 = .ok (.aload_n 0, 1) := by decide +kernel
theorem dX5_take_8 : decode cX5_take 8 = .ok (.iload_n 1, 1) := by decide +kernel
theorem dX5_take_9 : decode cX5_take 9 = .ok (.iload_n 2, 1) := by decide +kernel
theorem dX5_take_10 : decode cX5_take 10 = .ok (.invokevirtual 117, 3) := by decide +kernel
theorem dX5_take_13 : decode cX5_take 13 = .ok (.ifCond .ge 6, 3) := by decide +kernel
theorem dX5_take_16 : decode cX5_take 16 = .ok (.bipush (-11), 2) := by decide +kernel
theorem dX5_take_18 : decode cX5_take 18 = .ok (.ireturn, 1) := by decide +kernel
theorem dX5_take_19 : decode cX5_take 19 = .ok (.aload_n 0, 1) := by decide +kernel
theorem dX5_take_20 : decode cX5_take 20 = .ok (.invokevirtual 127, 3) := by decide +kernel
theorem dX5_take_23 : decode cX5_take 23 = .ok (.aload_n 0, 1) := by decide +kernel
theorem dX5_take_24 : decode cX5_take 24 = .ok (.iload_n 1, 1) := by decide +kernel
theorem dX5_take_25 : decode cX5_take 25 = .ok (.iload_n 2, 1) := by decide +kernel
theorem dX5_take_26 : decode cX5_take 26 = .ok (.invokevirtual 117, 3) := by decide +kernel
theorem dX5_take_29 : decode cX5_take 29 = .ok (.istore_n 3, 1) := by decide +kernel
theorem dX5_take_30 : decode cX5_take 30 = .ok (.aload_n 0, 1) := by decide +kernel
theorem dX5_take_31 : decode cX5_take 31 = .ok (.iload_n 1, 1) := by decide +kernel
theorem dX5_take_32 : decode cX5_take 32 = .ok (.iload_n 3, 1) := by decide +kernel
theorem dX5_take_33 : decode cX5_take 33 = .ok (.iconst 1, 1) := by decide +kernel
theorem dX5_take_34 : decode cX5_take 34 = .ok (.invokevirtual 62, 3) := by decide +kernel
theorem dX5_take_37 : decode cX5_take 37 = .ok (.istore 4, 2) := by decide +kernel
theorem dX5_take_39 : decode cX5_take 39 = .ok (.aload_n 0, 1) := by decide +kernel
theorem dX5_take_40 : decode cX5_take 40 = .ok (.iload_n 1, 1) := by decide +kernel
theorem dX5_take_41 : decode cX5_take 41 = .ok (.iload_n 3, 1) := by decide +kernel
theorem dX5_take_42 : decode cX5_take 42 = .ok (.invokevirtual 155, 3) := by decide +kernel
theorem dX5_take_45 : decode cX5_take 45 = .ok (.aload_n 0, 1) := by decide +kernel
theorem dX5_take_46 : decode cX5_take 46 = .ok (.iload_n 1, 1) := by decide +kernel
theorem dX5_take_47 : decode cX5_take 47 = .ok (.iload_n 3, 1) := by decide +kernel
theorem dX5_take_48 : decode cX5_take 48 = .ok (.invokevirtual 158, 3) := by decide +kernel
theorem dX5_take_51 : decode cX5_take 51 = .ok (.aload_n 0, 1) := by decide +kernel
theorem dX5_take_52 : decode cX5_take 52 = .ok (.getfield 9, 3) := by decide +kernel
theorem dX5_take_55 : decode cX5_take 55 = .ok (.iconst 2, 1) := by decide +kernel
theorem dX5_take_56 : decode cX5_take 56 = .ok (.dup2, 1) := by decide +kernel
theorem dX5_take_57 : decode cX5_take 57 = .ok (.iaload, 1) := by decide +kernel
theorem dX5_take_58 : decode cX5_take 58 = .ok (.iconst 1, 1) := by decide +kernel
theorem dX5_take_59 : decode cX5_take 59 = .ok (.iadd, 1) := by decide +kernel
theorem dX5_take_60 : decode cX5_take 60 = .ok (.iastore, 1) := by decide +kernel
theorem dX5_take_61 : decode cX5_take 61 = .ok (.bipush 100, 2) := by decide +kernel
theorem dX5_take_63 : decode cX5_take 63 = .ok (.aload_n 0, 1) := by decide +kernel
theorem dX5_take_64 : decode cX5_take 64 = .ok (.iload_n 1, 1) := by decide +kernel
theorem dX5_take_65 : decode cX5_take 65 = .ok (.invokevirtual 124, 3) := by decide +kernel
theorem dX5_take_68 : decode cX5_take 68 = .ok (.imul, 1) := by decide +kernel
theorem dX5_take_69 : decode cX5_take 69 = .ok (.aload_n 0, 1) := by decide +kernel
theorem dX5_take_70 : decode cX5_take 70 = .ok (.getfield 9, 3) := by decide +kernel
theorem dX5_take_73 : decode cX5_take 73 = .ok (.iconst 0, 1) := by decide +kernel
theorem dX5_take_74 : decode cX5_take 74 = .ok (.iaload, 1) := by decide +kernel
theorem dX5_take_75 : decode cX5_take 75 = .ok (.aload_n 0, 1) := by decide +kernel
theorem dX5_take_76 : decode cX5_take 76 = .ok (.iload_n 1, 1) := by decide +kernel
theorem dX5_take_77 : decode cX5_take 77 = .ok (.invokevirtual 136, 3) := by decide +kernel
theorem dX5_take_80 : decode cX5_take 80 = .ok (.imul, 1) := by decide +kernel
theorem dX5_take_81 : decode cX5_take 81 = .ok (.if_icmp .ge 8, 3) := by decide +kernel
theorem dX5_take_84 : decode cX5_take 84 = .ok (.aload_n 0, 1) := by decide +kernel
theorem dX5_take_85 : decode cX5_take 85 = .ok (.iload_n 1, 1) := by decide +kernel
theorem dX5_take_86 : decode cX5_take 86 = .ok (.invokevirtual 161, 3) := by decide +kernel
theorem dX5_take_89 : decode cX5_take 89 = .ok (.iload 4, 2) := by decide +kernel
theorem dX5_take_91 : decode cX5_take 91 = .ok (.ireturn, 1) := by decide +kernel
theorem dX5_build_0 : decode cX5_build 0 = .ok (.iload_n 1, 1) := by decide +kernel
theorem dX5_build_1 : decode cX5_build 1 = .ok (.invokestatic 110, 3) := by decide +kernel
theorem dX5_build_4 : decode cX5_build 4 = .ok (.ifCond .ne 6, 3) := by decide +kernel
theorem dX5_build_7 : decode cX5_build 7 = .ok (.bipush (-11), 2) := by decide +kernel
theorem dX5_build_9 : decode cX5_build 9 = .ok (.ireturn, 1) := by decide +kernel
theorem dX5_build_10 : decode cX5_build 10 = .ok (.aload_n 0, 1) := by decide +kernel
theorem dX5_build_11 : decode cX5_build 11 = .ok (.aload_n 0, 1) := by decide +kernel
theorem dX5_build_12 : decode cX5_build 12 = .ok (.iload_n 1, 1) := by decide +kernel
theorem dX5_build_13 : decode cX5_build 13 = .ok (.invokevirtual 124, 3) := by decide +kernel
theorem dX5_build_16 : decode cX5_build 16 = .ok (.ifCond .ne 7, 3) := by decide +kernel
theorem dX5_build_19 : decode cX5_build 19 = .ok (.iconst 1, 1) := by decide +kernel
theorem dX5_build_20 : decode cX5_build 20 = .ok (.goto 4, 3) := by decide +kernel
theorem dX5_build_23 : decode cX5_build 23 = .ok (.iconst 0, 1) := by decide +kernel
theorem dX5_build_24 : decode cX5_build 24 = .ok (.iconst 5, 1) := by decide +kernel
theorem dX5_build_25 : decode cX5_build 25 = .ok (.iload_n 1, 1) := by decide +kernel
theorem dX5_build_26 : decode cX5_build 26 = .ok (.invokevirtual 120, 3) := by decide +kernel
theorem dX5_build_29 : decode cX5_build 29 = .ok (.ifCond .eq 6, 3) := by decide +kernel
theorem dX5_build_32 : decode cX5_build 32 = .ok (.bipush (-14), 2) := by decide +kernel
theorem dX5_build_34 : decode cX5_build 34 = .ok (.ireturn, 1) := by decide +kernel
theorem dX5_build_35 : decode cX5_build 35 = .ok (.aload_n 0, 1) := by decide +kernel
theorem dX5_build_36 : decode cX5_build 36 = .ok (.invokevirtual 127, 3) := by decide +kernel
theorem dX5_build_39 : decode cX5_build 39 = .ok (.aload_n 0, 1) := by decide +kernel
theorem dX5_build_40 : decode cX5_build 40 = .ok (.iload_n 1, 1) := by decide +kernel
theorem dX5_build_41 : decode cX5_build 41 = .ok (.invokevirtual 100, 3) := by decide +kernel
theorem dX5_build_44 : decode cX5_build 44 = .ok (.iconst 0, 1) := by decide +kernel
theorem dX5_build_45 : decode cX5_build 45 = .ok (.istore_n 2, 1) := by decide +kernel
theorem dX5_build_46 : decode cX5_build 46 = .ok (.iload_n 2, 1) := by decide +kernel
theorem dX5_build_47 : decode cX5_build 47 = .ok (.aload_n 0, 1) := by decide +kernel
theorem dX5_build_48 : decode cX5_build 48 = .ok (.getfield 84, 3) := by decide +kernel
theorem dX5_build_51 : decode cX5_build 51 = .ok (.if_icmp .ge 31, 3) := by decide +kernel
theorem dX5_build_54 : decode cX5_build 54 = .ok (.aload_n 0, 1) := by decide +kernel
theorem dX5_build_55 : decode cX5_build 55 = .ok (.getfield 27, 3) := by decide +kernel
theorem dX5_build_58 : decode cX5_build 58 = .ok (.aload_n 0, 1) := by decide +kernel
theorem dX5_build_59 : decode cX5_build 59 = .ok (.getfield 24, 3) := by decide +kernel
theorem dX5_build_62 : decode cX5_build 62 = .ok (.iload_n 2, 1) := by decide +kernel
theorem dX5_build_63 : decode cX5_build 63 = .ok (.iaload, 1) := by decide +kernel
theorem dX5_build_64 : decode cX5_build 64 = .ok (.aload_n 0, 1) := by decide +kernel
theorem dX5_build_65 : decode cX5_build 65 = .ok (.iload_n 1, 1) := by decide +kernel
theorem dX5_build_66 : decode cX5_build 66 = .ok (.aload_n 0, 1) := by decide +kernel
theorem dX5_build_67 : decode cX5_build 67 = .ok (.getfield 24, 3) := by decide +kernel
theorem dX5_build_70 : decode cX5_build 70 = .ok (.iload_n 2, 1) := by decide +kernel
theorem dX5_build_71 : decode cX5_build 71 = .ok (.iaload, 1) := by decide +kernel
theorem dX5_build_72 : decode cX5_build 72 = .ok (.invokevirtual 139, 3) := by decide +kernel
theorem dX5_build_75 : decode cX5_build 75 = .ok (.iastore, 1) := by decide +kernel
theorem dX5_build_76 : decode cX5_build 76 = .ok (.iinc 2 1, 3) := by decide +kernel
theorem dX5_build_79 : decode cX5_build 79 = .ok (.goto (-33), 3) := by decide +kernel
theorem dX5_build_82 : decode cX5_build 82 = .ok (.aload_n 0, 1) := by decide +kernel
theorem dX5_build_83 : decode cX5_build 83 = .ok (.iload_n 1, 1) := by decide +kernel
theorem dX5_build_84 : decode cX5_build 84 = .ok (.invokevirtual 161, 3) := by decide +kernel
theorem dX5_build_87 : decode cX5_build 87 = .ok (.iconst 0, 1) := by decide +kernel
theorem dX5_build_88 : decode cX5_build 88 = .ok (.istore_n 2, 1) := by decide +kernel
theorem dX5_build_89 : decode cX5_build 89 = .ok (.iconst 0, 1) := by decide +kernel
theorem dX5_build_90 : decode cX5_build 90 = .ok (.istore_n 3, 1) := by decide +kernel
theorem dX5_build_91 : decode cX5_build 91 = .ok (.iload_n 3, 1) := by decide +kernel
theorem dX5_build_92 : decode cX5_build 92 = .ok (.aload_n 0, 1) := by decide +kernel
theorem dX5_build_93 : decode cX5_build 93 = .ok (.getfield 84, 3) := by decide +kernel
theorem dX5_build_96 : decode cX5_build 96 = .ok (.if_icmp .ge 42, 3) := by decide +kernel
theorem dX5_build_99 : decode cX5_build 99 = .ok (.iload_n 2, 1) := by decide +kernel
theorem dX5_build_100 : decode cX5_build 100 = .ok (.aload_n 0, 1) := by decide +kernel
theorem dX5_build_101 : decode cX5_build 101 = .ok (.getfield 27, 3) := by decide +kernel
theorem dX5_build_104 : decode cX5_build 104 = .ok (.aload_n 0, 1) := by decide +kernel
theorem dX5_build_105 : decode cX5_build 105 = .ok (.getfield 24, 3) := by decide +kernel
theorem dX5_build_108 : decode cX5_build 108 = .ok (.iload_n 3, 1) := by decide +kernel
theorem dX5_build_109 : decode cX5_build 109 = .ok (.iaload, 1) := by decide +kernel
theorem dX5_build_110 : decode cX5_build 110 = .ok (.iaload, 1) := by decide +kernel
theorem dX5_build_111 : decode cX5_build 111 = .ok (.aload_n 0, 1) := by decide +kernel
theorem dX5_build_112 : decode cX5_build 112 = .ok (.iload_n 1, 1) := by decide +kernel
theorem dX5_build_113 : decode cX5_build 113 = .ok (.aload_n 0, 1) := by decide +kernel
theorem dX5_build_114 : decode cX5_build 114 = .ok (.getfield 24, 3) := by decide +kernel
theorem dX5_build_117 : decode cX5_build 117 = .ok (.iload_n 3, 1) := by decide +kernel
theorem dX5_build_118 : decode cX5_build 118 = .ok (.iaload, 1) := by decide +kernel
theorem dX5_build_119 : decode cX5_build 119 = .ok (.invokevirtual 139, 3) := by decide +kernel
theorem dX5_build_122 : decode cX5_build 122 = .ok (.if_icmp .eq 7, 3) := by decide +kernel
theorem dX5_build_125 : decode cX5_build 125 = .ok (.iconst 1, 1) := by decide +kernel
theorem dX5_build_126 : decode cX5_build 126 = .ok (.goto 4, 3) := by decide +kernel
theorem dX5_build_129 : decode cX5_build 129 = .ok (.iconst 0, 1) := by decide +kernel
theorem dX5_build_130 : decode cX5_build 130 = .ok (.iadd, 1) := by decide +kernel
theorem dX5_build_131 : decode cX5_build 131 = .ok (.istore_n 2, 1) := by decide +kernel
theorem dX5_build_132 : decode cX5_build 132 = .ok (.iinc 3 1, 3) := by decide +kernel
theorem dX5_build_135 : decode cX5_build 135 = .ok (.goto (-44), 3) := by decide +kernel
theorem dX5_build_138 : decode cX5_build 138 = .ok (.iload_n 2, 1) := by decide +kernel
theorem dX5_build_139 : decode cX5_build 139 = .ok (.ireturn, 1) := by decide +kernel
theorem dX5_common_0 : decode cX5_common 0 = .ok (.aload_n 0, 1) := by decide +kernel
theorem dX5_common_1 : decode cX5_common 1 = .ok (.iload_n 1, 1) := by decide +kernel
theorem dX5_common_2 : decode cX5_common 2 = .ok (.invokevirtual 100, 3) := by decide +kernel
theorem dX5_common_5 : decode cX5_common 5 = .ok (.iconst 0, 1) := by decide +kernel
theorem dX5_common_6 : decode cX5_common 6 = .ok (.istore_n 3, 1) := by decide +kernel
theorem dX5_common_7 : decode cX5_common 7 = .ok (.iload_n 3, 1) := by decide +kernel
theorem dX5_common_8 : decode cX5_common 8 = .ok (.aload_n 0, 1) := by decide +kernel
theorem dX5_common_9 : decode cX5_common 9 = .ok (.getfield 84, 3) := by decide +kernel
theorem dX5_common_12 : decode cX5_common 12 = .ok (.if_icmp .ge 42, 3) := by decide +kernel
theorem dX5_common_15 : decode cX5_common 15 = .ok (.aload_n 0, 1) := by decide +kernel
theorem dX5_common_16 : decode cX5_common 16 = .ok (.iload_n 2, 1) := by decide +kernel
theorem dX5_common_17 : decode cX5_common 17 = .ok (.aload_n 0, 1) := by decide +kernel
theorem dX5_common_18 : decode cX5_common 18 = .ok (.iload_n 1, 1) := by decide +kernel
theorem dX5_common_19 : decode cX5_common 19 = .ok (.aload_n 0, 1) := by decide +kernel
theorem dX5_common_20 : decode cX5_common 20 = .ok (.getfield 24, 3) := by decide +kernel
theorem dX5_common_23 : decode cX5_common 23 = .ok (.iload_n 3, 1) := by decide +kernel
theorem dX5_common_24 : decode cX5_common 24 = .ok (.iaload, 1) := by decide +kernel
theorem dX5_common_25 : decode cX5_common 25 = .ok (.iconst 0, 1) := by decide +kernel
theorem dX5_common_26 : decode cX5_common 26 = .ok (.invokevirtual 62, 3) := by decide +kernel
theorem dX5_common_29 : decode cX5_common 29 = .ok (.invokevirtual 117, 3) := by decide +kernel
theorem dX5_common_32 : decode cX5_common 32 = .ok (.ifCond .lt 16, 3) := by decide +kernel
theorem dX5_common_35 : decode cX5_common 35 = .ok (.aload_n 0, 1) := by decide +kernel
theorem dX5_common_36 : decode cX5_common 36 = .ok (.iload_n 1, 1) := by decide +kernel
theorem dX5_common_37 : decode cX5_common 37 = .ok (.aload_n 0, 1) := by decide +kernel
theorem dX5_common_38 : decode cX5_common 38 = .ok (.getfield 24, 3) := by decide +kernel
theorem dX5_common_41 : decode cX5_common 41 = .ok (.iload_n 3, 1) := by decide +kernel
theorem dX5_common_42 : decode cX5_common 42 = .ok (.iaload, 1) := by decide +kernel
theorem dX5_common_43 : decode cX5_common 43 = .ok (.iconst 0, 1) := by decide +kernel
theorem dX5_common_44 : decode cX5_common 44 = .ok (.invokevirtual 62, 3) := by decide +kernel
theorem dX5_common_47 : decode cX5_common 47 = .ok (.ireturn, 1) := by decide +kernel
theorem dX5_common_48 : decode cX5_common 48 = .ok (.iinc 3 1, 3) := by decide +kernel
theorem dX5_common_51 : decode cX5_common 51 = .ok (.goto (-44), 3) := by decide +kernel
theorem dX5_common_54 : decode cX5_common 54 = .ok (.iconst (-1), 1) := by decide +kernel
theorem dX5_common_55 : decode cX5_common 55 = .ok (.ireturn, 1) := by decide +kernel
theorem dX5_pour_0 : decode cX5_pour 0 = .ok (.iload_n 1, 1) := by decide +kernel
theorem dX5_pour_1 : decode cX5_pour 1 = .ok (.invokestatic 110, 3) := by decide +kernel
theorem dX5_pour_4 : decode cX5_pour 4 = .ok (.ifCond .eq 10, 3) := by decide +kernel
theorem dX5_pour_7 : decode cX5_pour 7 = .ok (.iload_n 2, 1) := by decide +kernel
theorem dX5_pour_8 : decode cX5_pour 8 = .ok (.invokestatic 110, 3) := by decide +kernel
theorem dX5_pour_11 : decode cX5_pour 11 = .ok (.ifCond .ne 6, 3) := by decide +kernel
theorem dX5_pour_14 : decode cX5_pour 14 = .ok (.bipush (-11), 2) := by decide +kernel
theorem dX5_pour_16 : decode cX5_pour 16 = .ok (.ireturn, 1) := by decide +kernel
theorem dX5_pour_17 : decode cX5_pour 17 = .ok (.aload_n 0, 1) := by decide +kernel
theorem dX5_pour_18 : decode cX5_pour 18 = .ok (.iload_n 1, 1) := by decide +kernel
theorem dX5_pour_19 : decode cX5_pour 19 = .ok (.invokevirtual 124, 3) := by decide +kernel
theorem dX5_pour_22 : decode cX5_pour 22 = .ok (.aload_n 0, 1) := by decide +kernel
theorem dX5_pour_23 : decode cX5_pour 23 = .ok (.iload_n 2, 1) := by decide +kernel
theorem dX5_pour_24 : decode cX5_pour 24 = .ok (.invokevirtual 124, 3) := by decide +kernel
theorem dX5_pour_27 : decode cX5_pour 27 = .ok (.iadd, 1) := by decide +kernel
theorem dX5_pour_28 : decode cX5_pour 28 = .ok (.istore_n 3, 1) := by decide +kernel
theorem dX5_pour_29 : decode cX5_pour 29 = .ok (.aload_n 0, 1) := by decide +kernel
theorem dX5_pour_30 : decode cX5_pour 30 = .ok (.iload_n 1, 1) := by decide +kernel
theorem dX5_pour_31 : decode cX5_pour 31 = .ok (.iload_n 2, 1) := by decide +kernel
theorem dX5_pour_32 : decode cX5_pour 32 = .ok (.if_icmp .ne 7, 3) := by decide +kernel
theorem dX5_pour_35 : decode cX5_pour 35 = .ok (.iconst 1, 1) := by decide +kernel
theorem dX5_pour_36 : decode cX5_pour 36 = .ok (.goto 4, 3) := by decide +kernel
theorem dX5_pour_39 : decode cX5_pour 39 = .ok (.iconst 0, 1) := by decide +kernel
theorem dX5_pour_40 : decode cX5_pour 40 = .ok (.iconst 3, 1) := by decide +kernel
theorem dX5_pour_41 : decode cX5_pour 41 = .ok (.iload_n 1, 1) := by decide +kernel
theorem dX5_pour_42 : decode cX5_pour 42 = .ok (.invokevirtual 120, 3) := by decide +kernel
theorem dX5_pour_45 : decode cX5_pour 45 = .ok (.ifCond .ne 45, 3) := by decide +kernel
theorem dX5_pour_48 : decode cX5_pour 48 = .ok (.aload_n 0, 1) := by decide +kernel
theorem dX5_pour_49 : decode cX5_pour 49 = .ok (.aload_n 0, 1) := by decide +kernel
theorem dX5_pour_50 : decode cX5_pour 50 = .ok (.iload_n 1, 1) := by decide +kernel
theorem dX5_pour_51 : decode cX5_pour 51 = .ok (.invokevirtual 124, 3) := by decide +kernel
theorem dX5_pour_54 : decode cX5_pour 54 = .ok (.ifCond .ne 7, 3) := by decide +kernel
theorem dX5_pour_57 : decode cX5_pour 57 = .ok (.iconst 1, 1) := by decide +kernel
theorem dX5_pour_58 : decode cX5_pour 58 = .ok (.goto 4, 3) := by decide +kernel
theorem dX5_pour_61 : decode cX5_pour 61 = .ok (.iconst 0, 1) := by decide +kernel
theorem dX5_pour_62 : decode cX5_pour 62 = .ok (.iconst 5, 1) := by decide +kernel
theorem dX5_pour_63 : decode cX5_pour 63 = .ok (.iload_n 1, 1) := by decide +kernel
theorem dX5_pour_64 : decode cX5_pour 64 = .ok (.invokevirtual 120, 3) := by decide +kernel
theorem dX5_pour_67 : decode cX5_pour 67 = .ok (.ifCond .ne 23, 3) := by decide +kernel
theorem dX5_pour_70 : decode cX5_pour 70 = .ok (.aload_n 0, 1) := by decide +kernel
theorem dX5_pour_71 : decode cX5_pour 71 = .ok (.iload_n 3, 1) := by decide +kernel
theorem dX5_pour_72 : decode cX5_pour 72 = .ok (.bipush 30, 2) := by decide +kernel
theorem dX5_pour_74 : decode cX5_pour 74 = .ok (.if_icmp .le 7, 3) := by decide +kernel
theorem dX5_pour_77 : decode cX5_pour 77 = .ok (.iconst 1, 1) := by decide +kernel
theorem dX5_pour_78 : decode cX5_pour 78 = .ok (.goto 4, 3) := by decide +kernel
theorem dX5_pour_81 : decode cX5_pour 81 = .ok (.iconst 0, 1) := by decide +kernel
theorem dX5_pour_82 : decode cX5_pour 82 = .ok (.iconst 1, 1) := by decide +kernel
theorem dX5_pour_83 : decode cX5_pour 83 = .ok (.iload_n 3, 1) := by decide +kernel
theorem dX5_pour_84 : decode cX5_pour 84 = .ok (.invokevirtual 120, 3) := by decide +kernel
theorem dX5_pour_87 : decode cX5_pour 87 = .ok (.ifCond .eq 6, 3) := by decide +kernel
theorem dX5_pour_90 : decode cX5_pour 90 = .ok (.bipush (-14), 2) := by decide +kernel
theorem dX5_pour_92 : decode cX5_pour 92 = .ok (.ireturn, 1) := by decide +kernel
theorem dX5_pour_93 : decode cX5_pour 93 = .ok (.aload_n 0, 1) := by decide +kernel
theorem dX5_pour_94 : decode cX5_pour 94 = .ok (.iload_n 1, 1) := by decide +kernel
theorem dX5_pour_95 : decode cX5_pour 95 = .ok (.iload_n 2, 1) := by decide +kernel
theorem dX5_pour_96 : decode cX5_pour 96 = .ok (.invokevirtual 164, 3) := by decide +kernel
theorem dX5_pour_99 : decode cX5_pour 99 = .ok (.istore 4, 2) := by decide +kernel
theorem dX5_pour_101 : decode cX5_pour 101 = .ok (.aload_n 0, 1) := by decide +kernel
theorem dX5_pour_102 : decode cX5_pour 102 = .ok (.iload 4, 2) := by decide +kernel
theorem dX5_pour_104 : decode cX5_pour 104 = .ok (.ifCond .lt 7, 3) := by decide +kernel
theorem dX5_pour_107 : decode cX5_pour 107 = .ok (.iconst 1, 1) := by decide +kernel
theorem dX5_pour_108 : decode cX5_pour 108 = .ok (.goto 4, 3) := by decide +kernel
theorem dX5_pour_111 : decode cX5_pour 111 = .ok (.iconst 0, 1) := by decide +kernel
theorem dX5_pour_112 : decode cX5_pour 112 = .ok (.iconst 2, 1) := by decide +kernel
theorem dX5_pour_113 : decode cX5_pour 113 = .ok (.iload 4, 2) := by decide +kernel
theorem dX5_pour_115 : decode cX5_pour 115 = .ok (.invokevirtual 120, 3) := by decide +kernel
theorem dX5_pour_118 : decode cX5_pour 118 = .ok (.ifCond .eq 6, 3) := by decide +kernel
theorem dX5_pour_121 : decode cX5_pour 121 = .ok (.bipush (-14), 2) := by decide +kernel
theorem dX5_pour_123 : decode cX5_pour 123 = .ok (.ireturn, 1) := by decide +kernel
theorem dX5_pour_124 : decode cX5_pour 124 = .ok (.aload_n 0, 1) := by decide +kernel
theorem dX5_pour_125 : decode cX5_pour 125 = .ok (.invokevirtual 127, 3) := by decide +kernel
theorem dX5_pour_128 : decode cX5_pour 128 = .ok (.iconst 0, 1) := by decide +kernel
theorem dX5_pour_129 : decode cX5_pour 129 = .ok (.istore 5, 2) := by decide +kernel
theorem dX5_pour_131 : decode cX5_pour 131 = .ok (.iload 5, 2) := by decide +kernel
theorem dX5_pour_133 : decode cX5_pour 133 = .ok (.bipush 30, 2) := by decide +kernel
theorem dX5_pour_135 : decode cX5_pour 135 = .ok (.if_icmp .ge 53, 3) := by decide +kernel
theorem dX5_pour_138 : decode cX5_pour 138 = .ok (.aload_n 0, 1) := by decide +kernel
theorem dX5_pour_139 : decode cX5_pour 139 = .ok (.iload_n 1, 1) := by decide +kernel
theorem dX5_pour_140 : decode cX5_pour 140 = .ok (.iload 5, 2) := by decide +kernel
theorem dX5_pour_142 : decode cX5_pour 142 = .ok (.iconst 0, 1) := by decide +kernel
theorem dX5_pour_143 : decode cX5_pour 143 = .ok (.invokevirtual 62, 3) := by decide +kernel
theorem dX5_pour_146 : decode cX5_pour 146 = .ok (.ifCond .lt 36, 3) := by decide +kernel
theorem dX5_pour_149 : decode cX5_pour 149 = .ok (.aload_n 0, 1) := by decide +kernel
theorem dX5_pour_150 : decode cX5_pour 150 = .ok (.iload_n 2, 1) := by decide +kernel
theorem dX5_pour_151 : decode cX5_pour 151 = .ok (.aload_n 0, 1) := by decide +kernel
theorem dX5_pour_152 : decode cX5_pour 152 = .ok (.iload_n 2, 1) := by decide +kernel
theorem dX5_pour_153 : decode cX5_pour 153 = .ok (.aload_n 0, 1) := by decide +kernel
theorem dX5_pour_154 : decode cX5_pour 154 = .ok (.iload_n 1, 1) := by decide +kernel
theorem dX5_pour_155 : decode cX5_pour 155 = .ok (.iload 5, 2) := by decide +kernel
theorem dX5_pour_157 : decode cX5_pour 157 = .ok (.iconst 0, 1) := by decide +kernel
theorem dX5_pour_158 : decode cX5_pour 158 = .ok (.invokevirtual 62, 3) := by decide +kernel
theorem dX5_pour_161 : decode cX5_pour 161 = .ok (.aload_n 0, 1) := by decide +kernel
theorem dX5_pour_162 : decode cX5_pour 162 = .ok (.iload_n 1, 1) := by decide +kernel
theorem dX5_pour_163 : decode cX5_pour 163 = .ok (.iload 5, 2) := by decide +kernel
theorem dX5_pour_165 : decode cX5_pour 165 = .ok (.iconst 1, 1) := by decide +kernel
theorem dX5_pour_166 : decode cX5_pour 166 = .ok (.invokevirtual 62, 3) := by decide +kernel
theorem dX5_pour_169 : decode cX5_pour 169 = .ok (.invokevirtual 130, 3) := by decide +kernel
theorem dX5_pour_172 : decode cX5_pour 172 = .ok (.invokevirtual 133, 3) := by decide +kernel
theorem dX5_pour_175 : decode cX5_pour 175 = .ok (.aload_n 0, 1) := by decide +kernel
theorem dX5_pour_176 : decode cX5_pour 176 = .ok (.iload_n 1, 1) := by decide +kernel
theorem dX5_pour_177 : decode cX5_pour 177 = .ok (.iload 5, 2) := by decide +kernel
theorem dX5_pour_179 : decode cX5_pour 179 = .ok (.invokevirtual 158, 3) := by decide +kernel
theorem dX5_pour_182 : decode cX5_pour 182 = .ok (.iinc 5 1, 3) := by decide +kernel
theorem dX5_pour_185 : decode cX5_pour 185 = .ok (.goto (-54), 3) := by decide +kernel
theorem dX5_pour_188 : decode cX5_pour 188 = .ok (.aload_n 0, 1) := by decide +kernel
theorem dX5_pour_189 : decode cX5_pour 189 = .ok (.iload_n 1, 1) := by decide +kernel
theorem dX5_pour_190 : decode cX5_pour 190 = .ok (.iconst (-1), 1) := by decide +kernel
theorem dX5_pour_191 : decode cX5_pour 191 = .ok (.invokevirtual 94, 3) := by decide +kernel
theorem dX5_pour_194 : decode cX5_pour 194 = .ok (.aload_n 0, 1) := by decide +kernel
theorem dX5_pour_195 : decode cX5_pour 195 = .ok (.iload_n 1, 1) := by decide +kernel
theorem dX5_pour_196 : decode cX5_pour 196 = .ok (.iconst 0, 1) := by decide +kernel
theorem dX5_pour_197 : decode cX5_pour 197 = .ok (.invokevirtual 104, 3) := by decide +kernel
theorem dX5_pour_200 : decode cX5_pour 200 = .ok (.aload_n 0, 1) := by decide +kernel
theorem dX5_pour_201 : decode cX5_pour 201 = .ok (.iload_n 2, 1) := by decide +kernel
theorem dX5_pour_202 : decode cX5_pour 202 = .ok (.invokevirtual 161, 3) := by decide +kernel
theorem dX5_pour_205 : decode cX5_pour 205 = .ok (.aload_n 0, 1) := by decide +kernel
theorem dX5_pour_206 : decode cX5_pour 206 = .ok (.getfield 9, 3) := by decide +kernel
theorem dX5_pour_209 : decode cX5_pour 209 = .ok (.bipush 6, 2) := by decide +kernel
theorem dX5_pour_211 : decode cX5_pour 211 = .ok (.dup2, 1) := by decide +kernel
theorem dX5_pour_212 : decode cX5_pour 212 = .ok (.iaload, 1) := by decide +kernel
theorem dX5_pour_213 : decode cX5_pour 213 = .ok (.iconst 1, 1) := by decide +kernel
theorem dX5_pour_214 : decode cX5_pour 214 = .ok (.iadd, 1) := by decide +kernel
theorem dX5_pour_215 : decode cX5_pour 215 = .ok (.iastore, 1) := by decide +kernel
theorem dX5_pour_216 : decode cX5_pour 216 = .ok (.iload_n 3, 1) := by decide +kernel
theorem dX5_pour_217 : decode cX5_pour 217 = .ok (.ireturn, 1) := by decide +kernel
theorem dX5_limit_0 : decode cX5_limit 0 = .ok (.iload_n 1, 1) := by decide +kernel
theorem dX5_limit_1 : decode cX5_limit 1 = .ok (.bipush 55, 2) := by decide +kernel
theorem dX5_limit_3 : decode cX5_limit 3 = .ok (.bipush 90, 2) := by decide +kernel
theorem dX5_limit_5 : decode cX5_limit 5 = .ok (.invokestatic 58, 3) := by decide +kernel
theorem dX5_limit_8 : decode cX5_limit 8 = .ok (.ifCond .ne 6, 3) := by decide +kernel
theorem dX5_limit_11 : decode cX5_limit 11 = .ok (.bipush (-12), 2) := by decide +kernel
theorem dX5_limit_13 : decode cX5_limit 13 = .ok (.ireturn, 1) := by decide +kernel
theorem dX5_limit_14 : decode cX5_limit 14 = .ok (.aload_n 0, 1) := by decide +kernel
theorem dX5_limit_15 : decode cX5_limit 15 = .ok (.aload_n 0, 1) := by decide +kernel
theorem dX5_limit_16 : decode cX5_limit 16 = .ok (.getfield 9, 3) := by decide +kernel
theorem dX5_limit_19 : decode cX5_limit 19 = .ok (.iconst 0, 1) := by decide +kernel
theorem dX5_limit_20 : decode cX5_limit 20 = .ok (.iaload, 1) := by decide +kernel
theorem dX5_limit_21 : decode cX5_limit 21 = .ok (.iload_n 1, 1) := by decide +kernel
theorem dX5_limit_22 : decode cX5_limit 22 = .ok (.if_icmp .ne 7, 3) := by decide +kernel
theorem dX5_limit_25 : decode cX5_limit 25 = .ok (.iconst 1, 1) := by decide +kernel
theorem dX5_limit_26 : decode cX5_limit 26 = .ok (.goto 4, 3) := by decide +kernel
theorem dX5_limit_29 : decode cX5_limit 29 = .ok (.iconst 0, 1) := by decide +kernel
theorem dX5_limit_30 : decode cX5_limit 30 = .ok (.iconst 4, 1) := by decide +kernel
theorem dX5_limit_31 : decode cX5_limit 31 = .ok (.iload_n 1, 1) := by decide +kernel
theorem dX5_limit_32 : decode cX5_limit 32 = .ok (.invokevirtual 120, 3) := by decide +kernel
theorem dX5_limit_35 : decode cX5_limit 35 = .ok (.ifCond .eq 6, 3) := by decide +kernel
theorem dX5_limit_38 : decode cX5_limit 38 = .ok (.bipush (-14), 2) := by decide +kernel
theorem dX5_limit_40 : decode cX5_limit 40 = .ok (.ireturn, 1) := by decide +kernel
theorem dX5_limit_41 : decode cX5_limit 41 = .ok (.aload_n 0, 1) := by decide +kernel
theorem dX5_limit_42 : decode cX5_limit 42 = .ok (.invokevirtual 127, 3) := by decide +kernel
theorem dX5_limit_45 : decode cX5_limit 45 = .ok (.aload_n 0, 1) := by decide +kernel
theorem dX5_limit_46 : decode cX5_limit 46 = .ok (.getfield 9, 3) := by decide +kernel
theorem dX5_limit_49 : decode cX5_limit 49 = .ok (.iconst 0, 1) := by decide +kernel
theorem dX5_limit_50 : decode cX5_limit 50 = .ok (.iaload, 1) := by decide +kernel
theorem dX5_limit_51 : decode cX5_limit 51 = .ok (.istore_n 2, 1) := by decide +kernel
theorem dX5_limit_52 : decode cX5_limit 52 = .ok (.aload_n 0, 1) := by decide +kernel
theorem dX5_limit_53 : decode cX5_limit 53 = .ok (.getfield 9, 3) := by decide +kernel
theorem dX5_limit_56 : decode cX5_limit 56 = .ok (.iconst 0, 1) := by decide +kernel
theorem dX5_limit_57 : decode cX5_limit 57 = .ok (.iload_n 1, 1) := by decide +kernel
theorem dX5_limit_58 : decode cX5_limit 58 = .ok (.iastore, 1) := by decide +kernel
theorem dX5_limit_59 : decode cX5_limit 59 = .ok (.iload_n 2, 1) := by decide +kernel
theorem dX5_limit_60 : decode cX5_limit 60 = .ok (.ireturn, 1) := by decide +kernel
theorem dX5_weightOr_0 : decode cX5_weightOr 0 = .ok (.iload_n 2, 1) := by decide +kernel
theorem dX5_weightOr_1 : decode cX5_weightOr 1 = .ok (.ifCond .ge 8, 3) := by decide +kernel
theorem dX5_weightOr_4 : decode cX5_weightOr 4 = .ok (.bipush (-15), 2) := by decide +kernel
theorem dX5_weightOr_6 : decode cX5_weightOr 6 = .ok (.goto 10, 3) := by decide +kernel
theorem dX5_weightOr_9 : decode cX5_weightOr 9 = .ok (.aload_n 0, 1) := by decide +kernel
theorem dX5_weightOr_10 : decode cX5_weightOr 10 = .ok (.iload_n 1, 1) := by decide +kernel
theorem dX5_weightOr_11 : decode cX5_weightOr 11 = .ok (.iload_n 2, 1) := by decide +kernel
theorem dX5_weightOr_12 : decode cX5_weightOr 12 = .ok (.iconst 0, 1) := by decide +kernel
theorem dX5_weightOr_13 : decode cX5_weightOr 13 = .ok (.invokevirtual 62, 3) := by decide +kernel
theorem dX5_weightOr_16 : decode cX5_weightOr 16 = .ok (.ireturn, 1) := by decide +kernel
theorem dX5_sheafOf_0 : decode cX5_sheafOf 0 = .ok (.iload_n 1, 1) := by decide +kernel
theorem dX5_sheafOf_1 : decode cX5_sheafOf 1 = .ok (.invokestatic 110, 3) := by decide +kernel
theorem dX5_sheafOf_4 : decode cX5_sheafOf 4 = .ok (.ifCond .eq 12, 3) := by decide +kernel
theorem dX5_sheafOf_7 : decode cX5_sheafOf 7 = .ok (.aload_n 0, 1) := by decide +kernel
theorem dX5_sheafOf_8 : decode cX5_sheafOf 8 = .ok (.iload_n 1, 1) := by decide +kernel
theorem dX5_sheafOf_9 : decode cX5_sheafOf 9 = .ok (.iload_n 2, 1) := by decide +kernel
theorem dX5_sheafOf_10 : decode cX5_sheafOf 10 = .ok (.invokevirtual 117, 3) := by decide +kernel
theorem dX5_sheafOf_13 : decode cX5_sheafOf 13 = .ok (.ifCond .ge 6, 3) := by decide +kernel
theorem dX5_sheafOf_16 : decode cX5_sheafOf 16 = .ok (.bipush (-11), 2) := by decide +kernel
theorem dX5_sheafOf_18 : decode cX5_sheafOf 18 = .ok (.ireturn, 1) := by decide +kernel
theorem dX5_sheafOf_19 : decode cX5_sheafOf 19 = .ok (.aload_n 0, 1) := by decide +kernel
theorem dX5_sheafOf_20 : decode cX5_sheafOf 20 = .ok (.iload_n 1, 1) := by decide +kernel
theorem dX5_sheafOf_21 : decode cX5_sheafOf 21 = .ok (.iload_n 2, 1) := by decide +kernel
theorem dX5_sheafOf_22 : decode cX5_sheafOf 22 = .ok (.invokevirtual 117, 3) := by decide +kernel
theorem dX5_sheafOf_25 : decode cX5_sheafOf 25 = .ok (.istore 4, 2) := by decide +kernel
theorem dX5_sheafOf_27 : decode cX5_sheafOf 27 = .ok (.iload_n 3, 1) := by decide +kernel
theorem dX5_sheafOf_28 : decode cX5_sheafOf 28 = .ok (.tableswitch 126 0 7 #[48, 57, 65, 73, 81, 97, 110, 110], 48) := by decide +kernel
theorem dX5_sheafOf_76 : decode cX5_sheafOf 76 = .ok (.aload_n 0, 1) := by decide +kernel
theorem dX5_sheafOf_77 : decode cX5_sheafOf 77 = .ok (.iload_n 1, 1) := by decide +kernel
theorem dX5_sheafOf_78 : decode cX5_sheafOf 78 = .ok (.iload 4, 2) := by decide +kernel
theorem dX5_sheafOf_80 : decode cX5_sheafOf 80 = .ok (.iconst 1, 1) := by decide +kernel
theorem dX5_sheafOf_81 : decode cX5_sheafOf 81 = .ok (.invokevirtual 62, 3) := by decide +kernel
theorem dX5_sheafOf_84 : decode cX5_sheafOf 84 = .ok (.ireturn, 1) := by decide +kernel
theorem dX5_sheafOf_85 : decode cX5_sheafOf 85 = .ok (.aload_n 0, 1) := by decide +kernel
theorem dX5_sheafOf_86 : decode cX5_sheafOf 86 = .ok (.iload_n 1, 1) := by decide +kernel
theorem dX5_sheafOf_87 : decode cX5_sheafOf 87 = .ok (.iload 4, 2) := by decide +kernel
theorem dX5_sheafOf_89 : decode cX5_sheafOf 89 = .ok (.invokevirtual 139, 3) := by decide +kernel
theorem dX5_sheafOf_92 : decode cX5_sheafOf 92 = .ok (.ireturn, 1) := by decide +kernel
theorem dX5_sheafOf_93 : decode cX5_sheafOf 93 = .ok (.aload_n 0, 1) := by decide +kernel
theorem dX5_sheafOf_94 : decode cX5_sheafOf 94 = .ok (.iload_n 1, 1) := by decide +kernel
theorem dX5_sheafOf_95 : decode cX5_sheafOf 95 = .ok (.iload 4, 2) := by decide +kernel
theorem dX5_sheafOf_97 : decode cX5_sheafOf 97 = .ok (.invokevirtual 66, 3) := by decide +kernel
theorem dX5_sheafOf_100 : decode cX5_sheafOf 100 = .ok (.ireturn, 1) := by decide +kernel
theorem dX5_sheafOf_101 : decode cX5_sheafOf 101 = .ok (.aload_n 0, 1) := by decide +kernel
theorem dX5_sheafOf_102 : decode cX5_sheafOf 102 = .ok (.iload_n 1, 1) := by decide +kernel
theorem dX5_sheafOf_103 : decode cX5_sheafOf 103 = .ok (.iload 4, 2) := by decide +kernel
theorem dX5_sheafOf_105 : decode cX5_sheafOf 105 = .ok (.invokevirtual 70, 3) := by decide +kernel
theorem dX5_sheafOf_108 : decode cX5_sheafOf 108 = .ok (.ireturn, 1) := by decide +kernel
theorem dX5_sheafOf_109 : decode cX5_sheafOf 109 = .ok (.aload_n 0, 1) := by decide +kernel
theorem dX5_sheafOf_110 : decode cX5_sheafOf 110 = .ok (.iload_n 1, 1) := by decide +kernel
theorem dX5_sheafOf_111 : decode cX5_sheafOf 111 = .ok (.iload 4, 2) := by decide +kernel
theorem dX5_sheafOf_113 : decode cX5_sheafOf 113 = .ok (.invokevirtual 145, 3) := by decide +kernel
theorem dX5_sheafOf_116 : decode cX5_sheafOf 116 = .ok (.ifCond .eq 7, 3) := by decide +kernel
theorem dX5_sheafOf_119 : decode cX5_sheafOf 119 = .ok (.iconst 1, 1) := by decide +kernel
theorem dX5_sheafOf_120 : decode cX5_sheafOf 120 = .ok (.goto 4, 3) := by decide +kernel
theorem dX5_sheafOf_123 : decode cX5_sheafOf 123 = .ok (.iconst 0, 1) := by decide +kernel
theorem dX5_sheafOf_124 : decode cX5_sheafOf 124 = .ok (.ireturn, 1) := by decide +kernel
theorem dX5_sheafOf_125 : decode cX5_sheafOf 125 = .ok (.aload_n 0, 1) := by decide +kernel
theorem dX5_sheafOf_126 : decode cX5_sheafOf 126 = .ok (.iload_n 1, 1) := by decide +kernel
theorem dX5_sheafOf_127 : decode cX5_sheafOf 127 = .ok (.aload_n 0, 1) := by decide +kernel
theorem dX5_sheafOf_128 : decode cX5_sheafOf 128 = .ok (.iload_n 1, 1) := by decide +kernel
theorem dX5_sheafOf_129 : decode cX5_sheafOf 129 = .ok (.iload 4, 2) := by decide +kernel
theorem dX5_sheafOf_131 : decode cX5_sheafOf 131 = .ok (.invokevirtual 77, 3) := by decide +kernel
theorem dX5_sheafOf_134 : decode cX5_sheafOf 134 = .ok (.invokevirtual 167, 3) := by decide +kernel
theorem dX5_sheafOf_137 : decode cX5_sheafOf 137 = .ok (.ireturn, 1) := by decide +kernel
theorem dX5_sheafOf_138 : decode cX5_sheafOf 138 = .ok (.aload_n 0, 1) := by decide +kernel
theorem dX5_sheafOf_139 : decode cX5_sheafOf 139 = .ok (.iload_n 1, 1) := by decide +kernel
theorem dX5_sheafOf_140 : decode cX5_sheafOf 140 = .ok (.aload_n 0, 1) := by decide +kernel
theorem dX5_sheafOf_141 : decode cX5_sheafOf 141 = .ok (.iload_n 1, 1) := by decide +kernel
theorem dX5_sheafOf_142 : decode cX5_sheafOf 142 = .ok (.iload 4, 2) := by decide +kernel
theorem dX5_sheafOf_144 : decode cX5_sheafOf 144 = .ok (.iload_n 3, 1) := by decide +kernel
theorem dX5_sheafOf_145 : decode cX5_sheafOf 145 = .ok (.iconst 4, 1) := by decide +kernel
theorem dX5_sheafOf_146 : decode cX5_sheafOf 146 = .ok (.isub, 1) := by decide +kernel
theorem dX5_sheafOf_147 : decode cX5_sheafOf 147 = .ok (.invokevirtual 62, 3) := by decide +kernel
theorem dX5_sheafOf_150 : decode cX5_sheafOf 150 = .ok (.invokevirtual 167, 3) := by decide +kernel
theorem dX5_sheafOf_153 : decode cX5_sheafOf 153 = .ok (.ireturn, 1) := by decide +kernel
theorem dX5_sheafOf_154 : decode cX5_sheafOf 154 = .ok (.bipush (-12), 2) := by decide +kernel
theorem dX5_sheafOf_156 : decode cX5_sheafOf 156 = .ok (.ireturn, 1) := by decide +kernel
theorem dX5_greatestDepth_0 : decode cX5_greatestDepth 0 = .ok (.iconst (-1), 1) := by decide +kernel
theorem dX5_greatestDepth_1 : decode cX5_greatestDepth 1 = .ok (.istore_n 2, 1) := by decide +kernel
theorem dX5_greatestDepth_2 : decode cX5_greatestDepth 2 = .ok (.aload_n 0, 1) := by decide +kernel
theorem dX5_greatestDepth_3 : decode cX5_greatestDepth 3 = .ok (.iload_n 1, 1) := by decide +kernel
theorem dX5_greatestDepth_4 : decode cX5_greatestDepth 4 = .ok (.invokevirtual 100, 3) := by decide +kernel
theorem dX5_greatestDepth_7 : decode cX5_greatestDepth 7 = .ok (.iconst 0, 1) := by decide +kernel
theorem dX5_greatestDepth_8 : decode cX5_greatestDepth 8 = .ok (.istore_n 3, 1) := by decide +kernel
theorem dX5_greatestDepth_9 : decode cX5_greatestDepth 9 = .ok (.iload_n 3, 1) := by decide +kernel
theorem dX5_greatestDepth_10 : decode cX5_greatestDepth 10 = .ok (.aload_n 0, 1) := by decide +kernel
theorem dX5_greatestDepth_11 : decode cX5_greatestDepth 11 = .ok (.getfield 84, 3) := by decide +kernel
theorem dX5_greatestDepth_14 : decode cX5_greatestDepth 14 = .ok (.if_icmp .ge 35, 3) := by decide +kernel
theorem dX5_greatestDepth_17 : decode cX5_greatestDepth 17 = .ok (.aload_n 0, 1) := by decide +kernel
theorem dX5_greatestDepth_18 : decode cX5_greatestDepth 18 = .ok (.iload_n 1, 1) := by decide +kernel
theorem dX5_greatestDepth_19 : decode cX5_greatestDepth 19 = .ok (.aload_n 0, 1) := by decide +kernel
theorem dX5_greatestDepth_20 : decode cX5_greatestDepth 20 = .ok (.getfield 24, 3) := by decide +kernel
theorem dX5_greatestDepth_23 : decode cX5_greatestDepth 23 = .ok (.iload_n 3, 1) := by decide +kernel
theorem dX5_greatestDepth_24 : decode cX5_greatestDepth 24 = .ok (.iaload, 1) := by decide +kernel
theorem dX5_greatestDepth_25 : decode cX5_greatestDepth 25 = .ok (.invokevirtual 139, 3) := by decide +kernel
theorem dX5_greatestDepth_28 : decode cX5_greatestDepth 28 = .ok (.istore 4, 2) := by decide +kernel
theorem dX5_greatestDepth_30 : decode cX5_greatestDepth 30 = .ok (.iload 4, 2) := by decide +kernel
theorem dX5_greatestDepth_32 : decode cX5_greatestDepth 32 = .ok (.iload_n 2, 1) := by decide +kernel
theorem dX5_greatestDepth_33 : decode cX5_greatestDepth 33 = .ok (.if_icmp .le 8, 3) := by decide +kernel
theorem dX5_greatestDepth_36 : decode cX5_greatestDepth 36 = .ok (.iload 4, 2) := by decide +kernel
theorem dX5_greatestDepth_38 : decode cX5_greatestDepth 38 = .ok (.goto 4, 3) := by decide +kernel
theorem dX5_greatestDepth_41 : decode cX5_greatestDepth 41 = .ok (.iload_n 2, 1) := by decide +kernel
theorem dX5_greatestDepth_42 : decode cX5_greatestDepth 42 = .ok (.istore_n 2, 1) := by decide +kernel
theorem dX5_greatestDepth_43 : decode cX5_greatestDepth 43 = .ok (.iinc 3 1, 3) := by decide +kernel
theorem dX5_greatestDepth_46 : decode cX5_greatestDepth 46 = .ok (.goto (-37), 3) := by decide +kernel
theorem dX5_greatestDepth_49 : decode cX5_greatestDepth 49 = .ok (.iload_n 2, 1) := by decide +kernel
theorem dX5_greatestDepth_50 : decode cX5_greatestDepth 50 = .ok (.ireturn, 1) := by decide +kernel
theorem dX5_leaning_0 : decode cX5_leaning 0 = .ok (.iconst 0, 1) := by decide +kernel
theorem dX5_leaning_1 : decode cX5_leaning 1 = .ok (.istore_n 2, 1) := by decide +kernel
theorem dX5_leaning_2 : decode cX5_leaning 2 = .ok (.aload_n 0, 1) := by decide +kernel
theorem dX5_leaning_3 : decode cX5_leaning 3 = .ok (.iload_n 1, 1) := by decide +kernel
theorem dX5_leaning_4 : decode cX5_leaning 4 = .ok (.invokevirtual 100, 3) := by decide +kernel
theorem dX5_leaning_7 : decode cX5_leaning 7 = .ok (.iconst 0, 1) := by decide +kernel
theorem dX5_leaning_8 : decode cX5_leaning 8 = .ok (.istore_n 3, 1) := by decide +kernel
theorem dX5_leaning_9 : decode cX5_leaning 9 = .ok (.iload_n 3, 1) := by decide +kernel
theorem dX5_leaning_10 : decode cX5_leaning 10 = .ok (.aload_n 0, 1) := by decide +kernel
theorem dX5_leaning_11 : decode cX5_leaning 11 = .ok (.getfield 84, 3) := by decide +kernel
theorem dX5_leaning_14 : decode cX5_leaning 14 = .ok (.if_icmp .ge 31, 3) := by decide +kernel
theorem dX5_leaning_17 : decode cX5_leaning 17 = .ok (.iload_n 2, 1) := by decide +kernel
theorem dX5_leaning_18 : decode cX5_leaning 18 = .ok (.aload_n 0, 1) := by decide +kernel
theorem dX5_leaning_19 : decode cX5_leaning 19 = .ok (.iload_n 1, 1) := by decide +kernel
theorem dX5_leaning_20 : decode cX5_leaning 20 = .ok (.aload_n 0, 1) := by decide +kernel
theorem dX5_leaning_21 : decode cX5_leaning 21 = .ok (.getfield 24, 3) := by decide +kernel
theorem dX5_leaning_24 : decode cX5_leaning 24 = .ok (.iload_n 3, 1) := by decide +kernel
theorem dX5_leaning_25 : decode cX5_leaning 25 = .ok (.iaload, 1) := by decide +kernel
theorem dX5_leaning_26 : decode cX5_leaning 26 = .ok (.invokevirtual 145, 3) := by decide +kernel
theorem dX5_leaning_29 : decode cX5_leaning 29 = .ok (.ifCond .eq 7, 3) := by decide +kernel
theorem dX5_leaning_32 : decode cX5_leaning 32 = .ok (.iconst 1, 1) := by decide +kernel
theorem dX5_leaning_33 : decode cX5_leaning 33 = .ok (.goto 4, 3) := by decide +kernel
theorem dX5_leaning_36 : decode cX5_leaning 36 = .ok (.iconst 0, 1) := by decide +kernel
theorem dX5_leaning_37 : decode cX5_leaning 37 = .ok (.iadd, 1) := by decide +kernel
theorem dX5_leaning_38 : decode cX5_leaning 38 = .ok (.istore_n 2, 1) := by decide +kernel
theorem dX5_leaning_39 : decode cX5_leaning 39 = .ok (.iinc 3 1, 3) := by decide +kernel
theorem dX5_leaning_42 : decode cX5_leaning 42 = .ok (.goto (-33), 3) := by decide +kernel
theorem dX5_leaning_45 : decode cX5_leaning 45 = .ok (.iload_n 2, 1) := by decide +kernel
theorem dX5_leaning_46 : decode cX5_leaning 46 = .ok (.ireturn, 1) := by decide +kernel
theorem dX5_allDepths_0 : decode cX5_allDepths 0 = .ok (.iconst 0, 1) := by decide +kernel
theorem dX5_allDepths_1 : decode cX5_allDepths 1 = .ok (.istore_n 2, 1) := by decide +kernel
theorem dX5_allDepths_2 : decode cX5_allDepths 2 = .ok (.aload_n 0, 1) := by decide +kernel
theorem dX5_allDepths_3 : decode cX5_allDepths 3 = .ok (.iload_n 1, 1) := by decide +kernel
theorem dX5_allDepths_4 : decode cX5_allDepths 4 = .ok (.invokevirtual 100, 3) := by decide +kernel
theorem dX5_allDepths_7 : decode cX5_allDepths 7 = .ok (.iconst 0, 1) := by decide +kernel
theorem dX5_allDepths_8 : decode cX5_allDepths 8 = .ok (.istore_n 3, 1) := by decide +kernel
theorem dX5_allDepths_9 : decode cX5_allDepths 9 = .ok (.iload_n 3, 1) := by decide +kernel
theorem dX5_allDepths_10 : decode cX5_allDepths 10 = .ok (.aload_n 0, 1) := by decide +kernel
theorem dX5_allDepths_11 : decode cX5_allDepths 11 = .ok (.getfield 84, 3) := by decide +kernel
theorem dX5_allDepths_14 : decode cX5_allDepths 14 = .ok (.if_icmp .ge 23, 3) := by decide +kernel
theorem dX5_allDepths_17 : decode cX5_allDepths 17 = .ok (.iload_n 2, 1) := by decide +kernel
theorem dX5_allDepths_18 : decode cX5_allDepths 18 = .ok (.aload_n 0, 1) := by decide +kernel
theorem dX5_allDepths_19 : decode cX5_allDepths 19 = .ok (.iload_n 1, 1) := by decide +kernel
theorem dX5_allDepths_20 : decode cX5_allDepths 20 = .ok (.aload_n 0, 1) := by decide +kernel
theorem dX5_allDepths_21 : decode cX5_allDepths 21 = .ok (.getfield 24, 3) := by decide +kernel
theorem dX5_allDepths_24 : decode cX5_allDepths 24 = .ok (.iload_n 3, 1) := by decide +kernel
theorem dX5_allDepths_25 : decode cX5_allDepths 25 = .ok (.iaload, 1) := by decide +kernel
theorem dX5_allDepths_26 : decode cX5_allDepths 26 = .ok (.invokevirtual 139, 3) := by decide +kernel
theorem dX5_allDepths_29 : decode cX5_allDepths 29 = .ok (.iadd, 1) := by decide +kernel
theorem dX5_allDepths_30 : decode cX5_allDepths 30 = .ok (.istore_n 2, 1) := by decide +kernel
theorem dX5_allDepths_31 : decode cX5_allDepths 31 = .ok (.iinc 3 1, 3) := by decide +kernel
theorem dX5_allDepths_34 : decode cX5_allDepths 34 = .ok (.goto (-25), 3) := by decide +kernel
theorem dX5_allDepths_37 : decode cX5_allDepths 37 = .ok (.iload_n 2, 1) := by decide +kernel
theorem dX5_allDepths_38 : decode cX5_allDepths 38 = .ok (.ireturn, 1) := by decide +kernel
theorem dX5_lowest_0 : decode cX5_lowest 0 = .ok (.iconst 0, 1) := by decide +kernel
theorem dX5_lowest_1 : decode cX5_lowest 1 = .ok (.istore_n 2, 1) := by decide +kernel
theorem dX5_lowest_2 : decode cX5_lowest 2 = .ok (.aload_n 0, 1) := by decide +kernel
theorem dX5_lowest_3 : decode cX5_lowest 3 = .ok (.iload_n 1, 1) := by decide +kernel
theorem dX5_lowest_4 : decode cX5_lowest 4 = .ok (.invokevirtual 100, 3) := by decide +kernel
theorem dX5_lowest_7 : decode cX5_lowest 7 = .ok (.iconst 0, 1) := by decide +kernel
theorem dX5_lowest_8 : decode cX5_lowest 8 = .ok (.istore_n 3, 1) := by decide +kernel
theorem dX5_lowest_9 : decode cX5_lowest 9 = .ok (.iload_n 3, 1) := by decide +kernel
theorem dX5_lowest_10 : decode cX5_lowest 10 = .ok (.aload_n 0, 1) := by decide +kernel
theorem dX5_lowest_11 : decode cX5_lowest 11 = .ok (.getfield 84, 3) := by decide +kernel
theorem dX5_lowest_14 : decode cX5_lowest 14 = .ok (.if_icmp .ge 32, 3) := by decide +kernel
theorem dX5_lowest_17 : decode cX5_lowest 17 = .ok (.iload_n 2, 1) := by decide +kernel
theorem dX5_lowest_18 : decode cX5_lowest 18 = .ok (.aload_n 0, 1) := by decide +kernel
theorem dX5_lowest_19 : decode cX5_lowest 19 = .ok (.iload_n 1, 1) := by decide +kernel
theorem dX5_lowest_20 : decode cX5_lowest 20 = .ok (.aload_n 0, 1) := by decide +kernel
theorem dX5_lowest_21 : decode cX5_lowest 21 = .ok (.getfield 24, 3) := by decide +kernel
theorem dX5_lowest_24 : decode cX5_lowest 24 = .ok (.iload_n 3, 1) := by decide +kernel
theorem dX5_lowest_25 : decode cX5_lowest 25 = .ok (.iaload, 1) := by decide +kernel
theorem dX5_lowest_26 : decode cX5_lowest 26 = .ok (.invokevirtual 66, 3) := by decide +kernel
theorem dX5_lowest_29 : decode cX5_lowest 29 = .ok (.iconst 1, 1) := by decide +kernel
theorem dX5_lowest_30 : decode cX5_lowest 30 = .ok (.if_icmp .ne 7, 3) := by decide +kernel
theorem dX5_lowest_33 : decode cX5_lowest 33 = .ok (.iconst 1, 1) := by decide +kernel
theorem dX5_lowest_34 : decode cX5_lowest 34 = .ok (.goto 4, 3) := by decide +kernel
theorem dX5_lowest_37 : decode cX5_lowest 37 = .ok (.iconst 0, 1) := by decide +kernel
theorem dX5_lowest_38 : decode cX5_lowest 38 = .ok (.iadd, 1) := by decide +kernel
theorem dX5_lowest_39 : decode cX5_lowest 39 = .ok (.istore_n 2, 1) := by decide +kernel
theorem dX5_lowest_40 : decode cX5_lowest 40 = .ok (.iinc 3 1, 3) := by decide +kernel
theorem dX5_lowest_43 : decode cX5_lowest 43 = .ok (.goto (-34), 3) := by decide +kernel
theorem dX5_lowest_46 : decode cX5_lowest 46 = .ok (.iload_n 2, 1) := by decide +kernel
theorem dX5_lowest_47 : decode cX5_lowest 47 = .ok (.ireturn, 1) := by decide +kernel
theorem dX5_rickOf_0 : decode cX5_rickOf 0 = .ok (.iload_n 1, 1) := by decide +kernel
theorem dX5_rickOf_1 : decode cX5_rickOf 1 = .ok (.invokestatic 110, 3) := by decide +kernel
theorem dX5_rickOf_4 : decode cX5_rickOf 4 = .ok (.ifCond .ne 6, 3) := by decide +kernel
theorem dX5_rickOf_7 : decode cX5_rickOf 7 = .ok (.bipush (-11), 2) := by decide +kernel
theorem dX5_rickOf_9 : decode cX5_rickOf 9 = .ok (.ireturn, 1) := by decide +kernel
theorem dX5_rickOf_10 : decode cX5_rickOf 10 = .ok (.iload_n 2, 1) := by decide +kernel
theorem dX5_rickOf_11 : decode cX5_rickOf 11 = .ok (.tableswitch 117 0 8 #[49, 55, 66, 77, 83, 93, 99, 105, 111], 49) := by decide +kernel
theorem dX5_rickOf_60 : decode cX5_rickOf 60 = .ok (.aload_n 0, 1) := by decide +kernel
theorem dX5_rickOf_61 : decode cX5_rickOf 61 = .ok (.iload_n 1, 1) := by decide +kernel
theorem dX5_rickOf_62 : decode cX5_rickOf 62 = .ok (.invokevirtual 124, 3) := by decide +kernel
theorem dX5_rickOf_65 : decode cX5_rickOf 65 = .ok (.ireturn, 1) := by decide +kernel
theorem dX5_rickOf_66 : decode cX5_rickOf 66 = .ok (.aload_n 0, 1) := by decide +kernel
theorem dX5_rickOf_67 : decode cX5_rickOf 67 = .ok (.iload_n 1, 1) := by decide +kernel
theorem dX5_rickOf_68 : decode cX5_rickOf 68 = .ok (.aload_n 0, 1) := by decide +kernel
theorem dX5_rickOf_69 : decode cX5_rickOf 69 = .ok (.iload_n 1, 1) := by decide +kernel
theorem dX5_rickOf_70 : decode cX5_rickOf 70 = .ok (.invokevirtual 73, 3) := by decide +kernel
theorem dX5_rickOf_73 : decode cX5_rickOf 73 = .ok (.invokevirtual 70, 3) := by decide +kernel
theorem dX5_rickOf_76 : decode cX5_rickOf 76 = .ok (.ireturn, 1) := by decide +kernel
theorem dX5_rickOf_77 : decode cX5_rickOf 77 = .ok (.aload_n 0, 1) := by decide +kernel
theorem dX5_rickOf_78 : decode cX5_rickOf 78 = .ok (.iload_n 1, 1) := by decide +kernel
theorem dX5_rickOf_79 : decode cX5_rickOf 79 = .ok (.aload_n 0, 1) := by decide +kernel
theorem dX5_rickOf_80 : decode cX5_rickOf 80 = .ok (.iload_n 1, 1) := by decide +kernel
theorem dX5_rickOf_81 : decode cX5_rickOf 81 = .ok (.invokevirtual 73, 3) := by decide +kernel
theorem dX5_rickOf_84 : decode cX5_rickOf 84 = .ok (.invokevirtual 167, 3) := by decide +kernel
