theorem dX0_init_0 : decode cX0_init 0 = .ok (.aload_n 0, 1) := by decide +kernel
theorem dX0_init_1 : decode cX0_init 1 = .ok (.invokespecial 3, 3) := by decide +kernel
theorem dX0_init_4 : decode cX0_init 4 = .ok (.aload_n 0, 1) := by decide +kernel
theorem dX0_init_5 : decode cX0_init 5 = .ok (.bipush 16, 2) := by decide +kernel
theorem dX0_init_7 : decode cX0_init 7 = .ok (.newarray .int, 2) := by decide +kernel
theorem dX0_init_9 : decode cX0_init 9 = .ok (.putfield 9, 3) := by decide +kernel
theorem dX0_init_12 : decode cX0_init 12 = .ok (.return_, 1) := by decide +kernel
theorem dX0_size_0 : decode cX0_size 0 = .ok (.aload_n 1, 1) := by decide +kernel
theorem dX0_size_1 : decode cX0_size 1 = .ok (.iload_n 2, 1) := by decide +kernel
theorem dX0_size_2 : decode cX0_size 2 = .ok (.invokevirtual 15, 3) := by decide +kernel
theorem dX0_size_5 : decode cX0_size 5 = .ok (.tableswitch 59 2 5 #[31, 38, 45, 52], 31) := by decide +kernel
theorem dX0_size_36 : decode cX0_size 36 = .ok (.aload_n 0, 1) := by decide +kernel
theorem dX0_size_37 : decode cX0_size 37 = .ok (.aload_n 1, 1) := by decide +kernel
theorem dX0_size_38 : decode cX0_size 38 = .ok (.iload_n 2, 1) := by decide +kernel
theorem dX0_size_39 : decode cX0_size 39 = .ok (.invokevirtual 21, 3) := by decide +kernel
theorem dX0_size_42 : decode cX0_size 42 = .ok (.ireturn, 1) := by decide +kernel
theorem dX0_size_43 : decode cX0_size 43 = .ok (.aload_n 0, 1) := by decide +kernel
theorem dX0_size_44 : decode cX0_size 44 = .ok (.aload_n 1, 1) := by decide +kernel
theorem dX0_size_45 : decode cX0_size 45 = .ok (.iload_n 2, 1) := by decide +kernel
theorem dX0_size_46 : decode cX0_size 46 = .ok (.invokevirtual 25, 3) := by decide +kernel
theorem dX0_size_49 : decode cX0_size 49 = .ok (.ireturn, 1) := by decide +kernel
theorem dX0_size_50 : decode cX0_size 50 = .ok (.aload_n 0, 1) := by decide +kernel
theorem dX0_size_51 : decode cX0_size 51 = .ok (.aload_n 1, 1) := by decide +kernel
theorem dX0_size_52 : decode cX0_size 52 = .ok (.iload_n 2, 1) := by decide +kernel
theorem dX0_size_53 : decode cX0_size 53 = .ok (.invokevirtual 28, 3) := by decide +kernel
theorem dX0_size_56 : decode cX0_size 56 = .ok (.ireturn, 1) := by decide +kernel
theorem dX0_size_57 : decode cX0_size 57 = .ok (.aload_n 0, 1) := by decide +kernel
theorem dX0_size_58 : decode cX0_size 58 = .ok (.aload_n 1, 1) := by decide +kernel
theorem dX0_size_59 : decode cX0_size 59 = .ok (.iload_n 2, 1) := by decide +kernel
theorem dX0_size_60 : decode cX0_size 60 = .ok (.invokevirtual 31, 3) := by decide +kernel
theorem dX0_size_63 : decode cX0_size 63 = .ok (.ireturn, 1) := by decide +kernel
theorem dX0_size_64 : decode cX0_size 64 = .ok (.aload_n 0, 1) := by decide +kernel
theorem dX0_size_65 : decode cX0_size 65 = .ok (.aload_n 1, 1) := by decide +kernel
theorem dX0_size_66 : decode cX0_size 66 = .ok (.iload_n 2, 1) := by decide +kernel
theorem dX0_size_67 : decode cX0_size 67 = .ok (.invokevirtual 34, 3) := by decide +kernel
theorem dX0_size_70 : decode cX0_size 70 = .ok (.ireturn, 1) := by decide +kernel
theorem dX0_mark_0 : decode cX0_mark 0 = .ok (.aload_n 1, 1) := by decide +kernel
theorem dX0_mark_1 : decode cX0_mark 1 = .ok (.iload_n 2, 1) := by decide +kernel
theorem dX0_mark_2 : decode cX0_mark 2 = .ok (.invokevirtual 15, 3) := by decide +kernel
theorem dX0_mark_5 : decode cX0_mark 5 = .ok (.tableswitch 50 1 4 #[31, 37, 50, 43], 31) := by decide +kernel
theorem dX0_mark_36 : decode cX0_mark 36 = .ok (.aload_n 0, 1) := by decide +kernel
theorem dX0_mark_37 : decode cX0_mark 37 = .ok (.iload_n 2, 1) := by decide +kernel
theorem dX0_mark_38 : decode cX0_mark 38 = .ok (.invokevirtual 37, 3) := by decide +kernel
theorem dX0_mark_41 : decode cX0_mark 41 = .ok (.ireturn, 1) := by decide +kernel
theorem dX0_mark_42 : decode cX0_mark 42 = .ok (.aload_n 0, 1) := by decide +kernel
theorem dX0_mark_43 : decode cX0_mark 43 = .ok (.iload_n 2, 1) := by decide +kernel
theorem dX0_mark_44 : decode cX0_mark 44 = .ok (.invokevirtual 40, 3) := by decide +kernel
theorem dX0_mark_47 : decode cX0_mark 47 = .ok (.ireturn, 1) := by decide +kernel
theorem dX0_mark_48 : decode cX0_mark 48 = .ok (.aload_n 0, 1) := by decide +kernel
theorem dX0_mark_49 : decode cX0_mark 49 = .ok (.aload_n 1, 1) := by decide +kernel
theorem dX0_mark_50 : decode cX0_mark 50 = .ok (.iload_n 2, 1) := by decide +kernel
theorem dX0_mark_51 : decode cX0_mark 51 = .ok (.invokevirtual 43, 3) := by decide +kernel
theorem dX0_mark_54 : decode cX0_mark 54 = .ok (.ireturn, 1) := by decide +kernel
theorem dX0_mark_55 : decode cX0_mark 55 = .ok (.aload_n 0, 1) := by decide +kernel
theorem dX0_mark_56 : decode cX0_mark 56 = .ok (.iload_n 2, 1) := by decide +kernel
theorem dX0_mark_57 : decode cX0_mark 57 = .ok (.invokevirtual 46, 3) := by decide +kernel
theorem dX0_mark_60 : decode cX0_mark 60 = .ok (.ireturn, 1) := by decide +kernel
theorem dX0_sizeLent_0 : decode cX0_sizeLent 0 = .ok (.aload_n 0, 1) := by decide +kernel
theorem dX0_sizeLent_1 : decode cX0_sizeLent 1 = .ok (.bipush 10, 2) := by decide +kernel
theorem dX0_sizeLent_3 : decode cX0_sizeLent 3 = .ok (.invokevirtual 49, 3) := by decide +kernel
theorem dX0_sizeLent_6 : decode cX0_sizeLent 6 = .ok (.aload_n 1, 1) := by decide +kernel
theorem dX0_sizeLent_7 : decode cX0_sizeLent 7 = .ok (.getfield 53, 3) := by decide +kernel
theorem dX0_sizeLent_10 : decode cX0_sizeLent 10 = .ok (.iload_n 2, 1) := by decide +kernel
theorem dX0_sizeLent_11 : decode cX0_sizeLent 11 = .ok (.iaload, 1) := by decide +kernel
theorem dX0_sizeLent_12 : decode cX0_sizeLent 12 = .ok (.ireturn, 1) := by decide +kernel
theorem dX0_sizeOfSeen_0 : decode cX0_sizeOfSeen 0 = .ok (.aload_n 0, 1) := by decide +kernel
theorem dX0_sizeOfSeen_1 : decode cX0_sizeOfSeen 1 = .ok (.bipush 11, 2) := by decide +kernel
theorem dX0_sizeOfSeen_3 : decode cX0_sizeOfSeen 3 = .ok (.invokevirtual 49, 3) := by decide +kernel
theorem dX0_sizeOfSeen_6 : decode cX0_sizeOfSeen 6 = .ok (.aload_n 0, 1) := by decide +kernel
theorem dX0_sizeOfSeen_7 : decode cX0_sizeOfSeen 7 = .ok (.aload_n 1, 1) := by decide +kernel
theorem dX0_sizeOfSeen_8 : decode cX0_sizeOfSeen 8 = .ok (.iload_n 2, 1) := by decide +kernel
theorem dX0_sizeOfSeen_9 : decode cX0_sizeOfSeen 9 = .ok (.invokevirtual 34, 3) := by decide +kernel
theorem dX0_sizeOfSeen_12 : decode cX0_sizeOfSeen 12 = .ok (.aload_n 0, 1) := by decide +kernel
theorem dX0_sizeOfSeen_13 : decode cX0_sizeOfSeen 13 = .ok (.aload_n 1, 1) := by decide +kernel
theorem dX0_sizeOfSeen_14 : decode cX0_sizeOfSeen 14 = .ok (.iload_n 2, 1) := by decide +kernel
theorem dX0_sizeOfSeen_15 : decode cX0_sizeOfSeen 15 = .ok (.invokevirtual 56, 3) := by decide +kernel
theorem dX0_sizeOfSeen_18 : decode cX0_sizeOfSeen 18 = .ok (.iadd, 1) := by decide +kernel
theorem dX0_sizeOfSeen_19 : decode cX0_sizeOfSeen 19 = .ok (.ireturn, 1) := by decide +kernel
theorem dX0_sizeOfPair_0 : decode cX0_sizeOfPair 0 = .ok (.aload_n 0, 1) := by decide +kernel
theorem dX0_sizeOfPair_1 : decode cX0_sizeOfPair 1 = .ok (.bipush 12, 2) := by decide +kernel
theorem dX0_sizeOfPair_3 : decode cX0_sizeOfPair 3 = .ok (.invokevirtual 49, 3) := by decide +kernel
theorem dX0_sizeOfPair_6 : decode cX0_sizeOfPair 6 = .ok (.iconst 2, 1) := by decide +kernel
theorem dX0_sizeOfPair_7 : decode cX0_sizeOfPair 7 = .ok (.aload_n 0, 1) := by decide +kernel
theorem dX0_sizeOfPair_8 : decode cX0_sizeOfPair 8 = .ok (.aload_n 1, 1) := by decide +kernel
theorem dX0_sizeOfPair_9 : decode cX0_sizeOfPair 9 = .ok (.iload_n 2, 1) := by decide +kernel
theorem dX0_sizeOfPair_10 : decode cX0_sizeOfPair 10 = .ok (.invokevirtual 34, 3) := by decide +kernel
theorem dX0_sizeOfPair_13 : decode cX0_sizeOfPair 13 = .ok (.imul, 1) := by decide +kernel
theorem dX0_sizeOfPair_14 : decode cX0_sizeOfPair 14 = .ok (.ireturn, 1) := by decide +kernel
theorem dX0_sizeOfChosen_0 : decode cX0_sizeOfChosen 0 = .ok (.aload_n 0, 1) := by decide +kernel
theorem dX0_sizeOfChosen_1 : decode cX0_sizeOfChosen 1 = .ok (.bipush 13, 2) := by decide +kernel
theorem dX0_sizeOfChosen_3 : decode cX0_sizeOfChosen 3 = .ok (.invokevirtual 49, 3) := by decide +kernel
theorem dX0_sizeOfChosen_6 : decode cX0_sizeOfChosen 6 = .ok (.aload_n 0, 1) := by decide +kernel
theorem dX0_sizeOfChosen_7 : decode cX0_sizeOfChosen 7 = .ok (.aload_n 1, 1) := by decide +kernel
theorem dX0_sizeOfChosen_8 : decode cX0_sizeOfChosen 8 = .ok (.iload_n 2, 1) := by decide +kernel
theorem dX0_sizeOfChosen_9 : decode cX0_sizeOfChosen 9 = .ok (.invokevirtual 25, 3) := by decide +kernel
theorem dX0_sizeOfChosen_12 : decode cX0_sizeOfChosen 12 = .ok (.aload_n 0, 1) := by decide +kernel
theorem dX0_sizeOfChosen_13 : decode cX0_sizeOfChosen 13 = .ok (.aload_n 1, 1) := by decide +kernel
theorem dX0_sizeOfChosen_14 : decode cX0_sizeOfChosen 14 = .ok (.iload_n 2, 1) := by decide +kernel
theorem dX0_sizeOfChosen_15 : decode cX0_sizeOfChosen 15 = .ok (.invokevirtual 56, 3) := by decide +kernel
theorem dX0_sizeOfChosen_18 : decode cX0_sizeOfChosen 18 = .ok (.iadd, 1) := by decide +kernel
theorem dX0_sizeOfChosen_19 : decode cX0_sizeOfChosen 19 = .ok (.ireturn, 1) := by decide +kernel
theorem dX0_sizeOfFork_0 : decode cX0_sizeOfFork 0 = .ok (.aload_n 0, 1) := by decide +kernel
theorem dX0_sizeOfFork_1 : decode cX0_sizeOfFork 1 = .ok (.bipush 14, 2) := by decide +kernel
theorem dX0_sizeOfFork_3 : decode cX0_sizeOfFork 3 = .ok (.invokevirtual 49, 3) := by decide +kernel
theorem dX0_sizeOfFork_6 : decode cX0_sizeOfFork 6 = .ok (.aload_n 0, 1) := by decide +kernel
theorem dX0_sizeOfFork_7 : decode cX0_sizeOfFork 7 = .ok (.aload_n 1, 1) := by decide +kernel
theorem dX0_sizeOfFork_8 : decode cX0_sizeOfFork 8 = .ok (.iload_n 2, 1) := by decide +kernel
theorem dX0_sizeOfFork_9 : decode cX0_sizeOfFork 9 = .ok (.invokevirtual 34, 3) := by decide +kernel
theorem dX0_sizeOfFork_12 : decode cX0_sizeOfFork 12 = .ok (.aload_n 0, 1) := by decide +kernel
theorem dX0_sizeOfFork_13 : decode cX0_sizeOfFork 13 = .ok (.aload_n 1, 1) := by decide +kernel
theorem dX0_sizeOfFork_14 : decode cX0_sizeOfFork 14 = .ok (.iload_n 2, 1) := by decide +kernel
theorem dX0_sizeOfFork_15 : decode cX0_sizeOfFork 15 = .ok (.invokevirtual 56, 3) := by decide +kernel
theorem dX0_sizeOfFork_18 : decode cX0_sizeOfFork 18 = .ok (.isub, 1) := by decide +kernel
theorem dX0_sizeOfFork_19 : decode cX0_sizeOfFork 19 = .ok (.ireturn, 1) := by decide +kernel
theorem dX0_markLent_0 : decode cX0_markLent 0 = .ok (.aload_n 0, 1) := by decide +kernel
theorem dX0_markLent_1 : decode cX0_markLent 1 = .ok (.bipush 20, 2) := by decide +kernel
theorem dX0_markLent_3 : decode cX0_markLent 3 = .ok (.invokevirtual 49, 3) := by decide +kernel
theorem dX0_markLent_6 : decode cX0_markLent 6 = .ok (.iload_n 1, 1) := by decide +kernel
theorem dX0_markLent_7 : decode cX0_markLent 7 = .ok (.ireturn, 1) := by decide +kernel
theorem dX0_markOfLeaf_0 : decode cX0_markOfLeaf 0 = .ok (.aload_n 0, 1) := by decide +kernel
theorem dX0_markOfLeaf_1 : decode cX0_markOfLeaf 1 = .ok (.bipush 21, 2) := by decide +kernel
theorem dX0_markOfLeaf_3 : decode cX0_markOfLeaf 3 = .ok (.invokevirtual 49, 3) := by decide +kernel
theorem dX0_markOfLeaf_6 : decode cX0_markOfLeaf 6 = .ok (.aload_n 0, 1) := by decide +kernel
theorem dX0_markOfLeaf_7 : decode cX0_markOfLeaf 7 = .ok (.iload_n 1, 1) := by decide +kernel
theorem dX0_markOfLeaf_8 : decode cX0_markOfLeaf 8 = .ok (.invokevirtual 46, 3) := by decide +kernel
theorem dX0_markOfLeaf_11 : decode cX0_markOfLeaf 11 = .ok (.bipush 100, 2) := by decide +kernel
theorem dX0_markOfLeaf_13 : decode cX0_markOfLeaf 13 = .ok (.iadd, 1) := by decide +kernel
theorem dX0_markOfLeaf_14 : decode cX0_markOfLeaf 14 = .ok (.ireturn, 1) := by decide +kernel
theorem dX0_markOfSeen_0 : decode cX0_markOfSeen 0 = .ok (.aload_n 0, 1) := by decide +kernel
theorem dX0_markOfSeen_1 : decode cX0_markOfSeen 1 = .ok (.bipush 22, 2) := by decide +kernel
theorem dX0_markOfSeen_3 : decode cX0_markOfSeen 3 = .ok (.invokevirtual 49, 3) := by decide +kernel
theorem dX0_markOfSeen_6 : decode cX0_markOfSeen 6 = .ok (.iconst 2, 1) := by decide +kernel
theorem dX0_markOfSeen_7 : decode cX0_markOfSeen 7 = .ok (.aload_n 0, 1) := by decide +kernel
theorem dX0_markOfSeen_8 : decode cX0_markOfSeen 8 = .ok (.iload_n 1, 1) := by decide +kernel
theorem dX0_markOfSeen_9 : decode cX0_markOfSeen 9 = .ok (.invokevirtual 37, 3) := by decide +kernel
theorem dX0_markOfSeen_12 : decode cX0_markOfSeen 12 = .ok (.imul, 1) := by decide +kernel
theorem dX0_markOfSeen_13 : decode cX0_markOfSeen 13 = .ok (.ireturn, 1) := by decide +kernel
theorem dX0_markOfChosen_0 : decode cX0_markOfChosen 0 = .ok (.aload_n 0, 1) := by decide +kernel
theorem dX0_markOfChosen_1 : decode cX0_markOfChosen 1 = .ok (.bipush 23, 2) := by decide +kernel
theorem dX0_markOfChosen_3 : decode cX0_markOfChosen 3 = .ok (.invokevirtual 49, 3) := by decide +kernel
theorem dX0_markOfChosen_6 : decode cX0_markOfChosen 6 = .ok (.aload_n 0, 1) := by decide +kernel
theorem dX0_markOfChosen_7 : decode cX0_markOfChosen 7 = .ok (.iload_n 2, 1) := by decide +kernel
theorem dX0_markOfChosen_8 : decode cX0_markOfChosen 8 = .ok (.invokevirtual 46, 3) := by decide +kernel
theorem dX0_markOfChosen_11 : decode cX0_markOfChosen 11 = .ok (.aload_n 1, 1) := by decide +kernel
theorem dX0_markOfChosen_12 : decode cX0_markOfChosen 12 = .ok (.getfield 53, 3) := by decide +kernel
theorem dX0_markOfChosen_15 : decode cX0_markOfChosen 15 = .ok (.iload_n 2, 1) := by decide +kernel
theorem dX0_markOfChosen_16 : decode cX0_markOfChosen 16 = .ok (.iaload, 1) := by decide +kernel
theorem dX0_markOfChosen_17 : decode cX0_markOfChosen 17 = .ok (.iadd, 1) := by decide +kernel
theorem dX0_markOfChosen_18 : decode cX0_markOfChosen 18 = .ok (.ireturn, 1) := by decide +kernel
theorem dX0_begin_0 : decode cX0_begin 0 = .ok (.aload_n 0, 1) := by decide +kernel
theorem dX0_begin_1 : decode cX0_begin 1 = .ok (.getfield 59, 3) := by decide +kernel
theorem dX0_begin_4 : decode cX0_begin 4 = .ok (.bipush 16, 2) := by decide +kernel
theorem dX0_begin_6 : decode cX0_begin 6 = .ok (.if_icmp .ge 23, 3) := by decide +kernel
theorem dX0_begin_9 : decode cX0_begin 9 = .ok (.aload_n 0, 1) := by decide +kernel
theorem dX0_begin_10 : decode cX0_begin 10 = .ok (.getfield 9, 3) := by decide +kernel
theorem dX0_begin_13 : decode cX0_begin 13 = .ok (.aload_n 0, 1) := by decide +kernel
theorem dX0_begin_14 : decode cX0_begin 14 = .ok (.getfield 59, 3) := by decide +kernel
theorem dX0_begin_17 : decode cX0_begin 17 = .ok (.iload_n 1, 1) := by decide +kernel
theorem dX0_begin_18 : decode cX0_begin 18 = .ok (.iastore, 1) := by decide +kernel
theorem dX0_begin_19 : decode cX0_begin 19 = .ok (.aload_n 0, 1) := by decide +kernel
theorem dX0_begin_20 : decode cX0_begin 20 = .ok (.dup, 1) := by decide +kernel
theorem dX0_begin_21 : decode cX0_begin 21 = .ok (.getfield 59, 3) := by decide +kernel
theorem dX0_begin_24 : decode cX0_begin 24 = .ok (.iconst 1, 1) := by decide +kernel
theorem dX0_begin_25 : decode cX0_begin 25 = .ok (.iadd, 1) := by decide +kernel
theorem dX0_begin_26 : decode cX0_begin 26 = .ok (.putfield 59, 3) := by decide +kernel
theorem dX0_begin_29 : decode cX0_begin 29 = .ok (.return_, 1) := by decide +kernel
theorem dX1_init_0 : decode cX1_init 0 = .ok (.aload_n 0, 1) := by decide +kernel
theorem dX1_init_1 : decode cX1_init 1 = .ok (.invokespecial 3, 3) := by decide +kernel
theorem dX1_init_4 : decode cX1_init 4 = .ok (.aload_n 0, 1) := by decide +kernel
theorem dX1_init_5 : decode cX1_init 5 = .ok (.bipush 10, 2) := by decide +kernel
theorem dX1_init_7 : decode cX1_init 7 = .ok (.newarray .int, 2) := by decide +kernel
theorem dX1_init_9 : decode cX1_init 9 = .ok (.putfield 9, 3) := by decide +kernel
theorem dX1_init_12 : decode cX1_init 12 = .ok (.aload_n 0, 1) := by decide +kernel
theorem dX1_init_13 : decode cX1_init 13 = .ok (.bipush 10, 2) := by decide +kernel
theorem dX1_init_15 : decode cX1_init 15 = .ok (.newarray .int, 2) := by decide +kernel
theorem dX1_init_17 : decode cX1_init 17 = .ok (.putfield 15, 3) := by decide +kernel
theorem dX1_init_20 : decode cX1_init 20 = .ok (.aload_n 0, 1) := by decide +kernel
theorem dX1_init_21 : decode cX1_init 21 = .ok (.iconst 2, 1) := by decide +kernel
theorem dX1_init_22 : decode cX1_init 22 = .ok (.newarray .int, 2) := by decide +kernel
theorem dX1_init_24 : decode cX1_init 24 = .ok (.putfield 18, 3) := by decide +kernel
theorem dX1_init_27 : decode cX1_init 27 = .ok (.aload_n 0, 1) := by decide +kernel
theorem dX1_init_28 : decode cX1_init 28 = .ok (.iconst 4, 1) := by decide +kernel
theorem dX1_init_29 : decode cX1_init 29 = .ok (.invokevirtual 21, 3) := by decide +kernel
theorem dX1_init_32 : decode cX1_init 32 = .ok (.return_, 1) := by decide +kernel
theorem dX1_begin_0 : decode cX1_begin 0 = .ok (.aload_n 0, 1) := by decide +kernel
theorem dX1_begin_1 : decode cX1_begin 1 = .ok (.iload_n 1, 1) := by decide +kernel
theorem dX1_begin_2 : decode cX1_begin 2 = .ok (.putfield 25, 3) := by decide +kernel
theorem dX1_begin_5 : decode cX1_begin 5 = .ok (.aload_n 0, 1) := by decide +kernel
theorem dX1_begin_6 : decode cX1_begin 6 = .ok (.getfield 9, 3) := by decide +kernel
theorem dX1_begin_9 : decode cX1_begin 9 = .ok (.iconst 0, 1) := by decide +kernel
theorem dX1_begin_10 : decode cX1_begin 10 = .ok (.invokestatic 29, 3) := by decide +kernel
theorem dX1_begin_13 : decode cX1_begin 13 = .ok (.aload_n 0, 1) := by decide +kernel
theorem dX1_begin_14 : decode cX1_begin 14 = .ok (.getfield 15, 3) := by decide +kernel
theorem dX1_begin_17 : decode cX1_begin 17 = .ok (.iconst 1, 1) := by decide +kernel
theorem dX1_begin_18 : decode cX1_begin 18 = .ok (.invokestatic 29, 3) := by decide +kernel
theorem dX1_begin_21 : decode cX1_begin 21 = .ok (.return_, 1) := by decide +kernel
theorem dX1_has_0 : decode cX1_has 0 = .ok (.iload_n 1, 1) := by decide +kernel
theorem dX1_has_1 : decode cX1_has 1 = .ok (.iconst 0, 1) := by decide +kernel
theorem dX1_has_2 : decode cX1_has 2 = .ok (.aload_n 0, 1) := by decide +kernel
theorem dX1_has_3 : decode cX1_has 3 = .ok (.getfield 25, 3) := by decide +kernel
theorem dX1_has_6 : decode cX1_has 6 = .ok (.iconst 1, 1) := by decide +kernel
theorem dX1_has_7 : decode cX1_has 7 = .ok (.isub, 1) := by decide +kernel
theorem dX1_has_8 : decode cX1_has 8 = .ok (.invokestatic 35, 3) := by decide +kernel
theorem dX1_has_11 : decode cX1_has 11 = .ok (.ireturn, 1) := by decide +kernel
theorem dX2_init_0 : decode cX2_init 0 = .ok (.aload_n 0, 1) := by decide +kernel
theorem dX2_init_1 : decode cX2_init 1 = .ok (.invokespecial 3, 3) := by decide +kernel
theorem dX2_init_4 : decode cX2_init 4 = .ok (.aload_n 0, 1) := by decide +kernel
theorem dX2_init_5 : decode cX2_init 5 = .ok (.sipush 1210, 3) := by decide +kernel
theorem dX2_init_8 : decode cX2_init 8 = .ok (.newarray .int, 2) := by decide +kernel
theorem dX2_init_10 : decode cX2_init 10 = .ok (.putfield 9, 3) := by decide +kernel
theorem dX2_init_13 : decode cX2_init 13 = .ok (.aload_n 0, 1) := by decide +kernel
theorem dX2_init_14 : decode cX2_init 14 = .ok (.aload_n 1, 1) := by decide +kernel
theorem dX2_init_15 : decode cX2_init 15 = .ok (.putfield 15, 3) := by decide +kernel
theorem dX2_init_18 : decode cX2_init 18 = .ok (.aload_n 0, 1) := by decide +kernel
theorem dX2_init_19 : decode cX2_init 19 = .ok (.aload_n 2, 1) := by decide +kernel
theorem dX2_init_20 : decode cX2_init 20 = .ok (.putfield 19, 3) := by decide +kernel
theorem dX2_init_23 : decode cX2_init 23 = .ok (.return_, 1) := by decide +kernel
theorem dX2_run_0 : decode cX2_run 0 = .ok (.aload_n 0, 1) := by decide +kernel
theorem dX2_run_1 : decode cX2_run 1 = .ok (.aload_n 1, 1) := by decide +kernel
theorem dX2_run_2 : decode cX2_run 2 = .ok (.getfield 23, 3) := by decide +kernel
theorem dX2_run_5 : decode cX2_run 5 = .ok (.putfield 29, 3) := by decide +kernel
theorem dX2_run_8 : decode cX2_run 8 = .ok (.aload_n 0, 1) := by decide +kernel
theorem dX2_run_9 : decode cX2_run 9 = .ok (.getfield 15, 3) := by decide +kernel
theorem dX2_run_12 : decode cX2_run 12 = .ok (.getfield 32, 3) := by decide +kernel
theorem dX2_run_15 : decode cX2_run 15 = .ok (.iconst 0, 1) := by decide +kernel
theorem dX2_run_16 : decode cX2_run 16 = .ok (.aload_n 0, 1) := by decide +kernel
theorem dX2_run_17 : decode cX2_run 17 = .ok (.getfield 9, 3) := by decide +kernel
theorem dX2_run_20 : decode cX2_run 20 = .ok (.iconst 0, 1) := by decide +kernel
theorem dX2_run_21 : decode cX2_run 21 = .ok (.aload_n 0, 1) := by decide +kernel
theorem dX2_run_22 : decode cX2_run 22 = .ok (.getfield 15, 3) := by decide +kernel
theorem dX2_run_25 : decode cX2_run 25 = .ok (.getfield 37, 3) := by decide +kernel
theorem dX2_run_28 : decode cX2_run 28 = .ok (.invokestatic 39, 3) := by decide +kernel
theorem dX2_run_31 : decode cX2_run 31 = .ok (.iconst 0, 1) := by decide +kernel
theorem dX2_run_32 : decode cX2_run 32 = .ok (.istore 4, 2) := by decide +kernel
theorem dX2_run_34 : decode cX2_run 34 = .ok (.iconst 0, 1) := by decide +kernel
theorem dX2_run_35 : decode cX2_run 35 = .ok (.istore 5, 2) := by decide +kernel
theorem dX2_run_37 : decode cX2_run 37 = .ok (.iload 5, 2) := by decide +kernel
theorem dX2_run_39 : decode cX2_run 39 = .ok (.iload_n 3, 1) := by decide +kernel
theorem dX2_run_40 : decode cX2_run 40 = .ok (.if_icmp .ge 78, 3) := by decide +kernel
theorem dX2_run_43 : decode cX2_run 43 = .ok (.iconst 0, 1) := by decide +kernel
theorem dX2_run_44 : decode cX2_run 44 = .ok (.istore 6, 2) := by decide +kernel
theorem dX2_run_46 : decode cX2_run 46 = .ok (.iload 6, 2) := by decide +kernel
theorem dX2_run_48 : decode cX2_run 48 = .ok (.aload_n 1, 1) := by decide +kernel
theorem dX2_run_49 : decode cX2_run 49 = .ok (.getfield 23, 3) := by decide +kernel
theorem dX2_run_52 : decode cX2_run 52 = .ok (.if_icmp .ge 60, 3) := by decide +kernel
theorem dX2_run_55 : decode cX2_run 55 = .ok (.iconst 0, 1) := by decide +kernel
theorem dX2_run_56 : decode cX2_run 56 = .ok (.istore 7, 2) := by decide +kernel
theorem dX2_run_58 : decode cX2_run 58 = .ok (.iload 7, 2) := by decide +kernel
theorem dX2_run_60 : decode cX2_run 60 = .ok (.aload_n 0, 1) := by decide +kernel
theorem dX2_run_61 : decode cX2_run 61 = .ok (.getfield 15, 3) := by decide +kernel
theorem dX2_run_64 : decode cX2_run 64 = .ok (.getfield 37, 3) := by decide +kernel
theorem dX2_run_67 : decode cX2_run 67 = .ok (.if_icmp .ge 36, 3) := by decide +kernel
theorem dX2_run_70 : decode cX2_run 70 = .ok (.aload_n 0, 1) := by decide +kernel
theorem dX2_run_71 : decode cX2_run 71 = .ok (.getfield 9, 3) := by decide +kernel
theorem dX2_run_74 : decode cX2_run 74 = .ok (.iload 4, 2) := by decide +kernel
theorem dX2_run_76 : decode cX2_run 76 = .ok (.iconst 1, 1) := by decide +kernel
theorem dX2_run_77 : decode cX2_run 77 = .ok (.iadd, 1) := by decide +kernel
theorem dX2_run_78 : decode cX2_run 78 = .ok (.bipush 10, 2) := by decide +kernel
theorem dX2_run_80 : decode cX2_run 80 = .ok (.imul, 1) := by decide +kernel
theorem dX2_run_81 : decode cX2_run 81 = .ok (.iload 7, 2) := by decide +kernel
theorem dX2_run_83 : decode cX2_run 83 = .ok (.iadd, 1) := by decide +kernel
theorem dX2_run_84 : decode cX2_run 84 = .ok (.aload_n 0, 1) := by decide +kernel
theorem dX2_run_85 : decode cX2_run 85 = .ok (.aload_n 1, 1) := by decide +kernel
theorem dX2_run_86 : decode cX2_run 86 = .ok (.aload_n 2, 1) := by decide +kernel
theorem dX2_run_87 : decode cX2_run 87 = .ok (.iload 4, 2) := by decide +kernel
theorem dX2_run_89 : decode cX2_run 89 = .ok (.iload 6, 2) := by decide +kernel
theorem dX2_run_91 : decode cX2_run 91 = .ok (.iload 7, 2) := by decide +kernel
theorem dX2_run_93 : decode cX2_run 93 = .ok (.invokevirtual 45, 3) := by decide +kernel
theorem dX2_run_96 : decode cX2_run 96 = .ok (.iastore, 1) := by decide +kernel
theorem dX2_run_97 : decode cX2_run 97 = .ok (.iinc 7 1, 3) := by decide +kernel
theorem dX2_run_100 : decode cX2_run 100 = .ok (.goto (-42), 3) := by decide +kernel
theorem dX2_run_103 : decode cX2_run 103 = .ok (.iinc 4 1, 3) := by decide +kernel
theorem dX2_run_106 : decode cX2_run 106 = .ok (.iinc 6 1, 3) := by decide +kernel
theorem dX2_run_109 : decode cX2_run 109 = .ok (.goto (-63), 3) := by decide +kernel
theorem dX2_run_112 : decode cX2_run 112 = .ok (.iinc 5 1, 3) := by decide +kernel
theorem dX2_run_115 : decode cX2_run 115 = .ok (.goto (-78), 3) := by decide +kernel
theorem dX2_run_118 : decode cX2_run 118 = .ok (.return_, 1) := by decide +kernel
theorem dX2_behind_0 : decode cX2_behind 0 = .ok (.aload_n 0, 1) := by decide +kernel
theorem dX2_behind_1 : decode cX2_behind 1 = .ok (.getfield 9, 3) := by decide +kernel
theorem dX2_behind_4 : decode cX2_behind 4 = .ok (.iload_n 1, 1) := by decide +kernel
theorem dX2_behind_5 : decode cX2_behind 5 = .ok (.aload_n 0, 1) := by decide +kernel
theorem dX2_behind_6 : decode cX2_behind 6 = .ok (.getfield 29, 3) := by decide +kernel
theorem dX2_behind_9 : decode cX2_behind 9 = .ok (.imul, 1) := by decide +kernel
theorem dX2_behind_10 : decode cX2_behind 10 = .ok (.bipush 10, 2) := by decide +kernel
theorem dX2_behind_12 : decode cX2_behind 12 = .ok (.imul, 1) := by decide +kernel
theorem dX2_behind_13 : decode cX2_behind 13 = .ok (.iload_n 2, 1) := by decide +kernel
theorem dX2_behind_14 : decode cX2_behind 14 = .ok (.iadd, 1) := by decide +kernel
theorem dX2_behind_15 : decode cX2_behind 15 = .ok (.iaload, 1) := by decide +kernel
theorem dX2_behind_16 : decode cX2_behind 16 = .ok (.ireturn, 1) := by decide +kernel
theorem dX2_workOut_0 : decode cX2_workOut 0 = .ok (.iload_n 3, 1) := by decide +kernel
theorem dX2_workOut_1 : decode cX2_workOut 1 = .ok (.bipush 10, 2) := by decide +kernel
theorem dX2_workOut_3 : decode cX2_workOut 3 = .ok (.imul, 1) := by decide +kernel
theorem dX2_workOut_4 : decode cX2_workOut 4 = .ok (.iload 5, 2) := by decide +kernel
theorem dX2_workOut_6 : decode cX2_workOut 6 = .ok (.iadd, 1) := by decide +kernel
theorem dX2_workOut_7 : decode cX2_workOut 7 = .ok (.istore 6, 2) := by decide +kernel
theorem dX2_workOut_9 : decode cX2_workOut 9 = .ok (.iload 5, 2) := by decide +kernel
theorem dX2_workOut_11 : decode cX2_workOut 11 = .ok (.ifCond .le 15, 3) := by decide +kernel
theorem dX2_workOut_14 : decode cX2_workOut 14 = .ok (.aload_n 0, 1) := by decide +kernel
theorem dX2_workOut_15 : decode cX2_workOut 15 = .ok (.getfield 9, 3) := by decide +kernel
theorem dX2_workOut_18 : decode cX2_workOut 18 = .ok (.iload 6, 2) := by decide +kernel
theorem dX2_workOut_20 : decode cX2_workOut 20 = .ok (.iconst 1, 1) := by decide +kernel
theorem dX2_workOut_21 : decode cX2_workOut 21 = .ok (.isub, 1) := by decide +kernel
theorem dX2_workOut_22 : decode cX2_workOut 22 = .ok (.iaload, 1) := by decide +kernel
theorem dX2_workOut_23 : decode cX2_workOut 23 = .ok (.goto 12, 3) := by decide +kernel
theorem dX2_workOut_26 : decode cX2_workOut 26 = .ok (.aload_n 0, 1) := by decide +kernel
theorem dX2_workOut_27 : decode cX2_workOut 27 = .ok (.getfield 15, 3) := by decide +kernel
theorem dX2_workOut_30 : decode cX2_workOut 30 = .ok (.getfield 49, 3) := by decide +kernel
theorem dX2_workOut_33 : decode cX2_workOut 33 = .ok (.iconst 0, 1) := by decide +kernel
theorem dX2_workOut_34 : decode cX2_workOut 34 = .ok (.iaload, 1) := by decide +kernel
theorem dX2_workOut_35 : decode cX2_workOut 35 = .ok (.istore 7, 2) := by decide +kernel
theorem dX2_workOut_37 : decode cX2_workOut 37 = .ok (.iload 5, 2) := by decide +kernel
theorem dX2_workOut_39 : decode cX2_workOut 39 = .ok (.aload_n 0, 1) := by decide +kernel
theorem dX2_workOut_40 : decode cX2_workOut 40 = .ok (.getfield 15, 3) := by decide +kernel
theorem dX2_workOut_43 : decode cX2_workOut 43 = .ok (.getfield 37, 3) := by decide +kernel
theorem dX2_workOut_46 : decode cX2_workOut 46 = .ok (.iconst 1, 1) := by decide +kernel
theorem dX2_workOut_47 : decode cX2_workOut 47 = .ok (.isub, 1) := by decide +kernel
theorem dX2_workOut_48 : decode cX2_workOut 48 = .ok (.if_icmp .ge 15, 3) := by decide +kernel
theorem dX2_workOut_51 : decode cX2_workOut 51 = .ok (.aload_n 0, 1) := by decide +kernel
theorem dX2_workOut_52 : decode cX2_workOut 52 = .ok (.getfield 9, 3) := by decide +kernel
theorem dX2_workOut_55 : decode cX2_workOut 55 = .ok (.iload 6, 2) := by decide +kernel
theorem dX2_workOut_57 : decode cX2_workOut 57 = .ok (.iconst 1, 1) := by decide +kernel
theorem dX2_workOut_58 : decode cX2_workOut 58 = .ok (.iadd, 1) := by decide +kernel
theorem dX2_workOut_59 : decode cX2_workOut 59 = .ok (.iaload, 1) := by decide +kernel
theorem dX2_workOut_60 : decode cX2_workOut 60 = .ok (.goto 12, 3) := by decide +kernel
theorem dX2_workOut_63 : decode cX2_workOut 63 = .ok (.aload_n 0, 1) := by decide +kernel
theorem dX2_workOut_64 : decode cX2_workOut 64 = .ok (.getfield 15, 3) := by decide +kernel
theorem dX2_workOut_67 : decode cX2_workOut 67 = .ok (.getfield 49, 3) := by decide +kernel
theorem dX2_workOut_70 : decode cX2_workOut 70 = .ok (.iconst 1, 1) := by decide +kernel
theorem dX2_workOut_71 : decode cX2_workOut 71 = .ok (.iaload, 1) := by decide +kernel
theorem dX2_workOut_72 : decode cX2_workOut 72 = .ok (.istore 8, 2) := by decide +kernel
theorem dX2_workOut_74 : decode cX2_workOut 74 = .ok (.aload_n 0, 1) := by decide +kernel
theorem dX2_workOut_75 : decode cX2_workOut 75 = .ok (.getfield 19, 3) := by decide +kernel
theorem dX2_workOut_78 : decode cX2_workOut 78 = .ok (.aload_n 1, 1) := by decide +kernel
theorem dX2_workOut_79 : decode cX2_workOut 79 = .ok (.iload 4, 2) := by decide +kernel
theorem dX2_workOut_81 : decode cX2_workOut 81 = .ok (.iload 7, 2) := by decide +kernel
theorem dX2_workOut_83 : decode cX2_workOut 83 = .ok (.aload_n 0, 1) := by decide +kernel
theorem dX2_workOut_84 : decode cX2_workOut 84 = .ok (.getfield 9, 3) := by decide +kernel
theorem dX2_workOut_87 : decode cX2_workOut 87 = .ok (.iload 6, 2) := by decide +kernel
theorem dX2_workOut_89 : decode cX2_workOut 89 = .ok (.iaload, 1) := by decide +kernel
theorem dX2_workOut_90 : decode cX2_workOut 90 = .ok (.iload 8, 2) := by decide +kernel
theorem dX2_workOut_92 : decode cX2_workOut 92 = .ok (.aload_n 2, 1) := by decide +kernel
theorem dX2_workOut_93 : decode cX2_workOut 93 = .ok (.iload 5, 2) := by decide +kernel
theorem dX2_workOut_95 : decode cX2_workOut 95 = .ok (.iaload, 1) := by decide +kernel
theorem dX2_workOut_96 : decode cX2_workOut 96 = .ok (.invokevirtual 52, 3) := by decide +kernel
theorem dX2_workOut_99 : decode cX2_workOut 99 = .ok (.ireturn, 1) := by decide +kernel
theorem dX2_knots_0 : decode cX2_knots 0 = .ok (.iconst 0, 1) := by decide +kernel
theorem dX2_knots_1 : decode cX2_knots 1 = .ok (.istore 4, 2) := by decide +kernel
theorem dX2_knots_3 : decode cX2_knots 3 = .ok (.iconst 0, 1) := by decide +kernel
theorem dX2_knots_4 : decode cX2_knots 4 = .ok (.istore 5, 2) := by decide +kernel
theorem dX2_knots_6 : decode cX2_knots 6 = .ok (.iconst 0, 1) := by decide +kernel
theorem dX2_knots_7 : decode cX2_knots 7 = .ok (.istore 6, 2) := by decide +kernel
theorem dX2_knots_9 : decode cX2_knots 9 = .ok (.iload 6, 2) := by decide +kernel
theorem dX2_knots_11 : decode cX2_knots 11 = .ok (.iload_n 3, 1) := by decide +kernel
theorem dX2_knots_12 : decode cX2_knots 12 = .ok (.if_icmp .ge 79, 3) := by decide +kernel
theorem dX2_knots_15 : decode cX2_knots 15 = .ok (.iconst 0, 1) := by decide +kernel
theorem dX2_knots_16 : decode cX2_knots 16 = .ok (.istore 7, 2) := by decide +kernel
theorem dX2_knots_18 : decode cX2_knots 18 = .ok (.iload 7, 2) := by decide +kernel
theorem dX2_knots_20 : decode cX2_knots 20 = .ok (.aload_n 1, 1) := by decide +kernel
theorem dX2_knots_21 : decode cX2_knots 21 = .ok (.getfield 23, 3) := by decide +kernel
theorem dX2_knots_24 : decode cX2_knots 24 = .ok (.if_icmp .ge 61, 3) := by decide +kernel
theorem dX2_knots_27 : decode cX2_knots 27 = .ok (.iconst 0, 1) := by decide +kernel
theorem dX2_knots_28 : decode cX2_knots 28 = .ok (.istore 8, 2) := by decide +kernel
theorem dX2_knots_30 : decode cX2_knots 30 = .ok (.iload 8, 2) := by decide +kernel
theorem dX2_knots_32 : decode cX2_knots 32 = .ok (.aload_n 0, 1) := by decide +kernel
theorem dX2_knots_33 : decode cX2_knots 33 = .ok (.getfield 15, 3) := by decide +kernel
theorem dX2_knots_36 : decode cX2_knots 36 = .ok (.getfield 37, 3) := by decide +kernel
theorem dX2_knots_39 : decode cX2_knots 39 = .ok (.if_icmp .ge 37, 3) := by decide +kernel
theorem dX2_knots_42 : decode cX2_knots 42 = .ok (.aload_n 0, 1) := by decide +kernel
theorem dX2_knots_43 : decode cX2_knots 43 = .ok (.aload_n 1, 1) := by decide +kernel
theorem dX2_knots_44 : decode cX2_knots 44 = .ok (.aload_n 2, 1) := by decide +kernel
theorem dX2_knots_45 : decode cX2_knots 45 = .ok (.iload 5, 2) := by decide +kernel
theorem dX2_knots_47 : decode cX2_knots 47 = .ok (.iload 7, 2) := by decide +kernel
theorem dX2_knots_49 : decode cX2_knots 49 = .ok (.iload 8, 2) := by decide +kernel
theorem dX2_knots_51 : decode cX2_knots 51 = .ok (.invokevirtual 45, 3) := by decide +kernel
theorem dX2_knots_54 : decode cX2_knots 54 = .ok (.pop, 1) := by decide +kernel
theorem dX2_knots_55 : decode cX2_knots 55 = .ok (.iload 4, 2) := by decide +kernel
theorem dX2_knots_57 : decode cX2_knots 57 = .ok (.aload_n 0, 1) := by decide +kernel
theorem dX2_knots_58 : decode cX2_knots 58 = .ok (.getfield 19, 3) := by decide +kernel
theorem dX2_knots_61 : decode cX2_knots 61 = .ok (.aload_n 1, 1) := by decide +kernel
theorem dX2_knots_62 : decode cX2_knots 62 = .ok (.iload 7, 2) := by decide +kernel
theorem dX2_knots_64 : decode cX2_knots 64 = .ok (.invokevirtual 57, 3) := by decide +kernel
theorem dX2_knots_67 : decode cX2_knots 67 = .ok (.iadd, 1) := by decide +kernel
theorem dX2_knots_68 : decode cX2_knots 68 = .ok (.istore 4, 2) := by decide +kernel
theorem dX2_knots_70 : decode cX2_knots 70 = .ok (.iinc 8 1, 3) := by decide +kernel
theorem dX2_knots_73 : decode cX2_knots 73 = .ok (.goto (-43), 3) := by decide +kernel
theorem dX2_knots_76 : decode cX2_knots 76 = .ok (.iinc 5 1, 3) := by decide +kernel
theorem dX2_knots_79 : decode cX2_knots 79 = .ok (.iinc 7 1, 3) := by decide +kernel
theorem dX2_knots_82 : decode cX2_knots 82 = .ok (.goto (-64), 3) := by decide +kernel
theorem dX2_knots_85 : decode cX2_knots 85 = .ok (.iinc 6 1, 3) := by decide +kernel
theorem dX2_knots_88 : decode cX2_knots 88 = .ok (.goto (-79), 3) := by decide +kernel
theorem dX2_knots_91 : decode cX2_knots 91 = .ok (.iload 4, 2) := by decide +kernel
theorem dX2_knots_93 : decode cX2_knots 93 = .ok (.ireturn, 1) := by decide +kernel
theorem dX2_farthestFrom_0 : decode cX2_farthestFrom 0 = .ok (.lconst 0, 1) := by decide +kernel
theorem dX2_farthestFrom_1 : decode cX2_farthestFrom 1 = .ok (.lstore_n 3, 1) := by decide +kernel
theorem dX2_farthestFrom_2 : decode cX2_farthestFrom 2 = .ok (.ldc2_w 61, 3) := by decide +kernel
theorem dX2_farthestFrom_5 : decode cX2_farthestFrom 5 = .ok (.lstore 5, 2) := by decide +kernel
theorem dX2_farthestFrom_7 : decode cX2_farthestFrom 7 = .ok (.iconst 0, 1) := by decide +kernel
theorem dX2_farthestFrom_8 : decode cX2_farthestFrom 8 = .ok (.istore 7, 2) := by decide +kernel
theorem dX2_farthestFrom_10 : decode cX2_farthestFrom 10 = .ok (.iload 7, 2) := by decide +kernel
theorem dX2_farthestFrom_12 : decode cX2_farthestFrom 12 = .ok (.iload_n 2, 1) := by decide +kernel
theorem dX2_farthestFrom_13 : decode cX2_farthestFrom 13 = .ok (.if_icmp .gt 75, 3) := by decide +kernel
theorem dX2_farthestFrom_16 : decode cX2_farthestFrom 16 = .ok (.iconst 0, 1) := by decide +kernel
theorem dX2_farthestFrom_17 : decode cX2_farthestFrom 17 = .ok (.istore 8, 2) := by decide +kernel
theorem dX2_farthestFrom_19 : decode cX2_farthestFrom 19 = .ok (.iload 8, 2) := by decide +kernel
theorem dX2_farthestFrom_21 : decode cX2_farthestFrom 21 = .ok (.aload_n 0, 1) := by decide +kernel
theorem dX2_farthestFrom_22 : decode cX2_farthestFrom 22 = .ok (.getfield 15, 3) := by decide +kernel
theorem dX2_farthestFrom_25 : decode cX2_farthestFrom 25 = .ok (.getfield 37, 3) := by decide +kernel
theorem dX2_farthestFrom_28 : decode cX2_farthestFrom 28 = .ok (.if_icmp .ge 54, 3) := by decide +kernel
theorem dX2_farthestFrom_31 : decode cX2_farthestFrom 31 = .ok (.aload_n 0, 1) := by decide +kernel
theorem dX2_farthestFrom_32 : decode cX2_farthestFrom 32 = .ok (.iload 7, 2) := by decide +kernel
theorem dX2_farthestFrom_34 : decode cX2_farthestFrom 34 = .ok (.iload 8, 2) := by decide +kernel
theorem dX2_farthestFrom_36 : decode cX2_farthestFrom 36 = .ok (.invokevirtual 63, 3) := by decide +kernel
theorem dX2_farthestFrom_39 : decode cX2_farthestFrom 39 = .ok (.i2l, 1) := by decide +kernel
theorem dX2_farthestFrom_40 : decode cX2_farthestFrom 40 = .ok (.aload_n 1, 1) := by decide +kernel
theorem dX2_farthestFrom_41 : decode cX2_farthestFrom 41 = .ok (.iload 7, 2) := by decide +kernel
theorem dX2_farthestFrom_43 : decode cX2_farthestFrom 43 = .ok (.iload 8, 2) := by decide +kernel
theorem dX2_farthestFrom_45 : decode cX2_farthestFrom 45 = .ok (.invokevirtual 63, 3) := by decide +kernel
theorem dX2_farthestFrom_48 : decode cX2_farthestFrom 48 = .ok (.i2l, 1) := by decide +kernel
theorem dX2_farthestFrom_49 : decode cX2_farthestFrom 49 = .ok (.lsub, 1) := by decide +kernel
theorem dX2_farthestFrom_50 : decode cX2_farthestFrom 50 = .ok (.invokestatic 67, 3) := by decide +kernel
theorem dX2_farthestFrom_53 : decode cX2_farthestFrom 53 = .ok (.lstore 9, 2) := by decide +kernel
theorem dX2_farthestFrom_55 : decode cX2_farthestFrom 55 = .ok (.lload 9, 2) := by decide +kernel
theorem dX2_farthestFrom_57 : decode cX2_farthestFrom 57 = .ok (.lload_n 3, 1) := by decide +kernel
theorem dX2_farthestFrom_58 : decode cX2_farthestFrom 58 = .ok (.lcmp, 1) := by decide +kernel
theorem dX2_farthestFrom_59 : decode cX2_farthestFrom 59 = .ok (.ifCond .le 17, 3) := by decide +kernel
theorem dX2_farthestFrom_62 : decode cX2_farthestFrom 62 = .ok (.lload 9, 2) := by decide +kernel
theorem dX2_farthestFrom_64 : decode cX2_farthestFrom 64 = .ok (.lstore_n 3, 1) := by decide +kernel
theorem dX2_farthestFrom_65 : decode cX2_farthestFrom 65 = .ok (.bipush 16, 2) := by decide +kernel
theorem dX2_farthestFrom_67 : decode cX2_farthestFrom 67 = .ok (.iload 7, 2) := by decide +kernel
theorem dX2_farthestFrom_69 : decode cX2_farthestFrom 69 = .ok (.imul, 1) := by decide +kernel
theorem dX2_farthestFrom_70 : decode cX2_farthestFrom 70 = .ok (.iload 8, 2) := by decide +kernel
theorem dX2_farthestFrom_72 : decode cX2_farthestFrom 72 = .ok (.iadd, 1) := by decide +kernel
theorem dX2_farthestFrom_73 : decode cX2_farthestFrom 73 = .ok (.i2l, 1) := by decide +kernel
theorem dX2_farthestFrom_74 : decode cX2_farthestFrom 74 = .ok (.lstore 5, 2) := by decide +kernel
theorem dX2_farthestFrom_76 : decode cX2_farthestFrom 76 = .ok (.iinc 8 1, 3) := by decide +kernel
theorem dX2_farthestFrom_79 : decode cX2_farthestFrom 79 = .ok (.goto (-60), 3) := by decide +kernel
theorem dX2_farthestFrom_82 : decode cX2_farthestFrom 82 = .ok (.iinc 7 1, 3) := by decide +kernel
theorem dX2_farthestFrom_85 : decode cX2_farthestFrom 85 = .ok (.goto (-75), 3) := by decide +kernel
theorem dX2_farthestFrom_88 : decode cX2_farthestFrom 88 = .ok (.lload 5, 2) := by decide +kernel
theorem dX2_farthestFrom_90 : decode cX2_farthestFrom 90 = .ok (.lreturn, 1) := by decide +kernel
theorem dX3_init_0 : decode cX3_init 0 = .ok (.aload_n 0, 1) := by decide +kernel
theorem dX3_init_1 : decode cX3_init 1 = .ok (.invokespecial 3, 3) := by decide +kernel
theorem dX3_init_4 : decode cX3_init 4 = .ok (.aload_n 0, 1) := by decide +kernel
theorem dX3_init_5 : decode cX3_init 5 = .ok (.bipush 60, 2) := by decide +kernel
theorem dX3_init_7 : decode cX3_init 7 = .ok (.newarray .int, 2) := by decide +kernel
theorem dX3_init_9 : decode cX3_init 9 = .ok (.putfield 9, 3) := by decide +kernel
theorem dX3_init_12 : decode cX3_init 12 = .ok (.aload_n 0, 1) := by decide +kernel
theorem dX3_init_13 : decode cX3_init 13 = .ok (.bipush 60, 2) := by decide +kernel
theorem dX3_init_15 : decode cX3_init 15 = .ok (.newarray .int, 2) := by decide +kernel
theorem dX3_init_17 : decode cX3_init 17 = .ok (.putfield 15, 3) := by decide +kernel
theorem dX3_init_20 : decode cX3_init 20 = .ok (.aload_n 0, 1) := by decide +kernel
theorem dX3_init_21 : decode cX3_init 21 = .ok (.bipush 60, 2) := by decide +kernel
theorem dX3_init_23 : decode cX3_init 23 = .ok (.newarray .boolean, 2) := by decide +kernel
theorem dX3_init_25 : decode cX3_init 25 = .ok (.putfield 18, 3) := by decide +kernel
theorem dX3_init_28 : decode cX3_init 28 = .ok (.aload_n 0, 1) := by decide +kernel
theorem dX3_init_29 : decode cX3_init 29 = .ok (.iconst 4, 1) := by decide +kernel
theorem dX3_init_30 : decode cX3_init 30 = .ok (.newarray .int, 2) := by decide +kernel
theorem dX3_init_32 : decode cX3_init 32 = .ok (.putfield 22, 3) := by decide +kernel
theorem dX3_init_35 : decode cX3_init 35 = .ok (.aload_n 0, 1) := by decide +kernel
theorem dX3_init_36 : decode cX3_init 36 = .ok (.iconst 4, 1) := by decide +kernel
theorem dX3_init_37 : decode cX3_init 37 = .ok (.newarray .int, 2) := by decide +kernel
theorem dX3_init_39 : decode cX3_init 39 = .ok (.putfield 25, 3) := by decide +kernel
theorem dX3_init_42 : decode cX3_init 42 = .ok (.return_, 1) := by decide +kernel
theorem dX3_workOut_0 : decode cX3_workOut 0 = .ok (.aload_n 0, 1) := by decide +kernel
theorem dX3_workOut_1 : decode cX3_workOut 1 = .ok (.getfield 22, 3) := by decide +kernel
theorem dX3_workOut_4 : decode cX3_workOut 4 = .ok (.iconst 0, 1) := by decide +kernel
theorem dX3_workOut_5 : decode cX3_workOut 5 = .ok (.iload_n 3, 1) := by decide +kernel
theorem dX3_workOut_6 : decode cX3_workOut 6 = .ok (.iastore, 1) := by decide +kernel
theorem dX3_workOut_7 : decode cX3_workOut 7 = .ok (.aload_n 0, 1) := by decide +kernel
theorem dX3_workOut_8 : decode cX3_workOut 8 = .ok (.getfield 22, 3) := by decide +kernel
theorem dX3_workOut_11 : decode cX3_workOut 11 = .ok (.iconst 1, 1) := by decide +kernel
theorem dX3_workOut_12 : decode cX3_workOut 12 = .ok (.iload 4, 2) := by decide +kernel
theorem dX3_workOut_14 : decode cX3_workOut 14 = .ok (.iastore, 1) := by decide +kernel
theorem dX3_workOut_15 : decode cX3_workOut 15 = .ok (.aload_n 0, 1) := by decide +kernel
theorem dX3_workOut_16 : decode cX3_workOut 16 = .ok (.getfield 22, 3) := by decide +kernel
theorem dX3_workOut_19 : decode cX3_workOut 19 = .ok (.iconst 2, 1) := by decide +kernel
theorem dX3_workOut_20 : decode cX3_workOut 20 = .ok (.iload 5, 2) := by decide +kernel
theorem dX3_workOut_22 : decode cX3_workOut 22 = .ok (.iastore, 1) := by decide +kernel
theorem dX3_workOut_23 : decode cX3_workOut 23 = .ok (.aload_n 0, 1) := by decide +kernel
theorem dX3_workOut_24 : decode cX3_workOut 24 = .ok (.getfield 22, 3) := by decide +kernel
theorem dX3_workOut_27 : decode cX3_workOut 27 = .ok (.iconst 3, 1) := by decide +kernel
theorem dX3_workOut_28 : decode cX3_workOut 28 = .ok (.iload 6, 2) := by decide +kernel
theorem dX3_workOut_30 : decode cX3_workOut 30 = .ok (.iastore, 1) := by decide +kernel
theorem dX3_workOut_31 : decode cX3_workOut 31 = .ok (.aload_n 1, 1) := by decide +kernel
theorem dX3_workOut_32 : decode cX3_workOut 32 = .ok (.getfield 28, 3) := by decide +kernel
theorem dX3_workOut_35 : decode cX3_workOut 35 = .ok (.iload_n 2, 1) := by decide +kernel
theorem dX3_workOut_36 : decode cX3_workOut 36 = .ok (.iaload, 1) := by decide +kernel
theorem dX3_workOut_37 : decode cX3_workOut 37 = .ok (.istore 7, 2) := by decide +kernel
theorem dX3_workOut_39 : decode cX3_workOut 39 = .ok (.aload_n 1, 1) := by decide +kernel
theorem dX3_workOut_40 : decode cX3_workOut 40 = .ok (.getfield 28, 3) := by decide +kernel
theorem dX3_workOut_43 : decode cX3_workOut 43 = .ok (.iload_n 2, 1) := by decide +kernel
theorem dX3_workOut_44 : decode cX3_workOut 44 = .ok (.iconst 1, 1) := by decide +kernel
theorem dX3_workOut_45 : decode cX3_workOut 45 = .ok (.iadd, 1) := by decide +kernel
theorem dX3_workOut_46 : decode cX3_workOut 46 = .ok (.iaload, 1) := by decide +kernel
theorem dX3_workOut_47 : decode cX3_workOut 47 = .ok (.iconst 1, 1) := by decide +kernel
theorem dX3_workOut_48 : decode cX3_workOut 48 = .ok (.isub, 1) := by decide +kernel
theorem dX3_workOut_49 : decode cX3_workOut 49 = .ok (.istore 8, 2) := by decide +kernel
theorem dX3_workOut_51 : decode cX3_workOut 51 = .ok (.iload 8, 2) := by decide +kernel
theorem dX3_workOut_53 : decode cX3_workOut 53 = .ok (.iload 7, 2) := by decide +kernel
theorem dX3_workOut_55 : decode cX3_workOut 55 = .ok (.if_icmp .lt 23, 3) := by decide +kernel
theorem dX3_workOut_58 : decode cX3_workOut 58 = .ok (.aload_n 0, 1) := by decide +kernel
theorem dX3_workOut_59 : decode cX3_workOut 59 = .ok (.getfield 9, 3) := by decide +kernel
theorem dX3_workOut_62 : decode cX3_workOut 62 = .ok (.iload 8, 2) := by decide +kernel
theorem dX3_workOut_64 : decode cX3_workOut 64 = .ok (.aload_n 0, 1) := by decide +kernel
theorem dX3_workOut_65 : decode cX3_workOut 65 = .ok (.aload_n 1, 1) := by decide +kernel
theorem dX3_workOut_66 : decode cX3_workOut 66 = .ok (.iload 8, 2) := by decide +kernel
theorem dX3_workOut_68 : decode cX3_workOut 68 = .ok (.invokevirtual 33, 3) := by decide +kernel
theorem dX3_workOut_71 : decode cX3_workOut 71 = .ok (.iastore, 1) := by decide +kernel
theorem dX3_workOut_72 : decode cX3_workOut 72 = .ok (.iinc 8 (-1), 3) := by decide +kernel
theorem dX3_workOut_75 : decode cX3_workOut 75 = .ok (.goto (-24), 3) := by decide +kernel
theorem dX3_workOut_78 : decode cX3_workOut 78 = .ok (.aload_n 0, 1) := by decide +kernel
theorem dX3_workOut_79 : decode cX3_workOut 79 = .ok (.getfield 9, 3) := by decide +kernel
theorem dX3_workOut_82 : decode cX3_workOut 82 = .ok (.iload 7, 2) := by decide +kernel
theorem dX3_workOut_84 : decode cX3_workOut 84 = .ok (.iaload, 1) := by decide +kernel
theorem dX3_workOut_85 : decode cX3_workOut 85 = .ok (.ireturn, 1) := by decide +kernel
theorem dX3_worthOf_0 : decode cX3_worthOf 0 = .ok (.aload_n 1, 1) := by decide +kernel
theorem dX3_worthOf_1 : decode cX3_worthOf 1 = .ok (.getfield 37, 3) := by decide +kernel
theorem dX3_worthOf_4 : decode cX3_worthOf 4 = .ok (.iload_n 2, 1) := by decide +kernel
theorem dX3_worthOf_5 : decode cX3_worthOf 5 = .ok (.iaload, 1) := by decide +kernel
theorem dX3_worthOf_6 : decode cX3_worthOf 6 = .ok (.istore_n 3, 1) := by decide +kernel
theorem dX3_worthOf_7 : decode cX3_worthOf 7 = .ok (.iload_n 3, 1) := by decide +kernel
theorem dX3_worthOf_8 : decode cX3_worthOf 8 = .ok (.tableswitch 126 4 10 #[44, 51, 72, 93, 114, 114, 114], 44) := by decide +kernel
theorem dX3_worthOf_52 : decode cX3_worthOf 52 = .ok (.aload_n 1, 1) := by decide +kernel
theorem dX3_worthOf_53 : decode cX3_worthOf 53 = .ok (.getfield 40, 3) := by decide +kernel
theorem dX3_worthOf_56 : decode cX3_worthOf 56 = .ok (.iload_n 2, 1) := by decide +kernel
theorem dX3_worthOf_57 : decode cX3_worthOf 57 = .ok (.iaload, 1) := by decide +kernel
theorem dX3_worthOf_58 : decode cX3_worthOf 58 = .ok (.ireturn, 1) := by decide +kernel
theorem dX3_worthOf_59 : decode cX3_worthOf 59 = .ok (.aload_n 0, 1) := by decide +kernel
theorem dX3_worthOf_60 : decode cX3_worthOf 60 = .ok (.getfield 9, 3) := by decide +kernel
theorem dX3_worthOf_63 : decode cX3_worthOf 63 = .ok (.iload_n 2, 1) := by decide +kernel
theorem dX3_worthOf_64 : decode cX3_worthOf 64 = .ok (.iconst 1, 1) := by decide +kernel
theorem dX3_worthOf_65 : decode cX3_worthOf 65 = .ok (.iadd, 1) := by decide +kernel
theorem dX3_worthOf_66 : decode cX3_worthOf 66 = .ok (.iaload, 1) := by decide +kernel
theorem dX3_worthOf_67 : decode cX3_worthOf 67 = .ok (.aload_n 0, 1) := by decide +kernel
theorem dX3_worthOf_68 : decode cX3_worthOf 68 = .ok (.getfield 9, 3) := by decide +kernel
theorem dX3_worthOf_71 : decode cX3_worthOf 71 = .ok (.aload_n 1, 1) := by decide +kernel
theorem dX3_worthOf_72 : decode cX3_worthOf 72 = .ok (.getfield 43, 3) := by decide +kernel
theorem dX3_worthOf_75 : decode cX3_worthOf 75 = .ok (.iload_n 2, 1) := by decide +kernel
theorem dX3_worthOf_76 : decode cX3_worthOf 76 = .ok (.iaload, 1) := by decide +kernel
theorem dX3_worthOf_77 : decode cX3_worthOf 77 = .ok (.iaload, 1) := by decide +kernel
theorem dX3_worthOf_78 : decode cX3_worthOf 78 = .ok (.iadd, 1) := by decide +kernel
theorem dX3_worthOf_79 : decode cX3_worthOf 79 = .ok (.ireturn, 1) := by decide +kernel
theorem dX3_worthOf_80 : decode cX3_worthOf 80 = .ok (.aload_n 0, 1) := by decide +kernel
theorem dX3_worthOf_81 : decode cX3_worthOf 81 = .ok (.getfield 9, 3) := by decide +kernel
theorem dX3_worthOf_84 : decode cX3_worthOf 84 = .ok (.iload_n 2, 1) := by decide +kernel
theorem dX3_worthOf_85 : decode cX3_worthOf 85 = .ok (.iconst 1, 1) := by decide +kernel
theorem dX3_worthOf_86 : decode cX3_worthOf 86 = .ok (.iadd, 1) := by decide +kernel
theorem dX3_worthOf_87 : decode cX3_worthOf 87 = .ok (.iaload, 1) := by decide +kernel
theorem dX3_worthOf_88 : decode cX3_worthOf 88 = .ok (.aload_n 0, 1) := by decide +kernel
theorem dX3_worthOf_89 : decode cX3_worthOf 89 = .ok (.getfield 9, 3) := by decide +kernel
theorem dX3_worthOf_92 : decode cX3_worthOf 92 = .ok (.aload_n 1, 1) := by decide +kernel
theorem dX3_worthOf_93 : decode cX3_worthOf 93 = .ok (.getfield 43, 3) := by decide +kernel
theorem dX3_worthOf_96 : decode cX3_worthOf 96 = .ok (.iload_n 2, 1) := by decide +kernel
theorem dX3_worthOf_97 : decode cX3_worthOf 97 = .ok (.iaload, 1) := by decide +kernel
theorem dX3_worthOf_98 : decode cX3_worthOf 98 = .ok (.iaload, 1) := by decide +kernel
theorem dX3_worthOf_99 : decode cX3_worthOf 99 = .ok (.isub, 1) := by decide +kernel
theorem dX3_worthOf_100 : decode cX3_worthOf 100 = .ok (.ireturn, 1) := by decide +kernel
theorem dX3_worthOf_101 : decode cX3_worthOf 101 = .ok (.aload_n 0, 1) := by decide +kernel
theorem dX3_worthOf_102 : decode cX3_worthOf 102 = .ok (.getfield 9, 3) := by decide +kernel
theorem dX3_worthOf_105 : decode cX3_worthOf 105 = .ok (.iload_n 2, 1) := by decide +kernel
theorem dX3_worthOf_106 : decode cX3_worthOf 106 = .ok (.iconst 1, 1) := by decide +kernel
theorem dX3_worthOf_107 : decode cX3_worthOf 107 = .ok (.iadd, 1) := by decide +kernel
theorem dX3_worthOf_108 : decode cX3_worthOf 108 = .ok (.iaload, 1) := by decide +kernel
theorem dX3_worthOf_109 : decode cX3_worthOf 109 = .ok (.aload_n 0, 1) := by decide +kernel
theorem dX3_worthOf_110 : decode cX3_worthOf 110 = .ok (.getfield 9, 3) := by decide +kernel
theorem dX3_worthOf_113 : decode cX3_worthOf 113 = .ok (.aload_n 1, 1) := by decide +kernel
theorem dX3_worthOf_114 : decode cX3_worthOf 114 = .ok (.getfield 43, 3) := by decide +kernel
theorem dX3_worthOf_117 : decode cX3_worthOf 117 = .ok (.iload_n 2, 1) := by decide +kernel
theorem dX3_worthOf_118 : decode cX3_worthOf 118 = .ok (.iaload, 1) := by decide +kernel
theorem dX3_worthOf_119 : decode cX3_worthOf 119 = .ok (.iaload, 1) := by decide +kernel
theorem dX3_worthOf_120 : decode cX3_worthOf 120 = .ok (.imul, 1) := by decide +kernel
theorem dX3_worthOf_121 : decode cX3_worthOf 121 = .ok (.ireturn, 1) := by decide +kernel
theorem dX3_worthOf_122 : decode cX3_worthOf 122 = .ok (.aload_n 0, 1) := by decide +kernel
theorem dX3_worthOf_123 : decode cX3_worthOf 123 = .ok (.getfield 9, 3) := by decide +kernel
theorem dX3_worthOf_126 : decode cX3_worthOf 126 = .ok (.aload_n 0, 1) := by decide +kernel
theorem dX3_worthOf_127 : decode cX3_worthOf 127 = .ok (.aload_n 1, 1) := by decide +kernel
theorem dX3_worthOf_128 : decode cX3_worthOf 128 = .ok (.iload_n 2, 1) := by decide +kernel
theorem dX3_worthOf_129 : decode cX3_worthOf 129 = .ok (.invokevirtual 46, 3) := by decide +kernel
theorem dX3_worthOf_132 : decode cX3_worthOf 132 = .ok (.iaload, 1) := by decide +kernel
theorem dX3_worthOf_133 : decode cX3_worthOf 133 = .ok (.ireturn, 1) := by decide +kernel
theorem dX3_worthOf_134 : decode cX3_worthOf 134 = .ok (.aload_n 0, 1) := by decide +kernel
theorem dX3_worthOf_135 : decode cX3_worthOf 135 = .ok (.getfield 22, 3) := by decide +kernel
theorem dX3_worthOf_138 : decode cX3_worthOf 138 = .ok (.iload_n 3, 1) := by decide +kernel
theorem dX3_worthOf_139 : decode cX3_worthOf 139 = .ok (.iaload, 1) := by decide +kernel
theorem dX3_worthOf_140 : decode cX3_worthOf 140 = .ok (.ireturn, 1) := by decide +kernel
theorem dX3_taken_0 : decode cX3_taken 0 = .ok (.aload_n 0, 1) := by decide +kernel
theorem dX3_taken_1 : decode cX3_taken 1 = .ok (.getfield 9, 3) := by decide +kernel
theorem dX3_taken_4 : decode cX3_taken 4 = .ok (.iload_n 2, 1) := by decide +kernel
theorem dX3_taken_5 : decode cX3_taken 5 = .ok (.iconst 1, 1) := by decide +kernel
theorem dX3_taken_6 : decode cX3_taken 6 = .ok (.iadd, 1) := by decide +kernel
theorem dX3_taken_7 : decode cX3_taken 7 = .ok (.iaload, 1) := by decide +kernel
theorem dX3_taken_8 : decode cX3_taken 8 = .ok (.istore_n 3, 1) := by decide +kernel
theorem dX3_taken_9 : decode cX3_taken 9 = .ok (.aload_n 0, 1) := by decide +kernel
theorem dX3_taken_10 : decode cX3_taken 10 = .ok (.getfield 9, 3) := by decide +kernel
theorem dX3_taken_13 : decode cX3_taken 13 = .ok (.aload_n 1, 1) := by decide +kernel
theorem dX3_taken_14 : decode cX3_taken 14 = .ok (.getfield 43, 3) := by decide +kernel
theorem dX3_taken_17 : decode cX3_taken 17 = .ok (.iload_n 2, 1) := by decide +kernel
theorem dX3_taken_18 : decode cX3_taken 18 = .ok (.iaload, 1) := by decide +kernel
theorem dX3_taken_19 : decode cX3_taken 19 = .ok (.iaload, 1) := by decide +kernel
theorem dX3_taken_20 : decode cX3_taken 20 = .ok (.istore 4, 2) := by decide +kernel
theorem dX3_taken_22 : decode cX3_taken 22 = .ok (.aload_n 1, 1) := by decide +kernel
theorem dX3_taken_23 : decode cX3_taken 23 = .ok (.getfield 37, 3) := by decide +kernel
theorem dX3_taken_26 : decode cX3_taken 26 = .ok (.iload_n 2, 1) := by decide +kernel
theorem dX3_taken_27 : decode cX3_taken 27 = .ok (.iaload, 1) := by decide +kernel
theorem dX3_taken_28 : decode cX3_taken 28 = .ok (.bipush 10, 2) := by decide +kernel
theorem dX3_taken_30 : decode cX3_taken 30 = .ok (.if_icmp .ne 25, 3) := by decide +kernel
theorem dX3_taken_33 : decode cX3_taken 33 = .ok (.iload_n 3, 1) := by decide +kernel
theorem dX3_taken_34 : decode cX3_taken 34 = .ok (.iload 4, 2) := by decide +kernel
theorem dX3_taken_36 : decode cX3_taken 36 = .ok (.if_icmp .le 12, 3) := by decide +kernel
theorem dX3_taken_39 : decode cX3_taken 39 = .ok (.aload_n 1, 1) := by decide +kernel
theorem dX3_taken_40 : decode cX3_taken 40 = .ok (.getfield 49, 3) := by decide +kernel
theorem dX3_taken_43 : decode cX3_taken 43 = .ok (.iload_n 2, 1) := by decide +kernel
theorem dX3_taken_44 : decode cX3_taken 44 = .ok (.iaload, 1) := by decide +kernel
theorem dX3_taken_45 : decode cX3_taken 45 = .ok (.goto 9, 3) := by decide +kernel
theorem dX3_taken_48 : decode cX3_taken 48 = .ok (.aload_n 1, 1) := by decide +kernel
theorem dX3_taken_49 : decode cX3_taken 49 = .ok (.getfield 52, 3) := by decide +kernel
theorem dX3_taken_52 : decode cX3_taken 52 = .ok (.iload_n 2, 1) := by decide +kernel
theorem dX3_taken_53 : decode cX3_taken 53 = .ok (.iaload, 1) := by decide +kernel
theorem dX3_taken_54 : decode cX3_taken 54 = .ok (.ireturn, 1) := by decide +kernel
theorem dX3_taken_55 : decode cX3_taken 55 = .ok (.aload_n 1, 1) := by decide +kernel
theorem dX3_taken_56 : decode cX3_taken 56 = .ok (.getfield 37, 3) := by decide +kernel
theorem dX3_taken_59 : decode cX3_taken 59 = .ok (.iload_n 2, 1) := by decide +kernel
theorem dX3_taken_60 : decode cX3_taken 60 = .ok (.iaload, 1) := by decide +kernel
theorem dX3_taken_61 : decode cX3_taken 61 = .ok (.bipush 8, 2) := by decide +kernel
theorem dX3_taken_63 : decode cX3_taken 63 = .ok (.if_icmp .ne 17, 3) := by decide +kernel
theorem dX3_taken_66 : decode cX3_taken 66 = .ok (.iload_n 3, 1) := by decide +kernel
theorem dX3_taken_67 : decode cX3_taken 67 = .ok (.iload 4, 2) := by decide +kernel
theorem dX3_taken_69 : decode cX3_taken 69 = .ok (.if_icmp .gt 7, 3) := by decide +kernel
theorem dX3_taken_72 : decode cX3_taken 72 = .ok (.iconst 1, 1) := by decide +kernel
theorem dX3_taken_73 : decode cX3_taken 73 = .ok (.goto 18, 3) := by decide +kernel
theorem dX3_taken_76 : decode cX3_taken 76 = .ok (.iconst 0, 1) := by decide +kernel
theorem dX3_taken_77 : decode cX3_taken 77 = .ok (.goto 14, 3) := by decide +kernel
theorem dX3_taken_80 : decode cX3_taken 80 = .ok (.iload_n 3, 1) := by decide +kernel
theorem dX3_taken_81 : decode cX3_taken 81 = .ok (.iload 4, 2) := by decide +kernel
theorem dX3_taken_83 : decode cX3_taken 83 = .ok (.if_icmp .lt 7, 3) := by decide +kernel
theorem dX3_taken_86 : decode cX3_taken 86 = .ok (.iconst 1, 1) := by decide +kernel
theorem dX3_taken_87 : decode cX3_taken 87 = .ok (.goto 4, 3) := by decide +kernel
theorem dX3_taken_90 : decode cX3_taken 90 = .ok (.iconst 0, 1) := by decide +kernel
theorem dX3_taken_91 : decode cX3_taken 91 = .ok (.istore 5, 2) := by decide +kernel
theorem dX3_taken_93 : decode cX3_taken 93 = .ok (.iload 5, 2) := by decide +kernel
theorem dX3_taken_95 : decode cX3_taken 95 = .ok (.ifCond .eq 9, 3) := by decide +kernel
theorem dX3_taken_98 : decode cX3_taken 98 = .ok (.iload_n 2, 1) := by decide +kernel
theorem dX3_taken_99 : decode cX3_taken 99 = .ok (.iconst 1, 1) := by decide +kernel
theorem dX3_taken_100 : decode cX3_taken 100 = .ok (.iadd, 1) := by decide +kernel
theorem dX3_taken_101 : decode cX3_taken 101 = .ok (.goto 9, 3) := by decide +kernel
theorem dX3_taken_104 : decode cX3_taken 104 = .ok (.aload_n 1, 1) := by decide +kernel
theorem dX3_taken_105 : decode cX3_taken 105 = .ok (.getfield 43, 3) := by decide +kernel
theorem dX3_taken_108 : decode cX3_taken 108 = .ok (.iload_n 2, 1) := by decide +kernel
theorem dX3_taken_109 : decode cX3_taken 109 = .ok (.iaload, 1) := by decide +kernel
theorem dX3_taken_110 : decode cX3_taken 110 = .ok (.ireturn, 1) := by decide +kernel
theorem dX3_goBack_0 : decode cX3_goBack 0 = .ok (.aload_n 0, 1) := by decide +kernel
theorem dX3_goBack_1 : decode cX3_goBack 1 = .ok (.getfield 25, 3) := by decide +kernel
theorem dX3_goBack_4 : decode cX3_goBack 4 = .ok (.iconst 0, 1) := by decide +kernel
theorem dX3_goBack_5 : decode cX3_goBack 5 = .ok (.invokestatic 55, 3) := by decide +kernel
theorem dX3_goBack_8 : decode cX3_goBack 8 = .ok (.aload_n 1, 1) := by decide +kernel
theorem dX3_goBack_9 : decode cX3_goBack 9 = .ok (.getfield 28, 3) := by decide +kernel
theorem dX3_goBack_12 : decode cX3_goBack 12 = .ok (.iload_n 2, 1) := by decide +kernel
theorem dX3_goBack_13 : decode cX3_goBack 13 = .ok (.iaload, 1) := by decide +kernel
theorem dX3_goBack_14 : decode cX3_goBack 14 = .ok (.istore 4, 2) := by decide +kernel
theorem dX3_goBack_16 : decode cX3_goBack 16 = .ok (.aload_n 1, 1) := by decide +kernel
theorem dX3_goBack_17 : decode cX3_goBack 17 = .ok (.getfield 28, 3) := by decide +kernel
theorem dX3_goBack_20 : decode cX3_goBack 20 = .ok (.iload_n 2, 1) := by decide +kernel
theorem dX3_goBack_21 : decode cX3_goBack 21 = .ok (.iconst 1, 1) := by decide +kernel
theorem dX3_goBack_22 : decode cX3_goBack 22 = .ok (.iadd, 1) := by decide +kernel
theorem dX3_goBack_23 : decode cX3_goBack 23 = .ok (.iaload, 1) := by decide +kernel
theorem dX3_goBack_24 : decode cX3_goBack 24 = .ok (.istore 5, 2) := by decide +kernel
theorem dX3_goBack_26 : decode cX3_goBack 26 = .ok (.iload 4, 2) := by decide +kernel
theorem dX3_goBack_28 : decode cX3_goBack 28 = .ok (.istore 6, 2) := by decide +kernel
theorem dX3_goBack_30 : decode cX3_goBack 30 = .ok (.iload 6, 2) := by decide +kernel
theorem dX3_goBack_32 : decode cX3_goBack 32 = .ok (.iload 5, 2) := by decide +kernel
theorem dX3_goBack_34 : decode cX3_goBack 34 = .ok (.if_icmp .ge 17, 3) := by decide +kernel
theorem dX3_goBack_37 : decode cX3_goBack 37 = .ok (.aload_n 0, 1) := by decide +kernel
theorem dX3_goBack_38 : decode cX3_goBack 38 = .ok (.getfield 15, 3) := by decide +kernel
theorem dX3_goBack_41 : decode cX3_goBack 41 = .ok (.iload 6, 2) := by decide +kernel
theorem dX3_goBack_43 : decode cX3_goBack 43 = .ok (.iconst 0, 1) := by decide +kernel
theorem dX3_goBack_44 : decode cX3_goBack 44 = .ok (.iastore, 1) := by decide +kernel
theorem dX3_goBack_45 : decode cX3_goBack 45 = .ok (.iinc 6 1, 3) := by decide +kernel
theorem dX3_goBack_48 : decode cX3_goBack 48 = .ok (.goto (-18), 3) := by decide +kernel
theorem dX3_goBack_51 : decode cX3_goBack 51 = .ok (.aload_n 0, 1) := by decide +kernel
theorem dX3_goBack_52 : decode cX3_goBack 52 = .ok (.getfield 15, 3) := by decide +kernel
theorem dX3_goBack_55 : decode cX3_goBack 55 = .ok (.iload 4, 2) := by decide +kernel
theorem dX3_goBack_57 : decode cX3_goBack 57 = .ok (.iload_n 3, 1) := by decide +kernel
theorem dX3_goBack_58 : decode cX3_goBack 58 = .ok (.iastore, 1) := by decide +kernel
theorem dX3_goBack_59 : decode cX3_goBack 59 = .ok (.iload 4, 2) := by decide +kernel
theorem dX3_goBack_61 : decode cX3_goBack 61 = .ok (.istore 6, 2) := by decide +kernel
theorem dX3_goBack_63 : decode cX3_goBack 63 = .ok (.iload 6, 2) := by decide +kernel
theorem dX3_goBack_65 : decode cX3_goBack 65 = .ok (.iload 5, 2) := by decide +kernel
theorem dX3_goBack_67 : decode cX3_goBack 67 = .ok (.if_icmp .ge 16, 3) := by decide +kernel
theorem dX3_goBack_70 : decode cX3_goBack 70 = .ok (.aload_n 0, 1) := by decide +kernel
theorem dX3_goBack_71 : decode cX3_goBack 71 = .ok (.aload_n 1, 1) := by decide +kernel
theorem dX3_goBack_72 : decode cX3_goBack 72 = .ok (.iload 6, 2) := by decide +kernel
theorem dX3_goBack_74 : decode cX3_goBack 74 = .ok (.invokevirtual 61, 3) := by decide +kernel
theorem dX3_goBack_77 : decode cX3_goBack 77 = .ok (.iinc 6 1, 3) := by decide +kernel
theorem dX3_goBack_80 : decode cX3_goBack 80 = .ok (.goto (-17), 3) := by decide +kernel
theorem dX3_goBack_83 : decode cX3_goBack 83 = .ok (.return_, 1) := by decide +kernel
theorem dX3_handDown_0 : decode cX3_handDown 0 = .ok (.aload_n 0, 1) := by decide +kernel
theorem dX3_handDown_1 : decode cX3_handDown 1 = .ok (.getfield 15, 3) := by decide +kernel
theorem dX3_handDown_4 : decode cX3_handDown 4 = .ok (.iload_n 2, 1) := by decide +kernel
theorem dX3_handDown_5 : decode cX3_handDown 5 = .ok (.iaload, 1) := by decide +kernel
theorem dX3_handDown_6 : decode cX3_handDown 6 = .ok (.istore_n 3, 1) := by decide +kernel
theorem dX3_handDown_7 : decode cX3_handDown 7 = .ok (.aload_n 1, 1) := by decide +kernel
theorem dX3_handDown_8 : decode cX3_handDown 8 = .ok (.getfield 37, 3) := by decide +kernel
theorem dX3_handDown_11 : decode cX3_handDown 11 = .ok (.iload_n 2, 1) := by decide +kernel
theorem dX3_handDown_12 : decode cX3_handDown 12 = .ok (.iaload, 1) := by decide +kernel
theorem dX3_handDown_13 : decode cX3_handDown 13 = .ok (.istore 4, 2) := by decide +kernel
theorem dX3_handDown_15 : decode cX3_handDown 15 = .ok (.iload_n 2, 1) := by decide +kernel
theorem dX3_handDown_16 : decode cX3_handDown 16 = .ok (.iconst 1, 1) := by decide +kernel
theorem dX3_handDown_17 : decode cX3_handDown 17 = .ok (.iadd, 1) := by decide +kernel
theorem dX3_handDown_18 : decode cX3_handDown 18 = .ok (.istore 5, 2) := by decide +kernel
theorem dX3_handDown_20 : decode cX3_handDown 20 = .ok (.aload_n 1, 1) := by decide +kernel
theorem dX3_handDown_21 : decode cX3_handDown 21 = .ok (.getfield 43, 3) := by decide +kernel
theorem dX3_handDown_24 : decode cX3_handDown 24 = .ok (.iload_n 2, 1) := by decide +kernel
theorem dX3_handDown_25 : decode cX3_handDown 25 = .ok (.iaload, 1) := by decide +kernel
theorem dX3_handDown_26 : decode cX3_handDown 26 = .ok (.istore 6, 2) := by decide +kernel
theorem dX3_handDown_28 : decode cX3_handDown 28 = .ok (.iload 4, 2) := by decide +kernel
theorem dX3_handDown_30 : decode cX3_handDown 30 = .ok (.tableswitch 154 4 10 #[42, 45, 70, 95, 136, 136, 136], 42) := by decide +kernel
theorem dX3_handDown_72 : decode cX3_handDown 72 = .ok (.goto 123, 3) := by decide +kernel
theorem dX3_handDown_75 : decode cX3_handDown 75 = .ok (.aload_n 0, 1) := by decide +kernel
theorem dX3_handDown_76 : decode cX3_handDown 76 = .ok (.getfield 15, 3) := by decide +kernel
theorem dX3_handDown_79 : decode cX3_handDown 79 = .ok (.iload 5, 2) := by decide +kernel
theorem dX3_handDown_81 : decode cX3_handDown 81 = .ok (.dup2, 1) := by decide +kernel
theorem dX3_handDown_82 : decode cX3_handDown 82 = .ok (.iaload, 1) := by decide +kernel
theorem dX3_handDown_83 : decode cX3_handDown 83 = .ok (.iload_n 3, 1) := by decide +kernel
theorem dX3_handDown_84 : decode cX3_handDown 84 = .ok (.iadd, 1) := by decide +kernel
theorem dX3_handDown_85 : decode cX3_handDown 85 = .ok (.iastore, 1) := by decide +kernel
theorem dX3_handDown_86 : decode cX3_handDown 86 = .ok (.aload_n 0, 1) := by decide +kernel
theorem dX3_handDown_87 : decode cX3_handDown 87 = .ok (.getfield 15, 3) := by decide +kernel
theorem dX3_handDown_90 : decode cX3_handDown 90 = .ok (.iload 6, 2) := by decide +kernel
theorem dX3_handDown_92 : decode cX3_handDown 92 = .ok (.dup2, 1) := by decide +kernel
theorem dX3_handDown_93 : decode cX3_handDown 93 = .ok (.iaload, 1) := by decide +kernel
theorem dX3_handDown_94 : decode cX3_handDown 94 = .ok (.iload_n 3, 1) := by decide +kernel
theorem dX3_handDown_95 : decode cX3_handDown 95 = .ok (.iadd, 1) := by decide +kernel
theorem dX3_handDown_96 : decode cX3_handDown 96 = .ok (.iastore, 1) := by decide +kernel
theorem dX3_handDown_97 : decode cX3_handDown 97 = .ok (.goto 98, 3) := by decide +kernel
theorem dX3_handDown_100 : decode cX3_handDown 100 = .ok (.aload_n 0, 1) := by decide +kernel
theorem dX3_handDown_101 : decode cX3_handDown 101 = .ok (.getfield 15, 3) := by decide +kernel
theorem dX3_handDown_104 : decode cX3_handDown 104 = .ok (.iload 5, 2) := by decide +kernel
theorem dX3_handDown_106 : decode cX3_handDown 106 = .ok (.dup2, 1) := by decide +kernel
theorem dX3_handDown_107 : decode cX3_handDown 107 = .ok (.iaload, 1) := by decide +kernel
theorem dX3_handDown_108 : decode cX3_handDown 108 = .ok (.iload_n 3, 1) := by decide +kernel
theorem dX3_handDown_109 : decode cX3_handDown 109 = .ok (.iadd, 1) := by decide +kernel
theorem dX3_handDown_110 : decode cX3_handDown 110 = .ok (.iastore, 1) := by decide +kernel
theorem dX3_handDown_111 : decode cX3_handDown 111 = .ok (.aload_n 0, 1) := by decide +kernel
theorem dX3_handDown_112 : decode cX3_handDown 112 = .ok (.getfield 15, 3) := by decide +kernel
theorem dX3_handDown_115 : decode cX3_handDown 115 = .ok (.iload 6, 2) := by decide +kernel
theorem dX3_handDown_117 : decode cX3_handDown 117 = .ok (.dup2, 1) := by decide +kernel
theorem dX3_handDown_118 : decode cX3_handDown 118 = .ok (.iaload, 1) := by decide +kernel
theorem dX3_handDown_119 : decode cX3_handDown 119 = .ok (.iload_n 3, 1) := by decide +kernel
theorem dX3_handDown_120 : decode cX3_handDown 120 = .ok (.isub, 1) := by decide +kernel
theorem dX3_handDown_121 : decode cX3_handDown 121 = .ok (.iastore, 1) := by decide +kernel
theorem dX3_handDown_122 : decode cX3_handDown 122 = .ok (.goto 73, 3) := by decide +kernel
theorem dX3_handDown_125 : decode cX3_handDown 125 = .ok (.aload_n 0, 1) := by decide +kernel
theorem dX3_handDown_126 : decode cX3_handDown 126 = .ok (.getfield 15, 3) := by decide +kernel
theorem dX3_handDown_129 : decode cX3_handDown 129 = .ok (.iload 5, 2) := by decide +kernel
theorem dX3_handDown_131 : decode cX3_handDown 131 = .ok (.dup2, 1) := by decide +kernel
theorem dX3_handDown_132 : decode cX3_handDown 132 = .ok (.iaload, 1) := by decide +kernel
theorem dX3_handDown_133 : decode cX3_handDown 133 = .ok (.iload_n 3, 1) := by decide +kernel
theorem dX3_handDown_134 : decode cX3_handDown 134 = .ok (.aload_n 0, 1) := by decide +kernel
theorem dX3_handDown_135 : decode cX3_handDown 135 = .ok (.getfield 9, 3) := by decide +kernel
theorem dX3_handDown_138 : decode cX3_handDown 138 = .ok (.iload 6, 2) := by decide +kernel
theorem dX3_handDown_140 : decode cX3_handDown 140 = .ok (.iaload, 1) := by decide +kernel
theorem dX3_handDown_141 : decode cX3_handDown 141 = .ok (.imul, 1) := by decide +kernel
theorem dX3_handDown_142 : decode cX3_handDown 142 = .ok (.iadd, 1) := by decide +kernel
theorem dX3_handDown_143 : decode cX3_handDown 143 = .ok (.iastore, 1) := by decide +kernel
theorem dX3_handDown_144 : decode cX3_handDown 144 = .ok (.aload_n 0, 1) := by decide +kernel
theorem dX3_handDown_145 : decode cX3_handDown 145 = .ok (.getfield 15, 3) := by decide +kernel
theorem dX3_handDown_148 : decode cX3_handDown 148 = .ok (.iload 6, 2) := by decide +kernel
theorem dX3_handDown_150 : decode cX3_handDown 150 = .ok (.dup2, 1) := by decide +kernel
theorem dX3_handDown_151 : decode cX3_handDown 151 = .ok (.iaload, 1) := by decide +kernel
theorem dX3_handDown_152 : decode cX3_handDown 152 = .ok (.iload_n 3, 1) := by decide +kernel
theorem dX3_handDown_153 : decode cX3_handDown 153 = .ok (.aload_n 0, 1) := by decide +kernel
theorem dX3_handDown_154 : decode cX3_handDown 154 = .ok (.getfield 9, 3) := by decide +kernel
theorem dX3_handDown_157 : decode cX3_handDown 157 = .ok (.iload 5, 2) := by decide +kernel
theorem dX3_handDown_159 : decode cX3_handDown 159 = .ok (.iaload, 1) := by decide +kernel
theorem dX3_handDown_160 : decode cX3_handDown 160 = .ok (.imul, 1) := by decide +kernel
theorem dX3_handDown_161 : decode cX3_handDown 161 = .ok (.iadd, 1) := by decide +kernel
theorem dX3_handDown_162 : decode cX3_handDown 162 = .ok (.iastore, 1) := by decide +kernel
theorem dX3_handDown_163 : decode cX3_handDown 163 = .ok (.goto 32, 3) := by decide +kernel
theorem dX3_handDown_166 : decode cX3_handDown 166 = .ok (.aload_n 0, 1) := by decide +kernel
theorem dX3_handDown_167 : decode cX3_handDown 167 = .ok (.getfield 15, 3) := by decide +kernel
theorem dX3_handDown_170 : decode cX3_handDown 170 = .ok (.aload_n 0, 1) := by decide +kernel
theorem dX3_handDown_171 : decode cX3_handDown 171 = .ok (.aload_n 1, 1) := by decide +kernel
theorem dX3_handDown_172 : decode cX3_handDown 172 = .ok (.iload_n 2, 1) := by decide +kernel
theorem dX3_handDown_173 : decode cX3_handDown 173 = .ok (.invokevirtual 46, 3) := by decide +kernel
theorem dX3_handDown_176 : decode cX3_handDown 176 = .ok (.dup2, 1) := by decide +kernel
theorem dX3_handDown_177 : decode cX3_handDown 177 = .ok (.iaload, 1) := by decide +kernel
theorem dX3_handDown_178 : decode cX3_handDown 178 = .ok (.iload_n 3, 1) := by decide +kernel
theorem dX3_handDown_179 : decode cX3_handDown 179 = .ok (.iadd, 1) := by decide +kernel
theorem dX3_handDown_180 : decode cX3_handDown 180 = .ok (.iastore, 1) := by decide +kernel
theorem dX3_handDown_181 : decode cX3_handDown 181 = .ok (.goto 14, 3) := by decide +kernel
theorem dX3_handDown_184 : decode cX3_handDown 184 = .ok (.aload_n 0, 1) := by decide +kernel
theorem dX3_handDown_185 : decode cX3_handDown 185 = .ok (.getfield 25, 3) := by decide +kernel
theorem dX3_handDown_188 : decode cX3_handDown 188 = .ok (.iload 4, 2) := by decide +kernel
theorem dX3_handDown_190 : decode cX3_handDown 190 = .ok (.dup2, 1) := by decide +kernel
theorem dX3_handDown_191 : decode cX3_handDown 191 = .ok (.iaload, 1) := by decide +kernel
theorem dX3_handDown_192 : decode cX3_handDown 192 = .ok (.iload_n 3, 1) := by decide +kernel
theorem dX3_handDown_193 : decode cX3_handDown 193 = .ok (.iadd, 1) := by decide +kernel
theorem dX3_handDown_194 : decode cX3_handDown 194 = .ok (.iastore, 1) := by decide +kernel
theorem dX3_handDown_195 : decode cX3_handDown 195 = .ok (.return_, 1) := by decide +kernel
theorem dX3_knots_0 : decode cX3_knots 0 = .ok (.aload_n 1, 1) := by decide +kernel
theorem dX3_knots_1 : decode cX3_knots 1 = .ok (.getfield 28, 3) := by decide +kernel
theorem dX3_knots_4 : decode cX3_knots 4 = .ok (.iload_n 2, 1) := by decide +kernel
theorem dX3_knots_5 : decode cX3_knots 5 = .ok (.iaload, 1) := by decide +kernel
theorem dX3_knots_6 : decode cX3_knots 6 = .ok (.istore_n 3, 1) := by decide +kernel
theorem dX3_knots_7 : decode cX3_knots 7 = .ok (.aload_n 1, 1) := by decide +kernel
theorem dX3_knots_8 : decode cX3_knots 8 = .ok (.getfield 28, 3) := by decide +kernel
theorem dX3_knots_11 : decode cX3_knots 11 = .ok (.iload_n 2, 1) := by decide +kernel
theorem dX3_knots_12 : decode cX3_knots 12 = .ok (.iconst 1, 1) := by decide +kernel
theorem dX3_knots_13 : decode cX3_knots 13 = .ok (.iadd, 1) := by decide +kernel
theorem dX3_knots_14 : decode cX3_knots 14 = .ok (.iaload, 1) := by decide +kernel
theorem dX3_knots_15 : decode cX3_knots 15 = .ok (.istore 4, 2) := by decide +kernel
theorem dX3_knots_17 : decode cX3_knots 17 = .ok (.iload_n 3, 1) := by decide +kernel
theorem dX3_knots_18 : decode cX3_knots 18 = .ok (.istore 5, 2) := by decide +kernel
theorem dX3_knots_20 : decode cX3_knots 20 = .ok (.iload 5, 2) := by decide +kernel
theorem dX3_knots_22 : decode cX3_knots 22 = .ok (.iload 4, 2) := by decide +kernel
theorem dX3_knots_24 : decode cX3_knots 24 = .ok (.if_icmp .ge 27, 3) := by decide +kernel
theorem dX3_knots_27 : decode cX3_knots 27 = .ok (.aload_n 0, 1) := by decide +kernel
theorem dX3_knots_28 : decode cX3_knots 28 = .ok (.getfield 18, 3) := by decide +kernel
theorem dX3_knots_31 : decode cX3_knots 31 = .ok (.iload 5, 2) := by decide +kernel
theorem dX3_knots_33 : decode cX3_knots 33 = .ok (.iload 5, 2) := by decide +kernel
theorem dX3_knots_35 : decode cX3_knots 35 = .ok (.iload_n 3, 1) := by decide +kernel
theorem dX3_knots_36 : decode cX3_knots 36 = .ok (.if_icmp .ne 7, 3) := by decide +kernel
theorem dX3_knots_39 : decode cX3_knots 39 = .ok (.iconst 1, 1) := by decide +kernel
theorem dX3_knots_40 : decode cX3_knots 40 = .ok (.goto 4, 3) := by decide +kernel
theorem dX3_knots_43 : decode cX3_knots 43 = .ok (.iconst 0, 1) := by decide +kernel
theorem dX3_knots_44 : decode cX3_knots 44 = .ok (.bastore, 1) := by decide +kernel
theorem dX3_knots_45 : decode cX3_knots 45 = .ok (.iinc 5 1, 3) := by decide +kernel
theorem dX3_knots_48 : decode cX3_knots 48 = .ok (.goto (-28), 3) := by decide +kernel
theorem dX3_knots_51 : decode cX3_knots 51 = .ok (.iconst 0, 1) := by decide +kernel
theorem dX3_knots_52 : decode cX3_knots 52 = .ok (.istore 5, 2) := by decide +kernel
theorem dX3_knots_54 : decode cX3_knots 54 = .ok (.iload_n 3, 1) := by decide +kernel
theorem dX3_knots_55 : decode cX3_knots 55 = .ok (.istore 6, 2) := by decide +kernel
theorem dX3_knots_57 : decode cX3_knots 57 = .ok (.iload 6, 2) := by decide +kernel
theorem dX3_knots_59 : decode cX3_knots 59 = .ok (.iload 4, 2) := by decide +kernel
theorem dX3_knots_61 : decode cX3_knots 61 = .ok (.if_icmp .ge 111, 3) := by decide +kernel
theorem dX3_knots_64 : decode cX3_knots 64 = .ok (.aload_n 1, 1) := by decide +kernel
theorem dX3_knots_65 : decode cX3_knots 65 = .ok (.getfield 37, 3) := by decide +kernel
theorem dX3_knots_68 : decode cX3_knots 68 = .ok (.iload 6, 2) := by decide +kernel
theorem dX3_knots_70 : decode cX3_knots 70 = .ok (.iaload, 1) := by decide +kernel
theorem dX3_knots_71 : decode cX3_knots 71 = .ok (.istore 7, 2) := by decide +kernel
theorem dX3_knots_73 : decode cX3_knots 73 = .ok (.aload_n 0, 1) := by decide +kernel
theorem dX3_knots_74 : decode cX3_knots 74 = .ok (.getfield 18, 3) := by decide +kernel
theorem dX3_knots_77 : decode cX3_knots 77 = .ok (.iload 6, 2) := by decide +kernel
theorem dX3_knots_79 : decode cX3_knots 79 = .ok (.baload, 1) := by decide +kernel
theorem dX3_knots_80 : decode cX3_knots 80 = .ok (.ifCond .eq 86, 3) := by decide +kernel
theorem dX3_knots_83 : decode cX3_knots 83 = .ok (.iload 7, 2) := by decide +kernel
theorem dX3_knots_85 : decode cX3_knots 85 = .ok (.iconst 5, 1) := by decide +kernel
theorem dX3_knots_86 : decode cX3_knots 86 = .ok (.if_icmp .lt 80, 3) := by decide +kernel
theorem dX3_knots_89 : decode cX3_knots 89 = .ok (.aload_n 0, 1) := by decide +kernel
theorem dX3_knots_90 : decode cX3_knots 90 = .ok (.getfield 18, 3) := by decide +kernel
theorem dX3_knots_93 : decode cX3_knots 93 = .ok (.iload 6, 2) := by decide +kernel
theorem dX3_knots_95 : decode cX3_knots 95 = .ok (.iconst 1, 1) := by decide +kernel
theorem dX3_knots_96 : decode cX3_knots 96 = .ok (.iadd, 1) := by decide +kernel
theorem dX3_knots_97 : decode cX3_knots 97 = .ok (.iconst 1, 1) := by decide +kernel
theorem dX3_knots_98 : decode cX3_knots 98 = .ok (.bastore, 1) := by decide +kernel
theorem dX3_knots_99 : decode cX3_knots 99 = .ok (.aload_n 0, 1) := by decide +kernel
theorem dX3_knots_100 : decode cX3_knots 100 = .ok (.getfield 18, 3) := by decide +kernel
theorem dX3_knots_103 : decode cX3_knots 103 = .ok (.aload_n 1, 1) := by decide +kernel
theorem dX3_knots_104 : decode cX3_knots 104 = .ok (.getfield 43, 3) := by decide +kernel
theorem dX3_knots_107 : decode cX3_knots 107 = .ok (.iload 6, 2) := by decide +kernel
theorem dX3_knots_109 : decode cX3_knots 109 = .ok (.iaload, 1) := by decide +kernel
theorem dX3_knots_110 : decode cX3_knots 110 = .ok (.iconst 1, 1) := by decide +kernel
theorem dX3_knots_111 : decode cX3_knots 111 = .ok (.bastore, 1) := by decide +kernel
theorem dX3_knots_112 : decode cX3_knots 112 = .ok (.iload 7, 2) := by decide +kernel
theorem dX3_knots_114 : decode cX3_knots 114 = .ok (.bipush 8, 2) := by decide +kernel
theorem dX3_knots_116 : decode cX3_knots 116 = .ok (.if_icmp .lt 50, 3) := by decide +kernel
theorem dX3_knots_119 : decode cX3_knots 119 = .ok (.aload_n 0, 1) := by decide +kernel
theorem dX3_knots_120 : decode cX3_knots 120 = .ok (.getfield 18, 3) := by decide +kernel
theorem dX3_knots_123 : decode cX3_knots 123 = .ok (.aload_n 0, 1) := by decide +kernel
theorem dX3_knots_124 : decode cX3_knots 124 = .ok (.aload_n 1, 1) := by decide +kernel
theorem dX3_knots_125 : decode cX3_knots 125 = .ok (.iload 6, 2) := by decide +kernel
theorem dX3_knots_127 : decode cX3_knots 127 = .ok (.invokevirtual 46, 3) := by decide +kernel
theorem dX3_knots_130 : decode cX3_knots 130 = .ok (.iconst 1, 1) := by decide +kernel
theorem dX3_knots_131 : decode cX3_knots 131 = .ok (.bastore, 1) := by decide +kernel
theorem dX3_knots_132 : decode cX3_knots 132 = .ok (.iload 5, 2) := by decide +kernel
theorem dX3_knots_134 : decode cX3_knots 134 = .ok (.aload_n 0, 1) := by decide +kernel
theorem dX3_knots_135 : decode cX3_knots 135 = .ok (.getfield 9, 3) := by decide +kernel
theorem dX3_knots_138 : decode cX3_knots 138 = .ok (.iload 6, 2) := by decide +kernel
theorem dX3_knots_140 : decode cX3_knots 140 = .ok (.iconst 1, 1) := by decide +kernel
theorem dX3_knots_141 : decode cX3_knots 141 = .ok (.iadd, 1) := by decide +kernel
theorem dX3_knots_142 : decode cX3_knots 142 = .ok (.iaload, 1) := by decide +kernel
theorem dX3_knots_143 : decode cX3_knots 143 = .ok (.aload_n 0, 1) := by decide +kernel
theorem dX3_knots_144 : decode cX3_knots 144 = .ok (.getfield 9, 3) := by decide +kernel
theorem dX3_knots_147 : decode cX3_knots 147 = .ok (.aload_n 1, 1) := by decide +kernel
theorem dX3_knots_148 : decode cX3_knots 148 = .ok (.getfield 43, 3) := by decide +kernel
theorem dX3_knots_151 : decode cX3_knots 151 = .ok (.iload 6, 2) := by decide +kernel
theorem dX3_knots_153 : decode cX3_knots 153 = .ok (.iaload, 1) := by decide +kernel
theorem dX3_knots_154 : decode cX3_knots 154 = .ok (.iaload, 1) := by decide +kernel
theorem dX3_knots_155 : decode cX3_knots 155 = .ok (.if_icmp .ne 7, 3) := by decide +kernel
theorem dX3_knots_158 : decode cX3_knots 158 = .ok (.iconst 1, 1) := by decide +kernel
theorem dX3_knots_159 : decode cX3_knots 159 = .ok (.goto 4, 3) := by decide +kernel
theorem dX3_knots_162 : decode cX3_knots 162 = .ok (.iconst 0, 1) := by decide +kernel
theorem dX3_knots_163 : decode cX3_knots 163 = .ok (.iadd, 1) := by decide +kernel
theorem dX3_knots_164 : decode cX3_knots 164 = .ok (.istore 5, 2) := by decide +kernel
theorem dX3_knots_166 : decode cX3_knots 166 = .ok (.iinc 6 1, 3) := by decide +kernel
theorem dX3_knots_169 : decode cX3_knots 169 = .ok (.goto (-112), 3) := by decide +kernel
theorem dX3_knots_172 : decode cX3_knots 172 = .ok (.iload 5, 2) := by decide +kernel
theorem dX3_knots_174 : decode cX3_knots 174 = .ok (.ireturn, 1) := by decide +kernel
theorem dX4_init_0 : decode cX4_init 0 = .ok (.aload_n 0, 1) := by decide +kernel
theorem dX4_init_1 : decode cX4_init 1 = .ok (.invokespecial 3, 3) := by decide +kernel
theorem dX4_init_4 : decode cX4_init 4 = .ok (.aload_n 0, 1) := by decide +kernel
theorem dX4_init_5 : decode cX4_init 5 = .ok (.bipush 12, 2) := by decide +kernel
theorem dX4_init_7 : decode cX4_init 7 = .ok (.newarray .boolean, 2) := by decide +kernel
theorem dX4_init_9 : decode cX4_init 9 = .ok (.putfield 9, 3) := by decide +kernel
theorem dX4_init_12 : decode cX4_init 12 = .ok (.aload_n 0, 1) := by decide +kernel
theorem dX4_init_13 : decode cX4_init 13 = .ok (.bipush 12, 2) := by decide +kernel
theorem dX4_init_15 : decode cX4_init 15 = .ok (.newarray .int, 2) := by decide +kernel
theorem dX4_init_17 : decode cX4_init 17 = .ok (.putfield 15, 3) := by decide +kernel
theorem dX4_init_20 : decode cX4_init 20 = .ok (.aload_n 0, 1) := by decide +kernel
theorem dX4_init_21 : decode cX4_init 21 = .ok (.bipush 12, 2) := by decide +kernel
theorem dX4_init_23 : decode cX4_init 23 = .ok (.newarray .int, 2) := by decide +kernel
theorem dX4_init_25 : decode cX4_init 25 = .ok (.putfield 19, 3) := by decide +kernel
theorem dX4_init_28 : decode cX4_init 28 = .ok (.aload_n 0, 1) := by decide +kernel
theorem dX4_init_29 : decode cX4_init 29 = .ok (.bipush 12, 2) := by decide +kernel
theorem dX4_init_31 : decode cX4_init 31 = .ok (.newarray .int, 2) := by decide +kernel
theorem dX4_init_33 : decode cX4_init 33 = .ok (.putfield 22, 3) := by decide +kernel
theorem dX4_init_36 : decode cX4_init 36 = .ok (.aload_n 0, 1) := by decide +kernel
theorem dX4_init_37 : decode cX4_init 37 = .ok (.bipush 12, 2) := by decide +kernel
theorem dX4_init_39 : decode cX4_init 39 = .ok (.newarray .int, 2) := by decide +kernel
theorem dX4_init_41 : decode cX4_init 41 = .ok (.putfield 25, 3) := by decide +kernel
theorem dX4_init_44 : decode cX4_init 44 = .ok (.return_, 1) := by decide +kernel
theorem dX4_add_0 : decode cX4_add 0 = .ok (.aload_n 0, 1) := by decide +kernel
theorem dX4_add_1 : decode cX4_add 1 = .ok (.getfield 15, 3) := by decide +kernel
theorem dX4_add_4 : decode cX4_add 4 = .ok (.aload_n 0, 1) := by decide +kernel
theorem dX4_add_5 : decode cX4_add 5 = .ok (.getfield 28, 3) := by decide +kernel
theorem dX4_add_8 : decode cX4_add 8 = .ok (.iload_n 1, 1) := by decide +kernel
theorem dX4_add_9 : decode cX4_add 9 = .ok (.iastore, 1) := by decide +kernel
theorem dX4_add_10 : decode cX4_add 10 = .ok (.aload_n 0, 1) := by decide +kernel
theorem dX4_add_11 : decode cX4_add 11 = .ok (.getfield 19, 3) := by decide +kernel
theorem dX4_add_14 : decode cX4_add 14 = .ok (.aload_n 0, 1) := by decide +kernel
theorem dX4_add_15 : decode cX4_add 15 = .ok (.getfield 28, 3) := by decide +kernel
theorem dX4_add_18 : decode cX4_add 18 = .ok (.iload_n 2, 1) := by decide +kernel
theorem dX4_add_19 : decode cX4_add 19 = .ok (.iastore, 1) := by decide +kernel
theorem dX4_add_20 : decode cX4_add 20 = .ok (.aload_n 0, 1) := by decide +kernel
theorem dX4_add_21 : decode cX4_add 21 = .ok (.getfield 22, 3) := by decide +kernel
theorem dX4_add_24 : decode cX4_add 24 = .ok (.aload_n 0, 1) := by decide +kernel
theorem dX4_add_25 : decode cX4_add 25 = .ok (.getfield 28, 3) := by decide +kernel
theorem dX4_add_28 : decode cX4_add 28 = .ok (.iload_n 3, 1) := by decide +kernel
theorem dX4_add_29 : decode cX4_add 29 = .ok (.iastore, 1) := by decide +kernel
theorem dX4_add_30 : decode cX4_add 30 = .ok (.aload_n 0, 1) := by decide +kernel
theorem dX4_add_31 : decode cX4_add 31 = .ok (.getfield 25, 3) := by decide +kernel
theorem dX4_add_34 : decode cX4_add 34 = .ok (.aload_n 0, 1) := by decide +kernel
theorem dX4_add_35 : decode cX4_add 35 = .ok (.getfield 28, 3) := by decide +kernel
theorem dX4_add_38 : decode cX4_add 38 = .ok (.iload 4, 2) := by decide +kernel
theorem dX4_add_40 : decode cX4_add 40 = .ok (.iastore, 1) := by decide +kernel
theorem dX4_add_41 : decode cX4_add 41 = .ok (.aload_n 0, 1) := by decide +kernel
theorem dX4_add_42 : decode cX4_add 42 = .ok (.dup, 1) := by decide +kernel
theorem dX4_add_43 : decode cX4_add 43 = .ok (.getfield 28, 3) := by decide +kernel
theorem dX4_add_46 : decode cX4_add 46 = .ok (.iconst 1, 1) := by decide +kernel
theorem dX4_add_47 : decode cX4_add 47 = .ok (.iadd, 1) := by decide +kernel
theorem dX4_add_48 : decode cX4_add 48 = .ok (.putfield 28, 3) := by decide +kernel
theorem dX4_add_51 : decode cX4_add 51 = .ok (.return_, 1) := by decide +kernel
theorem dX4_howManyOut_0 : decode cX4_howManyOut 0 = .ok (.iconst 0, 1) := by decide +kernel
theorem dX4_howManyOut_1 : decode cX4_howManyOut 1 = .ok (.istore_n 1, 1) := by decide +kernel
theorem dX4_howManyOut_2 : decode cX4_howManyOut 2 = .ok (.iconst 0, 1) := by decide +kernel
theorem dX4_howManyOut_3 : decode cX4_howManyOut 3 = .ok (.istore_n 2, 1) := by decide +kernel
theorem dX4_howManyOut_4 : decode cX4_howManyOut 4 = .ok (.iload_n 2, 1) := by decide +kernel
theorem dX4_howManyOut_5 : decode cX4_howManyOut 5 = .ok (.aload_n 0, 1) := by decide +kernel
theorem dX4_howManyOut_6 : decode cX4_howManyOut 6 = .ok (.getfield 28, 3) := by decide +kernel
theorem dX4_howManyOut_9 : decode cX4_howManyOut 9 = .ok (.if_icmp .ge 21, 3) := by decide +kernel
theorem dX4_howManyOut_12 : decode cX4_howManyOut 12 = .ok (.aload_n 0, 1) := by decide +kernel
theorem dX4_howManyOut_13 : decode cX4_howManyOut 13 = .ok (.getfield 9, 3) := by decide +kernel
theorem dX4_howManyOut_16 : decode cX4_howManyOut 16 = .ok (.iload_n 2, 1) := by decide +kernel
theorem dX4_howManyOut_17 : decode cX4_howManyOut 17 = .ok (.baload, 1) := by decide +kernel
theorem dX4_howManyOut_18 : decode cX4_howManyOut 18 = .ok (.ifCond .eq 6, 3) := by decide +kernel
theorem dX4_howManyOut_21 : decode cX4_howManyOut 21 = .ok (.iinc 1 1, 3) := by decide +kernel
theorem dX4_howManyOut_24 : decode cX4_howManyOut 24 = .ok (.iinc 2 1, 3) := by decide +kernel
theorem dX4_howManyOut_27 : decode cX4_howManyOut 27 = .ok (.goto (-23), 3) := by decide +kernel
theorem dX4_howManyOut_30 : decode cX4_howManyOut 30 = .ok (.iload_n 1, 1) := by decide +kernel
theorem dX4_howManyOut_31 : decode cX4_howManyOut 31 = .ok (.ireturn, 1) := by decide +kernel
theorem dX4_last_0 : decode cX4_last 0 = .ok (.iconst 0, 1) := by decide +kernel
theorem dX4_last_1 : decode cX4_last 1 = .ok (.istore_n 2, 1) := by decide +kernel
theorem dX4_last_2 : decode cX4_last 2 = .ok (.iconst 0, 1) := by decide +kernel
theorem dX4_last_3 : decode cX4_last 3 = .ok (.istore_n 3, 1) := by decide +kernel
theorem dX4_last_4 : decode cX4_last 4 = .ok (.iload_n 3, 1) := by decide +kernel
theorem dX4_last_5 : decode cX4_last 5 = .ok (.aload_n 0, 1) := by decide +kernel
theorem dX4_last_6 : decode cX4_last 6 = .ok (.getfield 28, 3) := by decide +kernel
theorem dX4_last_9 : decode cX4_last 9 = .ok (.if_icmp .ge 29, 3) := by decide +kernel
theorem dX4_last_12 : decode cX4_last 12 = .ok (.aload_n 0, 1) := by decide +kernel
theorem dX4_last_13 : decode cX4_last 13 = .ok (.iload_n 3, 1) := by decide +kernel
theorem dX4_last_14 : decode cX4_last 14 = .ok (.iload_n 1, 1) := by decide +kernel
theorem dX4_last_15 : decode cX4_last 15 = .ok (.invokevirtual 32, 3) := by decide +kernel
theorem dX4_last_18 : decode cX4_last 18 = .ok (.ifCond .eq 14, 3) := by decide +kernel
theorem dX4_last_21 : decode cX4_last 21 = .ok (.iload_n 2, 1) := by decide +kernel
theorem dX4_last_22 : decode cX4_last 22 = .ok (.aload_n 0, 1) := by decide +kernel
theorem dX4_last_23 : decode cX4_last 23 = .ok (.getfield 19, 3) := by decide +kernel
theorem dX4_last_26 : decode cX4_last 26 = .ok (.iload_n 3, 1) := by decide +kernel
theorem dX4_last_27 : decode cX4_last 27 = .ok (.iaload, 1) := by decide +kernel
theorem dX4_last_28 : decode cX4_last 28 = .ok (.invokestatic 36, 3) := by decide +kernel
theorem dX4_last_31 : decode cX4_last 31 = .ok (.istore_n 2, 1) := by decide +kernel
theorem dX4_last_32 : decode cX4_last 32 = .ok (.iinc 3 1, 3) := by decide +kernel
theorem dX4_last_35 : decode cX4_last 35 = .ok (.goto (-31), 3) := by decide +kernel
theorem dX4_last_38 : decode cX4_last 38 = .ok (.iload_n 2, 1) := by decide +kernel
theorem dX4_last_39 : decode cX4_last 39 = .ok (.ireturn, 1) := by decide +kernel
theorem dX4_total_0 : decode cX4_total 0 = .ok (.iconst 0, 1) := by decide +kernel
theorem dX4_total_1 : decode cX4_total 1 = .ok (.istore_n 3, 1) := by decide +kernel
theorem dX4_total_2 : decode cX4_total 2 = .ok (.iconst 0, 1) := by decide +kernel
theorem dX4_total_3 : decode cX4_total 3 = .ok (.istore 4, 2) := by decide +kernel
theorem dX4_total_5 : decode cX4_total 5 = .ok (.iload 4, 2) := by decide +kernel
theorem dX4_total_7 : decode cX4_total 7 = .ok (.aload_n 0, 1) := by decide +kernel
theorem dX4_total_8 : decode cX4_total 8 = .ok (.getfield 28, 3) := by decide +kernel
theorem dX4_total_11 : decode cX4_total 11 = .ok (.if_icmp .ge 44, 3) := by decide +kernel
theorem dX4_total_14 : decode cX4_total 14 = .ok (.aload_n 0, 1) := by decide +kernel
theorem dX4_total_15 : decode cX4_total 15 = .ok (.iload 4, 2) := by decide +kernel
theorem dX4_total_17 : decode cX4_total 17 = .ok (.iload_n 2, 1) := by decide +kernel
theorem dX4_total_18 : decode cX4_total 18 = .ok (.invokevirtual 32, 3) := by decide +kernel
theorem dX4_total_21 : decode cX4_total 21 = .ok (.ifCond .eq 28, 3) := by decide +kernel
theorem dX4_total_24 : decode cX4_total 24 = .ok (.aload_n 0, 1) := by decide +kernel
theorem dX4_total_25 : decode cX4_total 25 = .ok (.iload 4, 2) := by decide +kernel
theorem dX4_total_27 : decode cX4_total 27 = .ok (.aload_n 1, 1) := by decide +kernel
theorem dX4_total_28 : decode cX4_total 28 = .ok (.invokevirtual 42, 3) := by decide +kernel
theorem dX4_total_31 : decode cX4_total 31 = .ok (.istore 5, 2) := by decide +kernel
theorem dX4_total_33 : decode cX4_total 33 = .ok (.iload_n 3, 1) := by decide +kernel
theorem dX4_total_34 : decode cX4_total 34 = .ok (.aload_n 0, 1) := by decide +kernel
theorem dX4_total_35 : decode cX4_total 35 = .ok (.getfield 22, 3) := by decide +kernel
theorem dX4_total_38 : decode cX4_total 38 = .ok (.iload 4, 2) := by decide +kernel
theorem dX4_total_40 : decode cX4_total 40 = .ok (.iaload, 1) := by decide +kernel
theorem dX4_total_41 : decode cX4_total 41 = .ok (.iload 5, 2) := by decide +kernel
theorem dX4_total_43 : decode cX4_total 43 = .ok (.imul, 1) := by decide +kernel
theorem dX4_total_44 : decode cX4_total 44 = .ok (.iload 5, 2) := by decide +kernel
theorem dX4_total_46 : decode cX4_total 46 = .ok (.imul, 1) := by decide +kernel
theorem dX4_total_47 : decode cX4_total 47 = .ok (.iadd, 1) := by decide +kernel
theorem dX4_total_48 : decode cX4_total 48 = .ok (.istore_n 3, 1) := by decide +kernel
theorem dX4_total_49 : decode cX4_total 49 = .ok (.iinc 4 1, 3) := by decide +kernel
theorem dX4_total_52 : decode cX4_total 52 = .ok (.goto (-47), 3) := by decide +kernel
theorem dX4_total_55 : decode cX4_total 55 = .ok (.iload_n 3, 1) := by decide +kernel
theorem dX4_total_56 : decode cX4_total 56 = .ok (.ireturn, 1) := by decide +kernel
theorem dX4_addSlopes_0 : decode cX4_addSlopes 0 = .ok (.iconst 0, 1) := by decide +kernel
theorem dX4_addSlopes_1 : decode cX4_addSlopes 1 = .ok (.istore 5, 2) := by decide +kernel
theorem dX4_addSlopes_3 : decode cX4_addSlopes 3 = .ok (.iload 5, 2) := by decide +kernel
theorem dX4_addSlopes_5 : decode cX4_addSlopes 5 = .ok (.aload_n 0, 1) := by decide +kernel
theorem dX4_addSlopes_6 : decode cX4_addSlopes 6 = .ok (.getfield 28, 3) := by decide +kernel
theorem dX4_addSlopes_9 : decode cX4_addSlopes 9 = .ok (.if_icmp .ge 60, 3) := by decide +kernel
theorem dX4_addSlopes_12 : decode cX4_addSlopes 12 = .ok (.aload_n 0, 1) := by decide +kernel
theorem dX4_addSlopes_13 : decode cX4_addSlopes 13 = .ok (.getfield 19, 3) := by decide +kernel
theorem dX4_addSlopes_16 : decode cX4_addSlopes 16 = .ok (.iload 5, 2) := by decide +kernel
theorem dX4_addSlopes_18 : decode cX4_addSlopes 18 = .ok (.iaload, 1) := by decide +kernel
theorem dX4_addSlopes_19 : decode cX4_addSlopes 19 = .ok (.iload_n 1, 1) := by decide +kernel
theorem dX4_addSlopes_20 : decode cX4_addSlopes 20 = .ok (.if_icmp .ne 43, 3) := by decide +kernel
theorem dX4_addSlopes_23 : decode cX4_addSlopes 23 = .ok (.aload_n 0, 1) := by decide +kernel
theorem dX4_addSlopes_24 : decode cX4_addSlopes 24 = .ok (.iload 5, 2) := by decide +kernel
theorem dX4_addSlopes_26 : decode cX4_addSlopes 26 = .ok (.iload_n 3, 1) := by decide +kernel
theorem dX4_addSlopes_27 : decode cX4_addSlopes 27 = .ok (.invokevirtual 32, 3) := by decide +kernel
theorem dX4_addSlopes_30 : decode cX4_addSlopes 30 = .ok (.ifCond .eq 33, 3) := by decide +kernel
theorem dX4_addSlopes_33 : decode cX4_addSlopes 33 = .ok (.aload 4, 2) := by decide +kernel
theorem dX4_addSlopes_35 : decode cX4_addSlopes 35 = .ok (.aload_n 0, 1) := by decide +kernel
theorem dX4_addSlopes_36 : decode cX4_addSlopes 36 = .ok (.getfield 15, 3) := by decide +kernel
theorem dX4_addSlopes_39 : decode cX4_addSlopes 39 = .ok (.iload 5, 2) := by decide +kernel
theorem dX4_addSlopes_41 : decode cX4_addSlopes 41 = .ok (.iaload, 1) := by decide +kernel
theorem dX4_addSlopes_42 : decode cX4_addSlopes 42 = .ok (.dup2, 1) := by decide +kernel
theorem dX4_addSlopes_43 : decode cX4_addSlopes 43 = .ok (.iaload, 1) := by decide +kernel
theorem dX4_addSlopes_44 : decode cX4_addSlopes 44 = .ok (.iconst 2, 1) := by decide +kernel
theorem dX4_addSlopes_45 : decode cX4_addSlopes 45 = .ok (.aload_n 0, 1) := by decide +kernel
theorem dX4_addSlopes_46 : decode cX4_addSlopes 46 = .ok (.getfield 22, 3) := by decide +kernel
theorem dX4_addSlopes_49 : decode cX4_addSlopes 49 = .ok (.iload 5, 2) := by decide +kernel
theorem dX4_addSlopes_51 : decode cX4_addSlopes 51 = .ok (.iaload, 1) := by decide +kernel
theorem dX4_addSlopes_52 : decode cX4_addSlopes 52 = .ok (.imul, 1) := by decide +kernel
theorem dX4_addSlopes_53 : decode cX4_addSlopes 53 = .ok (.aload_n 0, 1) := by decide +kernel
theorem dX4_addSlopes_54 : decode cX4_addSlopes 54 = .ok (.iload 5, 2) := by decide +kernel
theorem dX4_addSlopes_56 : decode cX4_addSlopes 56 = .ok (.aload_n 2, 1) := by decide +kernel
theorem dX4_addSlopes_57 : decode cX4_addSlopes 57 = .ok (.invokevirtual 42, 3) := by decide +kernel
theorem dX4_addSlopes_60 : decode cX4_addSlopes 60 = .ok (.imul, 1) := by decide +kernel
theorem dX4_addSlopes_61 : decode cX4_addSlopes 61 = .ok (.iadd, 1) := by decide +kernel
theorem dX4_addSlopes_62 : decode cX4_addSlopes 62 = .ok (.iastore, 1) := by decide +kernel
theorem dX4_addSlopes_63 : decode cX4_addSlopes 63 = .ok (.iinc 5 1, 3) := by decide +kernel
theorem dX4_addSlopes_66 : decode cX4_addSlopes 66 = .ok (.goto (-63), 3) := by decide +kernel
theorem dX4_addSlopes_69 : decode cX4_addSlopes 69 = .ok (.return_, 1) := by decide +kernel
theorem dX4_counts_0 : decode cX4_counts 0 = .ok (.aload_n 0, 1) := by decide +kernel
theorem dX4_counts_1 : decode cX4_counts 1 = .ok (.getfield 9, 3) := by decide +kernel
theorem dX4_counts_4 : decode cX4_counts 4 = .ok (.iload_n 1, 1) := by decide +kernel
theorem dX4_counts_5 : decode cX4_counts 5 = .ok (.baload, 1) := by decide +kernel
theorem dX4_counts_6 : decode cX4_counts 6 = .ok (.ifCond .ne 17, 3) := by decide +kernel
theorem dX4_counts_9 : decode cX4_counts 9 = .ok (.aload_n 0, 1) := by decide +kernel
theorem dX4_counts_10 : decode cX4_counts 10 = .ok (.getfield 15, 3) := by decide +kernel
theorem dX4_counts_13 : decode cX4_counts 13 = .ok (.iload_n 1, 1) := by decide +kernel
theorem dX4_counts_14 : decode cX4_counts 14 = .ok (.iaload, 1) := by decide +kernel
theorem dX4_counts_15 : decode cX4_counts 15 = .ok (.iload_n 2, 1) := by decide +kernel
theorem dX4_counts_16 : decode cX4_counts 16 = .ok (.if_icmp .ge 7, 3) := by decide +kernel
theorem dX4_counts_19 : decode cX4_counts 19 = .ok (.iconst 1, 1) := by decide +kernel
theorem dX4_counts_20 : decode cX4_counts 20 = .ok (.goto 4, 3) := by decide +kernel
theorem dX4_counts_23 : decode cX4_counts 23 = .ok (.iconst 0, 1) := by decide +kernel
theorem dX4_counts_24 : decode cX4_counts 24 = .ok (.ireturn, 1) := by decide +kernel
theorem dX4_offBy_0 : decode cX4_offBy 0 = .ok (.aload_n 2, 1) := by decide +kernel
theorem dX4_offBy_1 : decode cX4_offBy 1 = .ok (.aload_n 0, 1) := by decide +kernel
theorem dX4_offBy_2 : decode cX4_offBy 2 = .ok (.getfield 19, 3) := by decide +kernel
theorem dX4_offBy_5 : decode cX4_offBy 5 = .ok (.iload_n 1, 1) := by decide +kernel
theorem dX4_offBy_6 : decode cX4_offBy 6 = .ok (.iaload, 1) := by decide +kernel
theorem dX4_offBy_7 : decode cX4_offBy 7 = .ok (.aload_n 0, 1) := by decide +kernel
theorem dX4_offBy_8 : decode cX4_offBy 8 = .ok (.getfield 15, 3) := by decide +kernel
theorem dX4_offBy_11 : decode cX4_offBy 11 = .ok (.iload_n 1, 1) := by decide +kernel
theorem dX4_offBy_12 : decode cX4_offBy 12 = .ok (.iaload, 1) := by decide +kernel
theorem dX4_offBy_13 : decode cX4_offBy 13 = .ok (.invokevirtual 46, 3) := by decide +kernel
theorem dX4_offBy_16 : decode cX4_offBy 16 = .ok (.aload_n 0, 1) := by decide +kernel
theorem dX4_offBy_17 : decode cX4_offBy 17 = .ok (.getfield 25, 3) := by decide +kernel
theorem dX4_offBy_20 : decode cX4_offBy 20 = .ok (.iload_n 1, 1) := by decide +kernel
theorem dX4_offBy_21 : decode cX4_offBy 21 = .ok (.iaload, 1) := by decide +kernel
theorem dX4_offBy_22 : decode cX4_offBy 22 = .ok (.isub, 1) := by decide +kernel
theorem dX4_offBy_23 : decode cX4_offBy 23 = .ok (.ireturn, 1) := by decide +kernel
theorem dX5_init_0 : decode cX5_init 0 = .ok (.aload_n 0, 1) := by decide +kernel
theorem dX5_init_1 : decode cX5_init 1 = .ok (.invokespecial 3, 3) := by decide +kernel
theorem dX5_init_4 : decode cX5_init 4 = .ok (.aload_n 0, 1) := by decide +kernel
theorem dX5_init_5 : decode cX5_init 5 = .ok (.sipush 287, 3) := by decide +kernel
theorem dX5_init_8 : decode cX5_init 8 = .ok (.newarray .int, 2) := by decide +kernel
theorem dX5_init_10 : decode cX5_init 10 = .ok (.putfield 9, 3) := by decide +kernel
theorem dX5_init_13 : decode cX5_init 13 = .ok (.aload_n 0, 1) := by decide +kernel
theorem dX5_init_14 : decode cX5_init 14 = .ok (.sipush 287, 3) := by decide +kernel
theorem dX5_init_17 : decode cX5_init 17 = .ok (.newarray .int, 2) := by decide +kernel
theorem dX5_init_19 : decode cX5_init 19 = .ok (.putfield 15, 3) := by decide +kernel
theorem dX5_init_22 : decode cX5_init 22 = .ok (.return_, 1) := by decide +kernel
theorem dX5_at_0 : decode cX5_at 0 = .ok (.iload_n 1, 1) := by decide +kernel
theorem dX5_at_1 : decode cX5_at 1 = .ok (.bipush 41, 2) := by decide +kernel
theorem dX5_at_3 : decode cX5_at 3 = .ok (.imul, 1) := by decide +kernel
theorem dX5_at_4 : decode cX5_at 4 = .ok (.iload_n 0, 1) := by decide +kernel
theorem dX5_at_5 : decode cX5_at 5 = .ok (.iadd, 1) := by decide +kernel
theorem dX5_at_6 : decode cX5_at 6 = .ok (.ireturn, 1) := by decide +kernel
theorem dX5_fill_0 : decode cX5_fill 0 = .ok (.aload_n 0, 1) := by decide +kernel
theorem dX5_fill_1 : decode cX5_fill 1 = .ok (.getfield 18, 3) := by decide +kernel
theorem dX5_fill_4 : decode cX5_fill 4 = .ok (.ifCond .eq 4, 3) := by decide +kernel
theorem dX5_fill_7 : decode cX5_fill 7 = .ok (.return_, 1) := by decide +kernel
theorem dX5_fill_8 : decode cX5_fill 8 = .ok (.aload_n 0, 1) := by decide +kernel
theorem dX5_fill_9 : decode cX5_fill 9 = .ok (.iconst 1, 1) := by decide +kernel
theorem dX5_fill_10 : decode cX5_fill 10 = .ok (.putfield 18, 3) := by decide +kernel
theorem dX5_fill_13 : decode cX5_fill 13 = .ok (.aload_n 0, 1) := by decide +kernel
theorem dX5_fill_14 : decode cX5_fill 14 = .ok (.getfield 15, 3) := by decide +kernel
theorem dX5_fill_17 : decode cX5_fill 17 = .ok (.ldc 22, 2) := by decide +kernel
theorem dX5_fill_19 : decode cX5_fill 19 = .ok (.invokestatic 23, 3) := by decide +kernel
theorem dX5_fill_22 : decode cX5_fill 22 = .ok (.iconst 1, 1) := by decide +kernel
theorem dX5_fill_23 : decode cX5_fill 23 = .ok (.istore_n 1, 1) := by decide +kernel
theorem dX5_fill_24 : decode cX5_fill 24 = .ok (.iload_n 1, 1) := by decide +kernel
theorem dX5_fill_25 : decode cX5_fill 25 = .ok (.bipush 40, 2) := by decide +kernel
theorem dX5_fill_27 : decode cX5_fill 27 = .ok (.if_icmp .gt 26, 3) := by decide +kernel
theorem dX5_fill_30 : decode cX5_fill 30 = .ok (.aload_n 0, 1) := by decide +kernel
theorem dX5_fill_31 : decode cX5_fill 31 = .ok (.getfield 9, 3) := by decide +kernel
theorem dX5_fill_34 : decode cX5_fill 34 = .ok (.iload_n 1, 1) := by decide +kernel
theorem dX5_fill_35 : decode cX5_fill 35 = .ok (.iconst 0, 1) := by decide +kernel
theorem dX5_fill_36 : decode cX5_fill 36 = .ok (.invokestatic 29, 3) := by decide +kernel
theorem dX5_fill_39 : decode cX5_fill 39 = .ok (.iload_n 1, 1) := by decide +kernel
theorem dX5_fill_40 : decode cX5_fill 40 = .ok (.iload_n 1, 1) := by decide +kernel
theorem dX5_fill_41 : decode cX5_fill 41 = .ok (.iconst 1, 1) := by decide +kernel
theorem dX5_fill_42 : decode cX5_fill 42 = .ok (.isub, 1) := by decide +kernel
theorem dX5_fill_43 : decode cX5_fill 43 = .ok (.imul, 1) := by decide +kernel
theorem dX5_fill_44 : decode cX5_fill 44 = .ok (.iconst 2, 1) := by decide +kernel
theorem dX5_fill_45 : decode cX5_fill 45 = .ok (.idiv, 1) := by decide +kernel
theorem dX5_fill_46 : decode cX5_fill 46 = .ok (.iastore, 1) := by decide +kernel
theorem dX5_fill_47 : decode cX5_fill 47 = .ok (.iinc 1 1, 3) := by decide +kernel
theorem dX5_fill_50 : decode cX5_fill 50 = .ok (.goto (-26), 3) := by decide +kernel
theorem dX5_fill_53 : decode cX5_fill 53 = .ok (.iconst 1, 1) := by decide +kernel
theorem dX5_fill_54 : decode cX5_fill 54 = .ok (.istore_n 1, 1) := by decide +kernel
theorem dX5_fill_55 : decode cX5_fill 55 = .ok (.iload_n 1, 1) := by decide +kernel
theorem dX5_fill_56 : decode cX5_fill 56 = .ok (.bipush 6, 2) := by decide +kernel
theorem dX5_fill_58 : decode cX5_fill 58 = .ok (.if_icmp .gt 29, 3) := by decide +kernel
theorem dX5_fill_61 : decode cX5_fill 61 = .ok (.iconst 2, 1) := by decide +kernel
theorem dX5_fill_62 : decode cX5_fill 62 = .ok (.istore_n 2, 1) := by decide +kernel
theorem dX5_fill_63 : decode cX5_fill 63 = .ok (.iload_n 2, 1) := by decide +kernel
theorem dX5_fill_64 : decode cX5_fill 64 = .ok (.bipush 40, 2) := by decide +kernel
theorem dX5_fill_66 : decode cX5_fill 66 = .ok (.if_icmp .gt 15, 3) := by decide +kernel
theorem dX5_fill_69 : decode cX5_fill 69 = .ok (.aload_n 0, 1) := by decide +kernel
theorem dX5_fill_70 : decode cX5_fill 70 = .ok (.iload_n 2, 1) := by decide +kernel
theorem dX5_fill_71 : decode cX5_fill 71 = .ok (.iload_n 1, 1) := by decide +kernel
theorem dX5_fill_72 : decode cX5_fill 72 = .ok (.invokevirtual 33, 3) := by decide +kernel
theorem dX5_fill_75 : decode cX5_fill 75 = .ok (.iinc 2 1, 3) := by decide +kernel
theorem dX5_fill_78 : decode cX5_fill 78 = .ok (.goto (-15), 3) := by decide +kernel
theorem dX5_fill_81 : decode cX5_fill 81 = .ok (.iinc 1 1, 3) := by decide +kernel
theorem dX5_fill_84 : decode cX5_fill 84 = .ok (.goto (-29), 3) := by decide +kernel
theorem dX5_fill_87 : decode cX5_fill 87 = .ok (.return_, 1) := by decide +kernel
theorem dX5_fillOne_0 : decode cX5_fillOne 0 = .ok (.iload_n 1, 1) := by decide +kernel
theorem dX5_fillOne_1 : decode cX5_fillOne 1 = .ok (.iload_n 2, 1) := by decide +kernel
theorem dX5_fillOne_2 : decode cX5_fillOne 2 = .ok (.invokestatic 29, 3) := by decide +kernel
theorem dX5_fillOne_5 : decode cX5_fillOne 5 = .ok (.istore_n 3, 1) := by decide +kernel
theorem dX5_fillOne_6 : decode cX5_fillOne 6 = .ok (.iconst 1, 1) := by decide +kernel
theorem dX5_fillOne_7 : decode cX5_fillOne 7 = .ok (.istore 4, 2) := by decide +kernel
theorem dX5_fillOne_9 : decode cX5_fillOne 9 = .ok (.iload 4, 2) := by decide +kernel
theorem dX5_fillOne_11 : decode cX5_fillOne 11 = .ok (.iload_n 1, 1) := by decide +kernel
theorem dX5_fillOne_12 : decode cX5_fillOne 12 = .ok (.if_icmp .ge 74, 3) := by decide +kernel
theorem dX5_fillOne_15 : decode cX5_fillOne 15 = .ok (.iload 4, 2) := by decide +kernel
theorem dX5_fillOne_17 : decode cX5_fillOne 17 = .ok (.aload_n 0, 1) := by decide +kernel
theorem dX5_fillOne_18 : decode cX5_fillOne 18 = .ok (.getfield 9, 3) := by decide +kernel
theorem dX5_fillOne_21 : decode cX5_fillOne 21 = .ok (.iload_n 1, 1) := by decide +kernel
theorem dX5_fillOne_22 : decode cX5_fillOne 22 = .ok (.iload 4, 2) := by decide +kernel
theorem dX5_fillOne_24 : decode cX5_fillOne 24 = .ok (.isub, 1) := by decide +kernel
theorem dX5_fillOne_25 : decode cX5_fillOne 25 = .ok (.iload_n 2, 1) := by decide +kernel
theorem dX5_fillOne_26 : decode cX5_fillOne 26 = .ok (.iconst 1, 1) := by decide +kernel
theorem dX5_fillOne_27 : decode cX5_fillOne 27 = .ok (.isub, 1) := by decide +kernel
theorem dX5_fillOne_28 : decode cX5_fillOne 28 = .ok (.invokestatic 29, 3) := by decide +kernel
theorem dX5_fillOne_31 : decode cX5_fillOne 31 = .ok (.iaload, 1) := by decide +kernel
theorem dX5_fillOne_32 : decode cX5_fillOne 32 = .ok (.iadd, 1) := by decide +kernel
theorem dX5_fillOne_33 : decode cX5_fillOne 33 = .ok (.aload_n 0, 1) := by decide +kernel
theorem dX5_fillOne_34 : decode cX5_fillOne 34 = .ok (.getfield 9, 3) := by decide +kernel
theorem dX5_fillOne_37 : decode cX5_fillOne 37 = .ok (.iload 4, 2) := by decide +kernel
theorem dX5_fillOne_39 : decode cX5_fillOne 39 = .ok (.iload_n 2, 1) := by decide +kernel
theorem dX5_fillOne_40 : decode cX5_fillOne 40 = .ok (.invokestatic 29, 3) := by decide +kernel
theorem dX5_fillOne_43 : decode cX5_fillOne 43 = .ok (.iaload, 1) := by decide +kernel
theorem dX5_fillOne_44 : decode cX5_fillOne 44 = .ok (.iadd, 1) := by decide +kernel
theorem dX5_fillOne_45 : decode cX5_fillOne 45 = .ok (.istore 5, 2) := by decide +kernel
theorem dX5_fillOne_47 : decode cX5_fillOne 47 = .ok (.iload 4, 2) := by decide +kernel
theorem dX5_fillOne_49 : decode cX5_fillOne 49 = .ok (.iconst 1, 1) := by decide +kernel
theorem dX5_fillOne_50 : decode cX5_fillOne 50 = .ok (.if_icmp .eq 14, 3) := by decide +kernel
theorem dX5_fillOne_53 : decode cX5_fillOne 53 = .ok (.iload 5, 2) := by decide +kernel
theorem dX5_fillOne_55 : decode cX5_fillOne 55 = .ok (.aload_n 0, 1) := by decide +kernel
theorem dX5_fillOne_56 : decode cX5_fillOne 56 = .ok (.getfield 9, 3) := by decide +kernel
theorem dX5_fillOne_59 : decode cX5_fillOne 59 = .ok (.iload_n 3, 1) := by decide +kernel
theorem dX5_fillOne_60 : decode cX5_fillOne 60 = .ok (.iaload, 1) := by decide +kernel
theorem dX5_fillOne_61 : decode cX5_fillOne 61 = .ok (.if_icmp .ge 19, 3) := by decide +kernel
theorem dX5_fillOne_64 : decode cX5_fillOne 64 = .ok (.aload_n 0, 1) := by decide +kernel
theorem dX5_fillOne_65 : decode cX5_fillOne 65 = .ok (.getfield 9, 3) := by decide +kernel
theorem dX5_fillOne_68 : decode cX5_fillOne 68 = .ok (.iload_n 3, 1) := by decide +kernel
theorem dX5_fillOne_69 : decode cX5_fillOne 69 = .ok (.iload 5, 2) := by decide +kernel
theorem dX5_fillOne_71 : decode cX5_fillOne 71 = .ok (.iastore, 1) := by decide +kernel
theorem dX5_fillOne_72 : decode cX5_fillOne 72 = .ok (.aload_n 0, 1) := by decide +kernel
theorem dX5_fillOne_73 : decode cX5_fillOne 73 = .ok (.getfield 15, 3) := by decide +kernel
theorem dX5_fillOne_76 : decode cX5_fillOne 76 = .ok (.iload_n 3, 1) := by decide +kernel
theorem dX5_fillOne_77 : decode cX5_fillOne 77 = .ok (.iload 4, 2) := by decide +kernel
theorem dX5_fillOne_79 : decode cX5_fillOne 79 = .ok (.iastore, 1) := by decide +kernel
theorem dX5_fillOne_80 : decode cX5_fillOne 80 = .ok (.iinc 4 1, 3) := by decide +kernel
theorem dX5_fillOne_83 : decode cX5_fillOne 83 = .ok (.goto (-74), 3) := by decide +kernel
theorem dX5_fillOne_86 : decode cX5_fillOne 86 = .ok (.return_, 1) := by decide +kernel
theorem dX6_init_0 : decode cX6_init 0 = .ok (.aload_n 0, 1) := by decide +kernel
theorem dX6_init_1 : decode cX6_init 1 = .ok (.invokespecial 3, 3) := by decide +kernel
theorem dX6_init_4 : decode cX6_init 4 = .ok (.aload_n 0, 1) := by decide +kernel
theorem dX6_init_5 : decode cX6_init 5 = .ok (.bipush 20, 2) := by decide +kernel
theorem dX6_init_7 : decode cX6_init 7 = .ok (.newarray .int, 2) := by decide +kernel
theorem dX6_init_9 : decode cX6_init 9 = .ok (.putfield 9, 3) := by decide +kernel
theorem dX6_init_12 : decode cX6_init 12 = .ok (.return_, 1) := by decide +kernel
theorem dX6_begin_0 : decode cX6_begin 0 = .ok (.aload_n 0, 1) := by decide +kernel
theorem dX6_begin_1 : decode cX6_begin 1 = .ok (.iconst 1, 1) := by decide +kernel
theorem dX6_begin_2 : decode cX6_begin 2 = .ok (.putfield 15, 3) := by decide +kernel
theorem dX6_begin_5 : decode cX6_begin 5 = .ok (.aload_n 0, 1) := by decide +kernel
theorem dX6_begin_6 : decode cX6_begin 6 = .ok (.iload_n 1, 1) := by decide +kernel
theorem dX6_begin_7 : decode cX6_begin 7 = .ok (.putfield 19, 3) := by decide +kernel
theorem dX6_begin_10 : decode cX6_begin 10 = .ok (.aload_n 0, 1) := by decide +kernel
theorem dX6_begin_11 : decode cX6_begin 11 = .ok (.iload_n 2, 1) := by decide +kernel
theorem dX6_begin_12 : decode cX6_begin 12 = .ok (.putfield 23, 3) := by decide +kernel
theorem dX6_begin_15 : decode cX6_begin 15 = .ok (.aload_n 0, 1) := by decide +kernel
theorem dX6_begin_16 : decode cX6_begin 16 = .ok (.getfield 9, 3) := by decide +kernel
theorem dX6_begin_19 : decode cX6_begin 19 = .ok (.iconst 0, 1) := by decide +kernel
theorem dX6_begin_20 : decode cX6_begin 20 = .ok (.invokestatic 26, 3) := by decide +kernel
theorem dX6_begin_23 : decode cX6_begin 23 = .ok (.return_, 1) := by decide +kernel
theorem dX6_has_0 : decode cX6_has 0 = .ok (.iload_n 1, 1) := by decide +kernel
theorem dX6_has_1 : decode cX6_has 1 = .ok (.ifCond .lt 21, 3) := by decide +kernel
theorem dX6_has_4 : decode cX6_has 4 = .ok (.iload_n 2, 1) := by decide +kernel
theorem dX6_has_5 : decode cX6_has 5 = .ok (.ifCond .lt 17, 3) := by decide +kernel
theorem dX6_has_8 : decode cX6_has 8 = .ok (.iload_n 2, 1) := by decide +kernel
theorem dX6_has_9 : decode cX6_has 9 = .ok (.aload_n 0, 1) := by decide +kernel
theorem dX6_has_10 : decode cX6_has 10 = .ok (.getfield 23, 3) := by decide +kernel
theorem dX6_has_13 : decode cX6_has 13 = .ok (.iload_n 1, 1) := by decide +kernel
theorem dX6_has_14 : decode cX6_has 14 = .ok (.isub, 1) := by decide +kernel
theorem dX6_has_15 : decode cX6_has 15 = .ok (.if_icmp .gt 7, 3) := by decide +kernel
theorem dX6_has_18 : decode cX6_has 18 = .ok (.iconst 1, 1) := by decide +kernel
theorem dX6_has_19 : decode cX6_has 19 = .ok (.goto 4, 3) := by decide +kernel
theorem dX6_has_22 : decode cX6_has 22 = .ok (.iconst 0, 1) := by decide +kernel
theorem dX6_has_23 : decode cX6_has 23 = .ok (.ireturn, 1) := by decide +kernel
theorem dX6_put_0 : decode cX6_put 0 = .ok (.aload_n 0, 1) := by decide +kernel
theorem dX6_put_1 : decode cX6_put 1 = .ok (.getfield 9, 3) := by decide +kernel
theorem dX6_put_4 : decode cX6_put 4 = .ok (.iload_n 1, 1) := by decide +kernel
theorem dX6_put_5 : decode cX6_put 5 = .ok (.aload_n 0, 1) := by decide +kernel
theorem dX6_put_6 : decode cX6_put 6 = .ok (.getfield 19, 3) := by decide +kernel
theorem dX6_put_9 : decode cX6_put 9 = .ok (.ifCond .ne 8, 3) := by decide +kernel
theorem dX6_put_12 : decode cX6_put 12 = .ok (.iload_n 2, 1) := by decide +kernel
theorem dX6_put_13 : decode cX6_put 13 = .ok (.i2b, 1) := by decide +kernel
theorem dX6_put_14 : decode cX6_put 14 = .ok (.goto 17, 3) := by decide +kernel
theorem dX6_put_17 : decode cX6_put 17 = .ok (.aload_n 0, 1) := by decide +kernel
theorem dX6_put_18 : decode cX6_put 18 = .ok (.getfield 19, 3) := by decide +kernel
theorem dX6_put_21 : decode cX6_put 21 = .ok (.iconst 1, 1) := by decide +kernel
theorem dX6_put_22 : decode cX6_put 22 = .ok (.if_icmp .ne 8, 3) := by decide +kernel
theorem dX6_put_25 : decode cX6_put 25 = .ok (.iload_n 2, 1) := by decide +kernel
theorem dX6_put_26 : decode cX6_put 26 = .ok (.i2s, 1) := by decide +kernel
theorem dX6_put_27 : decode cX6_put 27 = .ok (.goto 4, 3) := by decide +kernel
theorem dX6_put_30 : decode cX6_put 30 = .ok (.iload_n 2, 1) := by decide +kernel
theorem dX6_put_31 : decode cX6_put 31 = .ok (.iastore, 1) := by decide +kernel
theorem dX6_put_32 : decode cX6_put 32 = .ok (.aload_n 0, 1) := by decide +kernel
theorem dX6_put_33 : decode cX6_put 33 = .ok (.getfield 9, 3) := by decide +kernel
theorem dX6_put_36 : decode cX6_put 36 = .ok (.iload_n 1, 1) := by decide +kernel
theorem dX6_put_37 : decode cX6_put 37 = .ok (.iaload, 1) := by decide +kernel
theorem dX6_put_38 : decode cX6_put 38 = .ok (.ireturn, 1) := by decide +kernel
theorem dX7_init_0 : decode cX7_init 0 = .ok (.aload_n 0, 1) := by decide +kernel
theorem dX7_init_1 : decode cX7_init 1 = .ok (.invokespecial 3, 3) := by decide +kernel
theorem dX7_init_4 : decode cX7_init 4 = .ok (.aload_n 0, 1) := by decide +kernel
theorem dX7_init_5 : decode cX7_init 5 = .ok (.bipush 10, 2) := by decide +kernel
theorem dX7_init_7 : decode cX7_init 7 = .ok (.newarray .int, 2) := by decide +kernel
theorem dX7_init_9 : decode cX7_init 9 = .ok (.putfield 9, 3) := by decide +kernel
theorem dX7_init_12 : decode cX7_init 12 = .ok (.aload_n 0, 1) := by decide +kernel
theorem dX7_init_13 : decode cX7_init 13 = .ok (.bipush 10, 2) := by decide +kernel
theorem dX7_init_15 : decode cX7_init 15 = .ok (.newarray .int, 2) := by decide +kernel
theorem dX7_init_17 : decode cX7_init 17 = .ok (.putfield 15, 3) := by decide +kernel
theorem dX7_init_20 : decode cX7_init 20 = .ok (.aload_n 0, 1) := by decide +kernel
theorem dX7_init_21 : decode cX7_init 21 = .ok (.iconst 2, 1) := by decide +kernel
theorem dX7_init_22 : decode cX7_init 22 = .ok (.newarray .int, 2) := by decide +kernel
theorem dX7_init_24 : decode cX7_init 24 = .ok (.putfield 18, 3) := by decide +kernel
theorem dX7_init_27 : decode cX7_init 27 = .ok (.aload_n 0, 1) := by decide +kernel
theorem dX7_init_28 : decode cX7_init 28 = .ok (.bipush 10, 2) := by decide +kernel
theorem dX7_init_30 : decode cX7_init 30 = .ok (.newarray .int, 2) := by decide +kernel
theorem dX7_init_32 : decode cX7_init 32 = .ok (.putfield 21, 3) := by decide +kernel
theorem dX7_init_35 : decode cX7_init 35 = .ok (.return_, 1) := by decide +kernel
theorem dX7_goBack_0 : decode cX7_goBack 0 = .ok (.aload_n 0, 1) := by decide +kernel
theorem dX7_goBack_1 : decode cX7_goBack 1 = .ok (.getfield 9, 3) := by decide +kernel
theorem dX7_goBack_4 : decode cX7_goBack 4 = .ok (.iconst 0, 1) := by decide +kernel
theorem dX7_goBack_5 : decode cX7_goBack 5 = .ok (.invokestatic 24, 3) := by decide +kernel
theorem dX7_goBack_8 : decode cX7_goBack 8 = .ok (.aload_n 0, 1) := by decide +kernel
theorem dX7_goBack_9 : decode cX7_goBack 9 = .ok (.getfield 15, 3) := by decide +kernel
theorem dX7_goBack_12 : decode cX7_goBack 12 = .ok (.iconst 0, 1) := by decide +kernel
theorem dX7_goBack_13 : decode cX7_goBack 13 = .ok (.invokestatic 24, 3) := by decide +kernel
theorem dX7_goBack_16 : decode cX7_goBack 16 = .ok (.aload_n 0, 1) := by decide +kernel
theorem dX7_goBack_17 : decode cX7_goBack 17 = .ok (.getfield 18, 3) := by decide +kernel
theorem dX7_goBack_20 : decode cX7_goBack 20 = .ok (.iconst 0, 1) := by decide +kernel
theorem dX7_goBack_21 : decode cX7_goBack 21 = .ok (.invokestatic 24, 3) := by decide +kernel
theorem dX7_goBack_24 : decode cX7_goBack 24 = .ok (.aload_n 3, 1) := by decide +kernel
theorem dX7_goBack_25 : decode cX7_goBack 25 = .ok (.aload_n 2, 1) := by decide +kernel
theorem dX7_goBack_26 : decode cX7_goBack 26 = .ok (.getfield 30, 3) := by decide +kernel
theorem dX7_goBack_29 : decode cX7_goBack 29 = .ok (.invokevirtual 36, 3) := by decide +kernel
theorem dX7_goBack_32 : decode cX7_goBack 32 = .ok (.istore 5, 2) := by decide +kernel
theorem dX7_goBack_34 : decode cX7_goBack 34 = .ok (.iload 5, 2) := by decide +kernel
theorem dX7_goBack_36 : decode cX7_goBack 36 = .ok (.aload_n 1, 1) := by decide +kernel
theorem dX7_goBack_37 : decode cX7_goBack 37 = .ok (.getfield 42, 3) := by decide +kernel
theorem dX7_goBack_40 : decode cX7_goBack 40 = .ok (.imul, 1) := by decide +kernel
theorem dX7_goBack_41 : decode cX7_goBack 41 = .ok (.istore 6, 2) := by decide +kernel
theorem dX7_goBack_43 : decode cX7_goBack 43 = .ok (.iload 5, 2) := by decide +kernel
theorem dX7_goBack_45 : decode cX7_goBack 45 = .ok (.istore 7, 2) := by decide +kernel
theorem dX7_goBack_47 : decode cX7_goBack 47 = .ok (.iload 7, 2) := by decide +kernel
theorem dX7_goBack_49 : decode cX7_goBack 49 = .ok (.ifCond .le 59, 3) := by decide +kernel
theorem dX7_goBack_52 : decode cX7_goBack 52 = .ok (.aload_n 3, 1) := by decide +kernel
theorem dX7_goBack_53 : decode cX7_goBack 53 = .ok (.iload 7, 2) := by decide +kernel
theorem dX7_goBack_55 : decode cX7_goBack 55 = .ok (.aload 4, 2) := by decide +kernel
theorem dX7_goBack_57 : decode cX7_goBack 57 = .ok (.aload_n 2, 1) := by decide +kernel
theorem dX7_goBack_58 : decode cX7_goBack 58 = .ok (.getfield 30, 3) := by decide +kernel
theorem dX7_goBack_61 : decode cX7_goBack 61 = .ok (.aload_n 0, 1) := by decide +kernel
theorem dX7_goBack_62 : decode cX7_goBack 62 = .ok (.getfield 15, 3) := by decide +kernel
theorem dX7_goBack_65 : decode cX7_goBack 65 = .ok (.invokevirtual 47, 3) := by decide +kernel
theorem dX7_goBack_68 : decode cX7_goBack 68 = .ok (.aload_n 1, 1) := by decide +kernel
theorem dX7_goBack_69 : decode cX7_goBack 69 = .ok (.getfield 42, 3) := by decide +kernel
theorem dX7_goBack_72 : decode cX7_goBack 72 = .ok (.iconst 1, 1) := by decide +kernel
theorem dX7_goBack_73 : decode cX7_goBack 73 = .ok (.isub, 1) := by decide +kernel
theorem dX7_goBack_74 : decode cX7_goBack 74 = .ok (.istore 8, 2) := by decide +kernel
theorem dX7_goBack_76 : decode cX7_goBack 76 = .ok (.iload 8, 2) := by decide +kernel
theorem dX7_goBack_78 : decode cX7_goBack 78 = .ok (.ifCond .lt 24, 3) := by decide +kernel
theorem dX7_goBack_81 : decode cX7_goBack 81 = .ok (.iinc 6 (-1), 3) := by decide +kernel
theorem dX7_goBack_84 : decode cX7_goBack 84 = .ok (.aload_n 0, 1) := by decide +kernel
theorem dX7_goBack_85 : decode cX7_goBack 85 = .ok (.aload_n 1, 1) := by decide +kernel
theorem dX7_goBack_86 : decode cX7_goBack 86 = .ok (.aload_n 2, 1) := by decide +kernel
theorem dX7_goBack_87 : decode cX7_goBack 87 = .ok (.aload 4, 2) := by decide +kernel
theorem dX7_goBack_89 : decode cX7_goBack 89 = .ok (.iload 6, 2) := by decide +kernel
theorem dX7_goBack_91 : decode cX7_goBack 91 = .ok (.iload 8, 2) := by decide +kernel
theorem dX7_goBack_93 : decode cX7_goBack 93 = .ok (.invokevirtual 51, 3) := by decide +kernel
theorem dX7_goBack_96 : decode cX7_goBack 96 = .ok (.iinc 8 (-1), 3) := by decide +kernel
theorem dX7_goBack_99 : decode cX7_goBack 99 = .ok (.goto (-23), 3) := by decide +kernel
theorem dX7_goBack_102 : decode cX7_goBack 102 = .ok (.iinc 7 (-1), 3) := by decide +kernel
theorem dX7_goBack_105 : decode cX7_goBack 105 = .ok (.goto (-58), 3) := by decide +kernel
theorem dX7_goBack_108 : decode cX7_goBack 108 = .ok (.aload_n 3, 1) := by decide +kernel
theorem dX7_goBack_109 : decode cX7_goBack 109 = .ok (.iconst 0, 1) := by decide +kernel
theorem dX7_goBack_110 : decode cX7_goBack 110 = .ok (.aload 4, 2) := by decide +kernel
theorem dX7_goBack_112 : decode cX7_goBack 112 = .ok (.aload_n 2, 1) := by decide +kernel
theorem dX7_goBack_113 : decode cX7_goBack 113 = .ok (.getfield 30, 3) := by decide +kernel
theorem dX7_goBack_116 : decode cX7_goBack 116 = .ok (.aload_n 0, 1) := by decide +kernel
theorem dX7_goBack_117 : decode cX7_goBack 117 = .ok (.getfield 15, 3) := by decide +kernel
theorem dX7_goBack_120 : decode cX7_goBack 120 = .ok (.invokevirtual 47, 3) := by decide +kernel
theorem dX7_goBack_123 : decode cX7_goBack 123 = .ok (.return_, 1) := by decide +kernel
theorem dX7_goBackOver_0 : decode cX7_goBackOver 0 = .ok (.aload_n 0, 1) := by decide +kernel
theorem dX7_goBackOver_1 : decode cX7_goBackOver 1 = .ok (.getfield 21, 3) := by decide +kernel
theorem dX7_goBackOver_4 : decode cX7_goBackOver 4 = .ok (.iconst 0, 1) := by decide +kernel
theorem dX7_goBackOver_5 : decode cX7_goBackOver 5 = .ok (.invokestatic 24, 3) := by decide +kernel
theorem dX7_goBackOver_8 : decode cX7_goBackOver 8 = .ok (.iconst 0, 1) := by decide +kernel
theorem dX7_goBackOver_9 : decode cX7_goBackOver 9 = .ok (.istore 6, 2) := by decide +kernel
theorem dX7_goBackOver_11 : decode cX7_goBackOver 11 = .ok (.iload 6, 2) := by decide +kernel
theorem dX7_goBackOver_13 : decode cX7_goBackOver 13 = .ok (.aload_n 2, 1) := by decide +kernel
theorem dX7_goBackOver_14 : decode cX7_goBackOver 14 = .ok (.getfield 30, 3) := by decide +kernel
theorem dX7_goBackOver_17 : decode cX7_goBackOver 17 = .ok (.if_icmp .ge 71, 3) := by decide +kernel
theorem dX7_goBackOver_20 : decode cX7_goBackOver 20 = .ok (.aload_n 0, 1) := by decide +kernel
theorem dX7_goBackOver_21 : decode cX7_goBackOver 21 = .ok (.getfield 15, 3) := by decide +kernel
theorem dX7_goBackOver_24 : decode cX7_goBackOver 24 = .ok (.iload 6, 2) := by decide +kernel
theorem dX7_goBackOver_26 : decode cX7_goBackOver 26 = .ok (.iaload, 1) := by decide +kernel
theorem dX7_goBackOver_27 : decode cX7_goBackOver 27 = .ok (.ifCond .eq 55, 3) := by decide +kernel
theorem dX7_goBackOver_30 : decode cX7_goBackOver 30 = .ok (.aload_n 3, 1) := by decide +kernel
theorem dX7_goBackOver_31 : decode cX7_goBackOver 31 = .ok (.aload_n 1, 1) := by decide +kernel
theorem dX7_goBackOver_32 : decode cX7_goBackOver 32 = .ok (.aload_n 2, 1) := by decide +kernel
theorem dX7_goBackOver_33 : decode cX7_goBackOver 33 = .ok (.getfield 55, 3) := by decide +kernel
theorem dX7_goBackOver_36 : decode cX7_goBackOver 36 = .ok (.iload 4, 2) := by decide +kernel
theorem dX7_goBackOver_38 : decode cX7_goBackOver 38 = .ok (.iload 5, 2) := by decide +kernel
theorem dX7_goBackOver_40 : decode cX7_goBackOver 40 = .ok (.iload 6, 2) := by decide +kernel
theorem dX7_goBackOver_42 : decode cX7_goBackOver 42 = .ok (.invokevirtual 58, 3) := by decide +kernel
theorem dX7_goBackOver_45 : decode cX7_goBackOver 45 = .ok (.pop, 1) := by decide +kernel
theorem dX7_goBackOver_46 : decode cX7_goBackOver 46 = .ok (.aload_n 3, 1) := by decide +kernel
theorem dX7_goBackOver_47 : decode cX7_goBackOver 47 = .ok (.getfield 64, 3) := by decide +kernel
theorem dX7_goBackOver_50 : decode cX7_goBackOver 50 = .ok (.aload_n 1, 1) := by decide +kernel
theorem dX7_goBackOver_51 : decode cX7_goBackOver 51 = .ok (.iload 5, 2) := by decide +kernel
theorem dX7_goBackOver_53 : decode cX7_goBackOver 53 = .ok (.aload_n 0, 1) := by decide +kernel
theorem dX7_goBackOver_54 : decode cX7_goBackOver 54 = .ok (.getfield 15, 3) := by decide +kernel
theorem dX7_goBackOver_57 : decode cX7_goBackOver 57 = .ok (.iload 6, 2) := by decide +kernel
theorem dX7_goBackOver_59 : decode cX7_goBackOver 59 = .ok (.iaload, 1) := by decide +kernel
theorem dX7_goBackOver_60 : decode cX7_goBackOver 60 = .ok (.invokevirtual 68, 3) := by decide +kernel
theorem dX7_goBackOver_63 : decode cX7_goBackOver 63 = .ok (.aload_n 0, 1) := by decide +kernel
theorem dX7_goBackOver_64 : decode cX7_goBackOver 64 = .ok (.aload_n 3, 1) := by decide +kernel
theorem dX7_goBackOver_65 : decode cX7_goBackOver 65 = .ok (.getfield 64, 3) := by decide +kernel
theorem dX7_goBackOver_68 : decode cX7_goBackOver 68 = .ok (.getfield 74, 3) := by decide +kernel
theorem dX7_goBackOver_71 : decode cX7_goBackOver 71 = .ok (.iload 6, 2) := by decide +kernel
theorem dX7_goBackOver_73 : decode cX7_goBackOver 73 = .ok (.aload_n 2, 1) := by decide +kernel
theorem dX7_goBackOver_74 : decode cX7_goBackOver 74 = .ok (.getfield 30, 3) := by decide +kernel
theorem dX7_goBackOver_77 : decode cX7_goBackOver 77 = .ok (.iconst 1, 1) := by decide +kernel
theorem dX7_goBackOver_78 : decode cX7_goBackOver 78 = .ok (.isub, 1) := by decide +kernel
theorem dX7_goBackOver_79 : decode cX7_goBackOver 79 = .ok (.invokevirtual 77, 3) := by decide +kernel
theorem dX7_goBackOver_82 : decode cX7_goBackOver 82 = .ok (.iinc 6 1, 3) := by decide +kernel
theorem dX7_goBackOver_85 : decode cX7_goBackOver 85 = .ok (.goto (-74), 3) := by decide +kernel
theorem dX7_goBackOver_88 : decode cX7_goBackOver 88 = .ok (.aload_n 0, 1) := by decide +kernel
theorem dX7_goBackOver_89 : decode cX7_goBackOver 89 = .ok (.getfield 21, 3) := by decide +kernel
theorem dX7_goBackOver_92 : decode cX7_goBackOver 92 = .ok (.iconst 0, 1) := by decide +kernel
theorem dX7_goBackOver_93 : decode cX7_goBackOver 93 = .ok (.aload_n 0, 1) := by decide +kernel
theorem dX7_goBackOver_94 : decode cX7_goBackOver 94 = .ok (.getfield 15, 3) := by decide +kernel
theorem dX7_goBackOver_97 : decode cX7_goBackOver 97 = .ok (.iconst 0, 1) := by decide +kernel
theorem dX7_goBackOver_98 : decode cX7_goBackOver 98 = .ok (.bipush 10, 2) := by decide +kernel
theorem dX7_goBackOver_100 : decode cX7_goBackOver 100 = .ok (.invokestatic 81, 3) := by decide +kernel
theorem dX7_goBackOver_103 : decode cX7_goBackOver 103 = .ok (.return_, 1) := by decide +kernel
theorem dX7_handOut_0 : decode cX7_handOut 0 = .ok (.aload_n 0, 1) := by decide +kernel
theorem dX7_handOut_1 : decode cX7_handOut 1 = .ok (.getfield 21, 3) := by decide +kernel
theorem dX7_handOut_4 : decode cX7_handOut 4 = .ok (.iload_n 2, 1) := by decide +kernel
theorem dX7_handOut_5 : decode cX7_handOut 5 = .ok (.dup2, 1) := by decide +kernel
theorem dX7_handOut_6 : decode cX7_handOut 6 = .ok (.iaload, 1) := by decide +kernel
theorem dX7_handOut_7 : decode cX7_handOut 7 = .ok (.aload_n 1, 1) := by decide +kernel
theorem dX7_handOut_8 : decode cX7_handOut 8 = .ok (.iconst 1, 1) := by decide +kernel
theorem dX7_handOut_9 : decode cX7_handOut 9 = .ok (.iaload, 1) := by decide +kernel
theorem dX7_handOut_10 : decode cX7_handOut 10 = .ok (.iadd, 1) := by decide +kernel
theorem dX7_handOut_11 : decode cX7_handOut 11 = .ok (.iastore, 1) := by decide +kernel
theorem dX7_handOut_12 : decode cX7_handOut 12 = .ok (.aload_n 0, 1) := by decide +kernel
theorem dX7_handOut_13 : decode cX7_handOut 13 = .ok (.getfield 9, 3) := by decide +kernel
theorem dX7_handOut_16 : decode cX7_handOut 16 = .ok (.iload_n 2, 1) := by decide +kernel
theorem dX7_handOut_17 : decode cX7_handOut 17 = .ok (.dup2, 1) := by decide +kernel
theorem dX7_handOut_18 : decode cX7_handOut 18 = .ok (.iaload, 1) := by decide +kernel
theorem dX7_handOut_19 : decode cX7_handOut 19 = .ok (.aload_n 1, 1) := by decide +kernel
theorem dX7_handOut_20 : decode cX7_handOut 20 = .ok (.iconst 3, 1) := by decide +kernel
theorem dX7_handOut_21 : decode cX7_handOut 21 = .ok (.iaload, 1) := by decide +kernel
theorem dX7_handOut_22 : decode cX7_handOut 22 = .ok (.iadd, 1) := by decide +kernel
theorem dX7_handOut_23 : decode cX7_handOut 23 = .ok (.iastore, 1) := by decide +kernel
theorem dX7_handOut_24 : decode cX7_handOut 24 = .ok (.iload_n 2, 1) := by decide +kernel
theorem dX7_handOut_25 : decode cX7_handOut 25 = .ok (.ifCond .le 20, 3) := by decide +kernel
theorem dX7_handOut_28 : decode cX7_handOut 28 = .ok (.aload_n 0, 1) := by decide +kernel
theorem dX7_handOut_29 : decode cX7_handOut 29 = .ok (.getfield 21, 3) := by decide +kernel
theorem dX7_handOut_32 : decode cX7_handOut 32 = .ok (.iload_n 2, 1) := by decide +kernel
theorem dX7_handOut_33 : decode cX7_handOut 33 = .ok (.iconst 1, 1) := by decide +kernel
theorem dX7_handOut_34 : decode cX7_handOut 34 = .ok (.isub, 1) := by decide +kernel
theorem dX7_handOut_35 : decode cX7_handOut 35 = .ok (.dup2, 1) := by decide +kernel
theorem dX7_handOut_36 : decode cX7_handOut 36 = .ok (.iaload, 1) := by decide +kernel
theorem dX7_handOut_37 : decode cX7_handOut 37 = .ok (.aload_n 1, 1) := by decide +kernel
theorem dX7_handOut_38 : decode cX7_handOut 38 = .ok (.iconst 0, 1) := by decide +kernel
theorem dX7_handOut_39 : decode cX7_handOut 39 = .ok (.iaload, 1) := by decide +kernel
theorem dX7_handOut_40 : decode cX7_handOut 40 = .ok (.iadd, 1) := by decide +kernel
theorem dX7_handOut_41 : decode cX7_handOut 41 = .ok (.iastore, 1) := by decide +kernel
theorem dX7_handOut_42 : decode cX7_handOut 42 = .ok (.goto 15, 3) := by decide +kernel
theorem dX7_handOut_45 : decode cX7_handOut 45 = .ok (.aload_n 0, 1) := by decide +kernel
theorem dX7_handOut_46 : decode cX7_handOut 46 = .ok (.getfield 18, 3) := by decide +kernel
theorem dX7_handOut_49 : decode cX7_handOut 49 = .ok (.iconst 0, 1) := by decide +kernel
theorem dX7_handOut_50 : decode cX7_handOut 50 = .ok (.dup2, 1) := by decide +kernel
theorem dX7_handOut_51 : decode cX7_handOut 51 = .ok (.iaload, 1) := by decide +kernel
theorem dX7_handOut_52 : decode cX7_handOut 52 = .ok (.aload_n 1, 1) := by decide +kernel
theorem dX7_handOut_53 : decode cX7_handOut 53 = .ok (.iconst 0, 1) := by decide +kernel
theorem dX7_handOut_54 : decode cX7_handOut 54 = .ok (.iaload, 1) := by decide +kernel
theorem dX7_handOut_55 : decode cX7_handOut 55 = .ok (.iadd, 1) := by decide +kernel
theorem dX7_handOut_56 : decode cX7_handOut 56 = .ok (.iastore, 1) := by decide +kernel
theorem dX7_handOut_57 : decode cX7_handOut 57 = .ok (.iload_n 2, 1) := by decide +kernel
theorem dX7_handOut_58 : decode cX7_handOut 58 = .ok (.iload_n 3, 1) := by decide +kernel
theorem dX7_handOut_59 : decode cX7_handOut 59 = .ok (.if_icmp .ge 20, 3) := by decide +kernel
theorem dX7_handOut_62 : decode cX7_handOut 62 = .ok (.aload_n 0, 1) := by decide +kernel
theorem dX7_handOut_63 : decode cX7_handOut 63 = .ok (.getfield 21, 3) := by decide +kernel
theorem dX7_handOut_66 : decode cX7_handOut 66 = .ok (.iload_n 2, 1) := by decide +kernel
theorem dX7_handOut_67 : decode cX7_handOut 67 = .ok (.iconst 1, 1) := by decide +kernel
theorem dX7_handOut_68 : decode cX7_handOut 68 = .ok (.iadd, 1) := by decide +kernel
theorem dX7_handOut_69 : decode cX7_handOut 69 = .ok (.dup2, 1) := by decide +kernel
theorem dX7_handOut_70 : decode cX7_handOut 70 = .ok (.iaload, 1) := by decide +kernel
theorem dX7_handOut_71 : decode cX7_handOut 71 = .ok (.aload_n 1, 1) := by decide +kernel
theorem dX7_handOut_72 : decode cX7_handOut 72 = .ok (.iconst 2, 1) := by decide +kernel
theorem dX7_handOut_73 : decode cX7_handOut 73 = .ok (.iaload, 1) := by decide +kernel
theorem dX7_handOut_74 : decode cX7_handOut 74 = .ok (.iadd, 1) := by decide +kernel
theorem dX7_handOut_75 : decode cX7_handOut 75 = .ok (.iastore, 1) := by decide +kernel
theorem dX7_handOut_76 : decode cX7_handOut 76 = .ok (.goto 15, 3) := by decide +kernel
theorem dX7_handOut_79 : decode cX7_handOut 79 = .ok (.aload_n 0, 1) := by decide +kernel
theorem dX7_handOut_80 : decode cX7_handOut 80 = .ok (.getfield 18, 3) := by decide +kernel
theorem dX7_handOut_83 : decode cX7_handOut 83 = .ok (.iconst 1, 1) := by decide +kernel
theorem dX7_handOut_84 : decode cX7_handOut 84 = .ok (.dup2, 1) := by decide +kernel
theorem dX7_handOut_85 : decode cX7_handOut 85 = .ok (.iaload, 1) := by decide +kernel
theorem dX7_handOut_86 : decode cX7_handOut 86 = .ok (.aload_n 1, 1) := by decide +kernel
theorem dX7_handOut_87 : decode cX7_handOut 87 = .ok (.iconst 2, 1) := by decide +kernel
theorem dX7_handOut_88 : decode cX7_handOut 88 = .ok (.iaload, 1) := by decide +kernel
theorem dX7_handOut_89 : decode cX7_handOut 89 = .ok (.iadd, 1) := by decide +kernel
theorem dX7_handOut_90 : decode cX7_handOut 90 = .ok (.iastore, 1) := by decide +kernel
theorem dX7_handOut_91 : decode cX7_handOut 91 = .ok (.return_, 1) := by decide +kernel
theorem dX7_steepestStrips_0 : decode cX7_steepestStrips 0 = .ok (.lconst 0, 1) := by decide +kernel
theorem dX7_steepestStrips_1 : decode cX7_steepestStrips 1 = .ok (.lstore_n 2, 1) := by decide +kernel
theorem dX7_steepestStrips_2 : decode cX7_steepestStrips 2 = .ok (.ldc 87, 2) := by decide +kernel
theorem dX7_steepestStrips_4 : decode cX7_steepestStrips 4 = .ok (.istore 4, 2) := by decide +kernel
theorem dX7_steepestStrips_6 : decode cX7_steepestStrips 6 = .ok (.iconst 0, 1) := by decide +kernel
theorem dX7_steepestStrips_7 : decode cX7_steepestStrips 7 = .ok (.istore 5, 2) := by decide +kernel
theorem dX7_steepestStrips_9 : decode cX7_steepestStrips 9 = .ok (.iload 5, 2) := by decide +kernel
theorem dX7_steepestStrips_11 : decode cX7_steepestStrips 11 = .ok (.iload_n 1, 1) := by decide +kernel
theorem dX7_steepestStrips_12 : decode cX7_steepestStrips 12 = .ok (.if_icmp .ge 36, 3) := by decide +kernel
theorem dX7_steepestStrips_15 : decode cX7_steepestStrips 15 = .ok (.aload_n 0, 1) := by decide +kernel
theorem dX7_steepestStrips_16 : decode cX7_steepestStrips 16 = .ok (.getfield 9, 3) := by decide +kernel
theorem dX7_steepestStrips_19 : decode cX7_steepestStrips 19 = .ok (.iload 5, 2) := by decide +kernel
theorem dX7_steepestStrips_21 : decode cX7_steepestStrips 21 = .ok (.iaload, 1) := by decide +kernel
theorem dX7_steepestStrips_22 : decode cX7_steepestStrips 22 = .ok (.i2l, 1) := by decide +kernel
theorem dX7_steepestStrips_23 : decode cX7_steepestStrips 23 = .ok (.invokestatic 88, 3) := by decide +kernel
theorem dX7_steepestStrips_26 : decode cX7_steepestStrips 26 = .ok (.lstore 6, 2) := by decide +kernel
theorem dX7_steepestStrips_28 : decode cX7_steepestStrips 28 = .ok (.lload 6, 2) := by decide +kernel
theorem dX7_steepestStrips_30 : decode cX7_steepestStrips 30 = .ok (.lload_n 2, 1) := by decide +kernel
theorem dX7_steepestStrips_31 : decode cX7_steepestStrips 31 = .ok (.lcmp, 1) := by decide +kernel
theorem dX7_steepestStrips_32 : decode cX7_steepestStrips 32 = .ok (.ifCond .le 10, 3) := by decide +kernel
theorem dX7_steepestStrips_35 : decode cX7_steepestStrips 35 = .ok (.lload 6, 2) := by decide +kernel
theorem dX7_steepestStrips_37 : decode cX7_steepestStrips 37 = .ok (.lstore_n 2, 1) := by decide +kernel
theorem dX7_steepestStrips_38 : decode cX7_steepestStrips 38 = .ok (.iload 5, 2) := by decide +kernel
theorem dX7_steepestStrips_40 : decode cX7_steepestStrips 40 = .ok (.istore 4, 2) := by decide +kernel
theorem dX7_steepestStrips_42 : decode cX7_steepestStrips 42 = .ok (.iinc 5 1, 3) := by decide +kernel
theorem dX7_steepestStrips_45 : decode cX7_steepestStrips 45 = .ok (.goto (-36), 3) := by decide +kernel
theorem dX7_steepestStrips_48 : decode cX7_steepestStrips 48 = .ok (.iload 4, 2) := by decide +kernel
theorem dX7_steepestStrips_50 : decode cX7_steepestStrips 50 = .ok (.ireturn, 1) := by decide +kernel
theorem dX8_init_0 : decode cX8_init 0 = .ok (.aload_n 0, 1) := by decide +kernel
theorem dX8_init_1 : decode cX8_init 1 = .ok (.invokespecial 3, 3) := by decide +kernel
theorem dX8_init_4 : decode cX8_init 4 = .ok (.aload_n 0, 1) := by decide +kernel
theorem dX8_init_5 : decode cX8_init 5 = .ok (.iconst 4, 1) := by decide +kernel
theorem dX8_init_6 : decode cX8_init 6 = .ok (.newarray .int, 2) := by decide +kernel
theorem dX8_init_8 : decode cX8_init 8 = .ok (.putfield 9, 3) := by decide +kernel
theorem dX8_init_11 : decode cX8_init 11 = .ok (.aload_n 0, 1) := by decide +kernel
theorem dX8_init_12 : decode cX8_init 12 = .ok (.bipush 60, 2) := by decide +kernel
theorem dX8_init_14 : decode cX8_init 14 = .ok (.newarray .int, 2) := by decide +kernel
theorem dX8_init_16 : decode cX8_init 16 = .ok (.putfield 15, 3) := by decide +kernel
theorem dX8_init_19 : decode cX8_init 19 = .ok (.aload_n 0, 1) := by decide +kernel
theorem dX8_init_20 : decode cX8_init 20 = .ok (.bipush 60, 2) := by decide +kernel
theorem dX8_init_22 : decode cX8_init 22 = .ok (.newarray .int, 2) := by decide +kernel
theorem dX8_init_24 : decode cX8_init 24 = .ok (.putfield 18, 3) := by decide +kernel
theorem dX8_init_27 : decode cX8_init 27 = .ok (.aload_n 0, 1) := by decide +kernel
theorem dX8_init_28 : decode cX8_init 28 = .ok (.bipush 60, 2) := by decide +kernel
theorem dX8_init_30 : decode cX8_init 30 = .ok (.newarray .int, 2) := by decide +kernel
theorem dX8_init_32 : decode cX8_init 32 = .ok (.putfield 21, 3) := by decide +kernel
theorem dX8_init_35 : decode cX8_init 35 = .ok (.aload_n 0, 1) := by decide +kernel
theorem dX8_init_36 : decode cX8_init 36 = .ok (.bipush 60, 2) := by decide +kernel
theorem dX8_init_38 : decode cX8_init 38 = .ok (.newarray .int, 2) := by decide +kernel
theorem dX8_init_40 : decode cX8_init 40 = .ok (.putfield 24, 3) := by decide +kernel
theorem dX8_init_43 : decode cX8_init 43 = .ok (.aload_n 0, 1) := by decide +kernel
theorem dX8_init_44 : decode cX8_init 44 = .ok (.bipush 60, 2) := by decide +kernel
theorem dX8_init_46 : decode cX8_init 46 = .ok (.newarray .int, 2) := by decide +kernel
theorem dX8_init_48 : decode cX8_init 48 = .ok (.putfield 27, 3) := by decide +kernel
theorem dX8_init_51 : decode cX8_init 51 = .ok (.aload_n 0, 1) := by decide +kernel
theorem dX8_init_52 : decode cX8_init 52 = .ok (.bipush 60, 2) := by decide +kernel
theorem dX8_init_54 : decode cX8_init 54 = .ok (.newarray .int, 2) := by decide +kernel
theorem dX8_init_56 : decode cX8_init 56 = .ok (.putfield 30, 3) := by decide +kernel
theorem dX8_init_59 : decode cX8_init 59 = .ok (.return_, 1) := by decide +kernel
theorem dX8_clear_0 : decode cX8_clear 0 = .ok (.aload_n 0, 1) := by decide +kernel
theorem dX8_clear_1 : decode cX8_clear 1 = .ok (.iconst 0, 1) := by decide +kernel
theorem dX8_clear_2 : decode cX8_clear 2 = .ok (.putfield 33, 3) := by decide +kernel
theorem dX8_clear_5 : decode cX8_clear 5 = .ok (.aload_n 0, 1) := by decide +kernel
theorem dX8_clear_6 : decode cX8_clear 6 = .ok (.iconst 0, 1) := by decide +kernel
theorem dX8_clear_7 : decode cX8_clear 7 = .ok (.putfield 37, 3) := by decide +kernel
theorem dX8_clear_10 : decode cX8_clear 10 = .ok (.return_, 1) := by decide +kernel
theorem dX8_has_0 : decode cX8_has 0 = .ok (.iload_n 1, 1) := by decide +kernel
theorem dX8_has_1 : decode cX8_has 1 = .ok (.iconst 0, 1) := by decide +kernel
theorem dX8_has_2 : decode cX8_has 2 = .ok (.aload_n 0, 1) := by decide +kernel
theorem dX8_has_3 : decode cX8_has 3 = .ok (.getfield 37, 3) := by decide +kernel
theorem dX8_has_6 : decode cX8_has 6 = .ok (.iconst 1, 1) := by decide +kernel
theorem dX8_has_7 : decode cX8_has 7 = .ok (.isub, 1) := by decide +kernel
theorem dX8_has_8 : decode cX8_has 8 = .ok (.invokestatic 40, 3) := by decide +kernel
theorem dX8_has_11 : decode cX8_has 11 = .ok (.ireturn, 1) := by decide +kernel
theorem dX8_kindOf_0 : decode cX8_kindOf 0 = .ok (.getstatic 44, 3) := by decide +kernel
theorem dX8_kindOf_3 : decode cX8_kindOf 3 = .ok (.aload_n 0, 1) := by decide +kernel
theorem dX8_kindOf_4 : decode cX8_kindOf 4 = .ok (.getfield 15, 3) := by decide +kernel
theorem dX8_kindOf_7 : decode cX8_kindOf 7 = .ok (.iload_n 1, 1) := by decide +kernel
theorem dX8_kindOf_8 : decode cX8_kindOf 8 = .ok (.iaload, 1) := by decide +kernel
theorem dX8_kindOf_9 : decode cX8_kindOf 9 = .ok (.iaload, 1) := by decide +kernel
theorem dX8_kindOf_10 : decode cX8_kindOf 10 = .ok (.ireturn, 1) := by decide +kernel
theorem dX8_nodesOfOpen_0 : decode cX8_nodesOfOpen 0 = .ok (.aload_n 0, 1) := by decide +kernel
theorem dX8_nodesOfOpen_1 : decode cX8_nodesOfOpen 1 = .ok (.getfield 37, 3) := by decide +kernel
theorem dX8_nodesOfOpen_4 : decode cX8_nodesOfOpen 4 = .ok (.aload_n 0, 1) := by decide +kernel
theorem dX8_nodesOfOpen_5 : decode cX8_nodesOfOpen 5 = .ok (.getfield 9, 3) := by decide +kernel
theorem dX8_nodesOfOpen_8 : decode cX8_nodesOfOpen 8 = .ok (.aload_n 0, 1) := by decide +kernel
theorem dX8_nodesOfOpen_9 : decode cX8_nodesOfOpen 9 = .ok (.getfield 33, 3) := by decide +kernel
theorem dX8_nodesOfOpen_12 : decode cX8_nodesOfOpen 12 = .ok (.iaload, 1) := by decide +kernel
theorem dX8_nodesOfOpen_13 : decode cX8_nodesOfOpen 13 = .ok (.isub, 1) := by decide +kernel
theorem dX8_nodesOfOpen_14 : decode cX8_nodesOfOpen 14 = .ok (.ireturn, 1) := by decide +kernel
theorem dX8_addNode_0 : decode cX8_addNode 0 = .ok (.aload_n 0, 1) := by decide +kernel
theorem dX8_addNode_1 : decode cX8_addNode 1 = .ok (.getfield 15, 3) := by decide +kernel
theorem dX8_addNode_4 : decode cX8_addNode 4 = .ok (.aload_n 0, 1) := by decide +kernel
theorem dX8_addNode_5 : decode cX8_addNode 5 = .ok (.getfield 37, 3) := by decide +kernel
theorem dX8_addNode_8 : decode cX8_addNode 8 = .ok (.iload_n 1, 1) := by decide +kernel
theorem dX8_addNode_9 : decode cX8_addNode 9 = .ok (.iastore, 1) := by decide +kernel
theorem dX8_addNode_10 : decode cX8_addNode 10 = .ok (.aload_n 0, 1) := by decide +kernel
theorem dX8_addNode_11 : decode cX8_addNode 11 = .ok (.getfield 18, 3) := by decide +kernel
theorem dX8_addNode_14 : decode cX8_addNode 14 = .ok (.aload_n 0, 1) := by decide +kernel
theorem dX8_addNode_15 : decode cX8_addNode 15 = .ok (.getfield 37, 3) := by decide +kernel
theorem dX8_addNode_18 : decode cX8_addNode 18 = .ok (.iload_n 2, 1) := by decide +kernel
theorem dX8_addNode_19 : decode cX8_addNode 19 = .ok (.iastore, 1) := by decide +kernel
theorem dX8_addNode_20 : decode cX8_addNode 20 = .ok (.aload_n 0, 1) := by decide +kernel
theorem dX8_addNode_21 : decode cX8_addNode 21 = .ok (.dup, 1) := by decide +kernel
theorem dX8_addNode_22 : decode cX8_addNode 22 = .ok (.getfield 37, 3) := by decide +kernel
theorem dX8_addNode_25 : decode cX8_addNode 25 = .ok (.iconst 1, 1) := by decide +kernel
theorem dX8_addNode_26 : decode cX8_addNode 26 = .ok (.iadd, 1) := by decide +kernel
theorem dX8_addNode_27 : decode cX8_addNode 27 = .ok (.putfield 37, 3) := by decide +kernel
theorem dX8_addNode_30 : decode cX8_addNode 30 = .ok (.aload_n 0, 1) := by decide +kernel
theorem dX8_addNode_31 : decode cX8_addNode 31 = .ok (.getfield 37, 3) := by decide +kernel
theorem dX8_addNode_34 : decode cX8_addNode 34 = .ok (.iconst 1, 1) := by decide +kernel
theorem dX8_addNode_35 : decode cX8_addNode 35 = .ok (.isub, 1) := by decide +kernel
theorem dX8_addNode_36 : decode cX8_addNode 36 = .ok (.ireturn, 1) := by decide +kernel
theorem dX8_closeNode_0 : decode cX8_closeNode 0 = .ok (.aload_n 0, 1) := by decide +kernel
theorem dX8_closeNode_1 : decode cX8_closeNode 1 = .ok (.getfield 21, 3) := by decide +kernel
theorem dX8_closeNode_4 : decode cX8_closeNode 4 = .ok (.iload_n 1, 1) := by decide +kernel
theorem dX8_closeNode_5 : decode cX8_closeNode 5 = .ok (.aload_n 0, 1) := by decide +kernel
theorem dX8_closeNode_6 : decode cX8_closeNode 6 = .ok (.getfield 37, 3) := by decide +kernel
theorem dX8_closeNode_9 : decode cX8_closeNode 9 = .ok (.iload_n 1, 1) := by decide +kernel
theorem dX8_closeNode_10 : decode cX8_closeNode 10 = .ok (.isub, 1) := by decide +kernel
theorem dX8_closeNode_11 : decode cX8_closeNode 11 = .ok (.iastore, 1) := by decide +kernel
theorem dX8_closeNode_12 : decode cX8_closeNode 12 = .ok (.aload_n 0, 1) := by decide +kernel
theorem dX8_closeNode_13 : decode cX8_closeNode 13 = .ok (.getfield 15, 3) := by decide +kernel
theorem dX8_closeNode_16 : decode cX8_closeNode 16 = .ok (.iload_n 1, 1) := by decide +kernel
theorem dX8_closeNode_17 : decode cX8_closeNode 17 = .ok (.iaload, 1) := by decide +kernel
theorem dX8_closeNode_18 : decode cX8_closeNode 18 = .ok (.iconst 5, 1) := by decide +kernel
theorem dX8_closeNode_19 : decode cX8_closeNode 19 = .ok (.if_icmp .lt 16, 3) := by decide +kernel
theorem dX8_closeNode_22 : decode cX8_closeNode 22 = .ok (.aload_n 0, 1) := by decide +kernel
theorem dX8_closeNode_23 : decode cX8_closeNode 23 = .ok (.getfield 24, 3) := by decide +kernel
theorem dX8_closeNode_26 : decode cX8_closeNode 26 = .ok (.iload_n 1, 1) := by decide +kernel
theorem dX8_closeNode_27 : decode cX8_closeNode 27 = .ok (.aload_n 0, 1) := by decide +kernel
theorem dX8_closeNode_28 : decode cX8_closeNode 28 = .ok (.iload_n 1, 1) := by decide +kernel
theorem dX8_closeNode_29 : decode cX8_closeNode 29 = .ok (.iconst 1, 1) := by decide +kernel
theorem dX8_closeNode_30 : decode cX8_closeNode 30 = .ok (.iadd, 1) := by decide +kernel
theorem dX8_closeNode_31 : decode cX8_closeNode 31 = .ok (.invokevirtual 47, 3) := by decide +kernel
theorem dX8_closeNode_34 : decode cX8_closeNode 34 = .ok (.iastore, 1) := by decide +kernel
theorem dX8_closeNode_35 : decode cX8_closeNode 35 = .ok (.aload_n 0, 1) := by decide +kernel
theorem dX8_closeNode_36 : decode cX8_closeNode 36 = .ok (.getfield 15, 3) := by decide +kernel
theorem dX8_closeNode_39 : decode cX8_closeNode 39 = .ok (.iload_n 1, 1) := by decide +kernel
theorem dX8_closeNode_40 : decode cX8_closeNode 40 = .ok (.iaload, 1) := by decide +kernel
theorem dX8_closeNode_41 : decode cX8_closeNode 41 = .ok (.bipush 10, 2) := by decide +kernel
theorem dX8_closeNode_43 : decode cX8_closeNode 43 = .ok (.if_icmp .ne 35, 3) := by decide +kernel
theorem dX8_closeNode_46 : decode cX8_closeNode 46 = .ok (.aload_n 0, 1) := by decide +kernel
theorem dX8_closeNode_47 : decode cX8_closeNode 47 = .ok (.getfield 27, 3) := by decide +kernel
theorem dX8_closeNode_50 : decode cX8_closeNode 50 = .ok (.iload_n 1, 1) := by decide +kernel
theorem dX8_closeNode_51 : decode cX8_closeNode 51 = .ok (.aload_n 0, 1) := by decide +kernel
theorem dX8_closeNode_52 : decode cX8_closeNode 52 = .ok (.aload_n 0, 1) := by decide +kernel
theorem dX8_closeNode_53 : decode cX8_closeNode 53 = .ok (.getfield 24, 3) := by decide +kernel
theorem dX8_closeNode_56 : decode cX8_closeNode 56 = .ok (.iload_n 1, 1) := by decide +kernel
theorem dX8_closeNode_57 : decode cX8_closeNode 57 = .ok (.iaload, 1) := by decide +kernel
theorem dX8_closeNode_58 : decode cX8_closeNode 58 = .ok (.invokevirtual 47, 3) := by decide +kernel
theorem dX8_closeNode_61 : decode cX8_closeNode 61 = .ok (.iastore, 1) := by decide +kernel
theorem dX8_closeNode_62 : decode cX8_closeNode 62 = .ok (.aload_n 0, 1) := by decide +kernel
theorem dX8_closeNode_63 : decode cX8_closeNode 63 = .ok (.getfield 30, 3) := by decide +kernel
theorem dX8_closeNode_66 : decode cX8_closeNode 66 = .ok (.iload_n 1, 1) := by decide +kernel
theorem dX8_closeNode_67 : decode cX8_closeNode 67 = .ok (.aload_n 0, 1) := by decide +kernel
theorem dX8_closeNode_68 : decode cX8_closeNode 68 = .ok (.aload_n 0, 1) := by decide +kernel
theorem dX8_closeNode_69 : decode cX8_closeNode 69 = .ok (.getfield 27, 3) := by decide +kernel
theorem dX8_closeNode_72 : decode cX8_closeNode 72 = .ok (.iload_n 1, 1) := by decide +kernel
theorem dX8_closeNode_73 : decode cX8_closeNode 73 = .ok (.iaload, 1) := by decide +kernel
theorem dX8_closeNode_74 : decode cX8_closeNode 74 = .ok (.invokevirtual 47, 3) := by decide +kernel
theorem dX8_closeNode_77 : decode cX8_closeNode 77 = .ok (.iastore, 1) := by decide +kernel
theorem dX8_closeNode_78 : decode cX8_closeNode 78 = .ok (.return_, 1) := by decide +kernel
theorem dX8_closeStencil_0 : decode cX8_closeStencil 0 = .ok (.aload_n 0, 1) := by decide +kernel
theorem dX8_closeStencil_1 : decode cX8_closeStencil 1 = .ok (.dup, 1) := by decide +kernel
theorem dX8_closeStencil_2 : decode cX8_closeStencil 2 = .ok (.getfield 33, 3) := by decide +kernel
theorem dX8_closeStencil_5 : decode cX8_closeStencil 5 = .ok (.iconst 1, 1) := by decide +kernel
theorem dX8_closeStencil_6 : decode cX8_closeStencil 6 = .ok (.iadd, 1) := by decide +kernel
theorem dX8_closeStencil_7 : decode cX8_closeStencil 7 = .ok (.putfield 33, 3) := by decide +kernel
theorem dX8_closeStencil_10 : decode cX8_closeStencil 10 = .ok (.aload_n 0, 1) := by decide +kernel
theorem dX8_closeStencil_11 : decode cX8_closeStencil 11 = .ok (.getfield 9, 3) := by decide +kernel
theorem dX8_closeStencil_14 : decode cX8_closeStencil 14 = .ok (.aload_n 0, 1) := by decide +kernel
theorem dX8_closeStencil_15 : decode cX8_closeStencil 15 = .ok (.getfield 33, 3) := by decide +kernel
theorem dX8_closeStencil_18 : decode cX8_closeStencil 18 = .ok (.aload_n 0, 1) := by decide +kernel
theorem dX8_closeStencil_19 : decode cX8_closeStencil 19 = .ok (.getfield 37, 3) := by decide +kernel
theorem dX8_closeStencil_22 : decode cX8_closeStencil 22 = .ok (.iastore, 1) := by decide +kernel
theorem dX8_closeStencil_23 : decode cX8_closeStencil 23 = .ok (.return_, 1) := by decide +kernel
theorem dX8_behind_0 : decode cX8_behind 0 = .ok (.iload_n 1, 1) := by decide +kernel
theorem dX8_behind_1 : decode cX8_behind 1 = .ok (.aload_n 0, 1) := by decide +kernel
theorem dX8_behind_2 : decode cX8_behind 2 = .ok (.getfield 21, 3) := by decide +kernel
theorem dX8_behind_5 : decode cX8_behind 5 = .ok (.iload_n 1, 1) := by decide +kernel
theorem dX8_behind_6 : decode cX8_behind 6 = .ok (.iaload, 1) := by decide +kernel
theorem dX8_behind_7 : decode cX8_behind 7 = .ok (.iadd, 1) := by decide +kernel
theorem dX8_behind_8 : decode cX8_behind 8 = .ok (.ireturn, 1) := by decide +kernel
theorem dX9_init_0 : decode cX9_init 0 = .ok (.aload_n 0, 1) := by decide +kernel
theorem dX9_init_1 : decode cX9_init 1 = .ok (.invokespecial 3, 3) := by decide +kernel
theorem dX9_init_4 : decode cX9_init 4 = .ok (.aload_n 0, 1) := by decide +kernel
theorem dX9_init_5 : decode cX9_init 5 = .ok (.bipush 6, 2) := by decide +kernel
theorem dX9_init_7 : decode cX9_init 7 = .ok (.newarray .int, 2) := by decide +kernel
theorem dX9_init_9 : decode cX9_init 9 = .ok (.putfield 9, 3) := by decide +kernel
theorem dX9_init_12 : decode cX9_init 12 = .ok (.aload_n 0, 1) := by decide +kernel
theorem dX9_init_13 : decode cX9_init 13 = .ok (.bipush 6, 2) := by decide +kernel
theorem dX9_init_15 : decode cX9_init 15 = .ok (.bipush 10, 2) := by decide +kernel
theorem dX9_init_17 : decode cX9_init 17 = .ok (.multianewarray 15 2, 4) := by decide +kernel
theorem dX9_init_21 : decode cX9_init 21 = .ok (.putfield 17, 3) := by decide +kernel
theorem dX9_init_24 : decode cX9_init 24 = .ok (.return_, 1) := by decide +kernel
theorem dX9_add_0 : decode cX9_add 0 = .ok (.aload_n 0, 1) := by decide +kernel
theorem dX9_add_1 : decode cX9_add 1 = .ok (.getfield 9, 3) := by decide +kernel
theorem dX9_add_4 : decode cX9_add 4 = .ok (.aload_n 0, 1) := by decide +kernel
theorem dX9_add_5 : decode cX9_add 5 = .ok (.getfield 20, 3) := by decide +kernel
theorem dX9_add_8 : decode cX9_add 8 = .ok (.aload_n 1, 1) := by decide +kernel
theorem dX9_add_9 : decode cX9_add 9 = .ok (.getfield 24, 3) := by decide +kernel
theorem dX9_add_12 : decode cX9_add 12 = .ok (.iastore, 1) := by decide +kernel
theorem dX9_add_13 : decode cX9_add 13 = .ok (.aload_n 1, 1) := by decide +kernel
theorem dX9_add_14 : decode cX9_add 14 = .ok (.getfield 28, 3) := by decide +kernel
theorem dX9_add_17 : decode cX9_add 17 = .ok (.iconst 0, 1) := by decide +kernel
theorem dX9_add_18 : decode cX9_add 18 = .ok (.aload_n 0, 1) := by decide +kernel
theorem dX9_add_19 : decode cX9_add 19 = .ok (.getfield 17, 3) := by decide +kernel
theorem dX9_add_22 : decode cX9_add 22 = .ok (.aload_n 0, 1) := by decide +kernel
theorem dX9_add_23 : decode cX9_add 23 = .ok (.getfield 20, 3) := by decide +kernel
theorem dX9_add_26 : decode cX9_add 26 = .ok (.aaload, 1) := by decide +kernel
theorem dX9_add_27 : decode cX9_add 27 = .ok (.iconst 0, 1) := by decide +kernel
theorem dX9_add_28 : decode cX9_add 28 = .ok (.aload_n 1, 1) := by decide +kernel
theorem dX9_add_29 : decode cX9_add 29 = .ok (.getfield 24, 3) := by decide +kernel
theorem dX9_add_32 : decode cX9_add 32 = .ok (.invokestatic 30, 3) := by decide +kernel
theorem dX9_add_35 : decode cX9_add 35 = .ok (.aload_n 0, 1) := by decide +kernel
theorem dX9_add_36 : decode cX9_add 36 = .ok (.dup, 1) := by decide +kernel
theorem dX9_add_37 : decode cX9_add 37 = .ok (.getfield 20, 3) := by decide +kernel
theorem dX9_add_40 : decode cX9_add 40 = .ok (.iconst 1, 1) := by decide +kernel
theorem dX9_add_41 : decode cX9_add 41 = .ok (.iadd, 1) := by decide +kernel
theorem dX9_add_42 : decode cX9_add 42 = .ok (.putfield 20, 3) := by decide +kernel
theorem dX9_add_45 : decode cX9_add 45 = .ok (.return_, 1) := by decide +kernel
theorem dX9_has_0 : decode cX9_has 0 = .ok (.iload_n 1, 1) := by decide +kernel
theorem dX9_has_1 : decode cX9_has 1 = .ok (.iconst 0, 1) := by decide +kernel
theorem dX9_has_2 : decode cX9_has 2 = .ok (.aload_n 0, 1) := by decide +kernel
theorem dX9_has_3 : decode cX9_has 3 = .ok (.getfield 20, 3) := by decide +kernel
theorem dX9_has_6 : decode cX9_has 6 = .ok (.iconst 1, 1) := by decide +kernel
theorem dX9_has_7 : decode cX9_has 7 = .ok (.isub, 1) := by decide +kernel
theorem dX9_has_8 : decode cX9_has 8 = .ok (.invokestatic 36, 3) := by decide +kernel
theorem dX9_has_11 : decode cX9_has 11 = .ok (.ireturn, 1) := by decide +kernel
theorem dX10_init_0 : decode cX10_init 0 = .ok (.aload_n 0, 1) := by decide +kernel
theorem dX10_init_1 : decode cX10_init 1 = .ok (.invokespecial 3, 3) := by decide +kernel
theorem dX10_init_4 : decode cX10_init 4 = .ok (.aload_n 0, 1) := by decide +kernel
theorem dX10_init_5 : decode cX10_init 5 = .ok (.sipush 300, 3) := by decide +kernel
theorem dX10_init_8 : decode cX10_init 8 = .ok (.newarray .int, 2) := by decide +kernel
theorem dX10_init_10 : decode cX10_init 10 = .ok (.putfield 9, 3) := by decide +kernel
theorem dX10_init_13 : decode cX10_init 13 = .ok (.return_, 1) := by decide +kernel
theorem dX10_add_0 : decode cX10_add 0 = .ok (.iload_n 3, 1) := by decide +kernel
theorem dX10_add_1 : decode cX10_add 1 = .ok (.iconst 1, 1) := by decide +kernel
theorem dX10_add_2 : decode cX10_add 2 = .ok (.isub, 1) := by decide +kernel
theorem dX10_add_3 : decode cX10_add 3 = .ok (.istore 4, 2) := by decide +kernel
theorem dX10_add_5 : decode cX10_add 5 = .ok (.iload 4, 2) := by decide +kernel
theorem dX10_add_7 : decode cX10_add 7 = .ok (.ifCond .lt 40, 3) := by decide +kernel
theorem dX10_add_10 : decode cX10_add 10 = .ok (.aload_n 0, 1) := by decide +kernel
theorem dX10_add_11 : decode cX10_add 11 = .ok (.getfield 9, 3) := by decide +kernel
theorem dX10_add_14 : decode cX10_add 14 = .ok (.aload_n 0, 1) := by decide +kernel
theorem dX10_add_15 : decode cX10_add 15 = .ok (.getfield 15, 3) := by decide +kernel
theorem dX10_add_18 : decode cX10_add 18 = .ok (.lload_n 1, 1) := by decide +kernel
theorem dX10_add_19 : decode cX10_add 19 = .ok (.bipush 8, 2) := by decide +kernel
theorem dX10_add_21 : decode cX10_add 21 = .ok (.iload 4, 2) := by decide +kernel
theorem dX10_add_23 : decode cX10_add 23 = .ok (.imul, 1) := by decide +kernel
theorem dX10_add_24 : decode cX10_add 24 = .ok (.lshr, 1) := by decide +kernel
theorem dX10_add_25 : decode cX10_add 25 = .ok (.l2i, 1) := by decide +kernel
theorem dX10_add_26 : decode cX10_add 26 = .ok (.sipush 255, 3) := by decide +kernel
theorem dX10_add_29 : decode cX10_add 29 = .ok (.iand, 1) := by decide +kernel
theorem dX10_add_30 : decode cX10_add 30 = .ok (.iastore, 1) := by decide +kernel
theorem dX10_add_31 : decode cX10_add 31 = .ok (.aload_n 0, 1) := by decide +kernel
theorem dX10_add_32 : decode cX10_add 32 = .ok (.dup, 1) := by decide +kernel
theorem dX10_add_33 : decode cX10_add 33 = .ok (.getfield 15, 3) := by decide +kernel
theorem dX10_add_36 : decode cX10_add 36 = .ok (.iconst 1, 1) := by decide +kernel
theorem dX10_add_37 : decode cX10_add 37 = .ok (.iadd, 1) := by decide +kernel
theorem dX10_add_38 : decode cX10_add 38 = .ok (.putfield 15, 3) := by decide +kernel
theorem dX10_add_41 : decode cX10_add 41 = .ok (.iinc 4 (-1), 3) := by decide +kernel
theorem dX10_add_44 : decode cX10_add 44 = .ok (.goto (-39), 3) := by decide +kernel
theorem dX10_add_47 : decode cX10_add 47 = .ok (.return_, 1) := by decide +kernel
theorem dX10_readText_0 : decode cX10_readText 0 = .ok (.aload_n 1, 1) := by decide +kernel
theorem dX10_readText_1 : decode cX10_readText 1 = .ok (.invokevirtual 19, 3) := by decide +kernel
theorem dX10_readText_4 : decode cX10_readText 4 = .ok (.aload_n 0, 1) := by decide +kernel
theorem dX10_readText_5 : decode cX10_readText 5 = .ok (.iconst 0, 1) := by decide +kernel
theorem dX10_readText_6 : decode cX10_readText 6 = .ok (.putfield 24, 3) := by decide +kernel
theorem dX10_readText_9 : decode cX10_readText 9 = .ok (.aload_n 0, 1) := by decide +kernel
theorem dX10_readText_10 : decode cX10_readText 10 = .ok (.invokevirtual 27, 3) := by decide +kernel
theorem dX10_readText_13 : decode cX10_readText 13 = .ok (.aload_n 0, 1) := by decide +kernel
theorem dX10_readText_14 : decode cX10_readText 14 = .ok (.aload_n 1, 1) := by decide +kernel
theorem dX10_readText_15 : decode cX10_readText 15 = .ok (.invokevirtual 30, 3) := by decide +kernel
theorem dX10_readText_18 : decode cX10_readText 18 = .ok (.istore_n 2, 1) := by decide +kernel
theorem dX10_readText_19 : decode cX10_readText 19 = .ok (.iconst 0, 1) := by decide +kernel
theorem dX10_readText_20 : decode cX10_readText 20 = .ok (.istore_n 3, 1) := by decide +kernel
theorem dX10_readText_21 : decode cX10_readText 21 = .ok (.iload_n 3, 1) := by decide +kernel
theorem dX10_readText_22 : decode cX10_readText 22 = .ok (.iconst 3, 1) := by decide +kernel
theorem dX10_readText_23 : decode cX10_readText 23 = .ok (.if_icmp .ge 28, 3) := by decide +kernel
theorem dX10_readText_26 : decode cX10_readText 26 = .ok (.iload_n 2, 1) := by decide +kernel
theorem dX10_readText_27 : decode cX10_readText 27 = .ok (.ifCond .eq 24, 3) := by decide +kernel
theorem dX10_readText_30 : decode cX10_readText 30 = .ok (.aload_n 0, 1) := by decide +kernel
theorem dX10_readText_31 : decode cX10_readText 31 = .ok (.getfield 34, 3) := by decide +kernel
theorem dX10_readText_34 : decode cX10_readText 34 = .ok (.bipush 13, 2) := by decide +kernel
theorem dX10_readText_36 : decode cX10_readText 36 = .ok (.if_icmp .eq 15, 3) := by decide +kernel
theorem dX10_readText_39 : decode cX10_readText 39 = .ok (.aload_n 0, 1) := by decide +kernel
theorem dX10_readText_40 : decode cX10_readText 40 = .ok (.aload_n 1, 1) := by decide +kernel
theorem dX10_readText_41 : decode cX10_readText 41 = .ok (.invokevirtual 30, 3) := by decide +kernel
theorem dX10_readText_44 : decode cX10_readText 44 = .ok (.istore_n 2, 1) := by decide +kernel
theorem dX10_readText_45 : decode cX10_readText 45 = .ok (.iinc 3 1, 3) := by decide +kernel
theorem dX10_readText_48 : decode cX10_readText 48 = .ok (.goto (-27), 3) := by decide +kernel
theorem dX10_readText_51 : decode cX10_readText 51 = .ok (.iload_n 2, 1) := by decide +kernel
theorem dX10_readText_52 : decode cX10_readText 52 = .ok (.ireturn, 1) := by decide +kernel
theorem dX10_readStencil_0 : decode cX10_readStencil 0 = .ok (.aload_n 0, 1) := by decide +kernel
theorem dX10_readStencil_1 : decode cX10_readStencil 1 = .ok (.getfield 34, 3) := by decide +kernel
theorem dX10_readStencil_4 : decode cX10_readStencil 4 = .ok (.bipush 11, 2) := by decide +kernel
theorem dX10_readStencil_6 : decode cX10_readStencil 6 = .ok (.if_icmp .eq 9, 3) := by decide +kernel
theorem dX10_readStencil_9 : decode cX10_readStencil 9 = .ok (.aload_n 0, 1) := by decide +kernel
theorem dX10_readStencil_10 : decode cX10_readStencil 10 = .ok (.iconst 1, 1) := by decide +kernel
theorem dX10_readStencil_11 : decode cX10_readStencil 11 = .ok (.invokevirtual 37, 3) := by decide +kernel
theorem dX10_readStencil_14 : decode cX10_readStencil 14 = .ok (.ireturn, 1) := by decide +kernel
theorem dX10_readStencil_15 : decode cX10_readStencil 15 = .ok (.aload_n 1, 1) := by decide +kernel
theorem dX10_readStencil_16 : decode cX10_readStencil 16 = .ok (.getfield 41, 3) := by decide +kernel
theorem dX10_readStencil_19 : decode cX10_readStencil 19 = .ok (.iconst 3, 1) := by decide +kernel
theorem dX10_readStencil_20 : decode cX10_readStencil 20 = .ok (.if_icmp .lt 9, 3) := by decide +kernel
theorem dX10_readStencil_23 : decode cX10_readStencil 23 = .ok (.aload_n 0, 1) := by decide +kernel
theorem dX10_readStencil_24 : decode cX10_readStencil 24 = .ok (.iconst 3, 1) := by decide +kernel
theorem dX10_readStencil_25 : decode cX10_readStencil 25 = .ok (.invokevirtual 37, 3) := by decide +kernel
theorem dX10_readStencil_28 : decode cX10_readStencil 28 = .ok (.ireturn, 1) := by decide +kernel
theorem dX10_readStencil_29 : decode cX10_readStencil 29 = .ok (.aload_n 0, 1) := by decide +kernel
theorem dX10_readStencil_30 : decode cX10_readStencil 30 = .ok (.invokevirtual 27, 3) := by decide +kernel
theorem dX10_readStencil_33 : decode cX10_readStencil 33 = .ok (.aload_n 0, 1) := by decide +kernel
theorem dX10_readStencil_34 : decode cX10_readStencil 34 = .ok (.aload_n 1, 1) := by decide +kernel
theorem dX10_readStencil_35 : decode cX10_readStencil 35 = .ok (.iconst 1, 1) := by decide +kernel
theorem dX10_readStencil_36 : decode cX10_readStencil 36 = .ok (.invokevirtual 44, 3) := by decide +kernel
theorem dX10_readStencil_39 : decode cX10_readStencil 39 = .ok (.ifCond .ne 5, 3) := by decide +kernel
theorem dX10_readStencil_42 : decode cX10_readStencil 42 = .ok (.iconst 0, 1) := by decide +kernel
theorem dX10_readStencil_43 : decode cX10_readStencil 43 = .ok (.ireturn, 1) := by decide +kernel
theorem dX10_readStencil_44 : decode cX10_readStencil 44 = .ok (.aload_n 0, 1) := by decide +kernel
theorem dX10_readStencil_45 : decode cX10_readStencil 45 = .ok (.getfield 34, 3) := by decide +kernel
theorem dX10_readStencil_48 : decode cX10_readStencil 48 = .ok (.bipush 12, 2) := by decide +kernel
theorem dX10_readStencil_50 : decode cX10_readStencil 50 = .ok (.if_icmp .eq 9, 3) := by decide +kernel
theorem dX10_readStencil_53 : decode cX10_readStencil 53 = .ok (.aload_n 0, 1) := by decide +kernel
theorem dX10_readStencil_54 : decode cX10_readStencil 54 = .ok (.iconst 1, 1) := by decide +kernel
theorem dX10_readStencil_55 : decode cX10_readStencil 55 = .ok (.invokevirtual 37, 3) := by decide +kernel
theorem dX10_readStencil_58 : decode cX10_readStencil 58 = .ok (.ireturn, 1) := by decide +kernel
theorem dX10_readStencil_59 : decode cX10_readStencil 59 = .ok (.aload_n 1, 1) := by decide +kernel
theorem dX10_readStencil_60 : decode cX10_readStencil 60 = .ok (.invokevirtual 48, 3) := by decide +kernel
theorem dX10_readStencil_63 : decode cX10_readStencil 63 = .ok (.aload_n 0, 1) := by decide +kernel
theorem dX10_readStencil_64 : decode cX10_readStencil 64 = .ok (.invokevirtual 27, 3) := by decide +kernel
theorem dX10_readStencil_67 : decode cX10_readStencil 67 = .ok (.iconst 1, 1) := by decide +kernel
theorem dX10_readStencil_68 : decode cX10_readStencil 68 = .ok (.ireturn, 1) := by decide +kernel
theorem dX10_readNode_0 : decode cX10_readNode 0 = .ok (.aload_n 0, 1) := by decide +kernel
theorem dX10_readNode_1 : decode cX10_readNode 1 = .ok (.getfield 34, 3) := by decide +kernel
theorem dX10_readNode_4 : decode cX10_readNode 4 = .ok (.bipush 10, 2) := by decide +kernel
theorem dX10_readNode_6 : decode cX10_readNode 6 = .ok (.if_icmp .le 9, 3) := by decide +kernel
theorem dX10_readNode_9 : decode cX10_readNode 9 = .ok (.aload_n 0, 1) := by decide +kernel
theorem dX10_readNode_10 : decode cX10_readNode 10 = .ok (.iconst 1, 1) := by decide +kernel
theorem dX10_readNode_11 : decode cX10_readNode 11 = .ok (.invokevirtual 37, 3) := by decide +kernel
theorem dX10_readNode_14 : decode cX10_readNode 14 = .ok (.ireturn, 1) := by decide +kernel
theorem dX10_readNode_15 : decode cX10_readNode 15 = .ok (.iload_n 2, 1) := by decide +kernel
theorem dX10_readNode_16 : decode cX10_readNode 16 = .ok (.bipush 6, 2) := by decide +kernel
theorem dX10_readNode_18 : decode cX10_readNode 18 = .ok (.if_icmp .gt 12, 3) := by decide +kernel
theorem dX10_readNode_21 : decode cX10_readNode 21 = .ok (.aload_n 1, 1) := by decide +kernel
theorem dX10_readNode_22 : decode cX10_readNode 22 = .ok (.invokevirtual 51, 3) := by decide +kernel
theorem dX10_readNode_25 : decode cX10_readNode 25 = .ok (.bipush 20, 2) := by decide +kernel
theorem dX10_readNode_27 : decode cX10_readNode 27 = .ok (.if_icmp .lt 9, 3) := by decide +kernel
theorem dX10_readNode_30 : decode cX10_readNode 30 = .ok (.aload_n 0, 1) := by decide +kernel
theorem dX10_readNode_31 : decode cX10_readNode 31 = .ok (.iconst 3, 1) := by decide +kernel
theorem dX10_readNode_32 : decode cX10_readNode 32 = .ok (.invokevirtual 37, 3) := by decide +kernel
theorem dX10_readNode_35 : decode cX10_readNode 35 = .ok (.ireturn, 1) := by decide +kernel
theorem dX10_readNode_36 : decode cX10_readNode 36 = .ok (.getstatic 55, 3) := by decide +kernel
theorem dX10_readNode_39 : decode cX10_readNode 39 = .ok (.aload_n 0, 1) := by decide +kernel
theorem dX10_readNode_40 : decode cX10_readNode 40 = .ok (.getfield 34, 3) := by decide +kernel
theorem dX10_readNode_43 : decode cX10_readNode 43 = .ok (.iaload, 1) := by decide +kernel
theorem dX10_readNode_44 : decode cX10_readNode 44 = .ok (.istore_n 3, 1) := by decide +kernel
theorem dX10_readNode_45 : decode cX10_readNode 45 = .ok (.aload_n 1, 1) := by decide +kernel
theorem dX10_readNode_46 : decode cX10_readNode 46 = .ok (.aload_n 0, 1) := by decide +kernel
theorem dX10_readNode_47 : decode cX10_readNode 47 = .ok (.getfield 34, 3) := by decide +kernel
theorem dX10_readNode_50 : decode cX10_readNode 50 = .ok (.aload_n 0, 1) := by decide +kernel
theorem dX10_readNode_51 : decode cX10_readNode 51 = .ok (.getfield 58, 3) := by decide +kernel
theorem dX10_readNode_54 : decode cX10_readNode 54 = .ok (.invokevirtual 61, 3) := by decide +kernel
theorem dX10_readNode_57 : decode cX10_readNode 57 = .ok (.istore 4, 2) := by decide +kernel
theorem dX10_readNode_59 : decode cX10_readNode 59 = .ok (.aload_n 0, 1) := by decide +kernel
theorem dX10_readNode_60 : decode cX10_readNode 60 = .ok (.invokevirtual 27, 3) := by decide +kernel
theorem dX10_readNode_63 : decode cX10_readNode 63 = .ok (.iconst 0, 1) := by decide +kernel
theorem dX10_readNode_64 : decode cX10_readNode 64 = .ok (.istore 5, 2) := by decide +kernel
theorem dX10_readNode_66 : decode cX10_readNode 66 = .ok (.iload 5, 2) := by decide +kernel
theorem dX10_readNode_68 : decode cX10_readNode 68 = .ok (.iload_n 3, 1) := by decide +kernel
theorem dX10_readNode_69 : decode cX10_readNode 69 = .ok (.if_icmp .ge 22, 3) := by decide +kernel
theorem dX10_readNode_72 : decode cX10_readNode 72 = .ok (.aload_n 0, 1) := by decide +kernel
theorem dX10_readNode_73 : decode cX10_readNode 73 = .ok (.aload_n 1, 1) := by decide +kernel
theorem dX10_readNode_74 : decode cX10_readNode 74 = .ok (.iload_n 2, 1) := by decide +kernel
theorem dX10_readNode_75 : decode cX10_readNode 75 = .ok (.iconst 1, 1) := by decide +kernel
theorem dX10_readNode_76 : decode cX10_readNode 76 = .ok (.iadd, 1) := by decide +kernel
theorem dX10_readNode_77 : decode cX10_readNode 77 = .ok (.invokevirtual 44, 3) := by decide +kernel
theorem dX10_readNode_80 : decode cX10_readNode 80 = .ok (.ifCond .ne 5, 3) := by decide +kernel
theorem dX10_readNode_83 : decode cX10_readNode 83 = .ok (.iconst 0, 1) := by decide +kernel
theorem dX10_readNode_84 : decode cX10_readNode 84 = .ok (.ireturn, 1) := by decide +kernel
theorem dX10_readNode_85 : decode cX10_readNode 85 = .ok (.iinc 5 1, 3) := by decide +kernel
theorem dX10_readNode_88 : decode cX10_readNode 88 = .ok (.goto (-22), 3) := by decide +kernel
theorem dX10_readNode_91 : decode cX10_readNode 91 = .ok (.aload_n 1, 1) := by decide +kernel
theorem dX10_readNode_92 : decode cX10_readNode 92 = .ok (.iload 4, 2) := by decide +kernel
theorem dX10_readNode_94 : decode cX10_readNode 94 = .ok (.invokevirtual 65, 3) := by decide +kernel
theorem dX10_readNode_97 : decode cX10_readNode 97 = .ok (.iconst 1, 1) := by decide +kernel
theorem dX10_readNode_98 : decode cX10_readNode 98 = .ok (.ireturn, 1) := by decide +kernel
theorem dX10_fail_0 : decode cX10_fail 0 = .ok (.aload_n 0, 1) := by decide +kernel
theorem dX10_fail_1 : decode cX10_fail 1 = .ok (.iload_n 1, 1) := by decide +kernel
theorem dX10_fail_2 : decode cX10_fail 2 = .ok (.putfield 69, 3) := by decide +kernel
theorem dX10_fail_5 : decode cX10_fail 5 = .ok (.aload_n 0, 1) := by decide +kernel
theorem dX10_fail_6 : decode cX10_fail 6 = .ok (.aload_n 0, 1) := by decide +kernel
theorem dX10_fail_7 : decode cX10_fail 7 = .ok (.getfield 72, 3) := by decide +kernel
theorem dX10_fail_10 : decode cX10_fail 10 = .ok (.putfield 75, 3) := by decide +kernel
theorem dX10_fail_13 : decode cX10_fail 13 = .ok (.iconst 0, 1) := by decide +kernel
theorem dX10_fail_14 : decode cX10_fail 14 = .ok (.ireturn, 1) := by decide +kernel
theorem dX10_advance_0 : decode cX10_advance 0 = .ok (.aload_n 0, 1) := by decide +kernel
theorem dX10_advance_1 : decode cX10_advance 1 = .ok (.getfield 24, 3) := by decide +kernel
theorem dX10_advance_4 : decode cX10_advance 4 = .ok (.istore_n 1, 1) := by decide +kernel
theorem dX10_advance_5 : decode cX10_advance 5 = .ok (.iload_n 1, 1) := by decide +kernel
theorem dX10_advance_6 : decode cX10_advance 6 = .ok (.aload_n 0, 1) := by decide +kernel
theorem dX10_advance_7 : decode cX10_advance 7 = .ok (.getfield 15, 3) := by decide +kernel
theorem dX10_advance_10 : decode cX10_advance 10 = .ok (.if_icmp .ge 31, 3) := by decide +kernel
theorem dX10_advance_13 : decode cX10_advance 13 = .ok (.aload_n 0, 1) := by decide +kernel
theorem dX10_advance_14 : decode cX10_advance 14 = .ok (.getfield 9, 3) := by decide +kernel
theorem dX10_advance_17 : decode cX10_advance 17 = .ok (.iload_n 1, 1) := by decide +kernel
theorem dX10_advance_18 : decode cX10_advance 18 = .ok (.iaload, 1) := by decide +kernel
theorem dX10_advance_19 : decode cX10_advance 19 = .ok (.bipush 32, 2) := by decide +kernel
theorem dX10_advance_21 : decode cX10_advance 21 = .ok (.if_icmp .eq 14, 3) := by decide +kernel
theorem dX10_advance_24 : decode cX10_advance 24 = .ok (.aload_n 0, 1) := by decide +kernel
theorem dX10_advance_25 : decode cX10_advance 25 = .ok (.getfield 9, 3) := by decide +kernel
theorem dX10_advance_28 : decode cX10_advance 28 = .ok (.iload_n 1, 1) := by decide +kernel
theorem dX10_advance_29 : decode cX10_advance 29 = .ok (.iaload, 1) := by decide +kernel
theorem dX10_advance_30 : decode cX10_advance 30 = .ok (.bipush 10, 2) := by decide +kernel
theorem dX10_advance_32 : decode cX10_advance 32 = .ok (.if_icmp .ne 9, 3) := by decide +kernel
theorem dX10_advance_35 : decode cX10_advance 35 = .ok (.iinc 1 1, 3) := by decide +kernel
theorem dX10_advance_38 : decode cX10_advance 38 = .ok (.goto (-33), 3) := by decide +kernel
theorem dX10_advance_41 : decode cX10_advance 41 = .ok (.aload_n 0, 1) := by decide +kernel
theorem dX10_advance_42 : decode cX10_advance 42 = .ok (.iload_n 1, 1) := by decide +kernel
theorem dX10_advance_43 : decode cX10_advance 43 = .ok (.putfield 72, 3) := by decide +kernel
theorem dX10_advance_46 : decode cX10_advance 46 = .ok (.aload_n 0, 1) := by decide +kernel
theorem dX10_advance_47 : decode cX10_advance 47 = .ok (.iload_n 1, 1) := by decide +kernel
theorem dX10_advance_48 : decode cX10_advance 48 = .ok (.iconst 1, 1) := by decide +kernel
theorem dX10_advance_49 : decode cX10_advance 49 = .ok (.iadd, 1) := by decide +kernel
theorem dX10_advance_50 : decode cX10_advance 50 = .ok (.putfield 24, 3) := by decide +kernel
theorem dX10_advance_53 : decode cX10_advance 53 = .ok (.iload_n 1, 1) := by decide +kernel
theorem dX10_advance_54 : decode cX10_advance 54 = .ok (.aload_n 0, 1) := by decide +kernel
theorem dX10_advance_55 : decode cX10_advance 55 = .ok (.getfield 15, 3) := by decide +kernel
theorem dX10_advance_58 : decode cX10_advance 58 = .ok (.if_icmp .lt 17, 3) := by decide +kernel
theorem dX10_advance_61 : decode cX10_advance 61 = .ok (.aload_n 0, 1) := by decide +kernel
theorem dX10_advance_62 : decode cX10_advance 62 = .ok (.iload_n 1, 1) := by decide +kernel
theorem dX10_advance_63 : decode cX10_advance 63 = .ok (.putfield 24, 3) := by decide +kernel
theorem dX10_advance_66 : decode cX10_advance 66 = .ok (.aload_n 0, 1) := by decide +kernel
theorem dX10_advance_67 : decode cX10_advance 67 = .ok (.bipush 13, 2) := by decide +kernel
theorem dX10_advance_69 : decode cX10_advance 69 = .ok (.putfield 34, 3) := by decide +kernel
theorem dX10_advance_72 : decode cX10_advance 72 = .ok (.goto 94, 3) := by decide +kernel
theorem dX10_advance_75 : decode cX10_advance 75 = .ok (.aload_n 0, 1) := by decide +kernel
theorem dX10_advance_76 : decode cX10_advance 76 = .ok (.getfield 9, 3) := by decide +kernel
theorem dX10_advance_79 : decode cX10_advance 79 = .ok (.iload_n 1, 1) := by decide +kernel
theorem dX10_advance_80 : decode cX10_advance 80 = .ok (.iaload, 1) := by decide +kernel
theorem dX10_advance_81 : decode cX10_advance 81 = .ok (.bipush 97, 2) := by decide +kernel
theorem dX10_advance_83 : decode cX10_advance 83 = .ok (.bipush 122, 2) := by decide +kernel
theorem dX10_advance_85 : decode cX10_advance 85 = .ok (.invokestatic 78, 3) := by decide +kernel
theorem dX10_advance_88 : decode cX10_advance 88 = .ok (.ifCond .eq 26, 3) := by decide +kernel
theorem dX10_advance_91 : decode cX10_advance 91 = .ok (.aload_n 0, 1) := by decide +kernel
theorem dX10_advance_92 : decode cX10_advance 92 = .ok (.aload_n 0, 1) := by decide +kernel
theorem dX10_advance_93 : decode cX10_advance 93 = .ok (.bipush 97, 2) := by decide +kernel
theorem dX10_advance_95 : decode cX10_advance 95 = .ok (.bipush 122, 2) := by decide +kernel
theorem dX10_advance_97 : decode cX10_advance 97 = .ok (.invokevirtual 82, 3) := by decide +kernel
theorem dX10_advance_100 : decode cX10_advance 100 = .ok (.putfield 24, 3) := by decide +kernel
theorem dX10_advance_103 : decode cX10_advance 103 = .ok (.aload_n 0, 1) := by decide +kernel
theorem dX10_advance_104 : decode cX10_advance 104 = .ok (.aload_n 0, 1) := by decide +kernel
theorem dX10_advance_105 : decode cX10_advance 105 = .ok (.invokevirtual 85, 3) := by decide +kernel
theorem dX10_advance_108 : decode cX10_advance 108 = .ok (.putfield 34, 3) := by decide +kernel
theorem dX10_advance_111 : decode cX10_advance 111 = .ok (.goto 55, 3) := by decide +kernel
theorem dX10_advance_114 : decode cX10_advance 114 = .ok (.aload_n 0, 1) := by decide +kernel
theorem dX10_advance_115 : decode cX10_advance 115 = .ok (.getfield 9, 3) := by decide +kernel
theorem dX10_advance_118 : decode cX10_advance 118 = .ok (.iload_n 1, 1) := by decide +kernel
theorem dX10_advance_119 : decode cX10_advance 119 = .ok (.iaload, 1) := by decide +kernel
theorem dX10_advance_120 : decode cX10_advance 120 = .ok (.bipush 48, 2) := by decide +kernel
theorem dX10_advance_122 : decode cX10_advance 122 = .ok (.bipush 57, 2) := by decide +kernel
theorem dX10_advance_124 : decode cX10_advance 124 = .ok (.invokestatic 78, 3) := by decide +kernel
theorem dX10_advance_127 : decode cX10_advance 127 = .ok (.ifCond .eq 26, 3) := by decide +kernel
theorem dX10_advance_130 : decode cX10_advance 130 = .ok (.aload_n 0, 1) := by decide +kernel
theorem dX10_advance_131 : decode cX10_advance 131 = .ok (.aload_n 0, 1) := by decide +kernel
theorem dX10_advance_132 : decode cX10_advance 132 = .ok (.bipush 48, 2) := by decide +kernel
theorem dX10_advance_134 : decode cX10_advance 134 = .ok (.bipush 57, 2) := by decide +kernel
theorem dX10_advance_136 : decode cX10_advance 136 = .ok (.invokevirtual 82, 3) := by decide +kernel
theorem dX10_advance_139 : decode cX10_advance 139 = .ok (.putfield 24, 3) := by decide +kernel
theorem dX10_advance_142 : decode cX10_advance 142 = .ok (.aload_n 0, 1) := by decide +kernel
theorem dX10_advance_143 : decode cX10_advance 143 = .ok (.aload_n 0, 1) := by decide +kernel
theorem dX10_advance_144 : decode cX10_advance 144 = .ok (.invokevirtual 88, 3) := by decide +kernel
theorem dX10_advance_147 : decode cX10_advance 147 = .ok (.putfield 34, 3) := by decide +kernel
theorem dX10_advance_150 : decode cX10_advance 150 = .ok (.goto 16, 3) := by decide +kernel
theorem dX10_advance_153 : decode cX10_advance 153 = .ok (.aload_n 0, 1) := by decide +kernel
theorem dX10_advance_154 : decode cX10_advance 154 = .ok (.aload_n 0, 1) := by decide +kernel
theorem dX10_advance_155 : decode cX10_advance 155 = .ok (.getfield 9, 3) := by decide +kernel
theorem dX10_advance_158 : decode cX10_advance 158 = .ok (.iload_n 1, 1) := by decide +kernel
theorem dX10_advance_159 : decode cX10_advance 159 = .ok (.iaload, 1) := by decide +kernel
theorem dX10_advance_160 : decode cX10_advance 160 = .ok (.invokestatic 91, 3) := by decide +kernel
theorem dX10_advance_163 : decode cX10_advance 163 = .ok (.putfield 34, 3) := by decide +kernel
theorem dX10_advance_166 : decode cX10_advance 166 = .ok (.return_, 1) := by decide +kernel
theorem dX10_endOf_0 : decode cX10_endOf 0 = .ok (.aload_n 0, 1) := by decide +kernel
theorem dX10_endOf_1 : decode cX10_endOf 1 = .ok (.getfield 72, 3) := by decide +kernel
theorem dX10_endOf_4 : decode cX10_endOf 4 = .ok (.istore_n 3, 1) := by decide +kernel
theorem dX10_endOf_5 : decode cX10_endOf 5 = .ok (.iload_n 3, 1) := by decide +kernel
theorem dX10_endOf_6 : decode cX10_endOf 6 = .ok (.aload_n 0, 1) := by decide +kernel
theorem dX10_endOf_7 : decode cX10_endOf 7 = .ok (.getfield 15, 3) := by decide +kernel
theorem dX10_endOf_10 : decode cX10_endOf 10 = .ok (.if_icmp .ge 23, 3) := by decide +kernel
theorem dX10_endOf_13 : decode cX10_endOf 13 = .ok (.aload_n 0, 1) := by decide +kernel
theorem dX10_endOf_14 : decode cX10_endOf 14 = .ok (.getfield 9, 3) := by decide +kernel
theorem dX10_endOf_17 : decode cX10_endOf 17 = .ok (.iload_n 3, 1) := by decide +kernel
theorem dX10_endOf_18 : decode cX10_endOf 18 = .ok (.iaload, 1) := by decide +kernel
theorem dX10_endOf_19 : decode cX10_endOf 19 = .ok (.iload_n 1, 1) := by decide +kernel
theorem dX10_endOf_20 : decode cX10_endOf 20 = .ok (.iload_n 2, 1) := by decide +kernel
theorem dX10_endOf_21 : decode cX10_endOf 21 = .ok (.invokestatic 78, 3) := by decide +kernel
theorem dX10_endOf_24 : decode cX10_endOf 24 = .ok (.ifCond .eq 9, 3) := by decide +kernel
theorem dX10_endOf_27 : decode cX10_endOf 27 = .ok (.iinc 3 1, 3) := by decide +kernel
theorem dX10_endOf_30 : decode cX10_endOf 30 = .ok (.goto (-25), 3) := by decide +kernel
theorem dX10_endOf_33 : decode cX10_endOf 33 = .ok (.iload_n 3, 1) := by decide +kernel
theorem dX10_endOf_34 : decode cX10_endOf 34 = .ok (.ireturn, 1) := by decide +kernel
theorem dX10_numberToken_0 : decode cX10_numberToken 0 = .ok (.aload_n 0, 1) := by decide +kernel
theorem dX10_numberToken_1 : decode cX10_numberToken 1 = .ok (.getfield 24, 3) := by decide +kernel
theorem dX10_numberToken_4 : decode cX10_numberToken 4 = .ok (.aload_n 0, 1) := by decide +kernel
theorem dX10_numberToken_5 : decode cX10_numberToken 5 = .ok (.getfield 72, 3) := by decide +kernel
theorem dX10_numberToken_8 : decode cX10_numberToken 8 = .ok (.isub, 1) := by decide +kernel
theorem dX10_numberToken_9 : decode cX10_numberToken 9 = .ok (.iconst 4, 1) := by decide +kernel
theorem dX10_numberToken_10 : decode cX10_numberToken 10 = .ok (.if_icmp .le 6, 3) := by decide +kernel
theorem dX10_numberToken_13 : decode cX10_numberToken 13 = .ok (.bipush 14, 2) := by decide +kernel
theorem dX10_numberToken_15 : decode cX10_numberToken 15 = .ok (.ireturn, 1) := by decide +kernel
theorem dX10_numberToken_16 : decode cX10_numberToken 16 = .ok (.aload_n 0, 1) := by decide +kernel
theorem dX10_numberToken_17 : decode cX10_numberToken 17 = .ok (.iconst 0, 1) := by decide +kernel
theorem dX10_numberToken_18 : decode cX10_numberToken 18 = .ok (.putfield 58, 3) := by decide +kernel
theorem dX10_numberToken_21 : decode cX10_numberToken 21 = .ok (.aload_n 0, 1) := by decide +kernel
theorem dX10_numberToken_22 : decode cX10_numberToken 22 = .ok (.getfield 72, 3) := by decide +kernel
theorem dX10_numberToken_25 : decode cX10_numberToken 25 = .ok (.istore_n 1, 1) := by decide +kernel
theorem dX10_numberToken_26 : decode cX10_numberToken 26 = .ok (.iload_n 1, 1) := by decide +kernel
theorem dX10_numberToken_27 : decode cX10_numberToken 27 = .ok (.aload_n 0, 1) := by decide +kernel
theorem dX10_numberToken_28 : decode cX10_numberToken 28 = .ok (.getfield 24, 3) := by decide +kernel
theorem dX10_numberToken_31 : decode cX10_numberToken 31 = .ok (.if_icmp .ge 30, 3) := by decide +kernel
theorem dX10_numberToken_34 : decode cX10_numberToken 34 = .ok (.aload_n 0, 1) := by decide +kernel
theorem dX10_numberToken_35 : decode cX10_numberToken 35 = .ok (.bipush 10, 2) := by decide +kernel
theorem dX10_numberToken_37 : decode cX10_numberToken 37 = .ok (.aload_n 0, 1) := by decide +kernel
theorem dX10_numberToken_38 : decode cX10_numberToken 38 = .ok (.getfield 58, 3) := by decide +kernel
theorem dX10_numberToken_41 : decode cX10_numberToken 41 = .ok (.imul, 1) := by decide +kernel
theorem dX10_numberToken_42 : decode cX10_numberToken 42 = .ok (.aload_n 0, 1) := by decide +kernel
theorem dX10_numberToken_43 : decode cX10_numberToken 43 = .ok (.getfield 9, 3) := by decide +kernel
theorem dX10_numberToken_46 : decode cX10_numberToken 46 = .ok (.iload_n 1, 1) := by decide +kernel
theorem dX10_numberToken_47 : decode cX10_numberToken 47 = .ok (.iaload, 1) := by decide +kernel
theorem dX10_numberToken_48 : decode cX10_numberToken 48 = .ok (.iadd, 1) := by decide +kernel
theorem dX10_numberToken_49 : decode cX10_numberToken 49 = .ok (.bipush 48, 2) := by decide +kernel
theorem dX10_numberToken_51 : decode cX10_numberToken 51 = .ok (.isub, 1) := by decide +kernel
theorem dX10_numberToken_52 : decode cX10_numberToken 52 = .ok (.putfield 58, 3) := by decide +kernel
theorem dX10_numberToken_55 : decode cX10_numberToken 55 = .ok (.iinc 1 1, 3) := by decide +kernel
theorem dX10_numberToken_58 : decode cX10_numberToken 58 = .ok (.goto (-32), 3) := by decide +kernel
theorem dX10_numberToken_61 : decode cX10_numberToken 61 = .ok (.iconst 4, 1) := by decide +kernel
theorem dX10_numberToken_62 : decode cX10_numberToken 62 = .ok (.ireturn, 1) := by decide +kernel
theorem dX10_nameToken_0 : decode cX10_nameToken 0 = .ok (.aload_n 0, 1) := by decide +kernel
theorem dX10_nameToken_1 : decode cX10_nameToken 1 = .ok (.getfield 24, 3) := by decide +kernel
theorem dX10_nameToken_4 : decode cX10_nameToken 4 = .ok (.aload_n 0, 1) := by decide +kernel
theorem dX10_nameToken_5 : decode cX10_nameToken 5 = .ok (.getfield 72, 3) := by decide +kernel
theorem dX10_nameToken_8 : decode cX10_nameToken 8 = .ok (.isub, 1) := by decide +kernel
theorem dX10_nameToken_9 : decode cX10_nameToken 9 = .ok (.iconst 1, 1) := by decide +kernel
theorem dX10_nameToken_10 : decode cX10_nameToken 10 = .ok (.if_icmp .ne 16, 3) := by decide +kernel
theorem dX10_nameToken_13 : decode cX10_nameToken 13 = .ok (.aload_n 0, 1) := by decide +kernel
theorem dX10_nameToken_14 : decode cX10_nameToken 14 = .ok (.getfield 9, 3) := by decide +kernel
theorem dX10_nameToken_17 : decode cX10_nameToken 17 = .ok (.aload_n 0, 1) := by decide +kernel
theorem dX10_nameToken_18 : decode cX10_nameToken 18 = .ok (.getfield 72, 3) := by decide +kernel
theorem dX10_nameToken_21 : decode cX10_nameToken 21 = .ok (.iaload, 1) := by decide +kernel
theorem dX10_nameToken_22 : decode cX10_nameToken 22 = .ok (.invokestatic 95, 3) := by decide +kernel
theorem dX10_nameToken_25 : decode cX10_nameToken 25 = .ok (.ireturn, 1) := by decide +kernel
theorem dX10_nameToken_26 : decode cX10_nameToken 26 = .ok (.aload_n 0, 1) := by decide +kernel
theorem dX10_nameToken_27 : decode cX10_nameToken 27 = .ok (.ldc 98, 2) := by decide +kernel
theorem dX10_nameToken_29 : decode cX10_nameToken 29 = .ok (.invokevirtual 100, 3) := by decide +kernel
theorem dX10_nameToken_32 : decode cX10_nameToken 32 = .ok (.ifCond .eq 6, 3) := by decide +kernel
theorem dX10_nameToken_35 : decode cX10_nameToken 35 = .ok (.bipush 11, 2) := by decide +kernel
theorem dX10_nameToken_37 : decode cX10_nameToken 37 = .ok (.ireturn, 1) := by decide +kernel
theorem dX10_nameToken_38 : decode cX10_nameToken 38 = .ok (.aload_n 0, 1) := by decide +kernel
theorem dX10_nameToken_39 : decode cX10_nameToken 39 = .ok (.ldc 104, 2) := by decide +kernel
theorem dX10_nameToken_41 : decode cX10_nameToken 41 = .ok (.invokevirtual 100, 3) := by decide +kernel
theorem dX10_nameToken_44 : decode cX10_nameToken 44 = .ok (.ifCond .eq 6, 3) := by decide +kernel
theorem dX10_nameToken_47 : decode cX10_nameToken 47 = .ok (.bipush 8, 2) := by decide +kernel
theorem dX10_nameToken_49 : decode cX10_nameToken 49 = .ok (.ireturn, 1) := by decide +kernel
theorem dX10_nameToken_50 : decode cX10_nameToken 50 = .ok (.aload_n 0, 1) := by decide +kernel
theorem dX10_nameToken_51 : decode cX10_nameToken 51 = .ok (.ldc 106, 2) := by decide +kernel
theorem dX10_nameToken_53 : decode cX10_nameToken 53 = .ok (.invokevirtual 100, 3) := by decide +kernel
theorem dX10_nameToken_56 : decode cX10_nameToken 56 = .ok (.ifCond .eq 6, 3) := by decide +kernel
theorem dX10_nameToken_59 : decode cX10_nameToken 59 = .ok (.bipush 9, 2) := by decide +kernel
theorem dX10_nameToken_61 : decode cX10_nameToken 61 = .ok (.ireturn, 1) := by decide +kernel
theorem dX10_nameToken_62 : decode cX10_nameToken 62 = .ok (.aload_n 0, 1) := by decide +kernel
theorem dX10_nameToken_63 : decode cX10_nameToken 63 = .ok (.ldc 108, 2) := by decide +kernel
theorem dX10_nameToken_65 : decode cX10_nameToken 65 = .ok (.invokevirtual 100, 3) := by decide +kernel
theorem dX10_nameToken_68 : decode cX10_nameToken 68 = .ok (.ifCond .eq 8, 3) := by decide +kernel
theorem dX10_nameToken_71 : decode cX10_nameToken 71 = .ok (.bipush 10, 2) := by decide +kernel
theorem dX10_nameToken_73 : decode cX10_nameToken 73 = .ok (.goto 5, 3) := by decide +kernel
theorem dX10_nameToken_76 : decode cX10_nameToken 76 = .ok (.bipush 14, 2) := by decide +kernel
theorem dX10_nameToken_78 : decode cX10_nameToken 78 = .ok (.ireturn, 1) := by decide +kernel
theorem dX10_isName_0 : decode cX10_isName 0 = .ok (.aload_n 0, 1) := by decide +kernel
theorem dX10_isName_1 : decode cX10_isName 1 = .ok (.getfield 24, 3) := by decide +kernel
theorem dX10_isName_4 : decode cX10_isName 4 = .ok (.aload_n 0, 1) := by decide +kernel
theorem dX10_isName_5 : decode cX10_isName 5 = .ok (.getfield 72, 3) := by decide +kernel
theorem dX10_isName_8 : decode cX10_isName 8 = .ok (.isub, 1) := by decide +kernel
theorem dX10_isName_9 : decode cX10_isName 9 = .ok (.aload_n 1, 1) := by decide +kernel
theorem dX10_isName_10 : decode cX10_isName 10 = .ok (.invokevirtual 110, 3) := by decide +kernel
theorem dX10_isName_13 : decode cX10_isName 13 = .ok (.if_icmp .eq 5, 3) := by decide +kernel
theorem dX10_isName_16 : decode cX10_isName 16 = .ok (.iconst 0, 1) := by decide +kernel
theorem dX10_isName_17 : decode cX10_isName 17 = .ok (.ireturn, 1) := by decide +kernel
theorem dX10_isName_18 : decode cX10_isName 18 = .ok (.iconst 0, 1) := by decide +kernel
theorem dX10_isName_19 : decode cX10_isName 19 = .ok (.istore_n 2, 1) := by decide +kernel
theorem dX10_isName_20 : decode cX10_isName 20 = .ok (.iload_n 2, 1) := by decide +kernel
theorem dX10_isName_21 : decode cX10_isName 21 = .ok (.aload_n 1, 1) := by decide +kernel
theorem dX10_isName_22 : decode cX10_isName 22 = .ok (.invokevirtual 110, 3) := by decide +kernel
theorem dX10_isName_25 : decode cX10_isName 25 = .ok (.if_icmp .ge 30, 3) := by decide +kernel
theorem dX10_isName_28 : decode cX10_isName 28 = .ok (.aload_n 0, 1) := by decide +kernel
theorem dX10_isName_29 : decode cX10_isName 29 = .ok (.getfield 9, 3) := by decide +kernel
theorem dX10_isName_32 : decode cX10_isName 32 = .ok (.aload_n 0, 1) := by decide +kernel
theorem dX10_isName_33 : decode cX10_isName 33 = .ok (.getfield 72, 3) := by decide +kernel
theorem dX10_isName_36 : decode cX10_isName 36 = .ok (.iload_n 2, 1) := by decide +kernel
theorem dX10_isName_37 : decode cX10_isName 37 = .ok (.iadd, 1) := by decide +kernel
theorem dX10_isName_38 : decode cX10_isName 38 = .ok (.iaload, 1) := by decide +kernel
theorem dX10_isName_39 : decode cX10_isName 39 = .ok (.aload_n 1, 1) := by decide +kernel
theorem dX10_isName_40 : decode cX10_isName 40 = .ok (.iload_n 2, 1) := by decide +kernel
theorem dX10_isName_41 : decode cX10_isName 41 = .ok (.invokevirtual 115, 3) := by decide +kernel
theorem dX10_isName_44 : decode cX10_isName 44 = .ok (.if_icmp .eq 5, 3) := by decide +kernel
theorem dX10_isName_47 : decode cX10_isName 47 = .ok (.iconst 0, 1) := by decide +kernel
theorem dX10_isName_48 : decode cX10_isName 48 = .ok (.ireturn, 1) := by decide +kernel
theorem dX10_isName_49 : decode cX10_isName 49 = .ok (.iinc 2 1, 3) := by decide +kernel
theorem dX10_isName_52 : decode cX10_isName 52 = .ok (.goto (-32), 3) := by decide +kernel
theorem dX10_isName_55 : decode cX10_isName 55 = .ok (.iconst 1, 1) := by decide +kernel
theorem dX10_isName_56 : decode cX10_isName 56 = .ok (.ireturn, 1) := by decide +kernel
theorem dX10_letterToken_0 : decode cX10_letterToken 0 = .ok (.iload_n 0, 1) := by decide +kernel
theorem dX10_letterToken_1 : decode cX10_letterToken 1 = .ok (.lookupswitch 51 #[(99, 45), (107, 49), (108, 43), (114, 47)], 43) := by decide +kernel
theorem dX10_letterToken_44 : decode cX10_letterToken 44 = .ok (.iconst 0, 1) := by decide +kernel
theorem dX10_letterToken_45 : decode cX10_letterToken 45 = .ok (.ireturn, 1) := by decide +kernel
theorem dX10_letterToken_46 : decode cX10_letterToken 46 = .ok (.iconst 1, 1) := by decide +kernel
theorem dX10_letterToken_47 : decode cX10_letterToken 47 = .ok (.ireturn, 1) := by decide +kernel
theorem dX10_letterToken_48 : decode cX10_letterToken 48 = .ok (.iconst 2, 1) := by decide +kernel
theorem dX10_letterToken_49 : decode cX10_letterToken 49 = .ok (.ireturn, 1) := by decide +kernel
theorem dX10_letterToken_50 : decode cX10_letterToken 50 = .ok (.iconst 3, 1) := by decide +kernel
theorem dX10_letterToken_51 : decode cX10_letterToken 51 = .ok (.ireturn, 1) := by decide +kernel
theorem dX10_letterToken_52 : decode cX10_letterToken 52 = .ok (.bipush 14, 2) := by decide +kernel
theorem dX10_letterToken_54 : decode cX10_letterToken 54 = .ok (.ireturn, 1) := by decide +kernel
theorem dX10_signToken_0 : decode cX10_signToken 0 = .ok (.iload_n 0, 1) := by decide +kernel
theorem dX10_signToken_1 : decode cX10_signToken 1 = .ok (.lookupswitch 54 #[(42, 51), (43, 46), (45, 48), (59, 43)], 43) := by decide +kernel
theorem dX10_signToken_44 : decode cX10_signToken 44 = .ok (.bipush 12, 2) := by decide +kernel
theorem dX10_signToken_46 : decode cX10_signToken 46 = .ok (.ireturn, 1) := by decide +kernel
theorem dX10_signToken_47 : decode cX10_signToken 47 = .ok (.iconst 5, 1) := by decide +kernel
theorem dX10_signToken_48 : decode cX10_signToken 48 = .ok (.ireturn, 1) := by decide +kernel
theorem dX10_signToken_49 : decode cX10_signToken 49 = .ok (.bipush 6, 2) := by decide +kernel
theorem dX10_signToken_51 : decode cX10_signToken 51 = .ok (.ireturn, 1) := by decide +kernel
theorem dX10_signToken_52 : decode cX10_signToken 52 = .ok (.bipush 7, 2) := by decide +kernel
theorem dX10_signToken_54 : decode cX10_signToken 54 = .ok (.ireturn, 1) := by decide +kernel
theorem dX10_signToken_55 : decode cX10_signToken 55 = .ok (.bipush 14, 2) := by decide +kernel
theorem dX10_signToken_57 : decode cX10_signToken 57 = .ok (.ireturn, 1) := by decide +kernel
theorem dJ9_abs_067f4_0 : decode cJ9_abs_067f4 0 = .ok (.lload_n 0, 1) := by decide +kernel
theorem dJ9_abs_067f4_1 : decode cJ9_abs_067f4 1 = .ok (.lconst 0, 1) := by decide +kernel
theorem dJ9_abs_067f4_2 : decode cJ9_abs_067f4 2 = .ok (.lcmp, 1) := by decide +kernel
theorem dJ9_abs_067f4_3 : decode cJ9_abs_067f4 3 = .ok (.ifCond .ge 8, 3) := by decide +kernel
theorem dJ9_abs_067f4_6 : decode cJ9_abs_067f4 6 = .ok (.lload_n 0, 1) := by decide +kernel
theorem dJ9_abs_067f4_7 : decode cJ9_abs_067f4 7 = .ok (.lneg, 1) := by decide +kernel
theorem dJ9_abs_067f4_8 : decode cJ9_abs_067f4 8 = .ok (.goto 4, 3) := by decide +kernel
theorem dJ9_abs_067f4_11 : decode cJ9_abs_067f4 11 = .ok (.lload_n 0, 1) := by decide +kernel
theorem dJ9_abs_067f4_12 : decode cJ9_abs_067f4 12 = .ok (.lreturn, 1) := by decide +kernel
theorem dJ9_max_7cf53_0 : decode cJ9_max_7cf53 0 = .ok (.iload_n 0, 1) := by decide +kernel
theorem dJ9_max_7cf53_1 : decode cJ9_max_7cf53 1 = .ok (.iload_n 1, 1) := by decide +kernel
theorem dJ9_max_7cf53_2 : decode cJ9_max_7cf53 2 = .ok (.if_icmp .lt 7, 3) := by decide +kernel
theorem dJ9_max_7cf53_5 : decode cJ9_max_7cf53 5 = .ok (.iload_n 0, 1) := by decide +kernel
theorem dJ9_max_7cf53_6 : decode cJ9_max_7cf53 6 = .ok (.goto 4, 3) := by decide +kernel
theorem dJ9_max_7cf53_9 : decode cJ9_max_7cf53 9 = .ok (.iload_n 1, 1) := by decide +kernel
theorem dJ9_max_7cf53_10 : decode cJ9_max_7cf53 10 = .ok (.ireturn, 1) := by decide +kernel
theorem dJ0_length_8abf5_0 : decode cJ0_length_8abf5 0 = .ok (.aload_n 0, 1) := by decide +kernel
theorem dJ0_length_8abf5_1 : decode cJ0_length_8abf5 1 = .ok (.getfield 9, 3) := by decide +kernel
theorem dJ0_length_8abf5_4 : decode cJ0_length_8abf5 4 = .ok (.arraylength, 1) := by decide +kernel
theorem dJ0_length_8abf5_5 : decode cJ0_length_8abf5 5 = .ok (.aload_n 0, 1) := by decide +kernel
theorem dJ0_length_8abf5_6 : decode cJ0_length_8abf5 6 = .ok (.invokevirtual 335, 3) := by decide +kernel
theorem dJ0_length_8abf5_9 : decode cJ0_length_8abf5 9 = .ok (.ishr, 1) := by decide +kernel
theorem dJ0_length_8abf5_10 : decode cJ0_length_8abf5 10 = .ok (.ireturn, 1) := by decide +kernel
theorem dJ0_charAt_5068e_0 : decode cJ0_charAt_5068e 0 = .ok (.aload_n 0, 1) := by decide +kernel
theorem dJ0_charAt_5068e_1 : decode cJ0_charAt_5068e 1 = .ok (.invokevirtual 492, 3) := by decide +kernel
theorem dJ0_charAt_5068e_4 : decode cJ0_charAt_5068e 4 = .ok (.ifCond .eq 12, 3) := by decide +kernel
theorem dJ0_charAt_5068e_7 : decode cJ0_charAt_5068e 7 = .ok (.aload_n 0, 1) := by decide +kernel
theorem dJ0_charAt_5068e_8 : decode cJ0_charAt_5068e 8 = .ok (.getfield 9, 3) := by decide +kernel
theorem dJ0_charAt_5068e_11 : decode cJ0_charAt_5068e 11 = .ok (.iload_n 1, 1) := by decide +kernel
theorem dJ0_charAt_5068e_12 : decode cJ0_charAt_5068e 12 = .ok (.invokestatic 495, 3) := by decide +kernel
theorem dJ0_charAt_5068e_15 : decode cJ0_charAt_5068e 15 = .ok (.ireturn, 1) := by decide +kernel
theorem dJ0_charAt_5068e_16 : decode cJ0_charAt_5068e 16 = .ok (.aload_n 0, 1) := by decide +kernel
theorem dJ0_charAt_5068e_17 : decode cJ0_charAt_5068e 17 = .ok (.getfield 9, 3) := by decide +kernel
theorem dJ0_charAt_5068e_20 : decode cJ0_charAt_5068e 20 = .ok (.iload_n 1, 1) := by decide +kernel
theorem dJ0_charAt_5068e_21 : decode cJ0_charAt_5068e 21 = .ok (.invokestatic 498, 3) := by decide +kernel
theorem dJ0_charAt_5068e_24 : decode cJ0_charAt_5068e 24 = .ok (.ireturn, 1) := by decide +kernel
theorem dJ0_coder_7d493_0 : decode cJ0_coder_7d493 0 = .ok (.getstatic 38, 3) := by decide +kernel
theorem dJ0_coder_7d493_3 : decode cJ0_coder_7d493 3 = .ok (.ifCond .eq 10, 3) := by decide +kernel
theorem dJ0_coder_7d493_6 : decode cJ0_coder_7d493 6 = .ok (.aload_n 0, 1) := by decide +kernel
theorem dJ0_coder_7d493_7 : decode cJ0_coder_7d493 7 = .ok (.getfield 15, 3) := by decide +kernel
theorem dJ0_coder_7d493_10 : decode cJ0_coder_7d493 10 = .ok (.goto 4, 3) := by decide +kernel
theorem dJ0_coder_7d493_13 : decode cJ0_coder_7d493 13 = .ok (.iconst 1, 1) := by decide +kernel
theorem dJ0_coder_7d493_14 : decode cJ0_coder_7d493 14 = .ok (.ireturn, 1) := by decide +kernel
theorem dJ0_isLatin1_aae02_0 : decode cJ0_isLatin1_aae02 0 = .ok (.getstatic 38, 3) := by decide +kernel
theorem dJ0_isLatin1_aae02_3 : decode cJ0_isLatin1_aae02 3 = .ok (.ifCond .eq 14, 3) := by decide +kernel
theorem dJ0_isLatin1_aae02_6 : decode cJ0_isLatin1_aae02 6 = .ok (.aload_n 0, 1) := by decide +kernel
theorem dJ0_isLatin1_aae02_7 : decode cJ0_isLatin1_aae02 7 = .ok (.getfield 15, 3) := by decide +kernel
theorem dJ0_isLatin1_aae02_10 : decode cJ0_isLatin1_aae02 10 = .ok (.ifCond .ne 7, 3) := by decide +kernel
theorem dJ0_isLatin1_aae02_13 : decode cJ0_isLatin1_aae02 13 = .ok (.iconst 1, 1) := by decide +kernel
theorem dJ0_isLatin1_aae02_14 : decode cJ0_isLatin1_aae02 14 = .ok (.goto 4, 3) := by decide +kernel
theorem dJ0_isLatin1_aae02_17 : decode cJ0_isLatin1_aae02 17 = .ok (.iconst 0, 1) := by decide +kernel
theorem dJ0_isLatin1_aae02_18 : decode cJ0_isLatin1_aae02 18 = .ok (.ireturn, 1) := by decide +kernel
theorem dJ0_checkIndex_df160_0 : decode cJ0_checkIndex_df160 0 = .ok (.iload_n 0, 1) := by decide +kernel
theorem dJ0_checkIndex_df160_1 : decode cJ0_checkIndex_df160 1 = .ok (.iload_n 1, 1) := by decide +kernel
theorem dJ0_checkIndex_df160_2 : decode cJ0_checkIndex_df160 2 = .ok (.getstatic 1053, 3) := by decide +kernel
theorem dJ0_checkIndex_df160_5 : decode cJ0_checkIndex_df160 5 = .ok (.invokestatic 1059, 3) := by decide +kernel
theorem dJ0_checkIndex_df160_8 : decode cJ0_checkIndex_df160 8 = .ok (.pop, 1) := by decide +kernel
theorem dJ0_checkIndex_df160_9 : decode cJ0_checkIndex_df160 9 = .ok (.return_, 1) := by decide +kernel
theorem dJ1_charAt_3b067_0 : decode cJ1_charAt_3b067 0 = .ok (.iload_n 1, 1) := by decide +kernel
theorem dJ1_charAt_3b067_1 : decode cJ1_charAt_3b067 1 = .ok (.aload_n 0, 1) := by decide +kernel
theorem dJ1_charAt_3b067_2 : decode cJ1_charAt_3b067 2 = .ok (.arraylength, 1) := by decide +kernel
theorem dJ1_charAt_3b067_3 : decode cJ1_charAt_3b067 3 = .ok (.invokestatic 9, 3) := by decide +kernel
theorem dJ1_charAt_3b067_6 : decode cJ1_charAt_3b067 6 = .ok (.aload_n 0, 1) := by decide +kernel
theorem dJ1_charAt_3b067_7 : decode cJ1_charAt_3b067 7 = .ok (.iload_n 1, 1) := by decide +kernel
theorem dJ1_charAt_3b067_8 : decode cJ1_charAt_3b067 8 = .ok (.baload, 1) := by decide +kernel
theorem dJ1_charAt_3b067_9 : decode cJ1_charAt_3b067 9 = .ok (.sipush 255, 3) := by decide +kernel
theorem dJ1_charAt_3b067_12 : decode cJ1_charAt_3b067 12 = .ok (.iand, 1) := by decide +kernel
theorem dJ1_charAt_3b067_13 : decode cJ1_charAt_3b067 13 = .ok (.i2c, 1) := by decide +kernel
theorem dJ1_charAt_3b067_14 : decode cJ1_charAt_3b067 14 = .ok (.ireturn, 1) := by decide +kernel
theorem dJ2_getChar_3b067_0 : decode cJ2_getChar_3b067 0 = .ok (.getstatic 44, 3) := by decide +kernel
theorem dJ2_getChar_3b067_3 : decode cJ2_getChar_3b067 3 = .ok (.ifCond .ne 25, 3) := by decide +kernel
theorem dJ2_getChar_3b067_6 : decode cJ2_getChar_3b067 6 = .ok (.iload_n 1, 1) := by decide +kernel
theorem dJ2_getChar_3b067_7 : decode cJ2_getChar_3b067 7 = .ok (.ifCond .lt 11, 3) := by decide +kernel
theorem dJ2_getChar_3b067_10 : decode cJ2_getChar_3b067 10 = .ok (.iload_n 1, 1) := by decide +kernel
theorem dJ2_getChar_3b067_11 : decode cJ2_getChar_3b067 11 = .ok (.aload_n 0, 1) := by decide +kernel
theorem dJ2_getChar_3b067_12 : decode cJ2_getChar_3b067 12 = .ok (.invokestatic 48, 3) := by decide +kernel
theorem dJ2_getChar_3b067_15 : decode cJ2_getChar_3b067 15 = .ok (.if_icmp .lt 13, 3) := by decide +kernel
theorem dJ2_getChar_3b067_18 : decode cJ2_getChar_3b067 18 = .ok (.new 52, 3) := by decide +kernel
theorem dJ2_getChar_3b067_21 : decode cJ2_getChar_3b067 21 = .ok (.dup, 1) := by decide +kernel
theorem dJ2_getChar_3b067_22 : decode cJ2_getChar_3b067 22 = .ok (.ldc 54, 2) := by decide +kernel
theorem dJ2_getChar_3b067_24 : decode cJ2_getChar_3b067 24 = .ok (.invokespecial 56, 3) := by decide +kernel
theorem dJ2_getChar_3b067_27 : decode cJ2_getChar_3b067 27 = .ok (.athrow, 1) := by decide +kernel
theorem dJ2_getChar_3b067_28 : decode cJ2_getChar_3b067 28 = .ok (.iload_n 1, 1) := by decide +kernel
theorem dJ2_getChar_3b067_29 : decode cJ2_getChar_3b067 29 = .ok (.iconst 1, 1) := by decide +kernel
theorem dJ2_getChar_3b067_30 : decode cJ2_getChar_3b067 30 = .ok (.ishl, 1) := by decide +kernel
theorem dJ2_getChar_3b067_31 : decode cJ2_getChar_3b067 31 = .ok (.istore_n 1, 1) := by decide +kernel
theorem dJ2_getChar_3b067_32 : decode cJ2_getChar_3b067 32 = .ok (.aload_n 0, 1) := by decide +kernel
theorem dJ2_getChar_3b067_33 : decode cJ2_getChar_3b067 33 = .ok (.iload_n 1, 1) := by decide +kernel
theorem dJ2_getChar_3b067_34 : decode cJ2_getChar_3b067 34 = .ok (.iinc 1 1, 3) := by decide +kernel
theorem dJ2_getChar_3b067_37 : decode cJ2_getChar_3b067 37 = .ok (.baload, 1) := by decide +kernel
theorem dJ2_getChar_3b067_38 : decode cJ2_getChar_3b067 38 = .ok (.sipush 255, 3) := by decide +kernel
theorem dJ2_getChar_3b067_41 : decode cJ2_getChar_3b067 41 = .ok (.iand, 1) := by decide +kernel
theorem dJ2_getChar_3b067_42 : decode cJ2_getChar_3b067 42 = .ok (.getstatic 59, 3) := by decide +kernel
theorem dJ2_getChar_3b067_45 : decode cJ2_getChar_3b067 45 = .ok (.ishl, 1) := by decide +kernel
theorem dJ2_getChar_3b067_46 : decode cJ2_getChar_3b067 46 = .ok (.aload_n 0, 1) := by decide +kernel
theorem dJ2_getChar_3b067_47 : decode cJ2_getChar_3b067 47 = .ok (.iload_n 1, 1) := by decide +kernel
theorem dJ2_getChar_3b067_48 : decode cJ2_getChar_3b067 48 = .ok (.baload, 1) := by decide +kernel
theorem dJ2_getChar_3b067_49 : decode cJ2_getChar_3b067 49 = .ok (.sipush 255, 3) := by decide +kernel
theorem dJ2_getChar_3b067_52 : decode cJ2_getChar_3b067 52 = .ok (.iand, 1) := by decide +kernel
theorem dJ2_getChar_3b067_53 : decode cJ2_getChar_3b067 53 = .ok (.getstatic 63, 3) := by decide +kernel
theorem dJ2_getChar_3b067_56 : decode cJ2_getChar_3b067 56 = .ok (.ishl, 1) := by decide +kernel
theorem dJ2_getChar_3b067_57 : decode cJ2_getChar_3b067 57 = .ok (.ior, 1) := by decide +kernel
theorem dJ2_getChar_3b067_58 : decode cJ2_getChar_3b067 58 = .ok (.i2c, 1) := by decide +kernel
theorem dJ2_getChar_3b067_59 : decode cJ2_getChar_3b067 59 = .ok (.ireturn, 1) := by decide +kernel
theorem dJ2_length_9d52b_0 : decode cJ2_length_9d52b 0 = .ok (.aload_n 0, 1) := by decide +kernel
theorem dJ2_length_9d52b_1 : decode cJ2_length_9d52b 1 = .ok (.arraylength, 1) := by decide +kernel
theorem dJ2_length_9d52b_2 : decode cJ2_length_9d52b 2 = .ok (.iconst 1, 1) := by decide +kernel
theorem dJ2_length_9d52b_3 : decode cJ2_length_9d52b 3 = .ok (.ishr, 1) := by decide +kernel
theorem dJ2_length_9d52b_4 : decode cJ2_length_9d52b 4 = .ok (.ireturn, 1) := by decide +kernel
theorem dJ2_charAt_3b067_0 : decode cJ2_charAt_3b067 0 = .ok (.iload_n 1, 1) := by decide +kernel
theorem dJ2_charAt_3b067_1 : decode cJ2_charAt_3b067 1 = .ok (.aload_n 0, 1) := by decide +kernel
theorem dJ2_charAt_3b067_2 : decode cJ2_charAt_3b067 2 = .ok (.invokestatic 67, 3) := by decide +kernel
theorem dJ2_charAt_3b067_5 : decode cJ2_charAt_3b067 5 = .ok (.aload_n 0, 1) := by decide +kernel
theorem dJ2_charAt_3b067_6 : decode cJ2_charAt_3b067 6 = .ok (.iload_n 1, 1) := by decide +kernel
theorem dJ2_charAt_3b067_7 : decode cJ2_charAt_3b067 7 = .ok (.invokestatic 71, 3) := by decide +kernel
theorem dJ2_charAt_3b067_10 : decode cJ2_charAt_3b067 10 = .ok (.ireturn, 1) := by decide +kernel
theorem dJ2_checkIndex_2214a_0 : decode cJ2_checkIndex_2214a 0 = .ok (.iload_n 0, 1) := by decide +kernel
theorem dJ2_checkIndex_2214a_1 : decode cJ2_checkIndex_2214a 1 = .ok (.aload_n 1, 1) := by decide +kernel
theorem dJ2_checkIndex_2214a_2 : decode cJ2_checkIndex_2214a 2 = .ok (.invokestatic 48, 3) := by decide +kernel
theorem dJ2_checkIndex_2214a_5 : decode cJ2_checkIndex_2214a 5 = .ok (.invokestatic 414, 3) := by decide +kernel
theorem dJ2_checkIndex_2214a_8 : decode cJ2_checkIndex_2214a 8 = .ok (.return_, 1) := by decide +kernel
theorem dJ7_fill_53178_0 : decode cJ7_fill_53178 0 = .ok (.iconst 0, 1) := by decide +kernel
theorem dJ7_fill_53178_1 : decode cJ7_fill_53178 1 = .ok (.istore_n 2, 1) := by decide +kernel
theorem dJ7_fill_53178_2 : decode cJ7_fill_53178 2 = .ok (.aload_n 0, 1) := by decide +kernel
theorem dJ7_fill_53178_3 : decode cJ7_fill_53178 3 = .ok (.arraylength, 1) := by decide +kernel
theorem dJ7_fill_53178_4 : decode cJ7_fill_53178 4 = .ok (.istore_n 3, 1) := by decide +kernel
theorem dJ7_fill_53178_5 : decode cJ7_fill_53178 5 = .ok (.iload_n 2, 1) := by decide +kernel
theorem dJ7_fill_53178_6 : decode cJ7_fill_53178 6 = .ok (.iload_n 3, 1) := by decide +kernel
theorem dJ7_fill_53178_7 : decode cJ7_fill_53178 7 = .ok (.if_icmp .ge 13, 3) := by decide +kernel
theorem dJ7_fill_53178_10 : decode cJ7_fill_53178 10 = .ok (.aload_n 0, 1) := by decide +kernel
theorem dJ7_fill_53178_11 : decode cJ7_fill_53178 11 = .ok (.iload_n 2, 1) := by decide +kernel
theorem dJ7_fill_53178_12 : decode cJ7_fill_53178 12 = .ok (.iload_n 1, 1) := by decide +kernel
theorem dJ7_fill_53178_13 : decode cJ7_fill_53178 13 = .ok (.iastore, 1) := by decide +kernel
theorem dJ7_fill_53178_14 : decode cJ7_fill_53178 14 = .ok (.iinc 2 1, 3) := by decide +kernel
theorem dJ7_fill_53178_17 : decode cJ7_fill_53178 17 = .ok (.goto (-12), 3) := by decide +kernel
theorem dJ7_fill_53178_20 : decode cJ7_fill_53178 20 = .ok (.return_, 1) := by decide +kernel
theorem dJ3_checkIndex_8e157_0 : decode cJ3_checkIndex_8e157 0 = .ok (.iload_n 0, 1) := by decide +kernel
theorem dJ3_checkIndex_8e157_1 : decode cJ3_checkIndex_8e157 1 = .ok (.ifCond .lt 8, 3) := by decide +kernel
theorem dJ3_checkIndex_8e157_4 : decode cJ3_checkIndex_8e157 4 = .ok (.iload_n 0, 1) := by decide +kernel
theorem dJ3_checkIndex_8e157_5 : decode cJ3_checkIndex_8e157 5 = .ok (.iload_n 1, 1) := by decide +kernel
theorem dJ3_checkIndex_8e157_6 : decode cJ3_checkIndex_8e157 6 = .ok (.if_icmp .lt 10, 3) := by decide +kernel
theorem dJ3_checkIndex_8e157_9 : decode cJ3_checkIndex_8e157 9 = .ok (.aload_n 2, 1) := by decide +kernel
theorem dJ3_checkIndex_8e157_10 : decode cJ3_checkIndex_8e157 10 = .ok (.iload_n 0, 1) := by decide +kernel
theorem dJ3_checkIndex_8e157_11 : decode cJ3_checkIndex_8e157 11 = .ok (.iload_n 1, 1) := by decide +kernel
theorem dJ3_checkIndex_8e157_12 : decode cJ3_checkIndex_8e157 12 = .ok (.invokestatic 95, 3) := by decide +kernel
theorem dJ3_checkIndex_8e157_15 : decode cJ3_checkIndex_8e157 15 = .ok (.athrow, 1) := by decide +kernel
theorem dJ3_checkIndex_8e157_16 : decode cJ3_checkIndex_8e157 16 = .ok (.iload_n 0, 1) := by decide +kernel
theorem dJ3_checkIndex_8e157_17 : decode cJ3_checkIndex_8e157 17 = .ok (.ireturn, 1) := by decide +kernel
