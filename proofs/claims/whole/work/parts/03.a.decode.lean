theorem dX0_init_0 : decode cX0_init 0 = .ok (.aload_n 0, 1) := by decide +kernel
theorem dX0_init_1 : decode cX0_init 1 = .ok (.invokespecial 3, 3) := by decide +kernel
theorem dX0_init_4 : decode cX0_init 4 = .ok (.aload_n 0, 1) := by decide +kernel
theorem dX0_init_5 : decode cX0_init 5 = .ok (.aload_n 1, 1) := by decide +kernel
theorem dX0_init_6 : decode cX0_init 6 = .ok (.putfield 9, 3) := by decide +kernel
theorem dX0_init_9 : decode cX0_init 9 = .ok (.aload_n 0, 1) := by decide +kernel
theorem dX0_init_10 : decode cX0_init 10 = .ok (.aload_n 2, 1) := by decide +kernel
theorem dX0_init_11 : decode cX0_init 11 = .ok (.putfield 15, 3) := by decide +kernel
theorem dX0_init_14 : decode cX0_init 14 = .ok (.aload_n 0, 1) := by decide +kernel
theorem dX0_init_15 : decode cX0_init 15 = .ok (.bipush 36, 2) := by decide +kernel
theorem dX0_init_17 : decode cX0_init 17 = .ok (.sipush 1287, 3) := by decide +kernel
theorem dX0_init_20 : decode cX0_init 20 = .ok (.multianewarray 19 2, 4) := by decide +kernel
theorem dX0_init_24 : decode cX0_init 24 = .ok (.putfield 21, 3) := by decide +kernel
theorem dX0_init_27 : decode cX0_init 27 = .ok (.aload_n 0, 1) := by decide +kernel
theorem dX0_init_28 : decode cX0_init 28 = .ok (.bipush 36, 2) := by decide +kernel
theorem dX0_init_30 : decode cX0_init 30 = .ok (.newarray .boolean, 2) := by decide +kernel
theorem dX0_init_32 : decode cX0_init 32 = .ok (.putfield 24, 3) := by decide +kernel
theorem dX0_init_35 : decode cX0_init 35 = .ok (.aload_n 0, 1) := by decide +kernel
theorem dX0_init_36 : decode cX0_init 36 = .ok (.sipush 7722, 3) := by decide +kernel
theorem dX0_init_39 : decode cX0_init 39 = .ok (.newarray .long, 2) := by decide +kernel
theorem dX0_init_41 : decode cX0_init 41 = .ok (.putfield 28, 3) := by decide +kernel
theorem dX0_init_44 : decode cX0_init 44 = .ok (.aload_n 0, 1) := by decide +kernel
theorem dX0_init_45 : decode cX0_init 45 = .ok (.sipush 1287, 3) := by decide +kernel
theorem dX0_init_48 : decode cX0_init 48 = .ok (.newarray .int, 2) := by decide +kernel
theorem dX0_init_50 : decode cX0_init 50 = .ok (.putfield 32, 3) := by decide +kernel
theorem dX0_init_53 : decode cX0_init 53 = .ok (.aload_n 0, 1) := by decide +kernel
theorem dX0_init_54 : decode cX0_init 54 = .ok (.iconst 5, 1) := by decide +kernel
theorem dX0_init_55 : decode cX0_init 55 = .ok (.newarray .int, 2) := by decide +kernel
theorem dX0_init_57 : decode cX0_init 57 = .ok (.putfield 36, 3) := by decide +kernel
theorem dX0_init_60 : decode cX0_init 60 = .ok (.aload_n 0, 1) := by decide +kernel
theorem dX0_init_61 : decode cX0_init 61 = .ok (.iconst 5, 1) := by decide +kernel
theorem dX0_init_62 : decode cX0_init 62 = .ok (.newarray .int, 2) := by decide +kernel
theorem dX0_init_64 : decode cX0_init 64 = .ok (.putfield 39, 3) := by decide +kernel
theorem dX0_init_67 : decode cX0_init 67 = .ok (.aload_n 0, 1) := by decide +kernel
theorem dX0_init_68 : decode cX0_init 68 = .ok (.iconst 5, 1) := by decide +kernel
theorem dX0_init_69 : decode cX0_init 69 = .ok (.newarray .int, 2) := by decide +kernel
theorem dX0_init_71 : decode cX0_init 71 = .ok (.putfield 42, 3) := by decide +kernel
theorem dX0_init_74 : decode cX0_init 74 = .ok (.return_, 1) := by decide +kernel
theorem dX0_begin_0 : decode cX0_begin 0 = .ok (.aload_n 0, 1) := by decide +kernel
theorem dX0_begin_1 : decode cX0_begin 1 = .ok (.aload_n 1, 1) := by decide +kernel
theorem dX0_begin_2 : decode cX0_begin 2 = .ok (.putfield 9, 3) := by decide +kernel
theorem dX0_begin_5 : decode cX0_begin 5 = .ok (.iconst 0, 1) := by decide +kernel
theorem dX0_begin_6 : decode cX0_begin 6 = .ok (.istore_n 2, 1) := by decide +kernel
theorem dX0_begin_7 : decode cX0_begin 7 = .ok (.iload_n 2, 1) := by decide +kernel
theorem dX0_begin_8 : decode cX0_begin 8 = .ok (.bipush 36, 2) := by decide +kernel
theorem dX0_begin_10 : decode cX0_begin 10 = .ok (.if_icmp .ge 16, 3) := by decide +kernel
theorem dX0_begin_13 : decode cX0_begin 13 = .ok (.aload_n 0, 1) := by decide +kernel
theorem dX0_begin_14 : decode cX0_begin 14 = .ok (.getfield 24, 3) := by decide +kernel
theorem dX0_begin_17 : decode cX0_begin 17 = .ok (.iload_n 2, 1) := by decide +kernel
theorem dX0_begin_18 : decode cX0_begin 18 = .ok (.iconst 0, 1) := by decide +kernel
theorem dX0_begin_19 : decode cX0_begin 19 = .ok (.bastore, 1) := by decide +kernel
theorem dX0_begin_20 : decode cX0_begin 20 = .ok (.iinc 2 1, 3) := by decide +kernel
theorem dX0_begin_23 : decode cX0_begin 23 = .ok (.goto (-16), 3) := by decide +kernel
theorem dX0_begin_26 : decode cX0_begin 26 = .ok (.iconst 0, 1) := by decide +kernel
theorem dX0_begin_27 : decode cX0_begin 27 = .ok (.istore_n 2, 1) := by decide +kernel
theorem dX0_begin_28 : decode cX0_begin 28 = .ok (.iload_n 2, 1) := by decide +kernel
theorem dX0_begin_29 : decode cX0_begin 29 = .ok (.iconst 5, 1) := by decide +kernel
theorem dX0_begin_30 : decode cX0_begin 30 = .ok (.if_icmp .ge 16, 3) := by decide +kernel
theorem dX0_begin_33 : decode cX0_begin 33 = .ok (.aload_n 0, 1) := by decide +kernel
theorem dX0_begin_34 : decode cX0_begin 34 = .ok (.getfield 36, 3) := by decide +kernel
theorem dX0_begin_37 : decode cX0_begin 37 = .ok (.iload_n 2, 1) := by decide +kernel
theorem dX0_begin_38 : decode cX0_begin 38 = .ok (.iconst 0, 1) := by decide +kernel
theorem dX0_begin_39 : decode cX0_begin 39 = .ok (.iastore, 1) := by decide +kernel
theorem dX0_begin_40 : decode cX0_begin 40 = .ok (.iinc 2 1, 3) := by decide +kernel
theorem dX0_begin_43 : decode cX0_begin 43 = .ok (.goto (-15), 3) := by decide +kernel
theorem dX0_begin_46 : decode cX0_begin 46 = .ok (.aload_n 0, 1) := by decide +kernel
theorem dX0_begin_47 : decode cX0_begin 47 = .ok (.aload_n 0, 1) := by decide +kernel
theorem dX0_begin_48 : decode cX0_begin 48 = .ok (.getfield 9, 3) := by decide +kernel
theorem dX0_begin_51 : decode cX0_begin 51 = .ok (.getfield 45, 3) := by decide +kernel
theorem dX0_begin_54 : decode cX0_begin 54 = .ok (.invokevirtual 51, 3) := by decide +kernel
theorem dX0_begin_57 : decode cX0_begin 57 = .ok (.istore_n 2, 1) := by decide +kernel
theorem dX0_begin_58 : decode cX0_begin 58 = .ok (.iconst 1, 1) := by decide +kernel
theorem dX0_begin_59 : decode cX0_begin 59 = .ok (.istore_n 3, 1) := by decide +kernel
theorem dX0_begin_60 : decode cX0_begin 60 = .ok (.iconst 0, 1) := by decide +kernel
theorem dX0_begin_61 : decode cX0_begin 61 = .ok (.istore 4, 2) := by decide +kernel
theorem dX0_begin_63 : decode cX0_begin 63 = .ok (.iload 4, 2) := by decide +kernel
theorem dX0_begin_65 : decode cX0_begin 65 = .ok (.sipush 1287, 3) := by decide +kernel
theorem dX0_begin_68 : decode cX0_begin 68 = .ok (.if_icmp .ge 48, 3) := by decide +kernel
theorem dX0_begin_71 : decode cX0_begin 71 = .ok (.iload_n 3, 1) := by decide +kernel
theorem dX0_begin_72 : decode cX0_begin 72 = .ok (.ifCond .eq 44, 3) := by decide +kernel
theorem dX0_begin_75 : decode cX0_begin 75 = .ok (.aload_n 0, 1) := by decide +kernel
theorem dX0_begin_76 : decode cX0_begin 76 = .ok (.aload_n 0, 1) := by decide +kernel
theorem dX0_begin_77 : decode cX0_begin 77 = .ok (.getfield 36, 3) := by decide +kernel
theorem dX0_begin_80 : decode cX0_begin 80 = .ok (.invokevirtual 54, 3) := by decide +kernel
theorem dX0_begin_83 : decode cX0_begin 83 = .ok (.istore 5, 2) := by decide +kernel
theorem dX0_begin_85 : decode cX0_begin 85 = .ok (.iload 5, 2) := by decide +kernel
theorem dX0_begin_87 : decode cX0_begin 87 = .ok (.ifCond .lt 17, 3) := by decide +kernel
theorem dX0_begin_90 : decode cX0_begin 90 = .ok (.aload_n 0, 1) := by decide +kernel
theorem dX0_begin_91 : decode cX0_begin 91 = .ok (.getfield 32, 3) := by decide +kernel
theorem dX0_begin_94 : decode cX0_begin 94 = .ok (.iload 5, 2) := by decide +kernel
theorem dX0_begin_96 : decode cX0_begin 96 = .ok (.aload_n 0, 1) := by decide +kernel
theorem dX0_begin_97 : decode cX0_begin 97 = .ok (.getfield 36, 3) := by decide +kernel
theorem dX0_begin_100 : decode cX0_begin 100 = .ok (.invokestatic 58, 3) := by decide +kernel
theorem dX0_begin_103 : decode cX0_begin 103 = .ok (.iastore, 1) := by decide +kernel
theorem dX0_begin_104 : decode cX0_begin 104 = .ok (.aload_n 0, 1) := by decide +kernel
theorem dX0_begin_105 : decode cX0_begin 105 = .ok (.iload_n 2, 1) := by decide +kernel
theorem dX0_begin_106 : decode cX0_begin 106 = .ok (.invokevirtual 61, 3) := by decide +kernel
theorem dX0_begin_109 : decode cX0_begin 109 = .ok (.istore_n 3, 1) := by decide +kernel
theorem dX0_begin_110 : decode cX0_begin 110 = .ok (.iinc 4 1, 3) := by decide +kernel
theorem dX0_begin_113 : decode cX0_begin 113 = .ok (.goto (-50), 3) := by decide +kernel
theorem dX0_begin_116 : decode cX0_begin 116 = .ok (.return_, 1) := by decide +kernel
theorem dX0_countOn_0 : decode cX0_countOn 0 = .ok (.iconst 0, 1) := by decide +kernel
theorem dX0_countOn_1 : decode cX0_countOn 1 = .ok (.istore_n 2, 1) := by decide +kernel
theorem dX0_countOn_2 : decode cX0_countOn 2 = .ok (.iconst 0, 1) := by decide +kernel
theorem dX0_countOn_3 : decode cX0_countOn 3 = .ok (.istore_n 3, 1) := by decide +kernel
theorem dX0_countOn_4 : decode cX0_countOn 4 = .ok (.iload_n 3, 1) := by decide +kernel
theorem dX0_countOn_5 : decode cX0_countOn 5 = .ok (.aload_n 0, 1) := by decide +kernel
theorem dX0_countOn_6 : decode cX0_countOn 6 = .ok (.getfield 9, 3) := by decide +kernel
theorem dX0_countOn_9 : decode cX0_countOn 9 = .ok (.getfield 65, 3) := by decide +kernel
theorem dX0_countOn_12 : decode cX0_countOn 12 = .ok (.if_icmp .ge 18, 3) := by decide +kernel
theorem dX0_countOn_15 : decode cX0_countOn 15 = .ok (.iload_n 2, 1) := by decide +kernel
theorem dX0_countOn_16 : decode cX0_countOn 16 = .ok (.aload_n 0, 1) := by decide +kernel
theorem dX0_countOn_17 : decode cX0_countOn 17 = .ok (.getfield 36, 3) := by decide +kernel
theorem dX0_countOn_20 : decode cX0_countOn 20 = .ok (.iload_n 3, 1) := by decide +kernel
theorem dX0_countOn_21 : decode cX0_countOn 21 = .ok (.iaload, 1) := by decide +kernel
theorem dX0_countOn_22 : decode cX0_countOn 22 = .ok (.iadd, 1) := by decide +kernel
theorem dX0_countOn_23 : decode cX0_countOn 23 = .ok (.istore_n 2, 1) := by decide +kernel
theorem dX0_countOn_24 : decode cX0_countOn 24 = .ok (.iinc 3 1, 3) := by decide +kernel
theorem dX0_countOn_27 : decode cX0_countOn 27 = .ok (.goto (-23), 3) := by decide +kernel
theorem dX0_countOn_30 : decode cX0_countOn 30 = .ok (.iconst 0, 1) := by decide +kernel
theorem dX0_countOn_31 : decode cX0_countOn 31 = .ok (.istore_n 3, 1) := by decide +kernel
theorem dX0_countOn_32 : decode cX0_countOn 32 = .ok (.iload_n 3, 1) := by decide +kernel
theorem dX0_countOn_33 : decode cX0_countOn 33 = .ok (.aload_n 0, 1) := by decide +kernel
theorem dX0_countOn_34 : decode cX0_countOn 34 = .ok (.getfield 9, 3) := by decide +kernel
theorem dX0_countOn_37 : decode cX0_countOn 37 = .ok (.getfield 65, 3) := by decide +kernel
theorem dX0_countOn_40 : decode cX0_countOn 40 = .ok (.if_icmp .ge 42, 3) := by decide +kernel
theorem dX0_countOn_43 : decode cX0_countOn 43 = .ok (.iload_n 2, 1) := by decide +kernel
theorem dX0_countOn_44 : decode cX0_countOn 44 = .ok (.iload_n 1, 1) := by decide +kernel
theorem dX0_countOn_45 : decode cX0_countOn 45 = .ok (.if_icmp .ge 15, 3) := by decide +kernel
theorem dX0_countOn_48 : decode cX0_countOn 48 = .ok (.aload_n 0, 1) := by decide +kernel
theorem dX0_countOn_49 : decode cX0_countOn 49 = .ok (.getfield 36, 3) := by decide +kernel
theorem dX0_countOn_52 : decode cX0_countOn 52 = .ok (.iload_n 3, 1) := by decide +kernel
theorem dX0_countOn_53 : decode cX0_countOn 53 = .ok (.dup2, 1) := by decide +kernel
theorem dX0_countOn_54 : decode cX0_countOn 54 = .ok (.iaload, 1) := by decide +kernel
theorem dX0_countOn_55 : decode cX0_countOn 55 = .ok (.iconst 1, 1) := by decide +kernel
theorem dX0_countOn_56 : decode cX0_countOn 56 = .ok (.iadd, 1) := by decide +kernel
theorem dX0_countOn_57 : decode cX0_countOn 57 = .ok (.iastore, 1) := by decide +kernel
theorem dX0_countOn_58 : decode cX0_countOn 58 = .ok (.iconst 1, 1) := by decide +kernel
theorem dX0_countOn_59 : decode cX0_countOn 59 = .ok (.ireturn, 1) := by decide +kernel
theorem dX0_countOn_60 : decode cX0_countOn 60 = .ok (.iload_n 2, 1) := by decide +kernel
theorem dX0_countOn_61 : decode cX0_countOn 61 = .ok (.aload_n 0, 1) := by decide +kernel
theorem dX0_countOn_62 : decode cX0_countOn 62 = .ok (.getfield 36, 3) := by decide +kernel
theorem dX0_countOn_65 : decode cX0_countOn 65 = .ok (.iload_n 3, 1) := by decide +kernel
theorem dX0_countOn_66 : decode cX0_countOn 66 = .ok (.iaload, 1) := by decide +kernel
theorem dX0_countOn_67 : decode cX0_countOn 67 = .ok (.isub, 1) := by decide +kernel
theorem dX0_countOn_68 : decode cX0_countOn 68 = .ok (.istore_n 2, 1) := by decide +kernel
theorem dX0_countOn_69 : decode cX0_countOn 69 = .ok (.aload_n 0, 1) := by decide +kernel
theorem dX0_countOn_70 : decode cX0_countOn 70 = .ok (.getfield 36, 3) := by decide +kernel
theorem dX0_countOn_73 : decode cX0_countOn 73 = .ok (.iload_n 3, 1) := by decide +kernel
theorem dX0_countOn_74 : decode cX0_countOn 74 = .ok (.iconst 0, 1) := by decide +kernel
theorem dX0_countOn_75 : decode cX0_countOn 75 = .ok (.iastore, 1) := by decide +kernel
theorem dX0_countOn_76 : decode cX0_countOn 76 = .ok (.iinc 3 1, 3) := by decide +kernel
theorem dX0_countOn_79 : decode cX0_countOn 79 = .ok (.goto (-47), 3) := by decide +kernel
theorem dX0_countOn_82 : decode cX0_countOn 82 = .ok (.iconst 0, 1) := by decide +kernel
theorem dX0_countOn_83 : decode cX0_countOn 83 = .ok (.ireturn, 1) := by decide +kernel
theorem dX0_letters_0 : decode cX0_letters 0 = .ok (.iconst 0, 1) := by decide +kernel
theorem dX0_letters_1 : decode cX0_letters 1 = .ok (.iload_n 1, 1) := by decide +kernel
theorem dX0_letters_2 : decode cX0_letters 2 = .ok (.aload_n 0, 1) := by decide +kernel
theorem dX0_letters_3 : decode cX0_letters 3 = .ok (.getfield 9, 3) := by decide +kernel
theorem dX0_letters_6 : decode cX0_letters 6 = .ok (.getfield 68, 3) := by decide +kernel
theorem dX0_letters_9 : decode cX0_letters 9 = .ok (.invokestatic 71, 3) := by decide +kernel
theorem dX0_letters_12 : decode cX0_letters 12 = .ok (.bipush 8, 2) := by decide +kernel
theorem dX0_letters_14 : decode cX0_letters 14 = .ok (.invokestatic 71, 3) := by decide +kernel
theorem dX0_letters_17 : decode cX0_letters 17 = .ok (.invokestatic 77, 3) := by decide +kernel
theorem dX0_letters_20 : decode cX0_letters 20 = .ok (.ireturn, 1) := by decide +kernel
theorem dX0_first_0 : decode cX0_first 0 = .ok (.aload_n 0, 1) := by decide +kernel
theorem dX0_first_1 : decode cX0_first 1 = .ok (.getfield 9, 3) := by decide +kernel
theorem dX0_first_4 : decode cX0_first 4 = .ok (.getfield 65, 3) := by decide +kernel
theorem dX0_first_7 : decode cX0_first 7 = .ok (.ifCond .le 24, 3) := by decide +kernel
theorem dX0_first_10 : decode cX0_first 10 = .ok (.getstatic 80, 3) := by decide +kernel
theorem dX0_first_13 : decode cX0_first 13 = .ok (.aload_n 0, 1) := by decide +kernel
theorem dX0_first_14 : decode cX0_first 14 = .ok (.getfield 9, 3) := by decide +kernel
theorem dX0_first_17 : decode cX0_first 17 = .ok (.getfield 65, 3) := by decide +kernel
theorem dX0_first_20 : decode cX0_first 20 = .ok (.iconst 1, 1) := by decide +kernel
theorem dX0_first_21 : decode cX0_first 21 = .ok (.isub, 1) := by decide +kernel
theorem dX0_first_22 : decode cX0_first 22 = .ok (.bipush 10, 2) := by decide +kernel
theorem dX0_first_24 : decode cX0_first 24 = .ok (.imul, 1) := by decide +kernel
theorem dX0_first_25 : decode cX0_first 25 = .ok (.iload_n 1, 1) := by decide +kernel
theorem dX0_first_26 : decode cX0_first 26 = .ok (.iadd, 1) := by decide +kernel
theorem dX0_first_27 : decode cX0_first 27 = .ok (.iaload, 1) := by decide +kernel
theorem dX0_first_28 : decode cX0_first 28 = .ok (.goto 4, 3) := by decide +kernel
theorem dX0_first_31 : decode cX0_first 31 = .ok (.iconst 0, 1) := by decide +kernel
theorem dX0_first_32 : decode cX0_first 32 = .ok (.ireturn, 1) := by decide +kernel
theorem dX0_rank_0 : decode cX0_rank 0 = .ok (.iconst 0, 1) := by decide +kernel
theorem dX0_rank_1 : decode cX0_rank 1 = .ok (.istore_n 2, 1) := by decide +kernel
theorem dX0_rank_2 : decode cX0_rank 2 = .ok (.iconst 0, 1) := by decide +kernel
theorem dX0_rank_3 : decode cX0_rank 3 = .ok (.istore_n 3, 1) := by decide +kernel
theorem dX0_rank_4 : decode cX0_rank 4 = .ok (.iconst 0, 1) := by decide +kernel
theorem dX0_rank_5 : decode cX0_rank 5 = .ok (.istore 4, 2) := by decide +kernel
theorem dX0_rank_7 : decode cX0_rank 7 = .ok (.iload 4, 2) := by decide +kernel
theorem dX0_rank_9 : decode cX0_rank 9 = .ok (.aload_n 0, 1) := by decide +kernel
theorem dX0_rank_10 : decode cX0_rank 10 = .ok (.getfield 9, 3) := by decide +kernel
theorem dX0_rank_13 : decode cX0_rank 13 = .ok (.getfield 65, 3) := by decide +kernel
theorem dX0_rank_16 : decode cX0_rank 16 = .ok (.if_icmp .ge 38, 3) := by decide +kernel
theorem dX0_rank_19 : decode cX0_rank 19 = .ok (.iload_n 2, 1) := by decide +kernel
theorem dX0_rank_20 : decode cX0_rank 20 = .ok (.aload_n 1, 1) := by decide +kernel
theorem dX0_rank_21 : decode cX0_rank 21 = .ok (.iload 4, 2) := by decide +kernel
theorem dX0_rank_23 : decode cX0_rank 23 = .ok (.iaload, 1) := by decide +kernel
theorem dX0_rank_24 : decode cX0_rank 24 = .ok (.iadd, 1) := by decide +kernel
theorem dX0_rank_25 : decode cX0_rank 25 = .ok (.istore_n 2, 1) := by decide +kernel
theorem dX0_rank_26 : decode cX0_rank 26 = .ok (.iload_n 2, 1) := by decide +kernel
theorem dX0_rank_27 : decode cX0_rank 27 = .ok (.bipush 8, 2) := by decide +kernel
theorem dX0_rank_29 : decode cX0_rank 29 = .ok (.if_icmp .le 5, 3) := by decide +kernel
theorem dX0_rank_32 : decode cX0_rank 32 = .ok (.iconst (-1), 1) := by decide +kernel
theorem dX0_rank_33 : decode cX0_rank 33 = .ok (.ireturn, 1) := by decide +kernel
theorem dX0_rank_34 : decode cX0_rank 34 = .ok (.iload_n 3, 1) := by decide +kernel
theorem dX0_rank_35 : decode cX0_rank 35 = .ok (.getstatic 80, 3) := by decide +kernel
theorem dX0_rank_38 : decode cX0_rank 38 = .ok (.iload 4, 2) := by decide +kernel
theorem dX0_rank_40 : decode cX0_rank 40 = .ok (.bipush 10, 2) := by decide +kernel
theorem dX0_rank_42 : decode cX0_rank 42 = .ok (.imul, 1) := by decide +kernel
theorem dX0_rank_43 : decode cX0_rank 43 = .ok (.iload_n 2, 1) := by decide +kernel
theorem dX0_rank_44 : decode cX0_rank 44 = .ok (.iadd, 1) := by decide +kernel
theorem dX0_rank_45 : decode cX0_rank 45 = .ok (.iaload, 1) := by decide +kernel
theorem dX0_rank_46 : decode cX0_rank 46 = .ok (.iadd, 1) := by decide +kernel
theorem dX0_rank_47 : decode cX0_rank 47 = .ok (.istore_n 3, 1) := by decide +kernel
theorem dX0_rank_48 : decode cX0_rank 48 = .ok (.iinc 4 1, 3) := by decide +kernel
theorem dX0_rank_51 : decode cX0_rank 51 = .ok (.goto (-44), 3) := by decide +kernel
theorem dX0_rank_54 : decode cX0_rank 54 = .ok (.iload_n 3, 1) := by decide +kernel
theorem dX0_rank_55 : decode cX0_rank 55 = .ok (.ireturn, 1) := by decide +kernel
theorem dX0_rowOf_0 : decode cX0_rowOf 0 = .ok (.aload_n 0, 1) := by decide +kernel
theorem dX0_rowOf_1 : decode cX0_rowOf 1 = .ok (.getfield 21, 3) := by decide +kernel
theorem dX0_rowOf_4 : decode cX0_rowOf 4 = .ok (.iload_n 1, 1) := by decide +kernel
theorem dX0_rowOf_5 : decode cX0_rowOf 5 = .ok (.aaload, 1) := by decide +kernel
theorem dX0_rowOf_6 : decode cX0_rowOf 6 = .ok (.astore 4, 2) := by decide +kernel
theorem dX0_rowOf_8 : decode cX0_rowOf 8 = .ok (.aload_n 0, 1) := by decide +kernel
theorem dX0_rowOf_9 : decode cX0_rowOf 9 = .ok (.getfield 24, 3) := by decide +kernel
theorem dX0_rowOf_12 : decode cX0_rowOf 12 = .ok (.iload_n 1, 1) := by decide +kernel
theorem dX0_rowOf_13 : decode cX0_rowOf 13 = .ok (.baload, 1) := by decide +kernel
theorem dX0_rowOf_14 : decode cX0_rowOf 14 = .ok (.ifCond .eq 6, 3) := by decide +kernel
theorem dX0_rowOf_17 : decode cX0_rowOf 17 = .ok (.aload 4, 2) := by decide +kernel
theorem dX0_rowOf_19 : decode cX0_rowOf 19 = .ok (.areturn, 1) := by decide +kernel
theorem dX0_rowOf_20 : decode cX0_rowOf 20 = .ok (.aload_n 0, 1) := by decide +kernel
theorem dX0_rowOf_21 : decode cX0_rowOf 21 = .ok (.getfield 24, 3) := by decide +kernel
theorem dX0_rowOf_24 : decode cX0_rowOf 24 = .ok (.iload_n 1, 1) := by decide +kernel
theorem dX0_rowOf_25 : decode cX0_rowOf 25 = .ok (.iconst 1, 1) := by decide +kernel
theorem dX0_rowOf_26 : decode cX0_rowOf 26 = .ok (.bastore, 1) := by decide +kernel
theorem dX0_rowOf_27 : decode cX0_rowOf 27 = .ok (.aload_n 0, 1) := by decide +kernel
theorem dX0_rowOf_28 : decode cX0_rowOf 28 = .ok (.aload_n 0, 1) := by decide +kernel
theorem dX0_rowOf_29 : decode cX0_rowOf 29 = .ok (.getfield 9, 3) := by decide +kernel
theorem dX0_rowOf_32 : decode cX0_rowOf 32 = .ok (.getfield 45, 3) := by decide +kernel
theorem dX0_rowOf_35 : decode cX0_rowOf 35 = .ok (.invokevirtual 51, 3) := by decide +kernel
theorem dX0_rowOf_38 : decode cX0_rowOf 38 = .ok (.istore 5, 2) := by decide +kernel
theorem dX0_rowOf_40 : decode cX0_rowOf 40 = .ok (.iload 5, 2) := by decide +kernel
theorem dX0_rowOf_42 : decode cX0_rowOf 42 = .ok (.ifCond .le 26, 3) := by decide +kernel
theorem dX0_rowOf_45 : decode cX0_rowOf 45 = .ok (.iload_n 3, 1) := by decide +kernel
theorem dX0_rowOf_46 : decode cX0_rowOf 46 = .ok (.ifCond .ne 22, 3) := by decide +kernel
theorem dX0_rowOf_49 : decode cX0_rowOf 49 = .ok (.aload_n 0, 1) := by decide +kernel
theorem dX0_rowOf_50 : decode cX0_rowOf 50 = .ok (.getfield 9, 3) := by decide +kernel
theorem dX0_rowOf_53 : decode cX0_rowOf 53 = .ok (.aload_n 2, 1) := by decide +kernel
theorem dX0_rowOf_54 : decode cX0_rowOf 54 = .ok (.iload 5, 2) := by decide +kernel
theorem dX0_rowOf_56 : decode cX0_rowOf 56 = .ok (.invokevirtual 83, 3) := by decide +kernel
theorem dX0_rowOf_59 : decode cX0_rowOf 59 = .ok (.ifCond .eq 9, 3) := by decide +kernel
theorem dX0_rowOf_62 : decode cX0_rowOf 62 = .ok (.iinc 5 (-1), 3) := by decide +kernel
theorem dX0_rowOf_65 : decode cX0_rowOf 65 = .ok (.goto (-25), 3) := by decide +kernel
theorem dX0_rowOf_68 : decode cX0_rowOf 68 = .ok (.aload_n 0, 1) := by decide +kernel
theorem dX0_rowOf_69 : decode cX0_rowOf 69 = .ok (.getfield 15, 3) := by decide +kernel
theorem dX0_rowOf_72 : decode cX0_rowOf 72 = .ok (.aload_n 0, 1) := by decide +kernel
theorem dX0_rowOf_73 : decode cX0_rowOf 73 = .ok (.getfield 9, 3) := by decide +kernel
theorem dX0_rowOf_76 : decode cX0_rowOf 76 = .ok (.aload_n 2, 1) := by decide +kernel
theorem dX0_rowOf_77 : decode cX0_rowOf 77 = .ok (.invokevirtual 87, 3) := by decide +kernel
theorem dX0_rowOf_80 : decode cX0_rowOf 80 = .ok (.aload_n 0, 1) := by decide +kernel
theorem dX0_rowOf_81 : decode cX0_rowOf 81 = .ok (.iload 5, 2) := by decide +kernel
theorem dX0_rowOf_83 : decode cX0_rowOf 83 = .ok (.iconst 1, 1) := by decide +kernel
theorem dX0_rowOf_84 : decode cX0_rowOf 84 = .ok (.iadd, 1) := by decide +kernel
theorem dX0_rowOf_85 : decode cX0_rowOf 85 = .ok (.invokevirtual 93, 3) := by decide +kernel
theorem dX0_rowOf_88 : decode cX0_rowOf 88 = .ok (.istore 6, 2) := by decide +kernel
theorem dX0_rowOf_90 : decode cX0_rowOf 90 = .ok (.iconst 0, 1) := by decide +kernel
theorem dX0_rowOf_91 : decode cX0_rowOf 91 = .ok (.istore 7, 2) := by decide +kernel
theorem dX0_rowOf_93 : decode cX0_rowOf 93 = .ok (.iload 7, 2) := by decide +kernel
theorem dX0_rowOf_95 : decode cX0_rowOf 95 = .ok (.iload 6, 2) := by decide +kernel
theorem dX0_rowOf_97 : decode cX0_rowOf 97 = .ok (.bipush 6, 2) := by decide +kernel
theorem dX0_rowOf_99 : decode cX0_rowOf 99 = .ok (.imul, 1) := by decide +kernel
theorem dX0_rowOf_100 : decode cX0_rowOf 100 = .ok (.if_icmp .ge 17, 3) := by decide +kernel
theorem dX0_rowOf_103 : decode cX0_rowOf 103 = .ok (.aload_n 0, 1) := by decide +kernel
theorem dX0_rowOf_104 : decode cX0_rowOf 104 = .ok (.getfield 28, 3) := by decide +kernel
theorem dX0_rowOf_107 : decode cX0_rowOf 107 = .ok (.iload 7, 2) := by decide +kernel
theorem dX0_rowOf_109 : decode cX0_rowOf 109 = .ok (.lconst 0, 1) := by decide +kernel
theorem dX0_rowOf_110 : decode cX0_rowOf 110 = .ok (.lastore, 1) := by decide +kernel
theorem dX0_rowOf_111 : decode cX0_rowOf 111 = .ok (.iinc 7 1, 3) := by decide +kernel
theorem dX0_rowOf_114 : decode cX0_rowOf 114 = .ok (.goto (-21), 3) := by decide +kernel
theorem dX0_rowOf_117 : decode cX0_rowOf 117 = .ok (.aload_n 0, 1) := by decide +kernel
theorem dX0_rowOf_118 : decode cX0_rowOf 118 = .ok (.getfield 28, 3) := by decide +kernel
theorem dX0_rowOf_121 : decode cX0_rowOf 121 = .ok (.iconst 0, 1) := by decide +kernel
theorem dX0_rowOf_122 : decode cX0_rowOf 122 = .ok (.lconst 1, 1) := by decide +kernel
theorem dX0_rowOf_123 : decode cX0_rowOf 123 = .ok (.lastore, 1) := by decide +kernel
theorem dX0_rowOf_124 : decode cX0_rowOf 124 = .ok (.iconst 1, 1) := by decide +kernel
theorem dX0_rowOf_125 : decode cX0_rowOf 125 = .ok (.istore 7, 2) := by decide +kernel
theorem dX0_rowOf_127 : decode cX0_rowOf 127 = .ok (.iload 7, 2) := by decide +kernel
theorem dX0_rowOf_129 : decode cX0_rowOf 129 = .ok (.iload 5, 2) := by decide +kernel
theorem dX0_rowOf_131 : decode cX0_rowOf 131 = .ok (.if_icmp .gt 45, 3) := by decide +kernel
theorem dX0_rowOf_134 : decode cX0_rowOf 134 = .ok (.aload_n 0, 1) := by decide +kernel
theorem dX0_rowOf_135 : decode cX0_rowOf 135 = .ok (.iload 7, 2) := by decide +kernel
theorem dX0_rowOf_137 : decode cX0_rowOf 137 = .ok (.iconst 1, 1) := by decide +kernel
theorem dX0_rowOf_138 : decode cX0_rowOf 138 = .ok (.isub, 1) := by decide +kernel
theorem dX0_rowOf_139 : decode cX0_rowOf 139 = .ok (.invokevirtual 93, 3) := by decide +kernel
theorem dX0_rowOf_142 : decode cX0_rowOf 142 = .ok (.istore 8, 2) := by decide +kernel
theorem dX0_rowOf_144 : decode cX0_rowOf 144 = .ok (.iload 8, 2) := by decide +kernel
theorem dX0_rowOf_146 : decode cX0_rowOf 146 = .ok (.aload_n 0, 1) := by decide +kernel
theorem dX0_rowOf_147 : decode cX0_rowOf 147 = .ok (.iload 7, 2) := by decide +kernel
theorem dX0_rowOf_149 : decode cX0_rowOf 149 = .ok (.invokevirtual 93, 3) := by decide +kernel
theorem dX0_rowOf_152 : decode cX0_rowOf 152 = .ok (.if_icmp .ge 18, 3) := by decide +kernel
theorem dX0_rowOf_155 : decode cX0_rowOf 155 = .ok (.aload_n 0, 1) := by decide +kernel
theorem dX0_rowOf_156 : decode cX0_rowOf 156 = .ok (.iload 8, 2) := by decide +kernel
theorem dX0_rowOf_158 : decode cX0_rowOf 158 = .ok (.iload 7, 2) := by decide +kernel
theorem dX0_rowOf_160 : decode cX0_rowOf 160 = .ok (.iload_n 3, 1) := by decide +kernel
theorem dX0_rowOf_161 : decode cX0_rowOf 161 = .ok (.invokevirtual 96, 3) := by decide +kernel
theorem dX0_rowOf_164 : decode cX0_rowOf 164 = .ok (.iinc 8 1, 3) := by decide +kernel
theorem dX0_rowOf_167 : decode cX0_rowOf 167 = .ok (.goto (-23), 3) := by decide +kernel
theorem dX0_rowOf_170 : decode cX0_rowOf 170 = .ok (.iinc 7 1, 3) := by decide +kernel
theorem dX0_rowOf_173 : decode cX0_rowOf 173 = .ok (.goto (-46), 3) := by decide +kernel
theorem dX0_rowOf_176 : decode cX0_rowOf 176 = .ok (.iconst 0, 1) := by decide +kernel
theorem dX0_rowOf_177 : decode cX0_rowOf 177 = .ok (.istore 7, 2) := by decide +kernel
theorem dX0_rowOf_179 : decode cX0_rowOf 179 = .ok (.iload 7, 2) := by decide +kernel
theorem dX0_rowOf_181 : decode cX0_rowOf 181 = .ok (.sipush 1287, 3) := by decide +kernel
theorem dX0_rowOf_184 : decode cX0_rowOf 184 = .ok (.if_icmp .ge 31, 3) := by decide +kernel
theorem dX0_rowOf_187 : decode cX0_rowOf 187 = .ok (.aload 4, 2) := by decide +kernel
theorem dX0_rowOf_189 : decode cX0_rowOf 189 = .ok (.iload 7, 2) := by decide +kernel
theorem dX0_rowOf_191 : decode cX0_rowOf 191 = .ok (.iload 7, 2) := by decide +kernel
theorem dX0_rowOf_193 : decode cX0_rowOf 193 = .ok (.iload 6, 2) := by decide +kernel
theorem dX0_rowOf_195 : decode cX0_rowOf 195 = .ok (.if_icmp .ge 12, 3) := by decide +kernel
theorem dX0_rowOf_198 : decode cX0_rowOf 198 = .ok (.aload_n 0, 1) := by decide +kernel
theorem dX0_rowOf_199 : decode cX0_rowOf 199 = .ok (.iload 7, 2) := by decide +kernel
theorem dX0_rowOf_201 : decode cX0_rowOf 201 = .ok (.invokevirtual 100, 3) := by decide +kernel
theorem dX0_rowOf_204 : decode cX0_rowOf 204 = .ok (.goto 4, 3) := by decide +kernel
theorem dX0_rowOf_207 : decode cX0_rowOf 207 = .ok (.lconst 0, 1) := by decide +kernel
theorem dX0_rowOf_208 : decode cX0_rowOf 208 = .ok (.lastore, 1) := by decide +kernel
theorem dX0_rowOf_209 : decode cX0_rowOf 209 = .ok (.iinc 7 1, 3) := by decide +kernel
theorem dX0_rowOf_212 : decode cX0_rowOf 212 = .ok (.goto (-33), 3) := by decide +kernel
theorem dX0_rowOf_215 : decode cX0_rowOf 215 = .ok (.aload 4, 2) := by decide +kernel
theorem dX0_rowOf_217 : decode cX0_rowOf 217 = .ok (.areturn, 1) := by decide +kernel
theorem dX0_sumOfSlots_0 : decode cX0_sumOfSlots 0 = .ok (.lconst 0, 1) := by decide +kernel
theorem dX0_sumOfSlots_1 : decode cX0_sumOfSlots 1 = .ok (.lstore_n 2, 1) := by decide +kernel
theorem dX0_sumOfSlots_2 : decode cX0_sumOfSlots 2 = .ok (.iconst 0, 1) := by decide +kernel
theorem dX0_sumOfSlots_3 : decode cX0_sumOfSlots 3 = .ok (.istore 4, 2) := by decide +kernel
theorem dX0_sumOfSlots_5 : decode cX0_sumOfSlots 5 = .ok (.iload 4, 2) := by decide +kernel
theorem dX0_sumOfSlots_7 : decode cX0_sumOfSlots 7 = .ok (.bipush 6, 2) := by decide +kernel
theorem dX0_sumOfSlots_9 : decode cX0_sumOfSlots 9 = .ok (.if_icmp .ge 24, 3) := by decide +kernel
theorem dX0_sumOfSlots_12 : decode cX0_sumOfSlots 12 = .ok (.lload_n 2, 1) := by decide +kernel
theorem dX0_sumOfSlots_13 : decode cX0_sumOfSlots 13 = .ok (.aload_n 0, 1) := by decide +kernel
theorem dX0_sumOfSlots_14 : decode cX0_sumOfSlots 14 = .ok (.getfield 28, 3) := by decide +kernel
theorem dX0_sumOfSlots_17 : decode cX0_sumOfSlots 17 = .ok (.iload_n 1, 1) := by decide +kernel
theorem dX0_sumOfSlots_18 : decode cX0_sumOfSlots 18 = .ok (.bipush 6, 2) := by decide +kernel
theorem dX0_sumOfSlots_20 : decode cX0_sumOfSlots 20 = .ok (.imul, 1) := by decide +kernel
theorem dX0_sumOfSlots_21 : decode cX0_sumOfSlots 21 = .ok (.iload 4, 2) := by decide +kernel
theorem dX0_sumOfSlots_23 : decode cX0_sumOfSlots 23 = .ok (.iadd, 1) := by decide +kernel
theorem dX0_sumOfSlots_24 : decode cX0_sumOfSlots 24 = .ok (.laload, 1) := by decide +kernel
theorem dX0_sumOfSlots_25 : decode cX0_sumOfSlots 25 = .ok (.ladd, 1) := by decide +kernel
theorem dX0_sumOfSlots_26 : decode cX0_sumOfSlots 26 = .ok (.lstore_n 2, 1) := by decide +kernel
theorem dX0_sumOfSlots_27 : decode cX0_sumOfSlots 27 = .ok (.iinc 4 1, 3) := by decide +kernel
theorem dX0_sumOfSlots_30 : decode cX0_sumOfSlots 30 = .ok (.goto (-25), 3) := by decide +kernel
theorem dX0_sumOfSlots_33 : decode cX0_sumOfSlots 33 = .ok (.lload_n 2, 1) := by decide +kernel
theorem dX0_sumOfSlots_34 : decode cX0_sumOfSlots 34 = .ok (.lreturn, 1) := by decide +kernel
theorem dX0_goOn_0 : decode cX0_goOn 0 = .ok (.aload_n 0, 1) := by decide +kernel
theorem dX0_goOn_1 : decode cX0_goOn 1 = .ok (.iload_n 1, 1) := by decide +kernel
theorem dX0_goOn_2 : decode cX0_goOn 2 = .ok (.invokevirtual 100, 3) := by decide +kernel
theorem dX0_goOn_5 : decode cX0_goOn 5 = .ok (.lconst 0, 1) := by decide +kernel
theorem dX0_goOn_6 : decode cX0_goOn 6 = .ok (.lcmp, 1) := by decide +kernel
theorem dX0_goOn_7 : decode cX0_goOn 7 = .ok (.ifCond .ne 4, 3) := by decide +kernel
theorem dX0_goOn_10 : decode cX0_goOn 10 = .ok (.return_, 1) := by decide +kernel
theorem dX0_goOn_11 : decode cX0_goOn 11 = .ok (.iconst 0, 1) := by decide +kernel
theorem dX0_goOn_12 : decode cX0_goOn 12 = .ok (.istore 4, 2) := by decide +kernel
theorem dX0_goOn_14 : decode cX0_goOn 14 = .ok (.iload 4, 2) := by decide +kernel
theorem dX0_goOn_16 : decode cX0_goOn 16 = .ok (.aload_n 0, 1) := by decide +kernel
theorem dX0_goOn_17 : decode cX0_goOn 17 = .ok (.getfield 9, 3) := by decide +kernel
theorem dX0_goOn_20 : decode cX0_goOn 20 = .ok (.getfield 65, 3) := by decide +kernel
theorem dX0_goOn_23 : decode cX0_goOn 23 = .ok (.if_icmp .ge 30, 3) := by decide +kernel
theorem dX0_goOn_26 : decode cX0_goOn 26 = .ok (.aload_n 0, 1) := by decide +kernel
theorem dX0_goOn_27 : decode cX0_goOn 27 = .ok (.getfield 36, 3) := by decide +kernel
theorem dX0_goOn_30 : decode cX0_goOn 30 = .ok (.iload 4, 2) := by decide +kernel
theorem dX0_goOn_32 : decode cX0_goOn 32 = .ok (.aload_n 0, 1) := by decide +kernel
theorem dX0_goOn_33 : decode cX0_goOn 33 = .ok (.getfield 32, 3) := by decide +kernel
theorem dX0_goOn_36 : decode cX0_goOn 36 = .ok (.iload_n 1, 1) := by decide +kernel
theorem dX0_goOn_37 : decode cX0_goOn 37 = .ok (.iaload, 1) := by decide +kernel
theorem dX0_goOn_38 : decode cX0_goOn 38 = .ok (.iconst 4, 1) := by decide +kernel
theorem dX0_goOn_39 : decode cX0_goOn 39 = .ok (.iload 4, 2) := by decide +kernel
theorem dX0_goOn_41 : decode cX0_goOn 41 = .ok (.imul, 1) := by decide +kernel
theorem dX0_goOn_42 : decode cX0_goOn 42 = .ok (.ishr, 1) := by decide +kernel
theorem dX0_goOn_43 : decode cX0_goOn 43 = .ok (.bipush 15, 2) := by decide +kernel
theorem dX0_goOn_45 : decode cX0_goOn 45 = .ok (.iand, 1) := by decide +kernel
theorem dX0_goOn_46 : decode cX0_goOn 46 = .ok (.iastore, 1) := by decide +kernel
theorem dX0_goOn_47 : decode cX0_goOn 47 = .ok (.iinc 4 1, 3) := by decide +kernel
theorem dX0_goOn_50 : decode cX0_goOn 50 = .ok (.goto (-36), 3) := by decide +kernel
theorem dX0_goOn_53 : decode cX0_goOn 53 = .ok (.iconst 0, 1) := by decide +kernel
theorem dX0_goOn_54 : decode cX0_goOn 54 = .ok (.istore 4, 2) := by decide +kernel
theorem dX0_goOn_56 : decode cX0_goOn 56 = .ok (.iload 4, 2) := by decide +kernel
theorem dX0_goOn_58 : decode cX0_goOn 58 = .ok (.aload_n 0, 1) := by decide +kernel
theorem dX0_goOn_59 : decode cX0_goOn 59 = .ok (.getfield 9, 3) := by decide +kernel
theorem dX0_goOn_62 : decode cX0_goOn 62 = .ok (.getfield 65, 3) := by decide +kernel
theorem dX0_goOn_65 : decode cX0_goOn 65 = .ok (.if_icmp .ge 23, 3) := by decide +kernel
theorem dX0_goOn_68 : decode cX0_goOn 68 = .ok (.aload_n 0, 1) := by decide +kernel
theorem dX0_goOn_69 : decode cX0_goOn 69 = .ok (.getfield 42, 3) := by decide +kernel
theorem dX0_goOn_72 : decode cX0_goOn 72 = .ok (.iload 4, 2) := by decide +kernel
theorem dX0_goOn_74 : decode cX0_goOn 74 = .ok (.aload_n 0, 1) := by decide +kernel
theorem dX0_goOn_75 : decode cX0_goOn 75 = .ok (.iload 4, 2) := by decide +kernel
theorem dX0_goOn_77 : decode cX0_goOn 77 = .ok (.iload_n 2, 1) := by decide +kernel
theorem dX0_goOn_78 : decode cX0_goOn 78 = .ok (.invokevirtual 104, 3) := by decide +kernel
theorem dX0_goOn_81 : decode cX0_goOn 81 = .ok (.iastore, 1) := by decide +kernel
theorem dX0_goOn_82 : decode cX0_goOn 82 = .ok (.iinc 4 1, 3) := by decide +kernel
theorem dX0_goOn_85 : decode cX0_goOn 85 = .ok (.goto (-29), 3) := by decide +kernel
theorem dX0_goOn_88 : decode cX0_goOn 88 = .ok (.iconst 0, 1) := by decide +kernel
theorem dX0_goOn_89 : decode cX0_goOn 89 = .ok (.istore 4, 2) := by decide +kernel
theorem dX0_goOn_91 : decode cX0_goOn 91 = .ok (.iload 4, 2) := by decide +kernel
theorem dX0_goOn_93 : decode cX0_goOn 93 = .ok (.bipush 6, 2) := by decide +kernel
theorem dX0_goOn_95 : decode cX0_goOn 95 = .ok (.if_icmp .ge 74, 3) := by decide +kernel
theorem dX0_goOn_98 : decode cX0_goOn 98 = .ok (.aload_n 0, 1) := by decide +kernel
theorem dX0_goOn_99 : decode cX0_goOn 99 = .ok (.getfield 28, 3) := by decide +kernel
theorem dX0_goOn_102 : decode cX0_goOn 102 = .ok (.iload_n 1, 1) := by decide +kernel
theorem dX0_goOn_103 : decode cX0_goOn 103 = .ok (.bipush 6, 2) := by decide +kernel
theorem dX0_goOn_105 : decode cX0_goOn 105 = .ok (.imul, 1) := by decide +kernel
theorem dX0_goOn_106 : decode cX0_goOn 106 = .ok (.iload 4, 2) := by decide +kernel
theorem dX0_goOn_108 : decode cX0_goOn 108 = .ok (.iadd, 1) := by decide +kernel
theorem dX0_goOn_109 : decode cX0_goOn 109 = .ok (.laload, 1) := by decide +kernel
theorem dX0_goOn_110 : decode cX0_goOn 110 = .ok (.lstore 5, 2) := by decide +kernel
theorem dX0_goOn_112 : decode cX0_goOn 112 = .ok (.lload 5, 2) := by decide +kernel
theorem dX0_goOn_114 : decode cX0_goOn 114 = .ok (.lconst 0, 1) := by decide +kernel
theorem dX0_goOn_115 : decode cX0_goOn 115 = .ok (.lcmp, 1) := by decide +kernel
theorem dX0_goOn_116 : decode cX0_goOn 116 = .ok (.ifCond .le 47, 3) := by decide +kernel
theorem dX0_goOn_119 : decode cX0_goOn 119 = .ok (.aload_n 0, 1) := by decide +kernel
theorem dX0_goOn_120 : decode cX0_goOn 120 = .ok (.getfield 15, 3) := by decide +kernel
theorem dX0_goOn_123 : decode cX0_goOn 123 = .ok (.aload_n 0, 1) := by decide +kernel
theorem dX0_goOn_124 : decode cX0_goOn 124 = .ok (.getfield 36, 3) := by decide +kernel
theorem dX0_goOn_127 : decode cX0_goOn 127 = .ok (.iload 4, 2) := by decide +kernel
theorem dX0_goOn_129 : decode cX0_goOn 129 = .ok (.iload_n 2, 1) := by decide +kernel
theorem dX0_goOn_130 : decode cX0_goOn 130 = .ok (.invokevirtual 107, 3) := by decide +kernel
theorem dX0_goOn_133 : decode cX0_goOn 133 = .ok (.iconst 0, 1) := by decide +kernel
theorem dX0_goOn_134 : decode cX0_goOn 134 = .ok (.istore 7, 2) := by decide +kernel
theorem dX0_goOn_136 : decode cX0_goOn 136 = .ok (.iload 7, 2) := by decide +kernel
theorem dX0_goOn_138 : decode cX0_goOn 138 = .ok (.aload_n 0, 1) := by decide +kernel
theorem dX0_goOn_139 : decode cX0_goOn 139 = .ok (.getfield 9, 3) := by decide +kernel
theorem dX0_goOn_142 : decode cX0_goOn 142 = .ok (.getfield 65, 3) := by decide +kernel
theorem dX0_goOn_145 : decode cX0_goOn 145 = .ok (.if_icmp .ge 18, 3) := by decide +kernel
theorem dX0_goOn_148 : decode cX0_goOn 148 = .ok (.aload_n 0, 1) := by decide +kernel
theorem dX0_goOn_149 : decode cX0_goOn 149 = .ok (.iload 7, 2) := by decide +kernel
theorem dX0_goOn_151 : decode cX0_goOn 151 = .ok (.lload 5, 2) := by decide +kernel
theorem dX0_goOn_153 : decode cX0_goOn 153 = .ok (.iload_n 3, 1) := by decide +kernel
theorem dX0_goOn_154 : decode cX0_goOn 154 = .ok (.invokevirtual 111, 3) := by decide +kernel
theorem dX0_goOn_157 : decode cX0_goOn 157 = .ok (.iinc 7 1, 3) := by decide +kernel
theorem dX0_goOn_160 : decode cX0_goOn 160 = .ok (.goto (-24), 3) := by decide +kernel
theorem dX0_goOn_163 : decode cX0_goOn 163 = .ok (.iinc 4 1, 3) := by decide +kernel
theorem dX0_goOn_166 : decode cX0_goOn 166 = .ok (.goto (-75), 3) := by decide +kernel
theorem dX0_goOn_169 : decode cX0_goOn 169 = .ok (.return_, 1) := by decide +kernel
theorem dX0_passOn_0 : decode cX0_passOn 0 = .ok (.aload_n 0, 1) := by decide +kernel
theorem dX0_passOn_1 : decode cX0_passOn 1 = .ok (.getfield 42, 3) := by decide +kernel
theorem dX0_passOn_4 : decode cX0_passOn 4 = .ok (.iload_n 1, 1) := by decide +kernel
theorem dX0_passOn_5 : decode cX0_passOn 5 = .ok (.iaload, 1) := by decide +kernel
theorem dX0_passOn_6 : decode cX0_passOn 6 = .ok (.ifCond .ge 4, 3) := by decide +kernel
theorem dX0_passOn_9 : decode cX0_passOn 9 = .ok (.return_, 1) := by decide +kernel
theorem dX0_passOn_10 : decode cX0_passOn 10 = .ok (.iconst 0, 1) := by decide +kernel
theorem dX0_passOn_11 : decode cX0_passOn 11 = .ok (.istore 5, 2) := by decide +kernel
theorem dX0_passOn_13 : decode cX0_passOn 13 = .ok (.iload 5, 2) := by decide +kernel
theorem dX0_passOn_15 : decode cX0_passOn 15 = .ok (.bipush 6, 2) := by decide +kernel
theorem dX0_passOn_17 : decode cX0_passOn 17 = .ok (.if_icmp .ge 75, 3) := by decide +kernel
theorem dX0_passOn_20 : decode cX0_passOn 20 = .ok (.aload_n 0, 1) := by decide +kernel
theorem dX0_passOn_21 : decode cX0_passOn 21 = .ok (.getfield 15, 3) := by decide +kernel
theorem dX0_passOn_24 : decode cX0_passOn 24 = .ok (.getfield 115, 3) := by decide +kernel
theorem dX0_passOn_27 : decode cX0_passOn 27 = .ok (.iload_n 1, 1) := by decide +kernel
theorem dX0_passOn_28 : decode cX0_passOn 28 = .ok (.bipush 6, 2) := by decide +kernel
theorem dX0_passOn_30 : decode cX0_passOn 30 = .ok (.imul, 1) := by decide +kernel
theorem dX0_passOn_31 : decode cX0_passOn 31 = .ok (.iload 5, 2) := by decide +kernel
theorem dX0_passOn_33 : decode cX0_passOn 33 = .ok (.iadd, 1) := by decide +kernel
theorem dX0_passOn_34 : decode cX0_passOn 34 = .ok (.laload, 1) := by decide +kernel
theorem dX0_passOn_35 : decode cX0_passOn 35 = .ok (.lstore 6, 2) := by decide +kernel
theorem dX0_passOn_37 : decode cX0_passOn 37 = .ok (.lload 6, 2) := by decide +kernel
theorem dX0_passOn_39 : decode cX0_passOn 39 = .ok (.lconst 0, 1) := by decide +kernel
theorem dX0_passOn_40 : decode cX0_passOn 40 = .ok (.lcmp, 1) := by decide +kernel
theorem dX0_passOn_41 : decode cX0_passOn 41 = .ok (.ifCond .le 45, 3) := by decide +kernel
theorem dX0_passOn_44 : decode cX0_passOn 44 = .ok (.aload_n 0, 1) := by decide +kernel
theorem dX0_passOn_45 : decode cX0_passOn 45 = .ok (.getfield 42, 3) := by decide +kernel
theorem dX0_passOn_48 : decode cX0_passOn 48 = .ok (.iload_n 1, 1) := by decide +kernel
theorem dX0_passOn_49 : decode cX0_passOn 49 = .ok (.iaload, 1) := by decide +kernel
theorem dX0_passOn_50 : decode cX0_passOn 50 = .ok (.bipush 6, 2) := by decide +kernel
theorem dX0_passOn_52 : decode cX0_passOn 52 = .ok (.imul, 1) := by decide +kernel
theorem dX0_passOn_53 : decode cX0_passOn 53 = .ok (.iload 5, 2) := by decide +kernel
theorem dX0_passOn_55 : decode cX0_passOn 55 = .ok (.iadd, 1) := by decide +kernel
theorem dX0_passOn_56 : decode cX0_passOn 56 = .ok (.istore 8, 2) := by decide +kernel
theorem dX0_passOn_58 : decode cX0_passOn 58 = .ok (.aload_n 0, 1) := by decide +kernel
theorem dX0_passOn_59 : decode cX0_passOn 59 = .ok (.getfield 28, 3) := by decide +kernel
theorem dX0_passOn_62 : decode cX0_passOn 62 = .ok (.iload 8, 2) := by decide +kernel
theorem dX0_passOn_64 : decode cX0_passOn 64 = .ok (.iload 4, 2) := by decide +kernel
theorem dX0_passOn_66 : decode cX0_passOn 66 = .ok (.ifCond .eq 7, 3) := by decide +kernel
theorem dX0_passOn_69 : decode cX0_passOn 69 = .ok (.lconst 1, 1) := by decide +kernel
theorem dX0_passOn_70 : decode cX0_passOn 70 = .ok (.goto 15, 3) := by decide +kernel
theorem dX0_passOn_73 : decode cX0_passOn 73 = .ok (.aload_n 0, 1) := by decide +kernel
theorem dX0_passOn_74 : decode cX0_passOn 74 = .ok (.getfield 28, 3) := by decide +kernel
theorem dX0_passOn_77 : decode cX0_passOn 77 = .ok (.iload 8, 2) := by decide +kernel
theorem dX0_passOn_79 : decode cX0_passOn 79 = .ok (.laload, 1) := by decide +kernel
theorem dX0_passOn_80 : decode cX0_passOn 80 = .ok (.lload_n 2, 1) := by decide +kernel
theorem dX0_passOn_81 : decode cX0_passOn 81 = .ok (.lload 6, 2) := by decide +kernel
theorem dX0_passOn_83 : decode cX0_passOn 83 = .ok (.lmul, 1) := by decide +kernel
theorem dX0_passOn_84 : decode cX0_passOn 84 = .ok (.ladd, 1) := by decide +kernel
theorem dX0_passOn_85 : decode cX0_passOn 85 = .ok (.lastore, 1) := by decide +kernel
theorem dX0_passOn_86 : decode cX0_passOn 86 = .ok (.iinc 5 1, 3) := by decide +kernel
theorem dX0_passOn_89 : decode cX0_passOn 89 = .ok (.goto (-76), 3) := by decide +kernel
theorem dX0_passOn_92 : decode cX0_passOn 92 = .ok (.return_, 1) := by decide +kernel
theorem dX0_lieBehind_0 : decode cX0_lieBehind 0 = .ok (.aload_n 0, 1) := by decide +kernel
theorem dX0_lieBehind_1 : decode cX0_lieBehind 1 = .ok (.getfield 9, 3) := by decide +kernel
theorem dX0_lieBehind_4 : decode cX0_lieBehind 4 = .ok (.aload_n 0, 1) := by decide +kernel
theorem dX0_lieBehind_5 : decode cX0_lieBehind 5 = .ok (.getfield 36, 3) := by decide +kernel
theorem dX0_lieBehind_8 : decode cX0_lieBehind 8 = .ok (.iload_n 1, 1) := by decide +kernel
theorem dX0_lieBehind_9 : decode cX0_lieBehind 9 = .ok (.invokevirtual 116, 3) := by decide +kernel
theorem dX0_lieBehind_12 : decode cX0_lieBehind 12 = .ok (.istore_n 3, 1) := by decide +kernel
theorem dX0_lieBehind_13 : decode cX0_lieBehind 13 = .ok (.iload_n 3, 1) := by decide +kernel
theorem dX0_lieBehind_14 : decode cX0_lieBehind 14 = .ok (.ifCond .ge 5, 3) := by decide +kernel
theorem dX0_lieBehind_17 : decode cX0_lieBehind 17 = .ok (.iconst (-1), 1) := by decide +kernel
theorem dX0_lieBehind_18 : decode cX0_lieBehind 18 = .ok (.ireturn, 1) := by decide +kernel
theorem dX0_lieBehind_19 : decode cX0_lieBehind 19 = .ok (.iconst 0, 1) := by decide +kernel
theorem dX0_lieBehind_20 : decode cX0_lieBehind 20 = .ok (.istore 4, 2) := by decide +kernel
theorem dX0_lieBehind_22 : decode cX0_lieBehind 22 = .ok (.iload 4, 2) := by decide +kernel
theorem dX0_lieBehind_24 : decode cX0_lieBehind 24 = .ok (.iconst 5, 1) := by decide +kernel
theorem dX0_lieBehind_25 : decode cX0_lieBehind 25 = .ok (.if_icmp .ge 23, 3) := by decide +kernel
theorem dX0_lieBehind_28 : decode cX0_lieBehind 28 = .ok (.aload_n 0, 1) := by decide +kernel
theorem dX0_lieBehind_29 : decode cX0_lieBehind 29 = .ok (.getfield 39, 3) := by decide +kernel
theorem dX0_lieBehind_32 : decode cX0_lieBehind 32 = .ok (.iload 4, 2) := by decide +kernel
theorem dX0_lieBehind_34 : decode cX0_lieBehind 34 = .ok (.aload_n 0, 1) := by decide +kernel
theorem dX0_lieBehind_35 : decode cX0_lieBehind 35 = .ok (.getfield 36, 3) := by decide +kernel
theorem dX0_lieBehind_38 : decode cX0_lieBehind 38 = .ok (.iload 4, 2) := by decide +kernel
theorem dX0_lieBehind_40 : decode cX0_lieBehind 40 = .ok (.iaload, 1) := by decide +kernel
theorem dX0_lieBehind_41 : decode cX0_lieBehind 41 = .ok (.iastore, 1) := by decide +kernel
theorem dX0_lieBehind_42 : decode cX0_lieBehind 42 = .ok (.iinc 4 1, 3) := by decide +kernel
theorem dX0_lieBehind_45 : decode cX0_lieBehind 45 = .ok (.goto (-23), 3) := by decide +kernel
theorem dX0_lieBehind_48 : decode cX0_lieBehind 48 = .ok (.aload_n 0, 1) := by decide +kernel
theorem dX0_lieBehind_49 : decode cX0_lieBehind 49 = .ok (.getfield 39, 3) := by decide +kernel
theorem dX0_lieBehind_52 : decode cX0_lieBehind 52 = .ok (.iload_n 3, 1) := by decide +kernel
theorem dX0_lieBehind_53 : decode cX0_lieBehind 53 = .ok (.dup2, 1) := by decide +kernel
theorem dX0_lieBehind_54 : decode cX0_lieBehind 54 = .ok (.iaload, 1) := by decide +kernel
theorem dX0_lieBehind_55 : decode cX0_lieBehind 55 = .ok (.iconst 1, 1) := by decide +kernel
theorem dX0_lieBehind_56 : decode cX0_lieBehind 56 = .ok (.iadd, 1) := by decide +kernel
theorem dX0_lieBehind_57 : decode cX0_lieBehind 57 = .ok (.iastore, 1) := by decide +kernel
theorem dX0_lieBehind_58 : decode cX0_lieBehind 58 = .ok (.aload_n 0, 1) := by decide +kernel
theorem dX0_lieBehind_59 : decode cX0_lieBehind 59 = .ok (.getfield 9, 3) := by decide +kernel
theorem dX0_lieBehind_62 : decode cX0_lieBehind 62 = .ok (.aload_n 0, 1) := by decide +kernel
theorem dX0_lieBehind_63 : decode cX0_lieBehind 63 = .ok (.getfield 39, 3) := by decide +kernel
theorem dX0_lieBehind_66 : decode cX0_lieBehind 66 = .ok (.iload_n 2, 1) := by decide +kernel
theorem dX0_lieBehind_67 : decode cX0_lieBehind 67 = .ok (.invokevirtual 120, 3) := by decide +kernel
theorem dX0_lieBehind_70 : decode cX0_lieBehind 70 = .ok (.aload_n 0, 1) := by decide +kernel
theorem dX0_lieBehind_71 : decode cX0_lieBehind 71 = .ok (.aload_n 0, 1) := by decide +kernel
theorem dX0_lieBehind_72 : decode cX0_lieBehind 72 = .ok (.getfield 39, 3) := by decide +kernel
theorem dX0_lieBehind_75 : decode cX0_lieBehind 75 = .ok (.invokevirtual 54, 3) := by decide +kernel
theorem dX0_lieBehind_78 : decode cX0_lieBehind 78 = .ok (.ireturn, 1) := by decide +kernel
theorem dX0_count_0 : decode cX0_count 0 = .ok (.aload_n 0, 1) := by decide +kernel
theorem dX0_count_1 : decode cX0_count 1 = .ok (.lconst 0, 1) := by decide +kernel
theorem dX0_count_2 : decode cX0_count 2 = .ok (.putfield 124, 3) := by decide +kernel
theorem dX0_count_5 : decode cX0_count 5 = .ok (.aload_n 0, 1) := by decide +kernel
theorem dX0_count_6 : decode cX0_count 6 = .ok (.lconst 0, 1) := by decide +kernel
theorem dX0_count_7 : decode cX0_count 7 = .ok (.putfield 128, 3) := by decide +kernel
theorem dX0_count_10 : decode cX0_count 10 = .ok (.aload_n 0, 1) := by decide +kernel
theorem dX0_count_11 : decode cX0_count 11 = .ok (.iload_n 2, 1) := by decide +kernel
theorem dX0_count_12 : decode cX0_count 12 = .ok (.invokevirtual 51, 3) := by decide +kernel
theorem dX0_count_15 : decode cX0_count 15 = .ok (.istore 6, 2) := by decide +kernel
theorem dX0_count_17 : decode cX0_count 17 = .ok (.aload_n 0, 1) := by decide +kernel
theorem dX0_count_18 : decode cX0_count 18 = .ok (.iload 6, 2) := by decide +kernel
theorem dX0_count_20 : decode cX0_count 20 = .ok (.invokevirtual 93, 3) := by decide +kernel
theorem dX0_count_23 : decode cX0_count 23 = .ok (.istore 7, 2) := by decide +kernel
theorem dX0_count_25 : decode cX0_count 25 = .ok (.iload 7, 2) := by decide +kernel
theorem dX0_count_27 : decode cX0_count 27 = .ok (.aload_n 0, 1) := by decide +kernel
theorem dX0_count_28 : decode cX0_count 28 = .ok (.iload 6, 2) := by decide +kernel
theorem dX0_count_30 : decode cX0_count 30 = .ok (.iconst 1, 1) := by decide +kernel
theorem dX0_count_31 : decode cX0_count 31 = .ok (.iadd, 1) := by decide +kernel
theorem dX0_count_32 : decode cX0_count 32 = .ok (.invokevirtual 93, 3) := by decide +kernel
theorem dX0_count_35 : decode cX0_count 35 = .ok (.if_icmp .ge 62, 3) := by decide +kernel
theorem dX0_count_38 : decode cX0_count 38 = .ok (.aload_n 1, 1) := by decide +kernel
theorem dX0_count_39 : decode cX0_count 39 = .ok (.iload 7, 2) := by decide +kernel
theorem dX0_count_41 : decode cX0_count 41 = .ok (.laload, 1) := by decide +kernel
theorem dX0_count_42 : decode cX0_count 42 = .ok (.lconst 0, 1) := by decide +kernel
theorem dX0_count_43 : decode cX0_count 43 = .ok (.lcmp, 1) := by decide +kernel
theorem dX0_count_44 : decode cX0_count 44 = .ok (.ifCond .le 47, 3) := by decide +kernel
theorem dX0_count_47 : decode cX0_count 47 = .ok (.aload_n 0, 1) := by decide +kernel
theorem dX0_count_48 : decode cX0_count 48 = .ok (.dup, 1) := by decide +kernel
theorem dX0_count_49 : decode cX0_count 49 = .ok (.getfield 128, 3) := by decide +kernel
theorem dX0_count_52 : decode cX0_count 52 = .ok (.aload_n 1, 1) := by decide +kernel
theorem dX0_count_53 : decode cX0_count 53 = .ok (.iload 7, 2) := by decide +kernel
theorem dX0_count_55 : decode cX0_count 55 = .ok (.laload, 1) := by decide +kernel
theorem dX0_count_56 : decode cX0_count 56 = .ok (.ladd, 1) := by decide +kernel
theorem dX0_count_57 : decode cX0_count 57 = .ok (.putfield 128, 3) := by decide +kernel
theorem dX0_count_60 : decode cX0_count 60 = .ok (.aload_n 0, 1) := by decide +kernel
theorem dX0_count_61 : decode cX0_count 61 = .ok (.dup, 1) := by decide +kernel
theorem dX0_count_62 : decode cX0_count 62 = .ok (.getfield 124, 3) := by decide +kernel
theorem dX0_count_65 : decode cX0_count 65 = .ok (.aload_n 1, 1) := by decide +kernel
theorem dX0_count_66 : decode cX0_count 66 = .ok (.iload 7, 2) := by decide +kernel
theorem dX0_count_68 : decode cX0_count 68 = .ok (.laload, 1) := by decide +kernel
theorem dX0_count_69 : decode cX0_count 69 = .ok (.aload_n 0, 1) := by decide +kernel
theorem dX0_count_70 : decode cX0_count 70 = .ok (.iload_n 3, 1) := by decide +kernel
theorem dX0_count_71 : decode cX0_count 71 = .ok (.aload_n 0, 1) := by decide +kernel
theorem dX0_count_72 : decode cX0_count 72 = .ok (.getfield 32, 3) := by decide +kernel
theorem dX0_count_75 : decode cX0_count 75 = .ok (.iload 7, 2) := by decide +kernel
theorem dX0_count_77 : decode cX0_count 77 = .ok (.iaload, 1) := by decide +kernel
theorem dX0_count_78 : decode cX0_count 78 = .ok (.iload 4, 2) := by decide +kernel
theorem dX0_count_80 : decode cX0_count 80 = .ok (.iload 5, 2) := by decide +kernel
theorem dX0_count_82 : decode cX0_count 82 = .ok (.invokevirtual 131, 3) := by decide +kernel
theorem dX0_count_85 : decode cX0_count 85 = .ok (.i2l, 1) := by decide +kernel
theorem dX0_count_86 : decode cX0_count 86 = .ok (.lmul, 1) := by decide +kernel
theorem dX0_count_87 : decode cX0_count 87 = .ok (.ladd, 1) := by decide +kernel
theorem dX0_count_88 : decode cX0_count 88 = .ok (.putfield 124, 3) := by decide +kernel
theorem dX0_count_91 : decode cX0_count 91 = .ok (.iinc 7 1, 3) := by decide +kernel
theorem dX0_count_94 : decode cX0_count 94 = .ok (.goto (-69), 3) := by decide +kernel
theorem dX0_count_97 : decode cX0_count 97 = .ok (.return_, 1) := by decide +kernel
theorem dX0_worth_0 : decode cX0_worth 0 = .ok (.iload_n 1, 1) := by decide +kernel
theorem dX0_worth_1 : decode cX0_worth 1 = .ok (.tableswitch 124 0 6 #[43, 49, 55, 69, 75, 90, 105], 43) := by decide +kernel
theorem dX0_worth_44 : decode cX0_worth 44 = .ok (.aload_n 0, 1) := by decide +kernel
theorem dX0_worth_45 : decode cX0_worth 45 = .ok (.iload_n 2, 1) := by decide +kernel
theorem dX0_worth_46 : decode cX0_worth 46 = .ok (.invokevirtual 135, 3) := by decide +kernel
theorem dX0_worth_49 : decode cX0_worth 49 = .ok (.ireturn, 1) := by decide +kernel
theorem dX0_worth_50 : decode cX0_worth 50 = .ok (.aload_n 0, 1) := by decide +kernel
theorem dX0_worth_51 : decode cX0_worth 51 = .ok (.iload_n 2, 1) := by decide +kernel
theorem dX0_worth_52 : decode cX0_worth 52 = .ok (.invokevirtual 138, 3) := by decide +kernel
theorem dX0_worth_55 : decode cX0_worth 55 = .ok (.ireturn, 1) := by decide +kernel
theorem dX0_worth_56 : decode cX0_worth 56 = .ok (.iconst 0, 1) := by decide +kernel
theorem dX0_worth_57 : decode cX0_worth 57 = .ok (.iload_n 3, 1) := by decide +kernel
theorem dX0_worth_58 : decode cX0_worth 58 = .ok (.aload_n 0, 1) := by decide +kernel
theorem dX0_worth_59 : decode cX0_worth 59 = .ok (.getfield 9, 3) := by decide +kernel
theorem dX0_worth_62 : decode cX0_worth 62 = .ok (.getfield 68, 3) := by decide +kernel
theorem dX0_worth_65 : decode cX0_worth 65 = .ok (.isub, 1) := by decide +kernel
theorem dX0_worth_66 : decode cX0_worth 66 = .ok (.invokestatic 77, 3) := by decide +kernel
theorem dX0_worth_69 : decode cX0_worth 69 = .ok (.ireturn, 1) := by decide +kernel
theorem dX0_worth_70 : decode cX0_worth 70 = .ok (.aload_n 0, 1) := by decide +kernel
theorem dX0_worth_71 : decode cX0_worth 71 = .ok (.iload_n 2, 1) := by decide +kernel
theorem dX0_worth_72 : decode cX0_worth 72 = .ok (.invokevirtual 141, 3) := by decide +kernel
theorem dX0_worth_75 : decode cX0_worth 75 = .ok (.ireturn, 1) := by decide +kernel
theorem dX0_worth_76 : decode cX0_worth 76 = .ok (.aload_n 0, 1) := by decide +kernel
theorem dX0_worth_77 : decode cX0_worth 77 = .ok (.iload_n 2, 1) := by decide +kernel
theorem dX0_worth_78 : decode cX0_worth 78 = .ok (.invokevirtual 135, 3) := by decide +kernel
theorem dX0_worth_81 : decode cX0_worth 81 = .ok (.iload_n 3, 1) := by decide +kernel
theorem dX0_worth_82 : decode cX0_worth 82 = .ok (.if_icmp .lt 7, 3) := by decide +kernel
theorem dX0_worth_85 : decode cX0_worth 85 = .ok (.iconst 1, 1) := by decide +kernel
theorem dX0_worth_86 : decode cX0_worth 86 = .ok (.goto 4, 3) := by decide +kernel
theorem dX0_worth_89 : decode cX0_worth 89 = .ok (.iconst 0, 1) := by decide +kernel
theorem dX0_worth_90 : decode cX0_worth 90 = .ok (.ireturn, 1) := by decide +kernel
theorem dX0_worth_91 : decode cX0_worth 91 = .ok (.aload_n 0, 1) := by decide +kernel
theorem dX0_worth_92 : decode cX0_worth 92 = .ok (.iload_n 2, 1) := by decide +kernel
theorem dX0_worth_93 : decode cX0_worth 93 = .ok (.invokevirtual 138, 3) := by decide +kernel
theorem dX0_worth_96 : decode cX0_worth 96 = .ok (.iload_n 3, 1) := by decide +kernel
theorem dX0_worth_97 : decode cX0_worth 97 = .ok (.if_icmp .ne 7, 3) := by decide +kernel
theorem dX0_worth_100 : decode cX0_worth 100 = .ok (.iconst 1, 1) := by decide +kernel
theorem dX0_worth_101 : decode cX0_worth 101 = .ok (.goto 4, 3) := by decide +kernel
theorem dX0_worth_104 : decode cX0_worth 104 = .ok (.iconst 0, 1) := by decide +kernel
theorem dX0_worth_105 : decode cX0_worth 105 = .ok (.ireturn, 1) := by decide +kernel
theorem dX0_worth_106 : decode cX0_worth 106 = .ok (.iload_n 2, 1) := by decide +kernel
theorem dX0_worth_107 : decode cX0_worth 107 = .ok (.iconst 4, 1) := by decide +kernel
theorem dX0_worth_108 : decode cX0_worth 108 = .ok (.iload_n 3, 1) := by decide +kernel
theorem dX0_worth_109 : decode cX0_worth 109 = .ok (.imul, 1) := by decide +kernel
theorem dX0_worth_110 : decode cX0_worth 110 = .ok (.ishr, 1) := by decide +kernel
theorem dX0_worth_111 : decode cX0_worth 111 = .ok (.bipush 15, 2) := by decide +kernel
theorem dX0_worth_113 : decode cX0_worth 113 = .ok (.iand, 1) := by decide +kernel
theorem dX0_worth_114 : decode cX0_worth 114 = .ok (.iload 4, 2) := by decide +kernel
theorem dX0_worth_116 : decode cX0_worth 116 = .ok (.if_icmp .ne 7, 3) := by decide +kernel
theorem dX0_worth_119 : decode cX0_worth 119 = .ok (.iconst 1, 1) := by decide +kernel
theorem dX0_worth_120 : decode cX0_worth 120 = .ok (.goto 4, 3) := by decide +kernel
theorem dX0_worth_123 : decode cX0_worth 123 = .ok (.iconst 0, 1) := by decide +kernel
theorem dX0_worth_124 : decode cX0_worth 124 = .ok (.ireturn, 1) := by decide +kernel
theorem dX0_worth_125 : decode cX0_worth 125 = .ok (.iload_n 2, 1) := by decide +kernel
theorem dX0_worth_126 : decode cX0_worth 126 = .ok (.iload_n 3, 1) := by decide +kernel
theorem dX0_worth_127 : decode cX0_worth 127 = .ok (.if_icmp .ne 7, 3) := by decide +kernel
theorem dX0_worth_130 : decode cX0_worth 130 = .ok (.iconst 1, 1) := by decide +kernel
theorem dX0_worth_131 : decode cX0_worth 131 = .ok (.goto 4, 3) := by decide +kernel
theorem dX0_worth_134 : decode cX0_worth 134 = .ok (.iconst 0, 1) := by decide +kernel
theorem dX0_worth_135 : decode cX0_worth 135 = .ok (.ireturn, 1) := by decide +kernel
theorem dX0_fullestOf_0 : decode cX0_fullestOf 0 = .ok (.iconst 0, 1) := by decide +kernel
theorem dX0_fullestOf_1 : decode cX0_fullestOf 1 = .ok (.istore_n 2, 1) := by decide +kernel
theorem dX0_fullestOf_2 : decode cX0_fullestOf 2 = .ok (.iconst 0, 1) := by decide +kernel
theorem dX0_fullestOf_3 : decode cX0_fullestOf 3 = .ok (.istore_n 3, 1) := by decide +kernel
theorem dX0_fullestOf_4 : decode cX0_fullestOf 4 = .ok (.iload_n 3, 1) := by decide +kernel
theorem dX0_fullestOf_5 : decode cX0_fullestOf 5 = .ok (.aload_n 0, 1) := by decide +kernel
theorem dX0_fullestOf_6 : decode cX0_fullestOf 6 = .ok (.getfield 9, 3) := by decide +kernel
theorem dX0_fullestOf_9 : decode cX0_fullestOf 9 = .ok (.getfield 65, 3) := by decide +kernel
theorem dX0_fullestOf_12 : decode cX0_fullestOf 12 = .ok (.if_icmp .ge 22, 3) := by decide +kernel
theorem dX0_fullestOf_15 : decode cX0_fullestOf 15 = .ok (.iload_n 2, 1) := by decide +kernel
theorem dX0_fullestOf_16 : decode cX0_fullestOf 16 = .ok (.iload_n 1, 1) := by decide +kernel
theorem dX0_fullestOf_17 : decode cX0_fullestOf 17 = .ok (.iconst 4, 1) := by decide +kernel
theorem dX0_fullestOf_18 : decode cX0_fullestOf 18 = .ok (.iload_n 3, 1) := by decide +kernel
theorem dX0_fullestOf_19 : decode cX0_fullestOf 19 = .ok (.imul, 1) := by decide +kernel
theorem dX0_fullestOf_20 : decode cX0_fullestOf 20 = .ok (.ishr, 1) := by decide +kernel
theorem dX0_fullestOf_21 : decode cX0_fullestOf 21 = .ok (.bipush 15, 2) := by decide +kernel
theorem dX0_fullestOf_23 : decode cX0_fullestOf 23 = .ok (.iand, 1) := by decide +kernel
theorem dX0_fullestOf_24 : decode cX0_fullestOf 24 = .ok (.invokestatic 77, 3) := by decide +kernel
theorem dX0_fullestOf_27 : decode cX0_fullestOf 27 = .ok (.istore_n 2, 1) := by decide +kernel
theorem dX0_fullestOf_28 : decode cX0_fullestOf 28 = .ok (.iinc 3 1, 3) := by decide +kernel
theorem dX0_fullestOf_31 : decode cX0_fullestOf 31 = .ok (.goto (-27), 3) := by decide +kernel
theorem dX0_fullestOf_34 : decode cX0_fullestOf 34 = .ok (.iload_n 2, 1) := by decide +kernel
theorem dX0_fullestOf_35 : decode cX0_fullestOf 35 = .ok (.ireturn, 1) := by decide +kernel
theorem dX0_emptyOf_0 : decode cX0_emptyOf 0 = .ok (.iconst 0, 1) := by decide +kernel
theorem dX0_emptyOf_1 : decode cX0_emptyOf 1 = .ok (.istore_n 2, 1) := by decide +kernel
theorem dX0_emptyOf_2 : decode cX0_emptyOf 2 = .ok (.iconst 0, 1) := by decide +kernel
theorem dX0_emptyOf_3 : decode cX0_emptyOf 3 = .ok (.istore_n 3, 1) := by decide +kernel
theorem dX0_emptyOf_4 : decode cX0_emptyOf 4 = .ok (.iload_n 3, 1) := by decide +kernel
theorem dX0_emptyOf_5 : decode cX0_emptyOf 5 = .ok (.aload_n 0, 1) := by decide +kernel
theorem dX0_emptyOf_6 : decode cX0_emptyOf 6 = .ok (.getfield 9, 3) := by decide +kernel
theorem dX0_emptyOf_9 : decode cX0_emptyOf 9 = .ok (.getfield 65, 3) := by decide +kernel
theorem dX0_emptyOf_12 : decode cX0_emptyOf 12 = .ok (.if_icmp .ge 28, 3) := by decide +kernel
theorem dX0_emptyOf_15 : decode cX0_emptyOf 15 = .ok (.iload_n 2, 1) := by decide +kernel
theorem dX0_emptyOf_16 : decode cX0_emptyOf 16 = .ok (.iload_n 1, 1) := by decide +kernel
theorem dX0_emptyOf_17 : decode cX0_emptyOf 17 = .ok (.iconst 4, 1) := by decide +kernel
theorem dX0_emptyOf_18 : decode cX0_emptyOf 18 = .ok (.iload_n 3, 1) := by decide +kernel
theorem dX0_emptyOf_19 : decode cX0_emptyOf 19 = .ok (.imul, 1) := by decide +kernel
theorem dX0_emptyOf_20 : decode cX0_emptyOf 20 = .ok (.ishr, 1) := by decide +kernel
theorem dX0_emptyOf_21 : decode cX0_emptyOf 21 = .ok (.bipush 15, 2) := by decide +kernel
theorem dX0_emptyOf_23 : decode cX0_emptyOf 23 = .ok (.iand, 1) := by decide +kernel
theorem dX0_emptyOf_24 : decode cX0_emptyOf 24 = .ok (.ifCond .ne 7, 3) := by decide +kernel
theorem dX0_emptyOf_27 : decode cX0_emptyOf 27 = .ok (.iconst 1, 1) := by decide +kernel
theorem dX0_emptyOf_28 : decode cX0_emptyOf 28 = .ok (.goto 4, 3) := by decide +kernel
theorem dX0_emptyOf_31 : decode cX0_emptyOf 31 = .ok (.iconst 0, 1) := by decide +kernel
theorem dX0_emptyOf_32 : decode cX0_emptyOf 32 = .ok (.iadd, 1) := by decide +kernel
theorem dX0_emptyOf_33 : decode cX0_emptyOf 33 = .ok (.istore_n 2, 1) := by decide +kernel
theorem dX0_emptyOf_34 : decode cX0_emptyOf 34 = .ok (.iinc 3 1, 3) := by decide +kernel
theorem dX0_emptyOf_37 : decode cX0_emptyOf 37 = .ok (.goto (-33), 3) := by decide +kernel
theorem dX0_emptyOf_40 : decode cX0_emptyOf 40 = .ok (.iload_n 2, 1) := by decide +kernel
theorem dX0_emptyOf_41 : decode cX0_emptyOf 41 = .ok (.ireturn, 1) := by decide +kernel
theorem dX0_squaresOf_0 : decode cX0_squaresOf 0 = .ok (.iconst 0, 1) := by decide +kernel
theorem dX0_squaresOf_1 : decode cX0_squaresOf 1 = .ok (.istore_n 2, 1) := by decide +kernel
theorem dX0_squaresOf_2 : decode cX0_squaresOf 2 = .ok (.iconst 0, 1) := by decide +kernel
theorem dX0_squaresOf_3 : decode cX0_squaresOf 3 = .ok (.istore_n 3, 1) := by decide +kernel
theorem dX0_squaresOf_4 : decode cX0_squaresOf 4 = .ok (.iload_n 3, 1) := by decide +kernel
theorem dX0_squaresOf_5 : decode cX0_squaresOf 5 = .ok (.aload_n 0, 1) := by decide +kernel
theorem dX0_squaresOf_6 : decode cX0_squaresOf 6 = .ok (.getfield 9, 3) := by decide +kernel
theorem dX0_squaresOf_9 : decode cX0_squaresOf 9 = .ok (.getfield 65, 3) := by decide +kernel
theorem dX0_squaresOf_12 : decode cX0_squaresOf 12 = .ok (.if_icmp .ge 27, 3) := by decide +kernel
theorem dX0_squaresOf_15 : decode cX0_squaresOf 15 = .ok (.iload_n 1, 1) := by decide +kernel
theorem dX0_squaresOf_16 : decode cX0_squaresOf 16 = .ok (.iconst 4, 1) := by decide +kernel
theorem dX0_squaresOf_17 : decode cX0_squaresOf 17 = .ok (.iload_n 3, 1) := by decide +kernel
theorem dX0_squaresOf_18 : decode cX0_squaresOf 18 = .ok (.imul, 1) := by decide +kernel
theorem dX0_squaresOf_19 : decode cX0_squaresOf 19 = .ok (.ishr, 1) := by decide +kernel
theorem dX0_squaresOf_20 : decode cX0_squaresOf 20 = .ok (.bipush 15, 2) := by decide +kernel
theorem dX0_squaresOf_22 : decode cX0_squaresOf 22 = .ok (.iand, 1) := by decide +kernel
theorem dX0_squaresOf_23 : decode cX0_squaresOf 23 = .ok (.istore 4, 2) := by decide +kernel
theorem dX0_squaresOf_25 : decode cX0_squaresOf 25 = .ok (.iload_n 2, 1) := by decide +kernel
theorem dX0_squaresOf_26 : decode cX0_squaresOf 26 = .ok (.iload 4, 2) := by decide +kernel
theorem dX0_squaresOf_28 : decode cX0_squaresOf 28 = .ok (.iload 4, 2) := by decide +kernel
theorem dX0_squaresOf_30 : decode cX0_squaresOf 30 = .ok (.imul, 1) := by decide +kernel
theorem dX0_squaresOf_31 : decode cX0_squaresOf 31 = .ok (.iadd, 1) := by decide +kernel
theorem dX0_squaresOf_32 : decode cX0_squaresOf 32 = .ok (.istore_n 2, 1) := by decide +kernel
theorem dX0_squaresOf_33 : decode cX0_squaresOf 33 = .ok (.iinc 3 1, 3) := by decide +kernel
theorem dX0_squaresOf_36 : decode cX0_squaresOf 36 = .ok (.goto (-32), 3) := by decide +kernel
theorem dX0_squaresOf_39 : decode cX0_squaresOf 39 = .ok (.iload_n 2, 1) := by decide +kernel
theorem dX0_squaresOf_40 : decode cX0_squaresOf 40 = .ok (.ireturn, 1) := by decide +kernel
theorem dX0_waysToLie_0 : decode cX0_waysToLie 0 = .ok (.iconst 0, 1) := by decide +kernel
theorem dX0_waysToLie_1 : decode cX0_waysToLie 1 = .ok (.istore_n 3, 1) := by decide +kernel
theorem dX0_waysToLie_2 : decode cX0_waysToLie 2 = .ok (.aload_n 0, 1) := by decide +kernel
theorem dX0_waysToLie_3 : decode cX0_waysToLie 3 = .ok (.iload_n 2, 1) := by decide +kernel
theorem dX0_waysToLie_4 : decode cX0_waysToLie 4 = .ok (.invokevirtual 51, 3) := by decide +kernel
theorem dX0_waysToLie_7 : decode cX0_waysToLie 7 = .ok (.istore 4, 2) := by decide +kernel
theorem dX0_waysToLie_9 : decode cX0_waysToLie 9 = .ok (.aload_n 0, 1) := by decide +kernel
theorem dX0_waysToLie_10 : decode cX0_waysToLie 10 = .ok (.iload 4, 2) := by decide +kernel
theorem dX0_waysToLie_12 : decode cX0_waysToLie 12 = .ok (.invokevirtual 93, 3) := by decide +kernel
theorem dX0_waysToLie_15 : decode cX0_waysToLie 15 = .ok (.istore 5, 2) := by decide +kernel
theorem dX0_waysToLie_17 : decode cX0_waysToLie 17 = .ok (.iload 5, 2) := by decide +kernel
theorem dX0_waysToLie_19 : decode cX0_waysToLie 19 = .ok (.aload_n 0, 1) := by decide +kernel
theorem dX0_waysToLie_20 : decode cX0_waysToLie 20 = .ok (.iload 4, 2) := by decide +kernel
theorem dX0_waysToLie_22 : decode cX0_waysToLie 22 = .ok (.iconst 1, 1) := by decide +kernel
theorem dX0_waysToLie_23 : decode cX0_waysToLie 23 = .ok (.iadd, 1) := by decide +kernel
theorem dX0_waysToLie_24 : decode cX0_waysToLie 24 = .ok (.invokevirtual 93, 3) := by decide +kernel
theorem dX0_waysToLie_27 : decode cX0_waysToLie 27 = .ok (.if_icmp .ge 26, 3) := by decide +kernel
theorem dX0_waysToLie_30 : decode cX0_waysToLie 30 = .ok (.iload_n 3, 1) := by decide +kernel
theorem dX0_waysToLie_31 : decode cX0_waysToLie 31 = .ok (.aload_n 1, 1) := by decide +kernel
theorem dX0_waysToLie_32 : decode cX0_waysToLie 32 = .ok (.iload 5, 2) := by decide +kernel
theorem dX0_waysToLie_34 : decode cX0_waysToLie 34 = .ok (.laload, 1) := by decide +kernel
theorem dX0_waysToLie_35 : decode cX0_waysToLie 35 = .ok (.lconst 0, 1) := by decide +kernel
theorem dX0_waysToLie_36 : decode cX0_waysToLie 36 = .ok (.lcmp, 1) := by decide +kernel
theorem dX0_waysToLie_37 : decode cX0_waysToLie 37 = .ok (.ifCond .le 7, 3) := by decide +kernel
theorem dX0_waysToLie_40 : decode cX0_waysToLie 40 = .ok (.iconst 1, 1) := by decide +kernel
theorem dX0_waysToLie_41 : decode cX0_waysToLie 41 = .ok (.goto 4, 3) := by decide +kernel
theorem dX0_waysToLie_44 : decode cX0_waysToLie 44 = .ok (.iconst 0, 1) := by decide +kernel
theorem dX0_waysToLie_45 : decode cX0_waysToLie 45 = .ok (.iadd, 1) := by decide +kernel
theorem dX0_waysToLie_46 : decode cX0_waysToLie 46 = .ok (.istore_n 3, 1) := by decide +kernel
theorem dX0_waysToLie_47 : decode cX0_waysToLie 47 = .ok (.iinc 5 1, 3) := by decide +kernel
theorem dX0_waysToLie_50 : decode cX0_waysToLie 50 = .ok (.goto (-33), 3) := by decide +kernel
theorem dX0_waysToLie_53 : decode cX0_waysToLie 53 = .ok (.iload_n 3, 1) := by decide +kernel
theorem dX0_waysToLie_54 : decode cX0_waysToLie 54 = .ok (.ireturn, 1) := by decide +kernel
theorem dX0_furthest_0 : decode cX0_furthest 0 = .ok (.iconst (-1), 1) := by decide +kernel
theorem dX0_furthest_1 : decode cX0_furthest 1 = .ok (.istore 4, 2) := by decide +kernel
theorem dX0_furthest_3 : decode cX0_furthest 3 = .ok (.aload_n 0, 1) := by decide +kernel
theorem dX0_furthest_4 : decode cX0_furthest 4 = .ok (.iload_n 2, 1) := by decide +kernel
theorem dX0_furthest_5 : decode cX0_furthest 5 = .ok (.invokevirtual 51, 3) := by decide +kernel
theorem dX0_furthest_8 : decode cX0_furthest 8 = .ok (.istore 5, 2) := by decide +kernel
theorem dX0_furthest_10 : decode cX0_furthest 10 = .ok (.aload_n 0, 1) := by decide +kernel
theorem dX0_furthest_11 : decode cX0_furthest 11 = .ok (.iload 5, 2) := by decide +kernel
theorem dX0_furthest_13 : decode cX0_furthest 13 = .ok (.invokevirtual 93, 3) := by decide +kernel
theorem dX0_furthest_16 : decode cX0_furthest 16 = .ok (.istore 6, 2) := by decide +kernel
theorem dX0_furthest_18 : decode cX0_furthest 18 = .ok (.iload 6, 2) := by decide +kernel
theorem dX0_furthest_20 : decode cX0_furthest 20 = .ok (.aload_n 0, 1) := by decide +kernel
theorem dX0_furthest_21 : decode cX0_furthest 21 = .ok (.iload 5, 2) := by decide +kernel
theorem dX0_furthest_23 : decode cX0_furthest 23 = .ok (.iconst 1, 1) := by decide +kernel
theorem dX0_furthest_24 : decode cX0_furthest 24 = .ok (.iadd, 1) := by decide +kernel
theorem dX0_furthest_25 : decode cX0_furthest 25 = .ok (.invokevirtual 93, 3) := by decide +kernel
theorem dX0_furthest_28 : decode cX0_furthest 28 = .ok (.if_icmp .ge 61, 3) := by decide +kernel
theorem dX0_furthest_31 : decode cX0_furthest 31 = .ok (.aload_n 1, 1) := by decide +kernel
theorem dX0_furthest_32 : decode cX0_furthest 32 = .ok (.iload 6, 2) := by decide +kernel
theorem dX0_furthest_34 : decode cX0_furthest 34 = .ok (.laload, 1) := by decide +kernel
theorem dX0_furthest_35 : decode cX0_furthest 35 = .ok (.lconst 0, 1) := by decide +kernel
theorem dX0_furthest_36 : decode cX0_furthest 36 = .ok (.lcmp, 1) := by decide +kernel
theorem dX0_furthest_37 : decode cX0_furthest 37 = .ok (.ifCond .le 46, 3) := by decide +kernel
theorem dX0_furthest_40 : decode cX0_furthest 40 = .ok (.aload_n 0, 1) := by decide +kernel
theorem dX0_furthest_41 : decode cX0_furthest 41 = .ok (.aload_n 0, 1) := by decide +kernel
theorem dX0_furthest_42 : decode cX0_furthest 42 = .ok (.getfield 32, 3) := by decide +kernel
theorem dX0_furthest_45 : decode cX0_furthest 45 = .ok (.iload 6, 2) := by decide +kernel
theorem dX0_furthest_47 : decode cX0_furthest 47 = .ok (.iaload, 1) := by decide +kernel
theorem dX0_furthest_48 : decode cX0_furthest 48 = .ok (.invokevirtual 135, 3) := by decide +kernel
theorem dX0_furthest_51 : decode cX0_furthest 51 = .ok (.istore 7, 2) := by decide +kernel
theorem dX0_furthest_53 : decode cX0_furthest 53 = .ok (.iload 4, 2) := by decide +kernel
theorem dX0_furthest_55 : decode cX0_furthest 55 = .ok (.ifCond .lt 24, 3) := by decide +kernel
theorem dX0_furthest_58 : decode cX0_furthest 58 = .ok (.iload_n 3, 1) := by decide +kernel
theorem dX0_furthest_59 : decode cX0_furthest 59 = .ok (.ifCond .eq 13, 3) := by decide +kernel
theorem dX0_furthest_62 : decode cX0_furthest 62 = .ok (.iload 7, 2) := by decide +kernel
theorem dX0_furthest_64 : decode cX0_furthest 64 = .ok (.iload 4, 2) := by decide +kernel
theorem dX0_furthest_66 : decode cX0_furthest 66 = .ok (.if_icmp .ge 17, 3) := by decide +kernel
theorem dX0_furthest_69 : decode cX0_furthest 69 = .ok (.goto 10, 3) := by decide +kernel
theorem dX0_furthest_72 : decode cX0_furthest 72 = .ok (.iload 7, 2) := by decide +kernel
theorem dX0_furthest_74 : decode cX0_furthest 74 = .ok (.iload 4, 2) := by decide +kernel
theorem dX0_furthest_76 : decode cX0_furthest 76 = .ok (.if_icmp .le 7, 3) := by decide +kernel
theorem dX0_furthest_79 : decode cX0_furthest 79 = .ok (.iload 7, 2) := by decide +kernel
theorem dX0_furthest_81 : decode cX0_furthest 81 = .ok (.istore 4, 2) := by decide +kernel
theorem dX0_furthest_83 : decode cX0_furthest 83 = .ok (.iinc 6 1, 3) := by decide +kernel
theorem dX0_furthest_86 : decode cX0_furthest 86 = .ok (.goto (-68), 3) := by decide +kernel
theorem dX0_furthest_89 : decode cX0_furthest 89 = .ok (.iload 4, 2) := by decide +kernel
theorem dX0_furthest_91 : decode cX0_furthest 91 = .ok (.ireturn, 1) := by decide +kernel
theorem dX1_init_0 : decode cX1_init 0 = .ok (.aload_n 0, 1) := by decide +kernel
theorem dX1_init_1 : decode cX1_init 1 = .ok (.invokespecial 3, 3) := by decide +kernel
theorem dX1_init_4 : decode cX1_init 4 = .ok (.aload_n 0, 1) := by decide +kernel
theorem dX1_init_5 : decode cX1_init 5 = .ok (.aload_n 1, 1) := by decide +kernel
theorem dX1_init_6 : decode cX1_init 6 = .ok (.putfield 9, 3) := by decide +kernel
theorem dX1_init_9 : decode cX1_init 9 = .ok (.aload_n 0, 1) := by decide +kernel
theorem dX1_init_10 : decode cX1_init 10 = .ok (.new 15, 3) := by decide +kernel
theorem dX1_init_13 : decode cX1_init 13 = .ok (.dup, 1) := by decide +kernel
theorem dX1_init_14 : decode cX1_init 14 = .ok (.invokespecial 17, 3) := by decide +kernel
theorem dX1_init_17 : decode cX1_init 17 = .ok (.putfield 18, 3) := by decide +kernel
theorem dX1_init_20 : decode cX1_init 20 = .ok (.aload_n 0, 1) := by decide +kernel
theorem dX1_init_21 : decode cX1_init 21 = .ok (.bipush 32, 2) := by decide +kernel
theorem dX1_init_23 : decode cX1_init 23 = .ok (.newarray .long, 2) := by decide +kernel
theorem dX1_init_25 : decode cX1_init 25 = .ok (.putfield 22, 3) := by decide +kernel
theorem dX1_init_28 : decode cX1_init 28 = .ok (.aload_n 0, 1) := by decide +kernel
theorem dX1_init_29 : decode cX1_init 29 = .ok (.iconst 3, 1) := by decide +kernel
theorem dX1_init_30 : decode cX1_init 30 = .ok (.newarray .int, 2) := by decide +kernel
theorem dX1_init_32 : decode cX1_init 32 = .ok (.putfield 26, 3) := by decide +kernel
theorem dX1_init_35 : decode cX1_init 35 = .ok (.aload_n 0, 1) := by decide +kernel
theorem dX1_init_36 : decode cX1_init 36 = .ok (.bipush 30, 2) := by decide +kernel
theorem dX1_init_38 : decode cX1_init 38 = .ok (.newarray .long, 2) := by decide +kernel
theorem dX1_init_40 : decode cX1_init 40 = .ok (.putfield 30, 3) := by decide +kernel
theorem dX1_init_43 : decode cX1_init 43 = .ok (.return_, 1) := by decide +kernel
theorem dX1_ready_0 : decode cX1_ready 0 = .ok (.aload_n 0, 1) := by decide +kernel
theorem dX1_ready_1 : decode cX1_ready 1 = .ok (.aload_n 1, 1) := by decide +kernel
theorem dX1_ready_2 : decode cX1_ready 2 = .ok (.putfield 9, 3) := by decide +kernel
theorem dX1_ready_5 : decode cX1_ready 5 = .ok (.aload_n 0, 1) := by decide +kernel
theorem dX1_ready_6 : decode cX1_ready 6 = .ok (.aload_n 2, 1) := by decide +kernel
theorem dX1_ready_7 : decode cX1_ready 7 = .ok (.putfield 18, 3) := by decide +kernel
theorem dX1_ready_10 : decode cX1_ready 10 = .ok (.iconst 1, 1) := by decide +kernel
theorem dX1_ready_11 : decode cX1_ready 11 = .ok (.aload_n 0, 1) := by decide +kernel
theorem dX1_ready_12 : decode cX1_ready 12 = .ok (.getfield 9, 3) := by decide +kernel
theorem dX1_ready_15 : decode cX1_ready 15 = .ok (.getfield 33, 3) := by decide +kernel
theorem dX1_ready_18 : decode cX1_ready 18 = .ok (.ishl, 1) := by decide +kernel
theorem dX1_ready_19 : decode cX1_ready 19 = .ok (.istore_n 3, 1) := by decide +kernel
theorem dX1_ready_20 : decode cX1_ready 20 = .ok (.iconst 1, 1) := by decide +kernel
theorem dX1_ready_21 : decode cX1_ready 21 = .ok (.istore 4, 2) := by decide +kernel
theorem dX1_ready_23 : decode cX1_ready 23 = .ok (.iload 4, 2) := by decide +kernel
theorem dX1_ready_25 : decode cX1_ready 25 = .ok (.bipush 32, 2) := by decide +kernel
theorem dX1_ready_27 : decode cX1_ready 27 = .ok (.if_icmp .ge 17, 3) := by decide +kernel
theorem dX1_ready_30 : decode cX1_ready 30 = .ok (.aload_n 0, 1) := by decide +kernel
theorem dX1_ready_31 : decode cX1_ready 31 = .ok (.getfield 22, 3) := by decide +kernel
theorem dX1_ready_34 : decode cX1_ready 34 = .ok (.iload 4, 2) := by decide +kernel
theorem dX1_ready_36 : decode cX1_ready 36 = .ok (.lconst 0, 1) := by decide +kernel
theorem dX1_ready_37 : decode cX1_ready 37 = .ok (.lastore, 1) := by decide +kernel
theorem dX1_ready_38 : decode cX1_ready 38 = .ok (.iinc 4 1, 3) := by decide +kernel
theorem dX1_ready_41 : decode cX1_ready 41 = .ok (.goto (-18), 3) := by decide +kernel
theorem dX1_ready_44 : decode cX1_ready 44 = .ok (.aload_n 0, 1) := by decide +kernel
theorem dX1_ready_45 : decode cX1_ready 45 = .ok (.getfield 22, 3) := by decide +kernel
theorem dX1_ready_48 : decode cX1_ready 48 = .ok (.iconst 0, 1) := by decide +kernel
theorem dX1_ready_49 : decode cX1_ready 49 = .ok (.lconst 1, 1) := by decide +kernel
theorem dX1_ready_50 : decode cX1_ready 50 = .ok (.lastore, 1) := by decide +kernel
theorem dX1_ready_51 : decode cX1_ready 51 = .ok (.iconst 0, 1) := by decide +kernel
theorem dX1_ready_52 : decode cX1_ready 52 = .ok (.istore 4, 2) := by decide +kernel
theorem dX1_ready_54 : decode cX1_ready 54 = .ok (.iload 4, 2) := by decide +kernel
theorem dX1_ready_56 : decode cX1_ready 56 = .ok (.aload_n 0, 1) := by decide +kernel
theorem dX1_ready_57 : decode cX1_ready 57 = .ok (.getfield 18, 3) := by decide +kernel
theorem dX1_ready_60 : decode cX1_ready 60 = .ok (.getfield 39, 3) := by decide +kernel
theorem dX1_ready_63 : decode cX1_ready 63 = .ok (.if_icmp .ge 38, 3) := by decide +kernel
theorem dX1_ready_66 : decode cX1_ready 66 = .ok (.iload_n 3, 1) := by decide +kernel
theorem dX1_ready_67 : decode cX1_ready 67 = .ok (.iconst 1, 1) := by decide +kernel
theorem dX1_ready_68 : decode cX1_ready 68 = .ok (.isub, 1) := by decide +kernel
theorem dX1_ready_69 : decode cX1_ready 69 = .ok (.istore 5, 2) := by decide +kernel
theorem dX1_ready_71 : decode cX1_ready 71 = .ok (.iload 5, 2) := by decide +kernel
theorem dX1_ready_73 : decode cX1_ready 73 = .ok (.ifCond .lt 22, 3) := by decide +kernel
theorem dX1_ready_76 : decode cX1_ready 76 = .ok (.aload_n 0, 1) := by decide +kernel
theorem dX1_ready_77 : decode cX1_ready 77 = .ok (.getfield 22, 3) := by decide +kernel
theorem dX1_ready_80 : decode cX1_ready 80 = .ok (.iload 5, 2) := by decide +kernel
theorem dX1_ready_82 : decode cX1_ready 82 = .ok (.aload_n 0, 1) := by decide +kernel
theorem dX1_ready_83 : decode cX1_ready 83 = .ok (.iload 5, 2) := by decide +kernel
theorem dX1_ready_85 : decode cX1_ready 85 = .ok (.invokevirtual 42, 3) := by decide +kernel
theorem dX1_ready_88 : decode cX1_ready 88 = .ok (.lastore, 1) := by decide +kernel
theorem dX1_ready_89 : decode cX1_ready 89 = .ok (.iinc 5 (-1), 3) := by decide +kernel
theorem dX1_ready_92 : decode cX1_ready 92 = .ok (.goto (-21), 3) := by decide +kernel
theorem dX1_ready_95 : decode cX1_ready 95 = .ok (.iinc 4 1, 3) := by decide +kernel
theorem dX1_ready_98 : decode cX1_ready 98 = .ok (.goto (-44), 3) := by decide +kernel
theorem dX1_ready_101 : decode cX1_ready 101 = .ok (.return_, 1) := by decide +kernel
theorem dX1_waysOfOneMore_0 : decode cX1_waysOfOneMore 0 = .ok (.lconst 0, 1) := by decide +kernel
theorem dX1_waysOfOneMore_1 : decode cX1_waysOfOneMore 1 = .ok (.lstore_n 2, 1) := by decide +kernel
theorem dX1_waysOfOneMore_2 : decode cX1_waysOfOneMore 2 = .ok (.iconst 0, 1) := by decide +kernel
theorem dX1_waysOfOneMore_3 : decode cX1_waysOfOneMore 3 = .ok (.istore 4, 2) := by decide +kernel
theorem dX1_waysOfOneMore_5 : decode cX1_waysOfOneMore 5 = .ok (.iload 4, 2) := by decide +kernel
theorem dX1_waysOfOneMore_7 : decode cX1_waysOfOneMore 7 = .ok (.aload_n 0, 1) := by decide +kernel
theorem dX1_waysOfOneMore_8 : decode cX1_waysOfOneMore 8 = .ok (.getfield 9, 3) := by decide +kernel
theorem dX1_waysOfOneMore_11 : decode cX1_waysOfOneMore 11 = .ok (.getfield 33, 3) := by decide +kernel
theorem dX1_waysOfOneMore_14 : decode cX1_waysOfOneMore 14 = .ok (.if_icmp .ge 53, 3) := by decide +kernel
theorem dX1_waysOfOneMore_17 : decode cX1_waysOfOneMore 17 = .ok (.iconst 1, 1) := by decide +kernel
theorem dX1_waysOfOneMore_18 : decode cX1_waysOfOneMore 18 = .ok (.iload 4, 2) := by decide +kernel
theorem dX1_waysOfOneMore_20 : decode cX1_waysOfOneMore 20 = .ok (.ishl, 1) := by decide +kernel
theorem dX1_waysOfOneMore_21 : decode cX1_waysOfOneMore 21 = .ok (.istore 5, 2) := by decide +kernel
theorem dX1_waysOfOneMore_23 : decode cX1_waysOfOneMore 23 = .ok (.iload_n 1, 1) := by decide +kernel
theorem dX1_waysOfOneMore_24 : decode cX1_waysOfOneMore 24 = .ok (.iload 5, 2) := by decide +kernel
theorem dX1_waysOfOneMore_26 : decode cX1_waysOfOneMore 26 = .ok (.iand, 1) := by decide +kernel
theorem dX1_waysOfOneMore_27 : decode cX1_waysOfOneMore 27 = .ok (.ifCond .eq 34, 3) := by decide +kernel
theorem dX1_waysOfOneMore_30 : decode cX1_waysOfOneMore 30 = .ok (.lload_n 2, 1) := by decide +kernel
theorem dX1_waysOfOneMore_31 : decode cX1_waysOfOneMore 31 = .ok (.aload_n 0, 1) := by decide +kernel
theorem dX1_waysOfOneMore_32 : decode cX1_waysOfOneMore 32 = .ok (.getfield 22, 3) := by decide +kernel
theorem dX1_waysOfOneMore_35 : decode cX1_waysOfOneMore 35 = .ok (.iload_n 1, 1) := by decide +kernel
theorem dX1_waysOfOneMore_36 : decode cX1_waysOfOneMore 36 = .ok (.laload, 1) := by decide +kernel
theorem dX1_waysOfOneMore_37 : decode cX1_waysOfOneMore 37 = .ok (.aload_n 0, 1) := by decide +kernel
theorem dX1_waysOfOneMore_38 : decode cX1_waysOfOneMore 38 = .ok (.getfield 22, 3) := by decide +kernel
theorem dX1_waysOfOneMore_41 : decode cX1_waysOfOneMore 41 = .ok (.iload_n 1, 1) := by decide +kernel
theorem dX1_waysOfOneMore_42 : decode cX1_waysOfOneMore 42 = .ok (.iload 5, 2) := by decide +kernel
theorem dX1_waysOfOneMore_44 : decode cX1_waysOfOneMore 44 = .ok (.ixor, 1) := by decide +kernel
theorem dX1_waysOfOneMore_45 : decode cX1_waysOfOneMore 45 = .ok (.laload, 1) := by decide +kernel
theorem dX1_waysOfOneMore_46 : decode cX1_waysOfOneMore 46 = .ok (.ladd, 1) := by decide +kernel
theorem dX1_waysOfOneMore_47 : decode cX1_waysOfOneMore 47 = .ok (.aload_n 0, 1) := by decide +kernel
theorem dX1_waysOfOneMore_48 : decode cX1_waysOfOneMore 48 = .ok (.getfield 9, 3) := by decide +kernel
theorem dX1_waysOfOneMore_51 : decode cX1_waysOfOneMore 51 = .ok (.getfield 46, 3) := by decide +kernel
theorem dX1_waysOfOneMore_54 : decode cX1_waysOfOneMore 54 = .ok (.iload 4, 2) := by decide +kernel
theorem dX1_waysOfOneMore_56 : decode cX1_waysOfOneMore 56 = .ok (.iaload, 1) := by decide +kernel
theorem dX1_waysOfOneMore_57 : decode cX1_waysOfOneMore 57 = .ok (.i2l, 1) := by decide +kernel
theorem dX1_waysOfOneMore_58 : decode cX1_waysOfOneMore 58 = .ok (.lmul, 1) := by decide +kernel
theorem dX1_waysOfOneMore_59 : decode cX1_waysOfOneMore 59 = .ok (.ladd, 1) := by decide +kernel
theorem dX1_waysOfOneMore_60 : decode cX1_waysOfOneMore 60 = .ok (.lstore_n 2, 1) := by decide +kernel
theorem dX1_waysOfOneMore_61 : decode cX1_waysOfOneMore 61 = .ok (.iinc 4 1, 3) := by decide +kernel
theorem dX1_waysOfOneMore_64 : decode cX1_waysOfOneMore 64 = .ok (.goto (-59), 3) := by decide +kernel
theorem dX1_waysOfOneMore_67 : decode cX1_waysOfOneMore 67 = .ok (.lload_n 2, 1) := by decide +kernel
theorem dX1_waysOfOneMore_68 : decode cX1_waysOfOneMore 68 = .ok (.lreturn, 1) := by decide +kernel
theorem dX1_weigh_0 : decode cX1_weigh 0 = .ok (.iconst 0, 1) := by decide +kernel
theorem dX1_weigh_1 : decode cX1_weigh 1 = .ok (.istore 4, 2) := by decide +kernel
theorem dX1_weigh_3 : decode cX1_weigh 3 = .ok (.iload 4, 2) := by decide +kernel
theorem dX1_weigh_5 : decode cX1_weigh 5 = .ok (.bipush 30, 2) := by decide +kernel
theorem dX1_weigh_7 : decode cX1_weigh 7 = .ok (.if_icmp .ge 17, 3) := by decide +kernel
theorem dX1_weigh_10 : decode cX1_weigh 10 = .ok (.aload_n 0, 1) := by decide +kernel
theorem dX1_weigh_11 : decode cX1_weigh 11 = .ok (.getfield 30, 3) := by decide +kernel
theorem dX1_weigh_14 : decode cX1_weigh 14 = .ok (.iload 4, 2) := by decide +kernel
theorem dX1_weigh_16 : decode cX1_weigh 16 = .ok (.lconst 0, 1) := by decide +kernel
theorem dX1_weigh_17 : decode cX1_weigh 17 = .ok (.lastore, 1) := by decide +kernel
theorem dX1_weigh_18 : decode cX1_weigh 18 = .ok (.iinc 4 1, 3) := by decide +kernel
theorem dX1_weigh_21 : decode cX1_weigh 21 = .ok (.goto (-18), 3) := by decide +kernel
theorem dX1_weigh_24 : decode cX1_weigh 24 = .ok (.aload_n 0, 1) := by decide +kernel
theorem dX1_weigh_25 : decode cX1_weigh 25 = .ok (.getfield 9, 3) := by decide +kernel
theorem dX1_weigh_28 : decode cX1_weigh 28 = .ok (.iload_n 3, 1) := by decide +kernel
theorem dX1_weigh_29 : decode cX1_weigh 29 = .ok (.invokevirtual 49, 3) := by decide +kernel
theorem dX1_weigh_32 : decode cX1_weigh 32 = .ok (.ifCond .eq 24, 3) := by decide +kernel
theorem dX1_weigh_35 : decode cX1_weigh 35 = .ok (.aload_n 0, 1) := by decide +kernel
theorem dX1_weigh_36 : decode cX1_weigh 36 = .ok (.getfield 30, 3) := by decide +kernel
theorem dX1_weigh_39 : decode cX1_weigh 39 = .ok (.aload_n 0, 1) := by decide +kernel
theorem dX1_weigh_40 : decode cX1_weigh 40 = .ok (.getfield 9, 3) := by decide +kernel
theorem dX1_weigh_43 : decode cX1_weigh 43 = .ok (.getfield 53, 3) := by decide +kernel
theorem dX1_weigh_46 : decode cX1_weigh 46 = .ok (.bipush 6, 2) := by decide +kernel
theorem dX1_weigh_48 : decode cX1_weigh 48 = .ok (.imul, 1) := by decide +kernel
theorem dX1_weigh_49 : decode cX1_weigh 49 = .ok (.iload_n 2, 1) := by decide +kernel
theorem dX1_weigh_50 : decode cX1_weigh 50 = .ok (.iadd, 1) := by decide +kernel
theorem dX1_weigh_51 : decode cX1_weigh 51 = .ok (.lconst 1, 1) := by decide +kernel
theorem dX1_weigh_52 : decode cX1_weigh 52 = .ok (.lastore, 1) := by decide +kernel
theorem dX1_weigh_53 : decode cX1_weigh 53 = .ok (.goto 46, 3) := by decide +kernel
theorem dX1_weigh_56 : decode cX1_weigh 56 = .ok (.aload_n 0, 1) := by decide +kernel
theorem dX1_weigh_57 : decode cX1_weigh 57 = .ok (.getfield 18, 3) := by decide +kernel
theorem dX1_weigh_60 : decode cX1_weigh 60 = .ok (.getfield 56, 3) := by decide +kernel
theorem dX1_weigh_63 : decode cX1_weigh 63 = .ok (.ifCond .ne 11, 3) := by decide +kernel
theorem dX1_weigh_66 : decode cX1_weigh 66 = .ok (.aload_n 0, 1) := by decide +kernel
theorem dX1_weigh_67 : decode cX1_weigh 67 = .ok (.aload_n 1, 1) := by decide +kernel
theorem dX1_weigh_68 : decode cX1_weigh 68 = .ok (.invokevirtual 59, 3) := by decide +kernel
theorem dX1_weigh_71 : decode cX1_weigh 71 = .ok (.goto 28, 3) := by decide +kernel
theorem dX1_weigh_74 : decode cX1_weigh 74 = .ok (.aload_n 0, 1) := by decide +kernel
theorem dX1_weigh_75 : decode cX1_weigh 75 = .ok (.getfield 18, 3) := by decide +kernel
theorem dX1_weigh_78 : decode cX1_weigh 78 = .ok (.getfield 56, 3) := by decide +kernel
theorem dX1_weigh_81 : decode cX1_weigh 81 = .ok (.iconst 2, 1) := by decide +kernel
theorem dX1_weigh_82 : decode cX1_weigh 82 = .ok (.if_icmp .ne 11, 3) := by decide +kernel
theorem dX1_weigh_85 : decode cX1_weigh 85 = .ok (.aload_n 0, 1) := by decide +kernel
theorem dX1_weigh_86 : decode cX1_weigh 86 = .ok (.aload_n 1, 1) := by decide +kernel
theorem dX1_weigh_87 : decode cX1_weigh 87 = .ok (.invokevirtual 63, 3) := by decide +kernel
theorem dX1_weigh_90 : decode cX1_weigh 90 = .ok (.goto 9, 3) := by decide +kernel
theorem dX1_weigh_93 : decode cX1_weigh 93 = .ok (.aload_n 0, 1) := by decide +kernel
theorem dX1_weigh_94 : decode cX1_weigh 94 = .ok (.aload_n 1, 1) := by decide +kernel
theorem dX1_weigh_95 : decode cX1_weigh 95 = .ok (.iload_n 2, 1) := by decide +kernel
theorem dX1_weigh_96 : decode cX1_weigh 96 = .ok (.invokevirtual 66, 3) := by decide +kernel
theorem dX1_weigh_99 : decode cX1_weigh 99 = .ok (.return_, 1) := by decide +kernel
theorem dX1_weighLots_0 : decode cX1_weighLots 0 = .ok (.iconst 0, 1) := by decide +kernel
theorem dX1_weighLots_1 : decode cX1_weighLots 1 = .ok (.istore_n 2, 1) := by decide +kernel
theorem dX1_weighLots_2 : decode cX1_weighLots 2 = .ok (.iload_n 2, 1) := by decide +kernel
theorem dX1_weighLots_3 : decode cX1_weighLots 3 = .ok (.aload_n 0, 1) := by decide +kernel
theorem dX1_weighLots_4 : decode cX1_weighLots 4 = .ok (.getfield 9, 3) := by decide +kernel
theorem dX1_weighLots_7 : decode cX1_weighLots 7 = .ok (.getfield 33, 3) := by decide +kernel
theorem dX1_weighLots_10 : decode cX1_weighLots 10 = .ok (.if_icmp .ge 126, 3) := by decide +kernel
theorem dX1_weighLots_13 : decode cX1_weighLots 13 = .ok (.lconst 0, 1) := by decide +kernel
theorem dX1_weighLots_14 : decode cX1_weighLots 14 = .ok (.lstore_n 3, 1) := by decide +kernel
theorem dX1_weighLots_15 : decode cX1_weighLots 15 = .ok (.lconst 0, 1) := by decide +kernel
theorem dX1_weighLots_16 : decode cX1_weighLots 16 = .ok (.lstore 5, 2) := by decide +kernel
theorem dX1_weighLots_18 : decode cX1_weighLots 18 = .ok (.iconst 0, 1) := by decide +kernel
theorem dX1_weighLots_19 : decode cX1_weighLots 19 = .ok (.istore 7, 2) := by decide +kernel
theorem dX1_weighLots_21 : decode cX1_weighLots 21 = .ok (.iload 7, 2) := by decide +kernel
theorem dX1_weighLots_23 : decode cX1_weighLots 23 = .ok (.aload_n 0, 1) := by decide +kernel
theorem dX1_weighLots_24 : decode cX1_weighLots 24 = .ok (.getfield 9, 3) := by decide +kernel
theorem dX1_weighLots_27 : decode cX1_weighLots 27 = .ok (.getfield 33, 3) := by decide +kernel
theorem dX1_weighLots_30 : decode cX1_weighLots 30 = .ok (.if_icmp .ge 67, 3) := by decide +kernel
theorem dX1_weighLots_33 : decode cX1_weighLots 33 = .ok (.lload_n 3, 1) := by decide +kernel
theorem dX1_weighLots_34 : decode cX1_weighLots 34 = .ok (.aload_n 1, 1) := by decide +kernel
theorem dX1_weighLots_35 : decode cX1_weighLots 35 = .ok (.iload 7, 2) := by decide +kernel
theorem dX1_weighLots_37 : decode cX1_weighLots 37 = .ok (.iaload, 1) := by decide +kernel
theorem dX1_weighLots_38 : decode cX1_weighLots 38 = .ok (.aload_n 1, 1) := by decide +kernel
theorem dX1_weighLots_39 : decode cX1_weighLots 39 = .ok (.iload_n 2, 1) := by decide +kernel
theorem dX1_weighLots_40 : decode cX1_weighLots 40 = .ok (.iaload, 1) := by decide +kernel
theorem dX1_weighLots_41 : decode cX1_weighLots 41 = .ok (.if_icmp .le 17, 3) := by decide +kernel
theorem dX1_weighLots_44 : decode cX1_weighLots 44 = .ok (.aload_n 0, 1) := by decide +kernel
theorem dX1_weighLots_45 : decode cX1_weighLots 45 = .ok (.getfield 9, 3) := by decide +kernel
theorem dX1_weighLots_48 : decode cX1_weighLots 48 = .ok (.getfield 46, 3) := by decide +kernel
theorem dX1_weighLots_51 : decode cX1_weighLots 51 = .ok (.iload 7, 2) := by decide +kernel
theorem dX1_weighLots_53 : decode cX1_weighLots 53 = .ok (.iaload, 1) := by decide +kernel
theorem dX1_weighLots_54 : decode cX1_weighLots 54 = .ok (.i2l, 1) := by decide +kernel
theorem dX1_weighLots_55 : decode cX1_weighLots 55 = .ok (.goto 4, 3) := by decide +kernel
theorem dX1_weighLots_58 : decode cX1_weighLots 58 = .ok (.lconst 0, 1) := by decide +kernel
theorem dX1_weighLots_59 : decode cX1_weighLots 59 = .ok (.ladd, 1) := by decide +kernel
theorem dX1_weighLots_60 : decode cX1_weighLots 60 = .ok (.lstore_n 3, 1) := by decide +kernel
theorem dX1_weighLots_61 : decode cX1_weighLots 61 = .ok (.lload 5, 2) := by decide +kernel
theorem dX1_weighLots_63 : decode cX1_weighLots 63 = .ok (.aload_n 1, 1) := by decide +kernel
theorem dX1_weighLots_64 : decode cX1_weighLots 64 = .ok (.iload 7, 2) := by decide +kernel
theorem dX1_weighLots_66 : decode cX1_weighLots 66 = .ok (.iaload, 1) := by decide +kernel
theorem dX1_weighLots_67 : decode cX1_weighLots 67 = .ok (.aload_n 1, 1) := by decide +kernel
theorem dX1_weighLots_68 : decode cX1_weighLots 68 = .ok (.iload_n 2, 1) := by decide +kernel
theorem dX1_weighLots_69 : decode cX1_weighLots 69 = .ok (.iaload, 1) := by decide +kernel
theorem dX1_weighLots_70 : decode cX1_weighLots 70 = .ok (.if_icmp .lt 17, 3) := by decide +kernel
theorem dX1_weighLots_73 : decode cX1_weighLots 73 = .ok (.aload_n 0, 1) := by decide +kernel
theorem dX1_weighLots_74 : decode cX1_weighLots 74 = .ok (.getfield 9, 3) := by decide +kernel
theorem dX1_weighLots_77 : decode cX1_weighLots 77 = .ok (.getfield 46, 3) := by decide +kernel
theorem dX1_weighLots_80 : decode cX1_weighLots 80 = .ok (.iload 7, 2) := by decide +kernel
theorem dX1_weighLots_82 : decode cX1_weighLots 82 = .ok (.iaload, 1) := by decide +kernel
theorem dX1_weighLots_83 : decode cX1_weighLots 83 = .ok (.i2l, 1) := by decide +kernel
theorem dX1_weighLots_84 : decode cX1_weighLots 84 = .ok (.goto 4, 3) := by decide +kernel
theorem dX1_weighLots_87 : decode cX1_weighLots 87 = .ok (.lconst 0, 1) := by decide +kernel
theorem dX1_weighLots_88 : decode cX1_weighLots 88 = .ok (.ladd, 1) := by decide +kernel
theorem dX1_weighLots_89 : decode cX1_weighLots 89 = .ok (.lstore 5, 2) := by decide +kernel
theorem dX1_weighLots_91 : decode cX1_weighLots 91 = .ok (.iinc 7 1, 3) := by decide +kernel
theorem dX1_weighLots_94 : decode cX1_weighLots 94 = .ok (.goto (-73), 3) := by decide +kernel
theorem dX1_weighLots_97 : decode cX1_weighLots 97 = .ok (.aload_n 0, 1) := by decide +kernel
theorem dX1_weighLots_98 : decode cX1_weighLots 98 = .ok (.getfield 30, 3) := by decide +kernel
theorem dX1_weighLots_101 : decode cX1_weighLots 101 = .ok (.iload_n 2, 1) := by decide +kernel
theorem dX1_weighLots_102 : decode cX1_weighLots 102 = .ok (.bipush 6, 2) := by decide +kernel
theorem dX1_weighLots_104 : decode cX1_weighLots 104 = .ok (.imul, 1) := by decide +kernel
theorem dX1_weighLots_105 : decode cX1_weighLots 105 = .ok (.aload_n 0, 1) := by decide +kernel
theorem dX1_weighLots_106 : decode cX1_weighLots 106 = .ok (.getfield 9, 3) := by decide +kernel
theorem dX1_weighLots_109 : decode cX1_weighLots 109 = .ok (.getfield 46, 3) := by decide +kernel
theorem dX1_weighLots_112 : decode cX1_weighLots 112 = .ok (.iload_n 2, 1) := by decide +kernel
theorem dX1_weighLots_113 : decode cX1_weighLots 113 = .ok (.iaload, 1) := by decide +kernel
theorem dX1_weighLots_114 : decode cX1_weighLots 114 = .ok (.i2l, 1) := by decide +kernel
theorem dX1_weighLots_115 : decode cX1_weighLots 115 = .ok (.lload 5, 2) := by decide +kernel
theorem dX1_weighLots_117 : decode cX1_weighLots 117 = .ok (.lload_n 3, 1) := by decide +kernel
theorem dX1_weighLots_118 : decode cX1_weighLots 118 = .ok (.aload_n 0, 1) := by decide +kernel
theorem dX1_weighLots_119 : decode cX1_weighLots 119 = .ok (.getfield 18, 3) := by decide +kernel
theorem dX1_weighLots_122 : decode cX1_weighLots 122 = .ok (.getfield 39, 3) := by decide +kernel
theorem dX1_weighLots_125 : decode cX1_weighLots 125 = .ok (.invokestatic 70, 3) := by decide +kernel
theorem dX1_weighLots_128 : decode cX1_weighLots 128 = .ok (.lmul, 1) := by decide +kernel
theorem dX1_weighLots_129 : decode cX1_weighLots 129 = .ok (.lastore, 1) := by decide +kernel
theorem dX1_weighLots_130 : decode cX1_weighLots 130 = .ok (.iinc 2 1, 3) := by decide +kernel
theorem dX1_weighLots_133 : decode cX1_weighLots 133 = .ok (.goto (-131), 3) := by decide +kernel
theorem dX1_weighLots_136 : decode cX1_weighLots 136 = .ok (.return_, 1) := by decide +kernel
theorem dX1_weighLazy_0 : decode cX1_weighLazy 0 = .ok (.lconst 0, 1) := by decide +kernel
theorem dX1_weighLazy_1 : decode cX1_weighLazy 1 = .ok (.lstore_n 2, 1) := by decide +kernel
theorem dX1_weighLazy_2 : decode cX1_weighLazy 2 = .ok (.iconst 0, 1) := by decide +kernel
theorem dX1_weighLazy_3 : decode cX1_weighLazy 3 = .ok (.istore 4, 2) := by decide +kernel
theorem dX1_weighLazy_5 : decode cX1_weighLazy 5 = .ok (.iload 4, 2) := by decide +kernel
theorem dX1_weighLazy_7 : decode cX1_weighLazy 7 = .ok (.aload_n 0, 1) := by decide +kernel
theorem dX1_weighLazy_8 : decode cX1_weighLazy 8 = .ok (.getfield 9, 3) := by decide +kernel
theorem dX1_weighLazy_11 : decode cX1_weighLazy 11 = .ok (.getfield 33, 3) := by decide +kernel
theorem dX1_weighLazy_14 : decode cX1_weighLazy 14 = .ok (.if_icmp .ge 41, 3) := by decide +kernel
theorem dX1_weighLazy_17 : decode cX1_weighLazy 17 = .ok (.lload_n 2, 1) := by decide +kernel
theorem dX1_weighLazy_18 : decode cX1_weighLazy 18 = .ok (.aload_n 1, 1) := by decide +kernel
theorem dX1_weighLazy_19 : decode cX1_weighLazy 19 = .ok (.iload 4, 2) := by decide +kernel
theorem dX1_weighLazy_21 : decode cX1_weighLazy 21 = .ok (.iaload, 1) := by decide +kernel
theorem dX1_weighLazy_22 : decode cX1_weighLazy 22 = .ok (.aload_n 0, 1) := by decide +kernel
theorem dX1_weighLazy_23 : decode cX1_weighLazy 23 = .ok (.getfield 18, 3) := by decide +kernel
theorem dX1_weighLazy_26 : decode cX1_weighLazy 26 = .ok (.getfield 74, 3) := by decide +kernel
theorem dX1_weighLazy_29 : decode cX1_weighLazy 29 = .ok (.if_icmp .le 17, 3) := by decide +kernel
theorem dX1_weighLazy_32 : decode cX1_weighLazy 32 = .ok (.aload_n 0, 1) := by decide +kernel
theorem dX1_weighLazy_33 : decode cX1_weighLazy 33 = .ok (.getfield 9, 3) := by decide +kernel
theorem dX1_weighLazy_36 : decode cX1_weighLazy 36 = .ok (.getfield 46, 3) := by decide +kernel
theorem dX1_weighLazy_39 : decode cX1_weighLazy 39 = .ok (.iload 4, 2) := by decide +kernel
theorem dX1_weighLazy_41 : decode cX1_weighLazy 41 = .ok (.iaload, 1) := by decide +kernel
theorem dX1_weighLazy_42 : decode cX1_weighLazy 42 = .ok (.i2l, 1) := by decide +kernel
theorem dX1_weighLazy_43 : decode cX1_weighLazy 43 = .ok (.goto 4, 3) := by decide +kernel
theorem dX1_weighLazy_46 : decode cX1_weighLazy 46 = .ok (.lconst 0, 1) := by decide +kernel
theorem dX1_weighLazy_47 : decode cX1_weighLazy 47 = .ok (.ladd, 1) := by decide +kernel
theorem dX1_weighLazy_48 : decode cX1_weighLazy 48 = .ok (.lstore_n 2, 1) := by decide +kernel
theorem dX1_weighLazy_49 : decode cX1_weighLazy 49 = .ok (.iinc 4 1, 3) := by decide +kernel
theorem dX1_weighLazy_52 : decode cX1_weighLazy 52 = .ok (.goto (-47), 3) := by decide +kernel
theorem dX1_weighLazy_55 : decode cX1_weighLazy 55 = .ok (.iconst 0, 1) := by decide +kernel
theorem dX1_weighLazy_56 : decode cX1_weighLazy 56 = .ok (.istore 4, 2) := by decide +kernel
theorem dX1_weighLazy_58 : decode cX1_weighLazy 58 = .ok (.iload 4, 2) := by decide +kernel
theorem dX1_weighLazy_60 : decode cX1_weighLazy 60 = .ok (.aload_n 0, 1) := by decide +kernel
theorem dX1_weighLazy_61 : decode cX1_weighLazy 61 = .ok (.getfield 9, 3) := by decide +kernel
theorem dX1_weighLazy_64 : decode cX1_weighLazy 64 = .ok (.getfield 33, 3) := by decide +kernel
theorem dX1_weighLazy_67 : decode cX1_weighLazy 67 = .ok (.if_icmp .ge 72, 3) := by decide +kernel
theorem dX1_weighLazy_70 : decode cX1_weighLazy 70 = .ok (.aload_n 1, 1) := by decide +kernel
theorem dX1_weighLazy_71 : decode cX1_weighLazy 71 = .ok (.iload 4, 2) := by decide +kernel
theorem dX1_weighLazy_73 : decode cX1_weighLazy 73 = .ok (.iaload, 1) := by decide +kernel
theorem dX1_weighLazy_74 : decode cX1_weighLazy 74 = .ok (.aload_n 0, 1) := by decide +kernel
theorem dX1_weighLazy_75 : decode cX1_weighLazy 75 = .ok (.getfield 18, 3) := by decide +kernel
theorem dX1_weighLazy_78 : decode cX1_weighLazy 78 = .ok (.getfield 74, 3) := by decide +kernel
theorem dX1_weighLazy_81 : decode cX1_weighLazy 81 = .ok (.if_icmp .le 7, 3) := by decide +kernel
theorem dX1_weighLazy_84 : decode cX1_weighLazy 84 = .ok (.lconst 0, 1) := by decide +kernel
theorem dX1_weighLazy_85 : decode cX1_weighLazy 85 = .ok (.goto 11, 3) := by decide +kernel
theorem dX1_weighLazy_88 : decode cX1_weighLazy 88 = .ok (.aload_n 0, 1) := by decide +kernel
theorem dX1_weighLazy_89 : decode cX1_weighLazy 89 = .ok (.getfield 9, 3) := by decide +kernel
theorem dX1_weighLazy_92 : decode cX1_weighLazy 92 = .ok (.getfield 77, 3) := by decide +kernel
theorem dX1_weighLazy_95 : decode cX1_weighLazy 95 = .ok (.i2l, 1) := by decide +kernel
theorem dX1_weighLazy_96 : decode cX1_weighLazy 96 = .ok (.lstore 5, 2) := by decide +kernel
theorem dX1_weighLazy_98 : decode cX1_weighLazy 98 = .ok (.aload_n 0, 1) := by decide +kernel
theorem dX1_weighLazy_99 : decode cX1_weighLazy 99 = .ok (.getfield 30, 3) := by decide +kernel
theorem dX1_weighLazy_102 : decode cX1_weighLazy 102 = .ok (.iload 4, 2) := by decide +kernel
theorem dX1_weighLazy_104 : decode cX1_weighLazy 104 = .ok (.bipush 6, 2) := by decide +kernel
theorem dX1_weighLazy_106 : decode cX1_weighLazy 106 = .ok (.imul, 1) := by decide +kernel
theorem dX1_weighLazy_107 : decode cX1_weighLazy 107 = .ok (.aload_n 0, 1) := by decide +kernel
theorem dX1_weighLazy_108 : decode cX1_weighLazy 108 = .ok (.getfield 9, 3) := by decide +kernel
theorem dX1_weighLazy_111 : decode cX1_weighLazy 111 = .ok (.getfield 46, 3) := by decide +kernel
theorem dX1_weighLazy_114 : decode cX1_weighLazy 114 = .ok (.iload 4, 2) := by decide +kernel
theorem dX1_weighLazy_116 : decode cX1_weighLazy 116 = .ok (.iaload, 1) := by decide +kernel
theorem dX1_weighLazy_117 : decode cX1_weighLazy 117 = .ok (.i2l, 1) := by decide +kernel
theorem dX1_weighLazy_118 : decode cX1_weighLazy 118 = .ok (.lload 5, 2) := by decide +kernel
theorem dX1_weighLazy_120 : decode cX1_weighLazy 120 = .ok (.lload_n 2, 1) := by decide +kernel
theorem dX1_weighLazy_121 : decode cX1_weighLazy 121 = .ok (.aload_n 0, 1) := by decide +kernel
theorem dX1_weighLazy_122 : decode cX1_weighLazy 122 = .ok (.getfield 18, 3) := by decide +kernel
theorem dX1_weighLazy_125 : decode cX1_weighLazy 125 = .ok (.getfield 39, 3) := by decide +kernel
theorem dX1_weighLazy_128 : decode cX1_weighLazy 128 = .ok (.invokestatic 70, 3) := by decide +kernel
theorem dX1_weighLazy_131 : decode cX1_weighLazy 131 = .ok (.lmul, 1) := by decide +kernel
theorem dX1_weighLazy_132 : decode cX1_weighLazy 132 = .ok (.lastore, 1) := by decide +kernel
theorem dX1_weighLazy_133 : decode cX1_weighLazy 133 = .ok (.iinc 4 1, 3) := by decide +kernel
theorem dX1_weighLazy_136 : decode cX1_weighLazy 136 = .ok (.goto (-78), 3) := by decide +kernel
theorem dX1_weighLazy_139 : decode cX1_weighLazy 139 = .ok (.return_, 1) := by decide +kernel
theorem dX1_weighSeen_0 : decode cX1_weighSeen 0 = .ok (.iconst 1, 1) := by decide +kernel
theorem dX1_weighSeen_1 : decode cX1_weighSeen 1 = .ok (.aload_n 0, 1) := by decide +kernel
theorem dX1_weighSeen_2 : decode cX1_weighSeen 2 = .ok (.getfield 9, 3) := by decide +kernel
theorem dX1_weighSeen_5 : decode cX1_weighSeen 5 = .ok (.getfield 33, 3) := by decide +kernel
theorem dX1_weighSeen_8 : decode cX1_weighSeen 8 = .ok (.ishl, 1) := by decide +kernel
theorem dX1_weighSeen_9 : decode cX1_weighSeen 9 = .ok (.istore_n 3, 1) := by decide +kernel
theorem dX1_weighSeen_10 : decode cX1_weighSeen 10 = .ok (.iconst 1, 1) := by decide +kernel
theorem dX1_weighSeen_11 : decode cX1_weighSeen 11 = .ok (.istore 4, 2) := by decide +kernel
theorem dX1_weighSeen_13 : decode cX1_weighSeen 13 = .ok (.iload 4, 2) := by decide +kernel
theorem dX1_weighSeen_15 : decode cX1_weighSeen 15 = .ok (.iload_n 3, 1) := by decide +kernel
theorem dX1_weighSeen_16 : decode cX1_weighSeen 16 = .ok (.if_icmp .ge 108, 3) := by decide +kernel
theorem dX1_weighSeen_19 : decode cX1_weighSeen 19 = .ok (.aload_n 0, 1) := by decide +kernel
theorem dX1_weighSeen_20 : decode cX1_weighSeen 20 = .ok (.getfield 22, 3) := by decide +kernel
theorem dX1_weighSeen_23 : decode cX1_weighSeen 23 = .ok (.iload 4, 2) := by decide +kernel
theorem dX1_weighSeen_25 : decode cX1_weighSeen 25 = .ok (.laload, 1) := by decide +kernel
theorem dX1_weighSeen_26 : decode cX1_weighSeen 26 = .ok (.lconst 0, 1) := by decide +kernel
theorem dX1_weighSeen_27 : decode cX1_weighSeen 27 = .ok (.lcmp, 1) := by decide +kernel
theorem dX1_weighSeen_28 : decode cX1_weighSeen 28 = .ok (.ifCond .le 90, 3) := by decide +kernel
theorem dX1_weighSeen_31 : decode cX1_weighSeen 31 = .ok (.aload_n 0, 1) := by decide +kernel
theorem dX1_weighSeen_32 : decode cX1_weighSeen 32 = .ok (.iload 4, 2) := by decide +kernel
theorem dX1_weighSeen_34 : decode cX1_weighSeen 34 = .ok (.iload_n 2, 1) := by decide +kernel
theorem dX1_weighSeen_35 : decode cX1_weighSeen 35 = .ok (.invokevirtual 80, 3) := by decide +kernel
theorem dX1_weighSeen_38 : decode cX1_weighSeen 38 = .ok (.istore 5, 2) := by decide +kernel
theorem dX1_weighSeen_40 : decode cX1_weighSeen 40 = .ok (.aload_n 0, 1) := by decide +kernel
theorem dX1_weighSeen_41 : decode cX1_weighSeen 41 = .ok (.aload_n 1, 1) := by decide +kernel
theorem dX1_weighSeen_42 : decode cX1_weighSeen 42 = .ok (.iload 5, 2) := by decide +kernel
theorem dX1_weighSeen_44 : decode cX1_weighSeen 44 = .ok (.iconst (-1), 1) := by decide +kernel
theorem dX1_weighSeen_45 : decode cX1_weighSeen 45 = .ok (.invokevirtual 84, 3) := by decide +kernel
theorem dX1_weighSeen_48 : decode cX1_weighSeen 48 = .ok (.istore 6, 2) := by decide +kernel
theorem dX1_weighSeen_50 : decode cX1_weighSeen 50 = .ok (.aload_n 0, 1) := by decide +kernel
theorem dX1_weighSeen_51 : decode cX1_weighSeen 51 = .ok (.getfield 9, 3) := by decide +kernel
theorem dX1_weighSeen_54 : decode cX1_weighSeen 54 = .ok (.aload_n 1, 1) := by decide +kernel
theorem dX1_weighSeen_55 : decode cX1_weighSeen 55 = .ok (.iload 6, 2) := by decide +kernel
theorem dX1_weighSeen_57 : decode cX1_weighSeen 57 = .ok (.invokevirtual 88, 3) := by decide +kernel
theorem dX1_weighSeen_60 : decode cX1_weighSeen 60 = .ok (.istore 7, 2) := by decide +kernel
theorem dX1_weighSeen_62 : decode cX1_weighSeen 62 = .ok (.aload_n 0, 1) := by decide +kernel
theorem dX1_weighSeen_63 : decode cX1_weighSeen 63 = .ok (.getfield 18, 3) := by decide +kernel
theorem dX1_weighSeen_66 : decode cX1_weighSeen 66 = .ok (.getfield 56, 3) := by decide +kernel
theorem dX1_weighSeen_69 : decode cX1_weighSeen 69 = .ok (.iconst 4, 1) := by decide +kernel
theorem dX1_weighSeen_70 : decode cX1_weighSeen 70 = .ok (.if_icmp .ne 17, 3) := by decide +kernel
theorem dX1_weighSeen_73 : decode cX1_weighSeen 73 = .ok (.aload_n 0, 1) := by decide +kernel
theorem dX1_weighSeen_74 : decode cX1_weighSeen 74 = .ok (.aload_n 1, 1) := by decide +kernel
theorem dX1_weighSeen_75 : decode cX1_weighSeen 75 = .ok (.iload 5, 2) := by decide +kernel
theorem dX1_weighSeen_77 : decode cX1_weighSeen 77 = .ok (.iload 7, 2) := by decide +kernel
theorem dX1_weighSeen_79 : decode cX1_weighSeen 79 = .ok (.invokevirtual 84, 3) := by decide +kernel
theorem dX1_weighSeen_82 : decode cX1_weighSeen 82 = .ok (.iconst 1, 1) := by decide +kernel
theorem dX1_weighSeen_83 : decode cX1_weighSeen 83 = .ok (.iadd, 1) := by decide +kernel
theorem dX1_weighSeen_84 : decode cX1_weighSeen 84 = .ok (.goto 4, 3) := by decide +kernel
theorem dX1_weighSeen_87 : decode cX1_weighSeen 87 = .ok (.iconst 0, 1) := by decide +kernel
theorem dX1_weighSeen_88 : decode cX1_weighSeen 88 = .ok (.istore 8, 2) := by decide +kernel
theorem dX1_weighSeen_90 : decode cX1_weighSeen 90 = .ok (.iload 6, 2) := by decide +kernel
theorem dX1_weighSeen_92 : decode cX1_weighSeen 92 = .ok (.ifCond .lt 26, 3) := by decide +kernel
theorem dX1_weighSeen_95 : decode cX1_weighSeen 95 = .ok (.aload_n 0, 1) := by decide +kernel
theorem dX1_weighSeen_96 : decode cX1_weighSeen 96 = .ok (.getfield 30, 3) := by decide +kernel
theorem dX1_weighSeen_99 : decode cX1_weighSeen 99 = .ok (.iload 6, 2) := by decide +kernel
theorem dX1_weighSeen_101 : decode cX1_weighSeen 101 = .ok (.bipush 6, 2) := by decide +kernel
theorem dX1_weighSeen_103 : decode cX1_weighSeen 103 = .ok (.imul, 1) := by decide +kernel
theorem dX1_weighSeen_104 : decode cX1_weighSeen 104 = .ok (.iload 8, 2) := by decide +kernel
theorem dX1_weighSeen_106 : decode cX1_weighSeen 106 = .ok (.iadd, 1) := by decide +kernel
theorem dX1_weighSeen_107 : decode cX1_weighSeen 107 = .ok (.dup2, 1) := by decide +kernel
theorem dX1_weighSeen_108 : decode cX1_weighSeen 108 = .ok (.laload, 1) := by decide +kernel
theorem dX1_weighSeen_109 : decode cX1_weighSeen 109 = .ok (.aload_n 0, 1) := by decide +kernel
theorem dX1_weighSeen_110 : decode cX1_weighSeen 110 = .ok (.getfield 22, 3) := by decide +kernel
theorem dX1_weighSeen_113 : decode cX1_weighSeen 113 = .ok (.iload 4, 2) := by decide +kernel
theorem dX1_weighSeen_115 : decode cX1_weighSeen 115 = .ok (.laload, 1) := by decide +kernel
theorem dX1_weighSeen_116 : decode cX1_weighSeen 116 = .ok (.ladd, 1) := by decide +kernel
theorem dX1_weighSeen_117 : decode cX1_weighSeen 117 = .ok (.lastore, 1) := by decide +kernel
theorem dX1_weighSeen_118 : decode cX1_weighSeen 118 = .ok (.iinc 4 1, 3) := by decide +kernel
theorem dX1_weighSeen_121 : decode cX1_weighSeen 121 = .ok (.goto (-108), 3) := by decide +kernel
theorem dX1_weighSeen_124 : decode cX1_weighSeen 124 = .ok (.return_, 1) := by decide +kernel
theorem dX1_mixed_0 : decode cX1_mixed 0 = .ok (.lconst 0, 1) := by decide +kernel
theorem dX1_mixed_1 : decode cX1_mixed 1 = .ok (.lstore 5, 2) := by decide +kernel
theorem dX1_mixed_3 : decode cX1_mixed 3 = .ok (.lconst 1, 1) := by decide +kernel
theorem dX1_mixed_4 : decode cX1_mixed 4 = .ok (.lstore 7, 2) := by decide +kernel
theorem dX1_mixed_6 : decode cX1_mixed 6 = .ok (.iconst 0, 1) := by decide +kernel
theorem dX1_mixed_7 : decode cX1_mixed 7 = .ok (.istore 9, 2) := by decide +kernel
theorem dX1_mixed_9 : decode cX1_mixed 9 = .ok (.iload 9, 2) := by decide +kernel
theorem dX1_mixed_11 : decode cX1_mixed 11 = .ok (.iload 4, 2) := by decide +kernel
theorem dX1_mixed_13 : decode cX1_mixed 13 = .ok (.if_icmp .ge 24, 3) := by decide +kernel
theorem dX1_mixed_16 : decode cX1_mixed 16 = .ok (.lload 5, 2) := by decide +kernel
theorem dX1_mixed_18 : decode cX1_mixed 18 = .ok (.lload_n 0, 1) := by decide +kernel
theorem dX1_mixed_19 : decode cX1_mixed 19 = .ok (.lmul, 1) := by decide +kernel
theorem dX1_mixed_20 : decode cX1_mixed 20 = .ok (.lload 7, 2) := by decide +kernel
theorem dX1_mixed_22 : decode cX1_mixed 22 = .ok (.ladd, 1) := by decide +kernel
theorem dX1_mixed_23 : decode cX1_mixed 23 = .ok (.lstore 5, 2) := by decide +kernel
theorem dX1_mixed_25 : decode cX1_mixed 25 = .ok (.lload 7, 2) := by decide +kernel
theorem dX1_mixed_27 : decode cX1_mixed 27 = .ok (.lload_n 2, 1) := by decide +kernel
theorem dX1_mixed_28 : decode cX1_mixed 28 = .ok (.lmul, 1) := by decide +kernel
theorem dX1_mixed_29 : decode cX1_mixed 29 = .ok (.lstore 7, 2) := by decide +kernel
theorem dX1_mixed_31 : decode cX1_mixed 31 = .ok (.iinc 9 1, 3) := by decide +kernel
theorem dX1_mixed_34 : decode cX1_mixed 34 = .ok (.goto (-25), 3) := by decide +kernel
theorem dX1_mixed_37 : decode cX1_mixed 37 = .ok (.lload 5, 2) := by decide +kernel
theorem dX1_mixed_39 : decode cX1_mixed 39 = .ok (.lreturn, 1) := by decide +kernel
theorem dX1_lookedAt_0 : decode cX1_lookedAt 0 = .ok (.aload_n 0, 1) := by decide +kernel
theorem dX1_lookedAt_1 : decode cX1_lookedAt 1 = .ok (.getfield 18, 3) := by decide +kernel
theorem dX1_lookedAt_4 : decode cX1_lookedAt 4 = .ok (.getfield 56, 3) := by decide +kernel
theorem dX1_lookedAt_7 : decode cX1_lookedAt 7 = .ok (.iconst 3, 1) := by decide +kernel
theorem dX1_lookedAt_8 : decode cX1_lookedAt 8 = .ok (.if_icmp .ne 33, 3) := by decide +kernel
theorem dX1_lookedAt_11 : decode cX1_lookedAt 11 = .ok (.iload_n 1, 1) := by decide +kernel
theorem dX1_lookedAt_12 : decode cX1_lookedAt 12 = .ok (.iconst 1, 1) := by decide +kernel
theorem dX1_lookedAt_13 : decode cX1_lookedAt 13 = .ok (.ishl, 1) := by decide +kernel
theorem dX1_lookedAt_14 : decode cX1_lookedAt 14 = .ok (.istore_n 3, 1) := by decide +kernel
theorem dX1_lookedAt_15 : decode cX1_lookedAt 15 = .ok (.iload_n 1, 1) := by decide +kernel
theorem dX1_lookedAt_16 : decode cX1_lookedAt 16 = .ok (.iload_n 3, 1) := by decide +kernel
theorem dX1_lookedAt_17 : decode cX1_lookedAt 17 = .ok (.iconst 1, 1) := by decide +kernel
theorem dX1_lookedAt_18 : decode cX1_lookedAt 18 = .ok (.aload_n 0, 1) := by decide +kernel
theorem dX1_lookedAt_19 : decode cX1_lookedAt 19 = .ok (.getfield 9, 3) := by decide +kernel
theorem dX1_lookedAt_22 : decode cX1_lookedAt 22 = .ok (.getfield 33, 3) := by decide +kernel
theorem dX1_lookedAt_25 : decode cX1_lookedAt 25 = .ok (.ishl, 1) := by decide +kernel
theorem dX1_lookedAt_26 : decode cX1_lookedAt 26 = .ok (.iconst 1, 1) := by decide +kernel
theorem dX1_lookedAt_27 : decode cX1_lookedAt 27 = .ok (.isub, 1) := by decide +kernel
theorem dX1_lookedAt_28 : decode cX1_lookedAt 28 = .ok (.iand, 1) := by decide +kernel
theorem dX1_lookedAt_29 : decode cX1_lookedAt 29 = .ok (.ior, 1) := by decide +kernel
theorem dX1_lookedAt_30 : decode cX1_lookedAt 30 = .ok (.iload_n 3, 1) := by decide +kernel
theorem dX1_lookedAt_31 : decode cX1_lookedAt 31 = .ok (.aload_n 0, 1) := by decide +kernel
theorem dX1_lookedAt_32 : decode cX1_lookedAt 32 = .ok (.getfield 9, 3) := by decide +kernel
theorem dX1_lookedAt_35 : decode cX1_lookedAt 35 = .ok (.getfield 33, 3) := by decide +kernel
theorem dX1_lookedAt_38 : decode cX1_lookedAt 38 = .ok (.ishr, 1) := by decide +kernel
theorem dX1_lookedAt_39 : decode cX1_lookedAt 39 = .ok (.ior, 1) := by decide +kernel
theorem dX1_lookedAt_40 : decode cX1_lookedAt 40 = .ok (.ireturn, 1) := by decide +kernel
theorem dX1_lookedAt_41 : decode cX1_lookedAt 41 = .ok (.aload_n 0, 1) := by decide +kernel
theorem dX1_lookedAt_42 : decode cX1_lookedAt 42 = .ok (.getfield 18, 3) := by decide +kernel
theorem dX1_lookedAt_45 : decode cX1_lookedAt 45 = .ok (.getfield 56, 3) := by decide +kernel
theorem dX1_lookedAt_48 : decode cX1_lookedAt 48 = .ok (.iconst 4, 1) := by decide +kernel
theorem dX1_lookedAt_49 : decode cX1_lookedAt 49 = .ok (.if_icmp .ne 17, 3) := by decide +kernel
theorem dX1_lookedAt_52 : decode cX1_lookedAt 52 = .ok (.iload_n 2, 1) := by decide +kernel
theorem dX1_lookedAt_53 : decode cX1_lookedAt 53 = .ok (.ifCond .le 13, 3) := by decide +kernel
theorem dX1_lookedAt_56 : decode cX1_lookedAt 56 = .ok (.iload_n 1, 1) := by decide +kernel
theorem dX1_lookedAt_57 : decode cX1_lookedAt 57 = .ok (.iconst 1, 1) := by decide +kernel
theorem dX1_lookedAt_58 : decode cX1_lookedAt 58 = .ok (.iload_n 2, 1) := by decide +kernel
theorem dX1_lookedAt_59 : decode cX1_lookedAt 59 = .ok (.iconst 1, 1) := by decide +kernel
theorem dX1_lookedAt_60 : decode cX1_lookedAt 60 = .ok (.isub, 1) := by decide +kernel
theorem dX1_lookedAt_61 : decode cX1_lookedAt 61 = .ok (.ishl, 1) := by decide +kernel
theorem dX1_lookedAt_62 : decode cX1_lookedAt 62 = .ok (.ior, 1) := by decide +kernel
theorem dX1_lookedAt_63 : decode cX1_lookedAt 63 = .ok (.goto 4, 3) := by decide +kernel
theorem dX1_lookedAt_66 : decode cX1_lookedAt 66 = .ok (.iload_n 1, 1) := by decide +kernel
theorem dX1_lookedAt_67 : decode cX1_lookedAt 67 = .ok (.ireturn, 1) := by decide +kernel
theorem dX1_emptiest_0 : decode cX1_emptiest 0 = .ok (.iconst (-1), 1) := by decide +kernel
theorem dX1_emptiest_1 : decode cX1_emptiest 1 = .ok (.istore 4, 2) := by decide +kernel
theorem dX1_emptiest_3 : decode cX1_emptiest 3 = .ok (.iconst 0, 1) := by decide +kernel
theorem dX1_emptiest_4 : decode cX1_emptiest 4 = .ok (.istore 5, 2) := by decide +kernel
theorem dX1_emptiest_6 : decode cX1_emptiest 6 = .ok (.iconst 0, 1) := by decide +kernel
theorem dX1_emptiest_7 : decode cX1_emptiest 7 = .ok (.istore 6, 2) := by decide +kernel
theorem dX1_emptiest_9 : decode cX1_emptiest 9 = .ok (.iload 6, 2) := by decide +kernel
theorem dX1_emptiest_11 : decode cX1_emptiest 11 = .ok (.aload_n 0, 1) := by decide +kernel
theorem dX1_emptiest_12 : decode cX1_emptiest 12 = .ok (.getfield 9, 3) := by decide +kernel
theorem dX1_emptiest_15 : decode cX1_emptiest 15 = .ok (.getfield 33, 3) := by decide +kernel
theorem dX1_emptiest_18 : decode cX1_emptiest 18 = .ok (.if_icmp .ge 59, 3) := by decide +kernel
theorem dX1_emptiest_21 : decode cX1_emptiest 21 = .ok (.iload_n 2, 1) := by decide +kernel
theorem dX1_emptiest_22 : decode cX1_emptiest 22 = .ok (.iload 6, 2) := by decide +kernel
theorem dX1_emptiest_24 : decode cX1_emptiest 24 = .ok (.ishr, 1) := by decide +kernel
theorem dX1_emptiest_25 : decode cX1_emptiest 25 = .ok (.iconst 1, 1) := by decide +kernel
theorem dX1_emptiest_26 : decode cX1_emptiest 26 = .ok (.iand, 1) := by decide +kernel
theorem dX1_emptiest_27 : decode cX1_emptiest 27 = .ok (.ifCond .eq 44, 3) := by decide +kernel
theorem dX1_emptiest_30 : decode cX1_emptiest 30 = .ok (.iload 6, 2) := by decide +kernel
theorem dX1_emptiest_32 : decode cX1_emptiest 32 = .ok (.iload_n 3, 1) := by decide +kernel
theorem dX1_emptiest_33 : decode cX1_emptiest 33 = .ok (.if_icmp .ne 12, 3) := by decide +kernel
theorem dX1_emptiest_36 : decode cX1_emptiest 36 = .ok (.aload_n 1, 1) := by decide +kernel
theorem dX1_emptiest_37 : decode cX1_emptiest 37 = .ok (.iload 6, 2) := by decide +kernel
theorem dX1_emptiest_39 : decode cX1_emptiest 39 = .ok (.iaload, 1) := by decide +kernel
theorem dX1_emptiest_40 : decode cX1_emptiest 40 = .ok (.iconst 1, 1) := by decide +kernel
theorem dX1_emptiest_41 : decode cX1_emptiest 41 = .ok (.iadd, 1) := by decide +kernel
theorem dX1_emptiest_42 : decode cX1_emptiest 42 = .ok (.goto 7, 3) := by decide +kernel
theorem dX1_emptiest_45 : decode cX1_emptiest 45 = .ok (.aload_n 1, 1) := by decide +kernel
theorem dX1_emptiest_46 : decode cX1_emptiest 46 = .ok (.iload 6, 2) := by decide +kernel
theorem dX1_emptiest_48 : decode cX1_emptiest 48 = .ok (.iaload, 1) := by decide +kernel
theorem dX1_emptiest_49 : decode cX1_emptiest 49 = .ok (.istore 7, 2) := by decide +kernel
theorem dX1_emptiest_51 : decode cX1_emptiest 51 = .ok (.iload 4, 2) := by decide +kernel
theorem dX1_emptiest_53 : decode cX1_emptiest 53 = .ok (.ifCond .lt 10, 3) := by decide +kernel
theorem dX1_emptiest_56 : decode cX1_emptiest 56 = .ok (.iload 7, 2) := by decide +kernel
theorem dX1_emptiest_58 : decode cX1_emptiest 58 = .ok (.iload 5, 2) := by decide +kernel
theorem dX1_emptiest_60 : decode cX1_emptiest 60 = .ok (.if_icmp .ge 11, 3) := by decide +kernel
theorem dX1_emptiest_63 : decode cX1_emptiest 63 = .ok (.iload 6, 2) := by decide +kernel
theorem dX1_emptiest_65 : decode cX1_emptiest 65 = .ok (.istore 4, 2) := by decide +kernel
theorem dX1_emptiest_67 : decode cX1_emptiest 67 = .ok (.iload 7, 2) := by decide +kernel
theorem dX1_emptiest_69 : decode cX1_emptiest 69 = .ok (.istore 5, 2) := by decide +kernel
theorem dX1_emptiest_71 : decode cX1_emptiest 71 = .ok (.iinc 6 1, 3) := by decide +kernel
theorem dX1_emptiest_74 : decode cX1_emptiest 74 = .ok (.goto (-65), 3) := by decide +kernel
theorem dX1_emptiest_77 : decode cX1_emptiest 77 = .ok (.iload 4, 2) := by decide +kernel
theorem dX1_emptiest_79 : decode cX1_emptiest 79 = .ok (.ireturn, 1) := by decide +kernel
theorem dX1_allWays_0 : decode cX1_allWays 0 = .ok (.lconst 0, 1) := by decide +kernel
theorem dX1_allWays_1 : decode cX1_allWays 1 = .ok (.lstore_n 1, 1) := by decide +kernel
theorem dX1_allWays_2 : decode cX1_allWays 2 = .ok (.iconst 0, 1) := by decide +kernel
theorem dX1_allWays_3 : decode cX1_allWays 3 = .ok (.istore_n 3, 1) := by decide +kernel
theorem dX1_allWays_4 : decode cX1_allWays 4 = .ok (.iload_n 3, 1) := by decide +kernel
theorem dX1_allWays_5 : decode cX1_allWays 5 = .ok (.bipush 30, 2) := by decide +kernel
theorem dX1_allWays_7 : decode cX1_allWays 7 = .ok (.if_icmp .ge 18, 3) := by decide +kernel
theorem dX1_allWays_10 : decode cX1_allWays 10 = .ok (.lload_n 1, 1) := by decide +kernel
theorem dX1_allWays_11 : decode cX1_allWays 11 = .ok (.aload_n 0, 1) := by decide +kernel
theorem dX1_allWays_12 : decode cX1_allWays 12 = .ok (.getfield 30, 3) := by decide +kernel
theorem dX1_allWays_15 : decode cX1_allWays 15 = .ok (.iload_n 3, 1) := by decide +kernel
theorem dX1_allWays_16 : decode cX1_allWays 16 = .ok (.laload, 1) := by decide +kernel
theorem dX1_allWays_17 : decode cX1_allWays 17 = .ok (.ladd, 1) := by decide +kernel
theorem dX1_allWays_18 : decode cX1_allWays 18 = .ok (.lstore_n 1, 1) := by decide +kernel
theorem dX1_allWays_19 : decode cX1_allWays 19 = .ok (.iinc 3 1, 3) := by decide +kernel
theorem dX1_allWays_22 : decode cX1_allWays 22 = .ok (.goto (-18), 3) := by decide +kernel
theorem dX1_allWays_25 : decode cX1_allWays 25 = .ok (.lload_n 1, 1) := by decide +kernel
theorem dX1_allWays_26 : decode cX1_allWays 26 = .ok (.lreturn, 1) := by decide +kernel
theorem dX1_waysTo_0 : decode cX1_waysTo 0 = .ok (.lconst 0, 1) := by decide +kernel
theorem dX1_waysTo_1 : decode cX1_waysTo 1 = .ok (.lstore_n 3, 1) := by decide +kernel
theorem dX1_waysTo_2 : decode cX1_waysTo 2 = .ok (.iconst 0, 1) := by decide +kernel
theorem dX1_waysTo_3 : decode cX1_waysTo 3 = .ok (.istore 5, 2) := by decide +kernel
theorem dX1_waysTo_5 : decode cX1_waysTo 5 = .ok (.iload 5, 2) := by decide +kernel
theorem dX1_waysTo_7 : decode cX1_waysTo 7 = .ok (.aload_n 0, 1) := by decide +kernel
theorem dX1_waysTo_8 : decode cX1_waysTo 8 = .ok (.getfield 9, 3) := by decide +kernel
theorem dX1_waysTo_11 : decode cX1_waysTo 11 = .ok (.getfield 33, 3) := by decide +kernel
theorem dX1_waysTo_14 : decode cX1_waysTo 14 = .ok (.if_icmp .ge 55, 3) := by decide +kernel
theorem dX1_waysTo_17 : decode cX1_waysTo 17 = .ok (.aload_n 0, 1) := by decide +kernel
theorem dX1_waysTo_18 : decode cX1_waysTo 18 = .ok (.getfield 9, 3) := by decide +kernel
theorem dX1_waysTo_21 : decode cX1_waysTo 21 = .ok (.aload_n 1, 1) := by decide +kernel
theorem dX1_waysTo_22 : decode cX1_waysTo 22 = .ok (.iload 5, 2) := by decide +kernel
theorem dX1_waysTo_24 : decode cX1_waysTo 24 = .ok (.invokevirtual 88, 3) := by decide +kernel
theorem dX1_waysTo_27 : decode cX1_waysTo 27 = .ok (.iload_n 2, 1) := by decide +kernel
theorem dX1_waysTo_28 : decode cX1_waysTo 28 = .ok (.if_icmp .ne 35, 3) := by decide +kernel
theorem dX1_waysTo_31 : decode cX1_waysTo 31 = .ok (.iconst 0, 1) := by decide +kernel
theorem dX1_waysTo_32 : decode cX1_waysTo 32 = .ok (.istore 6, 2) := by decide +kernel
theorem dX1_waysTo_34 : decode cX1_waysTo 34 = .ok (.iload 6, 2) := by decide +kernel
theorem dX1_waysTo_36 : decode cX1_waysTo 36 = .ok (.bipush 6, 2) := by decide +kernel
theorem dX1_waysTo_38 : decode cX1_waysTo 38 = .ok (.if_icmp .ge 25, 3) := by decide +kernel
theorem dX1_waysTo_41 : decode cX1_waysTo 41 = .ok (.lload_n 3, 1) := by decide +kernel
theorem dX1_waysTo_42 : decode cX1_waysTo 42 = .ok (.aload_n 0, 1) := by decide +kernel
theorem dX1_waysTo_43 : decode cX1_waysTo 43 = .ok (.getfield 30, 3) := by decide +kernel
theorem dX1_waysTo_46 : decode cX1_waysTo 46 = .ok (.iload 5, 2) := by decide +kernel
theorem dX1_waysTo_48 : decode cX1_waysTo 48 = .ok (.bipush 6, 2) := by decide +kernel
theorem dX1_waysTo_50 : decode cX1_waysTo 50 = .ok (.imul, 1) := by decide +kernel
theorem dX1_waysTo_51 : decode cX1_waysTo 51 = .ok (.iload 6, 2) := by decide +kernel
theorem dX1_waysTo_53 : decode cX1_waysTo 53 = .ok (.iadd, 1) := by decide +kernel
theorem dX1_waysTo_54 : decode cX1_waysTo 54 = .ok (.laload, 1) := by decide +kernel
theorem dX1_waysTo_55 : decode cX1_waysTo 55 = .ok (.ladd, 1) := by decide +kernel
theorem dX1_waysTo_56 : decode cX1_waysTo 56 = .ok (.lstore_n 3, 1) := by decide +kernel
theorem dX1_waysTo_57 : decode cX1_waysTo 57 = .ok (.iinc 6 1, 3) := by decide +kernel
theorem dX1_waysTo_60 : decode cX1_waysTo 60 = .ok (.goto (-26), 3) := by decide +kernel
theorem dX1_waysTo_63 : decode cX1_waysTo 63 = .ok (.iinc 5 1, 3) := by decide +kernel
theorem dX1_waysTo_66 : decode cX1_waysTo 66 = .ok (.goto (-61), 3) := by decide +kernel
theorem dX1_waysTo_69 : decode cX1_waysTo 69 = .ok (.lload_n 3, 1) := by decide +kernel
theorem dX1_waysTo_70 : decode cX1_waysTo 70 = .ok (.lreturn, 1) := by decide +kernel
theorem dX1_slotBehind_0 : decode cX1_slotBehind 0 = .ok (.iconst (-1), 1) := by decide +kernel
theorem dX1_slotBehind_1 : decode cX1_slotBehind 1 = .ok (.istore_n 3, 1) := by decide +kernel
theorem dX1_slotBehind_2 : decode cX1_slotBehind 2 = .ok (.iconst 0, 1) := by decide +kernel
theorem dX1_slotBehind_3 : decode cX1_slotBehind 3 = .ok (.istore 4, 2) := by decide +kernel
theorem dX1_slotBehind_5 : decode cX1_slotBehind 5 = .ok (.iload 4, 2) := by decide +kernel
theorem dX1_slotBehind_7 : decode cX1_slotBehind 7 = .ok (.aload_n 0, 1) := by decide +kernel
theorem dX1_slotBehind_8 : decode cX1_slotBehind 8 = .ok (.getfield 9, 3) := by decide +kernel
theorem dX1_slotBehind_11 : decode cX1_slotBehind 11 = .ok (.getfield 33, 3) := by decide +kernel
theorem dX1_slotBehind_14 : decode cX1_slotBehind 14 = .ok (.if_icmp .ge 72, 3) := by decide +kernel
theorem dX1_slotBehind_17 : decode cX1_slotBehind 17 = .ok (.aload_n 0, 1) := by decide +kernel
theorem dX1_slotBehind_18 : decode cX1_slotBehind 18 = .ok (.getfield 9, 3) := by decide +kernel
theorem dX1_slotBehind_21 : decode cX1_slotBehind 21 = .ok (.aload_n 1, 1) := by decide +kernel
theorem dX1_slotBehind_22 : decode cX1_slotBehind 22 = .ok (.iload 4, 2) := by decide +kernel
theorem dX1_slotBehind_24 : decode cX1_slotBehind 24 = .ok (.invokevirtual 88, 3) := by decide +kernel
theorem dX1_slotBehind_27 : decode cX1_slotBehind 27 = .ok (.iload_n 2, 1) := by decide +kernel
theorem dX1_slotBehind_28 : decode cX1_slotBehind 28 = .ok (.if_icmp .ne 52, 3) := by decide +kernel
theorem dX1_slotBehind_31 : decode cX1_slotBehind 31 = .ok (.iconst 0, 1) := by decide +kernel
theorem dX1_slotBehind_32 : decode cX1_slotBehind 32 = .ok (.istore 5, 2) := by decide +kernel
theorem dX1_slotBehind_34 : decode cX1_slotBehind 34 = .ok (.iload 5, 2) := by decide +kernel
theorem dX1_slotBehind_36 : decode cX1_slotBehind 36 = .ok (.bipush 6, 2) := by decide +kernel
theorem dX1_slotBehind_38 : decode cX1_slotBehind 38 = .ok (.if_icmp .ge 42, 3) := by decide +kernel
theorem dX1_slotBehind_41 : decode cX1_slotBehind 41 = .ok (.aload_n 0, 1) := by decide +kernel
theorem dX1_slotBehind_42 : decode cX1_slotBehind 42 = .ok (.getfield 30, 3) := by decide +kernel
theorem dX1_slotBehind_45 : decode cX1_slotBehind 45 = .ok (.iload 4, 2) := by decide +kernel
theorem dX1_slotBehind_47 : decode cX1_slotBehind 47 = .ok (.bipush 6, 2) := by decide +kernel
theorem dX1_slotBehind_49 : decode cX1_slotBehind 49 = .ok (.imul, 1) := by decide +kernel
theorem dX1_slotBehind_50 : decode cX1_slotBehind 50 = .ok (.iload 5, 2) := by decide +kernel
theorem dX1_slotBehind_52 : decode cX1_slotBehind 52 = .ok (.iadd, 1) := by decide +kernel
theorem dX1_slotBehind_53 : decode cX1_slotBehind 53 = .ok (.laload, 1) := by decide +kernel
theorem dX1_slotBehind_54 : decode cX1_slotBehind 54 = .ok (.lconst 0, 1) := by decide +kernel
theorem dX1_slotBehind_55 : decode cX1_slotBehind 55 = .ok (.lcmp, 1) := by decide +kernel
theorem dX1_slotBehind_56 : decode cX1_slotBehind 56 = .ok (.ifCond .le 18, 3) := by decide +kernel
theorem dX1_slotBehind_59 : decode cX1_slotBehind 59 = .ok (.iload_n 3, 1) := by decide +kernel
theorem dX1_slotBehind_60 : decode cX1_slotBehind 60 = .ok (.ifCond .lt 11, 3) := by decide +kernel
theorem dX1_slotBehind_63 : decode cX1_slotBehind 63 = .ok (.iload_n 3, 1) := by decide +kernel
theorem dX1_slotBehind_64 : decode cX1_slotBehind 64 = .ok (.iload 5, 2) := by decide +kernel
theorem dX1_slotBehind_66 : decode cX1_slotBehind 66 = .ok (.if_icmp .eq 5, 3) := by decide +kernel
theorem dX1_slotBehind_69 : decode cX1_slotBehind 69 = .ok (.iconst (-1), 1) := by decide +kernel
theorem dX1_slotBehind_70 : decode cX1_slotBehind 70 = .ok (.ireturn, 1) := by decide +kernel
theorem dX1_slotBehind_71 : decode cX1_slotBehind 71 = .ok (.iload 5, 2) := by decide +kernel
theorem dX1_slotBehind_73 : decode cX1_slotBehind 73 = .ok (.istore_n 3, 1) := by decide +kernel
theorem dX1_slotBehind_74 : decode cX1_slotBehind 74 = .ok (.iinc 5 1, 3) := by decide +kernel
theorem dX1_slotBehind_77 : decode cX1_slotBehind 77 = .ok (.goto (-43), 3) := by decide +kernel
theorem dX1_slotBehind_80 : decode cX1_slotBehind 80 = .ok (.iinc 4 1, 3) := by decide +kernel
theorem dX1_slotBehind_83 : decode cX1_slotBehind 83 = .ok (.goto (-78), 3) := by decide +kernel
theorem dX1_slotBehind_86 : decode cX1_slotBehind 86 = .ok (.iload_n 3, 1) := by decide +kernel
theorem dX1_slotBehind_87 : decode cX1_slotBehind 87 = .ok (.ireturn, 1) := by decide +kernel
theorem dX1_putByDraws_0 : decode cX1_putByDraws 0 = .ok (.aload_n 0, 1) := by decide +kernel
theorem dX1_putByDraws_1 : decode cX1_putByDraws 1 = .ok (.getfield 9, 3) := by decide +kernel
theorem dX1_putByDraws_4 : decode cX1_putByDraws 4 = .ok (.aload_n 1, 1) := by decide +kernel
theorem dX1_putByDraws_5 : decode cX1_putByDraws 5 = .ok (.getfield 92, 3) := by decide +kernel
theorem dX1_putByDraws_8 : decode cX1_putByDraws 8 = .ok (.iconst 1, 1) := by decide +kernel
theorem dX1_putByDraws_9 : decode cX1_putByDraws 9 = .ok (.iadd, 1) := by decide +kernel
theorem dX1_putByDraws_10 : decode cX1_putByDraws 10 = .ok (.invokevirtual 49, 3) := by decide +kernel
theorem dX1_putByDraws_13 : decode cX1_putByDraws 13 = .ok (.ifCond .eq 23, 3) := by decide +kernel
theorem dX1_putByDraws_16 : decode cX1_putByDraws 16 = .ok (.aload_n 1, 1) := by decide +kernel
theorem dX1_putByDraws_17 : decode cX1_putByDraws 17 = .ok (.aload_n 0, 1) := by decide +kernel
theorem dX1_putByDraws_18 : decode cX1_putByDraws 18 = .ok (.getfield 9, 3) := by decide +kernel
theorem dX1_putByDraws_21 : decode cX1_putByDraws 21 = .ok (.aload_n 0, 1) := by decide +kernel
theorem dX1_putByDraws_22 : decode cX1_putByDraws 22 = .ok (.getfield 9, 3) := by decide +kernel
theorem dX1_putByDraws_25 : decode cX1_putByDraws 25 = .ok (.getfield 53, 3) := by decide +kernel
theorem dX1_putByDraws_28 : decode cX1_putByDraws 28 = .ok (.aload_n 1, 1) := by decide +kernel
theorem dX1_putByDraws_29 : decode cX1_putByDraws 29 = .ok (.getfield 97, 3) := by decide +kernel
theorem dX1_putByDraws_32 : decode cX1_putByDraws 32 = .ok (.invokevirtual 100, 3) := by decide +kernel
theorem dX1_putByDraws_35 : decode cX1_putByDraws 35 = .ok (.return_, 1) := by decide +kernel
theorem dX1_putByDraws_36 : decode cX1_putByDraws 36 = .ok (.iconst 0, 1) := by decide +kernel
theorem dX1_putByDraws_37 : decode cX1_putByDraws 37 = .ok (.istore_n 2, 1) := by decide +kernel
theorem dX1_putByDraws_38 : decode cX1_putByDraws 38 = .ok (.iconst 0, 1) := by decide +kernel
theorem dX1_putByDraws_39 : decode cX1_putByDraws 39 = .ok (.istore_n 3, 1) := by decide +kernel
theorem dX1_putByDraws_40 : decode cX1_putByDraws 40 = .ok (.iload_n 3, 1) := by decide +kernel
theorem dX1_putByDraws_41 : decode cX1_putByDraws 41 = .ok (.aload_n 0, 1) := by decide +kernel
theorem dX1_putByDraws_42 : decode cX1_putByDraws 42 = .ok (.getfield 18, 3) := by decide +kernel
theorem dX1_putByDraws_45 : decode cX1_putByDraws 45 = .ok (.getfield 39, 3) := by decide +kernel
theorem dX1_putByDraws_48 : decode cX1_putByDraws 48 = .ok (.if_icmp .ge 36, 3) := by decide +kernel
theorem dX1_putByDraws_51 : decode cX1_putByDraws 51 = .ok (.iload_n 3, 1) := by decide +kernel
theorem dX1_putByDraws_52 : decode cX1_putByDraws 52 = .ok (.iconst 3, 1) := by decide +kernel
theorem dX1_putByDraws_53 : decode cX1_putByDraws 53 = .ok (.if_icmp .ge 31, 3) := by decide +kernel
theorem dX1_putByDraws_56 : decode cX1_putByDraws 56 = .ok (.aload_n 0, 1) := by decide +kernel
theorem dX1_putByDraws_57 : decode cX1_putByDraws 57 = .ok (.getfield 26, 3) := by decide +kernel
theorem dX1_putByDraws_60 : decode cX1_putByDraws 60 = .ok (.iload_n 3, 1) := by decide +kernel
theorem dX1_putByDraws_61 : decode cX1_putByDraws 61 = .ok (.aload_n 0, 1) := by decide +kernel
theorem dX1_putByDraws_62 : decode cX1_putByDraws 62 = .ok (.aload_n 1, 1) := by decide +kernel
theorem dX1_putByDraws_63 : decode cX1_putByDraws 63 = .ok (.invokevirtual 104, 3) := by decide +kernel
theorem dX1_putByDraws_66 : decode cX1_putByDraws 66 = .ok (.iastore, 1) := by decide +kernel
theorem dX1_putByDraws_67 : decode cX1_putByDraws 67 = .ok (.iload_n 2, 1) := by decide +kernel
theorem dX1_putByDraws_68 : decode cX1_putByDraws 68 = .ok (.iconst 1, 1) := by decide +kernel
theorem dX1_putByDraws_69 : decode cX1_putByDraws 69 = .ok (.aload_n 0, 1) := by decide +kernel
theorem dX1_putByDraws_70 : decode cX1_putByDraws 70 = .ok (.getfield 26, 3) := by decide +kernel
theorem dX1_putByDraws_73 : decode cX1_putByDraws 73 = .ok (.iload_n 3, 1) := by decide +kernel
theorem dX1_putByDraws_74 : decode cX1_putByDraws 74 = .ok (.iaload, 1) := by decide +kernel
theorem dX1_putByDraws_75 : decode cX1_putByDraws 75 = .ok (.ishl, 1) := by decide +kernel
theorem dX1_putByDraws_76 : decode cX1_putByDraws 76 = .ok (.ior, 1) := by decide +kernel
theorem dX1_putByDraws_77 : decode cX1_putByDraws 77 = .ok (.istore_n 2, 1) := by decide +kernel
theorem dX1_putByDraws_78 : decode cX1_putByDraws 78 = .ok (.iinc 3 1, 3) := by decide +kernel
theorem dX1_putByDraws_81 : decode cX1_putByDraws 81 = .ok (.goto (-41), 3) := by decide +kernel
theorem dX1_putByDraws_84 : decode cX1_putByDraws 84 = .ok (.aload_n 0, 1) := by decide +kernel
theorem dX1_putByDraws_85 : decode cX1_putByDraws 85 = .ok (.iload_n 2, 1) := by decide +kernel
theorem dX1_putByDraws_86 : decode cX1_putByDraws 86 = .ok (.aload_n 1, 1) := by decide +kernel
theorem dX1_putByDraws_87 : decode cX1_putByDraws 87 = .ok (.getfield 97, 3) := by decide +kernel
theorem dX1_putByDraws_90 : decode cX1_putByDraws 90 = .ok (.invokevirtual 80, 3) := by decide +kernel
theorem dX1_putByDraws_93 : decode cX1_putByDraws 93 = .ok (.istore_n 3, 1) := by decide +kernel
theorem dX1_putByDraws_94 : decode cX1_putByDraws 94 = .ok (.aload_n 0, 1) := by decide +kernel
theorem dX1_putByDraws_95 : decode cX1_putByDraws 95 = .ok (.getfield 18, 3) := by decide +kernel
theorem dX1_putByDraws_98 : decode cX1_putByDraws 98 = .ok (.getfield 56, 3) := by decide +kernel
theorem dX1_putByDraws_101 : decode cX1_putByDraws 101 = .ok (.ifCond .ne 13, 3) := by decide +kernel
theorem dX1_putByDraws_104 : decode cX1_putByDraws 104 = .ok (.aload_n 0, 1) := by decide +kernel
theorem dX1_putByDraws_105 : decode cX1_putByDraws 105 = .ok (.aload_n 1, 1) := by decide +kernel
theorem dX1_putByDraws_106 : decode cX1_putByDraws 106 = .ok (.invokevirtual 108, 3) := by decide +kernel
theorem dX1_putByDraws_109 : decode cX1_putByDraws 109 = .ok (.istore 4, 2) := by decide +kernel
theorem dX1_putByDraws_111 : decode cX1_putByDraws 111 = .ok (.goto 39, 3) := by decide +kernel
theorem dX1_putByDraws_114 : decode cX1_putByDraws 114 = .ok (.aload_n 0, 1) := by decide +kernel
theorem dX1_putByDraws_115 : decode cX1_putByDraws 115 = .ok (.getfield 18, 3) := by decide +kernel
theorem dX1_putByDraws_118 : decode cX1_putByDraws 118 = .ok (.getfield 56, 3) := by decide +kernel
theorem dX1_putByDraws_121 : decode cX1_putByDraws 121 = .ok (.iconst 2, 1) := by decide +kernel
theorem dX1_putByDraws_122 : decode cX1_putByDraws 122 = .ok (.if_icmp .ne 16, 3) := by decide +kernel
theorem dX1_putByDraws_125 : decode cX1_putByDraws 125 = .ok (.aload_n 0, 1) := by decide +kernel
theorem dX1_putByDraws_126 : decode cX1_putByDraws 126 = .ok (.aload_n 1, 1) := by decide +kernel
theorem dX1_putByDraws_127 : decode cX1_putByDraws 127 = .ok (.getfield 111, 3) := by decide +kernel
theorem dX1_putByDraws_130 : decode cX1_putByDraws 130 = .ok (.invokevirtual 114, 3) := by decide +kernel
theorem dX1_putByDraws_133 : decode cX1_putByDraws 133 = .ok (.istore 4, 2) := by decide +kernel
theorem dX1_putByDraws_135 : decode cX1_putByDraws 135 = .ok (.goto 15, 3) := by decide +kernel
theorem dX1_putByDraws_138 : decode cX1_putByDraws 138 = .ok (.aload_n 0, 1) := by decide +kernel
theorem dX1_putByDraws_139 : decode cX1_putByDraws 139 = .ok (.aload_n 1, 1) := by decide +kernel
theorem dX1_putByDraws_140 : decode cX1_putByDraws 140 = .ok (.getfield 111, 3) := by decide +kernel
theorem dX1_putByDraws_143 : decode cX1_putByDraws 143 = .ok (.iload_n 3, 1) := by decide +kernel
theorem dX1_putByDraws_144 : decode cX1_putByDraws 144 = .ok (.iconst (-1), 1) := by decide +kernel
theorem dX1_putByDraws_145 : decode cX1_putByDraws 145 = .ok (.invokevirtual 84, 3) := by decide +kernel
theorem dX1_putByDraws_148 : decode cX1_putByDraws 148 = .ok (.istore 4, 2) := by decide +kernel
theorem dX1_putByDraws_150 : decode cX1_putByDraws 150 = .ok (.aload_n 0, 1) := by decide +kernel
theorem dX1_putByDraws_151 : decode cX1_putByDraws 151 = .ok (.getfield 9, 3) := by decide +kernel
theorem dX1_putByDraws_154 : decode cX1_putByDraws 154 = .ok (.aload_n 1, 1) := by decide +kernel
theorem dX1_putByDraws_155 : decode cX1_putByDraws 155 = .ok (.getfield 111, 3) := by decide +kernel
theorem dX1_putByDraws_158 : decode cX1_putByDraws 158 = .ok (.iload 4, 2) := by decide +kernel
theorem dX1_putByDraws_160 : decode cX1_putByDraws 160 = .ok (.invokevirtual 88, 3) := by decide +kernel
theorem dX1_putByDraws_163 : decode cX1_putByDraws 163 = .ok (.istore 5, 2) := by decide +kernel
theorem dX1_putByDraws_165 : decode cX1_putByDraws 165 = .ok (.aload_n 0, 1) := by decide +kernel
theorem dX1_putByDraws_166 : decode cX1_putByDraws 166 = .ok (.getfield 18, 3) := by decide +kernel
theorem dX1_putByDraws_169 : decode cX1_putByDraws 169 = .ok (.getfield 56, 3) := by decide +kernel
theorem dX1_putByDraws_172 : decode cX1_putByDraws 172 = .ok (.iconst 4, 1) := by decide +kernel
theorem dX1_putByDraws_173 : decode cX1_putByDraws 173 = .ok (.if_icmp .ne 19, 3) := by decide +kernel
theorem dX1_putByDraws_176 : decode cX1_putByDraws 176 = .ok (.aload_n 0, 1) := by decide +kernel
theorem dX1_putByDraws_177 : decode cX1_putByDraws 177 = .ok (.aload_n 1, 1) := by decide +kernel
theorem dX1_putByDraws_178 : decode cX1_putByDraws 178 = .ok (.getfield 111, 3) := by decide +kernel
theorem dX1_putByDraws_181 : decode cX1_putByDraws 181 = .ok (.iload_n 3, 1) := by decide +kernel
theorem dX1_putByDraws_182 : decode cX1_putByDraws 182 = .ok (.iload 5, 2) := by decide +kernel
theorem dX1_putByDraws_184 : decode cX1_putByDraws 184 = .ok (.invokevirtual 84, 3) := by decide +kernel
theorem dX1_putByDraws_187 : decode cX1_putByDraws 187 = .ok (.iconst 1, 1) := by decide +kernel
theorem dX1_putByDraws_188 : decode cX1_putByDraws 188 = .ok (.iadd, 1) := by decide +kernel
theorem dX1_putByDraws_189 : decode cX1_putByDraws 189 = .ok (.goto 4, 3) := by decide +kernel
theorem dX1_putByDraws_192 : decode cX1_putByDraws 192 = .ok (.iconst 0, 1) := by decide +kernel
theorem dX1_putByDraws_193 : decode cX1_putByDraws 193 = .ok (.istore 6, 2) := by decide +kernel
theorem dX1_putByDraws_195 : decode cX1_putByDraws 195 = .ok (.aload_n 1, 1) := by decide +kernel
theorem dX1_putByDraws_196 : decode cX1_putByDraws 196 = .ok (.aload_n 0, 1) := by decide +kernel
theorem dX1_putByDraws_197 : decode cX1_putByDraws 197 = .ok (.getfield 9, 3) := by decide +kernel
theorem dX1_putByDraws_200 : decode cX1_putByDraws 200 = .ok (.iload 4, 2) := by decide +kernel
theorem dX1_putByDraws_202 : decode cX1_putByDraws 202 = .ok (.iload 6, 2) := by decide +kernel
theorem dX1_putByDraws_204 : decode cX1_putByDraws 204 = .ok (.invokevirtual 100, 3) := by decide +kernel
theorem dX1_putByDraws_207 : decode cX1_putByDraws 207 = .ok (.return_, 1) := by decide +kernel
theorem dX1_glance_0 : decode cX1_glance 0 = .ok (.aload_n 0, 1) := by decide +kernel
theorem dX1_glance_1 : decode cX1_glance 1 = .ok (.getfield 9, 3) := by decide +kernel
theorem dX1_glance_4 : decode cX1_glance 4 = .ok (.getfield 77, 3) := by decide +kernel
theorem dX1_glance_7 : decode cX1_glance 7 = .ok (.ifCond .le 18, 3) := by decide +kernel
theorem dX1_glance_10 : decode cX1_glance 10 = .ok (.aload_n 1, 1) := by decide +kernel
theorem dX1_glance_11 : decode cX1_glance 11 = .ok (.invokevirtual 118, 3) := by decide +kernel
theorem dX1_glance_14 : decode cX1_glance 14 = .ok (.aload_n 0, 1) := by decide +kernel
theorem dX1_glance_15 : decode cX1_glance 15 = .ok (.getfield 9, 3) := by decide +kernel
theorem dX1_glance_18 : decode cX1_glance 18 = .ok (.getfield 77, 3) := by decide +kernel
theorem dX1_glance_21 : decode cX1_glance 21 = .ok (.irem, 1) := by decide +kernel
theorem dX1_glance_22 : decode cX1_glance 22 = .ok (.goto 4, 3) := by decide +kernel
theorem dX1_glance_25 : decode cX1_glance 25 = .ok (.iconst 0, 1) := by decide +kernel
theorem dX1_glance_26 : decode cX1_glance 26 = .ok (.istore_n 2, 1) := by decide +kernel
theorem dX1_glance_27 : decode cX1_glance 27 = .ok (.iconst 0, 1) := by decide +kernel
theorem dX1_glance_28 : decode cX1_glance 28 = .ok (.istore_n 3, 1) := by decide +kernel
theorem dX1_glance_29 : decode cX1_glance 29 = .ok (.iload_n 3, 1) := by decide +kernel
theorem dX1_glance_30 : decode cX1_glance 30 = .ok (.aload_n 0, 1) := by decide +kernel
theorem dX1_glance_31 : decode cX1_glance 31 = .ok (.getfield 9, 3) := by decide +kernel
theorem dX1_glance_34 : decode cX1_glance 34 = .ok (.getfield 33, 3) := by decide +kernel
theorem dX1_glance_37 : decode cX1_glance 37 = .ok (.iconst 1, 1) := by decide +kernel
theorem dX1_glance_38 : decode cX1_glance 38 = .ok (.isub, 1) := by decide +kernel
theorem dX1_glance_39 : decode cX1_glance 39 = .ok (.if_icmp .ge 34, 3) := by decide +kernel
theorem dX1_glance_42 : decode cX1_glance 42 = .ok (.iload_n 2, 1) := by decide +kernel
theorem dX1_glance_43 : decode cX1_glance 43 = .ok (.aload_n 0, 1) := by decide +kernel
theorem dX1_glance_44 : decode cX1_glance 44 = .ok (.getfield 9, 3) := by decide +kernel
theorem dX1_glance_47 : decode cX1_glance 47 = .ok (.getfield 46, 3) := by decide +kernel
theorem dX1_glance_50 : decode cX1_glance 50 = .ok (.iload_n 3, 1) := by decide +kernel
theorem dX1_glance_51 : decode cX1_glance 51 = .ok (.iaload, 1) := by decide +kernel
theorem dX1_glance_52 : decode cX1_glance 52 = .ok (.if_icmp .lt 21, 3) := by decide +kernel
theorem dX1_glance_55 : decode cX1_glance 55 = .ok (.iload_n 2, 1) := by decide +kernel
theorem dX1_glance_56 : decode cX1_glance 56 = .ok (.aload_n 0, 1) := by decide +kernel
theorem dX1_glance_57 : decode cX1_glance 57 = .ok (.getfield 9, 3) := by decide +kernel
theorem dX1_glance_60 : decode cX1_glance 60 = .ok (.getfield 46, 3) := by decide +kernel
theorem dX1_glance_63 : decode cX1_glance 63 = .ok (.iload_n 3, 1) := by decide +kernel
theorem dX1_glance_64 : decode cX1_glance 64 = .ok (.iaload, 1) := by decide +kernel
theorem dX1_glance_65 : decode cX1_glance 65 = .ok (.isub, 1) := by decide +kernel
theorem dX1_glance_66 : decode cX1_glance 66 = .ok (.istore_n 2, 1) := by decide +kernel
theorem dX1_glance_67 : decode cX1_glance 67 = .ok (.iinc 3 1, 3) := by decide +kernel
theorem dX1_glance_70 : decode cX1_glance 70 = .ok (.goto (-41), 3) := by decide +kernel
theorem dX1_glance_73 : decode cX1_glance 73 = .ok (.iload_n 3, 1) := by decide +kernel
theorem dX1_glance_74 : decode cX1_glance 74 = .ok (.ireturn, 1) := by decide +kernel
theorem dX1_byLot_0 : decode cX1_byLot 0 = .ok (.bipush 9, 2) := by decide +kernel
theorem dX1_byLot_2 : decode cX1_byLot 2 = .ok (.istore_n 2, 1) := by decide +kernel
theorem dX1_byLot_3 : decode cX1_byLot 3 = .ok (.iconst 0, 1) := by decide +kernel
theorem dX1_byLot_4 : decode cX1_byLot 4 = .ok (.istore_n 3, 1) := by decide +kernel
theorem dX1_byLot_5 : decode cX1_byLot 5 = .ok (.iconst 0, 1) := by decide +kernel
theorem dX1_byLot_6 : decode cX1_byLot 6 = .ok (.istore 4, 2) := by decide +kernel
theorem dX1_byLot_8 : decode cX1_byLot 8 = .ok (.iload 4, 2) := by decide +kernel
theorem dX1_byLot_10 : decode cX1_byLot 10 = .ok (.aload_n 0, 1) := by decide +kernel
theorem dX1_byLot_11 : decode cX1_byLot 11 = .ok (.getfield 18, 3) := by decide +kernel
theorem dX1_byLot_14 : decode cX1_byLot 14 = .ok (.getfield 39, 3) := by decide +kernel
theorem dX1_byLot_17 : decode cX1_byLot 17 = .ok (.if_icmp .ge 60, 3) := by decide +kernel
theorem dX1_byLot_20 : decode cX1_byLot 20 = .ok (.iload 4, 2) := by decide +kernel
theorem dX1_byLot_22 : decode cX1_byLot 22 = .ok (.iconst 3, 1) := by decide +kernel
theorem dX1_byLot_23 : decode cX1_byLot 23 = .ok (.if_icmp .ge 54, 3) := by decide +kernel
theorem dX1_byLot_26 : decode cX1_byLot 26 = .ok (.aload_n 1, 1) := by decide +kernel
theorem dX1_byLot_27 : decode cX1_byLot 27 = .ok (.getfield 111, 3) := by decide +kernel
theorem dX1_byLot_30 : decode cX1_byLot 30 = .ok (.aload_n 0, 1) := by decide +kernel
theorem dX1_byLot_31 : decode cX1_byLot 31 = .ok (.getfield 26, 3) := by decide +kernel
theorem dX1_byLot_34 : decode cX1_byLot 34 = .ok (.iload 4, 2) := by decide +kernel
theorem dX1_byLot_36 : decode cX1_byLot 36 = .ok (.iaload, 1) := by decide +kernel
theorem dX1_byLot_37 : decode cX1_byLot 37 = .ok (.iaload, 1) := by decide +kernel
theorem dX1_byLot_38 : decode cX1_byLot 38 = .ok (.istore 5, 2) := by decide +kernel
theorem dX1_byLot_40 : decode cX1_byLot 40 = .ok (.iload 5, 2) := by decide +kernel
theorem dX1_byLot_42 : decode cX1_byLot 42 = .ok (.iload_n 2, 1) := by decide +kernel
theorem dX1_byLot_43 : decode cX1_byLot 43 = .ok (.if_icmp .ge 7, 3) := by decide +kernel
theorem dX1_byLot_46 : decode cX1_byLot 46 = .ok (.iconst 1, 1) := by decide +kernel
theorem dX1_byLot_47 : decode cX1_byLot 47 = .ok (.goto 16, 3) := by decide +kernel
theorem dX1_byLot_50 : decode cX1_byLot 50 = .ok (.iload 5, 2) := by decide +kernel
theorem dX1_byLot_52 : decode cX1_byLot 52 = .ok (.iload_n 2, 1) := by decide +kernel
theorem dX1_byLot_53 : decode cX1_byLot 53 = .ok (.if_icmp .ne 9, 3) := by decide +kernel
theorem dX1_byLot_56 : decode cX1_byLot 56 = .ok (.iload_n 3, 1) := by decide +kernel
theorem dX1_byLot_57 : decode cX1_byLot 57 = .ok (.iconst 1, 1) := by decide +kernel
theorem dX1_byLot_58 : decode cX1_byLot 58 = .ok (.iadd, 1) := by decide +kernel
theorem dX1_byLot_59 : decode cX1_byLot 59 = .ok (.goto 4, 3) := by decide +kernel
theorem dX1_byLot_62 : decode cX1_byLot 62 = .ok (.iload_n 3, 1) := by decide +kernel
theorem dX1_byLot_63 : decode cX1_byLot 63 = .ok (.istore_n 3, 1) := by decide +kernel
theorem dX1_byLot_64 : decode cX1_byLot 64 = .ok (.iload_n 2, 1) := by decide +kernel
theorem dX1_byLot_65 : decode cX1_byLot 65 = .ok (.iload 5, 2) := by decide +kernel
theorem dX1_byLot_67 : decode cX1_byLot 67 = .ok (.invokestatic 122, 3) := by decide +kernel
theorem dX1_byLot_70 : decode cX1_byLot 70 = .ok (.istore_n 2, 1) := by decide +kernel
theorem dX1_byLot_71 : decode cX1_byLot 71 = .ok (.iinc 4 1, 3) := by decide +kernel
theorem dX1_byLot_74 : decode cX1_byLot 74 = .ok (.goto (-66), 3) := by decide +kernel
theorem dX1_byLot_77 : decode cX1_byLot 77 = .ok (.iload_n 3, 1) := by decide +kernel
theorem dX1_byLot_78 : decode cX1_byLot 78 = .ok (.iconst 1, 1) := by decide +kernel
theorem dX1_byLot_79 : decode cX1_byLot 79 = .ok (.if_icmp .le 12, 3) := by decide +kernel
theorem dX1_byLot_82 : decode cX1_byLot 82 = .ok (.aload_n 1, 1) := by decide +kernel
theorem dX1_byLot_83 : decode cX1_byLot 83 = .ok (.invokevirtual 118, 3) := by decide +kernel
theorem dX1_byLot_86 : decode cX1_byLot 86 = .ok (.iload_n 3, 1) := by decide +kernel
theorem dX1_byLot_87 : decode cX1_byLot 87 = .ok (.irem, 1) := by decide +kernel
theorem dX1_byLot_88 : decode cX1_byLot 88 = .ok (.goto 4, 3) := by decide +kernel
theorem dX1_byLot_91 : decode cX1_byLot 91 = .ok (.iconst 0, 1) := by decide +kernel
theorem dX1_byLot_92 : decode cX1_byLot 92 = .ok (.istore 4, 2) := by decide +kernel
theorem dX1_byLot_94 : decode cX1_byLot 94 = .ok (.iconst 0, 1) := by decide +kernel
theorem dX1_byLot_95 : decode cX1_byLot 95 = .ok (.istore 5, 2) := by decide +kernel
theorem dX1_byLot_97 : decode cX1_byLot 97 = .ok (.iload 5, 2) := by decide +kernel
theorem dX1_byLot_99 : decode cX1_byLot 99 = .ok (.aload_n 0, 1) := by decide +kernel
theorem dX1_byLot_100 : decode cX1_byLot 100 = .ok (.getfield 18, 3) := by decide +kernel
theorem dX1_byLot_103 : decode cX1_byLot 103 = .ok (.getfield 39, 3) := by decide +kernel
theorem dX1_byLot_106 : decode cX1_byLot 106 = .ok (.if_icmp .ge 47, 3) := by decide +kernel
theorem dX1_byLot_109 : decode cX1_byLot 109 = .ok (.iload 5, 2) := by decide +kernel
theorem dX1_byLot_111 : decode cX1_byLot 111 = .ok (.iconst 3, 1) := by decide +kernel
theorem dX1_byLot_112 : decode cX1_byLot 112 = .ok (.if_icmp .ge 41, 3) := by decide +kernel
theorem dX1_byLot_115 : decode cX1_byLot 115 = .ok (.aload_n 1, 1) := by decide +kernel
theorem dX1_byLot_116 : decode cX1_byLot 116 = .ok (.getfield 111, 3) := by decide +kernel
theorem dX1_byLot_119 : decode cX1_byLot 119 = .ok (.aload_n 0, 1) := by decide +kernel
theorem dX1_byLot_120 : decode cX1_byLot 120 = .ok (.getfield 26, 3) := by decide +kernel
theorem dX1_byLot_123 : decode cX1_byLot 123 = .ok (.iload 5, 2) := by decide +kernel
theorem dX1_byLot_125 : decode cX1_byLot 125 = .ok (.iaload, 1) := by decide +kernel
theorem dX1_byLot_126 : decode cX1_byLot 126 = .ok (.iaload, 1) := by decide +kernel
theorem dX1_byLot_127 : decode cX1_byLot 127 = .ok (.iload_n 2, 1) := by decide +kernel
theorem dX1_byLot_128 : decode cX1_byLot 128 = .ok (.if_icmp .ne 19, 3) := by decide +kernel
theorem dX1_byLot_131 : decode cX1_byLot 131 = .ok (.iload 4, 2) := by decide +kernel
theorem dX1_byLot_133 : decode cX1_byLot 133 = .ok (.ifCond .ne 11, 3) := by decide +kernel
theorem dX1_byLot_136 : decode cX1_byLot 136 = .ok (.aload_n 0, 1) := by decide +kernel
theorem dX1_byLot_137 : decode cX1_byLot 137 = .ok (.getfield 26, 3) := by decide +kernel
theorem dX1_byLot_140 : decode cX1_byLot 140 = .ok (.iload 5, 2) := by decide +kernel
theorem dX1_byLot_142 : decode cX1_byLot 142 = .ok (.iaload, 1) := by decide +kernel
theorem dX1_byLot_143 : decode cX1_byLot 143 = .ok (.ireturn, 1) := by decide +kernel
theorem dX1_byLot_144 : decode cX1_byLot 144 = .ok (.iinc 4 (-1), 3) := by decide +kernel
theorem dX1_byLot_147 : decode cX1_byLot 147 = .ok (.iinc 5 1, 3) := by decide +kernel
theorem dX1_byLot_150 : decode cX1_byLot 150 = .ok (.goto (-53), 3) := by decide +kernel
theorem dX1_byLot_153 : decode cX1_byLot 153 = .ok (.iconst (-1), 1) := by decide +kernel
theorem dX1_byLot_154 : decode cX1_byLot 154 = .ok (.ireturn, 1) := by decide +kernel
theorem dX1_firstNotFuller_0 : decode cX1_firstNotFuller 0 = .ok (.iconst (-1), 1) := by decide +kernel
theorem dX1_firstNotFuller_1 : decode cX1_firstNotFuller 1 = .ok (.istore_n 2, 1) := by decide +kernel
theorem dX1_firstNotFuller_2 : decode cX1_firstNotFuller 2 = .ok (.iconst 0, 1) := by decide +kernel
theorem dX1_firstNotFuller_3 : decode cX1_firstNotFuller 3 = .ok (.istore_n 3, 1) := by decide +kernel
theorem dX1_firstNotFuller_4 : decode cX1_firstNotFuller 4 = .ok (.iload_n 3, 1) := by decide +kernel
theorem dX1_firstNotFuller_5 : decode cX1_firstNotFuller 5 = .ok (.aload_n 0, 1) := by decide +kernel
theorem dX1_firstNotFuller_6 : decode cX1_firstNotFuller 6 = .ok (.getfield 18, 3) := by decide +kernel
theorem dX1_firstNotFuller_9 : decode cX1_firstNotFuller 9 = .ok (.getfield 39, 3) := by decide +kernel
theorem dX1_firstNotFuller_12 : decode cX1_firstNotFuller 12 = .ok (.if_icmp .ge 36, 3) := by decide +kernel
theorem dX1_firstNotFuller_15 : decode cX1_firstNotFuller 15 = .ok (.iload_n 3, 1) := by decide +kernel
theorem dX1_firstNotFuller_16 : decode cX1_firstNotFuller 16 = .ok (.iconst 3, 1) := by decide +kernel
theorem dX1_firstNotFuller_17 : decode cX1_firstNotFuller 17 = .ok (.if_icmp .ge 31, 3) := by decide +kernel
theorem dX1_firstNotFuller_20 : decode cX1_firstNotFuller 20 = .ok (.aload_n 0, 1) := by decide +kernel
theorem dX1_firstNotFuller_21 : decode cX1_firstNotFuller 21 = .ok (.getfield 26, 3) := by decide +kernel
theorem dX1_firstNotFuller_24 : decode cX1_firstNotFuller 24 = .ok (.iload_n 3, 1) := by decide +kernel
theorem dX1_firstNotFuller_25 : decode cX1_firstNotFuller 25 = .ok (.iaload, 1) := by decide +kernel
theorem dX1_firstNotFuller_26 : decode cX1_firstNotFuller 26 = .ok (.istore_n 2, 1) := by decide +kernel
theorem dX1_firstNotFuller_27 : decode cX1_firstNotFuller 27 = .ok (.aload_n 1, 1) := by decide +kernel
theorem dX1_firstNotFuller_28 : decode cX1_firstNotFuller 28 = .ok (.iload_n 2, 1) := by decide +kernel
theorem dX1_firstNotFuller_29 : decode cX1_firstNotFuller 29 = .ok (.iaload, 1) := by decide +kernel
theorem dX1_firstNotFuller_30 : decode cX1_firstNotFuller 30 = .ok (.aload_n 0, 1) := by decide +kernel
theorem dX1_firstNotFuller_31 : decode cX1_firstNotFuller 31 = .ok (.getfield 18, 3) := by decide +kernel
theorem dX1_firstNotFuller_34 : decode cX1_firstNotFuller 34 = .ok (.getfield 74, 3) := by decide +kernel
theorem dX1_firstNotFuller_37 : decode cX1_firstNotFuller 37 = .ok (.if_icmp .gt 5, 3) := by decide +kernel
theorem dX1_firstNotFuller_40 : decode cX1_firstNotFuller 40 = .ok (.iload_n 2, 1) := by decide +kernel
theorem dX1_firstNotFuller_41 : decode cX1_firstNotFuller 41 = .ok (.ireturn, 1) := by decide +kernel
theorem dX1_firstNotFuller_42 : decode cX1_firstNotFuller 42 = .ok (.iinc 3 1, 3) := by decide +kernel
theorem dX1_firstNotFuller_45 : decode cX1_firstNotFuller 45 = .ok (.goto (-41), 3) := by decide +kernel
theorem dX1_firstNotFuller_48 : decode cX1_firstNotFuller 48 = .ok (.iload_n 2, 1) := by decide +kernel
theorem dX1_firstNotFuller_49 : decode cX1_firstNotFuller 49 = .ok (.ireturn, 1) := by decide +kernel
theorem dX2_init_0 : decode cX2_init 0 = .ok (.aload_n 0, 1) := by decide +kernel
theorem dX2_init_1 : decode cX2_init 1 = .ok (.invokespecial 3, 3) := by decide +kernel
theorem dX2_init_4 : decode cX2_init 4 = .ok (.aload_n 0, 1) := by decide +kernel
theorem dX2_init_5 : decode cX2_init 5 = .ok (.iconst 5, 1) := by decide +kernel
theorem dX2_init_6 : decode cX2_init 6 = .ok (.newarray .int, 2) := by decide +kernel
theorem dX2_init_8 : decode cX2_init 8 = .ok (.putfield 9, 3) := by decide +kernel
theorem dX2_init_11 : decode cX2_init 11 = .ok (.return_, 1) := by decide +kernel
theorem dX2_begin_0 : decode cX2_begin 0 = .ok (.aload_n 0, 1) := by decide +kernel
theorem dX2_begin_1 : decode cX2_begin 1 = .ok (.iload_n 1, 1) := by decide +kernel
theorem dX2_begin_2 : decode cX2_begin 2 = .ok (.putfield 15, 3) := by decide +kernel
theorem dX2_begin_5 : decode cX2_begin 5 = .ok (.aload_n 0, 1) := by decide +kernel
theorem dX2_begin_6 : decode cX2_begin 6 = .ok (.iload_n 2, 1) := by decide +kernel
theorem dX2_begin_7 : decode cX2_begin 7 = .ok (.putfield 19, 3) := by decide +kernel
theorem dX2_begin_10 : decode cX2_begin 10 = .ok (.aload_n 0, 1) := by decide +kernel
theorem dX2_begin_11 : decode cX2_begin 11 = .ok (.iconst 0, 1) := by decide +kernel
theorem dX2_begin_12 : decode cX2_begin 12 = .ok (.putfield 22, 3) := by decide +kernel
theorem dX2_begin_15 : decode cX2_begin 15 = .ok (.aload_n 0, 1) := by decide +kernel
theorem dX2_begin_16 : decode cX2_begin 16 = .ok (.iconst 0, 1) := by decide +kernel
theorem dX2_begin_17 : decode cX2_begin 17 = .ok (.putfield 25, 3) := by decide +kernel
theorem dX2_begin_20 : decode cX2_begin 20 = .ok (.aload_n 0, 1) := by decide +kernel
theorem dX2_begin_21 : decode cX2_begin 21 = .ok (.iconst 0, 1) := by decide +kernel
theorem dX2_begin_22 : decode cX2_begin 22 = .ok (.putfield 28, 3) := by decide +kernel
theorem dX2_begin_25 : decode cX2_begin 25 = .ok (.iconst 0, 1) := by decide +kernel
theorem dX2_begin_26 : decode cX2_begin 26 = .ok (.istore_n 3, 1) := by decide +kernel
theorem dX2_begin_27 : decode cX2_begin 27 = .ok (.iload_n 3, 1) := by decide +kernel
theorem dX2_begin_28 : decode cX2_begin 28 = .ok (.iconst 5, 1) := by decide +kernel
theorem dX2_begin_29 : decode cX2_begin 29 = .ok (.if_icmp .ge 16, 3) := by decide +kernel
theorem dX2_begin_32 : decode cX2_begin 32 = .ok (.aload_n 0, 1) := by decide +kernel
theorem dX2_begin_33 : decode cX2_begin 33 = .ok (.getfield 9, 3) := by decide +kernel
theorem dX2_begin_36 : decode cX2_begin 36 = .ok (.iload_n 3, 1) := by decide +kernel
theorem dX2_begin_37 : decode cX2_begin 37 = .ok (.iconst 0, 1) := by decide +kernel
theorem dX2_begin_38 : decode cX2_begin 38 = .ok (.iastore, 1) := by decide +kernel
theorem dX2_begin_39 : decode cX2_begin 39 = .ok (.iinc 3 1, 3) := by decide +kernel
theorem dX2_begin_42 : decode cX2_begin 42 = .ok (.goto (-15), 3) := by decide +kernel
theorem dX2_begin_45 : decode cX2_begin 45 = .ok (.return_, 1) := by decide +kernel
theorem dX2_become_0 : decode cX2_become 0 = .ok (.aload_n 0, 1) := by decide +kernel
theorem dX2_become_1 : decode cX2_become 1 = .ok (.aload_n 1, 1) := by decide +kernel
theorem dX2_become_2 : decode cX2_become 2 = .ok (.getfield 15, 3) := by decide +kernel
theorem dX2_become_5 : decode cX2_become 5 = .ok (.putfield 15, 3) := by decide +kernel
theorem dX2_become_8 : decode cX2_become 8 = .ok (.aload_n 0, 1) := by decide +kernel
theorem dX2_become_9 : decode cX2_become 9 = .ok (.aload_n 1, 1) := by decide +kernel
theorem dX2_become_10 : decode cX2_become 10 = .ok (.getfield 19, 3) := by decide +kernel
theorem dX2_become_13 : decode cX2_become 13 = .ok (.putfield 19, 3) := by decide +kernel
theorem dX2_become_16 : decode cX2_become 16 = .ok (.aload_n 0, 1) := by decide +kernel
theorem dX2_become_17 : decode cX2_become 17 = .ok (.aload_n 1, 1) := by decide +kernel
theorem dX2_become_18 : decode cX2_become 18 = .ok (.getfield 22, 3) := by decide +kernel
theorem dX2_become_21 : decode cX2_become 21 = .ok (.putfield 22, 3) := by decide +kernel
theorem dX2_become_24 : decode cX2_become 24 = .ok (.aload_n 0, 1) := by decide +kernel
theorem dX2_become_25 : decode cX2_become 25 = .ok (.aload_n 1, 1) := by decide +kernel
theorem dX2_become_26 : decode cX2_become 26 = .ok (.getfield 25, 3) := by decide +kernel
theorem dX2_become_29 : decode cX2_become 29 = .ok (.putfield 25, 3) := by decide +kernel
theorem dX2_become_32 : decode cX2_become 32 = .ok (.aload_n 0, 1) := by decide +kernel
theorem dX2_become_33 : decode cX2_become 33 = .ok (.aload_n 1, 1) := by decide +kernel
theorem dX2_become_34 : decode cX2_become 34 = .ok (.getfield 28, 3) := by decide +kernel
theorem dX2_become_37 : decode cX2_become 37 = .ok (.putfield 28, 3) := by decide +kernel
theorem dX2_become_40 : decode cX2_become 40 = .ok (.iconst 0, 1) := by decide +kernel
theorem dX2_become_41 : decode cX2_become 41 = .ok (.istore_n 2, 1) := by decide +kernel
theorem dX2_become_42 : decode cX2_become 42 = .ok (.iload_n 2, 1) := by decide +kernel
theorem dX2_become_43 : decode cX2_become 43 = .ok (.iconst 5, 1) := by decide +kernel
theorem dX2_become_44 : decode cX2_become 44 = .ok (.if_icmp .ge 21, 3) := by decide +kernel
theorem dX2_become_47 : decode cX2_become 47 = .ok (.aload_n 0, 1) := by decide +kernel
theorem dX2_become_48 : decode cX2_become 48 = .ok (.getfield 9, 3) := by decide +kernel
theorem dX2_become_51 : decode cX2_become 51 = .ok (.iload_n 2, 1) := by decide +kernel
theorem dX2_become_52 : decode cX2_become 52 = .ok (.aload_n 1, 1) := by decide +kernel
theorem dX2_become_53 : decode cX2_become 53 = .ok (.getfield 9, 3) := by decide +kernel
theorem dX2_become_56 : decode cX2_become 56 = .ok (.iload_n 2, 1) := by decide +kernel
theorem dX2_become_57 : decode cX2_become 57 = .ok (.iaload, 1) := by decide +kernel
theorem dX2_become_58 : decode cX2_become 58 = .ok (.iastore, 1) := by decide +kernel
theorem dX2_become_59 : decode cX2_become 59 = .ok (.iinc 2 1, 3) := by decide +kernel
theorem dX2_become_62 : decode cX2_become 62 = .ok (.goto (-20), 3) := by decide +kernel
theorem dX2_become_65 : decode cX2_become 65 = .ok (.return_, 1) := by decide +kernel
theorem dX2_draw_0 : decode cX2_draw 0 = .ok (.aload_n 0, 1) := by decide +kernel
theorem dX2_draw_1 : decode cX2_draw 1 = .ok (.bipush 75, 2) := by decide +kernel
theorem dX2_draw_3 : decode cX2_draw 3 = .ok (.aload_n 0, 1) := by decide +kernel
theorem dX2_draw_4 : decode cX2_draw 4 = .ok (.getfield 19, 3) := by decide +kernel
theorem dX2_draw_7 : decode cX2_draw 7 = .ok (.imul, 1) := by decide +kernel
theorem dX2_draw_8 : decode cX2_draw 8 = .ok (.bipush 74, 2) := by decide +kernel
theorem dX2_draw_10 : decode cX2_draw 10 = .ok (.iadd, 1) := by decide +kernel
theorem dX2_draw_11 : decode cX2_draw 11 = .ok (.ldc 31, 2) := by decide +kernel
theorem dX2_draw_13 : decode cX2_draw 13 = .ok (.irem, 1) := by decide +kernel
theorem dX2_draw_14 : decode cX2_draw 14 = .ok (.putfield 19, 3) := by decide +kernel
theorem dX2_draw_17 : decode cX2_draw 17 = .ok (.aload_n 0, 1) := by decide +kernel
theorem dX2_draw_18 : decode cX2_draw 18 = .ok (.getfield 19, 3) := by decide +kernel
theorem dX2_draw_21 : decode cX2_draw 21 = .ok (.ireturn, 1) := by decide +kernel
theorem dX2_land_0 : decode cX2_land 0 = .ok (.aload_n 1, 1) := by decide +kernel
theorem dX2_land_1 : decode cX2_land 1 = .ok (.aload_n 0, 1) := by decide +kernel
theorem dX2_land_2 : decode cX2_land 2 = .ok (.getfield 9, 3) := by decide +kernel
theorem dX2_land_5 : decode cX2_land 5 = .ok (.iload_n 2, 1) := by decide +kernel
theorem dX2_land_6 : decode cX2_land 6 = .ok (.invokevirtual 32, 3) := by decide +kernel
theorem dX2_land_9 : decode cX2_land 9 = .ok (.istore 4, 2) := by decide +kernel
theorem dX2_land_11 : decode cX2_land 11 = .ok (.iload 4, 2) := by decide +kernel
theorem dX2_land_13 : decode cX2_land 13 = .ok (.ifCond .ge 16, 3) := by decide +kernel
theorem dX2_land_16 : decode cX2_land 16 = .ok (.aload_n 0, 1) := by decide +kernel
theorem dX2_land_17 : decode cX2_land 17 = .ok (.dup, 1) := by decide +kernel
theorem dX2_land_18 : decode cX2_land 18 = .ok (.getfield 25, 3) := by decide +kernel
theorem dX2_land_21 : decode cX2_land 21 = .ok (.iconst 1, 1) := by decide +kernel
theorem dX2_land_22 : decode cX2_land 22 = .ok (.iadd, 1) := by decide +kernel
theorem dX2_land_23 : decode cX2_land 23 = .ok (.putfield 25, 3) := by decide +kernel
theorem dX2_land_26 : decode cX2_land 26 = .ok (.goto 14, 3) := by decide +kernel
theorem dX2_land_29 : decode cX2_land 29 = .ok (.aload_n 0, 1) := by decide +kernel
theorem dX2_land_30 : decode cX2_land 30 = .ok (.getfield 9, 3) := by decide +kernel
theorem dX2_land_33 : decode cX2_land 33 = .ok (.iload 4, 2) := by decide +kernel
theorem dX2_land_35 : decode cX2_land 35 = .ok (.dup2, 1) := by decide +kernel
theorem dX2_land_36 : decode cX2_land 36 = .ok (.iaload, 1) := by decide +kernel
theorem dX2_land_37 : decode cX2_land 37 = .ok (.iconst 1, 1) := by decide +kernel
theorem dX2_land_38 : decode cX2_land 38 = .ok (.iadd, 1) := by decide +kernel
theorem dX2_land_39 : decode cX2_land 39 = .ok (.iastore, 1) := by decide +kernel
theorem dX2_land_40 : decode cX2_land 40 = .ok (.aload_n 0, 1) := by decide +kernel
theorem dX2_land_41 : decode cX2_land 41 = .ok (.dup, 1) := by decide +kernel
theorem dX2_land_42 : decode cX2_land 42 = .ok (.getfield 22, 3) := by decide +kernel
theorem dX2_land_45 : decode cX2_land 45 = .ok (.iconst 1, 1) := by decide +kernel
theorem dX2_land_46 : decode cX2_land 46 = .ok (.iadd, 1) := by decide +kernel
theorem dX2_land_47 : decode cX2_land 47 = .ok (.putfield 22, 3) := by decide +kernel
theorem dX2_land_50 : decode cX2_land 50 = .ok (.aload_n 0, 1) := by decide +kernel
theorem dX2_land_51 : decode cX2_land 51 = .ok (.iload_n 3, 1) := by decide +kernel
theorem dX2_land_52 : decode cX2_land 52 = .ok (.putfield 28, 3) := by decide +kernel
theorem dX2_land_55 : decode cX2_land 55 = .ok (.aload_n 1, 1) := by decide +kernel
theorem dX2_land_56 : decode cX2_land 56 = .ok (.aload_n 0, 1) := by decide +kernel
theorem dX2_land_57 : decode cX2_land 57 = .ok (.getfield 9, 3) := by decide +kernel
theorem dX2_land_60 : decode cX2_land 60 = .ok (.aload_n 0, 1) := by decide +kernel
theorem dX2_land_61 : decode cX2_land 61 = .ok (.getfield 22, 3) := by decide +kernel
theorem dX2_land_64 : decode cX2_land 64 = .ok (.invokevirtual 38, 3) := by decide +kernel
theorem dX2_land_67 : decode cX2_land 67 = .ok (.return_, 1) := by decide +kernel
theorem dX3_init_0 : decode cX3_init 0 = .ok (.aload_n 0, 1) := by decide +kernel
theorem dX3_init_1 : decode cX3_init 1 = .ok (.invokespecial 3, 3) := by decide +kernel
theorem dX3_init_4 : decode cX3_init 4 = .ok (.aload_n 0, 1) := by decide +kernel
theorem dX3_init_5 : decode cX3_init 5 = .ok (.iconst 5, 1) := by decide +kernel
theorem dX3_init_6 : decode cX3_init 6 = .ok (.newarray .int, 2) := by decide +kernel
theorem dX3_init_8 : decode cX3_init 8 = .ok (.putfield 9, 3) := by decide +kernel
theorem dX3_init_11 : decode cX3_init 11 = .ok (.aload_n 0, 1) := by decide +kernel
theorem dX3_init_12 : decode cX3_init 12 = .ok (.iconst 5, 1) := by decide +kernel
theorem dX3_init_13 : decode cX3_init 13 = .ok (.newarray .int, 2) := by decide +kernel
theorem dX3_init_15 : decode cX3_init 15 = .ok (.putfield 15, 3) := by decide +kernel
theorem dX3_init_18 : decode cX3_init 18 = .ok (.aload_n 0, 1) := by decide +kernel
theorem dX3_init_19 : decode cX3_init 19 = .ok (.iconst 5, 1) := by decide +kernel
theorem dX3_init_20 : decode cX3_init 20 = .ok (.newarray .boolean, 2) := by decide +kernel
theorem dX3_init_22 : decode cX3_init 22 = .ok (.putfield 18, 3) := by decide +kernel
theorem dX3_init_25 : decode cX3_init 25 = .ok (.aload_n 0, 1) := by decide +kernel
theorem dX3_init_26 : decode cX3_init 26 = .ok (.bipush 6, 2) := by decide +kernel
theorem dX3_init_28 : decode cX3_init 28 = .ok (.anewarray 22, 3) := by decide +kernel
theorem dX3_init_31 : decode cX3_init 31 = .ok (.putfield 24, 3) := by decide +kernel
theorem dX3_init_34 : decode cX3_init 34 = .ok (.iconst 0, 1) := by decide +kernel
theorem dX3_init_35 : decode cX3_init 35 = .ok (.istore_n 1, 1) := by decide +kernel
theorem dX3_init_36 : decode cX3_init 36 = .ok (.iload_n 1, 1) := by decide +kernel
theorem dX3_init_37 : decode cX3_init 37 = .ok (.bipush 6, 2) := by decide +kernel
theorem dX3_init_39 : decode cX3_init 39 = .ok (.if_icmp .ge 22, 3) := by decide +kernel
theorem dX3_init_42 : decode cX3_init 42 = .ok (.aload_n 0, 1) := by decide +kernel
theorem dX3_init_43 : decode cX3_init 43 = .ok (.getfield 24, 3) := by decide +kernel
theorem dX3_init_46 : decode cX3_init 46 = .ok (.iload_n 1, 1) := by decide +kernel
theorem dX3_init_47 : decode cX3_init 47 = .ok (.new 22, 3) := by decide +kernel
theorem dX3_init_50 : decode cX3_init 50 = .ok (.dup, 1) := by decide +kernel
theorem dX3_init_51 : decode cX3_init 51 = .ok (.invokespecial 28, 3) := by decide +kernel
theorem dX3_init_54 : decode cX3_init 54 = .ok (.aastore, 1) := by decide +kernel
theorem dX3_init_55 : decode cX3_init 55 = .ok (.iinc 1 1, 3) := by decide +kernel
theorem dX3_init_58 : decode cX3_init 58 = .ok (.goto (-22), 3) := by decide +kernel
theorem dX3_init_61 : decode cX3_init 61 = .ok (.aload_n 0, 1) := by decide +kernel
theorem dX3_init_62 : decode cX3_init 62 = .ok (.bipush 6, 2) := by decide +kernel
theorem dX3_init_64 : decode cX3_init 64 = .ok (.newarray .long, 2) := by decide +kernel
theorem dX3_init_66 : decode cX3_init 66 = .ok (.putfield 29, 3) := by decide +kernel
theorem dX3_init_69 : decode cX3_init 69 = .ok (.aload_n 0, 1) := by decide +kernel
theorem dX3_init_70 : decode cX3_init 70 = .ok (.bipush 8, 2) := by decide +kernel
theorem dX3_init_72 : decode cX3_init 72 = .ok (.iconst 5, 1) := by decide +kernel
theorem dX3_init_73 : decode cX3_init 73 = .ok (.multianewarray 33 2, 4) := by decide +kernel
theorem dX3_init_77 : decode cX3_init 77 = .ok (.putfield 35, 3) := by decide +kernel
theorem dX3_init_80 : decode cX3_init 80 = .ok (.return_, 1) := by decide +kernel
theorem dX3_clear_0 : decode cX3_clear 0 = .ok (.aload_n 0, 1) := by decide +kernel
theorem dX3_clear_1 : decode cX3_clear 1 = .ok (.iconst 0, 1) := by decide +kernel
theorem dX3_clear_2 : decode cX3_clear 2 = .ok (.putfield 38, 3) := by decide +kernel
theorem dX3_clear_5 : decode cX3_clear 5 = .ok (.aload_n 0, 1) := by decide +kernel
theorem dX3_clear_6 : decode cX3_clear 6 = .ok (.iconst 0, 1) := by decide +kernel
theorem dX3_clear_7 : decode cX3_clear 7 = .ok (.putfield 42, 3) := by decide +kernel
theorem dX3_clear_10 : decode cX3_clear 10 = .ok (.aload_n 0, 1) := by decide +kernel
theorem dX3_clear_11 : decode cX3_clear 11 = .ok (.iconst 0, 1) := by decide +kernel
theorem dX3_clear_12 : decode cX3_clear 12 = .ok (.putfield 46, 3) := by decide +kernel
theorem dX3_clear_15 : decode cX3_clear 15 = .ok (.aload_n 0, 1) := by decide +kernel
theorem dX3_clear_16 : decode cX3_clear 16 = .ok (.iconst 0, 1) := by decide +kernel
theorem dX3_clear_17 : decode cX3_clear 17 = .ok (.putfield 49, 3) := by decide +kernel
theorem dX3_clear_20 : decode cX3_clear 20 = .ok (.aload_n 0, 1) := by decide +kernel
theorem dX3_clear_21 : decode cX3_clear 21 = .ok (.iconst 0, 1) := by decide +kernel
theorem dX3_clear_22 : decode cX3_clear 22 = .ok (.putfield 52, 3) := by decide +kernel
theorem dX3_clear_25 : decode cX3_clear 25 = .ok (.aload_n 0, 1) := by decide +kernel
theorem dX3_clear_26 : decode cX3_clear 26 = .ok (.iconst 0, 1) := by decide +kernel
theorem dX3_clear_27 : decode cX3_clear 27 = .ok (.putfield 55, 3) := by decide +kernel
theorem dX3_clear_30 : decode cX3_clear 30 = .ok (.aload_n 0, 1) := by decide +kernel
theorem dX3_clear_31 : decode cX3_clear 31 = .ok (.iconst 0, 1) := by decide +kernel
theorem dX3_clear_32 : decode cX3_clear 32 = .ok (.putfield 58, 3) := by decide +kernel
theorem dX3_clear_35 : decode cX3_clear 35 = .ok (.aload_n 0, 1) := by decide +kernel
theorem dX3_clear_36 : decode cX3_clear 36 = .ok (.iconst 0, 1) := by decide +kernel
theorem dX3_clear_37 : decode cX3_clear 37 = .ok (.putfield 61, 3) := by decide +kernel
theorem dX3_clear_40 : decode cX3_clear 40 = .ok (.iconst 0, 1) := by decide +kernel
theorem dX3_clear_41 : decode cX3_clear 41 = .ok (.istore_n 1, 1) := by decide +kernel
theorem dX3_clear_42 : decode cX3_clear 42 = .ok (.iload_n 1, 1) := by decide +kernel
theorem dX3_clear_43 : decode cX3_clear 43 = .ok (.iconst 5, 1) := by decide +kernel
theorem dX3_clear_44 : decode cX3_clear 44 = .ok (.if_icmp .ge 31, 3) := by decide +kernel
theorem dX3_clear_47 : decode cX3_clear 47 = .ok (.aload_n 0, 1) := by decide +kernel
theorem dX3_clear_48 : decode cX3_clear 48 = .ok (.getfield 9, 3) := by decide +kernel
theorem dX3_clear_51 : decode cX3_clear 51 = .ok (.iload_n 1, 1) := by decide +kernel
theorem dX3_clear_52 : decode cX3_clear 52 = .ok (.bipush 8, 2) := by decide +kernel
theorem dX3_clear_54 : decode cX3_clear 54 = .ok (.iastore, 1) := by decide +kernel
theorem dX3_clear_55 : decode cX3_clear 55 = .ok (.aload_n 0, 1) := by decide +kernel
theorem dX3_clear_56 : decode cX3_clear 56 = .ok (.getfield 15, 3) := by decide +kernel
theorem dX3_clear_59 : decode cX3_clear 59 = .ok (.iload_n 1, 1) := by decide +kernel
theorem dX3_clear_60 : decode cX3_clear 60 = .ok (.iconst 1, 1) := by decide +kernel
theorem dX3_clear_61 : decode cX3_clear 61 = .ok (.iastore, 1) := by decide +kernel
theorem dX3_clear_62 : decode cX3_clear 62 = .ok (.aload_n 0, 1) := by decide +kernel
theorem dX3_clear_63 : decode cX3_clear 63 = .ok (.getfield 18, 3) := by decide +kernel
theorem dX3_clear_66 : decode cX3_clear 66 = .ok (.iload_n 1, 1) := by decide +kernel
theorem dX3_clear_67 : decode cX3_clear 67 = .ok (.iconst 0, 1) := by decide +kernel
theorem dX3_clear_68 : decode cX3_clear 68 = .ok (.bastore, 1) := by decide +kernel
theorem dX3_clear_69 : decode cX3_clear 69 = .ok (.iinc 1 1, 3) := by decide +kernel
theorem dX3_clear_72 : decode cX3_clear 72 = .ok (.goto (-30), 3) := by decide +kernel
theorem dX3_clear_75 : decode cX3_clear 75 = .ok (.iconst 0, 1) := by decide +kernel
theorem dX3_clear_76 : decode cX3_clear 76 = .ok (.istore_n 1, 1) := by decide +kernel
theorem dX3_clear_77 : decode cX3_clear 77 = .ok (.iload_n 1, 1) := by decide +kernel
theorem dX3_clear_78 : decode cX3_clear 78 = .ok (.bipush 8, 2) := by decide +kernel
theorem dX3_clear_80 : decode cX3_clear 80 = .ok (.if_icmp .ge 31, 3) := by decide +kernel
theorem dX3_clear_83 : decode cX3_clear 83 = .ok (.iconst 0, 1) := by decide +kernel
theorem dX3_clear_84 : decode cX3_clear 84 = .ok (.istore_n 2, 1) := by decide +kernel
theorem dX3_clear_85 : decode cX3_clear 85 = .ok (.iload_n 2, 1) := by decide +kernel
theorem dX3_clear_86 : decode cX3_clear 86 = .ok (.iconst 5, 1) := by decide +kernel
theorem dX3_clear_87 : decode cX3_clear 87 = .ok (.if_icmp .ge 18, 3) := by decide +kernel
theorem dX3_clear_90 : decode cX3_clear 90 = .ok (.aload_n 0, 1) := by decide +kernel
theorem dX3_clear_91 : decode cX3_clear 91 = .ok (.getfield 35, 3) := by decide +kernel
theorem dX3_clear_94 : decode cX3_clear 94 = .ok (.iload_n 1, 1) := by decide +kernel
theorem dX3_clear_95 : decode cX3_clear 95 = .ok (.aaload, 1) := by decide +kernel
theorem dX3_clear_96 : decode cX3_clear 96 = .ok (.iload_n 2, 1) := by decide +kernel
theorem dX3_clear_97 : decode cX3_clear 97 = .ok (.iconst 0, 1) := by decide +kernel
theorem dX3_clear_98 : decode cX3_clear 98 = .ok (.iastore, 1) := by decide +kernel
theorem dX3_clear_99 : decode cX3_clear 99 = .ok (.iinc 2 1, 3) := by decide +kernel
theorem dX3_clear_102 : decode cX3_clear 102 = .ok (.goto (-17), 3) := by decide +kernel
theorem dX3_clear_105 : decode cX3_clear 105 = .ok (.iinc 1 1, 3) := by decide +kernel
theorem dX3_clear_108 : decode cX3_clear 108 = .ok (.goto (-31), 3) := by decide +kernel
theorem dX3_clear_111 : decode cX3_clear 111 = .ok (.return_, 1) := by decide +kernel
theorem dX3_sumUp_0 : decode cX3_sumUp 0 = .ok (.aload_n 0, 1) := by decide +kernel
theorem dX3_sumUp_1 : decode cX3_sumUp 1 = .ok (.iconst 0, 1) := by decide +kernel
theorem dX3_sumUp_2 : decode cX3_sumUp 2 = .ok (.putfield 64, 3) := by decide +kernel
theorem dX3_sumUp_5 : decode cX3_sumUp 5 = .ok (.aload_n 0, 1) := by decide +kernel
theorem dX3_sumUp_6 : decode cX3_sumUp 6 = .ok (.iconst 0, 1) := by decide +kernel
theorem dX3_sumUp_7 : decode cX3_sumUp 7 = .ok (.putfield 67, 3) := by decide +kernel
theorem dX3_sumUp_10 : decode cX3_sumUp 10 = .ok (.iconst 0, 1) := by decide +kernel
theorem dX3_sumUp_11 : decode cX3_sumUp 11 = .ok (.istore_n 1, 1) := by decide +kernel
theorem dX3_sumUp_12 : decode cX3_sumUp 12 = .ok (.iload_n 1, 1) := by decide +kernel
theorem dX3_sumUp_13 : decode cX3_sumUp 13 = .ok (.aload_n 0, 1) := by decide +kernel
theorem dX3_sumUp_14 : decode cX3_sumUp 14 = .ok (.getfield 42, 3) := by decide +kernel
theorem dX3_sumUp_17 : decode cX3_sumUp 17 = .ok (.if_icmp .ge 39, 3) := by decide +kernel
theorem dX3_sumUp_20 : decode cX3_sumUp 20 = .ok (.aload_n 0, 1) := by decide +kernel
theorem dX3_sumUp_21 : decode cX3_sumUp 21 = .ok (.dup, 1) := by decide +kernel
theorem dX3_sumUp_22 : decode cX3_sumUp 22 = .ok (.getfield 64, 3) := by decide +kernel
theorem dX3_sumUp_25 : decode cX3_sumUp 25 = .ok (.aload_n 0, 1) := by decide +kernel
theorem dX3_sumUp_26 : decode cX3_sumUp 26 = .ok (.getfield 9, 3) := by decide +kernel
theorem dX3_sumUp_29 : decode cX3_sumUp 29 = .ok (.iload_n 1, 1) := by decide +kernel
theorem dX3_sumUp_30 : decode cX3_sumUp 30 = .ok (.iaload, 1) := by decide +kernel
theorem dX3_sumUp_31 : decode cX3_sumUp 31 = .ok (.iadd, 1) := by decide +kernel
theorem dX3_sumUp_32 : decode cX3_sumUp 32 = .ok (.putfield 64, 3) := by decide +kernel
theorem dX3_sumUp_35 : decode cX3_sumUp 35 = .ok (.aload_n 0, 1) := by decide +kernel
theorem dX3_sumUp_36 : decode cX3_sumUp 36 = .ok (.dup, 1) := by decide +kernel
theorem dX3_sumUp_37 : decode cX3_sumUp 37 = .ok (.getfield 67, 3) := by decide +kernel
theorem dX3_sumUp_40 : decode cX3_sumUp 40 = .ok (.aload_n 0, 1) := by decide +kernel
theorem dX3_sumUp_41 : decode cX3_sumUp 41 = .ok (.getfield 15, 3) := by decide +kernel
theorem dX3_sumUp_44 : decode cX3_sumUp 44 = .ok (.iload_n 1, 1) := by decide +kernel
theorem dX3_sumUp_45 : decode cX3_sumUp 45 = .ok (.iaload, 1) := by decide +kernel
theorem dX3_sumUp_46 : decode cX3_sumUp 46 = .ok (.iadd, 1) := by decide +kernel
theorem dX3_sumUp_47 : decode cX3_sumUp 47 = .ok (.putfield 67, 3) := by decide +kernel
theorem dX3_sumUp_50 : decode cX3_sumUp 50 = .ok (.iinc 1 1, 3) := by decide +kernel
theorem dX3_sumUp_53 : decode cX3_sumUp 53 = .ok (.goto (-41), 3) := by decide +kernel
theorem dX3_sumUp_56 : decode cX3_sumUp 56 = .ok (.return_, 1) := by decide +kernel
theorem dX3_hasName_0 : decode cX3_hasName 0 = .ok (.iconst 0, 1) := by decide +kernel
theorem dX3_hasName_1 : decode cX3_hasName 1 = .ok (.istore_n 3, 1) := by decide +kernel
theorem dX3_hasName_2 : decode cX3_hasName 2 = .ok (.iload_n 3, 1) := by decide +kernel
theorem dX3_hasName_3 : decode cX3_hasName 3 = .ok (.aload_n 0, 1) := by decide +kernel
theorem dX3_hasName_4 : decode cX3_hasName 4 = .ok (.getfield 58, 3) := by decide +kernel
theorem dX3_hasName_7 : decode cX3_hasName 7 = .ok (.if_icmp .ge 22, 3) := by decide +kernel
theorem dX3_hasName_10 : decode cX3_hasName 10 = .ok (.aload_n 0, 1) := by decide +kernel
theorem dX3_hasName_11 : decode cX3_hasName 11 = .ok (.getfield 29, 3) := by decide +kernel
theorem dX3_hasName_14 : decode cX3_hasName 14 = .ok (.iload_n 3, 1) := by decide +kernel
theorem dX3_hasName_15 : decode cX3_hasName 15 = .ok (.laload, 1) := by decide +kernel
theorem dX3_hasName_16 : decode cX3_hasName 16 = .ok (.lload_n 1, 1) := by decide +kernel
theorem dX3_hasName_17 : decode cX3_hasName 17 = .ok (.lcmp, 1) := by decide +kernel
theorem dX3_hasName_18 : decode cX3_hasName 18 = .ok (.ifCond .ne 5, 3) := by decide +kernel
theorem dX3_hasName_21 : decode cX3_hasName 21 = .ok (.iconst 1, 1) := by decide +kernel
theorem dX3_hasName_22 : decode cX3_hasName 22 = .ok (.ireturn, 1) := by decide +kernel
theorem dX3_hasName_23 : decode cX3_hasName 23 = .ok (.iinc 3 1, 3) := by decide +kernel
theorem dX3_hasName_26 : decode cX3_hasName 26 = .ok (.goto (-24), 3) := by decide +kernel
theorem dX3_hasName_29 : decode cX3_hasName 29 = .ok (.iconst 0, 1) := by decide +kernel
theorem dX3_hasName_30 : decode cX3_hasName 30 = .ok (.ireturn, 1) := by decide +kernel
theorem dX3_isDoors_0 : decode cX3_isDoors 0 = .ok (.aload_n 0, 1) := by decide +kernel
theorem dX3_isDoors_1 : decode cX3_isDoors 1 = .ok (.getfield 52, 3) := by decide +kernel
theorem dX3_isDoors_4 : decode cX3_isDoors 4 = .ok (.ifCond .le 16, 3) := by decide +kernel
theorem dX3_isDoors_7 : decode cX3_isDoors 7 = .ok (.iload_n 1, 1) := by decide +kernel
theorem dX3_isDoors_8 : decode cX3_isDoors 8 = .ok (.aload_n 0, 1) := by decide +kernel
theorem dX3_isDoors_9 : decode cX3_isDoors 9 = .ok (.getfield 52, 3) := by decide +kernel
theorem dX3_isDoors_12 : decode cX3_isDoors 12 = .ok (.irem, 1) := by decide +kernel
theorem dX3_isDoors_13 : decode cX3_isDoors 13 = .ok (.ifCond .ne 7, 3) := by decide +kernel
theorem dX3_isDoors_16 : decode cX3_isDoors 16 = .ok (.iconst 1, 1) := by decide +kernel
theorem dX3_isDoors_17 : decode cX3_isDoors 17 = .ok (.goto 4, 3) := by decide +kernel
theorem dX3_isDoors_20 : decode cX3_isDoors 20 = .ok (.iconst 0, 1) := by decide +kernel
theorem dX3_isDoors_21 : decode cX3_isDoors 21 = .ok (.ireturn, 1) := by decide +kernel
theorem dX3_roomFrom_0 : decode cX3_roomFrom 0 = .ok (.iload_n 2, 1) := by decide +kernel
theorem dX3_roomFrom_1 : decode cX3_roomFrom 1 = .ok (.istore_n 3, 1) := by decide +kernel
theorem dX3_roomFrom_2 : decode cX3_roomFrom 2 = .ok (.iconst 0, 1) := by decide +kernel
theorem dX3_roomFrom_3 : decode cX3_roomFrom 3 = .ok (.istore 4, 2) := by decide +kernel
theorem dX3_roomFrom_5 : decode cX3_roomFrom 5 = .ok (.iload 4, 2) := by decide +kernel
theorem dX3_roomFrom_7 : decode cX3_roomFrom 7 = .ok (.aload_n 0, 1) := by decide +kernel
theorem dX3_roomFrom_8 : decode cX3_roomFrom 8 = .ok (.getfield 42, 3) := by decide +kernel
theorem dX3_roomFrom_11 : decode cX3_roomFrom 11 = .ok (.if_icmp .ge 53, 3) := by decide +kernel
theorem dX3_roomFrom_14 : decode cX3_roomFrom 14 = .ok (.iload_n 3, 1) := by decide +kernel
theorem dX3_roomFrom_15 : decode cX3_roomFrom 15 = .ok (.ifCond .lt 49, 3) := by decide +kernel
theorem dX3_roomFrom_18 : decode cX3_roomFrom 18 = .ok (.iload_n 3, 1) := by decide +kernel
theorem dX3_roomFrom_19 : decode cX3_roomFrom 19 = .ok (.aload_n 0, 1) := by decide +kernel
theorem dX3_roomFrom_20 : decode cX3_roomFrom 20 = .ok (.getfield 42, 3) := by decide +kernel
theorem dX3_roomFrom_23 : decode cX3_roomFrom 23 = .ok (.if_icmp .ge 41, 3) := by decide +kernel
theorem dX3_roomFrom_26 : decode cX3_roomFrom 26 = .ok (.aload_n 1, 1) := by decide +kernel
theorem dX3_roomFrom_27 : decode cX3_roomFrom 27 = .ok (.iload_n 3, 1) := by decide +kernel
theorem dX3_roomFrom_28 : decode cX3_roomFrom 28 = .ok (.iaload, 1) := by decide +kernel
theorem dX3_roomFrom_29 : decode cX3_roomFrom 29 = .ok (.aload_n 0, 1) := by decide +kernel
theorem dX3_roomFrom_30 : decode cX3_roomFrom 30 = .ok (.getfield 9, 3) := by decide +kernel
theorem dX3_roomFrom_33 : decode cX3_roomFrom 33 = .ok (.iload_n 3, 1) := by decide +kernel
theorem dX3_roomFrom_34 : decode cX3_roomFrom 34 = .ok (.iaload, 1) := by decide +kernel
theorem dX3_roomFrom_35 : decode cX3_roomFrom 35 = .ok (.if_icmp .ge 5, 3) := by decide +kernel
theorem dX3_roomFrom_38 : decode cX3_roomFrom 38 = .ok (.iload_n 3, 1) := by decide +kernel
theorem dX3_roomFrom_39 : decode cX3_roomFrom 39 = .ok (.ireturn, 1) := by decide +kernel
theorem dX3_roomFrom_40 : decode cX3_roomFrom 40 = .ok (.iload_n 3, 1) := by decide +kernel
theorem dX3_roomFrom_41 : decode cX3_roomFrom 41 = .ok (.iconst 1, 1) := by decide +kernel
theorem dX3_roomFrom_42 : decode cX3_roomFrom 42 = .ok (.iadd, 1) := by decide +kernel
theorem dX3_roomFrom_43 : decode cX3_roomFrom 43 = .ok (.aload_n 0, 1) := by decide +kernel
theorem dX3_roomFrom_44 : decode cX3_roomFrom 44 = .ok (.getfield 42, 3) := by decide +kernel
theorem dX3_roomFrom_47 : decode cX3_roomFrom 47 = .ok (.if_icmp .ge 9, 3) := by decide +kernel
theorem dX3_roomFrom_50 : decode cX3_roomFrom 50 = .ok (.iload_n 3, 1) := by decide +kernel
theorem dX3_roomFrom_51 : decode cX3_roomFrom 51 = .ok (.iconst 1, 1) := by decide +kernel
theorem dX3_roomFrom_52 : decode cX3_roomFrom 52 = .ok (.iadd, 1) := by decide +kernel
theorem dX3_roomFrom_53 : decode cX3_roomFrom 53 = .ok (.goto 4, 3) := by decide +kernel
theorem dX3_roomFrom_56 : decode cX3_roomFrom 56 = .ok (.iconst 0, 1) := by decide +kernel
theorem dX3_roomFrom_57 : decode cX3_roomFrom 57 = .ok (.istore_n 3, 1) := by decide +kernel
theorem dX3_roomFrom_58 : decode cX3_roomFrom 58 = .ok (.iinc 4 1, 3) := by decide +kernel
theorem dX3_roomFrom_61 : decode cX3_roomFrom 61 = .ok (.goto (-56), 3) := by decide +kernel
theorem dX3_roomFrom_64 : decode cX3_roomFrom 64 = .ok (.iconst (-1), 1) := by decide +kernel
theorem dX3_roomFrom_65 : decode cX3_roomFrom 65 = .ok (.ireturn, 1) := by decide +kernel
theorem dX3_move_0 : decode cX3_move 0 = .ok (.aload_n 0, 1) := by decide +kernel
theorem dX3_move_1 : decode cX3_move 1 = .ok (.getfield 55, 3) := by decide +kernel
theorem dX3_move_4 : decode cX3_move 4 = .ok (.ifCond .le 12, 3) := by decide +kernel
theorem dX3_move_7 : decode cX3_move 7 = .ok (.iload_n 2, 1) := by decide +kernel
theorem dX3_move_8 : decode cX3_move 8 = .ok (.aload_n 0, 1) := by decide +kernel
theorem dX3_move_9 : decode cX3_move 9 = .ok (.getfield 55, 3) := by decide +kernel
theorem dX3_move_12 : decode cX3_move 12 = .ok (.irem, 1) := by decide +kernel
theorem dX3_move_13 : decode cX3_move 13 = .ok (.ifCond .eq 4, 3) := by decide +kernel
theorem dX3_move_16 : decode cX3_move 16 = .ok (.return_, 1) := by decide +kernel
theorem dX3_move_17 : decode cX3_move 17 = .ok (.iconst 0, 1) := by decide +kernel
theorem dX3_move_18 : decode cX3_move 18 = .ok (.istore_n 3, 1) := by decide +kernel
theorem dX3_move_19 : decode cX3_move 19 = .ok (.iconst 0, 1) := by decide +kernel
theorem dX3_move_20 : decode cX3_move 20 = .ok (.istore 4, 2) := by decide +kernel
theorem dX3_move_22 : decode cX3_move 22 = .ok (.iconst 1, 1) := by decide +kernel
theorem dX3_move_23 : decode cX3_move 23 = .ok (.istore 5, 2) := by decide +kernel
theorem dX3_move_25 : decode cX3_move 25 = .ok (.iload 5, 2) := by decide +kernel
theorem dX3_move_27 : decode cX3_move 27 = .ok (.aload_n 0, 1) := by decide +kernel
theorem dX3_move_28 : decode cX3_move 28 = .ok (.getfield 42, 3) := by decide +kernel
theorem dX3_move_31 : decode cX3_move 31 = .ok (.if_icmp .ge 46, 3) := by decide +kernel
theorem dX3_move_34 : decode cX3_move 34 = .ok (.aload_n 1, 1) := by decide +kernel
theorem dX3_move_35 : decode cX3_move 35 = .ok (.iload 5, 2) := by decide +kernel
theorem dX3_move_37 : decode cX3_move 37 = .ok (.iaload, 1) := by decide +kernel
theorem dX3_move_38 : decode cX3_move 38 = .ok (.aload_n 1, 1) := by decide +kernel
theorem dX3_move_39 : decode cX3_move 39 = .ok (.iload_n 3, 1) := by decide +kernel
theorem dX3_move_40 : decode cX3_move 40 = .ok (.iaload, 1) := by decide +kernel
theorem dX3_move_41 : decode cX3_move 41 = .ok (.if_icmp .le 8, 3) := by decide +kernel
theorem dX3_move_44 : decode cX3_move 44 = .ok (.iload 5, 2) := by decide +kernel
theorem dX3_move_46 : decode cX3_move 46 = .ok (.goto 4, 3) := by decide +kernel
theorem dX3_move_49 : decode cX3_move 49 = .ok (.iload_n 3, 1) := by decide +kernel
theorem dX3_move_50 : decode cX3_move 50 = .ok (.istore_n 3, 1) := by decide +kernel
theorem dX3_move_51 : decode cX3_move 51 = .ok (.aload_n 1, 1) := by decide +kernel
theorem dX3_move_52 : decode cX3_move 52 = .ok (.iload 5, 2) := by decide +kernel
theorem dX3_move_54 : decode cX3_move 54 = .ok (.iaload, 1) := by decide +kernel
theorem dX3_move_55 : decode cX3_move 55 = .ok (.aload_n 1, 1) := by decide +kernel
theorem dX3_move_56 : decode cX3_move 56 = .ok (.iload 4, 2) := by decide +kernel
theorem dX3_move_58 : decode cX3_move 58 = .ok (.iaload, 1) := by decide +kernel
theorem dX3_move_59 : decode cX3_move 59 = .ok (.if_icmp .ge 8, 3) := by decide +kernel
theorem dX3_move_62 : decode cX3_move 62 = .ok (.iload 5, 2) := by decide +kernel
theorem dX3_move_64 : decode cX3_move 64 = .ok (.goto 5, 3) := by decide +kernel
theorem dX3_move_67 : decode cX3_move 67 = .ok (.iload 4, 2) := by decide +kernel
theorem dX3_move_69 : decode cX3_move 69 = .ok (.istore 4, 2) := by decide +kernel
theorem dX3_move_71 : decode cX3_move 71 = .ok (.iinc 5 1, 3) := by decide +kernel
theorem dX3_move_74 : decode cX3_move 74 = .ok (.goto (-49), 3) := by decide +kernel
theorem dX3_move_77 : decode cX3_move 77 = .ok (.aload_n 1, 1) := by decide +kernel
theorem dX3_move_78 : decode cX3_move 78 = .ok (.iload_n 3, 1) := by decide +kernel
theorem dX3_move_79 : decode cX3_move 79 = .ok (.iaload, 1) := by decide +kernel
theorem dX3_move_80 : decode cX3_move 80 = .ok (.aload_n 1, 1) := by decide +kernel
theorem dX3_move_81 : decode cX3_move 81 = .ok (.iload 4, 2) := by decide +kernel
theorem dX3_move_83 : decode cX3_move 83 = .ok (.iaload, 1) := by decide +kernel
theorem dX3_move_84 : decode cX3_move 84 = .ok (.isub, 1) := by decide +kernel
theorem dX3_move_85 : decode cX3_move 85 = .ok (.iconst 2, 1) := by decide +kernel
theorem dX3_move_86 : decode cX3_move 86 = .ok (.if_icmp .lt 32, 3) := by decide +kernel
theorem dX3_move_89 : decode cX3_move 89 = .ok (.aload_n 1, 1) := by decide +kernel
theorem dX3_move_90 : decode cX3_move 90 = .ok (.iload 4, 2) := by decide +kernel
theorem dX3_move_92 : decode cX3_move 92 = .ok (.iaload, 1) := by decide +kernel
theorem dX3_move_93 : decode cX3_move 93 = .ok (.aload_n 0, 1) := by decide +kernel
theorem dX3_move_94 : decode cX3_move 94 = .ok (.getfield 9, 3) := by decide +kernel
theorem dX3_move_97 : decode cX3_move 97 = .ok (.iload 4, 2) := by decide +kernel
theorem dX3_move_99 : decode cX3_move 99 = .ok (.iaload, 1) := by decide +kernel
theorem dX3_move_100 : decode cX3_move 100 = .ok (.if_icmp .ge 18, 3) := by decide +kernel
theorem dX3_move_103 : decode cX3_move 103 = .ok (.aload_n 1, 1) := by decide +kernel
theorem dX3_move_104 : decode cX3_move 104 = .ok (.iload_n 3, 1) := by decide +kernel
theorem dX3_move_105 : decode cX3_move 105 = .ok (.dup2, 1) := by decide +kernel
theorem dX3_move_106 : decode cX3_move 106 = .ok (.iaload, 1) := by decide +kernel
theorem dX3_move_107 : decode cX3_move 107 = .ok (.iconst 1, 1) := by decide +kernel
theorem dX3_move_108 : decode cX3_move 108 = .ok (.isub, 1) := by decide +kernel
theorem dX3_move_109 : decode cX3_move 109 = .ok (.iastore, 1) := by decide +kernel
theorem dX3_move_110 : decode cX3_move 110 = .ok (.aload_n 1, 1) := by decide +kernel
theorem dX3_move_111 : decode cX3_move 111 = .ok (.iload 4, 2) := by decide +kernel
theorem dX3_move_113 : decode cX3_move 113 = .ok (.dup2, 1) := by decide +kernel
theorem dX3_move_114 : decode cX3_move 114 = .ok (.iaload, 1) := by decide +kernel
theorem dX3_move_115 : decode cX3_move 115 = .ok (.iconst 1, 1) := by decide +kernel
theorem dX3_move_116 : decode cX3_move 116 = .ok (.iadd, 1) := by decide +kernel
theorem dX3_move_117 : decode cX3_move 117 = .ok (.iastore, 1) := by decide +kernel
theorem dX3_move_118 : decode cX3_move 118 = .ok (.return_, 1) := by decide +kernel
theorem dX3_tooMany_0 : decode cX3_tooMany 0 = .ok (.lconst 1, 1) := by decide +kernel
theorem dX3_tooMany_1 : decode cX3_tooMany 1 = .ok (.lstore_n 3, 1) := by decide +kernel
theorem dX3_tooMany_2 : decode cX3_tooMany 2 = .ok (.iconst 0, 1) := by decide +kernel
theorem dX3_tooMany_3 : decode cX3_tooMany 3 = .ok (.istore 5, 2) := by decide +kernel
theorem dX3_tooMany_5 : decode cX3_tooMany 5 = .ok (.iload 5, 2) := by decide +kernel
theorem dX3_tooMany_7 : decode cX3_tooMany 7 = .ok (.aload_n 1, 1) := by decide +kernel
theorem dX3_tooMany_8 : decode cX3_tooMany 8 = .ok (.getfield 70, 3) := by decide +kernel
theorem dX3_tooMany_11 : decode cX3_tooMany 11 = .ok (.if_icmp .ge 17, 3) := by decide +kernel
theorem dX3_tooMany_14 : decode cX3_tooMany 14 = .ok (.lload_n 3, 1) := by decide +kernel
theorem dX3_tooMany_15 : decode cX3_tooMany 15 = .ok (.aload_n 0, 1) := by decide +kernel
theorem dX3_tooMany_16 : decode cX3_tooMany 16 = .ok (.getfield 67, 3) := by decide +kernel
theorem dX3_tooMany_19 : decode cX3_tooMany 19 = .ok (.i2l, 1) := by decide +kernel
theorem dX3_tooMany_20 : decode cX3_tooMany 20 = .ok (.lmul, 1) := by decide +kernel
theorem dX3_tooMany_21 : decode cX3_tooMany 21 = .ok (.lstore_n 3, 1) := by decide +kernel
theorem dX3_tooMany_22 : decode cX3_tooMany 22 = .ok (.iinc 5 1, 3) := by decide +kernel
theorem dX3_tooMany_25 : decode cX3_tooMany 25 = .ok (.goto (-20), 3) := by decide +kernel
theorem dX3_tooMany_28 : decode cX3_tooMany 28 = .ok (.aload_n 1, 1) := by decide +kernel
theorem dX3_tooMany_29 : decode cX3_tooMany 29 = .ok (.getfield 73, 3) := by decide +kernel
theorem dX3_tooMany_32 : decode cX3_tooMany 32 = .ok (.ifCond .ne 25, 3) := by decide +kernel
theorem dX3_tooMany_35 : decode cX3_tooMany 35 = .ok (.lload_n 3, 1) := by decide +kernel
theorem dX3_tooMany_36 : decode cX3_tooMany 36 = .ok (.aload_n 1, 1) := by decide +kernel
theorem dX3_tooMany_37 : decode cX3_tooMany 37 = .ok (.getfield 70, 3) := by decide +kernel
theorem dX3_tooMany_40 : decode cX3_tooMany 40 = .ok (.iconst 3, 1) := by decide +kernel
theorem dX3_tooMany_41 : decode cX3_tooMany 41 = .ok (.if_icmp .ne 9, 3) := by decide +kernel
theorem dX3_tooMany_44 : decode cX3_tooMany 44 = .ok (.ldc2_w 76, 3) := by decide +kernel
theorem dX3_tooMany_47 : decode cX3_tooMany 47 = .ok (.goto 8, 3) := by decide +kernel
theorem dX3_tooMany_50 : decode cX3_tooMany 50 = .ok (.aload_n 1, 1) := by decide +kernel
theorem dX3_tooMany_51 : decode cX3_tooMany 51 = .ok (.getfield 70, 3) := by decide +kernel
theorem dX3_tooMany_54 : decode cX3_tooMany 54 = .ok (.i2l, 1) := by decide +kernel
theorem dX3_tooMany_55 : decode cX3_tooMany 55 = .ok (.lmul, 1) := by decide +kernel
theorem dX3_tooMany_56 : decode cX3_tooMany 56 = .ok (.lstore_n 3, 1) := by decide +kernel
theorem dX3_tooMany_57 : decode cX3_tooMany 57 = .ok (.lload_n 3, 1) := by decide +kernel
theorem dX3_tooMany_58 : decode cX3_tooMany 58 = .ok (.lconst 0, 1) := by decide +kernel
theorem dX3_tooMany_59 : decode cX3_tooMany 59 = .ok (.lcmp, 1) := by decide +kernel
theorem dX3_tooMany_60 : decode cX3_tooMany 60 = .ok (.ifCond .le 11, 3) := by decide +kernel
theorem dX3_tooMany_63 : decode cX3_tooMany 63 = .ok (.ldc2_w 78, 3) := by decide +kernel
theorem dX3_tooMany_66 : decode cX3_tooMany 66 = .ok (.lload_n 3, 1) := by decide +kernel
theorem dX3_tooMany_67 : decode cX3_tooMany 67 = .ok (.ldiv, 1) := by decide +kernel
theorem dX3_tooMany_68 : decode cX3_tooMany 68 = .ok (.goto 4, 3) := by decide +kernel
theorem dX3_tooMany_71 : decode cX3_tooMany 71 = .ok (.lconst 0, 1) := by decide +kernel
theorem dX3_tooMany_72 : decode cX3_tooMany 72 = .ok (.lstore 5, 2) := by decide +kernel
theorem dX3_tooMany_74 : decode cX3_tooMany 74 = .ok (.lconst 1, 1) := by decide +kernel
theorem dX3_tooMany_75 : decode cX3_tooMany 75 = .ok (.lstore 7, 2) := by decide +kernel
theorem dX3_tooMany_77 : decode cX3_tooMany 77 = .ok (.iconst 1, 1) := by decide +kernel
theorem dX3_tooMany_78 : decode cX3_tooMany 78 = .ok (.istore 9, 2) := by decide +kernel
theorem dX3_tooMany_80 : decode cX3_tooMany 80 = .ok (.iload 9, 2) := by decide +kernel
theorem dX3_tooMany_82 : decode cX3_tooMany 82 = .ok (.iload_n 2, 1) := by decide +kernel
theorem dX3_tooMany_83 : decode cX3_tooMany 83 = .ok (.if_icmp .gt 34, 3) := by decide +kernel
theorem dX3_tooMany_86 : decode cX3_tooMany 86 = .ok (.aload_n 0, 1) := by decide +kernel
theorem dX3_tooMany_87 : decode cX3_tooMany 87 = .ok (.iload 9, 2) := by decide +kernel
theorem dX3_tooMany_89 : decode cX3_tooMany 89 = .ok (.invokevirtual 80, 3) := by decide +kernel
theorem dX3_tooMany_92 : decode cX3_tooMany 92 = .ok (.ifCond .ne 19, 3) := by decide +kernel
theorem dX3_tooMany_95 : decode cX3_tooMany 95 = .ok (.lload 7, 2) := by decide +kernel
theorem dX3_tooMany_97 : decode cX3_tooMany 97 = .ok (.lload 5, 2) := by decide +kernel
theorem dX3_tooMany_99 : decode cX3_tooMany 99 = .ok (.lcmp, 1) := by decide +kernel
theorem dX3_tooMany_100 : decode cX3_tooMany 100 = .ok (.ifCond .le 5, 3) := by decide +kernel
theorem dX3_tooMany_103 : decode cX3_tooMany 103 = .ok (.iconst 1, 1) := by decide +kernel
theorem dX3_tooMany_104 : decode cX3_tooMany 104 = .ok (.ireturn, 1) := by decide +kernel
theorem dX3_tooMany_105 : decode cX3_tooMany 105 = .ok (.lload 7, 2) := by decide +kernel
theorem dX3_tooMany_107 : decode cX3_tooMany 107 = .ok (.lload_n 3, 1) := by decide +kernel
theorem dX3_tooMany_108 : decode cX3_tooMany 108 = .ok (.lmul, 1) := by decide +kernel
theorem dX3_tooMany_109 : decode cX3_tooMany 109 = .ok (.lstore 7, 2) := by decide +kernel
theorem dX3_tooMany_111 : decode cX3_tooMany 111 = .ok (.iinc 9 1, 3) := by decide +kernel
theorem dX3_tooMany_114 : decode cX3_tooMany 114 = .ok (.goto (-34), 3) := by decide +kernel
theorem dX3_tooMany_117 : decode cX3_tooMany 117 = .ok (.iconst 0, 1) := by decide +kernel
theorem dX3_tooMany_118 : decode cX3_tooMany 118 = .ok (.ireturn, 1) := by decide +kernel
theorem dX4_init_0 : decode cX4_init 0 = .ok (.aload_n 0, 1) := by decide +kernel
theorem dX4_init_1 : decode cX4_init 1 = .ok (.invokespecial 1, 3) := by decide +kernel
theorem dX4_init_4 : decode cX4_init 4 = .ok (.return_, 1) := by decide +kernel
theorem dX4_become_0 : decode cX4_become 0 = .ok (.aload_n 0, 1) := by decide +kernel
theorem dX4_become_1 : decode cX4_become 1 = .ok (.iload_n 1, 1) := by decide +kernel
theorem dX4_become_2 : decode cX4_become 2 = .ok (.putfield 7, 3) := by decide +kernel
theorem dX4_become_5 : decode cX4_become 5 = .ok (.aload_n 0, 1) := by decide +kernel
theorem dX4_become_6 : decode cX4_become 6 = .ok (.iload_n 2, 1) := by decide +kernel
theorem dX4_become_7 : decode cX4_become 7 = .ok (.putfield 13, 3) := by decide +kernel
theorem dX4_become_10 : decode cX4_become 10 = .ok (.aload_n 0, 1) := by decide +kernel
theorem dX4_become_11 : decode cX4_become 11 = .ok (.iload_n 3, 1) := by decide +kernel
theorem dX4_become_12 : decode cX4_become 12 = .ok (.putfield 16, 3) := by decide +kernel
theorem dX4_become_15 : decode cX4_become 15 = .ok (.return_, 1) := by decide +kernel
theorem dX5_init_0 : decode cX5_init 0 = .ok (.aload_n 0, 1) := by decide +kernel
theorem dX5_init_1 : decode cX5_init 1 = .ok (.invokespecial 3, 3) := by decide +kernel
theorem dX5_init_4 : decode cX5_init 4 = .ok (.aload_n 0, 1) := by decide +kernel
theorem dX5_init_5 : decode cX5_init 5 = .ok (.bipush 18, 2) := by decide +kernel
theorem dX5_init_7 : decode cX5_init 7 = .ok (.newarray .long, 2) := by decide +kernel
theorem dX5_init_9 : decode cX5_init 9 = .ok (.putfield 9, 3) := by decide +kernel
theorem dX5_init_12 : decode cX5_init 12 = .ok (.return_, 1) := by decide +kernel
theorem dX5_become_0 : decode cX5_become 0 = .ok (.iconst 0, 1) := by decide +kernel
theorem dX5_become_1 : decode cX5_become 1 = .ok (.istore_n 3, 1) := by decide +kernel
theorem dX5_become_2 : decode cX5_become 2 = .ok (.iload_n 3, 1) := by decide +kernel
theorem dX5_become_3 : decode cX5_become 3 = .ok (.bipush 18, 2) := by decide +kernel
theorem dX5_become_5 : decode cX5_become 5 = .ok (.if_icmp .ge 16, 3) := by decide +kernel
theorem dX5_become_8 : decode cX5_become 8 = .ok (.aload_n 0, 1) := by decide +kernel
theorem dX5_become_9 : decode cX5_become 9 = .ok (.getfield 9, 3) := by decide +kernel
theorem dX5_become_12 : decode cX5_become 12 = .ok (.iload_n 3, 1) := by decide +kernel
theorem dX5_become_13 : decode cX5_become 13 = .ok (.lconst 0, 1) := by decide +kernel
theorem dX5_become_14 : decode cX5_become 14 = .ok (.lastore, 1) := by decide +kernel
theorem dX5_become_15 : decode cX5_become 15 = .ok (.iinc 3 1, 3) := by decide +kernel
theorem dX5_become_18 : decode cX5_become 18 = .ok (.goto (-16), 3) := by decide +kernel
theorem dX5_become_21 : decode cX5_become 21 = .ok (.aload_n 0, 1) := by decide +kernel
theorem dX5_become_22 : decode cX5_become 22 = .ok (.getfield 9, 3) := by decide +kernel
theorem dX5_become_25 : decode cX5_become 25 = .ok (.iconst 0, 1) := by decide +kernel
theorem dX5_become_26 : decode cX5_become 26 = .ok (.lload_n 1, 1) := by decide +kernel
theorem dX5_become_27 : decode cX5_become 27 = .ok (.lastore, 1) := by decide +kernel
theorem dX5_become_28 : decode cX5_become 28 = .ok (.return_, 1) := by decide +kernel
theorem dX5_copy_0 : decode cX5_copy 0 = .ok (.iconst 0, 1) := by decide +kernel
theorem dX5_copy_1 : decode cX5_copy 1 = .ok (.istore_n 2, 1) := by decide +kernel
theorem dX5_copy_2 : decode cX5_copy 2 = .ok (.iload_n 2, 1) := by decide +kernel
theorem dX5_copy_3 : decode cX5_copy 3 = .ok (.bipush 18, 2) := by decide +kernel
theorem dX5_copy_5 : decode cX5_copy 5 = .ok (.if_icmp .ge 21, 3) := by decide +kernel
theorem dX5_copy_8 : decode cX5_copy 8 = .ok (.aload_n 0, 1) := by decide +kernel
theorem dX5_copy_9 : decode cX5_copy 9 = .ok (.getfield 9, 3) := by decide +kernel
theorem dX5_copy_12 : decode cX5_copy 12 = .ok (.iload_n 2, 1) := by decide +kernel
theorem dX5_copy_13 : decode cX5_copy 13 = .ok (.aload_n 1, 1) := by decide +kernel
theorem dX5_copy_14 : decode cX5_copy 14 = .ok (.getfield 9, 3) := by decide +kernel
theorem dX5_copy_17 : decode cX5_copy 17 = .ok (.iload_n 2, 1) := by decide +kernel
theorem dX5_copy_18 : decode cX5_copy 18 = .ok (.laload, 1) := by decide +kernel
theorem dX5_copy_19 : decode cX5_copy 19 = .ok (.lastore, 1) := by decide +kernel
theorem dX5_copy_20 : decode cX5_copy 20 = .ok (.iinc 2 1, 3) := by decide +kernel
theorem dX5_copy_23 : decode cX5_copy 23 = .ok (.goto (-21), 3) := by decide +kernel
theorem dX5_copy_26 : decode cX5_copy 26 = .ok (.return_, 1) := by decide +kernel
theorem dX5_multiply_0 : decode cX5_multiply 0 = .ok (.lload_n 1, 1) := by decide +kernel
theorem dX5_multiply_1 : decode cX5_multiply 1 = .ok (.ldc2_w 13, 3) := by decide +kernel
theorem dX5_multiply_4 : decode cX5_multiply 4 = .ok (.land, 1) := by decide +kernel
theorem dX5_multiply_5 : decode cX5_multiply 5 = .ok (.lstore_n 3, 1) := by decide +kernel
theorem dX5_multiply_6 : decode cX5_multiply 6 = .ok (.lload_n 1, 1) := by decide +kernel
theorem dX5_multiply_7 : decode cX5_multiply 7 = .ok (.bipush 24, 2) := by decide +kernel
theorem dX5_multiply_9 : decode cX5_multiply 9 = .ok (.lshr, 1) := by decide +kernel
theorem dX5_multiply_10 : decode cX5_multiply 10 = .ok (.ldc2_w 13, 3) := by decide +kernel
theorem dX5_multiply_13 : decode cX5_multiply 13 = .ok (.land, 1) := by decide +kernel
theorem dX5_multiply_14 : decode cX5_multiply 14 = .ok (.lstore 5, 2) := by decide +kernel
theorem dX5_multiply_16 : decode cX5_multiply 16 = .ok (.lload_n 1, 1) := by decide +kernel
theorem dX5_multiply_17 : decode cX5_multiply 17 = .ok (.bipush 48, 2) := by decide +kernel
theorem dX5_multiply_19 : decode cX5_multiply 19 = .ok (.lshr, 1) := by decide +kernel
theorem dX5_multiply_20 : decode cX5_multiply 20 = .ok (.lstore 7, 2) := by decide +kernel
theorem dX5_multiply_22 : decode cX5_multiply 22 = .ok (.bipush 17, 2) := by decide +kernel
theorem dX5_multiply_24 : decode cX5_multiply 24 = .ok (.istore 9, 2) := by decide +kernel
theorem dX5_multiply_26 : decode cX5_multiply 26 = .ok (.iload 9, 2) := by decide +kernel
theorem dX5_multiply_28 : decode cX5_multiply 28 = .ok (.ifCond .lt 83, 3) := by decide +kernel
theorem dX5_multiply_31 : decode cX5_multiply 31 = .ok (.aload_n 0, 1) := by decide +kernel
theorem dX5_multiply_32 : decode cX5_multiply 32 = .ok (.getfield 9, 3) := by decide +kernel
theorem dX5_multiply_35 : decode cX5_multiply 35 = .ok (.iload 9, 2) := by decide +kernel
theorem dX5_multiply_37 : decode cX5_multiply 37 = .ok (.laload, 1) := by decide +kernel
theorem dX5_multiply_38 : decode cX5_multiply 38 = .ok (.lload_n 3, 1) := by decide +kernel
theorem dX5_multiply_39 : decode cX5_multiply 39 = .ok (.lmul, 1) := by decide +kernel
theorem dX5_multiply_40 : decode cX5_multiply 40 = .ok (.lstore 10, 2) := by decide +kernel
theorem dX5_multiply_42 : decode cX5_multiply 42 = .ok (.lload 10, 2) := by decide +kernel
theorem dX5_multiply_44 : decode cX5_multiply 44 = .ok (.iload 9, 2) := by decide +kernel
theorem dX5_multiply_46 : decode cX5_multiply 46 = .ok (.iconst 1, 1) := by decide +kernel
theorem dX5_multiply_47 : decode cX5_multiply 47 = .ok (.if_icmp .lt 18, 3) := by decide +kernel
theorem dX5_multiply_50 : decode cX5_multiply 50 = .ok (.aload_n 0, 1) := by decide +kernel
theorem dX5_multiply_51 : decode cX5_multiply 51 = .ok (.getfield 9, 3) := by decide +kernel
theorem dX5_multiply_54 : decode cX5_multiply 54 = .ok (.iload 9, 2) := by decide +kernel
theorem dX5_multiply_56 : decode cX5_multiply 56 = .ok (.iconst 1, 1) := by decide +kernel
theorem dX5_multiply_57 : decode cX5_multiply 57 = .ok (.isub, 1) := by decide +kernel
theorem dX5_multiply_58 : decode cX5_multiply 58 = .ok (.laload, 1) := by decide +kernel
theorem dX5_multiply_59 : decode cX5_multiply 59 = .ok (.lload 5, 2) := by decide +kernel
theorem dX5_multiply_61 : decode cX5_multiply 61 = .ok (.lmul, 1) := by decide +kernel
theorem dX5_multiply_62 : decode cX5_multiply 62 = .ok (.goto 4, 3) := by decide +kernel
theorem dX5_multiply_65 : decode cX5_multiply 65 = .ok (.lconst 0, 1) := by decide +kernel
theorem dX5_multiply_66 : decode cX5_multiply 66 = .ok (.ladd, 1) := by decide +kernel
theorem dX5_multiply_67 : decode cX5_multiply 67 = .ok (.lstore 10, 2) := by decide +kernel
theorem dX5_multiply_69 : decode cX5_multiply 69 = .ok (.lload 10, 2) := by decide +kernel
theorem dX5_multiply_71 : decode cX5_multiply 71 = .ok (.iload 9, 2) := by decide +kernel
theorem dX5_multiply_73 : decode cX5_multiply 73 = .ok (.iconst 2, 1) := by decide +kernel
theorem dX5_multiply_74 : decode cX5_multiply 74 = .ok (.if_icmp .lt 18, 3) := by decide +kernel
theorem dX5_multiply_77 : decode cX5_multiply 77 = .ok (.aload_n 0, 1) := by decide +kernel
theorem dX5_multiply_78 : decode cX5_multiply 78 = .ok (.getfield 9, 3) := by decide +kernel
theorem dX5_multiply_81 : decode cX5_multiply 81 = .ok (.iload 9, 2) := by decide +kernel
theorem dX5_multiply_83 : decode cX5_multiply 83 = .ok (.iconst 2, 1) := by decide +kernel
theorem dX5_multiply_84 : decode cX5_multiply 84 = .ok (.isub, 1) := by decide +kernel
theorem dX5_multiply_85 : decode cX5_multiply 85 = .ok (.laload, 1) := by decide +kernel
theorem dX5_multiply_86 : decode cX5_multiply 86 = .ok (.lload 7, 2) := by decide +kernel
theorem dX5_multiply_88 : decode cX5_multiply 88 = .ok (.lmul, 1) := by decide +kernel
theorem dX5_multiply_89 : decode cX5_multiply 89 = .ok (.goto 4, 3) := by decide +kernel
theorem dX5_multiply_92 : decode cX5_multiply 92 = .ok (.lconst 0, 1) := by decide +kernel
theorem dX5_multiply_93 : decode cX5_multiply 93 = .ok (.ladd, 1) := by decide +kernel
theorem dX5_multiply_94 : decode cX5_multiply 94 = .ok (.lstore 10, 2) := by decide +kernel
theorem dX5_multiply_96 : decode cX5_multiply 96 = .ok (.aload_n 0, 1) := by decide +kernel
theorem dX5_multiply_97 : decode cX5_multiply 97 = .ok (.getfield 9, 3) := by decide +kernel
theorem dX5_multiply_100 : decode cX5_multiply 100 = .ok (.iload 9, 2) := by decide +kernel
theorem dX5_multiply_102 : decode cX5_multiply 102 = .ok (.lload 10, 2) := by decide +kernel
theorem dX5_multiply_104 : decode cX5_multiply 104 = .ok (.lastore, 1) := by decide +kernel
theorem dX5_multiply_105 : decode cX5_multiply 105 = .ok (.iinc 9 (-1), 3) := by decide +kernel
theorem dX5_multiply_108 : decode cX5_multiply 108 = .ok (.goto (-82), 3) := by decide +kernel
theorem dX5_multiply_111 : decode cX5_multiply 111 = .ok (.lconst 0, 1) := by decide +kernel
theorem dX5_multiply_112 : decode cX5_multiply 112 = .ok (.lstore 9, 2) := by decide +kernel
theorem dX5_multiply_114 : decode cX5_multiply 114 = .ok (.iconst 0, 1) := by decide +kernel
theorem dX5_multiply_115 : decode cX5_multiply 115 = .ok (.istore 11, 2) := by decide +kernel
theorem dX5_multiply_117 : decode cX5_multiply 117 = .ok (.iload 11, 2) := by decide +kernel
theorem dX5_multiply_119 : decode cX5_multiply 119 = .ok (.bipush 18, 2) := by decide +kernel
theorem dX5_multiply_121 : decode cX5_multiply 121 = .ok (.if_icmp .ge 41, 3) := by decide +kernel
theorem dX5_multiply_124 : decode cX5_multiply 124 = .ok (.aload_n 0, 1) := by decide +kernel
theorem dX5_multiply_125 : decode cX5_multiply 125 = .ok (.getfield 9, 3) := by decide +kernel
theorem dX5_multiply_128 : decode cX5_multiply 128 = .ok (.iload 11, 2) := by decide +kernel
theorem dX5_multiply_130 : decode cX5_multiply 130 = .ok (.laload, 1) := by decide +kernel
theorem dX5_multiply_131 : decode cX5_multiply 131 = .ok (.lload 9, 2) := by decide +kernel
theorem dX5_multiply_133 : decode cX5_multiply 133 = .ok (.ladd, 1) := by decide +kernel
theorem dX5_multiply_134 : decode cX5_multiply 134 = .ok (.lstore 12, 2) := by decide +kernel
theorem dX5_multiply_136 : decode cX5_multiply 136 = .ok (.aload_n 0, 1) := by decide +kernel
theorem dX5_multiply_137 : decode cX5_multiply 137 = .ok (.getfield 9, 3) := by decide +kernel
theorem dX5_multiply_140 : decode cX5_multiply 140 = .ok (.iload 11, 2) := by decide +kernel
theorem dX5_multiply_142 : decode cX5_multiply 142 = .ok (.lload 12, 2) := by decide +kernel
theorem dX5_multiply_144 : decode cX5_multiply 144 = .ok (.ldc2_w 13, 3) := by decide +kernel
theorem dX5_multiply_147 : decode cX5_multiply 147 = .ok (.land, 1) := by decide +kernel
theorem dX5_multiply_148 : decode cX5_multiply 148 = .ok (.lastore, 1) := by decide +kernel
theorem dX5_multiply_149 : decode cX5_multiply 149 = .ok (.lload 12, 2) := by decide +kernel
theorem dX5_multiply_151 : decode cX5_multiply 151 = .ok (.bipush 24, 2) := by decide +kernel
theorem dX5_multiply_153 : decode cX5_multiply 153 = .ok (.lshr, 1) := by decide +kernel
theorem dX5_multiply_154 : decode cX5_multiply 154 = .ok (.lstore 9, 2) := by decide +kernel
theorem dX5_multiply_156 : decode cX5_multiply 156 = .ok (.iinc 11 1, 3) := by decide +kernel
theorem dX5_multiply_159 : decode cX5_multiply 159 = .ok (.goto (-42), 3) := by decide +kernel
theorem dX5_multiply_162 : decode cX5_multiply 162 = .ok (.return_, 1) := by decide +kernel
theorem dX5_isAbove_0 : decode cX5_isAbove 0 = .ok (.bipush 17, 2) := by decide +kernel
theorem dX5_isAbove_2 : decode cX5_isAbove 2 = .ok (.istore_n 2, 1) := by decide +kernel
theorem dX5_isAbove_3 : decode cX5_isAbove 3 = .ok (.iload_n 2, 1) := by decide +kernel
theorem dX5_isAbove_4 : decode cX5_isAbove 4 = .ok (.ifCond .lt 47, 3) := by decide +kernel
theorem dX5_isAbove_7 : decode cX5_isAbove 7 = .ok (.aload_n 0, 1) := by decide +kernel
theorem dX5_isAbove_8 : decode cX5_isAbove 8 = .ok (.getfield 9, 3) := by decide +kernel
theorem dX5_isAbove_11 : decode cX5_isAbove 11 = .ok (.iload_n 2, 1) := by decide +kernel
theorem dX5_isAbove_12 : decode cX5_isAbove 12 = .ok (.laload, 1) := by decide +kernel
theorem dX5_isAbove_13 : decode cX5_isAbove 13 = .ok (.aload_n 1, 1) := by decide +kernel
theorem dX5_isAbove_14 : decode cX5_isAbove 14 = .ok (.getfield 9, 3) := by decide +kernel
theorem dX5_isAbove_17 : decode cX5_isAbove 17 = .ok (.iload_n 2, 1) := by decide +kernel
theorem dX5_isAbove_18 : decode cX5_isAbove 18 = .ok (.laload, 1) := by decide +kernel
theorem dX5_isAbove_19 : decode cX5_isAbove 19 = .ok (.lcmp, 1) := by decide +kernel
theorem dX5_isAbove_20 : decode cX5_isAbove 20 = .ok (.ifCond .eq 25, 3) := by decide +kernel
theorem dX5_isAbove_23 : decode cX5_isAbove 23 = .ok (.aload_n 0, 1) := by decide +kernel
theorem dX5_isAbove_24 : decode cX5_isAbove 24 = .ok (.getfield 9, 3) := by decide +kernel
theorem dX5_isAbove_27 : decode cX5_isAbove 27 = .ok (.iload_n 2, 1) := by decide +kernel
theorem dX5_isAbove_28 : decode cX5_isAbove 28 = .ok (.laload, 1) := by decide +kernel
theorem dX5_isAbove_29 : decode cX5_isAbove 29 = .ok (.aload_n 1, 1) := by decide +kernel
theorem dX5_isAbove_30 : decode cX5_isAbove 30 = .ok (.getfield 9, 3) := by decide +kernel
theorem dX5_isAbove_33 : decode cX5_isAbove 33 = .ok (.iload_n 2, 1) := by decide +kernel
theorem dX5_isAbove_34 : decode cX5_isAbove 34 = .ok (.laload, 1) := by decide +kernel
theorem dX5_isAbove_35 : decode cX5_isAbove 35 = .ok (.lcmp, 1) := by decide +kernel
theorem dX5_isAbove_36 : decode cX5_isAbove 36 = .ok (.ifCond .le 7, 3) := by decide +kernel
theorem dX5_isAbove_39 : decode cX5_isAbove 39 = .ok (.iconst 1, 1) := by decide +kernel
theorem dX5_isAbove_40 : decode cX5_isAbove 40 = .ok (.goto 4, 3) := by decide +kernel
theorem dX5_isAbove_43 : decode cX5_isAbove 43 = .ok (.iconst 0, 1) := by decide +kernel
theorem dX5_isAbove_44 : decode cX5_isAbove 44 = .ok (.ireturn, 1) := by decide +kernel
theorem dX5_isAbove_45 : decode cX5_isAbove 45 = .ok (.iinc 2 (-1), 3) := by decide +kernel
theorem dX5_isAbove_48 : decode cX5_isAbove 48 = .ok (.goto (-45), 3) := by decide +kernel
theorem dX5_isAbove_51 : decode cX5_isAbove 51 = .ok (.iconst 0, 1) := by decide +kernel
theorem dX5_isAbove_52 : decode cX5_isAbove 52 = .ok (.ireturn, 1) := by decide +kernel
theorem dX6_init_0 : decode cX6_init 0 = .ok (.aload_n 0, 1) := by decide +kernel
theorem dX6_init_1 : decode cX6_init 1 = .ok (.invokespecial 3, 3) := by decide +kernel
theorem dX6_init_4 : decode cX6_init 4 = .ok (.aload_n 0, 1) := by decide +kernel
theorem dX6_init_5 : decode cX6_init 5 = .ok (.aload_n 1, 1) := by decide +kernel
theorem dX6_init_6 : decode cX6_init 6 = .ok (.putfield 9, 3) := by decide +kernel
theorem dX6_init_9 : decode cX6_init 9 = .ok (.aload_n 0, 1) := by decide +kernel
theorem dX6_init_10 : decode cX6_init 10 = .ok (.new 15, 3) := by decide +kernel
theorem dX6_init_13 : decode cX6_init 13 = .ok (.dup, 1) := by decide +kernel
theorem dX6_init_14 : decode cX6_init 14 = .ok (.invokespecial 17, 3) := by decide +kernel
theorem dX6_init_17 : decode cX6_init 17 = .ok (.putfield 18, 3) := by decide +kernel
theorem dX6_init_20 : decode cX6_init 20 = .ok (.return_, 1) := by decide +kernel
theorem dX6_reads_0 : decode cX6_reads 0 = .ok (.aload_n 0, 1) := by decide +kernel
theorem dX6_reads_1 : decode cX6_reads 1 = .ok (.aload_n 1, 1) := by decide +kernel
theorem dX6_reads_2 : decode cX6_reads 2 = .ok (.putfield 18, 3) := by decide +kernel
theorem dX6_reads_5 : decode cX6_reads 5 = .ok (.aload_n 0, 1) := by decide +kernel
theorem dX6_reads_6 : decode cX6_reads 6 = .ok (.getfield 18, 3) := by decide +kernel
theorem dX6_reads_9 : decode cX6_reads 9 = .ok (.invokevirtual 22, 3) := by decide +kernel
theorem dX6_reads_12 : decode cX6_reads 12 = .ok (.aload_n 0, 1) := by decide +kernel
theorem dX6_reads_13 : decode cX6_reads 13 = .ok (.iconst 0, 1) := by decide +kernel
theorem dX6_reads_14 : decode cX6_reads 14 = .ok (.putfield 25, 3) := by decide +kernel
theorem dX6_reads_17 : decode cX6_reads 17 = .ok (.aload_n 0, 1) := by decide +kernel
theorem dX6_reads_18 : decode cX6_reads 18 = .ok (.iconst (-1), 1) := by decide +kernel
theorem dX6_reads_19 : decode cX6_reads 19 = .ok (.putfield 29, 3) := by decide +kernel
theorem dX6_reads_22 : decode cX6_reads 22 = .ok (.aload_n 0, 1) := by decide +kernel
theorem dX6_reads_23 : decode cX6_reads 23 = .ok (.getfield 9, 3) := by decide +kernel
theorem dX6_reads_26 : decode cX6_reads 26 = .ok (.iload_n 2, 1) := by decide +kernel
theorem dX6_reads_27 : decode cX6_reads 27 = .ok (.invokevirtual 32, 3) := by decide +kernel
theorem dX6_reads_30 : decode cX6_reads 30 = .ok (.iconst 0, 1) := by decide +kernel
theorem dX6_reads_31 : decode cX6_reads 31 = .ok (.istore_n 3, 1) := by decide +kernel
theorem dX6_reads_32 : decode cX6_reads 32 = .ok (.iload_n 3, 1) := by decide +kernel
theorem dX6_reads_33 : decode cX6_reads 33 = .ok (.sipush 900, 3) := by decide +kernel
theorem dX6_reads_36 : decode cX6_reads 36 = .ok (.if_icmp .gt 57, 3) := by decide +kernel
theorem dX6_reads_39 : decode cX6_reads 39 = .ok (.aload_n 0, 1) := by decide +kernel
theorem dX6_reads_40 : decode cX6_reads 40 = .ok (.invokevirtual 38, 3) := by decide +kernel
theorem dX6_reads_43 : decode cX6_reads 43 = .ok (.ifCond .ne 5, 3) := by decide +kernel
theorem dX6_reads_46 : decode cX6_reads 46 = .ok (.iconst 0, 1) := by decide +kernel
theorem dX6_reads_47 : decode cX6_reads 47 = .ok (.ireturn, 1) := by decide +kernel
theorem dX6_reads_48 : decode cX6_reads 48 = .ok (.aload_n 0, 1) := by decide +kernel
theorem dX6_reads_49 : decode cX6_reads 49 = .ok (.getfield 9, 3) := by decide +kernel
theorem dX6_reads_52 : decode cX6_reads 52 = .ok (.getfield 42, 3) := by decide +kernel
theorem dX6_reads_55 : decode cX6_reads 55 = .ok (.ifCond .ne 8, 3) := by decide +kernel
theorem dX6_reads_58 : decode cX6_reads 58 = .ok (.aload_n 0, 1) := by decide +kernel
theorem dX6_reads_59 : decode cX6_reads 59 = .ok (.invokevirtual 45, 3) := by decide +kernel
theorem dX6_reads_62 : decode cX6_reads 62 = .ok (.ireturn, 1) := by decide +kernel
theorem dX6_reads_63 : decode cX6_reads 63 = .ok (.aload_n 0, 1) := by decide +kernel
theorem dX6_reads_64 : decode cX6_reads 64 = .ok (.getfield 9, 3) := by decide +kernel
theorem dX6_reads_67 : decode cX6_reads 67 = .ok (.getfield 42, 3) := by decide +kernel
theorem dX6_reads_70 : decode cX6_reads 70 = .ok (.iconst 3, 1) := by decide +kernel
theorem dX6_reads_71 : decode cX6_reads 71 = .ok (.if_icmp .eq 9, 3) := by decide +kernel
theorem dX6_reads_74 : decode cX6_reads 74 = .ok (.aload_n 0, 1) := by decide +kernel
theorem dX6_reads_75 : decode cX6_reads 75 = .ok (.iconst 1, 1) := by decide +kernel
theorem dX6_reads_76 : decode cX6_reads 76 = .ok (.invokevirtual 48, 3) := by decide +kernel
theorem dX6_reads_79 : decode cX6_reads 79 = .ok (.ireturn, 1) := by decide +kernel
theorem dX6_reads_80 : decode cX6_reads 80 = .ok (.aload_n 0, 1) := by decide +kernel
theorem dX6_reads_81 : decode cX6_reads 81 = .ok (.getfield 9, 3) := by decide +kernel
theorem dX6_reads_84 : decode cX6_reads 84 = .ok (.invokevirtual 52, 3) := by decide +kernel
theorem dX6_reads_87 : decode cX6_reads 87 = .ok (.iinc 3 1, 3) := by decide +kernel
theorem dX6_reads_90 : decode cX6_reads 90 = .ok (.goto (-58), 3) := by decide +kernel
theorem dX6_reads_93 : decode cX6_reads 93 = .ok (.aload_n 0, 1) := by decide +kernel
theorem dX6_reads_94 : decode cX6_reads 94 = .ok (.iconst 1, 1) := by decide +kernel
theorem dX6_reads_95 : decode cX6_reads 95 = .ok (.invokevirtual 48, 3) := by decide +kernel
theorem dX6_reads_98 : decode cX6_reads 98 = .ok (.ireturn, 1) := by decide +kernel
theorem dX6_ends_0 : decode cX6_ends 0 = .ok (.aload_n 0, 1) := by decide +kernel
theorem dX6_ends_1 : decode cX6_ends 1 = .ok (.getfield 18, 3) := by decide +kernel
theorem dX6_ends_4 : decode cX6_ends 4 = .ok (.getfield 55, 3) := by decide +kernel
theorem dX6_ends_7 : decode cX6_ends 7 = .ok (.ifCond .eq 13, 3) := by decide +kernel
theorem dX6_ends_10 : decode cX6_ends 10 = .ok (.aload_n 0, 1) := by decide +kernel
theorem dX6_ends_11 : decode cX6_ends 11 = .ok (.getfield 18, 3) := by decide +kernel
theorem dX6_ends_14 : decode cX6_ends 14 = .ok (.getfield 59, 3) := by decide +kernel
theorem dX6_ends_17 : decode cX6_ends 17 = .ok (.ifCond .ne 10, 3) := by decide +kernel
theorem dX6_ends_20 : decode cX6_ends 20 = .ok (.aload_n 0, 1) := by decide +kernel
theorem dX6_ends_21 : decode cX6_ends 21 = .ok (.bipush 6, 2) := by decide +kernel
theorem dX6_ends_23 : decode cX6_ends 23 = .ok (.invokevirtual 48, 3) := by decide +kernel
theorem dX6_ends_26 : decode cX6_ends 26 = .ok (.ireturn, 1) := by decide +kernel
theorem dX6_ends_27 : decode cX6_ends 27 = .ok (.aload_n 0, 1) := by decide +kernel
theorem dX6_ends_28 : decode cX6_ends 28 = .ok (.getfield 18, 3) := by decide +kernel
theorem dX6_ends_31 : decode cX6_ends 31 = .ok (.invokevirtual 62, 3) := by decide +kernel
theorem dX6_ends_34 : decode cX6_ends 34 = .ok (.iconst 1, 1) := by decide +kernel
theorem dX6_ends_35 : decode cX6_ends 35 = .ok (.ireturn, 1) := by decide +kernel
theorem dX6_wrong_0 : decode cX6_wrong 0 = .ok (.aload_n 0, 1) := by decide +kernel
theorem dX6_wrong_1 : decode cX6_wrong 1 = .ok (.iload_n 1, 1) := by decide +kernel
theorem dX6_wrong_2 : decode cX6_wrong 2 = .ok (.putfield 25, 3) := by decide +kernel
theorem dX6_wrong_5 : decode cX6_wrong 5 = .ok (.aload_n 0, 1) := by decide +kernel
theorem dX6_wrong_6 : decode cX6_wrong 6 = .ok (.aload_n 0, 1) := by decide +kernel
theorem dX6_wrong_7 : decode cX6_wrong 7 = .ok (.getfield 9, 3) := by decide +kernel
theorem dX6_wrong_10 : decode cX6_wrong 10 = .ok (.getfield 65, 3) := by decide +kernel
theorem dX6_wrong_13 : decode cX6_wrong 13 = .ok (.putfield 29, 3) := by decide +kernel
theorem dX6_wrong_16 : decode cX6_wrong 16 = .ok (.iconst 0, 1) := by decide +kernel
theorem dX6_wrong_17 : decode cX6_wrong 17 = .ok (.ireturn, 1) := by decide +kernel
theorem dX6_line_0 : decode cX6_line 0 = .ok (.aload_n 0, 1) := by decide +kernel
theorem dX6_line_1 : decode cX6_line 1 = .ok (.getfield 9, 3) := by decide +kernel
theorem dX6_line_4 : decode cX6_line 4 = .ok (.ldc 68, 2) := by decide +kernel
theorem dX6_line_6 : decode cX6_line 6 = .ok (.invokevirtual 70, 3) := by decide +kernel
theorem dX6_line_9 : decode cX6_line 9 = .ok (.ifCond .eq 8, 3) := by decide +kernel
theorem dX6_line_12 : decode cX6_line 12 = .ok (.aload_n 0, 1) := by decide +kernel
theorem dX6_line_13 : decode cX6_line 13 = .ok (.invokevirtual 74, 3) := by decide +kernel
theorem dX6_line_16 : decode cX6_line 16 = .ok (.ireturn, 1) := by decide +kernel
theorem dX6_line_17 : decode cX6_line 17 = .ok (.aload_n 0, 1) := by decide +kernel
theorem dX6_line_18 : decode cX6_line 18 = .ok (.getfield 9, 3) := by decide +kernel
theorem dX6_line_21 : decode cX6_line 21 = .ok (.ldc 77, 2) := by decide +kernel
theorem dX6_line_23 : decode cX6_line 23 = .ok (.invokevirtual 70, 3) := by decide +kernel
theorem dX6_line_26 : decode cX6_line 26 = .ok (.ifCond .eq 8, 3) := by decide +kernel
theorem dX6_line_29 : decode cX6_line 29 = .ok (.aload_n 0, 1) := by decide +kernel
theorem dX6_line_30 : decode cX6_line 30 = .ok (.invokevirtual 79, 3) := by decide +kernel
theorem dX6_line_33 : decode cX6_line 33 = .ok (.ireturn, 1) := by decide +kernel
theorem dX6_line_34 : decode cX6_line 34 = .ok (.aload_n 0, 1) := by decide +kernel
theorem dX6_line_35 : decode cX6_line 35 = .ok (.getfield 9, 3) := by decide +kernel
theorem dX6_line_38 : decode cX6_line 38 = .ok (.ldc 82, 2) := by decide +kernel
theorem dX6_line_40 : decode cX6_line 40 = .ok (.invokevirtual 70, 3) := by decide +kernel
theorem dX6_line_43 : decode cX6_line 43 = .ok (.ifCond .eq 8, 3) := by decide +kernel
theorem dX6_line_46 : decode cX6_line 46 = .ok (.aload_n 0, 1) := by decide +kernel
theorem dX6_line_47 : decode cX6_line 47 = .ok (.invokevirtual 84, 3) := by decide +kernel
theorem dX6_line_50 : decode cX6_line 50 = .ok (.ireturn, 1) := by decide +kernel
theorem dX6_line_51 : decode cX6_line 51 = .ok (.aload_n 0, 1) := by decide +kernel
theorem dX6_line_52 : decode cX6_line 52 = .ok (.getfield 9, 3) := by decide +kernel
theorem dX6_line_55 : decode cX6_line 55 = .ok (.ldc 87, 2) := by decide +kernel
theorem dX6_line_57 : decode cX6_line 57 = .ok (.invokevirtual 70, 3) := by decide +kernel
theorem dX6_line_60 : decode cX6_line 60 = .ok (.ifCond .eq 8, 3) := by decide +kernel
theorem dX6_line_63 : decode cX6_line 63 = .ok (.aload_n 0, 1) := by decide +kernel
theorem dX6_line_64 : decode cX6_line 64 = .ok (.invokevirtual 89, 3) := by decide +kernel
theorem dX6_line_67 : decode cX6_line 67 = .ok (.ireturn, 1) := by decide +kernel
theorem dX6_line_68 : decode cX6_line 68 = .ok (.aload_n 0, 1) := by decide +kernel
theorem dX6_line_69 : decode cX6_line 69 = .ok (.getfield 9, 3) := by decide +kernel
theorem dX6_line_72 : decode cX6_line 72 = .ok (.ldc 92, 2) := by decide +kernel
theorem dX6_line_74 : decode cX6_line 74 = .ok (.invokevirtual 70, 3) := by decide +kernel
theorem dX6_line_77 : decode cX6_line 77 = .ok (.ifCond .eq 8, 3) := by decide +kernel
theorem dX6_line_80 : decode cX6_line 80 = .ok (.aload_n 0, 1) := by decide +kernel
theorem dX6_line_81 : decode cX6_line 81 = .ok (.invokevirtual 94, 3) := by decide +kernel
theorem dX6_line_84 : decode cX6_line 84 = .ok (.ireturn, 1) := by decide +kernel
theorem dX6_line_85 : decode cX6_line 85 = .ok (.aload_n 0, 1) := by decide +kernel
theorem dX6_line_86 : decode cX6_line 86 = .ok (.getfield 9, 3) := by decide +kernel
theorem dX6_line_89 : decode cX6_line 89 = .ok (.ldc 97, 2) := by decide +kernel
theorem dX6_line_91 : decode cX6_line 91 = .ok (.invokevirtual 70, 3) := by decide +kernel
theorem dX6_line_94 : decode cX6_line 94 = .ok (.ifCond .eq 10, 3) := by decide +kernel
theorem dX6_line_97 : decode cX6_line 97 = .ok (.aload_n 0, 1) := by decide +kernel
theorem dX6_line_98 : decode cX6_line 98 = .ok (.invokevirtual 99, 3) := by decide +kernel
theorem dX6_line_101 : decode cX6_line 101 = .ok (.goto 8, 3) := by decide +kernel
theorem dX6_line_104 : decode cX6_line 104 = .ok (.aload_n 0, 1) := by decide +kernel
theorem dX6_line_105 : decode cX6_line 105 = .ok (.iconst 1, 1) := by decide +kernel
theorem dX6_line_106 : decode cX6_line 106 = .ok (.invokevirtual 48, 3) := by decide +kernel
theorem dX6_line_109 : decode cX6_line 109 = .ok (.ireturn, 1) := by decide +kernel
theorem dX6_word_0 : decode cX6_word 0 = .ok (.aload_n 0, 1) := by decide +kernel
theorem dX6_word_1 : decode cX6_word 1 = .ok (.getfield 9, 3) := by decide +kernel
theorem dX6_word_4 : decode cX6_word 4 = .ok (.aload_n 1, 1) := by decide +kernel
theorem dX6_word_5 : decode cX6_word 5 = .ok (.invokevirtual 70, 3) := by decide +kernel
theorem dX6_word_8 : decode cX6_word 8 = .ok (.ifCond .ne 9, 3) := by decide +kernel
theorem dX6_word_11 : decode cX6_word 11 = .ok (.aload_n 0, 1) := by decide +kernel
theorem dX6_word_12 : decode cX6_word 12 = .ok (.iconst 1, 1) := by decide +kernel
theorem dX6_word_13 : decode cX6_word 13 = .ok (.invokevirtual 48, 3) := by decide +kernel
theorem dX6_word_16 : decode cX6_word 16 = .ok (.ireturn, 1) := by decide +kernel
theorem dX6_word_17 : decode cX6_word 17 = .ok (.aload_n 0, 1) := by decide +kernel
theorem dX6_word_18 : decode cX6_word 18 = .ok (.getfield 9, 3) := by decide +kernel
theorem dX6_word_21 : decode cX6_word 21 = .ok (.invokevirtual 52, 3) := by decide +kernel
theorem dX6_word_24 : decode cX6_word 24 = .ok (.iconst 1, 1) := by decide +kernel
theorem dX6_word_25 : decode cX6_word 25 = .ok (.ireturn, 1) := by decide +kernel
theorem dX6_isWhole_0 : decode cX6_isWhole 0 = .ok (.aload_n 0, 1) := by decide +kernel
theorem dX6_isWhole_1 : decode cX6_isWhole 1 = .ok (.getfield 9, 3) := by decide +kernel
theorem dX6_isWhole_4 : decode cX6_isWhole 4 = .ok (.getfield 42, 3) := by decide +kernel
theorem dX6_isWhole_7 : decode cX6_isWhole 7 = .ok (.iconst 2, 1) := by decide +kernel
theorem dX6_isWhole_8 : decode cX6_isWhole 8 = .ok (.if_icmp .eq 9, 3) := by decide +kernel
theorem dX6_isWhole_11 : decode cX6_isWhole 11 = .ok (.aload_n 0, 1) := by decide +kernel
theorem dX6_isWhole_12 : decode cX6_isWhole 12 = .ok (.iconst 1, 1) := by decide +kernel
theorem dX6_isWhole_13 : decode cX6_isWhole 13 = .ok (.invokevirtual 48, 3) := by decide +kernel
theorem dX6_isWhole_16 : decode cX6_isWhole 16 = .ok (.ireturn, 1) := by decide +kernel
theorem dX6_isWhole_17 : decode cX6_isWhole 17 = .ok (.aload_n 0, 1) := by decide +kernel
theorem dX6_isWhole_18 : decode cX6_isWhole 18 = .ok (.aload_n 0, 1) := by decide +kernel
theorem dX6_isWhole_19 : decode cX6_isWhole 19 = .ok (.getfield 9, 3) := by decide +kernel
theorem dX6_isWhole_22 : decode cX6_isWhole 22 = .ok (.getfield 102, 3) := by decide +kernel
theorem dX6_isWhole_25 : decode cX6_isWhole 25 = .ok (.putfield 105, 3) := by decide +kernel
theorem dX6_isWhole_28 : decode cX6_isWhole 28 = .ok (.aload_n 0, 1) := by decide +kernel
theorem dX6_isWhole_29 : decode cX6_isWhole 29 = .ok (.getfield 105, 3) := by decide +kernel
theorem dX6_isWhole_32 : decode cX6_isWhole 32 = .ok (.iload_n 1, 1) := by decide +kernel
theorem dX6_isWhole_33 : decode cX6_isWhole 33 = .ok (.if_icmp .lt 11, 3) := by decide +kernel
theorem dX6_isWhole_36 : decode cX6_isWhole 36 = .ok (.aload_n 0, 1) := by decide +kernel
theorem dX6_isWhole_37 : decode cX6_isWhole 37 = .ok (.getfield 105, 3) := by decide +kernel
theorem dX6_isWhole_40 : decode cX6_isWhole 40 = .ok (.iload_n 2, 1) := by decide +kernel
theorem dX6_isWhole_41 : decode cX6_isWhole 41 = .ok (.if_icmp .le 11, 3) := by decide +kernel
theorem dX6_isWhole_44 : decode cX6_isWhole 44 = .ok (.aload_n 0, 1) := by decide +kernel
theorem dX6_isWhole_45 : decode cX6_isWhole 45 = .ok (.iconst 4, 1) := by decide +kernel
theorem dX6_isWhole_46 : decode cX6_isWhole 46 = .ok (.invokevirtual 48, 3) := by decide +kernel
theorem dX6_isWhole_49 : decode cX6_isWhole 49 = .ok (.ifCond .eq 7, 3) := by decide +kernel
theorem dX6_isWhole_52 : decode cX6_isWhole 52 = .ok (.iconst 1, 1) := by decide +kernel
theorem dX6_isWhole_53 : decode cX6_isWhole 53 = .ok (.goto 4, 3) := by decide +kernel
theorem dX6_isWhole_56 : decode cX6_isWhole 56 = .ok (.iconst 0, 1) := by decide +kernel
theorem dX6_isWhole_57 : decode cX6_isWhole 57 = .ok (.ireturn, 1) := by decide +kernel
theorem dX6_whole_0 : decode cX6_whole 0 = .ok (.aload_n 0, 1) := by decide +kernel
theorem dX6_whole_1 : decode cX6_whole 1 = .ok (.iload_n 1, 1) := by decide +kernel
theorem dX6_whole_2 : decode cX6_whole 2 = .ok (.iload_n 2, 1) := by decide +kernel
theorem dX6_whole_3 : decode cX6_whole 3 = .ok (.invokevirtual 108, 3) := by decide +kernel
theorem dX6_whole_6 : decode cX6_whole 6 = .ok (.ifCond .ne 5, 3) := by decide +kernel
theorem dX6_whole_9 : decode cX6_whole 9 = .ok (.iconst 0, 1) := by decide +kernel
theorem dX6_whole_10 : decode cX6_whole 10 = .ok (.ireturn, 1) := by decide +kernel
theorem dX6_whole_11 : decode cX6_whole 11 = .ok (.aload_n 0, 1) := by decide +kernel
theorem dX6_whole_12 : decode cX6_whole 12 = .ok (.getfield 9, 3) := by decide +kernel
theorem dX6_whole_15 : decode cX6_whole 15 = .ok (.invokevirtual 52, 3) := by decide +kernel
theorem dX6_whole_18 : decode cX6_whole 18 = .ok (.iconst 1, 1) := by decide +kernel
theorem dX6_whole_19 : decode cX6_whole 19 = .ok (.ireturn, 1) := by decide +kernel
theorem dX6_hallLine_0 : decode cX6_hallLine 0 = .ok (.aload_n 0, 1) := by decide +kernel
theorem dX6_hallLine_1 : decode cX6_hallLine 1 = .ok (.getfield 18, 3) := by decide +kernel
theorem dX6_hallLine_4 : decode cX6_hallLine 4 = .ok (.getfield 55, 3) := by decide +kernel
theorem dX6_hallLine_7 : decode cX6_hallLine 7 = .ok (.ifCond .eq 9, 3) := by decide +kernel
theorem dX6_hallLine_10 : decode cX6_hallLine 10 = .ok (.aload_n 0, 1) := by decide +kernel
theorem dX6_hallLine_11 : decode cX6_hallLine 11 = .ok (.iconst 3, 1) := by decide +kernel
theorem dX6_hallLine_12 : decode cX6_hallLine 12 = .ok (.invokevirtual 48, 3) := by decide +kernel
theorem dX6_hallLine_15 : decode cX6_hallLine 15 = .ok (.ireturn, 1) := by decide +kernel
theorem dX6_hallLine_16 : decode cX6_hallLine 16 = .ok (.aload_n 0, 1) := by decide +kernel
theorem dX6_hallLine_17 : decode cX6_hallLine 17 = .ok (.getfield 9, 3) := by decide +kernel
theorem dX6_hallLine_20 : decode cX6_hallLine 20 = .ok (.invokevirtual 52, 3) := by decide +kernel
theorem dX6_hallLine_23 : decode cX6_hallLine 23 = .ok (.aload_n 0, 1) := by decide +kernel
theorem dX6_hallLine_24 : decode cX6_hallLine 24 = .ok (.ldc 112, 2) := by decide +kernel
theorem dX6_hallLine_26 : decode cX6_hallLine 26 = .ok (.invokevirtual 114, 3) := by decide +kernel
theorem dX6_hallLine_29 : decode cX6_hallLine 29 = .ok (.ifCond .eq 12, 3) := by decide +kernel
theorem dX6_hallLine_32 : decode cX6_hallLine 32 = .ok (.aload_n 0, 1) := by decide +kernel
theorem dX6_hallLine_33 : decode cX6_hallLine 33 = .ok (.iconst 1, 1) := by decide +kernel
theorem dX6_hallLine_34 : decode cX6_hallLine 34 = .ok (.iconst 5, 1) := by decide +kernel
theorem dX6_hallLine_35 : decode cX6_hallLine 35 = .ok (.invokevirtual 117, 3) := by decide +kernel
theorem dX6_hallLine_38 : decode cX6_hallLine 38 = .ok (.ifCond .ne 5, 3) := by decide +kernel
theorem dX6_hallLine_41 : decode cX6_hallLine 41 = .ok (.iconst 0, 1) := by decide +kernel
theorem dX6_hallLine_42 : decode cX6_hallLine 42 = .ok (.ireturn, 1) := by decide +kernel
theorem dX6_hallLine_43 : decode cX6_hallLine 43 = .ok (.aload_n 0, 1) := by decide +kernel
theorem dX6_hallLine_44 : decode cX6_hallLine 44 = .ok (.getfield 18, 3) := by decide +kernel
theorem dX6_hallLine_47 : decode cX6_hallLine 47 = .ok (.aload_n 0, 1) := by decide +kernel
theorem dX6_hallLine_48 : decode cX6_hallLine 48 = .ok (.getfield 105, 3) := by decide +kernel
theorem dX6_hallLine_51 : decode cX6_hallLine 51 = .ok (.putfield 120, 3) := by decide +kernel
theorem dX6_hallLine_54 : decode cX6_hallLine 54 = .ok (.aload_n 0, 1) := by decide +kernel
theorem dX6_hallLine_55 : decode cX6_hallLine 55 = .ok (.ldc 122, 2) := by decide +kernel
theorem dX6_hallLine_57 : decode cX6_hallLine 57 = .ok (.invokevirtual 114, 3) := by decide +kernel
