theorem dX0_init_0 : decode cX0_init 0 = .ok (.aload_n 0, 1) := by decide +kernel
theorem dX0_init_1 : decode cX0_init 1 = .ok (.invokespecial 3, 3) := by decide +kernel
theorem dX0_init_4 : decode cX0_init 4 = .ok (.aload_n 0, 1) := by decide +kernel
theorem dX0_init_5 : decode cX0_init 5 = .ok (.new 9, 3) := by decide +kernel
theorem dX0_init_8 : decode cX0_init 8 = .ok (.dup, 1) := by decide +kernel
theorem dX0_init_9 : decode cX0_init 9 = .ok (.invokespecial 11, 3) := by decide +kernel
theorem dX0_init_12 : decode cX0_init 12 = .ok (.putfield 12, 3) := by decide +kernel
theorem dX0_init_15 : decode cX0_init 15 = .ok (.aload_n 0, 1) := by decide +kernel
theorem dX0_init_16 : decode cX0_init 16 = .ok (.sipush 180, 3) := by decide +kernel
theorem dX0_init_19 : decode cX0_init 19 = .ok (.newarray .boolean, 2) := by decide +kernel
theorem dX0_init_21 : decode cX0_init 21 = .ok (.putfield 18, 3) := by decide +kernel
theorem dX0_init_24 : decode cX0_init 24 = .ok (.aload_n 0, 1) := by decide +kernel
theorem dX0_init_25 : decode cX0_init 25 = .ok (.sipush 300, 3) := by decide +kernel
theorem dX0_init_28 : decode cX0_init 28 = .ok (.newarray .int, 2) := by decide +kernel
theorem dX0_init_30 : decode cX0_init 30 = .ok (.putfield 22, 3) := by decide +kernel
theorem dX0_init_33 : decode cX0_init 33 = .ok (.aload_n 0, 1) := by decide +kernel
theorem dX0_init_34 : decode cX0_init 34 = .ok (.sipush 300, 3) := by decide +kernel
theorem dX0_init_37 : decode cX0_init 37 = .ok (.newarray .int, 2) := by decide +kernel
theorem dX0_init_39 : decode cX0_init 39 = .ok (.putfield 26, 3) := by decide +kernel
theorem dX0_init_42 : decode cX0_init 42 = .ok (.aload_n 0, 1) := by decide +kernel
theorem dX0_init_43 : decode cX0_init 43 = .ok (.sipush 300, 3) := by decide +kernel
theorem dX0_init_46 : decode cX0_init 46 = .ok (.newarray .int, 2) := by decide +kernel
theorem dX0_init_48 : decode cX0_init 48 = .ok (.putfield 29, 3) := by decide +kernel
theorem dX0_init_51 : decode cX0_init 51 = .ok (.aload_n 0, 1) := by decide +kernel
theorem dX0_init_52 : decode cX0_init 52 = .ok (.sipush 300, 3) := by decide +kernel
theorem dX0_init_55 : decode cX0_init 55 = .ok (.newarray .int, 2) := by decide +kernel
theorem dX0_init_57 : decode cX0_init 57 = .ok (.putfield 32, 3) := by decide +kernel
theorem dX0_init_60 : decode cX0_init 60 = .ok (.aload_n 0, 1) := by decide +kernel
theorem dX0_init_61 : decode cX0_init 61 = .ok (.bipush 12, 2) := by decide +kernel
theorem dX0_init_63 : decode cX0_init 63 = .ok (.newarray .int, 2) := by decide +kernel
theorem dX0_init_65 : decode cX0_init 65 = .ok (.putfield 35, 3) := by decide +kernel
theorem dX0_init_68 : decode cX0_init 68 = .ok (.aload_n 0, 1) := by decide +kernel
theorem dX0_init_69 : decode cX0_init 69 = .ok (.bipush 12, 2) := by decide +kernel
theorem dX0_init_71 : decode cX0_init 71 = .ok (.newarray .int, 2) := by decide +kernel
theorem dX0_init_73 : decode cX0_init 73 = .ok (.putfield 38, 3) := by decide +kernel
theorem dX0_init_76 : decode cX0_init 76 = .ok (.aload_n 0, 1) := by decide +kernel
theorem dX0_init_77 : decode cX0_init 77 = .ok (.aload_n 1, 1) := by decide +kernel
theorem dX0_init_78 : decode cX0_init 78 = .ok (.putfield 41, 3) := by decide +kernel
theorem dX0_init_81 : decode cX0_init 81 = .ok (.aload_n 0, 1) := by decide +kernel
theorem dX0_init_82 : decode cX0_init 82 = .ok (.aload_n 2, 1) := by decide +kernel
theorem dX0_init_83 : decode cX0_init 83 = .ok (.putfield 45, 3) := by decide +kernel
theorem dX0_init_86 : decode cX0_init 86 = .ok (.aload_n 0, 1) := by decide +kernel
theorem dX0_init_87 : decode cX0_init 87 = .ok (.aload_n 3, 1) := by decide +kernel
theorem dX0_init_88 : decode cX0_init 88 = .ok (.putfield 49, 3) := by decide +kernel
theorem dX0_init_91 : decode cX0_init 91 = .ok (.return_, 1) := by decide +kernel
theorem dX0_forget_0 : decode cX0_forget 0 = .ok (.aload_n 0, 1) := by decide +kernel
theorem dX0_forget_1 : decode cX0_forget 1 = .ok (.getfield 18, 3) := by decide +kernel
theorem dX0_forget_4 : decode cX0_forget 4 = .ok (.iload_n 1, 1) := by decide +kernel
theorem dX0_forget_5 : decode cX0_forget 5 = .ok (.iconst 0, 1) := by decide +kernel
theorem dX0_forget_6 : decode cX0_forget 6 = .ok (.bastore, 1) := by decide +kernel
theorem dX0_forget_7 : decode cX0_forget 7 = .ok (.return_, 1) := by decide +kernel
theorem dX0_forgetAll_0 : decode cX0_forgetAll 0 = .ok (.iconst 0, 1) := by decide +kernel
theorem dX0_forgetAll_1 : decode cX0_forgetAll 1 = .ok (.istore_n 1, 1) := by decide +kernel
theorem dX0_forgetAll_2 : decode cX0_forgetAll 2 = .ok (.iload_n 1, 1) := by decide +kernel
theorem dX0_forgetAll_3 : decode cX0_forgetAll 3 = .ok (.sipush 180, 3) := by decide +kernel
theorem dX0_forgetAll_6 : decode cX0_forgetAll 6 = .ok (.if_icmp .ge 16, 3) := by decide +kernel
theorem dX0_forgetAll_9 : decode cX0_forgetAll 9 = .ok (.aload_n 0, 1) := by decide +kernel
theorem dX0_forgetAll_10 : decode cX0_forgetAll 10 = .ok (.getfield 18, 3) := by decide +kernel
theorem dX0_forgetAll_13 : decode cX0_forgetAll 13 = .ok (.iload_n 1, 1) := by decide +kernel
theorem dX0_forgetAll_14 : decode cX0_forgetAll 14 = .ok (.iconst 0, 1) := by decide +kernel
theorem dX0_forgetAll_15 : decode cX0_forgetAll 15 = .ok (.bastore, 1) := by decide +kernel
theorem dX0_forgetAll_16 : decode cX0_forgetAll 16 = .ok (.iinc 1 1, 3) := by decide +kernel
theorem dX0_forgetAll_19 : decode cX0_forgetAll 19 = .ok (.goto (-17), 3) := by decide +kernel
theorem dX0_forgetAll_22 : decode cX0_forgetAll 22 = .ok (.return_, 1) := by decide +kernel
theorem dX0_pairYear_0 : decode cX0_pairYear 0 = .ok (.iconst 0, 1) := by decide +kernel
theorem dX0_pairYear_1 : decode cX0_pairYear 1 = .ok (.istore_n 2, 1) := by decide +kernel
theorem dX0_pairYear_2 : decode cX0_pairYear 2 = .ok (.iload_n 2, 1) := by decide +kernel
theorem dX0_pairYear_3 : decode cX0_pairYear 3 = .ok (.aload_n 0, 1) := by decide +kernel
theorem dX0_pairYear_4 : decode cX0_pairYear 4 = .ok (.getfield 49, 3) := by decide +kernel
theorem dX0_pairYear_7 : decode cX0_pairYear 7 = .ok (.getfield 53, 3) := by decide +kernel
theorem dX0_pairYear_10 : decode cX0_pairYear 10 = .ok (.if_icmp .ge 34, 3) := by decide +kernel
theorem dX0_pairYear_13 : decode cX0_pairYear 13 = .ok (.aload_n 0, 1) := by decide +kernel
theorem dX0_pairYear_14 : decode cX0_pairYear 14 = .ok (.getfield 49, 3) := by decide +kernel
theorem dX0_pairYear_17 : decode cX0_pairYear 17 = .ok (.iload_n 2, 1) := by decide +kernel
theorem dX0_pairYear_18 : decode cX0_pairYear 18 = .ok (.iload_n 1, 1) := by decide +kernel
theorem dX0_pairYear_19 : decode cX0_pairYear 19 = .ok (.invokevirtual 59, 3) := by decide +kernel
theorem dX0_pairYear_22 : decode cX0_pairYear 22 = .ok (.ifCond .eq 16, 3) := by decide +kernel
theorem dX0_pairYear_25 : decode cX0_pairYear 25 = .ok (.aload_n 0, 1) := by decide +kernel
theorem dX0_pairYear_26 : decode cX0_pairYear 26 = .ok (.aload_n 0, 1) := by decide +kernel
theorem dX0_pairYear_27 : decode cX0_pairYear 27 = .ok (.getfield 49, 3) := by decide +kernel
theorem dX0_pairYear_30 : decode cX0_pairYear 30 = .ok (.getfield 63, 3) := by decide +kernel
theorem dX0_pairYear_33 : decode cX0_pairYear 33 = .ok (.iload_n 2, 1) := by decide +kernel
theorem dX0_pairYear_34 : decode cX0_pairYear 34 = .ok (.iaload, 1) := by decide +kernel
theorem dX0_pairYear_35 : decode cX0_pairYear 35 = .ok (.invokevirtual 66, 3) := by decide +kernel
theorem dX0_pairYear_38 : decode cX0_pairYear 38 = .ok (.iinc 2 1, 3) := by decide +kernel
theorem dX0_pairYear_41 : decode cX0_pairYear 41 = .ok (.goto (-39), 3) := by decide +kernel
theorem dX0_pairYear_44 : decode cX0_pairYear 44 = .ok (.return_, 1) := by decide +kernel
theorem dX0_pairDate_0 : decode cX0_pairDate 0 = .ok (.aload_n 0, 1) := by decide +kernel
theorem dX0_pairDate_1 : decode cX0_pairDate 1 = .ok (.getfield 18, 3) := by decide +kernel
theorem dX0_pairDate_4 : decode cX0_pairDate 4 = .ok (.iload_n 1, 1) := by decide +kernel
theorem dX0_pairDate_5 : decode cX0_pairDate 5 = .ok (.baload, 1) := by decide +kernel
theorem dX0_pairDate_6 : decode cX0_pairDate 6 = .ok (.ifCond .eq 4, 3) := by decide +kernel
theorem dX0_pairDate_9 : decode cX0_pairDate 9 = .ok (.return_, 1) := by decide +kernel
theorem dX0_pairDate_10 : decode cX0_pairDate 10 = .ok (.iconst 0, 1) := by decide +kernel
theorem dX0_pairDate_11 : decode cX0_pairDate 11 = .ok (.istore_n 2, 1) := by decide +kernel
theorem dX0_pairDate_12 : decode cX0_pairDate 12 = .ok (.iload_n 2, 1) := by decide +kernel
theorem dX0_pairDate_13 : decode cX0_pairDate 13 = .ok (.aload_n 0, 1) := by decide +kernel
theorem dX0_pairDate_14 : decode cX0_pairDate 14 = .ok (.getfield 49, 3) := by decide +kernel
theorem dX0_pairDate_17 : decode cX0_pairDate 17 = .ok (.getfield 53, 3) := by decide +kernel
theorem dX0_pairDate_20 : decode cX0_pairDate 20 = .ok (.if_icmp .ge 36, 3) := by decide +kernel
theorem dX0_pairDate_23 : decode cX0_pairDate 23 = .ok (.aload_n 0, 1) := by decide +kernel
theorem dX0_pairDate_24 : decode cX0_pairDate 24 = .ok (.getfield 49, 3) := by decide +kernel
theorem dX0_pairDate_27 : decode cX0_pairDate 27 = .ok (.getfield 63, 3) := by decide +kernel
theorem dX0_pairDate_30 : decode cX0_pairDate 30 = .ok (.iload_n 2, 1) := by decide +kernel
theorem dX0_pairDate_31 : decode cX0_pairDate 31 = .ok (.iaload, 1) := by decide +kernel
theorem dX0_pairDate_32 : decode cX0_pairDate 32 = .ok (.iload_n 1, 1) := by decide +kernel
theorem dX0_pairDate_33 : decode cX0_pairDate 33 = .ok (.if_icmp .ne 17, 3) := by decide +kernel
theorem dX0_pairDate_36 : decode cX0_pairDate 36 = .ok (.aload_n 0, 1) := by decide +kernel
theorem dX0_pairDate_37 : decode cX0_pairDate 37 = .ok (.getfield 22, 3) := by decide +kernel
theorem dX0_pairDate_40 : decode cX0_pairDate 40 = .ok (.iload_n 2, 1) := by decide +kernel
theorem dX0_pairDate_41 : decode cX0_pairDate 41 = .ok (.iconst (-1), 1) := by decide +kernel
theorem dX0_pairDate_42 : decode cX0_pairDate 42 = .ok (.iastore, 1) := by decide +kernel
theorem dX0_pairDate_43 : decode cX0_pairDate 43 = .ok (.aload_n 0, 1) := by decide +kernel
theorem dX0_pairDate_44 : decode cX0_pairDate 44 = .ok (.getfield 26, 3) := by decide +kernel
theorem dX0_pairDate_47 : decode cX0_pairDate 47 = .ok (.iload_n 2, 1) := by decide +kernel
theorem dX0_pairDate_48 : decode cX0_pairDate 48 = .ok (.iconst (-1), 1) := by decide +kernel
theorem dX0_pairDate_49 : decode cX0_pairDate 49 = .ok (.iastore, 1) := by decide +kernel
theorem dX0_pairDate_50 : decode cX0_pairDate 50 = .ok (.iinc 2 1, 3) := by decide +kernel
theorem dX0_pairDate_53 : decode cX0_pairDate 53 = .ok (.goto (-41), 3) := by decide +kernel
theorem dX0_pairDate_56 : decode cX0_pairDate 56 = .ok (.iconst 0, 1) := by decide +kernel
theorem dX0_pairDate_57 : decode cX0_pairDate 57 = .ok (.istore_n 2, 1) := by decide +kernel
theorem dX0_pairDate_58 : decode cX0_pairDate 58 = .ok (.iload_n 2, 1) := by decide +kernel
theorem dX0_pairDate_59 : decode cX0_pairDate 59 = .ok (.iconst 1, 1) := by decide +kernel
theorem dX0_pairDate_60 : decode cX0_pairDate 60 = .ok (.iadd, 1) := by decide +kernel
theorem dX0_pairDate_61 : decode cX0_pairDate 61 = .ok (.aload_n 0, 1) := by decide +kernel
theorem dX0_pairDate_62 : decode cX0_pairDate 62 = .ok (.getfield 41, 3) := by decide +kernel
theorem dX0_pairDate_65 : decode cX0_pairDate 65 = .ok (.getfield 70, 3) := by decide +kernel
theorem dX0_pairDate_68 : decode cX0_pairDate 68 = .ok (.if_icmp .ge 15, 3) := by decide +kernel
theorem dX0_pairDate_71 : decode cX0_pairDate 71 = .ok (.aload_n 0, 1) := by decide +kernel
theorem dX0_pairDate_72 : decode cX0_pairDate 72 = .ok (.iload_n 1, 1) := by decide +kernel
theorem dX0_pairDate_73 : decode cX0_pairDate 73 = .ok (.iload_n 2, 1) := by decide +kernel
theorem dX0_pairDate_74 : decode cX0_pairDate 74 = .ok (.invokevirtual 75, 3) := by decide +kernel
theorem dX0_pairDate_77 : decode cX0_pairDate 77 = .ok (.iinc 2 1, 3) := by decide +kernel
theorem dX0_pairDate_80 : decode cX0_pairDate 80 = .ok (.goto (-22), 3) := by decide +kernel
theorem dX0_pairDate_83 : decode cX0_pairDate 83 = .ok (.iconst 0, 1) := by decide +kernel
theorem dX0_pairDate_84 : decode cX0_pairDate 84 = .ok (.istore_n 2, 1) := by decide +kernel
theorem dX0_pairDate_85 : decode cX0_pairDate 85 = .ok (.iload_n 2, 1) := by decide +kernel
theorem dX0_pairDate_86 : decode cX0_pairDate 86 = .ok (.aload_n 0, 1) := by decide +kernel
theorem dX0_pairDate_87 : decode cX0_pairDate 87 = .ok (.getfield 41, 3) := by decide +kernel
theorem dX0_pairDate_90 : decode cX0_pairDate 90 = .ok (.getfield 70, 3) := by decide +kernel
theorem dX0_pairDate_93 : decode cX0_pairDate 93 = .ok (.if_icmp .ge 15, 3) := by decide +kernel
theorem dX0_pairDate_96 : decode cX0_pairDate 96 = .ok (.aload_n 0, 1) := by decide +kernel
theorem dX0_pairDate_97 : decode cX0_pairDate 97 = .ok (.iload_n 1, 1) := by decide +kernel
theorem dX0_pairDate_98 : decode cX0_pairDate 98 = .ok (.iload_n 2, 1) := by decide +kernel
theorem dX0_pairDate_99 : decode cX0_pairDate 99 = .ok (.invokevirtual 79, 3) := by decide +kernel
theorem dX0_pairDate_102 : decode cX0_pairDate 102 = .ok (.iinc 2 1, 3) := by decide +kernel
theorem dX0_pairDate_105 : decode cX0_pairDate 105 = .ok (.goto (-20), 3) := by decide +kernel
theorem dX0_pairDate_108 : decode cX0_pairDate 108 = .ok (.aload_n 0, 1) := by decide +kernel
theorem dX0_pairDate_109 : decode cX0_pairDate 109 = .ok (.getfield 18, 3) := by decide +kernel
theorem dX0_pairDate_112 : decode cX0_pairDate 112 = .ok (.iload_n 1, 1) := by decide +kernel
theorem dX0_pairDate_113 : decode cX0_pairDate 113 = .ok (.iconst 1, 1) := by decide +kernel
theorem dX0_pairDate_114 : decode cX0_pairDate 114 = .ok (.bastore, 1) := by decide +kernel
theorem dX0_pairDate_115 : decode cX0_pairDate 115 = .ok (.return_, 1) := by decide +kernel
theorem dX0_pairPosts_0 : decode cX0_pairPosts 0 = .ok (.aload_n 0, 1) := by decide +kernel
theorem dX0_pairPosts_1 : decode cX0_pairPosts 1 = .ok (.getfield 49, 3) := by decide +kernel
theorem dX0_pairPosts_4 : decode cX0_pairPosts 4 = .ok (.iload_n 1, 1) := by decide +kernel
theorem dX0_pairPosts_5 : decode cX0_pairPosts 5 = .ok (.iload_n 2, 1) := by decide +kernel
theorem dX0_pairPosts_6 : decode cX0_pairPosts 6 = .ok (.aload_n 0, 1) := by decide +kernel
theorem dX0_pairPosts_7 : decode cX0_pairPosts 7 = .ok (.getfield 35, 3) := by decide +kernel
theorem dX0_pairPosts_10 : decode cX0_pairPosts 10 = .ok (.invokevirtual 82, 3) := by decide +kernel
theorem dX0_pairPosts_13 : decode cX0_pairPosts 13 = .ok (.istore_n 3, 1) := by decide +kernel
theorem dX0_pairPosts_14 : decode cX0_pairPosts 14 = .ok (.aload_n 0, 1) := by decide +kernel
theorem dX0_pairPosts_15 : decode cX0_pairPosts 15 = .ok (.getfield 49, 3) := by decide +kernel
theorem dX0_pairPosts_18 : decode cX0_pairPosts 18 = .ok (.iload_n 1, 1) := by decide +kernel
theorem dX0_pairPosts_19 : decode cX0_pairPosts 19 = .ok (.iload_n 2, 1) := by decide +kernel
theorem dX0_pairPosts_20 : decode cX0_pairPosts 20 = .ok (.iconst 1, 1) := by decide +kernel
theorem dX0_pairPosts_21 : decode cX0_pairPosts 21 = .ok (.iadd, 1) := by decide +kernel
theorem dX0_pairPosts_22 : decode cX0_pairPosts 22 = .ok (.aload_n 0, 1) := by decide +kernel
theorem dX0_pairPosts_23 : decode cX0_pairPosts 23 = .ok (.getfield 38, 3) := by decide +kernel
theorem dX0_pairPosts_26 : decode cX0_pairPosts 26 = .ok (.invokevirtual 82, 3) := by decide +kernel
theorem dX0_pairPosts_29 : decode cX0_pairPosts 29 = .ok (.istore 4, 2) := by decide +kernel
theorem dX0_pairPosts_31 : decode cX0_pairPosts 31 = .ok (.aload_n 0, 1) := by decide +kernel
theorem dX0_pairPosts_32 : decode cX0_pairPosts 32 = .ok (.getfield 41, 3) := by decide +kernel
theorem dX0_pairPosts_35 : decode cX0_pairPosts 35 = .ok (.iload_n 2, 1) := by decide +kernel
theorem dX0_pairPosts_36 : decode cX0_pairPosts 36 = .ok (.invokevirtual 86, 3) := by decide +kernel
theorem dX0_pairPosts_39 : decode cX0_pairPosts 39 = .ok (.istore 5, 2) := by decide +kernel
theorem dX0_pairPosts_41 : decode cX0_pairPosts 41 = .ok (.aload_n 0, 1) := by decide +kernel
theorem dX0_pairPosts_42 : decode cX0_pairPosts 42 = .ok (.getfield 12, 3) := by decide +kernel
theorem dX0_pairPosts_45 : decode cX0_pairPosts 45 = .ok (.iload_n 3, 1) := by decide +kernel
theorem dX0_pairPosts_46 : decode cX0_pairPosts 46 = .ok (.iload 4, 2) := by decide +kernel
theorem dX0_pairPosts_48 : decode cX0_pairPosts 48 = .ok (.invokevirtual 90, 3) := by decide +kernel
theorem dX0_pairPosts_51 : decode cX0_pairPosts 51 = .ok (.iconst 0, 1) := by decide +kernel
theorem dX0_pairPosts_52 : decode cX0_pairPosts 52 = .ok (.istore 6, 2) := by decide +kernel
theorem dX0_pairPosts_54 : decode cX0_pairPosts 54 = .ok (.iload 6, 2) := by decide +kernel
theorem dX0_pairPosts_56 : decode cX0_pairPosts 56 = .ok (.iload_n 3, 1) := by decide +kernel
theorem dX0_pairPosts_57 : decode cX0_pairPosts 57 = .ok (.if_icmp .ge 59, 3) := by decide +kernel
theorem dX0_pairPosts_60 : decode cX0_pairPosts 60 = .ok (.iconst 0, 1) := by decide +kernel
theorem dX0_pairPosts_61 : decode cX0_pairPosts 61 = .ok (.istore 7, 2) := by decide +kernel
theorem dX0_pairPosts_63 : decode cX0_pairPosts 63 = .ok (.iload 7, 2) := by decide +kernel
theorem dX0_pairPosts_65 : decode cX0_pairPosts 65 = .ok (.iload 4, 2) := by decide +kernel
theorem dX0_pairPosts_67 : decode cX0_pairPosts 67 = .ok (.if_icmp .ge 43, 3) := by decide +kernel
theorem dX0_pairPosts_70 : decode cX0_pairPosts 70 = .ok (.aload_n 0, 1) := by decide +kernel
theorem dX0_pairPosts_71 : decode cX0_pairPosts 71 = .ok (.aload_n 0, 1) := by decide +kernel
theorem dX0_pairPosts_72 : decode cX0_pairPosts 72 = .ok (.getfield 35, 3) := by decide +kernel
theorem dX0_pairPosts_75 : decode cX0_pairPosts 75 = .ok (.iload 6, 2) := by decide +kernel
theorem dX0_pairPosts_77 : decode cX0_pairPosts 77 = .ok (.iaload, 1) := by decide +kernel
theorem dX0_pairPosts_78 : decode cX0_pairPosts 78 = .ok (.aload_n 0, 1) := by decide +kernel
theorem dX0_pairPosts_79 : decode cX0_pairPosts 79 = .ok (.getfield 38, 3) := by decide +kernel
theorem dX0_pairPosts_82 : decode cX0_pairPosts 82 = .ok (.iload 7, 2) := by decide +kernel
theorem dX0_pairPosts_84 : decode cX0_pairPosts 84 = .ok (.iaload, 1) := by decide +kernel
theorem dX0_pairPosts_85 : decode cX0_pairPosts 85 = .ok (.iload 5, 2) := by decide +kernel
theorem dX0_pairPosts_87 : decode cX0_pairPosts 87 = .ok (.invokevirtual 93, 3) := by decide +kernel
theorem dX0_pairPosts_90 : decode cX0_pairPosts 90 = .ok (.ifCond .eq 14, 3) := by decide +kernel
theorem dX0_pairPosts_93 : decode cX0_pairPosts 93 = .ok (.aload_n 0, 1) := by decide +kernel
theorem dX0_pairPosts_94 : decode cX0_pairPosts 94 = .ok (.getfield 12, 3) := by decide +kernel
theorem dX0_pairPosts_97 : decode cX0_pairPosts 97 = .ok (.iload 6, 2) := by decide +kernel
theorem dX0_pairPosts_99 : decode cX0_pairPosts 99 = .ok (.iload 7, 2) := by decide +kernel
theorem dX0_pairPosts_101 : decode cX0_pairPosts 101 = .ok (.invokevirtual 97, 3) := by decide +kernel
theorem dX0_pairPosts_104 : decode cX0_pairPosts 104 = .ok (.iinc 7 1, 3) := by decide +kernel
theorem dX0_pairPosts_107 : decode cX0_pairPosts 107 = .ok (.goto (-44), 3) := by decide +kernel
theorem dX0_pairPosts_110 : decode cX0_pairPosts 110 = .ok (.iinc 6 1, 3) := by decide +kernel
theorem dX0_pairPosts_113 : decode cX0_pairPosts 113 = .ok (.goto (-59), 3) := by decide +kernel
theorem dX0_pairPosts_116 : decode cX0_pairPosts 116 = .ok (.aload_n 0, 1) := by decide +kernel
theorem dX0_pairPosts_117 : decode cX0_pairPosts 117 = .ok (.getfield 12, 3) := by decide +kernel
theorem dX0_pairPosts_120 : decode cX0_pairPosts 120 = .ok (.invokevirtual 100, 3) := by decide +kernel
theorem dX0_pairPosts_123 : decode cX0_pairPosts 123 = .ok (.iconst 0, 1) := by decide +kernel
theorem dX0_pairPosts_124 : decode cX0_pairPosts 124 = .ok (.istore 6, 2) := by decide +kernel
theorem dX0_pairPosts_126 : decode cX0_pairPosts 126 = .ok (.iload 6, 2) := by decide +kernel
theorem dX0_pairPosts_128 : decode cX0_pairPosts 128 = .ok (.iload_n 3, 1) := by decide +kernel
theorem dX0_pairPosts_129 : decode cX0_pairPosts 129 = .ok (.if_icmp .ge 71, 3) := by decide +kernel
theorem dX0_pairPosts_132 : decode cX0_pairPosts 132 = .ok (.aload_n 0, 1) := by decide +kernel
theorem dX0_pairPosts_133 : decode cX0_pairPosts 133 = .ok (.getfield 12, 3) := by decide +kernel
theorem dX0_pairPosts_136 : decode cX0_pairPosts 136 = .ok (.getfield 103, 3) := by decide +kernel
theorem dX0_pairPosts_139 : decode cX0_pairPosts 139 = .ok (.iload 6, 2) := by decide +kernel
theorem dX0_pairPosts_141 : decode cX0_pairPosts 141 = .ok (.iaload, 1) := by decide +kernel
theorem dX0_pairPosts_142 : decode cX0_pairPosts 142 = .ok (.istore 7, 2) := by decide +kernel
theorem dX0_pairPosts_144 : decode cX0_pairPosts 144 = .ok (.iload 7, 2) := by decide +kernel
theorem dX0_pairPosts_146 : decode cX0_pairPosts 146 = .ok (.ifCond .lt 48, 3) := by decide +kernel
theorem dX0_pairPosts_149 : decode cX0_pairPosts 149 = .ok (.iload 7, 2) := by decide +kernel
theorem dX0_pairPosts_151 : decode cX0_pairPosts 151 = .ok (.iload 4, 2) := by decide +kernel
theorem dX0_pairPosts_153 : decode cX0_pairPosts 153 = .ok (.if_icmp .ge 41, 3) := by decide +kernel
theorem dX0_pairPosts_156 : decode cX0_pairPosts 156 = .ok (.aload_n 0, 1) := by decide +kernel
theorem dX0_pairPosts_157 : decode cX0_pairPosts 157 = .ok (.getfield 22, 3) := by decide +kernel
theorem dX0_pairPosts_160 : decode cX0_pairPosts 160 = .ok (.aload_n 0, 1) := by decide +kernel
theorem dX0_pairPosts_161 : decode cX0_pairPosts 161 = .ok (.getfield 35, 3) := by decide +kernel
theorem dX0_pairPosts_164 : decode cX0_pairPosts 164 = .ok (.iload 6, 2) := by decide +kernel
theorem dX0_pairPosts_166 : decode cX0_pairPosts 166 = .ok (.iaload, 1) := by decide +kernel
theorem dX0_pairPosts_167 : decode cX0_pairPosts 167 = .ok (.aload_n 0, 1) := by decide +kernel
theorem dX0_pairPosts_168 : decode cX0_pairPosts 168 = .ok (.getfield 38, 3) := by decide +kernel
theorem dX0_pairPosts_171 : decode cX0_pairPosts 171 = .ok (.iload 7, 2) := by decide +kernel
theorem dX0_pairPosts_173 : decode cX0_pairPosts 173 = .ok (.iaload, 1) := by decide +kernel
theorem dX0_pairPosts_174 : decode cX0_pairPosts 174 = .ok (.iastore, 1) := by decide +kernel
theorem dX0_pairPosts_175 : decode cX0_pairPosts 175 = .ok (.aload_n 0, 1) := by decide +kernel
theorem dX0_pairPosts_176 : decode cX0_pairPosts 176 = .ok (.getfield 26, 3) := by decide +kernel
theorem dX0_pairPosts_179 : decode cX0_pairPosts 179 = .ok (.aload_n 0, 1) := by decide +kernel
theorem dX0_pairPosts_180 : decode cX0_pairPosts 180 = .ok (.getfield 38, 3) := by decide +kernel
theorem dX0_pairPosts_183 : decode cX0_pairPosts 183 = .ok (.iload 7, 2) := by decide +kernel
theorem dX0_pairPosts_185 : decode cX0_pairPosts 185 = .ok (.iaload, 1) := by decide +kernel
theorem dX0_pairPosts_186 : decode cX0_pairPosts 186 = .ok (.aload_n 0, 1) := by decide +kernel
theorem dX0_pairPosts_187 : decode cX0_pairPosts 187 = .ok (.getfield 35, 3) := by decide +kernel
theorem dX0_pairPosts_190 : decode cX0_pairPosts 190 = .ok (.iload 6, 2) := by decide +kernel
theorem dX0_pairPosts_192 : decode cX0_pairPosts 192 = .ok (.iaload, 1) := by decide +kernel
theorem dX0_pairPosts_193 : decode cX0_pairPosts 193 = .ok (.iastore, 1) := by decide +kernel
theorem dX0_pairPosts_194 : decode cX0_pairPosts 194 = .ok (.iinc 6 1, 3) := by decide +kernel
theorem dX0_pairPosts_197 : decode cX0_pairPosts 197 = .ok (.goto (-71), 3) := by decide +kernel
theorem dX0_pairPosts_200 : decode cX0_pairPosts 200 = .ok (.return_, 1) := by decide +kernel
theorem dX0_meet_0 : decode cX0_meet 0 = .ok (.aload_n 0, 1) := by decide +kernel
theorem dX0_meet_1 : decode cX0_meet 1 = .ok (.getfield 45, 3) := by decide +kernel
theorem dX0_meet_4 : decode cX0_meet 4 = .ok (.aload_n 0, 1) := by decide +kernel
theorem dX0_meet_5 : decode cX0_meet 5 = .ok (.getfield 49, 3) := by decide +kernel
theorem dX0_meet_8 : decode cX0_meet 8 = .ok (.getfield 106, 3) := by decide +kernel
theorem dX0_meet_11 : decode cX0_meet 11 = .ok (.iload_n 1, 1) := by decide +kernel
theorem dX0_meet_12 : decode cX0_meet 12 = .ok (.iaload, 1) := by decide +kernel
theorem dX0_meet_13 : decode cX0_meet 13 = .ok (.aload_n 0, 1) := by decide +kernel
theorem dX0_meet_14 : decode cX0_meet 14 = .ok (.getfield 49, 3) := by decide +kernel
theorem dX0_meet_17 : decode cX0_meet 17 = .ok (.getfield 106, 3) := by decide +kernel
theorem dX0_meet_20 : decode cX0_meet 20 = .ok (.iload_n 2, 1) := by decide +kernel
theorem dX0_meet_21 : decode cX0_meet 21 = .ok (.iaload, 1) := by decide +kernel
theorem dX0_meet_22 : decode cX0_meet 22 = .ok (.invokevirtual 109, 3) := by decide +kernel
theorem dX0_meet_25 : decode cX0_meet 25 = .ok (.istore 4, 2) := by decide +kernel
theorem dX0_meet_27 : decode cX0_meet 27 = .ok (.iload 4, 2) := by decide +kernel
theorem dX0_meet_29 : decode cX0_meet 29 = .ok (.iconst (-1), 1) := by decide +kernel
theorem dX0_meet_30 : decode cX0_meet 30 = .ok (.if_icmp .eq 39, 3) := by decide +kernel
theorem dX0_meet_33 : decode cX0_meet 33 = .ok (.aload_n 0, 1) := by decide +kernel
theorem dX0_meet_34 : decode cX0_meet 34 = .ok (.getfield 45, 3) := by decide +kernel
theorem dX0_meet_37 : decode cX0_meet 37 = .ok (.iload 4, 2) := by decide +kernel
theorem dX0_meet_39 : decode cX0_meet 39 = .ok (.iload_n 3, 1) := by decide +kernel
theorem dX0_meet_40 : decode cX0_meet 40 = .ok (.aload_n 0, 1) := by decide +kernel
theorem dX0_meet_41 : decode cX0_meet 41 = .ok (.getfield 49, 3) := by decide +kernel
theorem dX0_meet_44 : decode cX0_meet 44 = .ok (.getfield 115, 3) := by decide +kernel
theorem dX0_meet_47 : decode cX0_meet 47 = .ok (.iload_n 2, 1) := by decide +kernel
theorem dX0_meet_48 : decode cX0_meet 48 = .ok (.iaload, 1) := by decide +kernel
theorem dX0_meet_49 : decode cX0_meet 49 = .ok (.aload_n 0, 1) := by decide +kernel
theorem dX0_meet_50 : decode cX0_meet 50 = .ok (.getfield 49, 3) := by decide +kernel
theorem dX0_meet_53 : decode cX0_meet 53 = .ok (.getfield 115, 3) := by decide +kernel
theorem dX0_meet_56 : decode cX0_meet 56 = .ok (.iload_n 1, 1) := by decide +kernel
theorem dX0_meet_57 : decode cX0_meet 57 = .ok (.iaload, 1) := by decide +kernel
theorem dX0_meet_58 : decode cX0_meet 58 = .ok (.isub, 1) := by decide +kernel
theorem dX0_meet_59 : decode cX0_meet 59 = .ok (.invokevirtual 118, 3) := by decide +kernel
theorem dX0_meet_62 : decode cX0_meet 62 = .ok (.ifCond .eq 7, 3) := by decide +kernel
theorem dX0_meet_65 : decode cX0_meet 65 = .ok (.iconst 1, 1) := by decide +kernel
theorem dX0_meet_66 : decode cX0_meet 66 = .ok (.goto 4, 3) := by decide +kernel
theorem dX0_meet_69 : decode cX0_meet 69 = .ok (.iconst 0, 1) := by decide +kernel
theorem dX0_meet_70 : decode cX0_meet 70 = .ok (.ireturn, 1) := by decide +kernel
theorem dX0_followBirds_0 : decode cX0_followBirds 0 = .ok (.aload_n 0, 1) := by decide +kernel
theorem dX0_followBirds_1 : decode cX0_followBirds 1 = .ok (.getfield 49, 3) := by decide +kernel
theorem dX0_followBirds_4 : decode cX0_followBirds 4 = .ok (.iload_n 1, 1) := by decide +kernel
theorem dX0_followBirds_5 : decode cX0_followBirds 5 = .ok (.iload_n 2, 1) := by decide +kernel
theorem dX0_followBirds_6 : decode cX0_followBirds 6 = .ok (.aload_n 0, 1) := by decide +kernel
theorem dX0_followBirds_7 : decode cX0_followBirds 7 = .ok (.getfield 35, 3) := by decide +kernel
theorem dX0_followBirds_10 : decode cX0_followBirds 10 = .ok (.invokevirtual 82, 3) := by decide +kernel
theorem dX0_followBirds_13 : decode cX0_followBirds 13 = .ok (.istore_n 3, 1) := by decide +kernel
theorem dX0_followBirds_14 : decode cX0_followBirds 14 = .ok (.iconst 0, 1) := by decide +kernel
theorem dX0_followBirds_15 : decode cX0_followBirds 15 = .ok (.istore 4, 2) := by decide +kernel
theorem dX0_followBirds_17 : decode cX0_followBirds 17 = .ok (.iload 4, 2) := by decide +kernel
theorem dX0_followBirds_19 : decode cX0_followBirds 19 = .ok (.iload_n 3, 1) := by decide +kernel
theorem dX0_followBirds_20 : decode cX0_followBirds 20 = .ok (.if_icmp .ge 119, 3) := by decide +kernel
theorem dX0_followBirds_23 : decode cX0_followBirds 23 = .ok (.aload_n 0, 1) := by decide +kernel
theorem dX0_followBirds_24 : decode cX0_followBirds 24 = .ok (.getfield 35, 3) := by decide +kernel
theorem dX0_followBirds_27 : decode cX0_followBirds 27 = .ok (.iload 4, 2) := by decide +kernel
theorem dX0_followBirds_29 : decode cX0_followBirds 29 = .ok (.iaload, 1) := by decide +kernel
theorem dX0_followBirds_30 : decode cX0_followBirds 30 = .ok (.istore 5, 2) := by decide +kernel
theorem dX0_followBirds_32 : decode cX0_followBirds 32 = .ok (.aload_n 0, 1) := by decide +kernel
theorem dX0_followBirds_33 : decode cX0_followBirds 33 = .ok (.getfield 49, 3) := by decide +kernel
theorem dX0_followBirds_36 : decode cX0_followBirds 36 = .ok (.getfield 106, 3) := by decide +kernel
theorem dX0_followBirds_39 : decode cX0_followBirds 39 = .ok (.iload 5, 2) := by decide +kernel
theorem dX0_followBirds_41 : decode cX0_followBirds 41 = .ok (.iaload, 1) := by decide +kernel
theorem dX0_followBirds_42 : decode cX0_followBirds 42 = .ok (.istore 6, 2) := by decide +kernel
theorem dX0_followBirds_44 : decode cX0_followBirds 44 = .ok (.aload_n 0, 1) := by decide +kernel
theorem dX0_followBirds_45 : decode cX0_followBirds 45 = .ok (.getfield 26, 3) := by decide +kernel
theorem dX0_followBirds_48 : decode cX0_followBirds 48 = .ok (.iload 5, 2) := by decide +kernel
theorem dX0_followBirds_50 : decode cX0_followBirds 50 = .ok (.iaload, 1) := by decide +kernel
theorem dX0_followBirds_51 : decode cX0_followBirds 51 = .ok (.ifCond .ge 24, 3) := by decide +kernel
theorem dX0_followBirds_54 : decode cX0_followBirds 54 = .ok (.aload_n 0, 1) := by decide +kernel
theorem dX0_followBirds_55 : decode cX0_followBirds 55 = .ok (.getfield 29, 3) := by decide +kernel
theorem dX0_followBirds_58 : decode cX0_followBirds 58 = .ok (.iload 5, 2) := by decide +kernel
theorem dX0_followBirds_60 : decode cX0_followBirds 60 = .ok (.iload 5, 2) := by decide +kernel
theorem dX0_followBirds_62 : decode cX0_followBirds 62 = .ok (.iastore, 1) := by decide +kernel
theorem dX0_followBirds_63 : decode cX0_followBirds 63 = .ok (.aload_n 0, 1) := by decide +kernel
theorem dX0_followBirds_64 : decode cX0_followBirds 64 = .ok (.getfield 32, 3) := by decide +kernel
theorem dX0_followBirds_67 : decode cX0_followBirds 67 = .ok (.iload 5, 2) := by decide +kernel
theorem dX0_followBirds_69 : decode cX0_followBirds 69 = .ok (.iload 6, 2) := by decide +kernel
theorem dX0_followBirds_71 : decode cX0_followBirds 71 = .ok (.iastore, 1) := by decide +kernel
theorem dX0_followBirds_72 : decode cX0_followBirds 72 = .ok (.goto 61, 3) := by decide +kernel
theorem dX0_followBirds_75 : decode cX0_followBirds 75 = .ok (.aload_n 0, 1) := by decide +kernel
theorem dX0_followBirds_76 : decode cX0_followBirds 76 = .ok (.getfield 29, 3) := by decide +kernel
theorem dX0_followBirds_79 : decode cX0_followBirds 79 = .ok (.aload_n 0, 1) := by decide +kernel
theorem dX0_followBirds_80 : decode cX0_followBirds 80 = .ok (.getfield 26, 3) := by decide +kernel
theorem dX0_followBirds_83 : decode cX0_followBirds 83 = .ok (.iload 5, 2) := by decide +kernel
theorem dX0_followBirds_85 : decode cX0_followBirds 85 = .ok (.iaload, 1) := by decide +kernel
theorem dX0_followBirds_86 : decode cX0_followBirds 86 = .ok (.iaload, 1) := by decide +kernel
theorem dX0_followBirds_87 : decode cX0_followBirds 87 = .ok (.istore 7, 2) := by decide +kernel
theorem dX0_followBirds_89 : decode cX0_followBirds 89 = .ok (.aload_n 0, 1) := by decide +kernel
theorem dX0_followBirds_90 : decode cX0_followBirds 90 = .ok (.getfield 29, 3) := by decide +kernel
theorem dX0_followBirds_93 : decode cX0_followBirds 93 = .ok (.iload 5, 2) := by decide +kernel
theorem dX0_followBirds_95 : decode cX0_followBirds 95 = .ok (.iload 7, 2) := by decide +kernel
theorem dX0_followBirds_97 : decode cX0_followBirds 97 = .ok (.iastore, 1) := by decide +kernel
theorem dX0_followBirds_98 : decode cX0_followBirds 98 = .ok (.aload_n 0, 1) := by decide +kernel
theorem dX0_followBirds_99 : decode cX0_followBirds 99 = .ok (.getfield 45, 3) := by decide +kernel
theorem dX0_followBirds_102 : decode cX0_followBirds 102 = .ok (.iload 6, 2) := by decide +kernel
theorem dX0_followBirds_104 : decode cX0_followBirds 104 = .ok (.invokevirtual 121, 3) := by decide +kernel
theorem dX0_followBirds_107 : decode cX0_followBirds 107 = .ok (.aload_n 0, 1) := by decide +kernel
theorem dX0_followBirds_108 : decode cX0_followBirds 108 = .ok (.getfield 45, 3) := by decide +kernel
theorem dX0_followBirds_111 : decode cX0_followBirds 111 = .ok (.aload_n 0, 1) := by decide +kernel
theorem dX0_followBirds_112 : decode cX0_followBirds 112 = .ok (.getfield 32, 3) := by decide +kernel
theorem dX0_followBirds_115 : decode cX0_followBirds 115 = .ok (.iload 7, 2) := by decide +kernel
theorem dX0_followBirds_117 : decode cX0_followBirds 117 = .ok (.iaload, 1) := by decide +kernel
theorem dX0_followBirds_118 : decode cX0_followBirds 118 = .ok (.invokevirtual 121, 3) := by decide +kernel
theorem dX0_followBirds_121 : decode cX0_followBirds 121 = .ok (.if_icmp .le 12, 3) := by decide +kernel
theorem dX0_followBirds_124 : decode cX0_followBirds 124 = .ok (.aload_n 0, 1) := by decide +kernel
theorem dX0_followBirds_125 : decode cX0_followBirds 125 = .ok (.getfield 32, 3) := by decide +kernel
theorem dX0_followBirds_128 : decode cX0_followBirds 128 = .ok (.iload 7, 2) := by decide +kernel
theorem dX0_followBirds_130 : decode cX0_followBirds 130 = .ok (.iload 6, 2) := by decide +kernel
theorem dX0_followBirds_132 : decode cX0_followBirds 132 = .ok (.iastore, 1) := by decide +kernel
theorem dX0_followBirds_133 : decode cX0_followBirds 133 = .ok (.iinc 4 1, 3) := by decide +kernel
theorem dX0_followBirds_136 : decode cX0_followBirds 136 = .ok (.goto (-119), 3) := by decide +kernel
theorem dX0_followBirds_139 : decode cX0_followBirds 139 = .ok (.return_, 1) := by decide +kernel
theorem dX0_isBirdOf_0 : decode cX0_isBirdOf 0 = .ok (.aload_n 0, 1) := by decide +kernel
theorem dX0_isBirdOf_1 : decode cX0_isBirdOf 1 = .ok (.getfield 49, 3) := by decide +kernel
theorem dX0_isBirdOf_4 : decode cX0_isBirdOf 4 = .ok (.iload_n 1, 1) := by decide +kernel
theorem dX0_isBirdOf_5 : decode cX0_isBirdOf 5 = .ok (.iload_n 2, 1) := by decide +kernel
theorem dX0_isBirdOf_6 : decode cX0_isBirdOf 6 = .ok (.invokevirtual 59, 3) := by decide +kernel
theorem dX0_isBirdOf_9 : decode cX0_isBirdOf 9 = .ok (.ifCond .eq 17, 3) := by decide +kernel
theorem dX0_isBirdOf_12 : decode cX0_isBirdOf 12 = .ok (.aload_n 0, 1) := by decide +kernel
theorem dX0_isBirdOf_13 : decode cX0_isBirdOf 13 = .ok (.getfield 29, 3) := by decide +kernel
theorem dX0_isBirdOf_16 : decode cX0_isBirdOf 16 = .ok (.iload_n 1, 1) := by decide +kernel
theorem dX0_isBirdOf_17 : decode cX0_isBirdOf 17 = .ok (.iaload, 1) := by decide +kernel
theorem dX0_isBirdOf_18 : decode cX0_isBirdOf 18 = .ok (.iload_n 1, 1) := by decide +kernel
theorem dX0_isBirdOf_19 : decode cX0_isBirdOf 19 = .ok (.if_icmp .ne 7, 3) := by decide +kernel
theorem dX0_isBirdOf_22 : decode cX0_isBirdOf 22 = .ok (.iconst 1, 1) := by decide +kernel
theorem dX0_isBirdOf_23 : decode cX0_isBirdOf 23 = .ok (.goto 4, 3) := by decide +kernel
theorem dX0_isBirdOf_26 : decode cX0_isBirdOf 26 = .ok (.iconst 0, 1) := by decide +kernel
theorem dX0_isBirdOf_27 : decode cX0_isBirdOf 27 = .ok (.ireturn, 1) := by decide +kernel
theorem dX0_pairsIn_0 : decode cX0_pairsIn 0 = .ok (.iconst 0, 1) := by decide +kernel
theorem dX0_pairsIn_1 : decode cX0_pairsIn 1 = .ok (.istore_n 2, 1) := by decide +kernel
theorem dX0_pairsIn_2 : decode cX0_pairsIn 2 = .ok (.iconst 0, 1) := by decide +kernel
theorem dX0_pairsIn_3 : decode cX0_pairsIn 3 = .ok (.istore_n 3, 1) := by decide +kernel
theorem dX0_pairsIn_4 : decode cX0_pairsIn 4 = .ok (.iload_n 3, 1) := by decide +kernel
theorem dX0_pairsIn_5 : decode cX0_pairsIn 5 = .ok (.aload_n 0, 1) := by decide +kernel
theorem dX0_pairsIn_6 : decode cX0_pairsIn 6 = .ok (.getfield 49, 3) := by decide +kernel
theorem dX0_pairsIn_9 : decode cX0_pairsIn 9 = .ok (.getfield 53, 3) := by decide +kernel
theorem dX0_pairsIn_12 : decode cX0_pairsIn 12 = .ok (.if_icmp .ge 33, 3) := by decide +kernel
theorem dX0_pairsIn_15 : decode cX0_pairsIn 15 = .ok (.aload_n 0, 1) := by decide +kernel
theorem dX0_pairsIn_16 : decode cX0_pairsIn 16 = .ok (.getfield 49, 3) := by decide +kernel
theorem dX0_pairsIn_19 : decode cX0_pairsIn 19 = .ok (.iload_n 3, 1) := by decide +kernel
theorem dX0_pairsIn_20 : decode cX0_pairsIn 20 = .ok (.iload_n 1, 1) := by decide +kernel
theorem dX0_pairsIn_21 : decode cX0_pairsIn 21 = .ok (.invokevirtual 59, 3) := by decide +kernel
theorem dX0_pairsIn_24 : decode cX0_pairsIn 24 = .ok (.ifCond .eq 15, 3) := by decide +kernel
theorem dX0_pairsIn_27 : decode cX0_pairsIn 27 = .ok (.aload_n 0, 1) := by decide +kernel
theorem dX0_pairsIn_28 : decode cX0_pairsIn 28 = .ok (.getfield 22, 3) := by decide +kernel
theorem dX0_pairsIn_31 : decode cX0_pairsIn 31 = .ok (.iload_n 3, 1) := by decide +kernel
theorem dX0_pairsIn_32 : decode cX0_pairsIn 32 = .ok (.iaload, 1) := by decide +kernel
theorem dX0_pairsIn_33 : decode cX0_pairsIn 33 = .ok (.ifCond .lt 6, 3) := by decide +kernel
theorem dX0_pairsIn_36 : decode cX0_pairsIn 36 = .ok (.iinc 2 1, 3) := by decide +kernel
theorem dX0_pairsIn_39 : decode cX0_pairsIn 39 = .ok (.iinc 3 1, 3) := by decide +kernel
theorem dX0_pairsIn_42 : decode cX0_pairsIn 42 = .ok (.goto (-38), 3) := by decide +kernel
theorem dX0_pairsIn_45 : decode cX0_pairsIn 45 = .ok (.iload_n 2, 1) := by decide +kernel
theorem dX0_pairsIn_46 : decode cX0_pairsIn 46 = .ok (.ireturn, 1) := by decide +kernel
theorem dX0_birdsIn_0 : decode cX0_birdsIn 0 = .ok (.iconst 0, 1) := by decide +kernel
theorem dX0_birdsIn_1 : decode cX0_birdsIn 1 = .ok (.istore_n 2, 1) := by decide +kernel
theorem dX0_birdsIn_2 : decode cX0_birdsIn 2 = .ok (.iconst 0, 1) := by decide +kernel
theorem dX0_birdsIn_3 : decode cX0_birdsIn 3 = .ok (.istore_n 3, 1) := by decide +kernel
theorem dX0_birdsIn_4 : decode cX0_birdsIn 4 = .ok (.iload_n 3, 1) := by decide +kernel
theorem dX0_birdsIn_5 : decode cX0_birdsIn 5 = .ok (.aload_n 0, 1) := by decide +kernel
theorem dX0_birdsIn_6 : decode cX0_birdsIn 6 = .ok (.getfield 49, 3) := by decide +kernel
theorem dX0_birdsIn_9 : decode cX0_birdsIn 9 = .ok (.getfield 53, 3) := by decide +kernel
theorem dX0_birdsIn_12 : decode cX0_birdsIn 12 = .ok (.if_icmp .ge 21, 3) := by decide +kernel
theorem dX0_birdsIn_15 : decode cX0_birdsIn 15 = .ok (.aload_n 0, 1) := by decide +kernel
theorem dX0_birdsIn_16 : decode cX0_birdsIn 16 = .ok (.iload_n 3, 1) := by decide +kernel
theorem dX0_birdsIn_17 : decode cX0_birdsIn 17 = .ok (.iload_n 1, 1) := by decide +kernel
theorem dX0_birdsIn_18 : decode cX0_birdsIn 18 = .ok (.invokevirtual 124, 3) := by decide +kernel
theorem dX0_birdsIn_21 : decode cX0_birdsIn 21 = .ok (.ifCond .eq 6, 3) := by decide +kernel
theorem dX0_birdsIn_24 : decode cX0_birdsIn 24 = .ok (.iinc 2 1, 3) := by decide +kernel
theorem dX0_birdsIn_27 : decode cX0_birdsIn 27 = .ok (.iinc 3 1, 3) := by decide +kernel
theorem dX0_birdsIn_30 : decode cX0_birdsIn 30 = .ok (.goto (-26), 3) := by decide +kernel
theorem dX0_birdsIn_33 : decode cX0_birdsIn 33 = .ok (.iload_n 2, 1) := by decide +kernel
theorem dX0_birdsIn_34 : decode cX0_birdsIn 34 = .ok (.ireturn, 1) := by decide +kernel
theorem dX0_addKinds_0 : decode cX0_addKinds 0 = .ok (.iconst 0, 1) := by decide +kernel
theorem dX0_addKinds_1 : decode cX0_addKinds 1 = .ok (.istore_n 3, 1) := by decide +kernel
theorem dX0_addKinds_2 : decode cX0_addKinds 2 = .ok (.iload_n 3, 1) := by decide +kernel
theorem dX0_addKinds_3 : decode cX0_addKinds 3 = .ok (.aload_n 0, 1) := by decide +kernel
theorem dX0_addKinds_4 : decode cX0_addKinds 4 = .ok (.getfield 49, 3) := by decide +kernel
theorem dX0_addKinds_7 : decode cX0_addKinds 7 = .ok (.getfield 53, 3) := by decide +kernel
theorem dX0_addKinds_10 : decode cX0_addKinds 10 = .ok (.if_icmp .ge 30, 3) := by decide +kernel
theorem dX0_addKinds_13 : decode cX0_addKinds 13 = .ok (.aload_n 0, 1) := by decide +kernel
theorem dX0_addKinds_14 : decode cX0_addKinds 14 = .ok (.iload_n 3, 1) := by decide +kernel
theorem dX0_addKinds_15 : decode cX0_addKinds 15 = .ok (.iload_n 1, 1) := by decide +kernel
theorem dX0_addKinds_16 : decode cX0_addKinds 16 = .ok (.invokevirtual 124, 3) := by decide +kernel
theorem dX0_addKinds_19 : decode cX0_addKinds 19 = .ok (.ifCond .eq 15, 3) := by decide +kernel
theorem dX0_addKinds_22 : decode cX0_addKinds 22 = .ok (.aload_n 2, 1) := by decide +kernel
theorem dX0_addKinds_23 : decode cX0_addKinds 23 = .ok (.aload_n 0, 1) := by decide +kernel
theorem dX0_addKinds_24 : decode cX0_addKinds 24 = .ok (.getfield 32, 3) := by decide +kernel
theorem dX0_addKinds_27 : decode cX0_addKinds 27 = .ok (.iload_n 3, 1) := by decide +kernel
theorem dX0_addKinds_28 : decode cX0_addKinds 28 = .ok (.iaload, 1) := by decide +kernel
theorem dX0_addKinds_29 : decode cX0_addKinds 29 = .ok (.dup2, 1) := by decide +kernel
theorem dX0_addKinds_30 : decode cX0_addKinds 30 = .ok (.iaload, 1) := by decide +kernel
theorem dX0_addKinds_31 : decode cX0_addKinds 31 = .ok (.iconst 1, 1) := by decide +kernel
theorem dX0_addKinds_32 : decode cX0_addKinds 32 = .ok (.iadd, 1) := by decide +kernel
theorem dX0_addKinds_33 : decode cX0_addKinds 33 = .ok (.iastore, 1) := by decide +kernel
theorem dX0_addKinds_34 : decode cX0_addKinds 34 = .ok (.iinc 3 1, 3) := by decide +kernel
theorem dX0_addKinds_37 : decode cX0_addKinds 37 = .ok (.goto (-35), 3) := by decide +kernel
theorem dX0_addKinds_40 : decode cX0_addKinds 40 = .ok (.return_, 1) := by decide +kernel
theorem dX0_addWinds_0 : decode cX0_addWinds 0 = .ok (.iconst 0, 1) := by decide +kernel
theorem dX0_addWinds_1 : decode cX0_addWinds 1 = .ok (.istore 4, 2) := by decide +kernel
theorem dX0_addWinds_3 : decode cX0_addWinds 3 = .ok (.iload 4, 2) := by decide +kernel
theorem dX0_addWinds_5 : decode cX0_addWinds 5 = .ok (.aload_n 0, 1) := by decide +kernel
theorem dX0_addWinds_6 : decode cX0_addWinds 6 = .ok (.getfield 49, 3) := by decide +kernel
theorem dX0_addWinds_9 : decode cX0_addWinds 9 = .ok (.getfield 53, 3) := by decide +kernel
theorem dX0_addWinds_12 : decode cX0_addWinds 12 = .ok (.if_icmp .ge 40, 3) := by decide +kernel
theorem dX0_addWinds_15 : decode cX0_addWinds 15 = .ok (.aload_n 0, 1) := by decide +kernel
theorem dX0_addWinds_16 : decode cX0_addWinds 16 = .ok (.iload 4, 2) := by decide +kernel
theorem dX0_addWinds_18 : decode cX0_addWinds 18 = .ok (.iload_n 1, 1) := by decide +kernel
theorem dX0_addWinds_19 : decode cX0_addWinds 19 = .ok (.invokevirtual 124, 3) := by decide +kernel
theorem dX0_addWinds_22 : decode cX0_addWinds 22 = .ok (.ifCond .eq 24, 3) := by decide +kernel
theorem dX0_addWinds_25 : decode cX0_addWinds 25 = .ok (.aload_n 3, 1) := by decide +kernel
theorem dX0_addWinds_26 : decode cX0_addWinds 26 = .ok (.aload_n 2, 1) := by decide +kernel
theorem dX0_addWinds_27 : decode cX0_addWinds 27 = .ok (.getfield 127, 3) := by decide +kernel
theorem dX0_addWinds_30 : decode cX0_addWinds 30 = .ok (.aload_n 0, 1) := by decide +kernel
theorem dX0_addWinds_31 : decode cX0_addWinds 31 = .ok (.getfield 49, 3) := by decide +kernel
theorem dX0_addWinds_34 : decode cX0_addWinds 34 = .ok (.getfield 63, 3) := by decide +kernel
theorem dX0_addWinds_37 : decode cX0_addWinds 37 = .ok (.iload 4, 2) := by decide +kernel
theorem dX0_addWinds_39 : decode cX0_addWinds 39 = .ok (.iaload, 1) := by decide +kernel
theorem dX0_addWinds_40 : decode cX0_addWinds 40 = .ok (.iaload, 1) := by decide +kernel
theorem dX0_addWinds_41 : decode cX0_addWinds 41 = .ok (.dup2, 1) := by decide +kernel
theorem dX0_addWinds_42 : decode cX0_addWinds 42 = .ok (.iaload, 1) := by decide +kernel
theorem dX0_addWinds_43 : decode cX0_addWinds 43 = .ok (.iconst 1, 1) := by decide +kernel
theorem dX0_addWinds_44 : decode cX0_addWinds 44 = .ok (.iadd, 1) := by decide +kernel
theorem dX0_addWinds_45 : decode cX0_addWinds 45 = .ok (.iastore, 1) := by decide +kernel
theorem dX0_addWinds_46 : decode cX0_addWinds 46 = .ok (.iinc 4 1, 3) := by decide +kernel
theorem dX0_addWinds_49 : decode cX0_addWinds 49 = .ok (.goto (-46), 3) := by decide +kernel
theorem dX0_addWinds_52 : decode cX0_addWinds 52 = .ok (.return_, 1) := by decide +kernel
theorem dX0_addSlots_0 : decode cX0_addSlots 0 = .ok (.iconst 0, 1) := by decide +kernel
theorem dX0_addSlots_1 : decode cX0_addSlots 1 = .ok (.istore 4, 2) := by decide +kernel
theorem dX0_addSlots_3 : decode cX0_addSlots 3 = .ok (.iconst 0, 1) := by decide +kernel
theorem dX0_addSlots_4 : decode cX0_addSlots 4 = .ok (.istore 5, 2) := by decide +kernel
theorem dX0_addSlots_6 : decode cX0_addSlots 6 = .ok (.iload 5, 2) := by decide +kernel
theorem dX0_addSlots_8 : decode cX0_addSlots 8 = .ok (.aload_n 0, 1) := by decide +kernel
theorem dX0_addSlots_9 : decode cX0_addSlots 9 = .ok (.getfield 49, 3) := by decide +kernel
theorem dX0_addSlots_12 : decode cX0_addSlots 12 = .ok (.getfield 53, 3) := by decide +kernel
theorem dX0_addSlots_15 : decode cX0_addSlots 15 = .ok (.if_icmp .ge 72, 3) := by decide +kernel
theorem dX0_addSlots_18 : decode cX0_addSlots 18 = .ok (.aload_n 0, 1) := by decide +kernel
theorem dX0_addSlots_19 : decode cX0_addSlots 19 = .ok (.iload 5, 2) := by decide +kernel
theorem dX0_addSlots_21 : decode cX0_addSlots 21 = .ok (.iload_n 1, 1) := by decide +kernel
theorem dX0_addSlots_22 : decode cX0_addSlots 22 = .ok (.invokevirtual 124, 3) := by decide +kernel
theorem dX0_addSlots_25 : decode cX0_addSlots 25 = .ok (.ifCond .eq 56, 3) := by decide +kernel
theorem dX0_addSlots_28 : decode cX0_addSlots 28 = .ok (.aload_n 0, 1) := by decide +kernel
theorem dX0_addSlots_29 : decode cX0_addSlots 29 = .ok (.getfield 45, 3) := by decide +kernel
theorem dX0_addSlots_32 : decode cX0_addSlots 32 = .ok (.aload_n 0, 1) := by decide +kernel
theorem dX0_addSlots_33 : decode cX0_addSlots 33 = .ok (.getfield 32, 3) := by decide +kernel
theorem dX0_addSlots_36 : decode cX0_addSlots 36 = .ok (.iload 5, 2) := by decide +kernel
theorem dX0_addSlots_38 : decode cX0_addSlots 38 = .ok (.iaload, 1) := by decide +kernel
theorem dX0_addSlots_39 : decode cX0_addSlots 39 = .ok (.iload_n 2, 1) := by decide +kernel
theorem dX0_addSlots_40 : decode cX0_addSlots 40 = .ok (.invokevirtual 132, 3) := by decide +kernel
theorem dX0_addSlots_43 : decode cX0_addSlots 43 = .ok (.ifCond .eq 38, 3) := by decide +kernel
theorem dX0_addSlots_46 : decode cX0_addSlots 46 = .ok (.aload_n 3, 1) := by decide +kernel
theorem dX0_addSlots_47 : decode cX0_addSlots 47 = .ok (.aload_n 0, 1) := by decide +kernel
theorem dX0_addSlots_48 : decode cX0_addSlots 48 = .ok (.getfield 49, 3) := by decide +kernel
theorem dX0_addSlots_51 : decode cX0_addSlots 51 = .ok (.getfield 63, 3) := by decide +kernel
theorem dX0_addSlots_54 : decode cX0_addSlots 54 = .ok (.iload 5, 2) := by decide +kernel
theorem dX0_addSlots_56 : decode cX0_addSlots 56 = .ok (.iaload, 1) := by decide +kernel
theorem dX0_addSlots_57 : decode cX0_addSlots 57 = .ok (.bipush 30, 2) := by decide +kernel
theorem dX0_addSlots_59 : decode cX0_addSlots 59 = .ok (.irem, 1) := by decide +kernel
theorem dX0_addSlots_60 : decode cX0_addSlots 60 = .ok (.bipush 10, 2) := by decide +kernel
theorem dX0_addSlots_62 : decode cX0_addSlots 62 = .ok (.imul, 1) := by decide +kernel
theorem dX0_addSlots_63 : decode cX0_addSlots 63 = .ok (.aload_n 0, 1) := by decide +kernel
theorem dX0_addSlots_64 : decode cX0_addSlots 64 = .ok (.getfield 49, 3) := by decide +kernel
theorem dX0_addSlots_67 : decode cX0_addSlots 67 = .ok (.iload 5, 2) := by decide +kernel
theorem dX0_addSlots_69 : decode cX0_addSlots 69 = .ok (.invokevirtual 135, 3) := by decide +kernel
theorem dX0_addSlots_72 : decode cX0_addSlots 72 = .ok (.iadd, 1) := by decide +kernel
theorem dX0_addSlots_73 : decode cX0_addSlots 73 = .ok (.dup2, 1) := by decide +kernel
theorem dX0_addSlots_74 : decode cX0_addSlots 74 = .ok (.iaload, 1) := by decide +kernel
theorem dX0_addSlots_75 : decode cX0_addSlots 75 = .ok (.iconst 1, 1) := by decide +kernel
theorem dX0_addSlots_76 : decode cX0_addSlots 76 = .ok (.iadd, 1) := by decide +kernel
theorem dX0_addSlots_77 : decode cX0_addSlots 77 = .ok (.iastore, 1) := by decide +kernel
theorem dX0_addSlots_78 : decode cX0_addSlots 78 = .ok (.iinc 4 1, 3) := by decide +kernel
theorem dX0_addSlots_81 : decode cX0_addSlots 81 = .ok (.iinc 5 1, 3) := by decide +kernel
theorem dX0_addSlots_84 : decode cX0_addSlots 84 = .ok (.goto (-78), 3) := by decide +kernel
theorem dX0_addSlots_87 : decode cX0_addSlots 87 = .ok (.iload 4, 2) := by decide +kernel
theorem dX0_addSlots_89 : decode cX0_addSlots 89 = .ok (.ireturn, 1) := by decide +kernel
theorem dX1_init_0 : decode cX1_init 0 = .ok (.aload_n 0, 1) := by decide +kernel
theorem dX1_init_1 : decode cX1_init 1 = .ok (.invokespecial 3, 3) := by decide +kernel
theorem dX1_init_4 : decode cX1_init 4 = .ok (.aload_n 0, 1) := by decide +kernel
theorem dX1_init_5 : decode cX1_init 5 = .ok (.bipush 20, 2) := by decide +kernel
theorem dX1_init_7 : decode cX1_init 7 = .ok (.newarray .int, 2) := by decide +kernel
theorem dX1_init_9 : decode cX1_init 9 = .ok (.putfield 9, 3) := by decide +kernel
theorem dX1_init_12 : decode cX1_init 12 = .ok (.aload_n 0, 1) := by decide +kernel
theorem dX1_init_13 : decode cX1_init 13 = .ok (.bipush 20, 2) := by decide +kernel
theorem dX1_init_15 : decode cX1_init 15 = .ok (.newarray .int, 2) := by decide +kernel
theorem dX1_init_17 : decode cX1_init 17 = .ok (.putfield 15, 3) := by decide +kernel
theorem dX1_init_20 : decode cX1_init 20 = .ok (.aload_n 0, 1) := by decide +kernel
theorem dX1_init_21 : decode cX1_init 21 = .ok (.bipush 20, 2) := by decide +kernel
theorem dX1_init_23 : decode cX1_init 23 = .ok (.newarray .int, 2) := by decide +kernel
theorem dX1_init_25 : decode cX1_init 25 = .ok (.putfield 18, 3) := by decide +kernel
theorem dX1_init_28 : decode cX1_init 28 = .ok (.aload_n 0, 1) := by decide +kernel
theorem dX1_init_29 : decode cX1_init 29 = .ok (.bipush 20, 2) := by decide +kernel
theorem dX1_init_31 : decode cX1_init 31 = .ok (.newarray .boolean, 2) := by decide +kernel
theorem dX1_init_33 : decode cX1_init 33 = .ok (.putfield 21, 3) := by decide +kernel
theorem dX1_init_36 : decode cX1_init 36 = .ok (.aload_n 0, 1) := by decide +kernel
theorem dX1_init_37 : decode cX1_init 37 = .ok (.getfield 9, 3) := by decide +kernel
theorem dX1_init_40 : decode cX1_init 40 = .ok (.iconst 0, 1) := by decide +kernel
theorem dX1_init_41 : decode cX1_init 41 = .ok (.iconst 1, 1) := by decide +kernel
theorem dX1_init_42 : decode cX1_init 42 = .ok (.iastore, 1) := by decide +kernel
theorem dX1_init_43 : decode cX1_init 43 = .ok (.aload_n 0, 1) := by decide +kernel
theorem dX1_init_44 : decode cX1_init 44 = .ok (.getfield 15, 3) := by decide +kernel
theorem dX1_init_47 : decode cX1_init 47 = .ok (.iconst 0, 1) := by decide +kernel
theorem dX1_init_48 : decode cX1_init 48 = .ok (.sipush 400, 3) := by decide +kernel
theorem dX1_init_51 : decode cX1_init 51 = .ok (.iastore, 1) := by decide +kernel
theorem dX1_init_52 : decode cX1_init 52 = .ok (.aload_n 0, 1) := by decide +kernel
theorem dX1_init_53 : decode cX1_init 53 = .ok (.getfield 18, 3) := by decide +kernel
theorem dX1_init_56 : decode cX1_init 56 = .ok (.iconst 0, 1) := by decide +kernel
theorem dX1_init_57 : decode cX1_init 57 = .ok (.iconst 1, 1) := by decide +kernel
theorem dX1_init_58 : decode cX1_init 58 = .ok (.iastore, 1) := by decide +kernel
theorem dX1_init_59 : decode cX1_init 59 = .ok (.aload_n 0, 1) := by decide +kernel
theorem dX1_init_60 : decode cX1_init 60 = .ok (.getfield 21, 3) := by decide +kernel
theorem dX1_init_63 : decode cX1_init 63 = .ok (.iconst 0, 1) := by decide +kernel
theorem dX1_init_64 : decode cX1_init 64 = .ok (.iconst 1, 1) := by decide +kernel
theorem dX1_init_65 : decode cX1_init 65 = .ok (.bastore, 1) := by decide +kernel
theorem dX1_init_66 : decode cX1_init 66 = .ok (.aload_n 0, 1) := by decide +kernel
theorem dX1_init_67 : decode cX1_init 67 = .ok (.iconst 1, 1) := by decide +kernel
theorem dX1_init_68 : decode cX1_init 68 = .ok (.putfield 25, 3) := by decide +kernel
theorem dX1_init_71 : decode cX1_init 71 = .ok (.return_, 1) := by decide +kernel
theorem dX1_has_0 : decode cX1_has 0 = .ok (.iload_n 1, 1) := by decide +kernel
theorem dX1_has_1 : decode cX1_has 1 = .ok (.ifCond .lt 15, 3) := by decide +kernel
theorem dX1_has_4 : decode cX1_has 4 = .ok (.iload_n 1, 1) := by decide +kernel
theorem dX1_has_5 : decode cX1_has 5 = .ok (.aload_n 0, 1) := by decide +kernel
theorem dX1_has_6 : decode cX1_has 6 = .ok (.getfield 25, 3) := by decide +kernel
theorem dX1_has_9 : decode cX1_has 9 = .ok (.if_icmp .ge 7, 3) := by decide +kernel
theorem dX1_has_12 : decode cX1_has 12 = .ok (.iconst 1, 1) := by decide +kernel
theorem dX1_has_13 : decode cX1_has 13 = .ok (.goto 4, 3) := by decide +kernel
theorem dX1_has_16 : decode cX1_has 16 = .ok (.iconst 0, 1) := by decide +kernel
theorem dX1_has_17 : decode cX1_has 17 = .ok (.ireturn, 1) := by decide +kernel
theorem dX1_add_0 : decode cX1_add 0 = .ok (.aload_n 0, 1) := by decide +kernel
theorem dX1_add_1 : decode cX1_add 1 = .ok (.iload_n 1, 1) := by decide +kernel
theorem dX1_add_2 : decode cX1_add 2 = .ok (.invokevirtual 29, 3) := by decide +kernel
theorem dX1_add_5 : decode cX1_add 5 = .ok (.ifCond .eq 12, 3) := by decide +kernel
theorem dX1_add_8 : decode cX1_add 8 = .ok (.aload_n 0, 1) := by decide +kernel
theorem dX1_add_9 : decode cX1_add 9 = .ok (.getfield 25, 3) := by decide +kernel
theorem dX1_add_12 : decode cX1_add 12 = .ok (.bipush 20, 2) := by decide +kernel
theorem dX1_add_14 : decode cX1_add 14 = .ok (.if_icmp .lt 5, 3) := by decide +kernel
theorem dX1_add_17 : decode cX1_add 17 = .ok (.iconst (-1), 1) := by decide +kernel
theorem dX1_add_18 : decode cX1_add 18 = .ok (.ireturn, 1) := by decide +kernel
theorem dX1_add_19 : decode cX1_add 19 = .ok (.iload_n 2, 1) := by decide +kernel
theorem dX1_add_20 : decode cX1_add 20 = .ok (.iconst 1, 1) := by decide +kernel
theorem dX1_add_21 : decode cX1_add 21 = .ok (.if_icmp .lt 15, 3) := by decide +kernel
theorem dX1_add_24 : decode cX1_add 24 = .ok (.iload_n 2, 1) := by decide +kernel
theorem dX1_add_25 : decode cX1_add 25 = .ok (.iload_n 3, 1) := by decide +kernel
theorem dX1_add_26 : decode cX1_add 26 = .ok (.if_icmp .gt 10, 3) := by decide +kernel
theorem dX1_add_29 : decode cX1_add 29 = .ok (.iload_n 3, 1) := by decide +kernel
theorem dX1_add_30 : decode cX1_add 30 = .ok (.sipush 400, 3) := by decide +kernel
theorem dX1_add_33 : decode cX1_add 33 = .ok (.if_icmp .le 5, 3) := by decide +kernel
theorem dX1_add_36 : decode cX1_add 36 = .ok (.iconst (-1), 1) := by decide +kernel
theorem dX1_add_37 : decode cX1_add 37 = .ok (.ireturn, 1) := by decide +kernel
theorem dX1_add_38 : decode cX1_add 38 = .ok (.aload_n 0, 1) := by decide +kernel
theorem dX1_add_39 : decode cX1_add 39 = .ok (.getfield 9, 3) := by decide +kernel
theorem dX1_add_42 : decode cX1_add 42 = .ok (.aload_n 0, 1) := by decide +kernel
theorem dX1_add_43 : decode cX1_add 43 = .ok (.getfield 25, 3) := by decide +kernel
theorem dX1_add_46 : decode cX1_add 46 = .ok (.iload_n 2, 1) := by decide +kernel
theorem dX1_add_47 : decode cX1_add 47 = .ok (.iastore, 1) := by decide +kernel
theorem dX1_add_48 : decode cX1_add 48 = .ok (.aload_n 0, 1) := by decide +kernel
theorem dX1_add_49 : decode cX1_add 49 = .ok (.getfield 15, 3) := by decide +kernel
theorem dX1_add_52 : decode cX1_add 52 = .ok (.aload_n 0, 1) := by decide +kernel
theorem dX1_add_53 : decode cX1_add 53 = .ok (.getfield 25, 3) := by decide +kernel
theorem dX1_add_56 : decode cX1_add 56 = .ok (.iload_n 3, 1) := by decide +kernel
theorem dX1_add_57 : decode cX1_add 57 = .ok (.iastore, 1) := by decide +kernel
theorem dX1_add_58 : decode cX1_add 58 = .ok (.aload_n 0, 1) := by decide +kernel
theorem dX1_add_59 : decode cX1_add 59 = .ok (.getfield 18, 3) := by decide +kernel
theorem dX1_add_62 : decode cX1_add 62 = .ok (.aload_n 0, 1) := by decide +kernel
theorem dX1_add_63 : decode cX1_add 63 = .ok (.getfield 25, 3) := by decide +kernel
theorem dX1_add_66 : decode cX1_add 66 = .ok (.aload_n 0, 1) := by decide +kernel
theorem dX1_add_67 : decode cX1_add 67 = .ok (.getfield 18, 3) := by decide +kernel
theorem dX1_add_70 : decode cX1_add 70 = .ok (.iload_n 1, 1) := by decide +kernel
theorem dX1_add_71 : decode cX1_add 71 = .ok (.iaload, 1) := by decide +kernel
theorem dX1_add_72 : decode cX1_add 72 = .ok (.iconst 1, 1) := by decide +kernel
theorem dX1_add_73 : decode cX1_add 73 = .ok (.aload_n 0, 1) := by decide +kernel
theorem dX1_add_74 : decode cX1_add 74 = .ok (.getfield 25, 3) := by decide +kernel
theorem dX1_add_77 : decode cX1_add 77 = .ok (.ishl, 1) := by decide +kernel
theorem dX1_add_78 : decode cX1_add 78 = .ok (.ior, 1) := by decide +kernel
theorem dX1_add_79 : decode cX1_add 79 = .ok (.iastore, 1) := by decide +kernel
theorem dX1_add_80 : decode cX1_add 80 = .ok (.aload_n 0, 1) := by decide +kernel
theorem dX1_add_81 : decode cX1_add 81 = .ok (.getfield 21, 3) := by decide +kernel
theorem dX1_add_84 : decode cX1_add 84 = .ok (.aload_n 0, 1) := by decide +kernel
theorem dX1_add_85 : decode cX1_add 85 = .ok (.getfield 25, 3) := by decide +kernel
theorem dX1_add_88 : decode cX1_add 88 = .ok (.iconst 1, 1) := by decide +kernel
theorem dX1_add_89 : decode cX1_add 89 = .ok (.bastore, 1) := by decide +kernel
theorem dX1_add_90 : decode cX1_add 90 = .ok (.aload_n 0, 1) := by decide +kernel
theorem dX1_add_91 : decode cX1_add 91 = .ok (.getfield 21, 3) := by decide +kernel
theorem dX1_add_94 : decode cX1_add 94 = .ok (.iload_n 1, 1) := by decide +kernel
theorem dX1_add_95 : decode cX1_add 95 = .ok (.iconst 0, 1) := by decide +kernel
theorem dX1_add_96 : decode cX1_add 96 = .ok (.bastore, 1) := by decide +kernel
theorem dX1_add_97 : decode cX1_add 97 = .ok (.aload_n 0, 1) := by decide +kernel
theorem dX1_add_98 : decode cX1_add 98 = .ok (.dup, 1) := by decide +kernel
theorem dX1_add_99 : decode cX1_add 99 = .ok (.getfield 25, 3) := by decide +kernel
theorem dX1_add_102 : decode cX1_add 102 = .ok (.iconst 1, 1) := by decide +kernel
theorem dX1_add_103 : decode cX1_add 103 = .ok (.iadd, 1) := by decide +kernel
theorem dX1_add_104 : decode cX1_add 104 = .ok (.putfield 25, 3) := by decide +kernel
theorem dX1_add_107 : decode cX1_add 107 = .ok (.aload_n 0, 1) := by decide +kernel
theorem dX1_add_108 : decode cX1_add 108 = .ok (.getfield 25, 3) := by decide +kernel
theorem dX1_add_111 : decode cX1_add 111 = .ok (.iconst 1, 1) := by decide +kernel
theorem dX1_add_112 : decode cX1_add 112 = .ok (.isub, 1) := by decide +kernel
theorem dX1_add_113 : decode cX1_add 113 = .ok (.ireturn, 1) := by decide +kernel
theorem dX1_isUnder_0 : decode cX1_isUnder 0 = .ok (.aload_n 0, 1) := by decide +kernel
theorem dX1_isUnder_1 : decode cX1_isUnder 1 = .ok (.getfield 18, 3) := by decide +kernel
theorem dX1_isUnder_4 : decode cX1_isUnder 4 = .ok (.iload_n 1, 1) := by decide +kernel
theorem dX1_isUnder_5 : decode cX1_isUnder 5 = .ok (.iaload, 1) := by decide +kernel
theorem dX1_isUnder_6 : decode cX1_isUnder 6 = .ok (.iconst 1, 1) := by decide +kernel
theorem dX1_isUnder_7 : decode cX1_isUnder 7 = .ok (.iload_n 2, 1) := by decide +kernel
theorem dX1_isUnder_8 : decode cX1_isUnder 8 = .ok (.ishl, 1) := by decide +kernel
theorem dX1_isUnder_9 : decode cX1_isUnder 9 = .ok (.iand, 1) := by decide +kernel
theorem dX1_isUnder_10 : decode cX1_isUnder 10 = .ok (.ifCond .eq 7, 3) := by decide +kernel
theorem dX1_isUnder_13 : decode cX1_isUnder 13 = .ok (.iconst 1, 1) := by decide +kernel
theorem dX1_isUnder_14 : decode cX1_isUnder 14 = .ok (.goto 4, 3) := by decide +kernel
theorem dX1_isUnder_17 : decode cX1_isUnder 17 = .ok (.iconst 0, 1) := by decide +kernel
theorem dX1_isUnder_18 : decode cX1_isUnder 18 = .ok (.ireturn, 1) := by decide +kernel
theorem dX1_isLeafUnder_0 : decode cX1_isLeafUnder 0 = .ok (.aload_n 0, 1) := by decide +kernel
theorem dX1_isLeafUnder_1 : decode cX1_isLeafUnder 1 = .ok (.getfield 21, 3) := by decide +kernel
theorem dX1_isLeafUnder_4 : decode cX1_isLeafUnder 4 = .ok (.iload_n 1, 1) := by decide +kernel
theorem dX1_isLeafUnder_5 : decode cX1_isLeafUnder 5 = .ok (.baload, 1) := by decide +kernel
theorem dX1_isLeafUnder_6 : decode cX1_isLeafUnder 6 = .ok (.ifCond .eq 16, 3) := by decide +kernel
theorem dX1_isLeafUnder_9 : decode cX1_isLeafUnder 9 = .ok (.aload_n 0, 1) := by decide +kernel
theorem dX1_isLeafUnder_10 : decode cX1_isLeafUnder 10 = .ok (.iload_n 1, 1) := by decide +kernel
theorem dX1_isLeafUnder_11 : decode cX1_isLeafUnder 11 = .ok (.iload_n 2, 1) := by decide +kernel
theorem dX1_isLeafUnder_12 : decode cX1_isLeafUnder 12 = .ok (.invokevirtual 33, 3) := by decide +kernel
theorem dX1_isLeafUnder_15 : decode cX1_isLeafUnder 15 = .ok (.ifCond .eq 7, 3) := by decide +kernel
theorem dX1_isLeafUnder_18 : decode cX1_isLeafUnder 18 = .ok (.iconst 1, 1) := by decide +kernel
theorem dX1_isLeafUnder_19 : decode cX1_isLeafUnder 19 = .ok (.goto 4, 3) := by decide +kernel
theorem dX1_isLeafUnder_22 : decode cX1_isLeafUnder 22 = .ok (.iconst 0, 1) := by decide +kernel
theorem dX1_isLeafUnder_23 : decode cX1_isLeafUnder 23 = .ok (.ireturn, 1) := by decide +kernel
theorem dX1_depth_0 : decode cX1_depth 0 = .ok (.aload_n 0, 1) := by decide +kernel
theorem dX1_depth_1 : decode cX1_depth 1 = .ok (.getfield 18, 3) := by decide +kernel
theorem dX1_depth_4 : decode cX1_depth 4 = .ok (.iload_n 1, 1) := by decide +kernel
theorem dX1_depth_5 : decode cX1_depth 5 = .ok (.iaload, 1) := by decide +kernel
theorem dX1_depth_6 : decode cX1_depth 6 = .ok (.invokestatic 37, 3) := by decide +kernel
theorem dX1_depth_9 : decode cX1_depth 9 = .ok (.iconst 1, 1) := by decide +kernel
theorem dX1_depth_10 : decode cX1_depth 10 = .ok (.isub, 1) := by decide +kernel
theorem dX1_depth_11 : decode cX1_depth 11 = .ok (.ireturn, 1) := by decide +kernel
theorem dX1_leaves_0 : decode cX1_leaves 0 = .ok (.iconst 0, 1) := by decide +kernel
theorem dX1_leaves_1 : decode cX1_leaves 1 = .ok (.istore_n 1, 1) := by decide +kernel
theorem dX1_leaves_2 : decode cX1_leaves 2 = .ok (.iconst 0, 1) := by decide +kernel
theorem dX1_leaves_3 : decode cX1_leaves 3 = .ok (.istore_n 2, 1) := by decide +kernel
theorem dX1_leaves_4 : decode cX1_leaves 4 = .ok (.iload_n 2, 1) := by decide +kernel
theorem dX1_leaves_5 : decode cX1_leaves 5 = .ok (.aload_n 0, 1) := by decide +kernel
theorem dX1_leaves_6 : decode cX1_leaves 6 = .ok (.getfield 25, 3) := by decide +kernel
theorem dX1_leaves_9 : decode cX1_leaves 9 = .ok (.if_icmp .ge 21, 3) := by decide +kernel
theorem dX1_leaves_12 : decode cX1_leaves 12 = .ok (.aload_n 0, 1) := by decide +kernel
theorem dX1_leaves_13 : decode cX1_leaves 13 = .ok (.getfield 21, 3) := by decide +kernel
theorem dX1_leaves_16 : decode cX1_leaves 16 = .ok (.iload_n 2, 1) := by decide +kernel
theorem dX1_leaves_17 : decode cX1_leaves 17 = .ok (.baload, 1) := by decide +kernel
theorem dX1_leaves_18 : decode cX1_leaves 18 = .ok (.ifCond .eq 6, 3) := by decide +kernel
theorem dX1_leaves_21 : decode cX1_leaves 21 = .ok (.iinc 1 1, 3) := by decide +kernel
theorem dX1_leaves_24 : decode cX1_leaves 24 = .ok (.iinc 2 1, 3) := by decide +kernel
theorem dX1_leaves_27 : decode cX1_leaves 27 = .ok (.goto (-23), 3) := by decide +kernel
theorem dX1_leaves_30 : decode cX1_leaves 30 = .ok (.iload_n 1, 1) := by decide +kernel
theorem dX1_leaves_31 : decode cX1_leaves 31 = .ok (.ireturn, 1) := by decide +kernel
theorem dX1_deeperOf_0 : decode cX1_deeperOf 0 = .ok (.aload_n 0, 1) := by decide +kernel
theorem dX1_deeperOf_1 : decode cX1_deeperOf 1 = .ok (.iload_n 1, 1) := by decide +kernel
theorem dX1_deeperOf_2 : decode cX1_deeperOf 2 = .ok (.iload_n 2, 1) := by decide +kernel
theorem dX1_deeperOf_3 : decode cX1_deeperOf 3 = .ok (.invokevirtual 33, 3) := by decide +kernel
theorem dX1_deeperOf_6 : decode cX1_deeperOf 6 = .ok (.ifCond .eq 5, 3) := by decide +kernel
theorem dX1_deeperOf_9 : decode cX1_deeperOf 9 = .ok (.iload_n 1, 1) := by decide +kernel
theorem dX1_deeperOf_10 : decode cX1_deeperOf 10 = .ok (.ireturn, 1) := by decide +kernel
theorem dX1_deeperOf_11 : decode cX1_deeperOf 11 = .ok (.aload_n 0, 1) := by decide +kernel
theorem dX1_deeperOf_12 : decode cX1_deeperOf 12 = .ok (.iload_n 2, 1) := by decide +kernel
theorem dX1_deeperOf_13 : decode cX1_deeperOf 13 = .ok (.iload_n 1, 1) := by decide +kernel
theorem dX1_deeperOf_14 : decode cX1_deeperOf 14 = .ok (.invokevirtual 33, 3) := by decide +kernel
theorem dX1_deeperOf_17 : decode cX1_deeperOf 17 = .ok (.ifCond .eq 7, 3) := by decide +kernel
theorem dX1_deeperOf_20 : decode cX1_deeperOf 20 = .ok (.iload_n 2, 1) := by decide +kernel
theorem dX1_deeperOf_21 : decode cX1_deeperOf 21 = .ok (.goto 4, 3) := by decide +kernel
theorem dX1_deeperOf_24 : decode cX1_deeperOf 24 = .ok (.iconst (-1), 1) := by decide +kernel
theorem dX1_deeperOf_25 : decode cX1_deeperOf 25 = .ok (.ireturn, 1) := by decide +kernel
theorem dX1_canFly_0 : decode cX1_canFly 0 = .ok (.iload_n 2, 1) := by decide +kernel
theorem dX1_canFly_1 : decode cX1_canFly 1 = .ok (.bipush 60, 2) := by decide +kernel
theorem dX1_canFly_3 : decode cX1_canFly 3 = .ok (.imul, 1) := by decide +kernel
theorem dX1_canFly_4 : decode cX1_canFly 4 = .ok (.istore 4, 2) := by decide +kernel
theorem dX1_canFly_6 : decode cX1_canFly 6 = .ok (.iload_n 3, 1) := by decide +kernel
theorem dX1_canFly_7 : decode cX1_canFly 7 = .ok (.iconst 1, 1) := by decide +kernel
theorem dX1_canFly_8 : decode cX1_canFly 8 = .ok (.if_icmp .lt 33, 3) := by decide +kernel
theorem dX1_canFly_11 : decode cX1_canFly 11 = .ok (.iload 4, 2) := by decide +kernel
theorem dX1_canFly_13 : decode cX1_canFly 13 = .ok (.aload_n 0, 1) := by decide +kernel
theorem dX1_canFly_14 : decode cX1_canFly 14 = .ok (.getfield 9, 3) := by decide +kernel
theorem dX1_canFly_17 : decode cX1_canFly 17 = .ok (.iload_n 1, 1) := by decide +kernel
theorem dX1_canFly_18 : decode cX1_canFly 18 = .ok (.iaload, 1) := by decide +kernel
theorem dX1_canFly_19 : decode cX1_canFly 19 = .ok (.iload_n 3, 1) := by decide +kernel
theorem dX1_canFly_20 : decode cX1_canFly 20 = .ok (.imul, 1) := by decide +kernel
theorem dX1_canFly_21 : decode cX1_canFly 21 = .ok (.if_icmp .lt 20, 3) := by decide +kernel
theorem dX1_canFly_24 : decode cX1_canFly 24 = .ok (.iload 4, 2) := by decide +kernel
theorem dX1_canFly_26 : decode cX1_canFly 26 = .ok (.aload_n 0, 1) := by decide +kernel
theorem dX1_canFly_27 : decode cX1_canFly 27 = .ok (.getfield 15, 3) := by decide +kernel
theorem dX1_canFly_30 : decode cX1_canFly 30 = .ok (.iload_n 1, 1) := by decide +kernel
theorem dX1_canFly_31 : decode cX1_canFly 31 = .ok (.iaload, 1) := by decide +kernel
theorem dX1_canFly_32 : decode cX1_canFly 32 = .ok (.iload_n 3, 1) := by decide +kernel
theorem dX1_canFly_33 : decode cX1_canFly 33 = .ok (.imul, 1) := by decide +kernel
theorem dX1_canFly_34 : decode cX1_canFly 34 = .ok (.if_icmp .gt 7, 3) := by decide +kernel
theorem dX1_canFly_37 : decode cX1_canFly 37 = .ok (.iconst 1, 1) := by decide +kernel
theorem dX1_canFly_38 : decode cX1_canFly 38 = .ok (.goto 4, 3) := by decide +kernel
theorem dX1_canFly_41 : decode cX1_canFly 41 = .ok (.iconst 0, 1) := by decide +kernel
theorem dX1_canFly_42 : decode cX1_canFly 42 = .ok (.ireturn, 1) := by decide +kernel
theorem dX2_init_0 : decode cX2_init 0 = .ok (.aload_n 0, 1) := by decide +kernel
theorem dX2_init_1 : decode cX2_init 1 = .ok (.invokespecial 3, 3) := by decide +kernel
theorem dX2_init_4 : decode cX2_init 4 = .ok (.aload_n 0, 1) := by decide +kernel
theorem dX2_init_5 : decode cX2_init 5 = .ok (.sipush 300, 3) := by decide +kernel
theorem dX2_init_8 : decode cX2_init 8 = .ok (.newarray .int, 2) := by decide +kernel
theorem dX2_init_10 : decode cX2_init 10 = .ok (.putfield 9, 3) := by decide +kernel
theorem dX2_init_13 : decode cX2_init 13 = .ok (.aload_n 0, 1) := by decide +kernel
theorem dX2_init_14 : decode cX2_init 14 = .ok (.sipush 300, 3) := by decide +kernel
theorem dX2_init_17 : decode cX2_init 17 = .ok (.newarray .int, 2) := by decide +kernel
theorem dX2_init_19 : decode cX2_init 19 = .ok (.putfield 15, 3) := by decide +kernel
theorem dX2_init_22 : decode cX2_init 22 = .ok (.aload_n 0, 1) := by decide +kernel
theorem dX2_init_23 : decode cX2_init 23 = .ok (.sipush 300, 3) := by decide +kernel
theorem dX2_init_26 : decode cX2_init 26 = .ok (.newarray .int, 2) := by decide +kernel
theorem dX2_init_28 : decode cX2_init 28 = .ok (.putfield 18, 3) := by decide +kernel
theorem dX2_init_31 : decode cX2_init 31 = .ok (.aload_n 0, 1) := by decide +kernel
theorem dX2_init_32 : decode cX2_init 32 = .ok (.sipush 300, 3) := by decide +kernel
theorem dX2_init_35 : decode cX2_init 35 = .ok (.newarray .int, 2) := by decide +kernel
theorem dX2_init_37 : decode cX2_init 37 = .ok (.putfield 21, 3) := by decide +kernel
theorem dX2_init_40 : decode cX2_init 40 = .ok (.aload_n 0, 1) := by decide +kernel
theorem dX2_init_41 : decode cX2_init 41 = .ok (.sipush 300, 3) := by decide +kernel
theorem dX2_init_44 : decode cX2_init 44 = .ok (.newarray .int, 2) := by decide +kernel
theorem dX2_init_46 : decode cX2_init 46 = .ok (.putfield 24, 3) := by decide +kernel
theorem dX2_init_49 : decode cX2_init 49 = .ok (.aload_n 0, 1) := by decide +kernel
theorem dX2_init_50 : decode cX2_init 50 = .ok (.iconst 0, 1) := by decide +kernel
theorem dX2_init_51 : decode cX2_init 51 = .ok (.putfield 27, 3) := by decide +kernel
theorem dX2_init_54 : decode cX2_init 54 = .ok (.aload_n 0, 1) := by decide +kernel
theorem dX2_init_55 : decode cX2_init 55 = .ok (.iconst 0, 1) := by decide +kernel
theorem dX2_init_56 : decode cX2_init 56 = .ok (.putfield 31, 3) := by decide +kernel
theorem dX2_init_59 : decode cX2_init 59 = .ok (.return_, 1) := by decide +kernel
theorem dX2_has_0 : decode cX2_has 0 = .ok (.iload_n 1, 1) := by decide +kernel
theorem dX2_has_1 : decode cX2_has 1 = .ok (.ifCond .lt 15, 3) := by decide +kernel
theorem dX2_has_4 : decode cX2_has 4 = .ok (.iload_n 1, 1) := by decide +kernel
theorem dX2_has_5 : decode cX2_has 5 = .ok (.aload_n 0, 1) := by decide +kernel
theorem dX2_has_6 : decode cX2_has 6 = .ok (.getfield 27, 3) := by decide +kernel
theorem dX2_has_9 : decode cX2_has 9 = .ok (.if_icmp .ge 7, 3) := by decide +kernel
theorem dX2_has_12 : decode cX2_has 12 = .ok (.iconst 1, 1) := by decide +kernel
theorem dX2_has_13 : decode cX2_has 13 = .ok (.goto 4, 3) := by decide +kernel
theorem dX2_has_16 : decode cX2_has 16 = .ok (.iconst 0, 1) := by decide +kernel
theorem dX2_has_17 : decode cX2_has 17 = .ok (.ireturn, 1) := by decide +kernel
theorem dX2_shows_0 : decode cX2_shows 0 = .ok (.iload_n 1, 1) := by decide +kernel
theorem dX2_shows_1 : decode cX2_shows 1 = .ok (.ifCond .lt 15, 3) := by decide +kernel
theorem dX2_shows_4 : decode cX2_shows 4 = .ok (.iload_n 1, 1) := by decide +kernel
theorem dX2_shows_5 : decode cX2_shows 5 = .ok (.aload_n 0, 1) := by decide +kernel
theorem dX2_shows_6 : decode cX2_shows 6 = .ok (.getfield 31, 3) := by decide +kernel
theorem dX2_shows_9 : decode cX2_shows 9 = .ok (.if_icmp .ge 7, 3) := by decide +kernel
theorem dX2_shows_12 : decode cX2_shows 12 = .ok (.iconst 1, 1) := by decide +kernel
theorem dX2_shows_13 : decode cX2_shows 13 = .ok (.goto 4, 3) := by decide +kernel
theorem dX2_shows_16 : decode cX2_shows 16 = .ok (.iconst 0, 1) := by decide +kernel
theorem dX2_shows_17 : decode cX2_shows 17 = .ok (.ireturn, 1) := by decide +kernel
theorem dX2_add_0 : decode cX2_add 0 = .ok (.aload_n 0, 1) := by decide +kernel
theorem dX2_add_1 : decode cX2_add 1 = .ok (.getfield 27, 3) := by decide +kernel
theorem dX2_add_4 : decode cX2_add 4 = .ok (.sipush 300, 3) := by decide +kernel
theorem dX2_add_7 : decode cX2_add 7 = .ok (.if_icmp .lt 5, 3) := by decide +kernel
theorem dX2_add_10 : decode cX2_add 10 = .ok (.iconst (-1), 1) := by decide +kernel
theorem dX2_add_11 : decode cX2_add 11 = .ok (.ireturn, 1) := by decide +kernel
theorem dX2_add_12 : decode cX2_add 12 = .ok (.aload_n 0, 1) := by decide +kernel
theorem dX2_add_13 : decode cX2_add 13 = .ok (.getfield 9, 3) := by decide +kernel
theorem dX2_add_16 : decode cX2_add 16 = .ok (.aload_n 0, 1) := by decide +kernel
theorem dX2_add_17 : decode cX2_add 17 = .ok (.getfield 27, 3) := by decide +kernel
theorem dX2_add_20 : decode cX2_add 20 = .ok (.iload_n 1, 1) := by decide +kernel
theorem dX2_add_21 : decode cX2_add 21 = .ok (.iastore, 1) := by decide +kernel
theorem dX2_add_22 : decode cX2_add 22 = .ok (.aload_n 0, 1) := by decide +kernel
theorem dX2_add_23 : decode cX2_add 23 = .ok (.getfield 15, 3) := by decide +kernel
theorem dX2_add_26 : decode cX2_add 26 = .ok (.aload_n 0, 1) := by decide +kernel
theorem dX2_add_27 : decode cX2_add 27 = .ok (.getfield 27, 3) := by decide +kernel
theorem dX2_add_30 : decode cX2_add 30 = .ok (.iload_n 2, 1) := by decide +kernel
theorem dX2_add_31 : decode cX2_add 31 = .ok (.iastore, 1) := by decide +kernel
theorem dX2_add_32 : decode cX2_add 32 = .ok (.aload_n 0, 1) := by decide +kernel
theorem dX2_add_33 : decode cX2_add 33 = .ok (.getfield 18, 3) := by decide +kernel
theorem dX2_add_36 : decode cX2_add 36 = .ok (.aload_n 0, 1) := by decide +kernel
theorem dX2_add_37 : decode cX2_add 37 = .ok (.getfield 27, 3) := by decide +kernel
theorem dX2_add_40 : decode cX2_add 40 = .ok (.iload_n 3, 1) := by decide +kernel
theorem dX2_add_41 : decode cX2_add 41 = .ok (.iastore, 1) := by decide +kernel
theorem dX2_add_42 : decode cX2_add 42 = .ok (.aload_n 0, 1) := by decide +kernel
theorem dX2_add_43 : decode cX2_add 43 = .ok (.getfield 21, 3) := by decide +kernel
theorem dX2_add_46 : decode cX2_add 46 = .ok (.aload_n 0, 1) := by decide +kernel
theorem dX2_add_47 : decode cX2_add 47 = .ok (.getfield 27, 3) := by decide +kernel
theorem dX2_add_50 : decode cX2_add 50 = .ok (.iload 4, 2) := by decide +kernel
theorem dX2_add_52 : decode cX2_add 52 = .ok (.iastore, 1) := by decide +kernel
theorem dX2_add_53 : decode cX2_add 53 = .ok (.aload_n 0, 1) := by decide +kernel
theorem dX2_add_54 : decode cX2_add 54 = .ok (.getfield 24, 3) := by decide +kernel
theorem dX2_add_57 : decode cX2_add 57 = .ok (.aload_n 0, 1) := by decide +kernel
theorem dX2_add_58 : decode cX2_add 58 = .ok (.getfield 27, 3) := by decide +kernel
theorem dX2_add_61 : decode cX2_add 61 = .ok (.iload 5, 2) := by decide +kernel
theorem dX2_add_63 : decode cX2_add 63 = .ok (.iastore, 1) := by decide +kernel
theorem dX2_add_64 : decode cX2_add 64 = .ok (.aload_n 0, 1) := by decide +kernel
theorem dX2_add_65 : decode cX2_add 65 = .ok (.dup, 1) := by decide +kernel
theorem dX2_add_66 : decode cX2_add 66 = .ok (.getfield 27, 3) := by decide +kernel
theorem dX2_add_69 : decode cX2_add 69 = .ok (.iconst 1, 1) := by decide +kernel
theorem dX2_add_70 : decode cX2_add 70 = .ok (.iadd, 1) := by decide +kernel
theorem dX2_add_71 : decode cX2_add 71 = .ok (.putfield 27, 3) := by decide +kernel
theorem dX2_add_74 : decode cX2_add 74 = .ok (.aload_n 0, 1) := by decide +kernel
theorem dX2_add_75 : decode cX2_add 75 = .ok (.getfield 27, 3) := by decide +kernel
theorem dX2_add_78 : decode cX2_add 78 = .ok (.iconst 1, 1) := by decide +kernel
theorem dX2_add_79 : decode cX2_add 79 = .ok (.isub, 1) := by decide +kernel
theorem dX2_add_80 : decode cX2_add 80 = .ok (.ireturn, 1) := by decide +kernel
theorem dX2_showUpTo_0 : decode cX2_showUpTo 0 = .ok (.aload_n 0, 1) := by decide +kernel
theorem dX2_showUpTo_1 : decode cX2_showUpTo 1 = .ok (.iconst 0, 1) := by decide +kernel
theorem dX2_showUpTo_2 : decode cX2_showUpTo 2 = .ok (.putfield 31, 3) := by decide +kernel
theorem dX2_showUpTo_5 : decode cX2_showUpTo 5 = .ok (.iconst 0, 1) := by decide +kernel
theorem dX2_showUpTo_6 : decode cX2_showUpTo 6 = .ok (.istore_n 2, 1) := by decide +kernel
theorem dX2_showUpTo_7 : decode cX2_showUpTo 7 = .ok (.iload_n 2, 1) := by decide +kernel
theorem dX2_showUpTo_8 : decode cX2_showUpTo 8 = .ok (.aload_n 0, 1) := by decide +kernel
theorem dX2_showUpTo_9 : decode cX2_showUpTo 9 = .ok (.getfield 27, 3) := by decide +kernel
theorem dX2_showUpTo_12 : decode cX2_showUpTo 12 = .ok (.if_icmp .ge 29, 3) := by decide +kernel
theorem dX2_showUpTo_15 : decode cX2_showUpTo 15 = .ok (.aload_n 0, 1) := by decide +kernel
theorem dX2_showUpTo_16 : decode cX2_showUpTo 16 = .ok (.getfield 24, 3) := by decide +kernel
theorem dX2_showUpTo_19 : decode cX2_showUpTo 19 = .ok (.iload_n 2, 1) := by decide +kernel
theorem dX2_showUpTo_20 : decode cX2_showUpTo 20 = .ok (.iaload, 1) := by decide +kernel
theorem dX2_showUpTo_21 : decode cX2_showUpTo 21 = .ok (.iload_n 1, 1) := by decide +kernel
theorem dX2_showUpTo_22 : decode cX2_showUpTo 22 = .ok (.if_icmp .gt 13, 3) := by decide +kernel
theorem dX2_showUpTo_25 : decode cX2_showUpTo 25 = .ok (.aload_n 0, 1) := by decide +kernel
theorem dX2_showUpTo_26 : decode cX2_showUpTo 26 = .ok (.dup, 1) := by decide +kernel
theorem dX2_showUpTo_27 : decode cX2_showUpTo 27 = .ok (.getfield 31, 3) := by decide +kernel
theorem dX2_showUpTo_30 : decode cX2_showUpTo 30 = .ok (.iconst 1, 1) := by decide +kernel
theorem dX2_showUpTo_31 : decode cX2_showUpTo 31 = .ok (.iadd, 1) := by decide +kernel
theorem dX2_showUpTo_32 : decode cX2_showUpTo 32 = .ok (.putfield 31, 3) := by decide +kernel
theorem dX2_showUpTo_35 : decode cX2_showUpTo 35 = .ok (.iinc 2 1, 3) := by decide +kernel
theorem dX2_showUpTo_38 : decode cX2_showUpTo 38 = .ok (.goto (-31), 3) := by decide +kernel
theorem dX2_showUpTo_41 : decode cX2_showUpTo 41 = .ok (.return_, 1) := by decide +kernel
theorem dX2_hour_0 : decode cX2_hour 0 = .ok (.aload_n 0, 1) := by decide +kernel
theorem dX2_hour_1 : decode cX2_hour 1 = .ok (.getfield 15, 3) := by decide +kernel
theorem dX2_hour_4 : decode cX2_hour 4 = .ok (.iload_n 1, 1) := by decide +kernel
theorem dX2_hour_5 : decode cX2_hour 5 = .ok (.iaload, 1) := by decide +kernel
theorem dX2_hour_6 : decode cX2_hour 6 = .ok (.bipush 60, 2) := by decide +kernel
theorem dX2_hour_8 : decode cX2_hour 8 = .ok (.idiv, 1) := by decide +kernel
theorem dX2_hour_9 : decode cX2_hour 9 = .ok (.ireturn, 1) := by decide +kernel
theorem dX2_toldAt_0 : decode cX2_toldAt 0 = .ok (.iconst 0, 1) := by decide +kernel
theorem dX2_toldAt_1 : decode cX2_toldAt 1 = .ok (.istore_n 3, 1) := by decide +kernel
theorem dX2_toldAt_2 : decode cX2_toldAt 2 = .ok (.iconst 0, 1) := by decide +kernel
theorem dX2_toldAt_3 : decode cX2_toldAt 3 = .ok (.istore 4, 2) := by decide +kernel
theorem dX2_toldAt_5 : decode cX2_toldAt 5 = .ok (.iload 4, 2) := by decide +kernel
theorem dX2_toldAt_7 : decode cX2_toldAt 7 = .ok (.aload_n 0, 1) := by decide +kernel
theorem dX2_toldAt_8 : decode cX2_toldAt 8 = .ok (.getfield 27, 3) := by decide +kernel
theorem dX2_toldAt_11 : decode cX2_toldAt 11 = .ok (.if_icmp .ge 34, 3) := by decide +kernel
theorem dX2_toldAt_14 : decode cX2_toldAt 14 = .ok (.aload_n 0, 1) := by decide +kernel
theorem dX2_toldAt_15 : decode cX2_toldAt 15 = .ok (.getfield 9, 3) := by decide +kernel
theorem dX2_toldAt_18 : decode cX2_toldAt 18 = .ok (.iload 4, 2) := by decide +kernel
theorem dX2_toldAt_20 : decode cX2_toldAt 20 = .ok (.iaload, 1) := by decide +kernel
theorem dX2_toldAt_21 : decode cX2_toldAt 21 = .ok (.iload_n 1, 1) := by decide +kernel
theorem dX2_toldAt_22 : decode cX2_toldAt 22 = .ok (.if_icmp .ne 17, 3) := by decide +kernel
theorem dX2_toldAt_25 : decode cX2_toldAt 25 = .ok (.aload_n 0, 1) := by decide +kernel
theorem dX2_toldAt_26 : decode cX2_toldAt 26 = .ok (.getfield 18, 3) := by decide +kernel
theorem dX2_toldAt_29 : decode cX2_toldAt 29 = .ok (.iload 4, 2) := by decide +kernel
theorem dX2_toldAt_31 : decode cX2_toldAt 31 = .ok (.iaload, 1) := by decide +kernel
theorem dX2_toldAt_32 : decode cX2_toldAt 32 = .ok (.iload_n 2, 1) := by decide +kernel
theorem dX2_toldAt_33 : decode cX2_toldAt 33 = .ok (.if_icmp .ne 6, 3) := by decide +kernel
theorem dX2_toldAt_36 : decode cX2_toldAt 36 = .ok (.iinc 3 1, 3) := by decide +kernel
theorem dX2_toldAt_39 : decode cX2_toldAt 39 = .ok (.iinc 4 1, 3) := by decide +kernel
theorem dX2_toldAt_42 : decode cX2_toldAt 42 = .ok (.goto (-37), 3) := by decide +kernel
theorem dX2_toldAt_45 : decode cX2_toldAt 45 = .ok (.iload_n 3, 1) := by decide +kernel
theorem dX2_toldAt_46 : decode cX2_toldAt 46 = .ok (.ireturn, 1) := by decide +kernel
theorem dX2_hasIn_0 : decode cX2_hasIn 0 = .ok (.iconst 0, 1) := by decide +kernel
theorem dX2_hasIn_1 : decode cX2_hasIn 1 = .ok (.istore_n 3, 1) := by decide +kernel
theorem dX2_hasIn_2 : decode cX2_hasIn 2 = .ok (.iload_n 3, 1) := by decide +kernel
theorem dX2_hasIn_3 : decode cX2_hasIn 3 = .ok (.aload_n 0, 1) := by decide +kernel
theorem dX2_hasIn_4 : decode cX2_hasIn 4 = .ok (.getfield 27, 3) := by decide +kernel
theorem dX2_hasIn_7 : decode cX2_hasIn 7 = .ok (.if_icmp .ge 30, 3) := by decide +kernel
theorem dX2_hasIn_10 : decode cX2_hasIn 10 = .ok (.aload_n 0, 1) := by decide +kernel
theorem dX2_hasIn_11 : decode cX2_hasIn 11 = .ok (.getfield 9, 3) := by decide +kernel
theorem dX2_hasIn_14 : decode cX2_hasIn 14 = .ok (.iload_n 3, 1) := by decide +kernel
theorem dX2_hasIn_15 : decode cX2_hasIn 15 = .ok (.iaload, 1) := by decide +kernel
theorem dX2_hasIn_16 : decode cX2_hasIn 16 = .ok (.iload_n 1, 1) := by decide +kernel
theorem dX2_hasIn_17 : decode cX2_hasIn 17 = .ok (.if_icmp .ne 14, 3) := by decide +kernel
theorem dX2_hasIn_20 : decode cX2_hasIn 20 = .ok (.aload_n 0, 1) := by decide +kernel
theorem dX2_hasIn_21 : decode cX2_hasIn 21 = .ok (.iload_n 3, 1) := by decide +kernel
theorem dX2_hasIn_22 : decode cX2_hasIn 22 = .ok (.invokevirtual 34, 3) := by decide +kernel
theorem dX2_hasIn_25 : decode cX2_hasIn 25 = .ok (.iload_n 2, 1) := by decide +kernel
theorem dX2_hasIn_26 : decode cX2_hasIn 26 = .ok (.if_icmp .ne 5, 3) := by decide +kernel
theorem dX2_hasIn_29 : decode cX2_hasIn 29 = .ok (.iconst 1, 1) := by decide +kernel
theorem dX2_hasIn_30 : decode cX2_hasIn 30 = .ok (.ireturn, 1) := by decide +kernel
theorem dX2_hasIn_31 : decode cX2_hasIn 31 = .ok (.iinc 3 1, 3) := by decide +kernel
theorem dX2_hasIn_34 : decode cX2_hasIn 34 = .ok (.goto (-32), 3) := by decide +kernel
theorem dX2_hasIn_37 : decode cX2_hasIn 37 = .ok (.iconst 0, 1) := by decide +kernel
theorem dX2_hasIn_38 : decode cX2_hasIn 38 = .ok (.ireturn, 1) := by decide +kernel
theorem dX2_isIn_0 : decode cX2_isIn 0 = .ok (.aload_n 0, 1) := by decide +kernel
theorem dX2_isIn_1 : decode cX2_isIn 1 = .ok (.getfield 9, 3) := by decide +kernel
theorem dX2_isIn_4 : decode cX2_isIn 4 = .ok (.iload_n 1, 1) := by decide +kernel
theorem dX2_isIn_5 : decode cX2_isIn 5 = .ok (.iaload, 1) := by decide +kernel
theorem dX2_isIn_6 : decode cX2_isIn 6 = .ok (.bipush 30, 2) := by decide +kernel
theorem dX2_isIn_8 : decode cX2_isIn 8 = .ok (.idiv, 1) := by decide +kernel
theorem dX2_isIn_9 : decode cX2_isIn 9 = .ok (.iload_n 2, 1) := by decide +kernel
theorem dX2_isIn_10 : decode cX2_isIn 10 = .ok (.if_icmp .ne 7, 3) := by decide +kernel
theorem dX2_isIn_13 : decode cX2_isIn 13 = .ok (.iconst 1, 1) := by decide +kernel
theorem dX2_isIn_14 : decode cX2_isIn 14 = .ok (.goto 4, 3) := by decide +kernel
theorem dX2_isIn_17 : decode cX2_isIn 17 = .ok (.iconst 0, 1) := by decide +kernel
theorem dX2_isIn_18 : decode cX2_isIn 18 = .ok (.ireturn, 1) := by decide +kernel
theorem dX2_shownIn_0 : decode cX2_shownIn 0 = .ok (.iconst 0, 1) := by decide +kernel
theorem dX2_shownIn_1 : decode cX2_shownIn 1 = .ok (.istore_n 2, 1) := by decide +kernel
theorem dX2_shownIn_2 : decode cX2_shownIn 2 = .ok (.iconst 0, 1) := by decide +kernel
theorem dX2_shownIn_3 : decode cX2_shownIn 3 = .ok (.istore_n 3, 1) := by decide +kernel
theorem dX2_shownIn_4 : decode cX2_shownIn 4 = .ok (.iload_n 3, 1) := by decide +kernel
theorem dX2_shownIn_5 : decode cX2_shownIn 5 = .ok (.aload_n 0, 1) := by decide +kernel
theorem dX2_shownIn_6 : decode cX2_shownIn 6 = .ok (.getfield 31, 3) := by decide +kernel
theorem dX2_shownIn_9 : decode cX2_shownIn 9 = .ok (.if_icmp .ge 21, 3) := by decide +kernel
theorem dX2_shownIn_12 : decode cX2_shownIn 12 = .ok (.aload_n 0, 1) := by decide +kernel
theorem dX2_shownIn_13 : decode cX2_shownIn 13 = .ok (.iload_n 3, 1) := by decide +kernel
theorem dX2_shownIn_14 : decode cX2_shownIn 14 = .ok (.iload_n 1, 1) := by decide +kernel
theorem dX2_shownIn_15 : decode cX2_shownIn 15 = .ok (.invokevirtual 38, 3) := by decide +kernel
theorem dX2_shownIn_18 : decode cX2_shownIn 18 = .ok (.ifCond .eq 6, 3) := by decide +kernel
theorem dX2_shownIn_21 : decode cX2_shownIn 21 = .ok (.iinc 2 1, 3) := by decide +kernel
theorem dX2_shownIn_24 : decode cX2_shownIn 24 = .ok (.iinc 3 1, 3) := by decide +kernel
theorem dX2_shownIn_27 : decode cX2_shownIn 27 = .ok (.goto (-23), 3) := by decide +kernel
theorem dX2_shownIn_30 : decode cX2_shownIn 30 = .ok (.iload_n 2, 1) := by decide +kernel
theorem dX2_shownIn_31 : decode cX2_shownIn 31 = .ok (.ireturn, 1) := by decide +kernel
theorem dX2_gather_0 : decode cX2_gather 0 = .ok (.iconst 0, 1) := by decide +kernel
theorem dX2_gather_1 : decode cX2_gather 1 = .ok (.istore 4, 2) := by decide +kernel
theorem dX2_gather_3 : decode cX2_gather 3 = .ok (.iconst 0, 1) := by decide +kernel
theorem dX2_gather_4 : decode cX2_gather 4 = .ok (.istore 5, 2) := by decide +kernel
theorem dX2_gather_6 : decode cX2_gather 6 = .ok (.iload 5, 2) := by decide +kernel
theorem dX2_gather_8 : decode cX2_gather 8 = .ok (.aload_n 0, 1) := by decide +kernel
theorem dX2_gather_9 : decode cX2_gather 9 = .ok (.getfield 31, 3) := by decide +kernel
theorem dX2_gather_12 : decode cX2_gather 12 = .ok (.if_icmp .ge 47, 3) := by decide +kernel
theorem dX2_gather_15 : decode cX2_gather 15 = .ok (.aload_n 0, 1) := by decide +kernel
theorem dX2_gather_16 : decode cX2_gather 16 = .ok (.getfield 9, 3) := by decide +kernel
theorem dX2_gather_19 : decode cX2_gather 19 = .ok (.iload 5, 2) := by decide +kernel
theorem dX2_gather_21 : decode cX2_gather 21 = .ok (.iaload, 1) := by decide +kernel
theorem dX2_gather_22 : decode cX2_gather 22 = .ok (.iload_n 1, 1) := by decide +kernel
theorem dX2_gather_23 : decode cX2_gather 23 = .ok (.if_icmp .ne 30, 3) := by decide +kernel
theorem dX2_gather_26 : decode cX2_gather 26 = .ok (.aload_n 0, 1) := by decide +kernel
theorem dX2_gather_27 : decode cX2_gather 27 = .ok (.getfield 18, 3) := by decide +kernel
theorem dX2_gather_30 : decode cX2_gather 30 = .ok (.iload 5, 2) := by decide +kernel
theorem dX2_gather_32 : decode cX2_gather 32 = .ok (.iaload, 1) := by decide +kernel
theorem dX2_gather_33 : decode cX2_gather 33 = .ok (.iload_n 2, 1) := by decide +kernel
theorem dX2_gather_34 : decode cX2_gather 34 = .ok (.if_icmp .ne 19, 3) := by decide +kernel
theorem dX2_gather_37 : decode cX2_gather 37 = .ok (.iload 4, 2) := by decide +kernel
theorem dX2_gather_39 : decode cX2_gather 39 = .ok (.aload_n 3, 1) := by decide +kernel
theorem dX2_gather_40 : decode cX2_gather 40 = .ok (.arraylength, 1) := by decide +kernel
theorem dX2_gather_41 : decode cX2_gather 41 = .ok (.if_icmp .ge 12, 3) := by decide +kernel
theorem dX2_gather_44 : decode cX2_gather 44 = .ok (.aload_n 3, 1) := by decide +kernel
theorem dX2_gather_45 : decode cX2_gather 45 = .ok (.iload 4, 2) := by decide +kernel
theorem dX2_gather_47 : decode cX2_gather 47 = .ok (.iload 5, 2) := by decide +kernel
theorem dX2_gather_49 : decode cX2_gather 49 = .ok (.iastore, 1) := by decide +kernel
theorem dX2_gather_50 : decode cX2_gather 50 = .ok (.iinc 4 1, 3) := by decide +kernel
theorem dX2_gather_53 : decode cX2_gather 53 = .ok (.iinc 5 1, 3) := by decide +kernel
theorem dX2_gather_56 : decode cX2_gather 56 = .ok (.goto (-50), 3) := by decide +kernel
theorem dX2_gather_59 : decode cX2_gather 59 = .ok (.iload 4, 2) := by decide +kernel
theorem dX2_gather_61 : decode cX2_gather 61 = .ok (.ireturn, 1) := by decide +kernel
theorem dX3_init_0 : decode cX3_init 0 = .ok (.aload_n 0, 1) := by decide +kernel
theorem dX3_init_1 : decode cX3_init 1 = .ok (.invokespecial 3, 3) := by decide +kernel
theorem dX3_init_4 : decode cX3_init 4 = .ok (.aload_n 0, 1) := by decide +kernel
theorem dX3_init_5 : decode cX3_init 5 = .ok (.bipush 12, 2) := by decide +kernel
theorem dX3_init_7 : decode cX3_init 7 = .ok (.newarray .int, 2) := by decide +kernel
theorem dX3_init_9 : decode cX3_init 9 = .ok (.putfield 9, 3) := by decide +kernel
theorem dX3_init_12 : decode cX3_init 12 = .ok (.aload_n 0, 1) := by decide +kernel
theorem dX3_init_13 : decode cX3_init 13 = .ok (.bipush 12, 2) := by decide +kernel
theorem dX3_init_15 : decode cX3_init 15 = .ok (.newarray .int, 2) := by decide +kernel
theorem dX3_init_17 : decode cX3_init 17 = .ok (.putfield 15, 3) := by decide +kernel
theorem dX3_init_20 : decode cX3_init 20 = .ok (.aload_n 0, 1) := by decide +kernel
theorem dX3_init_21 : decode cX3_init 21 = .ok (.bipush 12, 2) := by decide +kernel
theorem dX3_init_23 : decode cX3_init 23 = .ok (.newarray .int, 2) := by decide +kernel
theorem dX3_init_25 : decode cX3_init 25 = .ok (.putfield 18, 3) := by decide +kernel
theorem dX3_init_28 : decode cX3_init 28 = .ok (.aload_n 0, 1) := by decide +kernel
theorem dX3_init_29 : decode cX3_init 29 = .ok (.bipush 12, 2) := by decide +kernel
theorem dX3_init_31 : decode cX3_init 31 = .ok (.newarray .int, 2) := by decide +kernel
theorem dX3_init_33 : decode cX3_init 33 = .ok (.putfield 21, 3) := by decide +kernel
theorem dX3_init_36 : decode cX3_init 36 = .ok (.aload_n 0, 1) := by decide +kernel
theorem dX3_init_37 : decode cX3_init 37 = .ok (.bipush 12, 2) := by decide +kernel
theorem dX3_init_39 : decode cX3_init 39 = .ok (.newarray .int, 2) := by decide +kernel
theorem dX3_init_41 : decode cX3_init 41 = .ok (.putfield 24, 3) := by decide +kernel
theorem dX3_init_44 : decode cX3_init 44 = .ok (.aload_n 0, 1) := by decide +kernel
theorem dX3_init_45 : decode cX3_init 45 = .ok (.iconst 0, 1) := by decide +kernel
theorem dX3_init_46 : decode cX3_init 46 = .ok (.putfield 27, 3) := by decide +kernel
theorem dX3_init_49 : decode cX3_init 49 = .ok (.aload_n 0, 1) := by decide +kernel
theorem dX3_init_50 : decode cX3_init 50 = .ok (.iconst 0, 1) := by decide +kernel
theorem dX3_init_51 : decode cX3_init 51 = .ok (.putfield 31, 3) := by decide +kernel
theorem dX3_init_54 : decode cX3_init 54 = .ok (.aload_n 0, 1) := by decide +kernel
theorem dX3_init_55 : decode cX3_init 55 = .ok (.iconst 0, 1) := by decide +kernel
theorem dX3_init_56 : decode cX3_init 56 = .ok (.putfield 34, 3) := by decide +kernel
theorem dX3_init_59 : decode cX3_init 59 = .ok (.aload_n 0, 1) := by decide +kernel
theorem dX3_init_60 : decode cX3_init 60 = .ok (.iconst 0, 1) := by decide +kernel
theorem dX3_init_61 : decode cX3_init 61 = .ok (.putfield 37, 3) := by decide +kernel
theorem dX3_init_64 : decode cX3_init 64 = .ok (.return_, 1) := by decide +kernel
theorem dX3_start_0 : decode cX3_start 0 = .ok (.aload_n 0, 1) := by decide +kernel
theorem dX3_start_1 : decode cX3_start 1 = .ok (.iload_n 1, 1) := by decide +kernel
theorem dX3_start_2 : decode cX3_start 2 = .ok (.iconst 0, 1) := by decide +kernel
theorem dX3_start_3 : decode cX3_start 3 = .ok (.invokestatic 40, 3) := by decide +kernel
theorem dX3_start_6 : decode cX3_start 6 = .ok (.bipush 12, 2) := by decide +kernel
theorem dX3_start_8 : decode cX3_start 8 = .ok (.invokestatic 46, 3) := by decide +kernel
theorem dX3_start_11 : decode cX3_start 11 = .ok (.putfield 27, 3) := by decide +kernel
theorem dX3_start_14 : decode cX3_start 14 = .ok (.aload_n 0, 1) := by decide +kernel
theorem dX3_start_15 : decode cX3_start 15 = .ok (.iload_n 2, 1) := by decide +kernel
theorem dX3_start_16 : decode cX3_start 16 = .ok (.iconst 0, 1) := by decide +kernel
theorem dX3_start_17 : decode cX3_start 17 = .ok (.invokestatic 40, 3) := by decide +kernel
theorem dX3_start_20 : decode cX3_start 20 = .ok (.bipush 12, 2) := by decide +kernel
theorem dX3_start_22 : decode cX3_start 22 = .ok (.invokestatic 46, 3) := by decide +kernel
theorem dX3_start_25 : decode cX3_start 25 = .ok (.putfield 31, 3) := by decide +kernel
theorem dX3_start_28 : decode cX3_start 28 = .ok (.aload_n 0, 1) := by decide +kernel
theorem dX3_start_29 : decode cX3_start 29 = .ok (.iconst 0, 1) := by decide +kernel
theorem dX3_start_30 : decode cX3_start 30 = .ok (.putfield 34, 3) := by decide +kernel
theorem dX3_start_33 : decode cX3_start 33 = .ok (.iconst 0, 1) := by decide +kernel
theorem dX3_start_34 : decode cX3_start 34 = .ok (.istore_n 3, 1) := by decide +kernel
theorem dX3_start_35 : decode cX3_start 35 = .ok (.iload_n 3, 1) := by decide +kernel
theorem dX3_start_36 : decode cX3_start 36 = .ok (.bipush 12, 2) := by decide +kernel
theorem dX3_start_38 : decode cX3_start 38 = .ok (.if_icmp .ge 30, 3) := by decide +kernel
theorem dX3_start_41 : decode cX3_start 41 = .ok (.aload_n 0, 1) := by decide +kernel
theorem dX3_start_42 : decode cX3_start 42 = .ok (.getfield 9, 3) := by decide +kernel
theorem dX3_start_45 : decode cX3_start 45 = .ok (.iload_n 3, 1) := by decide +kernel
theorem dX3_start_46 : decode cX3_start 46 = .ok (.iconst 0, 1) := by decide +kernel
theorem dX3_start_47 : decode cX3_start 47 = .ok (.iastore, 1) := by decide +kernel
theorem dX3_start_48 : decode cX3_start 48 = .ok (.aload_n 0, 1) := by decide +kernel
theorem dX3_start_49 : decode cX3_start 49 = .ok (.getfield 15, 3) := by decide +kernel
theorem dX3_start_52 : decode cX3_start 52 = .ok (.iload_n 3, 1) := by decide +kernel
theorem dX3_start_53 : decode cX3_start 53 = .ok (.iconst (-1), 1) := by decide +kernel
theorem dX3_start_54 : decode cX3_start 54 = .ok (.iastore, 1) := by decide +kernel
theorem dX3_start_55 : decode cX3_start 55 = .ok (.aload_n 0, 1) := by decide +kernel
theorem dX3_start_56 : decode cX3_start 56 = .ok (.getfield 18, 3) := by decide +kernel
theorem dX3_start_59 : decode cX3_start 59 = .ok (.iload_n 3, 1) := by decide +kernel
theorem dX3_start_60 : decode cX3_start 60 = .ok (.iconst (-1), 1) := by decide +kernel
theorem dX3_start_61 : decode cX3_start 61 = .ok (.iastore, 1) := by decide +kernel
theorem dX3_start_62 : decode cX3_start 62 = .ok (.iinc 3 1, 3) := by decide +kernel
theorem dX3_start_65 : decode cX3_start 65 = .ok (.goto (-30), 3) := by decide +kernel
theorem dX3_start_68 : decode cX3_start 68 = .ok (.return_, 1) := by decide +kernel
theorem dX3_allow_0 : decode cX3_allow 0 = .ok (.aload_n 0, 1) := by decide +kernel
theorem dX3_allow_1 : decode cX3_allow 1 = .ok (.getfield 9, 3) := by decide +kernel
theorem dX3_allow_4 : decode cX3_allow 4 = .ok (.iload_n 1, 1) := by decide +kernel
theorem dX3_allow_5 : decode cX3_allow 5 = .ok (.dup2, 1) := by decide +kernel
theorem dX3_allow_6 : decode cX3_allow 6 = .ok (.iaload, 1) := by decide +kernel
theorem dX3_allow_7 : decode cX3_allow 7 = .ok (.iconst 1, 1) := by decide +kernel
theorem dX3_allow_8 : decode cX3_allow 8 = .ok (.iload_n 2, 1) := by decide +kernel
theorem dX3_allow_9 : decode cX3_allow 9 = .ok (.ishl, 1) := by decide +kernel
theorem dX3_allow_10 : decode cX3_allow 10 = .ok (.ior, 1) := by decide +kernel
theorem dX3_allow_11 : decode cX3_allow 11 = .ok (.iastore, 1) := by decide +kernel
theorem dX3_allow_12 : decode cX3_allow 12 = .ok (.return_, 1) := by decide +kernel
theorem dX3_solve_0 : decode cX3_solve 0 = .ok (.iconst 0, 1) := by decide +kernel
theorem dX3_solve_1 : decode cX3_solve 1 = .ok (.istore_n 1, 1) := by decide +kernel
theorem dX3_solve_2 : decode cX3_solve 2 = .ok (.iload_n 1, 1) := by decide +kernel
theorem dX3_solve_3 : decode cX3_solve 3 = .ok (.aload_n 0, 1) := by decide +kernel
theorem dX3_solve_4 : decode cX3_solve 4 = .ok (.getfield 27, 3) := by decide +kernel
theorem dX3_solve_7 : decode cX3_solve 7 = .ok (.if_icmp .ge 21, 3) := by decide +kernel
theorem dX3_solve_10 : decode cX3_solve 10 = .ok (.aload_n 0, 1) := by decide +kernel
theorem dX3_solve_11 : decode cX3_solve 11 = .ok (.iconst 0, 1) := by decide +kernel
theorem dX3_solve_12 : decode cX3_solve 12 = .ok (.putfield 37, 3) := by decide +kernel
theorem dX3_solve_15 : decode cX3_solve 15 = .ok (.aload_n 0, 1) := by decide +kernel
theorem dX3_solve_16 : decode cX3_solve 16 = .ok (.iload_n 1, 1) := by decide +kernel
theorem dX3_solve_17 : decode cX3_solve 17 = .ok (.iconst 0, 1) := by decide +kernel
theorem dX3_solve_18 : decode cX3_solve 18 = .ok (.invokevirtual 49, 3) := by decide +kernel
theorem dX3_solve_21 : decode cX3_solve 21 = .ok (.pop, 1) := by decide +kernel
theorem dX3_solve_22 : decode cX3_solve 22 = .ok (.iinc 1 1, 3) := by decide +kernel
theorem dX3_solve_25 : decode cX3_solve 25 = .ok (.goto (-23), 3) := by decide +kernel
theorem dX3_solve_28 : decode cX3_solve 28 = .ok (.iconst 0, 1) := by decide +kernel
theorem dX3_solve_29 : decode cX3_solve 29 = .ok (.istore_n 1, 1) := by decide +kernel
theorem dX3_solve_30 : decode cX3_solve 30 = .ok (.iload_n 1, 1) := by decide +kernel
theorem dX3_solve_31 : decode cX3_solve 31 = .ok (.aload_n 0, 1) := by decide +kernel
theorem dX3_solve_32 : decode cX3_solve 32 = .ok (.getfield 27, 3) := by decide +kernel
theorem dX3_solve_35 : decode cX3_solve 35 = .ok (.if_icmp .ge 54, 3) := by decide +kernel
theorem dX3_solve_38 : decode cX3_solve 38 = .ok (.iconst 0, 1) := by decide +kernel
theorem dX3_solve_39 : decode cX3_solve 39 = .ok (.istore_n 2, 1) := by decide +kernel
theorem dX3_solve_40 : decode cX3_solve 40 = .ok (.iload_n 2, 1) := by decide +kernel
theorem dX3_solve_41 : decode cX3_solve 41 = .ok (.aload_n 0, 1) := by decide +kernel
theorem dX3_solve_42 : decode cX3_solve 42 = .ok (.getfield 31, 3) := by decide +kernel
theorem dX3_solve_45 : decode cX3_solve 45 = .ok (.if_icmp .ge 18, 3) := by decide +kernel
theorem dX3_solve_48 : decode cX3_solve 48 = .ok (.aload_n 0, 1) := by decide +kernel
theorem dX3_solve_49 : decode cX3_solve 49 = .ok (.iload_n 1, 1) := by decide +kernel
theorem dX3_solve_50 : decode cX3_solve 50 = .ok (.iload_n 2, 1) := by decide +kernel
theorem dX3_solve_51 : decode cX3_solve 51 = .ok (.invokevirtual 53, 3) := by decide +kernel
theorem dX3_solve_54 : decode cX3_solve 54 = .ok (.ifCond .ne 9, 3) := by decide +kernel
theorem dX3_solve_57 : decode cX3_solve 57 = .ok (.iinc 2 1, 3) := by decide +kernel
theorem dX3_solve_60 : decode cX3_solve 60 = .ok (.goto (-20), 3) := by decide +kernel
theorem dX3_solve_63 : decode cX3_solve 63 = .ok (.iload_n 2, 1) := by decide +kernel
theorem dX3_solve_64 : decode cX3_solve 64 = .ok (.aload_n 0, 1) := by decide +kernel
theorem dX3_solve_65 : decode cX3_solve 65 = .ok (.getfield 31, 3) := by decide +kernel
theorem dX3_solve_68 : decode cX3_solve 68 = .ok (.if_icmp .ge 15, 3) := by decide +kernel
theorem dX3_solve_71 : decode cX3_solve 71 = .ok (.aload_n 0, 1) := by decide +kernel
theorem dX3_solve_72 : decode cX3_solve 72 = .ok (.dup, 1) := by decide +kernel
theorem dX3_solve_73 : decode cX3_solve 73 = .ok (.getfield 34, 3) := by decide +kernel
theorem dX3_solve_76 : decode cX3_solve 76 = .ok (.iconst 1, 1) := by decide +kernel
theorem dX3_solve_77 : decode cX3_solve 77 = .ok (.iload_n 2, 1) := by decide +kernel
theorem dX3_solve_78 : decode cX3_solve 78 = .ok (.ishl, 1) := by decide +kernel
theorem dX3_solve_79 : decode cX3_solve 79 = .ok (.ior, 1) := by decide +kernel
theorem dX3_solve_80 : decode cX3_solve 80 = .ok (.putfield 34, 3) := by decide +kernel
theorem dX3_solve_83 : decode cX3_solve 83 = .ok (.iinc 1 1, 3) := by decide +kernel
theorem dX3_solve_86 : decode cX3_solve 86 = .ok (.goto (-56), 3) := by decide +kernel
theorem dX3_solve_89 : decode cX3_solve 89 = .ok (.return_, 1) := by decide +kernel
theorem dX3_canTake_0 : decode cX3_canTake 0 = .ok (.iconst 1, 1) := by decide +kernel
theorem dX3_canTake_1 : decode cX3_canTake 1 = .ok (.iload_n 2, 1) := by decide +kernel
theorem dX3_canTake_2 : decode cX3_canTake 2 = .ok (.ishl, 1) := by decide +kernel
theorem dX3_canTake_3 : decode cX3_canTake 3 = .ok (.istore_n 3, 1) := by decide +kernel
theorem dX3_canTake_4 : decode cX3_canTake 4 = .ok (.aload_n 0, 1) := by decide +kernel
theorem dX3_canTake_5 : decode cX3_canTake 5 = .ok (.getfield 9, 3) := by decide +kernel
theorem dX3_canTake_8 : decode cX3_canTake 8 = .ok (.iload_n 1, 1) := by decide +kernel
theorem dX3_canTake_9 : decode cX3_canTake 9 = .ok (.iaload, 1) := by decide +kernel
theorem dX3_canTake_10 : decode cX3_canTake 10 = .ok (.iload_n 3, 1) := by decide +kernel
theorem dX3_canTake_11 : decode cX3_canTake 11 = .ok (.iand, 1) := by decide +kernel
theorem dX3_canTake_12 : decode cX3_canTake 12 = .ok (.ifCond .eq 12, 3) := by decide +kernel
theorem dX3_canTake_15 : decode cX3_canTake 15 = .ok (.aload_n 0, 1) := by decide +kernel
theorem dX3_canTake_16 : decode cX3_canTake 16 = .ok (.getfield 34, 3) := by decide +kernel
theorem dX3_canTake_19 : decode cX3_canTake 19 = .ok (.iload_n 3, 1) := by decide +kernel
theorem dX3_canTake_20 : decode cX3_canTake 20 = .ok (.iand, 1) := by decide +kernel
theorem dX3_canTake_21 : decode cX3_canTake 21 = .ok (.ifCond .eq 5, 3) := by decide +kernel
theorem dX3_canTake_24 : decode cX3_canTake 24 = .ok (.iconst 0, 1) := by decide +kernel
theorem dX3_canTake_25 : decode cX3_canTake 25 = .ok (.ireturn, 1) := by decide +kernel
theorem dX3_canTake_26 : decode cX3_canTake 26 = .ok (.aload_n 0, 1) := by decide +kernel
theorem dX3_canTake_27 : decode cX3_canTake 27 = .ok (.getfield 15, 3) := by decide +kernel
theorem dX3_canTake_30 : decode cX3_canTake 30 = .ok (.iload_n 1, 1) := by decide +kernel
theorem dX3_canTake_31 : decode cX3_canTake 31 = .ok (.iaload, 1) := by decide +kernel
theorem dX3_canTake_32 : decode cX3_canTake 32 = .ok (.iload_n 2, 1) := by decide +kernel
theorem dX3_canTake_33 : decode cX3_canTake 33 = .ok (.if_icmp .ne 5, 3) := by decide +kernel
theorem dX3_canTake_36 : decode cX3_canTake 36 = .ok (.iconst 1, 1) := by decide +kernel
theorem dX3_canTake_37 : decode cX3_canTake 37 = .ok (.ireturn, 1) := by decide +kernel
theorem dX3_canTake_38 : decode cX3_canTake 38 = .ok (.aload_n 0, 1) := by decide +kernel
theorem dX3_canTake_39 : decode cX3_canTake 39 = .ok (.getfield 15, 3) := by decide +kernel
theorem dX3_canTake_42 : decode cX3_canTake 42 = .ok (.iload_n 1, 1) := by decide +kernel
theorem dX3_canTake_43 : decode cX3_canTake 43 = .ok (.iaload, 1) := by decide +kernel
theorem dX3_canTake_44 : decode cX3_canTake 44 = .ok (.istore 4, 2) := by decide +kernel
theorem dX3_canTake_46 : decode cX3_canTake 46 = .ok (.aload_n 0, 1) := by decide +kernel
theorem dX3_canTake_47 : decode cX3_canTake 47 = .ok (.getfield 18, 3) := by decide +kernel
theorem dX3_canTake_50 : decode cX3_canTake 50 = .ok (.iload_n 2, 1) := by decide +kernel
theorem dX3_canTake_51 : decode cX3_canTake 51 = .ok (.iaload, 1) := by decide +kernel
theorem dX3_canTake_52 : decode cX3_canTake 52 = .ok (.istore 5, 2) := by decide +kernel
theorem dX3_canTake_54 : decode cX3_canTake 54 = .ok (.aload_n 0, 1) := by decide +kernel
theorem dX3_canTake_55 : decode cX3_canTake 55 = .ok (.invokevirtual 56, 3) := by decide +kernel
theorem dX3_canTake_58 : decode cX3_canTake 58 = .ok (.iload 4, 2) := by decide +kernel
theorem dX3_canTake_60 : decode cX3_canTake 60 = .ok (.ifCond .lt 11, 3) := by decide +kernel
theorem dX3_canTake_63 : decode cX3_canTake 63 = .ok (.aload_n 0, 1) := by decide +kernel
theorem dX3_canTake_64 : decode cX3_canTake 64 = .ok (.getfield 18, 3) := by decide +kernel
theorem dX3_canTake_67 : decode cX3_canTake 67 = .ok (.iload 4, 2) := by decide +kernel
theorem dX3_canTake_69 : decode cX3_canTake 69 = .ok (.iconst (-1), 1) := by decide +kernel
theorem dX3_canTake_70 : decode cX3_canTake 70 = .ok (.iastore, 1) := by decide +kernel
theorem dX3_canTake_71 : decode cX3_canTake 71 = .ok (.iload 5, 2) := by decide +kernel
theorem dX3_canTake_73 : decode cX3_canTake 73 = .ok (.ifCond .lt 11, 3) := by decide +kernel
theorem dX3_canTake_76 : decode cX3_canTake 76 = .ok (.aload_n 0, 1) := by decide +kernel
theorem dX3_canTake_77 : decode cX3_canTake 77 = .ok (.getfield 15, 3) := by decide +kernel
theorem dX3_canTake_80 : decode cX3_canTake 80 = .ok (.iload 5, 2) := by decide +kernel
theorem dX3_canTake_82 : decode cX3_canTake 82 = .ok (.iconst (-1), 1) := by decide +kernel
theorem dX3_canTake_83 : decode cX3_canTake 83 = .ok (.iastore, 1) := by decide +kernel
theorem dX3_canTake_84 : decode cX3_canTake 84 = .ok (.aload_n 0, 1) := by decide +kernel
theorem dX3_canTake_85 : decode cX3_canTake 85 = .ok (.getfield 15, 3) := by decide +kernel
theorem dX3_canTake_88 : decode cX3_canTake 88 = .ok (.iload_n 1, 1) := by decide +kernel
theorem dX3_canTake_89 : decode cX3_canTake 89 = .ok (.iload_n 2, 1) := by decide +kernel
theorem dX3_canTake_90 : decode cX3_canTake 90 = .ok (.iastore, 1) := by decide +kernel
theorem dX3_canTake_91 : decode cX3_canTake 91 = .ok (.aload_n 0, 1) := by decide +kernel
theorem dX3_canTake_92 : decode cX3_canTake 92 = .ok (.getfield 18, 3) := by decide +kernel
theorem dX3_canTake_95 : decode cX3_canTake 95 = .ok (.iload_n 2, 1) := by decide +kernel
theorem dX3_canTake_96 : decode cX3_canTake 96 = .ok (.iload_n 1, 1) := by decide +kernel
theorem dX3_canTake_97 : decode cX3_canTake 97 = .ok (.iastore, 1) := by decide +kernel
theorem dX3_canTake_98 : decode cX3_canTake 98 = .ok (.iload 4, 2) := by decide +kernel
theorem dX3_canTake_100 : decode cX3_canTake 100 = .ok (.ifCond .lt 8, 3) := by decide +kernel
theorem dX3_canTake_103 : decode cX3_canTake 103 = .ok (.iload 5, 2) := by decide +kernel
theorem dX3_canTake_105 : decode cX3_canTake 105 = .ok (.ifCond .ge 7, 3) := by decide +kernel
theorem dX3_canTake_108 : decode cX3_canTake 108 = .ok (.iconst 1, 1) := by decide +kernel
theorem dX3_canTake_109 : decode cX3_canTake 109 = .ok (.goto 4, 3) := by decide +kernel
theorem dX3_canTake_112 : decode cX3_canTake 112 = .ok (.iconst 0, 1) := by decide +kernel
theorem dX3_canTake_113 : decode cX3_canTake 113 = .ok (.istore 6, 2) := by decide +kernel
theorem dX3_canTake_115 : decode cX3_canTake 115 = .ok (.iload_n 1, 1) := by decide +kernel
theorem dX3_canTake_116 : decode cX3_canTake 116 = .ok (.iconst 1, 1) := by decide +kernel
theorem dX3_canTake_117 : decode cX3_canTake 117 = .ok (.iadd, 1) := by decide +kernel
theorem dX3_canTake_118 : decode cX3_canTake 118 = .ok (.istore 7, 2) := by decide +kernel
theorem dX3_canTake_120 : decode cX3_canTake 120 = .ok (.iload 7, 2) := by decide +kernel
theorem dX3_canTake_122 : decode cX3_canTake 122 = .ok (.aload_n 0, 1) := by decide +kernel
theorem dX3_canTake_123 : decode cX3_canTake 123 = .ok (.getfield 27, 3) := by decide +kernel
theorem dX3_canTake_126 : decode cX3_canTake 126 = .ok (.if_icmp .ge 51, 3) := by decide +kernel
theorem dX3_canTake_129 : decode cX3_canTake 129 = .ok (.iload 6, 2) := by decide +kernel
theorem dX3_canTake_131 : decode cX3_canTake 131 = .ok (.ifCond .ne 46, 3) := by decide +kernel
theorem dX3_canTake_134 : decode cX3_canTake 134 = .ok (.aload_n 0, 1) := by decide +kernel
theorem dX3_canTake_135 : decode cX3_canTake 135 = .ok (.aload_n 0, 1) := by decide +kernel
theorem dX3_canTake_136 : decode cX3_canTake 136 = .ok (.getfield 34, 3) := by decide +kernel
theorem dX3_canTake_139 : decode cX3_canTake 139 = .ok (.iload_n 3, 1) := by decide +kernel
theorem dX3_canTake_140 : decode cX3_canTake 140 = .ok (.ior, 1) := by decide +kernel
theorem dX3_canTake_141 : decode cX3_canTake 141 = .ok (.putfield 37, 3) := by decide +kernel
theorem dX3_canTake_144 : decode cX3_canTake 144 = .ok (.aload_n 0, 1) := by decide +kernel
theorem dX3_canTake_145 : decode cX3_canTake 145 = .ok (.getfield 15, 3) := by decide +kernel
theorem dX3_canTake_148 : decode cX3_canTake 148 = .ok (.iload 7, 2) := by decide +kernel
theorem dX3_canTake_150 : decode cX3_canTake 150 = .ok (.iaload, 1) := by decide +kernel
theorem dX3_canTake_151 : decode cX3_canTake 151 = .ok (.ifCond .ge 17, 3) := by decide +kernel
theorem dX3_canTake_154 : decode cX3_canTake 154 = .ok (.aload_n 0, 1) := by decide +kernel
theorem dX3_canTake_155 : decode cX3_canTake 155 = .ok (.iload 7, 2) := by decide +kernel
theorem dX3_canTake_157 : decode cX3_canTake 157 = .ok (.iconst 0, 1) := by decide +kernel
theorem dX3_canTake_158 : decode cX3_canTake 158 = .ok (.invokevirtual 49, 3) := by decide +kernel
theorem dX3_canTake_161 : decode cX3_canTake 161 = .ok (.ifCond .eq 7, 3) := by decide +kernel
theorem dX3_canTake_164 : decode cX3_canTake 164 = .ok (.iconst 1, 1) := by decide +kernel
theorem dX3_canTake_165 : decode cX3_canTake 165 = .ok (.goto 4, 3) := by decide +kernel
theorem dX3_canTake_168 : decode cX3_canTake 168 = .ok (.iconst 0, 1) := by decide +kernel
theorem dX3_canTake_169 : decode cX3_canTake 169 = .ok (.istore 6, 2) := by decide +kernel
theorem dX3_canTake_171 : decode cX3_canTake 171 = .ok (.iinc 7 1, 3) := by decide +kernel
theorem dX3_canTake_174 : decode cX3_canTake 174 = .ok (.goto (-54), 3) := by decide +kernel
theorem dX3_canTake_177 : decode cX3_canTake 177 = .ok (.iload 6, 2) := by decide +kernel
theorem dX3_canTake_179 : decode cX3_canTake 179 = .ok (.ifCond .ne 7, 3) := by decide +kernel
theorem dX3_canTake_182 : decode cX3_canTake 182 = .ok (.aload_n 0, 1) := by decide +kernel
theorem dX3_canTake_183 : decode cX3_canTake 183 = .ok (.invokevirtual 59, 3) := by decide +kernel
theorem dX3_canTake_186 : decode cX3_canTake 186 = .ok (.iload 6, 2) := by decide +kernel
theorem dX3_canTake_188 : decode cX3_canTake 188 = .ok (.ireturn, 1) := by decide +kernel
theorem dX3_reach_0 : decode cX3_reach 0 = .ok (.iload_n 2, 1) := by decide +kernel
theorem dX3_reach_1 : decode cX3_reach 1 = .ok (.bipush 12, 2) := by decide +kernel
theorem dX3_reach_3 : decode cX3_reach 3 = .ok (.if_icmp .le 5, 3) := by decide +kernel
theorem dX3_reach_6 : decode cX3_reach 6 = .ok (.iconst 0, 1) := by decide +kernel
theorem dX3_reach_7 : decode cX3_reach 7 = .ok (.ireturn, 1) := by decide +kernel
theorem dX3_reach_8 : decode cX3_reach 8 = .ok (.iconst 0, 1) := by decide +kernel
theorem dX3_reach_9 : decode cX3_reach 9 = .ok (.istore_n 3, 1) := by decide +kernel
theorem dX3_reach_10 : decode cX3_reach 10 = .ok (.iload_n 3, 1) := by decide +kernel
theorem dX3_reach_11 : decode cX3_reach 11 = .ok (.aload_n 0, 1) := by decide +kernel
theorem dX3_reach_12 : decode cX3_reach 12 = .ok (.getfield 31, 3) := by decide +kernel
theorem dX3_reach_15 : decode cX3_reach 15 = .ok (.if_icmp .ge 88, 3) := by decide +kernel
theorem dX3_reach_18 : decode cX3_reach 18 = .ok (.iconst 1, 1) := by decide +kernel
theorem dX3_reach_19 : decode cX3_reach 19 = .ok (.iload_n 3, 1) := by decide +kernel
theorem dX3_reach_20 : decode cX3_reach 20 = .ok (.ishl, 1) := by decide +kernel
theorem dX3_reach_21 : decode cX3_reach 21 = .ok (.istore 4, 2) := by decide +kernel
theorem dX3_reach_23 : decode cX3_reach 23 = .ok (.aload_n 0, 1) := by decide +kernel
theorem dX3_reach_24 : decode cX3_reach 24 = .ok (.getfield 9, 3) := by decide +kernel
theorem dX3_reach_27 : decode cX3_reach 27 = .ok (.iload_n 1, 1) := by decide +kernel
theorem dX3_reach_28 : decode cX3_reach 28 = .ok (.iaload, 1) := by decide +kernel
theorem dX3_reach_29 : decode cX3_reach 29 = .ok (.iload 4, 2) := by decide +kernel
theorem dX3_reach_31 : decode cX3_reach 31 = .ok (.iand, 1) := by decide +kernel
theorem dX3_reach_32 : decode cX3_reach 32 = .ok (.ifCond .eq 65, 3) := by decide +kernel
theorem dX3_reach_35 : decode cX3_reach 35 = .ok (.aload_n 0, 1) := by decide +kernel
theorem dX3_reach_36 : decode cX3_reach 36 = .ok (.getfield 37, 3) := by decide +kernel
theorem dX3_reach_39 : decode cX3_reach 39 = .ok (.iload 4, 2) := by decide +kernel
theorem dX3_reach_41 : decode cX3_reach 41 = .ok (.iand, 1) := by decide +kernel
theorem dX3_reach_42 : decode cX3_reach 42 = .ok (.ifCond .ne 55, 3) := by decide +kernel
theorem dX3_reach_45 : decode cX3_reach 45 = .ok (.aload_n 0, 1) := by decide +kernel
theorem dX3_reach_46 : decode cX3_reach 46 = .ok (.dup, 1) := by decide +kernel
theorem dX3_reach_47 : decode cX3_reach 47 = .ok (.getfield 37, 3) := by decide +kernel
theorem dX3_reach_50 : decode cX3_reach 50 = .ok (.iload 4, 2) := by decide +kernel
theorem dX3_reach_52 : decode cX3_reach 52 = .ok (.ior, 1) := by decide +kernel
theorem dX3_reach_53 : decode cX3_reach 53 = .ok (.putfield 37, 3) := by decide +kernel
theorem dX3_reach_56 : decode cX3_reach 56 = .ok (.aload_n 0, 1) := by decide +kernel
theorem dX3_reach_57 : decode cX3_reach 57 = .ok (.getfield 18, 3) := by decide +kernel
theorem dX3_reach_60 : decode cX3_reach 60 = .ok (.iload_n 3, 1) := by decide +kernel
theorem dX3_reach_61 : decode cX3_reach 61 = .ok (.iaload, 1) := by decide +kernel
theorem dX3_reach_62 : decode cX3_reach 62 = .ok (.ifCond .lt 19, 3) := by decide +kernel
theorem dX3_reach_65 : decode cX3_reach 65 = .ok (.aload_n 0, 1) := by decide +kernel
theorem dX3_reach_66 : decode cX3_reach 66 = .ok (.aload_n 0, 1) := by decide +kernel
theorem dX3_reach_67 : decode cX3_reach 67 = .ok (.getfield 18, 3) := by decide +kernel
theorem dX3_reach_70 : decode cX3_reach 70 = .ok (.iload_n 3, 1) := by decide +kernel
theorem dX3_reach_71 : decode cX3_reach 71 = .ok (.iaload, 1) := by decide +kernel
theorem dX3_reach_72 : decode cX3_reach 72 = .ok (.iload_n 2, 1) := by decide +kernel
theorem dX3_reach_73 : decode cX3_reach 73 = .ok (.iconst 1, 1) := by decide +kernel
theorem dX3_reach_74 : decode cX3_reach 74 = .ok (.iadd, 1) := by decide +kernel
theorem dX3_reach_75 : decode cX3_reach 75 = .ok (.invokevirtual 49, 3) := by decide +kernel
theorem dX3_reach_78 : decode cX3_reach 78 = .ok (.ifCond .eq 19, 3) := by decide +kernel
theorem dX3_reach_81 : decode cX3_reach 81 = .ok (.aload_n 0, 1) := by decide +kernel
theorem dX3_reach_82 : decode cX3_reach 82 = .ok (.getfield 15, 3) := by decide +kernel
theorem dX3_reach_85 : decode cX3_reach 85 = .ok (.iload_n 1, 1) := by decide +kernel
theorem dX3_reach_86 : decode cX3_reach 86 = .ok (.iload_n 3, 1) := by decide +kernel
theorem dX3_reach_87 : decode cX3_reach 87 = .ok (.iastore, 1) := by decide +kernel
theorem dX3_reach_88 : decode cX3_reach 88 = .ok (.aload_n 0, 1) := by decide +kernel
theorem dX3_reach_89 : decode cX3_reach 89 = .ok (.getfield 18, 3) := by decide +kernel
theorem dX3_reach_92 : decode cX3_reach 92 = .ok (.iload_n 3, 1) := by decide +kernel
theorem dX3_reach_93 : decode cX3_reach 93 = .ok (.iload_n 1, 1) := by decide +kernel
theorem dX3_reach_94 : decode cX3_reach 94 = .ok (.iastore, 1) := by decide +kernel
theorem dX3_reach_95 : decode cX3_reach 95 = .ok (.iconst 1, 1) := by decide +kernel
theorem dX3_reach_96 : decode cX3_reach 96 = .ok (.ireturn, 1) := by decide +kernel
theorem dX3_reach_97 : decode cX3_reach 97 = .ok (.iinc 3 1, 3) := by decide +kernel
theorem dX3_reach_100 : decode cX3_reach 100 = .ok (.goto (-90), 3) := by decide +kernel
theorem dX3_reach_103 : decode cX3_reach 103 = .ok (.iconst 0, 1) := by decide +kernel
theorem dX3_reach_104 : decode cX3_reach 104 = .ok (.ireturn, 1) := by decide +kernel
theorem dX3_keep_0 : decode cX3_keep 0 = .ok (.iconst 0, 1) := by decide +kernel
theorem dX3_keep_1 : decode cX3_keep 1 = .ok (.istore_n 1, 1) := by decide +kernel
theorem dX3_keep_2 : decode cX3_keep 2 = .ok (.iload_n 1, 1) := by decide +kernel
theorem dX3_keep_3 : decode cX3_keep 3 = .ok (.bipush 12, 2) := by decide +kernel
theorem dX3_keep_5 : decode cX3_keep 5 = .ok (.if_icmp .ge 33, 3) := by decide +kernel
theorem dX3_keep_8 : decode cX3_keep 8 = .ok (.aload_n 0, 1) := by decide +kernel
theorem dX3_keep_9 : decode cX3_keep 9 = .ok (.getfield 21, 3) := by decide +kernel
theorem dX3_keep_12 : decode cX3_keep 12 = .ok (.iload_n 1, 1) := by decide +kernel
theorem dX3_keep_13 : decode cX3_keep 13 = .ok (.aload_n 0, 1) := by decide +kernel
theorem dX3_keep_14 : decode cX3_keep 14 = .ok (.getfield 15, 3) := by decide +kernel
theorem dX3_keep_17 : decode cX3_keep 17 = .ok (.iload_n 1, 1) := by decide +kernel
theorem dX3_keep_18 : decode cX3_keep 18 = .ok (.iaload, 1) := by decide +kernel
theorem dX3_keep_19 : decode cX3_keep 19 = .ok (.iastore, 1) := by decide +kernel
theorem dX3_keep_20 : decode cX3_keep 20 = .ok (.aload_n 0, 1) := by decide +kernel
theorem dX3_keep_21 : decode cX3_keep 21 = .ok (.getfield 24, 3) := by decide +kernel
theorem dX3_keep_24 : decode cX3_keep 24 = .ok (.iload_n 1, 1) := by decide +kernel
theorem dX3_keep_25 : decode cX3_keep 25 = .ok (.aload_n 0, 1) := by decide +kernel
theorem dX3_keep_26 : decode cX3_keep 26 = .ok (.getfield 18, 3) := by decide +kernel
theorem dX3_keep_29 : decode cX3_keep 29 = .ok (.iload_n 1, 1) := by decide +kernel
theorem dX3_keep_30 : decode cX3_keep 30 = .ok (.iaload, 1) := by decide +kernel
theorem dX3_keep_31 : decode cX3_keep 31 = .ok (.iastore, 1) := by decide +kernel
theorem dX3_keep_32 : decode cX3_keep 32 = .ok (.iinc 1 1, 3) := by decide +kernel
theorem dX3_keep_35 : decode cX3_keep 35 = .ok (.goto (-33), 3) := by decide +kernel
theorem dX3_keep_38 : decode cX3_keep 38 = .ok (.return_, 1) := by decide +kernel
theorem dX3_restore_0 : decode cX3_restore 0 = .ok (.iconst 0, 1) := by decide +kernel
theorem dX3_restore_1 : decode cX3_restore 1 = .ok (.istore_n 1, 1) := by decide +kernel
theorem dX3_restore_2 : decode cX3_restore 2 = .ok (.iload_n 1, 1) := by decide +kernel
theorem dX3_restore_3 : decode cX3_restore 3 = .ok (.bipush 12, 2) := by decide +kernel
theorem dX3_restore_5 : decode cX3_restore 5 = .ok (.if_icmp .ge 33, 3) := by decide +kernel
theorem dX3_restore_8 : decode cX3_restore 8 = .ok (.aload_n 0, 1) := by decide +kernel
theorem dX3_restore_9 : decode cX3_restore 9 = .ok (.getfield 15, 3) := by decide +kernel
theorem dX3_restore_12 : decode cX3_restore 12 = .ok (.iload_n 1, 1) := by decide +kernel
theorem dX3_restore_13 : decode cX3_restore 13 = .ok (.aload_n 0, 1) := by decide +kernel
theorem dX3_restore_14 : decode cX3_restore 14 = .ok (.getfield 21, 3) := by decide +kernel
theorem dX3_restore_17 : decode cX3_restore 17 = .ok (.iload_n 1, 1) := by decide +kernel
theorem dX3_restore_18 : decode cX3_restore 18 = .ok (.iaload, 1) := by decide +kernel
theorem dX3_restore_19 : decode cX3_restore 19 = .ok (.iastore, 1) := by decide +kernel
theorem dX3_restore_20 : decode cX3_restore 20 = .ok (.aload_n 0, 1) := by decide +kernel
theorem dX3_restore_21 : decode cX3_restore 21 = .ok (.getfield 18, 3) := by decide +kernel
theorem dX3_restore_24 : decode cX3_restore 24 = .ok (.iload_n 1, 1) := by decide +kernel
theorem dX3_restore_25 : decode cX3_restore 25 = .ok (.aload_n 0, 1) := by decide +kernel
theorem dX3_restore_26 : decode cX3_restore 26 = .ok (.getfield 24, 3) := by decide +kernel
theorem dX3_restore_29 : decode cX3_restore 29 = .ok (.iload_n 1, 1) := by decide +kernel
theorem dX3_restore_30 : decode cX3_restore 30 = .ok (.iaload, 1) := by decide +kernel
theorem dX3_restore_31 : decode cX3_restore 31 = .ok (.iastore, 1) := by decide +kernel
theorem dX3_restore_32 : decode cX3_restore 32 = .ok (.iinc 1 1, 3) := by decide +kernel
theorem dX3_restore_35 : decode cX3_restore 35 = .ok (.goto (-33), 3) := by decide +kernel
theorem dX3_restore_38 : decode cX3_restore 38 = .ok (.return_, 1) := by decide +kernel
theorem dX4_init_0 : decode cX4_init 0 = .ok (.aload_n 0, 1) := by decide +kernel
theorem dX4_init_1 : decode cX4_init 1 = .ok (.invokespecial 3, 3) := by decide +kernel
theorem dX4_init_4 : decode cX4_init 4 = .ok (.aload_n 0, 1) := by decide +kernel
theorem dX4_init_5 : decode cX4_init 5 = .ok (.iconst 4, 1) := by decide +kernel
theorem dX4_init_6 : decode cX4_init 6 = .ok (.newarray .int, 2) := by decide +kernel
theorem dX4_init_8 : decode cX4_init 8 = .ok (.putfield 9, 3) := by decide +kernel
theorem dX4_init_11 : decode cX4_init 11 = .ok (.aload_n 0, 1) := by decide +kernel
theorem dX4_init_12 : decode cX4_init 12 = .ok (.iconst 4, 1) := by decide +kernel
theorem dX4_init_13 : decode cX4_init 13 = .ok (.newarray .int, 2) := by decide +kernel
theorem dX4_init_15 : decode cX4_init 15 = .ok (.putfield 15, 3) := by decide +kernel
theorem dX4_init_18 : decode cX4_init 18 = .ok (.aload_n 0, 1) := by decide +kernel
theorem dX4_init_19 : decode cX4_init 19 = .ok (.iconst 4, 1) := by decide +kernel
theorem dX4_init_20 : decode cX4_init 20 = .ok (.newarray .int, 2) := by decide +kernel
theorem dX4_init_22 : decode cX4_init 22 = .ok (.putfield 18, 3) := by decide +kernel
theorem dX4_init_25 : decode cX4_init 25 = .ok (.return_, 1) := by decide +kernel
theorem dX4_clear_0 : decode cX4_clear 0 = .ok (.iconst 0, 1) := by decide +kernel
theorem dX4_clear_1 : decode cX4_clear 1 = .ok (.istore_n 1, 1) := by decide +kernel
theorem dX4_clear_2 : decode cX4_clear 2 = .ok (.iload_n 1, 1) := by decide +kernel
theorem dX4_clear_3 : decode cX4_clear 3 = .ok (.iconst 4, 1) := by decide +kernel
theorem dX4_clear_4 : decode cX4_clear 4 = .ok (.if_icmp .ge 30, 3) := by decide +kernel
theorem dX4_clear_7 : decode cX4_clear 7 = .ok (.aload_n 0, 1) := by decide +kernel
theorem dX4_clear_8 : decode cX4_clear 8 = .ok (.getfield 9, 3) := by decide +kernel
theorem dX4_clear_11 : decode cX4_clear 11 = .ok (.iload_n 1, 1) := by decide +kernel
theorem dX4_clear_12 : decode cX4_clear 12 = .ok (.iconst 0, 1) := by decide +kernel
theorem dX4_clear_13 : decode cX4_clear 13 = .ok (.iastore, 1) := by decide +kernel
theorem dX4_clear_14 : decode cX4_clear 14 = .ok (.aload_n 0, 1) := by decide +kernel
theorem dX4_clear_15 : decode cX4_clear 15 = .ok (.getfield 15, 3) := by decide +kernel
theorem dX4_clear_18 : decode cX4_clear 18 = .ok (.iload_n 1, 1) := by decide +kernel
theorem dX4_clear_19 : decode cX4_clear 19 = .ok (.iconst 0, 1) := by decide +kernel
theorem dX4_clear_20 : decode cX4_clear 20 = .ok (.iastore, 1) := by decide +kernel
theorem dX4_clear_21 : decode cX4_clear 21 = .ok (.aload_n 0, 1) := by decide +kernel
theorem dX4_clear_22 : decode cX4_clear 22 = .ok (.getfield 18, 3) := by decide +kernel
theorem dX4_clear_25 : decode cX4_clear 25 = .ok (.iload_n 1, 1) := by decide +kernel
theorem dX4_clear_26 : decode cX4_clear 26 = .ok (.iconst 0, 1) := by decide +kernel
theorem dX4_clear_27 : decode cX4_clear 27 = .ok (.iastore, 1) := by decide +kernel
theorem dX4_clear_28 : decode cX4_clear 28 = .ok (.iinc 1 1, 3) := by decide +kernel
theorem dX4_clear_31 : decode cX4_clear 31 = .ok (.goto (-29), 3) := by decide +kernel
theorem dX4_clear_34 : decode cX4_clear 34 = .ok (.return_, 1) := by decide +kernel
theorem dX4_sum_0 : decode cX4_sum 0 = .ok (.iconst 0, 1) := by decide +kernel
theorem dX4_sum_1 : decode cX4_sum 1 = .ok (.istore_n 1, 1) := by decide +kernel
theorem dX4_sum_2 : decode cX4_sum 2 = .ok (.iconst 0, 1) := by decide +kernel
theorem dX4_sum_3 : decode cX4_sum 3 = .ok (.istore_n 2, 1) := by decide +kernel
theorem dX4_sum_4 : decode cX4_sum 4 = .ok (.iload_n 2, 1) := by decide +kernel
theorem dX4_sum_5 : decode cX4_sum 5 = .ok (.iconst 4, 1) := by decide +kernel
theorem dX4_sum_6 : decode cX4_sum 6 = .ok (.if_icmp .ge 15, 3) := by decide +kernel
theorem dX4_sum_9 : decode cX4_sum 9 = .ok (.iload_n 1, 1) := by decide +kernel
theorem dX4_sum_10 : decode cX4_sum 10 = .ok (.aload_n 0, 1) := by decide +kernel
theorem dX4_sum_11 : decode cX4_sum 11 = .ok (.iload_n 2, 1) := by decide +kernel
theorem dX4_sum_12 : decode cX4_sum 12 = .ok (.iaload, 1) := by decide +kernel
theorem dX4_sum_13 : decode cX4_sum 13 = .ok (.iadd, 1) := by decide +kernel
theorem dX4_sum_14 : decode cX4_sum 14 = .ok (.istore_n 1, 1) := by decide +kernel
theorem dX4_sum_15 : decode cX4_sum 15 = .ok (.iinc 2 1, 3) := by decide +kernel
theorem dX4_sum_18 : decode cX4_sum 18 = .ok (.goto (-14), 3) := by decide +kernel
theorem dX4_sum_21 : decode cX4_sum 21 = .ok (.iload_n 1, 1) := by decide +kernel
theorem dX4_sum_22 : decode cX4_sum 22 = .ok (.ireturn, 1) := by decide +kernel
theorem dX4_thousandths_0 : decode cX4_thousandths 0 = .ok (.aload_n 0, 1) := by decide +kernel
theorem dX4_thousandths_1 : decode cX4_thousandths 1 = .ok (.getfield 9, 3) := by decide +kernel
theorem dX4_thousandths_4 : decode cX4_thousandths 4 = .ok (.invokestatic 21, 3) := by decide +kernel
theorem dX4_thousandths_7 : decode cX4_thousandths 7 = .ok (.istore_n 1, 1) := by decide +kernel
theorem dX4_thousandths_8 : decode cX4_thousandths 8 = .ok (.aload_n 0, 1) := by decide +kernel
theorem dX4_thousandths_9 : decode cX4_thousandths 9 = .ok (.getfield 15, 3) := by decide +kernel
theorem dX4_thousandths_12 : decode cX4_thousandths 12 = .ok (.invokestatic 21, 3) := by decide +kernel
theorem dX4_thousandths_15 : decode cX4_thousandths 15 = .ok (.istore_n 2, 1) := by decide +kernel
theorem dX4_thousandths_16 : decode cX4_thousandths 16 = .ok (.lconst 0, 1) := by decide +kernel
theorem dX4_thousandths_17 : decode cX4_thousandths 17 = .ok (.lstore_n 3, 1) := by decide +kernel
theorem dX4_thousandths_18 : decode cX4_thousandths 18 = .ok (.lconst 1, 1) := by decide +kernel
theorem dX4_thousandths_19 : decode cX4_thousandths 19 = .ok (.lstore 5, 2) := by decide +kernel
theorem dX4_thousandths_21 : decode cX4_thousandths 21 = .ok (.iconst 0, 1) := by decide +kernel
theorem dX4_thousandths_22 : decode cX4_thousandths 22 = .ok (.istore 7, 2) := by decide +kernel
theorem dX4_thousandths_24 : decode cX4_thousandths 24 = .ok (.iload 7, 2) := by decide +kernel
theorem dX4_thousandths_26 : decode cX4_thousandths 26 = .ok (.iconst 4, 1) := by decide +kernel
theorem dX4_thousandths_27 : decode cX4_thousandths 27 = .ok (.if_icmp .ge 93, 3) := by decide +kernel
theorem dX4_thousandths_30 : decode cX4_thousandths 30 = .ok (.aload_n 0, 1) := by decide +kernel
theorem dX4_thousandths_31 : decode cX4_thousandths 31 = .ok (.getfield 15, 3) := by decide +kernel
theorem dX4_thousandths_34 : decode cX4_thousandths 34 = .ok (.iload 7, 2) := by decide +kernel
theorem dX4_thousandths_36 : decode cX4_thousandths 36 = .ok (.iaload, 1) := by decide +kernel
theorem dX4_thousandths_37 : decode cX4_thousandths 37 = .ok (.ifCond .le 14, 3) := by decide +kernel
theorem dX4_thousandths_40 : decode cX4_thousandths 40 = .ok (.aload_n 0, 1) := by decide +kernel
theorem dX4_thousandths_41 : decode cX4_thousandths 41 = .ok (.getfield 9, 3) := by decide +kernel
theorem dX4_thousandths_44 : decode cX4_thousandths 44 = .ok (.iload 7, 2) := by decide +kernel
theorem dX4_thousandths_46 : decode cX4_thousandths 46 = .ok (.iaload, 1) := by decide +kernel
theorem dX4_thousandths_47 : decode cX4_thousandths 47 = .ok (.i2l, 1) := by decide +kernel
theorem dX4_thousandths_48 : decode cX4_thousandths 48 = .ok (.goto 5, 3) := by decide +kernel
theorem dX4_thousandths_51 : decode cX4_thousandths 51 = .ok (.iload_n 1, 1) := by decide +kernel
theorem dX4_thousandths_52 : decode cX4_thousandths 52 = .ok (.i2l, 1) := by decide +kernel
theorem dX4_thousandths_53 : decode cX4_thousandths 53 = .ok (.lstore 8, 2) := by decide +kernel
theorem dX4_thousandths_55 : decode cX4_thousandths 55 = .ok (.aload_n 0, 1) := by decide +kernel
theorem dX4_thousandths_56 : decode cX4_thousandths 56 = .ok (.getfield 15, 3) := by decide +kernel
theorem dX4_thousandths_59 : decode cX4_thousandths 59 = .ok (.iload 7, 2) := by decide +kernel
theorem dX4_thousandths_61 : decode cX4_thousandths 61 = .ok (.iaload, 1) := by decide +kernel
theorem dX4_thousandths_62 : decode cX4_thousandths 62 = .ok (.ifCond .le 14, 3) := by decide +kernel
theorem dX4_thousandths_65 : decode cX4_thousandths 65 = .ok (.aload_n 0, 1) := by decide +kernel
theorem dX4_thousandths_66 : decode cX4_thousandths 66 = .ok (.getfield 15, 3) := by decide +kernel
theorem dX4_thousandths_69 : decode cX4_thousandths 69 = .ok (.iload 7, 2) := by decide +kernel
theorem dX4_thousandths_71 : decode cX4_thousandths 71 = .ok (.iaload, 1) := by decide +kernel
theorem dX4_thousandths_72 : decode cX4_thousandths 72 = .ok (.i2l, 1) := by decide +kernel
theorem dX4_thousandths_73 : decode cX4_thousandths 73 = .ok (.goto 5, 3) := by decide +kernel
theorem dX4_thousandths_76 : decode cX4_thousandths 76 = .ok (.iload_n 2, 1) := by decide +kernel
theorem dX4_thousandths_77 : decode cX4_thousandths 77 = .ok (.i2l, 1) := by decide +kernel
theorem dX4_thousandths_78 : decode cX4_thousandths 78 = .ok (.lstore 10, 2) := by decide +kernel
theorem dX4_thousandths_80 : decode cX4_thousandths 80 = .ok (.lload 10, 2) := by decide +kernel
theorem dX4_thousandths_82 : decode cX4_thousandths 82 = .ok (.lconst 0, 1) := by decide +kernel
theorem dX4_thousandths_83 : decode cX4_thousandths 83 = .ok (.lcmp, 1) := by decide +kernel
theorem dX4_thousandths_84 : decode cX4_thousandths 84 = .ok (.ifCond .le 30, 3) := by decide +kernel
theorem dX4_thousandths_87 : decode cX4_thousandths 87 = .ok (.lload_n 3, 1) := by decide +kernel
theorem dX4_thousandths_88 : decode cX4_thousandths 88 = .ok (.lload 10, 2) := by decide +kernel
theorem dX4_thousandths_90 : decode cX4_thousandths 90 = .ok (.lmul, 1) := by decide +kernel
theorem dX4_thousandths_91 : decode cX4_thousandths 91 = .ok (.aload_n 0, 1) := by decide +kernel
theorem dX4_thousandths_92 : decode cX4_thousandths 92 = .ok (.getfield 18, 3) := by decide +kernel
theorem dX4_thousandths_95 : decode cX4_thousandths 95 = .ok (.iload 7, 2) := by decide +kernel
theorem dX4_thousandths_97 : decode cX4_thousandths 97 = .ok (.iaload, 1) := by decide +kernel
theorem dX4_thousandths_98 : decode cX4_thousandths 98 = .ok (.i2l, 1) := by decide +kernel
theorem dX4_thousandths_99 : decode cX4_thousandths 99 = .ok (.lload 8, 2) := by decide +kernel
theorem dX4_thousandths_101 : decode cX4_thousandths 101 = .ok (.lmul, 1) := by decide +kernel
theorem dX4_thousandths_102 : decode cX4_thousandths 102 = .ok (.lload 5, 2) := by decide +kernel
theorem dX4_thousandths_104 : decode cX4_thousandths 104 = .ok (.lmul, 1) := by decide +kernel
theorem dX4_thousandths_105 : decode cX4_thousandths 105 = .ok (.ladd, 1) := by decide +kernel
theorem dX4_thousandths_106 : decode cX4_thousandths 106 = .ok (.lstore_n 3, 1) := by decide +kernel
theorem dX4_thousandths_107 : decode cX4_thousandths 107 = .ok (.lload 5, 2) := by decide +kernel
theorem dX4_thousandths_109 : decode cX4_thousandths 109 = .ok (.lload 10, 2) := by decide +kernel
theorem dX4_thousandths_111 : decode cX4_thousandths 111 = .ok (.lmul, 1) := by decide +kernel
theorem dX4_thousandths_112 : decode cX4_thousandths 112 = .ok (.lstore 5, 2) := by decide +kernel
theorem dX4_thousandths_114 : decode cX4_thousandths 114 = .ok (.iinc 7 1, 3) := by decide +kernel
theorem dX4_thousandths_117 : decode cX4_thousandths 117 = .ok (.goto (-93), 3) := by decide +kernel
theorem dX4_thousandths_120 : decode cX4_thousandths 120 = .ok (.lload 5, 2) := by decide +kernel
theorem dX4_thousandths_122 : decode cX4_thousandths 122 = .ok (.lconst 0, 1) := by decide +kernel
theorem dX4_thousandths_123 : decode cX4_thousandths 123 = .ok (.lcmp, 1) := by decide +kernel
theorem dX4_thousandths_124 : decode cX4_thousandths 124 = .ok (.ifCond .gt 5, 3) := by decide +kernel
theorem dX4_thousandths_127 : decode cX4_thousandths 127 = .ok (.iconst 0, 1) := by decide +kernel
theorem dX4_thousandths_128 : decode cX4_thousandths 128 = .ok (.ireturn, 1) := by decide +kernel
theorem dX4_thousandths_129 : decode cX4_thousandths 129 = .ok (.ldc2_w 25, 3) := by decide +kernel
theorem dX4_thousandths_132 : decode cX4_thousandths 132 = .ok (.lload_n 3, 1) := by decide +kernel
theorem dX4_thousandths_133 : decode cX4_thousandths 133 = .ok (.lmul, 1) := by decide +kernel
theorem dX4_thousandths_134 : decode cX4_thousandths 134 = .ok (.lload 5, 2) := by decide +kernel
theorem dX4_thousandths_136 : decode cX4_thousandths 136 = .ok (.ldiv, 1) := by decide +kernel
theorem dX4_thousandths_137 : decode cX4_thousandths 137 = .ok (.l2i, 1) := by decide +kernel
theorem dX4_thousandths_138 : decode cX4_thousandths 138 = .ok (.ireturn, 1) := by decide +kernel
theorem dX5_init_0 : decode cX5_init 0 = .ok (.aload_n 0, 1) := by decide +kernel
theorem dX5_init_1 : decode cX5_init 1 = .ok (.invokespecial 3, 3) := by decide +kernel
theorem dX5_init_4 : decode cX5_init 4 = .ok (.aload_n 0, 1) := by decide +kernel
theorem dX5_init_5 : decode cX5_init 5 = .ok (.bipush 20, 2) := by decide +kernel
theorem dX5_init_7 : decode cX5_init 7 = .ok (.newarray .int, 2) := by decide +kernel
theorem dX5_init_9 : decode cX5_init 9 = .ok (.putfield 9, 3) := by decide +kernel
theorem dX5_init_12 : decode cX5_init 12 = .ok (.aload_n 0, 1) := by decide +kernel
theorem dX5_init_13 : decode cX5_init 13 = .ok (.bipush 20, 2) := by decide +kernel
theorem dX5_init_15 : decode cX5_init 15 = .ok (.newarray .int, 2) := by decide +kernel
theorem dX5_init_17 : decode cX5_init 17 = .ok (.putfield 15, 3) := by decide +kernel
theorem dX5_init_20 : decode cX5_init 20 = .ok (.aload_n 0, 1) := by decide +kernel
theorem dX5_init_21 : decode cX5_init 21 = .ok (.bipush 20, 2) := by decide +kernel
theorem dX5_init_23 : decode cX5_init 23 = .ok (.newarray .int, 2) := by decide +kernel
theorem dX5_init_25 : decode cX5_init 25 = .ok (.putfield 18, 3) := by decide +kernel
theorem dX5_init_28 : decode cX5_init 28 = .ok (.aload_n 0, 1) := by decide +kernel
theorem dX5_init_29 : decode cX5_init 29 = .ok (.aload_n 1, 1) := by decide +kernel
theorem dX5_init_30 : decode cX5_init 30 = .ok (.putfield 21, 3) := by decide +kernel
theorem dX5_init_33 : decode cX5_init 33 = .ok (.return_, 1) := by decide +kernel
theorem dX5_clear_0 : decode cX5_clear 0 = .ok (.iconst 0, 1) := by decide +kernel
theorem dX5_clear_1 : decode cX5_clear 1 = .ok (.istore_n 1, 1) := by decide +kernel
theorem dX5_clear_2 : decode cX5_clear 2 = .ok (.iload_n 1, 1) := by decide +kernel
theorem dX5_clear_3 : decode cX5_clear 3 = .ok (.bipush 20, 2) := by decide +kernel
theorem dX5_clear_5 : decode cX5_clear 5 = .ok (.if_icmp .ge 23, 3) := by decide +kernel
theorem dX5_clear_8 : decode cX5_clear 8 = .ok (.aload_n 0, 1) := by decide +kernel
theorem dX5_clear_9 : decode cX5_clear 9 = .ok (.getfield 9, 3) := by decide +kernel
theorem dX5_clear_12 : decode cX5_clear 12 = .ok (.iload_n 1, 1) := by decide +kernel
theorem dX5_clear_13 : decode cX5_clear 13 = .ok (.iconst 0, 1) := by decide +kernel
theorem dX5_clear_14 : decode cX5_clear 14 = .ok (.iastore, 1) := by decide +kernel
theorem dX5_clear_15 : decode cX5_clear 15 = .ok (.aload_n 0, 1) := by decide +kernel
theorem dX5_clear_16 : decode cX5_clear 16 = .ok (.getfield 15, 3) := by decide +kernel
theorem dX5_clear_19 : decode cX5_clear 19 = .ok (.iload_n 1, 1) := by decide +kernel
theorem dX5_clear_20 : decode cX5_clear 20 = .ok (.iconst 0, 1) := by decide +kernel
theorem dX5_clear_21 : decode cX5_clear 21 = .ok (.iastore, 1) := by decide +kernel
theorem dX5_clear_22 : decode cX5_clear 22 = .ok (.iinc 1 1, 3) := by decide +kernel
theorem dX5_clear_25 : decode cX5_clear 25 = .ok (.goto (-23), 3) := by decide +kernel
theorem dX5_clear_28 : decode cX5_clear 28 = .ok (.return_, 1) := by decide +kernel
theorem dX5_ownUnder_0 : decode cX5_ownUnder 0 = .ok (.iconst 0, 1) := by decide +kernel
theorem dX5_ownUnder_1 : decode cX5_ownUnder 1 = .ok (.istore_n 2, 1) := by decide +kernel
theorem dX5_ownUnder_2 : decode cX5_ownUnder 2 = .ok (.iconst 0, 1) := by decide +kernel
theorem dX5_ownUnder_3 : decode cX5_ownUnder 3 = .ok (.istore_n 3, 1) := by decide +kernel
theorem dX5_ownUnder_4 : decode cX5_ownUnder 4 = .ok (.iload_n 3, 1) := by decide +kernel
theorem dX5_ownUnder_5 : decode cX5_ownUnder 5 = .ok (.aload_n 0, 1) := by decide +kernel
theorem dX5_ownUnder_6 : decode cX5_ownUnder 6 = .ok (.getfield 21, 3) := by decide +kernel
theorem dX5_ownUnder_9 : decode cX5_ownUnder 9 = .ok (.getfield 25, 3) := by decide +kernel
theorem dX5_ownUnder_12 : decode cX5_ownUnder 12 = .ok (.if_icmp .ge 30, 3) := by decide +kernel
theorem dX5_ownUnder_15 : decode cX5_ownUnder 15 = .ok (.aload_n 0, 1) := by decide +kernel
theorem dX5_ownUnder_16 : decode cX5_ownUnder 16 = .ok (.getfield 21, 3) := by decide +kernel
theorem dX5_ownUnder_19 : decode cX5_ownUnder 19 = .ok (.iload_n 3, 1) := by decide +kernel
theorem dX5_ownUnder_20 : decode cX5_ownUnder 20 = .ok (.iload_n 1, 1) := by decide +kernel
theorem dX5_ownUnder_21 : decode cX5_ownUnder 21 = .ok (.invokevirtual 31, 3) := by decide +kernel
theorem dX5_ownUnder_24 : decode cX5_ownUnder 24 = .ok (.ifCond .eq 12, 3) := by decide +kernel
theorem dX5_ownUnder_27 : decode cX5_ownUnder 27 = .ok (.iload_n 2, 1) := by decide +kernel
theorem dX5_ownUnder_28 : decode cX5_ownUnder 28 = .ok (.aload_n 0, 1) := by decide +kernel
theorem dX5_ownUnder_29 : decode cX5_ownUnder 29 = .ok (.getfield 9, 3) := by decide +kernel
theorem dX5_ownUnder_32 : decode cX5_ownUnder 32 = .ok (.iload_n 3, 1) := by decide +kernel
theorem dX5_ownUnder_33 : decode cX5_ownUnder 33 = .ok (.iaload, 1) := by decide +kernel
theorem dX5_ownUnder_34 : decode cX5_ownUnder 34 = .ok (.iadd, 1) := by decide +kernel
theorem dX5_ownUnder_35 : decode cX5_ownUnder 35 = .ok (.istore_n 2, 1) := by decide +kernel
theorem dX5_ownUnder_36 : decode cX5_ownUnder 36 = .ok (.iinc 3 1, 3) := by decide +kernel
theorem dX5_ownUnder_39 : decode cX5_ownUnder 39 = .ok (.goto (-35), 3) := by decide +kernel
theorem dX5_ownUnder_42 : decode cX5_ownUnder 42 = .ok (.iload_n 2, 1) := by decide +kernel
theorem dX5_ownUnder_43 : decode cX5_ownUnder 43 = .ok (.ireturn, 1) := by decide +kernel
theorem dX5_numberUnder_0 : decode cX5_numberUnder 0 = .ok (.iconst 0, 1) := by decide +kernel
theorem dX5_numberUnder_1 : decode cX5_numberUnder 1 = .ok (.istore_n 2, 1) := by decide +kernel
theorem dX5_numberUnder_2 : decode cX5_numberUnder 2 = .ok (.iconst 0, 1) := by decide +kernel
theorem dX5_numberUnder_3 : decode cX5_numberUnder 3 = .ok (.istore_n 3, 1) := by decide +kernel
theorem dX5_numberUnder_4 : decode cX5_numberUnder 4 = .ok (.iload_n 3, 1) := by decide +kernel
theorem dX5_numberUnder_5 : decode cX5_numberUnder 5 = .ok (.aload_n 0, 1) := by decide +kernel
theorem dX5_numberUnder_6 : decode cX5_numberUnder 6 = .ok (.getfield 21, 3) := by decide +kernel
theorem dX5_numberUnder_9 : decode cX5_numberUnder 9 = .ok (.getfield 25, 3) := by decide +kernel
theorem dX5_numberUnder_12 : decode cX5_numberUnder 12 = .ok (.if_icmp .ge 30, 3) := by decide +kernel
theorem dX5_numberUnder_15 : decode cX5_numberUnder 15 = .ok (.aload_n 0, 1) := by decide +kernel
theorem dX5_numberUnder_16 : decode cX5_numberUnder 16 = .ok (.getfield 21, 3) := by decide +kernel
theorem dX5_numberUnder_19 : decode cX5_numberUnder 19 = .ok (.iload_n 3, 1) := by decide +kernel
theorem dX5_numberUnder_20 : decode cX5_numberUnder 20 = .ok (.iload_n 1, 1) := by decide +kernel
theorem dX5_numberUnder_21 : decode cX5_numberUnder 21 = .ok (.invokevirtual 35, 3) := by decide +kernel
theorem dX5_numberUnder_24 : decode cX5_numberUnder 24 = .ok (.ifCond .eq 12, 3) := by decide +kernel
theorem dX5_numberUnder_27 : decode cX5_numberUnder 27 = .ok (.iload_n 2, 1) := by decide +kernel
theorem dX5_numberUnder_28 : decode cX5_numberUnder 28 = .ok (.aload_n 0, 1) := by decide +kernel
theorem dX5_numberUnder_29 : decode cX5_numberUnder 29 = .ok (.getfield 15, 3) := by decide +kernel
theorem dX5_numberUnder_32 : decode cX5_numberUnder 32 = .ok (.iload_n 3, 1) := by decide +kernel
theorem dX5_numberUnder_33 : decode cX5_numberUnder 33 = .ok (.iaload, 1) := by decide +kernel
theorem dX5_numberUnder_34 : decode cX5_numberUnder 34 = .ok (.iadd, 1) := by decide +kernel
theorem dX5_numberUnder_35 : decode cX5_numberUnder 35 = .ok (.istore_n 2, 1) := by decide +kernel
theorem dX5_numberUnder_36 : decode cX5_numberUnder 36 = .ok (.iinc 3 1, 3) := by decide +kernel
theorem dX5_numberUnder_39 : decode cX5_numberUnder 39 = .ok (.goto (-35), 3) := by decide +kernel
theorem dX5_numberUnder_42 : decode cX5_numberUnder 42 = .ok (.iload_n 2, 1) := by decide +kernel
theorem dX5_numberUnder_43 : decode cX5_numberUnder 43 = .ok (.ireturn, 1) := by decide +kernel
theorem dX5_partAll_0 : decode cX5_partAll 0 = .ok (.iconst 0, 1) := by decide +kernel
theorem dX5_partAll_1 : decode cX5_partAll 1 = .ok (.istore_n 1, 1) := by decide +kernel
theorem dX5_partAll_2 : decode cX5_partAll 2 = .ok (.iload_n 1, 1) := by decide +kernel
theorem dX5_partAll_3 : decode cX5_partAll 3 = .ok (.aload_n 0, 1) := by decide +kernel
theorem dX5_partAll_4 : decode cX5_partAll 4 = .ok (.getfield 21, 3) := by decide +kernel
theorem dX5_partAll_7 : decode cX5_partAll 7 = .ok (.getfield 25, 3) := by decide +kernel
theorem dX5_partAll_10 : decode cX5_partAll 10 = .ok (.if_icmp .ge 44, 3) := by decide +kernel
theorem dX5_partAll_13 : decode cX5_partAll 13 = .ok (.aload_n 0, 1) := by decide +kernel
theorem dX5_partAll_14 : decode cX5_partAll 14 = .ok (.getfield 21, 3) := by decide +kernel
theorem dX5_partAll_17 : decode cX5_partAll 17 = .ok (.getfield 38, 3) := by decide +kernel
theorem dX5_partAll_20 : decode cX5_partAll 20 = .ok (.iload_n 1, 1) := by decide +kernel
theorem dX5_partAll_21 : decode cX5_partAll 21 = .ok (.baload, 1) := by decide +kernel
theorem dX5_partAll_22 : decode cX5_partAll 22 = .ok (.ifCond .eq 21, 3) := by decide +kernel
theorem dX5_partAll_25 : decode cX5_partAll 25 = .ok (.aload_n 0, 1) := by decide +kernel
theorem dX5_partAll_26 : decode cX5_partAll 26 = .ok (.getfield 15, 3) := by decide +kernel
theorem dX5_partAll_29 : decode cX5_partAll 29 = .ok (.iload_n 1, 1) := by decide +kernel
theorem dX5_partAll_30 : decode cX5_partAll 30 = .ok (.dup2, 1) := by decide +kernel
theorem dX5_partAll_31 : decode cX5_partAll 31 = .ok (.iaload, 1) := by decide +kernel
theorem dX5_partAll_32 : decode cX5_partAll 32 = .ok (.aload_n 0, 1) := by decide +kernel
theorem dX5_partAll_33 : decode cX5_partAll 33 = .ok (.getfield 9, 3) := by decide +kernel
theorem dX5_partAll_36 : decode cX5_partAll 36 = .ok (.iload_n 1, 1) := by decide +kernel
theorem dX5_partAll_37 : decode cX5_partAll 37 = .ok (.iaload, 1) := by decide +kernel
theorem dX5_partAll_38 : decode cX5_partAll 38 = .ok (.iadd, 1) := by decide +kernel
theorem dX5_partAll_39 : decode cX5_partAll 39 = .ok (.iastore, 1) := by decide +kernel
theorem dX5_partAll_40 : decode cX5_partAll 40 = .ok (.goto 8, 3) := by decide +kernel
theorem dX5_partAll_43 : decode cX5_partAll 43 = .ok (.aload_n 0, 1) := by decide +kernel
theorem dX5_partAll_44 : decode cX5_partAll 44 = .ok (.iload_n 1, 1) := by decide +kernel
theorem dX5_partAll_45 : decode cX5_partAll 45 = .ok (.invokevirtual 42, 3) := by decide +kernel
theorem dX5_partAll_48 : decode cX5_partAll 48 = .ok (.iinc 1 1, 3) := by decide +kernel
theorem dX5_partAll_51 : decode cX5_partAll 51 = .ok (.goto (-49), 3) := by decide +kernel
theorem dX5_partAll_54 : decode cX5_partAll 54 = .ok (.return_, 1) := by decide +kernel
theorem dX5_part_0 : decode cX5_part 0 = .ok (.iconst 0, 1) := by decide +kernel
theorem dX5_part_1 : decode cX5_part 1 = .ok (.istore_n 2, 1) := by decide +kernel
theorem dX5_part_2 : decode cX5_part 2 = .ok (.iconst 0, 1) := by decide +kernel
theorem dX5_part_3 : decode cX5_part 3 = .ok (.istore_n 3, 1) := by decide +kernel
theorem dX5_part_4 : decode cX5_part 4 = .ok (.iconst 0, 1) := by decide +kernel
theorem dX5_part_5 : decode cX5_part 5 = .ok (.istore 4, 2) := by decide +kernel
theorem dX5_part_7 : decode cX5_part 7 = .ok (.iload 4, 2) := by decide +kernel
theorem dX5_part_9 : decode cX5_part 9 = .ok (.aload_n 0, 1) := by decide +kernel
theorem dX5_part_10 : decode cX5_part 10 = .ok (.getfield 21, 3) := by decide +kernel
theorem dX5_part_13 : decode cX5_part 13 = .ok (.getfield 25, 3) := by decide +kernel
theorem dX5_part_16 : decode cX5_part 16 = .ok (.if_icmp .ge 35, 3) := by decide +kernel
theorem dX5_part_19 : decode cX5_part 19 = .ok (.aload_n 0, 1) := by decide +kernel
theorem dX5_part_20 : decode cX5_part 20 = .ok (.getfield 21, 3) := by decide +kernel
theorem dX5_part_23 : decode cX5_part 23 = .ok (.iload 4, 2) := by decide +kernel
theorem dX5_part_25 : decode cX5_part 25 = .ok (.iload_n 1, 1) := by decide +kernel
theorem dX5_part_26 : decode cX5_part 26 = .ok (.invokevirtual 35, 3) := by decide +kernel
theorem dX5_part_29 : decode cX5_part 29 = .ok (.ifCond .eq 16, 3) := by decide +kernel
theorem dX5_part_32 : decode cX5_part 32 = .ok (.iload_n 2, 1) := by decide +kernel
theorem dX5_part_33 : decode cX5_part 33 = .ok (.aload_n 0, 1) := by decide +kernel
theorem dX5_part_34 : decode cX5_part 34 = .ok (.getfield 9, 3) := by decide +kernel
theorem dX5_part_37 : decode cX5_part 37 = .ok (.iload 4, 2) := by decide +kernel
theorem dX5_part_39 : decode cX5_part 39 = .ok (.iaload, 1) := by decide +kernel
theorem dX5_part_40 : decode cX5_part 40 = .ok (.iadd, 1) := by decide +kernel
theorem dX5_part_41 : decode cX5_part 41 = .ok (.istore_n 2, 1) := by decide +kernel
theorem dX5_part_42 : decode cX5_part 42 = .ok (.iinc 3 1, 3) := by decide +kernel
theorem dX5_part_45 : decode cX5_part 45 = .ok (.iinc 4 1, 3) := by decide +kernel
theorem dX5_part_48 : decode cX5_part 48 = .ok (.goto (-41), 3) := by decide +kernel
theorem dX5_part_51 : decode cX5_part 51 = .ok (.iload_n 2, 1) := by decide +kernel
theorem dX5_part_52 : decode cX5_part 52 = .ok (.ifCond .ne 7, 3) := by decide +kernel
theorem dX5_part_55 : decode cX5_part 55 = .ok (.iconst 1, 1) := by decide +kernel
theorem dX5_part_56 : decode cX5_part 56 = .ok (.goto 4, 3) := by decide +kernel
theorem dX5_part_59 : decode cX5_part 59 = .ok (.iconst 0, 1) := by decide +kernel
theorem dX5_part_60 : decode cX5_part 60 = .ok (.istore 4, 2) := by decide +kernel
theorem dX5_part_62 : decode cX5_part 62 = .ok (.iload 4, 2) := by decide +kernel
theorem dX5_part_64 : decode cX5_part 64 = .ok (.ifCond .eq 7, 3) := by decide +kernel
theorem dX5_part_67 : decode cX5_part 67 = .ok (.iload_n 3, 1) := by decide +kernel
theorem dX5_part_68 : decode cX5_part 68 = .ok (.goto 4, 3) := by decide +kernel
theorem dX5_part_71 : decode cX5_part 71 = .ok (.iload_n 2, 1) := by decide +kernel
theorem dX5_part_72 : decode cX5_part 72 = .ok (.istore 5, 2) := by decide +kernel
theorem dX5_part_74 : decode cX5_part 74 = .ok (.iload 5, 2) := by decide +kernel
theorem dX5_part_76 : decode cX5_part 76 = .ok (.ifCond .gt 4, 3) := by decide +kernel
theorem dX5_part_79 : decode cX5_part 79 = .ok (.return_, 1) := by decide +kernel
theorem dX5_part_80 : decode cX5_part 80 = .ok (.aload_n 0, 1) := by decide +kernel
theorem dX5_part_81 : decode cX5_part 81 = .ok (.getfield 9, 3) := by decide +kernel
theorem dX5_part_84 : decode cX5_part 84 = .ok (.iload_n 1, 1) := by decide +kernel
theorem dX5_part_85 : decode cX5_part 85 = .ok (.iaload, 1) := by decide +kernel
theorem dX5_part_86 : decode cX5_part 86 = .ok (.istore 6, 2) := by decide +kernel
theorem dX5_part_88 : decode cX5_part 88 = .ok (.iconst 0, 1) := by decide +kernel
theorem dX5_part_89 : decode cX5_part 89 = .ok (.istore 7, 2) := by decide +kernel
theorem dX5_part_91 : decode cX5_part 91 = .ok (.iload 7, 2) := by decide +kernel
theorem dX5_part_93 : decode cX5_part 93 = .ok (.aload_n 0, 1) := by decide +kernel
theorem dX5_part_94 : decode cX5_part 94 = .ok (.getfield 21, 3) := by decide +kernel
theorem dX5_part_97 : decode cX5_part 97 = .ok (.getfield 25, 3) := by decide +kernel
theorem dX5_part_100 : decode cX5_part 100 = .ok (.if_icmp .ge 92, 3) := by decide +kernel
theorem dX5_part_103 : decode cX5_part 103 = .ok (.aload_n 0, 1) := by decide +kernel
theorem dX5_part_104 : decode cX5_part 104 = .ok (.getfield 18, 3) := by decide +kernel
theorem dX5_part_107 : decode cX5_part 107 = .ok (.iload 7, 2) := by decide +kernel
theorem dX5_part_109 : decode cX5_part 109 = .ok (.iconst (-1), 1) := by decide +kernel
theorem dX5_part_110 : decode cX5_part 110 = .ok (.iastore, 1) := by decide +kernel
theorem dX5_part_111 : decode cX5_part 111 = .ok (.aload_n 0, 1) := by decide +kernel
theorem dX5_part_112 : decode cX5_part 112 = .ok (.getfield 21, 3) := by decide +kernel
theorem dX5_part_115 : decode cX5_part 115 = .ok (.iload 7, 2) := by decide +kernel
theorem dX5_part_117 : decode cX5_part 117 = .ok (.iload_n 1, 1) := by decide +kernel
theorem dX5_part_118 : decode cX5_part 118 = .ok (.invokevirtual 35, 3) := by decide +kernel
theorem dX5_part_121 : decode cX5_part 121 = .ok (.ifCond .eq 65, 3) := by decide +kernel
theorem dX5_part_124 : decode cX5_part 124 = .ok (.aload_n 0, 1) := by decide +kernel
theorem dX5_part_125 : decode cX5_part 125 = .ok (.getfield 9, 3) := by decide +kernel
theorem dX5_part_128 : decode cX5_part 128 = .ok (.iload_n 1, 1) := by decide +kernel
theorem dX5_part_129 : decode cX5_part 129 = .ok (.iaload, 1) := by decide +kernel
theorem dX5_part_130 : decode cX5_part 130 = .ok (.iload 4, 2) := by decide +kernel
theorem dX5_part_132 : decode cX5_part 132 = .ok (.ifCond .eq 7, 3) := by decide +kernel
theorem dX5_part_135 : decode cX5_part 135 = .ok (.iconst 1, 1) := by decide +kernel
theorem dX5_part_136 : decode cX5_part 136 = .ok (.goto 10, 3) := by decide +kernel
theorem dX5_part_139 : decode cX5_part 139 = .ok (.aload_n 0, 1) := by decide +kernel
theorem dX5_part_140 : decode cX5_part 140 = .ok (.getfield 9, 3) := by decide +kernel
theorem dX5_part_143 : decode cX5_part 143 = .ok (.iload 7, 2) := by decide +kernel
theorem dX5_part_145 : decode cX5_part 145 = .ok (.iaload, 1) := by decide +kernel
theorem dX5_part_146 : decode cX5_part 146 = .ok (.imul, 1) := by decide +kernel
theorem dX5_part_147 : decode cX5_part 147 = .ok (.istore 8, 2) := by decide +kernel
theorem dX5_part_149 : decode cX5_part 149 = .ok (.aload_n 0, 1) := by decide +kernel
theorem dX5_part_150 : decode cX5_part 150 = .ok (.getfield 15, 3) := by decide +kernel
theorem dX5_part_153 : decode cX5_part 153 = .ok (.iload 7, 2) := by decide +kernel
theorem dX5_part_155 : decode cX5_part 155 = .ok (.dup2, 1) := by decide +kernel
theorem dX5_part_156 : decode cX5_part 156 = .ok (.iaload, 1) := by decide +kernel
theorem dX5_part_157 : decode cX5_part 157 = .ok (.iload 8, 2) := by decide +kernel
theorem dX5_part_159 : decode cX5_part 159 = .ok (.iload 5, 2) := by decide +kernel
theorem dX5_part_161 : decode cX5_part 161 = .ok (.idiv, 1) := by decide +kernel
theorem dX5_part_162 : decode cX5_part 162 = .ok (.iadd, 1) := by decide +kernel
theorem dX5_part_163 : decode cX5_part 163 = .ok (.iastore, 1) := by decide +kernel
theorem dX5_part_164 : decode cX5_part 164 = .ok (.iload 6, 2) := by decide +kernel
theorem dX5_part_166 : decode cX5_part 166 = .ok (.iload 8, 2) := by decide +kernel
theorem dX5_part_168 : decode cX5_part 168 = .ok (.iload 5, 2) := by decide +kernel
theorem dX5_part_170 : decode cX5_part 170 = .ok (.idiv, 1) := by decide +kernel
theorem dX5_part_171 : decode cX5_part 171 = .ok (.isub, 1) := by decide +kernel
theorem dX5_part_172 : decode cX5_part 172 = .ok (.istore 6, 2) := by decide +kernel
theorem dX5_part_174 : decode cX5_part 174 = .ok (.aload_n 0, 1) := by decide +kernel
theorem dX5_part_175 : decode cX5_part 175 = .ok (.getfield 18, 3) := by decide +kernel
theorem dX5_part_178 : decode cX5_part 178 = .ok (.iload 7, 2) := by decide +kernel
theorem dX5_part_180 : decode cX5_part 180 = .ok (.iload 8, 2) := by decide +kernel
theorem dX5_part_182 : decode cX5_part 182 = .ok (.iload 5, 2) := by decide +kernel
theorem dX5_part_184 : decode cX5_part 184 = .ok (.irem, 1) := by decide +kernel
theorem dX5_part_185 : decode cX5_part 185 = .ok (.iastore, 1) := by decide +kernel
theorem dX5_part_186 : decode cX5_part 186 = .ok (.iinc 7 1, 3) := by decide +kernel
theorem dX5_part_189 : decode cX5_part 189 = .ok (.goto (-98), 3) := by decide +kernel
theorem dX5_part_192 : decode cX5_part 192 = .ok (.iconst 0, 1) := by decide +kernel
theorem dX5_part_193 : decode cX5_part 193 = .ok (.istore 7, 2) := by decide +kernel
theorem dX5_part_195 : decode cX5_part 195 = .ok (.iload 7, 2) := by decide +kernel
theorem dX5_part_197 : decode cX5_part 197 = .ok (.iload 6, 2) := by decide +kernel
theorem dX5_part_199 : decode cX5_part 199 = .ok (.if_icmp .ge 13, 3) := by decide +kernel
theorem dX5_part_202 : decode cX5_part 202 = .ok (.aload_n 0, 1) := by decide +kernel
theorem dX5_part_203 : decode cX5_part 203 = .ok (.invokevirtual 46, 3) := by decide +kernel
theorem dX5_part_206 : decode cX5_part 206 = .ok (.iinc 7 1, 3) := by decide +kernel
theorem dX5_part_209 : decode cX5_part 209 = .ok (.goto (-14), 3) := by decide +kernel
theorem dX5_part_212 : decode cX5_part 212 = .ok (.return_, 1) := by decide +kernel
theorem dX5_giveToGreatestRest_0 : decode cX5_giveToGreatestRest 0 = .ok (.iconst 0, 1) := by decide +kernel
theorem dX5_giveToGreatestRest_1 : decode cX5_giveToGreatestRest 1 = .ok (.istore_n 1, 1) := by decide +kernel
theorem dX5_giveToGreatestRest_2 : decode cX5_giveToGreatestRest 2 = .ok (.iconst 1, 1) := by decide +kernel
theorem dX5_giveToGreatestRest_3 : decode cX5_giveToGreatestRest 3 = .ok (.istore_n 2, 1) := by decide +kernel
theorem dX5_giveToGreatestRest_4 : decode cX5_giveToGreatestRest 4 = .ok (.iload_n 2, 1) := by decide +kernel
theorem dX5_giveToGreatestRest_5 : decode cX5_giveToGreatestRest 5 = .ok (.aload_n 0, 1) := by decide +kernel
theorem dX5_giveToGreatestRest_6 : decode cX5_giveToGreatestRest 6 = .ok (.getfield 21, 3) := by decide +kernel
theorem dX5_giveToGreatestRest_9 : decode cX5_giveToGreatestRest 9 = .ok (.getfield 25, 3) := by decide +kernel
theorem dX5_giveToGreatestRest_12 : decode cX5_giveToGreatestRest 12 = .ok (.if_icmp .ge 26, 3) := by decide +kernel
theorem dX5_giveToGreatestRest_15 : decode cX5_giveToGreatestRest 15 = .ok (.aload_n 0, 1) := by decide +kernel
theorem dX5_giveToGreatestRest_16 : decode cX5_giveToGreatestRest 16 = .ok (.getfield 18, 3) := by decide +kernel
theorem dX5_giveToGreatestRest_19 : decode cX5_giveToGreatestRest 19 = .ok (.iload_n 2, 1) := by decide +kernel
theorem dX5_giveToGreatestRest_20 : decode cX5_giveToGreatestRest 20 = .ok (.iaload, 1) := by decide +kernel
theorem dX5_giveToGreatestRest_21 : decode cX5_giveToGreatestRest 21 = .ok (.aload_n 0, 1) := by decide +kernel
theorem dX5_giveToGreatestRest_22 : decode cX5_giveToGreatestRest 22 = .ok (.getfield 18, 3) := by decide +kernel
theorem dX5_giveToGreatestRest_25 : decode cX5_giveToGreatestRest 25 = .ok (.iload_n 1, 1) := by decide +kernel
theorem dX5_giveToGreatestRest_26 : decode cX5_giveToGreatestRest 26 = .ok (.iaload, 1) := by decide +kernel
theorem dX5_giveToGreatestRest_27 : decode cX5_giveToGreatestRest 27 = .ok (.if_icmp .le 5, 3) := by decide +kernel
theorem dX5_giveToGreatestRest_30 : decode cX5_giveToGreatestRest 30 = .ok (.iload_n 2, 1) := by decide +kernel
theorem dX5_giveToGreatestRest_31 : decode cX5_giveToGreatestRest 31 = .ok (.istore_n 1, 1) := by decide +kernel
theorem dX5_giveToGreatestRest_32 : decode cX5_giveToGreatestRest 32 = .ok (.iinc 2 1, 3) := by decide +kernel
theorem dX5_giveToGreatestRest_35 : decode cX5_giveToGreatestRest 35 = .ok (.goto (-31), 3) := by decide +kernel
theorem dX5_giveToGreatestRest_38 : decode cX5_giveToGreatestRest 38 = .ok (.aload_n 0, 1) := by decide +kernel
theorem dX5_giveToGreatestRest_39 : decode cX5_giveToGreatestRest 39 = .ok (.getfield 15, 3) := by decide +kernel
theorem dX5_giveToGreatestRest_42 : decode cX5_giveToGreatestRest 42 = .ok (.iload_n 1, 1) := by decide +kernel
theorem dX5_giveToGreatestRest_43 : decode cX5_giveToGreatestRest 43 = .ok (.dup2, 1) := by decide +kernel
theorem dX5_giveToGreatestRest_44 : decode cX5_giveToGreatestRest 44 = .ok (.iaload, 1) := by decide +kernel
theorem dX5_giveToGreatestRest_45 : decode cX5_giveToGreatestRest 45 = .ok (.iconst 1, 1) := by decide +kernel
theorem dX5_giveToGreatestRest_46 : decode cX5_giveToGreatestRest 46 = .ok (.iadd, 1) := by decide +kernel
theorem dX5_giveToGreatestRest_47 : decode cX5_giveToGreatestRest 47 = .ok (.iastore, 1) := by decide +kernel
theorem dX5_giveToGreatestRest_48 : decode cX5_giveToGreatestRest 48 = .ok (.aload_n 0, 1) := by decide +kernel
theorem dX5_giveToGreatestRest_49 : decode cX5_giveToGreatestRest 49 = .ok (.getfield 18, 3) := by decide +kernel
theorem dX5_giveToGreatestRest_52 : decode cX5_giveToGreatestRest 52 = .ok (.iload_n 1, 1) := by decide +kernel
theorem dX5_giveToGreatestRest_53 : decode cX5_giveToGreatestRest 53 = .ok (.iconst (-1), 1) := by decide +kernel
theorem dX5_giveToGreatestRest_54 : decode cX5_giveToGreatestRest 54 = .ok (.iastore, 1) := by decide +kernel
theorem dX5_giveToGreatestRest_55 : decode cX5_giveToGreatestRest 55 = .ok (.return_, 1) := by decide +kernel
theorem dX6_init_0 : decode cX6_init 0 = .ok (.aload_n 0, 1) := by decide +kernel
theorem dX6_init_1 : decode cX6_init 1 = .ok (.invokespecial 3, 3) := by decide +kernel
theorem dX6_init_4 : decode cX6_init 4 = .ok (.aload_n 0, 1) := by decide +kernel
theorem dX6_init_5 : decode cX6_init 5 = .ok (.iconst 4, 1) := by decide +kernel
theorem dX6_init_6 : decode cX6_init 6 = .ok (.newarray .int, 2) := by decide +kernel
theorem dX6_init_8 : decode cX6_init 8 = .ok (.putfield 9, 3) := by decide +kernel
theorem dX6_init_11 : decode cX6_init 11 = .ok (.aload_n 0, 1) := by decide +kernel
theorem dX6_init_12 : decode cX6_init 12 = .ok (.iconst 0, 1) := by decide +kernel
theorem dX6_init_13 : decode cX6_init 13 = .ok (.putfield 15, 3) := by decide +kernel
theorem dX6_init_16 : decode cX6_init 16 = .ok (.return_, 1) := by decide +kernel
theorem dX6_has_0 : decode cX6_has 0 = .ok (.iload_n 1, 1) := by decide +kernel
theorem dX6_has_1 : decode cX6_has 1 = .ok (.ifCond .lt 15, 3) := by decide +kernel
theorem dX6_has_4 : decode cX6_has 4 = .ok (.iload_n 1, 1) := by decide +kernel
theorem dX6_has_5 : decode cX6_has 5 = .ok (.aload_n 0, 1) := by decide +kernel
theorem dX6_has_6 : decode cX6_has 6 = .ok (.getfield 15, 3) := by decide +kernel
theorem dX6_has_9 : decode cX6_has 9 = .ok (.if_icmp .ge 7, 3) := by decide +kernel
theorem dX6_has_12 : decode cX6_has 12 = .ok (.iconst 1, 1) := by decide +kernel
theorem dX6_has_13 : decode cX6_has 13 = .ok (.goto 4, 3) := by decide +kernel
theorem dX6_has_16 : decode cX6_has 16 = .ok (.iconst 0, 1) := by decide +kernel
theorem dX6_has_17 : decode cX6_has 17 = .ok (.ireturn, 1) := by decide +kernel
theorem dX6_add_0 : decode cX6_add 0 = .ok (.aload_n 0, 1) := by decide +kernel
theorem dX6_add_1 : decode cX6_add 1 = .ok (.getfield 15, 3) := by decide +kernel
theorem dX6_add_4 : decode cX6_add 4 = .ok (.iconst 4, 1) := by decide +kernel
theorem dX6_add_5 : decode cX6_add 5 = .ok (.if_icmp .ge 14, 3) := by decide +kernel
theorem dX6_add_8 : decode cX6_add 8 = .ok (.iload_n 1, 1) := by decide +kernel
theorem dX6_add_9 : decode cX6_add 9 = .ok (.ifCond .lt 10, 3) := by decide +kernel
theorem dX6_add_12 : decode cX6_add 12 = .ok (.iload_n 1, 1) := by decide +kernel
theorem dX6_add_13 : decode cX6_add 13 = .ok (.sipush 400, 3) := by decide +kernel
theorem dX6_add_16 : decode cX6_add 16 = .ok (.if_icmp .le 5, 3) := by decide +kernel
theorem dX6_add_19 : decode cX6_add 19 = .ok (.iconst (-1), 1) := by decide +kernel
theorem dX6_add_20 : decode cX6_add 20 = .ok (.ireturn, 1) := by decide +kernel
theorem dX6_add_21 : decode cX6_add 21 = .ok (.aload_n 0, 1) := by decide +kernel
theorem dX6_add_22 : decode cX6_add 22 = .ok (.getfield 15, 3) := by decide +kernel
theorem dX6_add_25 : decode cX6_add 25 = .ok (.ifCond .le 20, 3) := by decide +kernel
theorem dX6_add_28 : decode cX6_add 28 = .ok (.iload_n 1, 1) := by decide +kernel
theorem dX6_add_29 : decode cX6_add 29 = .ok (.aload_n 0, 1) := by decide +kernel
theorem dX6_add_30 : decode cX6_add 30 = .ok (.getfield 9, 3) := by decide +kernel
theorem dX6_add_33 : decode cX6_add 33 = .ok (.aload_n 0, 1) := by decide +kernel
theorem dX6_add_34 : decode cX6_add 34 = .ok (.getfield 15, 3) := by decide +kernel
theorem dX6_add_37 : decode cX6_add 37 = .ok (.iconst 1, 1) := by decide +kernel
theorem dX6_add_38 : decode cX6_add 38 = .ok (.isub, 1) := by decide +kernel
theorem dX6_add_39 : decode cX6_add 39 = .ok (.iaload, 1) := by decide +kernel
theorem dX6_add_40 : decode cX6_add 40 = .ok (.if_icmp .gt 5, 3) := by decide +kernel
theorem dX6_add_43 : decode cX6_add 43 = .ok (.iconst (-1), 1) := by decide +kernel
theorem dX6_add_44 : decode cX6_add 44 = .ok (.ireturn, 1) := by decide +kernel
theorem dX6_add_45 : decode cX6_add 45 = .ok (.aload_n 0, 1) := by decide +kernel
theorem dX6_add_46 : decode cX6_add 46 = .ok (.getfield 9, 3) := by decide +kernel
theorem dX6_add_49 : decode cX6_add 49 = .ok (.aload_n 0, 1) := by decide +kernel
theorem dX6_add_50 : decode cX6_add 50 = .ok (.getfield 15, 3) := by decide +kernel
theorem dX6_add_53 : decode cX6_add 53 = .ok (.iload_n 1, 1) := by decide +kernel
theorem dX6_add_54 : decode cX6_add 54 = .ok (.iastore, 1) := by decide +kernel
theorem dX6_add_55 : decode cX6_add 55 = .ok (.aload_n 0, 1) := by decide +kernel
theorem dX6_add_56 : decode cX6_add 56 = .ok (.dup, 1) := by decide +kernel
theorem dX6_add_57 : decode cX6_add 57 = .ok (.getfield 15, 3) := by decide +kernel
theorem dX6_add_60 : decode cX6_add 60 = .ok (.iconst 1, 1) := by decide +kernel
theorem dX6_add_61 : decode cX6_add 61 = .ok (.iadd, 1) := by decide +kernel
theorem dX6_add_62 : decode cX6_add 62 = .ok (.putfield 15, 3) := by decide +kernel
theorem dX6_add_65 : decode cX6_add 65 = .ok (.aload_n 0, 1) := by decide +kernel
theorem dX6_add_66 : decode cX6_add 66 = .ok (.getfield 15, 3) := by decide +kernel
theorem dX6_add_69 : decode cX6_add 69 = .ok (.iconst 1, 1) := by decide +kernel
theorem dX6_add_70 : decode cX6_add 70 = .ok (.isub, 1) := by decide +kernel
theorem dX6_add_71 : decode cX6_add 71 = .ok (.ireturn, 1) := by decide +kernel
theorem dX6_wayToNext_0 : decode cX6_wayToNext 0 = .ok (.iload_n 1, 1) := by decide +kernel
theorem dX6_wayToNext_1 : decode cX6_wayToNext 1 = .ok (.ifCond .lt 13, 3) := by decide +kernel
theorem dX6_wayToNext_4 : decode cX6_wayToNext 4 = .ok (.iload_n 1, 1) := by decide +kernel
theorem dX6_wayToNext_5 : decode cX6_wayToNext 5 = .ok (.iconst 1, 1) := by decide +kernel
theorem dX6_wayToNext_6 : decode cX6_wayToNext 6 = .ok (.iadd, 1) := by decide +kernel
theorem dX6_wayToNext_7 : decode cX6_wayToNext 7 = .ok (.aload_n 0, 1) := by decide +kernel
theorem dX6_wayToNext_8 : decode cX6_wayToNext 8 = .ok (.getfield 15, 3) := by decide +kernel
theorem dX6_wayToNext_11 : decode cX6_wayToNext 11 = .ok (.if_icmp .lt 5, 3) := by decide +kernel
theorem dX6_wayToNext_14 : decode cX6_wayToNext 14 = .ok (.iconst 0, 1) := by decide +kernel
theorem dX6_wayToNext_15 : decode cX6_wayToNext 15 = .ok (.ireturn, 1) := by decide +kernel
theorem dX6_wayToNext_16 : decode cX6_wayToNext 16 = .ok (.aload_n 0, 1) := by decide +kernel
theorem dX6_wayToNext_17 : decode cX6_wayToNext 17 = .ok (.getfield 9, 3) := by decide +kernel
theorem dX6_wayToNext_20 : decode cX6_wayToNext 20 = .ok (.iload_n 1, 1) := by decide +kernel
theorem dX6_wayToNext_21 : decode cX6_wayToNext 21 = .ok (.iconst 1, 1) := by decide +kernel
theorem dX6_wayToNext_22 : decode cX6_wayToNext 22 = .ok (.iadd, 1) := by decide +kernel
theorem dX6_wayToNext_23 : decode cX6_wayToNext 23 = .ok (.iaload, 1) := by decide +kernel
theorem dX6_wayToNext_24 : decode cX6_wayToNext 24 = .ok (.aload_n 0, 1) := by decide +kernel
theorem dX6_wayToNext_25 : decode cX6_wayToNext 25 = .ok (.getfield 9, 3) := by decide +kernel
theorem dX6_wayToNext_28 : decode cX6_wayToNext 28 = .ok (.iload_n 1, 1) := by decide +kernel
theorem dX6_wayToNext_29 : decode cX6_wayToNext 29 = .ok (.iaload, 1) := by decide +kernel
theorem dX6_wayToNext_30 : decode cX6_wayToNext 30 = .ok (.isub, 1) := by decide +kernel
theorem dX6_wayToNext_31 : decode cX6_wayToNext 31 = .ok (.ireturn, 1) := by decide +kernel
theorem dX7_init_0 : decode cX7_init 0 = .ok (.aload_n 0, 1) := by decide +kernel
theorem dX7_init_1 : decode cX7_init 1 = .ok (.invokespecial 3, 3) := by decide +kernel
theorem dX7_init_4 : decode cX7_init 4 = .ok (.aload_n 0, 1) := by decide +kernel
theorem dX7_init_5 : decode cX7_init 5 = .ok (.sipush 180, 3) := by decide +kernel
theorem dX7_init_8 : decode cX7_init 8 = .ok (.newarray .int, 2) := by decide +kernel
theorem dX7_init_10 : decode cX7_init 10 = .ok (.putfield 9, 3) := by decide +kernel
theorem dX7_init_13 : decode cX7_init 13 = .ok (.aload_n 0, 1) := by decide +kernel
theorem dX7_init_14 : decode cX7_init 14 = .ok (.sipush 180, 3) := by decide +kernel
theorem dX7_init_17 : decode cX7_init 17 = .ok (.newarray .int, 2) := by decide +kernel
theorem dX7_init_19 : decode cX7_init 19 = .ok (.putfield 15, 3) := by decide +kernel
theorem dX7_init_22 : decode cX7_init 22 = .ok (.return_, 1) := by decide +kernel
theorem dX7_isOff_0 : decode cX7_isOff 0 = .ok (.aload_n 0, 1) := by decide +kernel
theorem dX7_isOff_1 : decode cX7_isOff 1 = .ok (.getfield 15, 3) := by decide +kernel
theorem dX7_isOff_4 : decode cX7_isOff 4 = .ok (.iload_n 1, 1) := by decide +kernel
theorem dX7_isOff_5 : decode cX7_isOff 5 = .ok (.iaload, 1) := by decide +kernel
theorem dX7_isOff_6 : decode cX7_isOff 6 = .ok (.iconst 1, 1) := by decide +kernel
theorem dX7_isOff_7 : decode cX7_isOff 7 = .ok (.iload_n 2, 1) := by decide +kernel
theorem dX7_isOff_8 : decode cX7_isOff 8 = .ok (.ishl, 1) := by decide +kernel
theorem dX7_isOff_9 : decode cX7_isOff 9 = .ok (.iand, 1) := by decide +kernel
theorem dX7_isOff_10 : decode cX7_isOff 10 = .ok (.ifCond .eq 7, 3) := by decide +kernel
theorem dX7_isOff_13 : decode cX7_isOff 13 = .ok (.iconst 1, 1) := by decide +kernel
theorem dX7_isOff_14 : decode cX7_isOff 14 = .ok (.goto 4, 3) := by decide +kernel
theorem dX7_isOff_17 : decode cX7_isOff 17 = .ok (.iconst 0, 1) := by decide +kernel
theorem dX7_isOff_18 : decode cX7_isOff 18 = .ok (.ireturn, 1) := by decide +kernel
theorem dX7_turn_0 : decode cX7_turn 0 = .ok (.aload_n 0, 1) := by decide +kernel
theorem dX7_turn_1 : decode cX7_turn 1 = .ok (.getfield 15, 3) := by decide +kernel
theorem dX7_turn_4 : decode cX7_turn 4 = .ok (.iload_n 1, 1) := by decide +kernel
theorem dX7_turn_5 : decode cX7_turn 5 = .ok (.dup2, 1) := by decide +kernel
theorem dX7_turn_6 : decode cX7_turn 6 = .ok (.iaload, 1) := by decide +kernel
theorem dX7_turn_7 : decode cX7_turn 7 = .ok (.iconst 1, 1) := by decide +kernel
theorem dX7_turn_8 : decode cX7_turn 8 = .ok (.iload_n 2, 1) := by decide +kernel
theorem dX7_turn_9 : decode cX7_turn 9 = .ok (.ishl, 1) := by decide +kernel
theorem dX7_turn_10 : decode cX7_turn 10 = .ok (.ixor, 1) := by decide +kernel
theorem dX7_turn_11 : decode cX7_turn 11 = .ok (.iastore, 1) := by decide +kernel
theorem dX7_turn_12 : decode cX7_turn 12 = .ok (.return_, 1) := by decide +kernel
theorem dX7_hoursOff_0 : decode cX7_hoursOff 0 = .ok (.iconst 0, 1) := by decide +kernel
theorem dX7_hoursOff_1 : decode cX7_hoursOff 1 = .ok (.istore_n 2, 1) := by decide +kernel
theorem dX7_hoursOff_2 : decode cX7_hoursOff 2 = .ok (.iconst 0, 1) := by decide +kernel
theorem dX7_hoursOff_3 : decode cX7_hoursOff 3 = .ok (.istore_n 3, 1) := by decide +kernel
theorem dX7_hoursOff_4 : decode cX7_hoursOff 4 = .ok (.iload_n 3, 1) := by decide +kernel
theorem dX7_hoursOff_5 : decode cX7_hoursOff 5 = .ok (.bipush 30, 2) := by decide +kernel
theorem dX7_hoursOff_7 : decode cX7_hoursOff 7 = .ok (.if_icmp .ge 25, 3) := by decide +kernel
theorem dX7_hoursOff_10 : decode cX7_hoursOff 10 = .ok (.iload_n 2, 1) := by decide +kernel
theorem dX7_hoursOff_11 : decode cX7_hoursOff 11 = .ok (.aload_n 0, 1) := by decide +kernel
theorem dX7_hoursOff_12 : decode cX7_hoursOff 12 = .ok (.getfield 15, 3) := by decide +kernel
theorem dX7_hoursOff_15 : decode cX7_hoursOff 15 = .ok (.iload_n 1, 1) := by decide +kernel
theorem dX7_hoursOff_16 : decode cX7_hoursOff 16 = .ok (.iload_n 3, 1) := by decide +kernel
theorem dX7_hoursOff_17 : decode cX7_hoursOff 17 = .ok (.invokestatic 18, 3) := by decide +kernel
theorem dX7_hoursOff_20 : decode cX7_hoursOff 20 = .ok (.iaload, 1) := by decide +kernel
theorem dX7_hoursOff_21 : decode cX7_hoursOff 21 = .ok (.invokestatic 22, 3) := by decide +kernel
theorem dX7_hoursOff_24 : decode cX7_hoursOff 24 = .ok (.iadd, 1) := by decide +kernel
theorem dX7_hoursOff_25 : decode cX7_hoursOff 25 = .ok (.istore_n 2, 1) := by decide +kernel
theorem dX7_hoursOff_26 : decode cX7_hoursOff 26 = .ok (.iinc 3 1, 3) := by decide +kernel
theorem dX7_hoursOff_29 : decode cX7_hoursOff 29 = .ok (.goto (-25), 3) := by decide +kernel
theorem dX7_hoursOff_32 : decode cX7_hoursOff 32 = .ok (.iload_n 2, 1) := by decide +kernel
theorem dX7_hoursOff_33 : decode cX7_hoursOff 33 = .ok (.ireturn, 1) := by decide +kernel
theorem dX7_addHours_0 : decode cX7_addHours 0 = .ok (.iconst 0, 1) := by decide +kernel
theorem dX7_addHours_1 : decode cX7_addHours 1 = .ok (.istore 4, 2) := by decide +kernel
theorem dX7_addHours_3 : decode cX7_addHours 3 = .ok (.iload 4, 2) := by decide +kernel
theorem dX7_addHours_5 : decode cX7_addHours 5 = .ok (.bipush 30, 2) := by decide +kernel
theorem dX7_addHours_7 : decode cX7_addHours 7 = .ok (.if_icmp .ge 60, 3) := by decide +kernel
theorem dX7_addHours_10 : decode cX7_addHours 10 = .ok (.iload_n 1, 1) := by decide +kernel
theorem dX7_addHours_11 : decode cX7_addHours 11 = .ok (.iload 4, 2) := by decide +kernel
theorem dX7_addHours_13 : decode cX7_addHours 13 = .ok (.invokestatic 18, 3) := by decide +kernel
theorem dX7_addHours_16 : decode cX7_addHours 16 = .ok (.istore 5, 2) := by decide +kernel
theorem dX7_addHours_18 : decode cX7_addHours 18 = .ok (.aload_n 0, 1) := by decide +kernel
theorem dX7_addHours_19 : decode cX7_addHours 19 = .ok (.getfield 15, 3) := by decide +kernel
theorem dX7_addHours_22 : decode cX7_addHours 22 = .ok (.iload 5, 2) := by decide +kernel
theorem dX7_addHours_24 : decode cX7_addHours 24 = .ok (.iaload, 1) := by decide +kernel
theorem dX7_addHours_25 : decode cX7_addHours 25 = .ok (.invokestatic 22, 3) := by decide +kernel
theorem dX7_addHours_28 : decode cX7_addHours 28 = .ok (.istore 6, 2) := by decide +kernel
theorem dX7_addHours_30 : decode cX7_addHours 30 = .ok (.aload_n 3, 1) := by decide +kernel
theorem dX7_addHours_31 : decode cX7_addHours 31 = .ok (.aload_n 0, 1) := by decide +kernel
theorem dX7_addHours_32 : decode cX7_addHours 32 = .ok (.getfield 9, 3) := by decide +kernel
theorem dX7_addHours_35 : decode cX7_addHours 35 = .ok (.iload 5, 2) := by decide +kernel
theorem dX7_addHours_37 : decode cX7_addHours 37 = .ok (.iaload, 1) := by decide +kernel
theorem dX7_addHours_38 : decode cX7_addHours 38 = .ok (.dup2, 1) := by decide +kernel
theorem dX7_addHours_39 : decode cX7_addHours 39 = .ok (.iaload, 1) := by decide +kernel
theorem dX7_addHours_40 : decode cX7_addHours 40 = .ok (.iload 6, 2) := by decide +kernel
theorem dX7_addHours_42 : decode cX7_addHours 42 = .ok (.iadd, 1) := by decide +kernel
theorem dX7_addHours_43 : decode cX7_addHours 43 = .ok (.iastore, 1) := by decide +kernel
theorem dX7_addHours_44 : decode cX7_addHours 44 = .ok (.aload_n 2, 1) := by decide +kernel
theorem dX7_addHours_45 : decode cX7_addHours 45 = .ok (.aload_n 0, 1) := by decide +kernel
theorem dX7_addHours_46 : decode cX7_addHours 46 = .ok (.getfield 9, 3) := by decide +kernel
theorem dX7_addHours_49 : decode cX7_addHours 49 = .ok (.iload 5, 2) := by decide +kernel
theorem dX7_addHours_51 : decode cX7_addHours 51 = .ok (.iaload, 1) := by decide +kernel
theorem dX7_addHours_52 : decode cX7_addHours 52 = .ok (.dup2, 1) := by decide +kernel
theorem dX7_addHours_53 : decode cX7_addHours 53 = .ok (.iaload, 1) := by decide +kernel
theorem dX7_addHours_54 : decode cX7_addHours 54 = .ok (.bipush 10, 2) := by decide +kernel
theorem dX7_addHours_56 : decode cX7_addHours 56 = .ok (.iload 6, 2) := by decide +kernel
theorem dX7_addHours_58 : decode cX7_addHours 58 = .ok (.isub, 1) := by decide +kernel
theorem dX7_addHours_59 : decode cX7_addHours 59 = .ok (.iadd, 1) := by decide +kernel
theorem dX7_addHours_60 : decode cX7_addHours 60 = .ok (.iastore, 1) := by decide +kernel
theorem dX7_addHours_61 : decode cX7_addHours 61 = .ok (.iinc 4 1, 3) := by decide +kernel
theorem dX7_addHours_64 : decode cX7_addHours 64 = .ok (.goto (-61), 3) := by decide +kernel
theorem dX7_addHours_67 : decode cX7_addHours 67 = .ok (.return_, 1) := by decide +kernel
theorem dX8_init_0 : decode cX8_init 0 = .ok (.aload_n 0, 1) := by decide +kernel
theorem dX8_init_1 : decode cX8_init 1 = .ok (.invokespecial 1, 3) := by decide +kernel
theorem dX8_init_4 : decode cX8_init 4 = .ok (.aload_n 0, 1) := by decide +kernel
theorem dX8_init_5 : decode cX8_init 5 = .ok (.new 7, 3) := by decide +kernel
theorem dX8_init_8 : decode cX8_init 8 = .ok (.dup, 1) := by decide +kernel
theorem dX8_init_9 : decode cX8_init 9 = .ok (.invokespecial 9, 3) := by decide +kernel
theorem dX8_init_12 : decode cX8_init 12 = .ok (.putfield 10, 3) := by decide +kernel
theorem dX8_init_15 : decode cX8_init 15 = .ok (.aload_n 0, 1) := by decide +kernel
theorem dX8_init_16 : decode cX8_init 16 = .ok (.new 16, 3) := by decide +kernel
theorem dX8_init_19 : decode cX8_init 19 = .ok (.dup, 1) := by decide +kernel
theorem dX8_init_20 : decode cX8_init 20 = .ok (.invokespecial 18, 3) := by decide +kernel
theorem dX8_init_23 : decode cX8_init 23 = .ok (.putfield 19, 3) := by decide +kernel
theorem dX8_init_26 : decode cX8_init 26 = .ok (.aload_n 0, 1) := by decide +kernel
theorem dX8_init_27 : decode cX8_init 27 = .ok (.new 23, 3) := by decide +kernel
theorem dX8_init_30 : decode cX8_init 30 = .ok (.dup, 1) := by decide +kernel
theorem dX8_init_31 : decode cX8_init 31 = .ok (.invokespecial 25, 3) := by decide +kernel
theorem dX8_init_34 : decode cX8_init 34 = .ok (.putfield 26, 3) := by decide +kernel
theorem dX8_init_37 : decode cX8_init 37 = .ok (.aload_n 0, 1) := by decide +kernel
theorem dX8_init_38 : decode cX8_init 38 = .ok (.new 30, 3) := by decide +kernel
theorem dX8_init_41 : decode cX8_init 41 = .ok (.dup, 1) := by decide +kernel
theorem dX8_init_42 : decode cX8_init 42 = .ok (.invokespecial 32, 3) := by decide +kernel
theorem dX8_init_45 : decode cX8_init 45 = .ok (.putfield 33, 3) := by decide +kernel
theorem dX8_init_48 : decode cX8_init 48 = .ok (.aload_n 0, 1) := by decide +kernel
theorem dX8_init_49 : decode cX8_init 49 = .ok (.new 37, 3) := by decide +kernel
theorem dX8_init_52 : decode cX8_init 52 = .ok (.dup, 1) := by decide +kernel
theorem dX8_init_53 : decode cX8_init 53 = .ok (.aload_n 0, 1) := by decide +kernel
theorem dX8_init_54 : decode cX8_init 54 = .ok (.getfield 10, 3) := by decide +kernel
theorem dX8_init_57 : decode cX8_init 57 = .ok (.aload_n 0, 1) := by decide +kernel
theorem dX8_init_58 : decode cX8_init 58 = .ok (.getfield 19, 3) := by decide +kernel
theorem dX8_init_61 : decode cX8_init 61 = .ok (.aload_n 0, 1) := by decide +kernel
theorem dX8_init_62 : decode cX8_init 62 = .ok (.getfield 33, 3) := by decide +kernel
theorem dX8_init_65 : decode cX8_init 65 = .ok (.invokespecial 39, 3) := by decide +kernel
theorem dX8_init_68 : decode cX8_init 68 = .ok (.putfield 42, 3) := by decide +kernel
theorem dX8_init_71 : decode cX8_init 71 = .ok (.aload_n 0, 1) := by decide +kernel
theorem dX8_init_72 : decode cX8_init 72 = .ok (.new 46, 3) := by decide +kernel
theorem dX8_init_75 : decode cX8_init 75 = .ok (.dup, 1) := by decide +kernel
theorem dX8_init_76 : decode cX8_init 76 = .ok (.aload_n 0, 1) := by decide +kernel
theorem dX8_init_77 : decode cX8_init 77 = .ok (.getfield 19, 3) := by decide +kernel
theorem dX8_init_80 : decode cX8_init 80 = .ok (.invokespecial 48, 3) := by decide +kernel
theorem dX8_init_83 : decode cX8_init 83 = .ok (.putfield 51, 3) := by decide +kernel
theorem dX8_init_86 : decode cX8_init 86 = .ok (.aload_n 0, 1) := by decide +kernel
theorem dX8_init_87 : decode cX8_init 87 = .ok (.new 55, 3) := by decide +kernel
theorem dX8_init_90 : decode cX8_init 90 = .ok (.dup, 1) := by decide +kernel
theorem dX8_init_91 : decode cX8_init 91 = .ok (.invokespecial 57, 3) := by decide +kernel
theorem dX8_init_94 : decode cX8_init 94 = .ok (.putfield 58, 3) := by decide +kernel
theorem dX8_init_97 : decode cX8_init 97 = .ok (.aload_n 0, 1) := by decide +kernel
theorem dX8_init_98 : decode cX8_init 98 = .ok (.sipush 300, 3) := by decide +kernel
theorem dX8_init_101 : decode cX8_init 101 = .ok (.newarray .int, 2) := by decide +kernel
theorem dX8_init_103 : decode cX8_init 103 = .ok (.putfield 62, 3) := by decide +kernel
theorem dX8_init_106 : decode cX8_init 106 = .ok (.aload_n 0, 1) := by decide +kernel
theorem dX8_init_107 : decode cX8_init 107 = .ok (.iconst 0, 1) := by decide +kernel
theorem dX8_init_108 : decode cX8_init 108 = .ok (.putfield 66, 3) := by decide +kernel
theorem dX8_init_111 : decode cX8_init 111 = .ok (.aload_n 0, 1) := by decide +kernel
theorem dX8_init_112 : decode cX8_init 112 = .ok (.iconst (-1), 1) := by decide +kernel
theorem dX8_init_113 : decode cX8_init 113 = .ok (.putfield 70, 3) := by decide +kernel
theorem dX8_init_116 : decode cX8_init 116 = .ok (.return_, 1) := by decide +kernel
theorem dX8_post_0 : decode cX8_post 0 = .ok (.aload_n 0, 1) := by decide +kernel
theorem dX8_post_1 : decode cX8_post 1 = .ok (.getfield 33, 3) := by decide +kernel
theorem dX8_post_4 : decode cX8_post 4 = .ok (.getfield 73, 3) := by decide +kernel
theorem dX8_post_7 : decode cX8_post 7 = .ok (.ifCond .le 5, 3) := by decide +kernel
theorem dX8_post_10 : decode cX8_post 10 = .ok (.iconst (-1), 1) := by decide +kernel
theorem dX8_post_11 : decode cX8_post 11 = .ok (.ireturn, 1) := by decide +kernel
theorem dX8_post_12 : decode cX8_post 12 = .ok (.aload_n 0, 1) := by decide +kernel
theorem dX8_post_13 : decode cX8_post 13 = .ok (.getfield 10, 3) := by decide +kernel
theorem dX8_post_16 : decode cX8_post 16 = .ok (.iload_n 1, 1) := by decide +kernel
theorem dX8_post_17 : decode cX8_post 17 = .ok (.invokevirtual 76, 3) := by decide +kernel
theorem dX8_post_20 : decode cX8_post 20 = .ok (.ireturn, 1) := by decide +kernel
theorem dX8_kind_0 : decode cX8_kind 0 = .ok (.aload_n 0, 1) := by decide +kernel
theorem dX8_kind_1 : decode cX8_kind 1 = .ok (.getfield 33, 3) := by decide +kernel
theorem dX8_kind_4 : decode cX8_kind 4 = .ok (.getfield 73, 3) := by decide +kernel
theorem dX8_kind_7 : decode cX8_kind 7 = .ok (.ifCond .le 5, 3) := by decide +kernel
theorem dX8_kind_10 : decode cX8_kind 10 = .ok (.iconst (-1), 1) := by decide +kernel
theorem dX8_kind_11 : decode cX8_kind 11 = .ok (.ireturn, 1) := by decide +kernel
theorem dX8_kind_12 : decode cX8_kind 12 = .ok (.aload_n 0, 1) := by decide +kernel
theorem dX8_kind_13 : decode cX8_kind 13 = .ok (.getfield 19, 3) := by decide +kernel
theorem dX8_kind_16 : decode cX8_kind 16 = .ok (.iload_n 1, 1) := by decide +kernel
theorem dX8_kind_17 : decode cX8_kind 17 = .ok (.iload_n 2, 1) := by decide +kernel
theorem dX8_kind_18 : decode cX8_kind 18 = .ok (.iload_n 3, 1) := by decide +kernel
theorem dX8_kind_19 : decode cX8_kind 19 = .ok (.invokevirtual 80, 3) := by decide +kernel
theorem dX8_kind_22 : decode cX8_kind 22 = .ok (.ireturn, 1) := by decide +kernel
theorem dX8_later_0 : decode cX8_later 0 = .ok (.aload_n 0, 1) := by decide +kernel
theorem dX8_later_1 : decode cX8_later 1 = .ok (.getfield 66, 3) := by decide +kernel
theorem dX8_later_4 : decode cX8_later 4 = .ok (.sipush 1000, 3) := by decide +kernel
theorem dX8_later_7 : decode cX8_later 7 = .ok (.if_icmp .lt 5, 3) := by decide +kernel
theorem dX8_later_10 : decode cX8_later 10 = .ok (.iconst (-1), 1) := by decide +kernel
theorem dX8_later_11 : decode cX8_later 11 = .ok (.ireturn, 1) := by decide +kernel
theorem dX8_later_12 : decode cX8_later 12 = .ok (.aload_n 0, 1) := by decide +kernel
theorem dX8_later_13 : decode cX8_later 13 = .ok (.dup, 1) := by decide +kernel
theorem dX8_later_14 : decode cX8_later 14 = .ok (.getfield 66, 3) := by decide +kernel
theorem dX8_later_17 : decode cX8_later 17 = .ok (.iconst 1, 1) := by decide +kernel
theorem dX8_later_18 : decode cX8_later 18 = .ok (.iadd, 1) := by decide +kernel
theorem dX8_later_19 : decode cX8_later 19 = .ok (.putfield 66, 3) := by decide +kernel
theorem dX8_later_22 : decode cX8_later 22 = .ok (.aload_n 0, 1) := by decide +kernel
theorem dX8_later_23 : decode cX8_later 23 = .ok (.getfield 66, 3) := by decide +kernel
theorem dX8_later_26 : decode cX8_later 26 = .ok (.ireturn, 1) := by decide +kernel
theorem dX8_tell_0 : decode cX8_tell 0 = .ok (.iload_n 1, 1) := by decide +kernel
theorem dX8_tell_1 : decode cX8_tell 1 = .ok (.iload_n 2, 1) := by decide +kernel
theorem dX8_tell_2 : decode cX8_tell 2 = .ok (.invokestatic 83, 3) := by decide +kernel
theorem dX8_tell_5 : decode cX8_tell 5 = .ok (.ifCond .eq 14, 3) := by decide +kernel
theorem dX8_tell_8 : decode cX8_tell 8 = .ok (.iload_n 3, 1) := by decide +kernel
theorem dX8_tell_9 : decode cX8_tell 9 = .ok (.ifCond .lt 10, 3) := by decide +kernel
theorem dX8_tell_12 : decode cX8_tell 12 = .ok (.iload_n 3, 1) := by decide +kernel
theorem dX8_tell_13 : decode cX8_tell 13 = .ok (.sipush 600, 3) := by decide +kernel
theorem dX8_tell_16 : decode cX8_tell 16 = .ok (.if_icmp .lt 5, 3) := by decide +kernel
theorem dX8_tell_19 : decode cX8_tell 19 = .ok (.iconst (-1), 1) := by decide +kernel
theorem dX8_tell_20 : decode cX8_tell 20 = .ok (.ireturn, 1) := by decide +kernel
theorem dX8_tell_21 : decode cX8_tell 21 = .ok (.aload_n 0, 1) := by decide +kernel
theorem dX8_tell_22 : decode cX8_tell 22 = .ok (.getfield 10, 3) := by decide +kernel
theorem dX8_tell_25 : decode cX8_tell 25 = .ok (.iload 4, 2) := by decide +kernel
theorem dX8_tell_27 : decode cX8_tell 27 = .ok (.invokevirtual 87, 3) := by decide +kernel
theorem dX8_tell_30 : decode cX8_tell 30 = .ok (.ifCond .eq 15, 3) := by decide +kernel
theorem dX8_tell_33 : decode cX8_tell 33 = .ok (.aload_n 0, 1) := by decide +kernel
theorem dX8_tell_34 : decode cX8_tell 34 = .ok (.getfield 19, 3) := by decide +kernel
theorem dX8_tell_37 : decode cX8_tell 37 = .ok (.iload 5, 2) := by decide +kernel
theorem dX8_tell_39 : decode cX8_tell 39 = .ok (.invokevirtual 91, 3) := by decide +kernel
theorem dX8_tell_42 : decode cX8_tell 42 = .ok (.ifCond .ne 5, 3) := by decide +kernel
theorem dX8_tell_45 : decode cX8_tell 45 = .ok (.iconst (-1), 1) := by decide +kernel
theorem dX8_tell_46 : decode cX8_tell 46 = .ok (.ireturn, 1) := by decide +kernel
theorem dX8_tell_47 : decode cX8_tell 47 = .ok (.iload_n 1, 1) := by decide +kernel
theorem dX8_tell_48 : decode cX8_tell 48 = .ok (.iload_n 2, 1) := by decide +kernel
theorem dX8_tell_49 : decode cX8_tell 49 = .ok (.invokestatic 92, 3) := by decide +kernel
theorem dX8_tell_52 : decode cX8_tell 52 = .ok (.istore 6, 2) := by decide +kernel
theorem dX8_tell_54 : decode cX8_tell 54 = .ok (.aload_n 0, 1) := by decide +kernel
theorem dX8_tell_55 : decode cX8_tell 55 = .ok (.getfield 26, 3) := by decide +kernel
theorem dX8_tell_58 : decode cX8_tell 58 = .ok (.iload 6, 2) := by decide +kernel
theorem dX8_tell_60 : decode cX8_tell 60 = .ok (.iload_n 3, 1) := by decide +kernel
theorem dX8_tell_61 : decode cX8_tell 61 = .ok (.bipush 60, 2) := by decide +kernel
theorem dX8_tell_63 : decode cX8_tell 63 = .ok (.idiv, 1) := by decide +kernel
theorem dX8_tell_64 : decode cX8_tell 64 = .ok (.invokevirtual 96, 3) := by decide +kernel
theorem dX8_tell_67 : decode cX8_tell 67 = .ok (.ifCond .eq 5, 3) := by decide +kernel
theorem dX8_tell_70 : decode cX8_tell 70 = .ok (.iconst (-1), 1) := by decide +kernel
theorem dX8_tell_71 : decode cX8_tell 71 = .ok (.ireturn, 1) := by decide +kernel
theorem dX8_tell_72 : decode cX8_tell 72 = .ok (.aload_n 0, 1) := by decide +kernel
theorem dX8_tell_73 : decode cX8_tell 73 = .ok (.getfield 33, 3) := by decide +kernel
theorem dX8_tell_76 : decode cX8_tell 76 = .ok (.getfield 73, 3) := by decide +kernel
theorem dX8_tell_79 : decode cX8_tell 79 = .ok (.sipush 300, 3) := by decide +kernel
theorem dX8_tell_82 : decode cX8_tell 82 = .ok (.if_icmp .ge 19, 3) := by decide +kernel
theorem dX8_tell_85 : decode cX8_tell 85 = .ok (.aload_n 0, 1) := by decide +kernel
theorem dX8_tell_86 : decode cX8_tell 86 = .ok (.getfield 33, 3) := by decide +kernel
theorem dX8_tell_89 : decode cX8_tell 89 = .ok (.iload 6, 2) := by decide +kernel
theorem dX8_tell_91 : decode cX8_tell 91 = .ok (.iload 4, 2) := by decide +kernel
theorem dX8_tell_93 : decode cX8_tell 93 = .ok (.invokevirtual 99, 3) := by decide +kernel
theorem dX8_tell_96 : decode cX8_tell 96 = .ok (.bipush 12, 2) := by decide +kernel
theorem dX8_tell_98 : decode cX8_tell 98 = .ok (.if_icmp .lt 5, 3) := by decide +kernel
theorem dX8_tell_101 : decode cX8_tell 101 = .ok (.iconst (-1), 1) := by decide +kernel
theorem dX8_tell_102 : decode cX8_tell 102 = .ok (.ireturn, 1) := by decide +kernel
theorem dX8_tell_103 : decode cX8_tell 103 = .ok (.aload_n 0, 1) := by decide +kernel
theorem dX8_tell_104 : decode cX8_tell 104 = .ok (.getfield 33, 3) := by decide +kernel
theorem dX8_tell_107 : decode cX8_tell 107 = .ok (.iload 6, 2) := by decide +kernel
theorem dX8_tell_109 : decode cX8_tell 109 = .ok (.iload_n 3, 1) := by decide +kernel
theorem dX8_tell_110 : decode cX8_tell 110 = .ok (.iload 4, 2) := by decide +kernel
theorem dX8_tell_112 : decode cX8_tell 112 = .ok (.iload 5, 2) := by decide +kernel
theorem dX8_tell_114 : decode cX8_tell 114 = .ok (.aload_n 0, 1) := by decide +kernel
theorem dX8_tell_115 : decode cX8_tell 115 = .ok (.getfield 66, 3) := by decide +kernel
theorem dX8_tell_118 : decode cX8_tell 118 = .ok (.invokevirtual 102, 3) := by decide +kernel
theorem dX8_tell_121 : decode cX8_tell 121 = .ok (.istore 7, 2) := by decide +kernel
theorem dX8_tell_123 : decode cX8_tell 123 = .ok (.aload_n 0, 1) := by decide +kernel
theorem dX8_tell_124 : decode cX8_tell 124 = .ok (.getfield 33, 3) := by decide +kernel
theorem dX8_tell_127 : decode cX8_tell 127 = .ok (.aload_n 0, 1) := by decide +kernel
theorem dX8_tell_128 : decode cX8_tell 128 = .ok (.invokevirtual 105, 3) := by decide +kernel
theorem dX8_tell_131 : decode cX8_tell 131 = .ok (.invokevirtual 109, 3) := by decide +kernel
theorem dX8_tell_134 : decode cX8_tell 134 = .ok (.aload_n 0, 1) := by decide +kernel
theorem dX8_tell_135 : decode cX8_tell 135 = .ok (.getfield 42, 3) := by decide +kernel
theorem dX8_tell_138 : decode cX8_tell 138 = .ok (.iload 6, 2) := by decide +kernel
theorem dX8_tell_140 : decode cX8_tell 140 = .ok (.invokevirtual 113, 3) := by decide +kernel
theorem dX8_tell_143 : decode cX8_tell 143 = .ok (.iload 7, 2) := by decide +kernel
theorem dX8_tell_145 : decode cX8_tell 145 = .ok (.ireturn, 1) := by decide +kernel
theorem dX8_off_0 : decode cX8_off 0 = .ok (.iload_n 1, 1) := by decide +kernel
theorem dX8_off_1 : decode cX8_off 1 = .ok (.iload_n 2, 1) := by decide +kernel
theorem dX8_off_2 : decode cX8_off 2 = .ok (.invokestatic 83, 3) := by decide +kernel
theorem dX8_off_5 : decode cX8_off 5 = .ok (.ifCond .eq 13, 3) := by decide +kernel
theorem dX8_off_8 : decode cX8_off 8 = .ok (.iload_n 3, 1) := by decide +kernel
theorem dX8_off_9 : decode cX8_off 9 = .ok (.ifCond .lt 9, 3) := by decide +kernel
theorem dX8_off_12 : decode cX8_off 12 = .ok (.iload_n 3, 1) := by decide +kernel
theorem dX8_off_13 : decode cX8_off 13 = .ok (.bipush 10, 2) := by decide +kernel
theorem dX8_off_15 : decode cX8_off 15 = .ok (.if_icmp .lt 5, 3) := by decide +kernel
theorem dX8_off_18 : decode cX8_off 18 = .ok (.iconst 0, 1) := by decide +kernel
theorem dX8_off_19 : decode cX8_off 19 = .ok (.ireturn, 1) := by decide +kernel
theorem dX8_off_20 : decode cX8_off 20 = .ok (.iload_n 1, 1) := by decide +kernel
theorem dX8_off_21 : decode cX8_off 21 = .ok (.iload_n 2, 1) := by decide +kernel
theorem dX8_off_22 : decode cX8_off 22 = .ok (.invokestatic 92, 3) := by decide +kernel
theorem dX8_off_25 : decode cX8_off 25 = .ok (.istore 5, 2) := by decide +kernel
theorem dX8_off_27 : decode cX8_off 27 = .ok (.aload_n 0, 1) := by decide +kernel
theorem dX8_off_28 : decode cX8_off 28 = .ok (.getfield 26, 3) := by decide +kernel
theorem dX8_off_31 : decode cX8_off 31 = .ok (.iload 5, 2) := by decide +kernel
theorem dX8_off_33 : decode cX8_off 33 = .ok (.iload_n 3, 1) := by decide +kernel
theorem dX8_off_34 : decode cX8_off 34 = .ok (.invokevirtual 96, 3) := by decide +kernel
theorem dX8_off_37 : decode cX8_off 37 = .ok (.iload 4, 2) := by decide +kernel
theorem dX8_off_39 : decode cX8_off 39 = .ok (.if_icmp .ne 5, 3) := by decide +kernel
theorem dX8_off_42 : decode cX8_off 42 = .ok (.iconst 0, 1) := by decide +kernel
theorem dX8_off_43 : decode cX8_off 43 = .ok (.ireturn, 1) := by decide +kernel
theorem dX8_off_44 : decode cX8_off 44 = .ok (.iload 4, 2) := by decide +kernel
theorem dX8_off_46 : decode cX8_off 46 = .ok (.ifCond .eq 18, 3) := by decide +kernel
theorem dX8_off_49 : decode cX8_off 49 = .ok (.aload_n 0, 1) := by decide +kernel
theorem dX8_off_50 : decode cX8_off 50 = .ok (.getfield 33, 3) := by decide +kernel
theorem dX8_off_53 : decode cX8_off 53 = .ok (.iload 5, 2) := by decide +kernel
theorem dX8_off_55 : decode cX8_off 55 = .ok (.iload_n 3, 1) := by decide +kernel
theorem dX8_off_56 : decode cX8_off 56 = .ok (.invokevirtual 116, 3) := by decide +kernel
theorem dX8_off_59 : decode cX8_off 59 = .ok (.ifCond .eq 5, 3) := by decide +kernel
theorem dX8_off_62 : decode cX8_off 62 = .ok (.iconst 0, 1) := by decide +kernel
theorem dX8_off_63 : decode cX8_off 63 = .ok (.ireturn, 1) := by decide +kernel
theorem dX8_off_64 : decode cX8_off 64 = .ok (.aload_n 0, 1) := by decide +kernel
theorem dX8_off_65 : decode cX8_off 65 = .ok (.getfield 26, 3) := by decide +kernel
theorem dX8_off_68 : decode cX8_off 68 = .ok (.iload 5, 2) := by decide +kernel
theorem dX8_off_70 : decode cX8_off 70 = .ok (.iload_n 3, 1) := by decide +kernel
theorem dX8_off_71 : decode cX8_off 71 = .ok (.invokevirtual 119, 3) := by decide +kernel
theorem dX8_off_74 : decode cX8_off 74 = .ok (.iconst 1, 1) := by decide +kernel
theorem dX8_off_75 : decode cX8_off 75 = .ok (.ireturn, 1) := by decide +kernel
theorem dX8_wind_0 : decode cX8_wind 0 = .ok (.iload_n 1, 1) := by decide +kernel
theorem dX8_wind_1 : decode cX8_wind 1 = .ok (.iload_n 2, 1) := by decide +kernel
theorem dX8_wind_2 : decode cX8_wind 2 = .ok (.invokestatic 83, 3) := by decide +kernel
theorem dX8_wind_5 : decode cX8_wind 5 = .ok (.ifCond .eq 12, 3) := by decide +kernel
theorem dX8_wind_8 : decode cX8_wind 8 = .ok (.iload_n 3, 1) := by decide +kernel
theorem dX8_wind_9 : decode cX8_wind 9 = .ok (.ifCond .lt 8, 3) := by decide +kernel
theorem dX8_wind_12 : decode cX8_wind 12 = .ok (.iload_n 3, 1) := by decide +kernel
theorem dX8_wind_13 : decode cX8_wind 13 = .ok (.iconst 4, 1) := by decide +kernel
theorem dX8_wind_14 : decode cX8_wind 14 = .ok (.if_icmp .lt 5, 3) := by decide +kernel
theorem dX8_wind_17 : decode cX8_wind 17 = .ok (.iconst 0, 1) := by decide +kernel
theorem dX8_wind_18 : decode cX8_wind 18 = .ok (.ireturn, 1) := by decide +kernel
theorem dX8_wind_19 : decode cX8_wind 19 = .ok (.aload_n 0, 1) := by decide +kernel
theorem dX8_wind_20 : decode cX8_wind 20 = .ok (.getfield 26, 3) := by decide +kernel
theorem dX8_wind_23 : decode cX8_wind 23 = .ok (.getfield 123, 3) := by decide +kernel
theorem dX8_wind_26 : decode cX8_wind 26 = .ok (.iload_n 1, 1) := by decide +kernel
theorem dX8_wind_27 : decode cX8_wind 27 = .ok (.iload_n 2, 1) := by decide +kernel
theorem dX8_wind_28 : decode cX8_wind 28 = .ok (.invokestatic 92, 3) := by decide +kernel
theorem dX8_wind_31 : decode cX8_wind 31 = .ok (.iload_n 3, 1) := by decide +kernel
theorem dX8_wind_32 : decode cX8_wind 32 = .ok (.iastore, 1) := by decide +kernel
theorem dX8_wind_33 : decode cX8_wind 33 = .ok (.iconst 1, 1) := by decide +kernel
theorem dX8_wind_34 : decode cX8_wind 34 = .ok (.ireturn, 1) := by decide +kernel
theorem dX8_known_0 : decode cX8_known 0 = .ok (.iload_n 1, 1) := by decide +kernel
theorem dX8_known_1 : decode cX8_known 1 = .ok (.iconst (-1), 1) := by decide +kernel
theorem dX8_known_2 : decode cX8_known 2 = .ok (.if_icmp .eq 17, 3) := by decide +kernel
theorem dX8_known_5 : decode cX8_known 5 = .ok (.iload_n 1, 1) := by decide +kernel
theorem dX8_known_6 : decode cX8_known 6 = .ok (.ifCond .lt 11, 3) := by decide +kernel
theorem dX8_known_9 : decode cX8_known 9 = .ok (.iload_n 1, 1) := by decide +kernel
theorem dX8_known_10 : decode cX8_known 10 = .ok (.aload_n 0, 1) := by decide +kernel
theorem dX8_known_11 : decode cX8_known 11 = .ok (.getfield 66, 3) := by decide +kernel
theorem dX8_known_14 : decode cX8_known 14 = .ok (.if_icmp .le 5, 3) := by decide +kernel
theorem dX8_known_17 : decode cX8_known 17 = .ok (.iconst 0, 1) := by decide +kernel
theorem dX8_known_18 : decode cX8_known 18 = .ok (.ireturn, 1) := by decide +kernel
theorem dX8_known_19 : decode cX8_known 19 = .ok (.aload_n 0, 1) := by decide +kernel
theorem dX8_known_20 : decode cX8_known 20 = .ok (.iload_n 1, 1) := by decide +kernel
theorem dX8_known_21 : decode cX8_known 21 = .ok (.putfield 70, 3) := by decide +kernel
theorem dX8_known_24 : decode cX8_known 24 = .ok (.aload_n 0, 1) := by decide +kernel
theorem dX8_known_25 : decode cX8_known 25 = .ok (.getfield 33, 3) := by decide +kernel
theorem dX8_known_28 : decode cX8_known 28 = .ok (.aload_n 0, 1) := by decide +kernel
theorem dX8_known_29 : decode cX8_known 29 = .ok (.invokevirtual 105, 3) := by decide +kernel
theorem dX8_known_32 : decode cX8_known 32 = .ok (.invokevirtual 109, 3) := by decide +kernel
theorem dX8_known_35 : decode cX8_known 35 = .ok (.aload_n 0, 1) := by decide +kernel
theorem dX8_known_36 : decode cX8_known 36 = .ok (.getfield 42, 3) := by decide +kernel
theorem dX8_known_39 : decode cX8_known 39 = .ok (.invokevirtual 126, 3) := by decide +kernel
theorem dX8_known_42 : decode cX8_known 42 = .ok (.iconst 1, 1) := by decide +kernel
theorem dX8_known_43 : decode cX8_known 43 = .ok (.ireturn, 1) := by decide +kernel
theorem dX8_partner_0 : decode cX8_partner 0 = .ok (.aload_n 0, 1) := by decide +kernel
theorem dX8_partner_1 : decode cX8_partner 1 = .ok (.getfield 33, 3) := by decide +kernel
theorem dX8_partner_4 : decode cX8_partner 4 = .ok (.iload_n 1, 1) := by decide +kernel
theorem dX8_partner_5 : decode cX8_partner 5 = .ok (.invokevirtual 129, 3) := by decide +kernel
theorem dX8_partner_8 : decode cX8_partner 8 = .ok (.ifCond .ne 6, 3) := by decide +kernel
theorem dX8_partner_11 : decode cX8_partner 11 = .ok (.bipush (-2), 2) := by decide +kernel
theorem dX8_partner_13 : decode cX8_partner 13 = .ok (.ireturn, 1) := by decide +kernel
theorem dX8_partner_14 : decode cX8_partner 14 = .ok (.aload_n 0, 1) := by decide +kernel
theorem dX8_partner_15 : decode cX8_partner 15 = .ok (.getfield 42, 3) := by decide +kernel
theorem dX8_partner_18 : decode cX8_partner 18 = .ok (.aload_n 0, 1) := by decide +kernel
theorem dX8_partner_19 : decode cX8_partner 19 = .ok (.getfield 33, 3) := by decide +kernel
theorem dX8_partner_22 : decode cX8_partner 22 = .ok (.getfield 132, 3) := by decide +kernel
theorem dX8_partner_25 : decode cX8_partner 25 = .ok (.iload_n 1, 1) := by decide +kernel
theorem dX8_partner_26 : decode cX8_partner 26 = .ok (.iaload, 1) := by decide +kernel
theorem dX8_partner_27 : decode cX8_partner 27 = .ok (.invokevirtual 134, 3) := by decide +kernel
theorem dX8_partner_30 : decode cX8_partner 30 = .ok (.aload_n 0, 1) := by decide +kernel
theorem dX8_partner_31 : decode cX8_partner 31 = .ok (.getfield 42, 3) := by decide +kernel
theorem dX8_partner_34 : decode cX8_partner 34 = .ok (.getfield 137, 3) := by decide +kernel
theorem dX8_partner_37 : decode cX8_partner 37 = .ok (.iload_n 1, 1) := by decide +kernel
theorem dX8_partner_38 : decode cX8_partner 38 = .ok (.iaload, 1) := by decide +kernel
theorem dX8_partner_39 : decode cX8_partner 39 = .ok (.ireturn, 1) := by decide +kernel
theorem dX8_bird_0 : decode cX8_bird 0 = .ok (.aload_n 0, 1) := by decide +kernel
theorem dX8_bird_1 : decode cX8_bird 1 = .ok (.getfield 33, 3) := by decide +kernel
theorem dX8_bird_4 : decode cX8_bird 4 = .ok (.iload_n 1, 1) := by decide +kernel
theorem dX8_bird_5 : decode cX8_bird 5 = .ok (.invokevirtual 129, 3) := by decide +kernel
theorem dX8_bird_8 : decode cX8_bird 8 = .ok (.ifCond .ne 6, 3) := by decide +kernel
theorem dX8_bird_11 : decode cX8_bird 11 = .ok (.bipush (-2), 2) := by decide +kernel
theorem dX8_bird_13 : decode cX8_bird 13 = .ok (.ireturn, 1) := by decide +kernel
theorem dX8_bird_14 : decode cX8_bird 14 = .ok (.aload_n 0, 1) := by decide +kernel
theorem dX8_bird_15 : decode cX8_bird 15 = .ok (.getfield 42, 3) := by decide +kernel
theorem dX8_bird_18 : decode cX8_bird 18 = .ok (.aload_n 0, 1) := by decide +kernel
theorem dX8_bird_19 : decode cX8_bird 19 = .ok (.getfield 33, 3) := by decide +kernel
theorem dX8_bird_22 : decode cX8_bird 22 = .ok (.getfield 132, 3) := by decide +kernel
theorem dX8_bird_25 : decode cX8_bird 25 = .ok (.iload_n 1, 1) := by decide +kernel
theorem dX8_bird_26 : decode cX8_bird 26 = .ok (.iaload, 1) := by decide +kernel
theorem dX8_bird_27 : decode cX8_bird 27 = .ok (.invokevirtual 134, 3) := by decide +kernel
theorem dX8_bird_30 : decode cX8_bird 30 = .ok (.aload_n 0, 1) := by decide +kernel
theorem dX8_bird_31 : decode cX8_bird 31 = .ok (.getfield 42, 3) := by decide +kernel
theorem dX8_bird_34 : decode cX8_bird 34 = .ok (.getfield 140, 3) := by decide +kernel
theorem dX8_bird_37 : decode cX8_bird 37 = .ok (.iload_n 1, 1) := by decide +kernel
theorem dX8_bird_38 : decode cX8_bird 38 = .ok (.iaload, 1) := by decide +kernel
theorem dX8_bird_39 : decode cX8_bird 39 = .ok (.ireturn, 1) := by decide +kernel
theorem dX8_birds_0 : decode cX8_birds 0 = .ok (.iload_n 1, 1) := by decide +kernel
theorem dX8_birds_1 : decode cX8_birds 1 = .ok (.invokestatic 143, 3) := by decide +kernel
theorem dX8_birds_4 : decode cX8_birds 4 = .ok (.ifCond .eq 23, 3) := by decide +kernel
theorem dX8_birds_7 : decode cX8_birds 7 = .ok (.aload_n 0, 1) := by decide +kernel
theorem dX8_birds_8 : decode cX8_birds 8 = .ok (.getfield 19, 3) := by decide +kernel
theorem dX8_birds_11 : decode cX8_birds 11 = .ok (.iload_n 2, 1) := by decide +kernel
theorem dX8_birds_12 : decode cX8_birds 12 = .ok (.invokevirtual 91, 3) := by decide +kernel
theorem dX8_birds_15 : decode cX8_birds 15 = .ok (.ifCond .eq 12, 3) := by decide +kernel
theorem dX8_birds_18 : decode cX8_birds 18 = .ok (.iload_n 3, 1) := by decide +kernel
theorem dX8_birds_19 : decode cX8_birds 19 = .ok (.ifCond .lt 8, 3) := by decide +kernel
theorem dX8_birds_22 : decode cX8_birds 22 = .ok (.iload_n 3, 1) := by decide +kernel
theorem dX8_birds_23 : decode cX8_birds 23 = .ok (.iconst 2, 1) := by decide +kernel
theorem dX8_birds_24 : decode cX8_birds 24 = .ok (.if_icmp .le 11, 3) := by decide +kernel
theorem dX8_birds_27 : decode cX8_birds 27 = .ok (.new 146, 3) := by decide +kernel
theorem dX8_birds_30 : decode cX8_birds 30 = .ok (.dup, 1) := by decide +kernel
theorem dX8_birds_31 : decode cX8_birds 31 = .ok (.invokespecial 148, 3) := by decide +kernel
theorem dX8_birds_34 : decode cX8_birds 34 = .ok (.athrow, 1) := by decide +kernel
theorem dX8_birds_35 : decode cX8_birds 35 = .ok (.aload_n 0, 1) := by decide +kernel
theorem dX8_birds_36 : decode cX8_birds 36 = .ok (.getfield 42, 3) := by decide +kernel
theorem dX8_birds_39 : decode cX8_birds 39 = .ok (.iload_n 1, 1) := by decide +kernel
theorem dX8_birds_40 : decode cX8_birds 40 = .ok (.invokevirtual 149, 3) := by decide +kernel
theorem dX8_birds_43 : decode cX8_birds 43 = .ok (.aload_n 0, 1) := by decide +kernel
theorem dX8_birds_44 : decode cX8_birds 44 = .ok (.getfield 51, 3) := by decide +kernel
theorem dX8_birds_47 : decode cX8_birds 47 = .ok (.invokevirtual 152, 3) := by decide +kernel
theorem dX8_birds_50 : decode cX8_birds 50 = .ok (.aload_n 0, 1) := by decide +kernel
theorem dX8_birds_51 : decode cX8_birds 51 = .ok (.getfield 42, 3) := by decide +kernel
theorem dX8_birds_54 : decode cX8_birds 54 = .ok (.iload_n 1, 1) := by decide +kernel
theorem dX8_birds_55 : decode cX8_birds 55 = .ok (.aload_n 0, 1) := by decide +kernel
theorem dX8_birds_56 : decode cX8_birds 56 = .ok (.getfield 51, 3) := by decide +kernel
theorem dX8_birds_59 : decode cX8_birds 59 = .ok (.getfield 155, 3) := by decide +kernel
theorem dX8_birds_62 : decode cX8_birds 62 = .ok (.invokevirtual 158, 3) := by decide +kernel
theorem dX8_birds_65 : decode cX8_birds 65 = .ok (.iload_n 3, 1) := by decide +kernel
theorem dX8_birds_66 : decode cX8_birds 66 = .ok (.ifCond .ne 13, 3) := by decide +kernel
theorem dX8_birds_69 : decode cX8_birds 69 = .ok (.aload_n 0, 1) := by decide +kernel
theorem dX8_birds_70 : decode cX8_birds 70 = .ok (.getfield 51, 3) := by decide +kernel
theorem dX8_birds_73 : decode cX8_birds 73 = .ok (.getfield 155, 3) := by decide +kernel
theorem dX8_birds_76 : decode cX8_birds 76 = .ok (.iload_n 2, 1) := by decide +kernel
theorem dX8_birds_77 : decode cX8_birds 77 = .ok (.iaload, 1) := by decide +kernel
theorem dX8_birds_78 : decode cX8_birds 78 = .ok (.ireturn, 1) := by decide +kernel
theorem dX8_birds_79 : decode cX8_birds 79 = .ok (.iload_n 3, 1) := by decide +kernel
theorem dX8_birds_80 : decode cX8_birds 80 = .ok (.iconst 1, 1) := by decide +kernel
theorem dX8_birds_81 : decode cX8_birds 81 = .ok (.if_icmp .ne 12, 3) := by decide +kernel
theorem dX8_birds_84 : decode cX8_birds 84 = .ok (.aload_n 0, 1) := by decide +kernel
theorem dX8_birds_85 : decode cX8_birds 85 = .ok (.getfield 51, 3) := by decide +kernel
theorem dX8_birds_88 : decode cX8_birds 88 = .ok (.iload_n 2, 1) := by decide +kernel
theorem dX8_birds_89 : decode cX8_birds 89 = .ok (.invokevirtual 162, 3) := by decide +kernel
theorem dX8_birds_92 : decode cX8_birds 92 = .ok (.ireturn, 1) := by decide +kernel
theorem dX8_birds_93 : decode cX8_birds 93 = .ok (.aload_n 0, 1) := by decide +kernel
theorem dX8_birds_94 : decode cX8_birds 94 = .ok (.getfield 51, 3) := by decide +kernel
theorem dX8_birds_97 : decode cX8_birds 97 = .ok (.invokevirtual 165, 3) := by decide +kernel
theorem dX8_birds_100 : decode cX8_birds 100 = .ok (.aload_n 0, 1) := by decide +kernel
theorem dX8_birds_101 : decode cX8_birds 101 = .ok (.getfield 51, 3) := by decide +kernel
theorem dX8_birds_104 : decode cX8_birds 104 = .ok (.iload_n 2, 1) := by decide +kernel
theorem dX8_birds_105 : decode cX8_birds 105 = .ok (.invokevirtual 168, 3) := by decide +kernel
theorem dX8_birds_108 : decode cX8_birds 108 = .ok (.ireturn, 1) := by decide +kernel
theorem dX8_year_0 : decode cX8_year 0 = .ok (.iload_n 1, 1) := by decide +kernel
theorem dX8_year_1 : decode cX8_year 1 = .ok (.invokestatic 143, 3) := by decide +kernel
theorem dX8_year_4 : decode cX8_year 4 = .ok (.ifCond .ne 5, 3) := by decide +kernel
theorem dX8_year_7 : decode cX8_year 7 = .ok (.iconst (-1), 1) := by decide +kernel
theorem dX8_year_8 : decode cX8_year 8 = .ok (.ireturn, 1) := by decide +kernel
theorem dX8_year_9 : decode cX8_year 9 = .ok (.aload_n 0, 1) := by decide +kernel
theorem dX8_year_10 : decode cX8_year 10 = .ok (.getfield 42, 3) := by decide +kernel
theorem dX8_year_13 : decode cX8_year 13 = .ok (.iload_n 1, 1) := by decide +kernel
theorem dX8_year_14 : decode cX8_year 14 = .ok (.invokevirtual 149, 3) := by decide +kernel
theorem dX8_year_17 : decode cX8_year 17 = .ok (.iload_n 2, 1) := by decide +kernel
theorem dX8_year_18 : decode cX8_year 18 = .ok (.tableswitch 86 0 5 #[38, 47, 56, 65, 74, 80], 38) := by decide +kernel
theorem dX8_year_56 : decode cX8_year 56 = .ok (.aload_n 0, 1) := by decide +kernel
theorem dX8_year_57 : decode cX8_year 57 = .ok (.getfield 33, 3) := by decide +kernel
theorem dX8_year_60 : decode cX8_year 60 = .ok (.iload_n 1, 1) := by decide +kernel
theorem dX8_year_61 : decode cX8_year 61 = .ok (.invokevirtual 171, 3) := by decide +kernel
theorem dX8_year_64 : decode cX8_year 64 = .ok (.ireturn, 1) := by decide +kernel
theorem dX8_year_65 : decode cX8_year 65 = .ok (.aload_n 0, 1) := by decide +kernel
theorem dX8_year_66 : decode cX8_year 66 = .ok (.getfield 42, 3) := by decide +kernel
theorem dX8_year_69 : decode cX8_year 69 = .ok (.iload_n 1, 1) := by decide +kernel
theorem dX8_year_70 : decode cX8_year 70 = .ok (.invokevirtual 174, 3) := by decide +kernel
theorem dX8_year_73 : decode cX8_year 73 = .ok (.ireturn, 1) := by decide +kernel
theorem dX8_year_74 : decode cX8_year 74 = .ok (.aload_n 0, 1) := by decide +kernel
theorem dX8_year_75 : decode cX8_year 75 = .ok (.getfield 42, 3) := by decide +kernel
theorem dX8_year_78 : decode cX8_year 78 = .ok (.iload_n 1, 1) := by decide +kernel
theorem dX8_year_79 : decode cX8_year 79 = .ok (.invokevirtual 177, 3) := by decide +kernel
theorem dX8_year_82 : decode cX8_year 82 = .ok (.ireturn, 1) := by decide +kernel
theorem dX8_year_83 : decode cX8_year 83 = .ok (.aload_n 0, 1) := by decide +kernel
theorem dX8_year_84 : decode cX8_year 84 = .ok (.getfield 26, 3) := by decide +kernel
theorem dX8_year_87 : decode cX8_year 87 = .ok (.iload_n 1, 1) := by decide +kernel
theorem dX8_year_88 : decode cX8_year 88 = .ok (.invokevirtual 180, 3) := by decide +kernel
theorem dX8_year_91 : decode cX8_year 91 = .ok (.ireturn, 1) := by decide +kernel
theorem dX8_year_92 : decode cX8_year 92 = .ok (.aload_n 0, 1) := by decide +kernel
theorem dX8_year_93 : decode cX8_year 93 = .ok (.iload_n 1, 1) := by decide +kernel
theorem dX8_year_94 : decode cX8_year 94 = .ok (.invokevirtual 183, 3) := by decide +kernel
theorem dX8_year_97 : decode cX8_year 97 = .ok (.ireturn, 1) := by decide +kernel
theorem dX8_year_98 : decode cX8_year 98 = .ok (.aload_n 0, 1) := by decide +kernel
theorem dX8_year_99 : decode cX8_year 99 = .ok (.iload_n 1, 1) := by decide +kernel
theorem dX8_year_100 : decode cX8_year 100 = .ok (.invokevirtual 186, 3) := by decide +kernel
theorem dX8_year_103 : decode cX8_year 103 = .ok (.ireturn, 1) := by decide +kernel
theorem dX8_year_104 : decode cX8_year 104 = .ok (.iconst (-1), 1) := by decide +kernel
theorem dX8_year_105 : decode cX8_year 105 = .ok (.ireturn, 1) := by decide +kernel
theorem dX8_passage_0 : decode cX8_passage 0 = .ok (.iload_n 1, 1) := by decide +kernel
theorem dX8_passage_1 : decode cX8_passage 1 = .ok (.invokestatic 143, 3) := by decide +kernel
theorem dX8_passage_4 : decode cX8_passage 4 = .ok (.ifCond .eq 23, 3) := by decide +kernel
theorem dX8_passage_7 : decode cX8_passage 7 = .ok (.aload_n 0, 1) := by decide +kernel
theorem dX8_passage_8 : decode cX8_passage 8 = .ok (.getfield 19, 3) := by decide +kernel
theorem dX8_passage_11 : decode cX8_passage 11 = .ok (.iload_n 2, 1) := by decide +kernel
theorem dX8_passage_12 : decode cX8_passage 12 = .ok (.invokevirtual 91, 3) := by decide +kernel
theorem dX8_passage_15 : decode cX8_passage 15 = .ok (.ifCond .eq 12, 3) := by decide +kernel
theorem dX8_passage_18 : decode cX8_passage 18 = .ok (.iload_n 3, 1) := by decide +kernel
theorem dX8_passage_19 : decode cX8_passage 19 = .ok (.ifCond .lt 8, 3) := by decide +kernel
theorem dX8_passage_22 : decode cX8_passage 22 = .ok (.iload_n 3, 1) := by decide +kernel
theorem dX8_passage_23 : decode cX8_passage 23 = .ok (.iconst 2, 1) := by decide +kernel
theorem dX8_passage_24 : decode cX8_passage 24 = .ok (.if_icmp .le 5, 3) := by decide +kernel
theorem dX8_passage_27 : decode cX8_passage 27 = .ok (.iconst (-1), 1) := by decide +kernel
theorem dX8_passage_28 : decode cX8_passage 28 = .ok (.ireturn, 1) := by decide +kernel
theorem dX8_passage_29 : decode cX8_passage 29 = .ok (.aload_n 0, 1) := by decide +kernel
theorem dX8_passage_30 : decode cX8_passage 30 = .ok (.getfield 42, 3) := by decide +kernel
theorem dX8_passage_33 : decode cX8_passage 33 = .ok (.iload_n 1, 1) := by decide +kernel
theorem dX8_passage_34 : decode cX8_passage 34 = .ok (.invokevirtual 149, 3) := by decide +kernel
theorem dX8_passage_37 : decode cX8_passage 37 = .ok (.iconst 0, 1) := by decide +kernel
theorem dX8_passage_38 : decode cX8_passage 38 = .ok (.istore 4, 2) := by decide +kernel
theorem dX8_passage_40 : decode cX8_passage 40 = .ok (.iload 4, 2) := by decide +kernel
theorem dX8_passage_42 : decode cX8_passage 42 = .ok (.sipush 300, 3) := by decide +kernel
theorem dX8_passage_45 : decode cX8_passage 45 = .ok (.if_icmp .ge 17, 3) := by decide +kernel
theorem dX8_passage_48 : decode cX8_passage 48 = .ok (.aload_n 0, 1) := by decide +kernel
theorem dX8_passage_49 : decode cX8_passage 49 = .ok (.getfield 62, 3) := by decide +kernel
theorem dX8_passage_52 : decode cX8_passage 52 = .ok (.iload 4, 2) := by decide +kernel
theorem dX8_passage_54 : decode cX8_passage 54 = .ok (.iconst 0, 1) := by decide +kernel
theorem dX8_passage_55 : decode cX8_passage 55 = .ok (.iastore, 1) := by decide +kernel
theorem dX8_passage_56 : decode cX8_passage 56 = .ok (.iinc 4 1, 3) := by decide +kernel
theorem dX8_passage_59 : decode cX8_passage 59 = .ok (.goto (-19), 3) := by decide +kernel
theorem dX8_passage_62 : decode cX8_passage 62 = .ok (.aload_n 0, 1) := by decide +kernel
theorem dX8_passage_63 : decode cX8_passage 63 = .ok (.getfield 42, 3) := by decide +kernel
theorem dX8_passage_66 : decode cX8_passage 66 = .ok (.iload_n 1, 1) := by decide +kernel
theorem dX8_passage_67 : decode cX8_passage 67 = .ok (.iload_n 2, 1) := by decide +kernel
theorem dX8_passage_68 : decode cX8_passage 68 = .ok (.aload_n 0, 1) := by decide +kernel
theorem dX8_passage_69 : decode cX8_passage 69 = .ok (.getfield 62, 3) := by decide +kernel
theorem dX8_passage_72 : decode cX8_passage 72 = .ok (.invokevirtual 189, 3) := by decide +kernel
theorem dX8_passage_75 : decode cX8_passage 75 = .ok (.istore 4, 2) := by decide +kernel
theorem dX8_passage_77 : decode cX8_passage 77 = .ok (.iload 4, 2) := by decide +kernel
theorem dX8_passage_79 : decode cX8_passage 79 = .ok (.ifCond .ne 5, 3) := by decide +kernel
theorem dX8_passage_82 : decode cX8_passage 82 = .ok (.iconst (-1), 1) := by decide +kernel
theorem dX8_passage_83 : decode cX8_passage 83 = .ok (.ireturn, 1) := by decide +kernel
theorem dX8_passage_84 : decode cX8_passage 84 = .ok (.iload_n 3, 1) := by decide +kernel
theorem dX8_passage_85 : decode cX8_passage 85 = .ok (.ifCond .ne 9, 3) := by decide +kernel
theorem dX8_passage_88 : decode cX8_passage 88 = .ok (.aload_n 0, 1) := by decide +kernel
theorem dX8_passage_89 : decode cX8_passage 89 = .ok (.iconst 1, 1) := by decide +kernel
theorem dX8_passage_90 : decode cX8_passage 90 = .ok (.invokevirtual 193, 3) := by decide +kernel
theorem dX8_passage_93 : decode cX8_passage 93 = .ok (.ireturn, 1) := by decide +kernel
theorem dX8_passage_94 : decode cX8_passage 94 = .ok (.aload_n 0, 1) := by decide +kernel
theorem dX8_passage_95 : decode cX8_passage 95 = .ok (.iload_n 3, 1) := by decide +kernel
theorem dX8_passage_96 : decode cX8_passage 96 = .ok (.iconst 1, 1) := by decide +kernel
theorem dX8_passage_97 : decode cX8_passage 97 = .ok (.if_icmp .ne 12, 3) := by decide +kernel
theorem dX8_passage_100 : decode cX8_passage 100 = .ok (.iload 4, 2) := by decide +kernel
theorem dX8_passage_102 : decode cX8_passage 102 = .ok (.iconst 1, 1) := by decide +kernel
theorem dX8_passage_103 : decode cX8_passage 103 = .ok (.iadd, 1) := by decide +kernel
theorem dX8_passage_104 : decode cX8_passage 104 = .ok (.iconst 2, 1) := by decide +kernel
theorem dX8_passage_105 : decode cX8_passage 105 = .ok (.idiv, 1) := by decide +kernel
theorem dX8_passage_106 : decode cX8_passage 106 = .ok (.goto 5, 3) := by decide +kernel
theorem dX8_passage_109 : decode cX8_passage 109 = .ok (.iload 4, 2) := by decide +kernel
theorem dX8_passage_111 : decode cX8_passage 111 = .ok (.invokevirtual 193, 3) := by decide +kernel
theorem dX8_passage_114 : decode cX8_passage 114 = .ok (.ireturn, 1) := by decide +kernel
theorem dX8_change_0 : decode cX8_change 0 = .ok (.iload_n 1, 1) := by decide +kernel
theorem dX8_change_1 : decode cX8_change 1 = .ok (.invokestatic 143, 3) := by decide +kernel
theorem dX8_change_4 : decode cX8_change 4 = .ok (.ifCond .eq 10, 3) := by decide +kernel
theorem dX8_change_7 : decode cX8_change 7 = .ok (.iload_n 2, 1) := by decide +kernel
theorem dX8_change_8 : decode cX8_change 8 = .ok (.invokestatic 143, 3) := by decide +kernel
theorem dX8_change_11 : decode cX8_change 11 = .ok (.ifCond .ne 6, 3) := by decide +kernel
theorem dX8_change_14 : decode cX8_change 14 = .ok (.bipush (-2), 2) := by decide +kernel
theorem dX8_change_16 : decode cX8_change 16 = .ok (.ireturn, 1) := by decide +kernel
theorem dX8_change_17 : decode cX8_change 17 = .ok (.aload_n 0, 1) := by decide +kernel
theorem dX8_change_18 : decode cX8_change 18 = .ok (.getfield 42, 3) := by decide +kernel
theorem dX8_change_21 : decode cX8_change 21 = .ok (.iload_n 1, 1) := by decide +kernel
theorem dX8_change_22 : decode cX8_change 22 = .ok (.invokevirtual 149, 3) := by decide +kernel
theorem dX8_change_25 : decode cX8_change 25 = .ok (.aload_n 0, 1) := by decide +kernel
theorem dX8_change_26 : decode cX8_change 26 = .ok (.getfield 42, 3) := by decide +kernel
theorem dX8_change_29 : decode cX8_change 29 = .ok (.iload_n 2, 1) := by decide +kernel
theorem dX8_change_30 : decode cX8_change 30 = .ok (.invokevirtual 149, 3) := by decide +kernel
theorem dX8_change_33 : decode cX8_change 33 = .ok (.sipush 1000, 3) := by decide +kernel
theorem dX8_change_36 : decode cX8_change 36 = .ok (.aload_n 0, 1) := by decide +kernel
theorem dX8_change_37 : decode cX8_change 37 = .ok (.getfield 42, 3) := by decide +kernel
theorem dX8_change_40 : decode cX8_change 40 = .ok (.iload_n 2, 1) := by decide +kernel
theorem dX8_change_41 : decode cX8_change 41 = .ok (.invokevirtual 177, 3) := by decide +kernel
theorem dX8_change_44 : decode cX8_change 44 = .ok (.imul, 1) := by decide +kernel
theorem dX8_change_45 : decode cX8_change 45 = .ok (.aload_n 0, 1) := by decide +kernel
theorem dX8_change_46 : decode cX8_change 46 = .ok (.iload_n 1, 1) := by decide +kernel
theorem dX8_change_47 : decode cX8_change 47 = .ok (.invokevirtual 186, 3) := by decide +kernel
theorem dX8_change_50 : decode cX8_change 50 = .ok (.if_icmp .le 5, 3) := by decide +kernel
theorem dX8_change_53 : decode cX8_change 53 = .ok (.iconst 1, 1) := by decide +kernel
theorem dX8_change_54 : decode cX8_change 54 = .ok (.ireturn, 1) := by decide +kernel
theorem dX8_change_55 : decode cX8_change 55 = .ok (.aload_n 0, 1) := by decide +kernel
theorem dX8_change_56 : decode cX8_change 56 = .ok (.iload_n 2, 1) := by decide +kernel
theorem dX8_change_57 : decode cX8_change 57 = .ok (.invokevirtual 186, 3) := by decide +kernel
theorem dX8_change_60 : decode cX8_change 60 = .ok (.sipush 1000, 3) := by decide +kernel
theorem dX8_change_63 : decode cX8_change 63 = .ok (.aload_n 0, 1) := by decide +kernel
theorem dX8_change_64 : decode cX8_change 64 = .ok (.getfield 42, 3) := by decide +kernel
theorem dX8_change_67 : decode cX8_change 67 = .ok (.iload_n 1, 1) := by decide +kernel
theorem dX8_change_68 : decode cX8_change 68 = .ok (.invokevirtual 177, 3) := by decide +kernel
theorem dX8_change_71 : decode cX8_change 71 = .ok (.imul, 1) := by decide +kernel
theorem dX8_change_72 : decode cX8_change 72 = .ok (.if_icmp .ge 7, 3) := by decide +kernel
theorem dX8_change_75 : decode cX8_change 75 = .ok (.iconst (-1), 1) := by decide +kernel
theorem dX8_change_76 : decode cX8_change 76 = .ok (.goto 4, 3) := by decide +kernel
theorem dX8_change_79 : decode cX8_change 79 = .ok (.iconst 0, 1) := by decide +kernel
theorem dX8_change_80 : decode cX8_change 80 = .ok (.ireturn, 1) := by decide +kernel
theorem dX8_look_0 : decode cX8_look 0 = .ok (.aload_n 0, 1) := by decide +kernel
theorem dX8_look_1 : decode cX8_look 1 = .ok (.getfield 33, 3) := by decide +kernel
theorem dX8_look_4 : decode cX8_look 4 = .ok (.iload_n 1, 1) := by decide +kernel
theorem dX8_look_5 : decode cX8_look 5 = .ok (.invokevirtual 196, 3) := by decide +kernel
theorem dX8_look_8 : decode cX8_look 8 = .ok (.ifCond .eq 12, 3) := by decide +kernel
theorem dX8_look_11 : decode cX8_look 11 = .ok (.iload_n 2, 1) := by decide +kernel
theorem dX8_look_12 : decode cX8_look 12 = .ok (.ifCond .lt 8, 3) := by decide +kernel
theorem dX8_look_15 : decode cX8_look 15 = .ok (.iload_n 2, 1) := by decide +kernel
theorem dX8_look_16 : decode cX8_look 16 = .ok (.iconst 5, 1) := by decide +kernel
theorem dX8_look_17 : decode cX8_look 17 = .ok (.if_icmp .le 11, 3) := by decide +kernel
theorem dX8_look_20 : decode cX8_look 20 = .ok (.new 146, 3) := by decide +kernel
theorem dX8_look_23 : decode cX8_look 23 = .ok (.dup, 1) := by decide +kernel
theorem dX8_look_24 : decode cX8_look 24 = .ok (.invokespecial 148, 3) := by decide +kernel
theorem dX8_look_27 : decode cX8_look 27 = .ok (.athrow, 1) := by decide +kernel
theorem dX8_look_28 : decode cX8_look 28 = .ok (.iload_n 2, 1) := by decide +kernel
theorem dX8_look_29 : decode cX8_look 29 = .ok (.tableswitch 91 0 4 #[35, 48, 61, 71, 81], 35) := by decide +kernel
theorem dX8_look_64 : decode cX8_look 64 = .ok (.aload_n 0, 1) := by decide +kernel
theorem dX8_look_65 : decode cX8_look 65 = .ok (.getfield 33, 3) := by decide +kernel
theorem dX8_look_68 : decode cX8_look 68 = .ok (.getfield 132, 3) := by decide +kernel
theorem dX8_look_71 : decode cX8_look 71 = .ok (.iload_n 1, 1) := by decide +kernel
theorem dX8_look_72 : decode cX8_look 72 = .ok (.iaload, 1) := by decide +kernel
theorem dX8_look_73 : decode cX8_look 73 = .ok (.bipush 30, 2) := by decide +kernel
theorem dX8_look_75 : decode cX8_look 75 = .ok (.idiv, 1) := by decide +kernel
theorem dX8_look_76 : decode cX8_look 76 = .ok (.ireturn, 1) := by decide +kernel
theorem dX8_look_77 : decode cX8_look 77 = .ok (.aload_n 0, 1) := by decide +kernel
theorem dX8_look_78 : decode cX8_look 78 = .ok (.getfield 33, 3) := by decide +kernel
theorem dX8_look_81 : decode cX8_look 81 = .ok (.getfield 132, 3) := by decide +kernel
theorem dX8_look_84 : decode cX8_look 84 = .ok (.iload_n 1, 1) := by decide +kernel
theorem dX8_look_85 : decode cX8_look 85 = .ok (.iaload, 1) := by decide +kernel
theorem dX8_look_86 : decode cX8_look 86 = .ok (.bipush 30, 2) := by decide +kernel
theorem dX8_look_88 : decode cX8_look 88 = .ok (.irem, 1) := by decide +kernel
theorem dX8_look_89 : decode cX8_look 89 = .ok (.ireturn, 1) := by decide +kernel
theorem dX8_look_90 : decode cX8_look 90 = .ok (.aload_n 0, 1) := by decide +kernel
theorem dX8_look_91 : decode cX8_look 91 = .ok (.getfield 33, 3) := by decide +kernel
theorem dX8_look_94 : decode cX8_look 94 = .ok (.getfield 197, 3) := by decide +kernel
theorem dX8_look_97 : decode cX8_look 97 = .ok (.iload_n 1, 1) := by decide +kernel
theorem dX8_look_98 : decode cX8_look 98 = .ok (.iaload, 1) := by decide +kernel
theorem dX8_look_99 : decode cX8_look 99 = .ok (.ireturn, 1) := by decide +kernel
theorem dX8_look_100 : decode cX8_look 100 = .ok (.aload_n 0, 1) := by decide +kernel
theorem dX8_look_101 : decode cX8_look 101 = .ok (.getfield 33, 3) := by decide +kernel
theorem dX8_look_104 : decode cX8_look 104 = .ok (.getfield 200, 3) := by decide +kernel
theorem dX8_look_107 : decode cX8_look 107 = .ok (.iload_n 1, 1) := by decide +kernel
theorem dX8_look_108 : decode cX8_look 108 = .ok (.iaload, 1) := by decide +kernel
theorem dX8_look_109 : decode cX8_look 109 = .ok (.ireturn, 1) := by decide +kernel
theorem dX8_look_110 : decode cX8_look 110 = .ok (.aload_n 0, 1) := by decide +kernel
theorem dX8_look_111 : decode cX8_look 111 = .ok (.getfield 33, 3) := by decide +kernel
theorem dX8_look_114 : decode cX8_look 114 = .ok (.getfield 203, 3) := by decide +kernel
theorem dX8_look_117 : decode cX8_look 117 = .ok (.iload_n 1, 1) := by decide +kernel
theorem dX8_look_118 : decode cX8_look 118 = .ok (.iaload, 1) := by decide +kernel
theorem dX8_look_119 : decode cX8_look 119 = .ok (.ireturn, 1) := by decide +kernel
theorem dX8_look_120 : decode cX8_look 120 = .ok (.aload_n 0, 1) := by decide +kernel
theorem dX8_look_121 : decode cX8_look 121 = .ok (.getfield 33, 3) := by decide +kernel
theorem dX8_look_124 : decode cX8_look 124 = .ok (.getfield 206, 3) := by decide +kernel
theorem dX8_look_127 : decode cX8_look 127 = .ok (.iload_n 1, 1) := by decide +kernel
theorem dX8_look_128 : decode cX8_look 128 = .ok (.iaload, 1) := by decide +kernel
theorem dX8_look_129 : decode cX8_look 129 = .ok (.ireturn, 1) := by decide +kernel
theorem dX8_count_0 : decode cX8_count 0 = .ok (.iload_n 1, 1) := by decide +kernel
theorem dX8_count_1 : decode cX8_count 1 = .ok (.tableswitch 81 0 5 #[39, 47, 55, 60, 68, 76], 39) := by decide +kernel
theorem dX8_count_40 : decode cX8_count 40 = .ok (.aload_n 0, 1) := by decide +kernel
theorem dX8_count_41 : decode cX8_count 41 = .ok (.getfield 10, 3) := by decide +kernel
theorem dX8_count_44 : decode cX8_count 44 = .ok (.getfield 209, 3) := by decide +kernel
theorem dX8_count_47 : decode cX8_count 47 = .ok (.ireturn, 1) := by decide +kernel
theorem dX8_count_48 : decode cX8_count 48 = .ok (.aload_n 0, 1) := by decide +kernel
theorem dX8_count_49 : decode cX8_count 49 = .ok (.getfield 19, 3) := by decide +kernel
theorem dX8_count_52 : decode cX8_count 52 = .ok (.getfield 210, 3) := by decide +kernel
theorem dX8_count_55 : decode cX8_count 55 = .ok (.ireturn, 1) := by decide +kernel
theorem dX8_count_56 : decode cX8_count 56 = .ok (.aload_n 0, 1) := by decide +kernel
theorem dX8_count_57 : decode cX8_count 57 = .ok (.getfield 66, 3) := by decide +kernel
theorem dX8_count_60 : decode cX8_count 60 = .ok (.ireturn, 1) := by decide +kernel
theorem dX8_count_61 : decode cX8_count 61 = .ok (.aload_n 0, 1) := by decide +kernel
theorem dX8_count_62 : decode cX8_count 62 = .ok (.getfield 33, 3) := by decide +kernel
theorem dX8_count_65 : decode cX8_count 65 = .ok (.getfield 73, 3) := by decide +kernel
theorem dX8_count_68 : decode cX8_count 68 = .ok (.ireturn, 1) := by decide +kernel
theorem dX8_count_69 : decode cX8_count 69 = .ok (.aload_n 0, 1) := by decide +kernel
theorem dX8_count_70 : decode cX8_count 70 = .ok (.getfield 19, 3) := by decide +kernel
theorem dX8_count_73 : decode cX8_count 73 = .ok (.invokevirtual 211, 3) := by decide +kernel
theorem dX8_count_76 : decode cX8_count 76 = .ok (.ireturn, 1) := by decide +kernel
theorem dX8_count_77 : decode cX8_count 77 = .ok (.aload_n 0, 1) := by decide +kernel
theorem dX8_count_78 : decode cX8_count 78 = .ok (.getfield 70, 3) := by decide +kernel
theorem dX8_count_81 : decode cX8_count 81 = .ok (.ireturn, 1) := by decide +kernel
theorem dX8_count_82 : decode cX8_count 82 = .ok (.iconst (-1), 1) := by decide +kernel
theorem dX8_count_83 : decode cX8_count 83 = .ok (.ireturn, 1) := by decide +kernel
theorem dX8_isYear_0 : decode cX8_isYear 0 = .ok (.iload_n 0, 1) := by decide +kernel
theorem dX8_isYear_1 : decode cX8_isYear 1 = .ok (.ifCond .lt 13, 3) := by decide +kernel
theorem dX8_isYear_4 : decode cX8_isYear 4 = .ok (.iload_n 0, 1) := by decide +kernel
theorem dX8_isYear_5 : decode cX8_isYear 5 = .ok (.bipush 6, 2) := by decide +kernel
theorem dX8_isYear_7 : decode cX8_isYear 7 = .ok (.if_icmp .ge 7, 3) := by decide +kernel
theorem dX8_isYear_10 : decode cX8_isYear 10 = .ok (.iconst 1, 1) := by decide +kernel
theorem dX8_isYear_11 : decode cX8_isYear 11 = .ok (.goto 4, 3) := by decide +kernel
theorem dX8_isYear_14 : decode cX8_isYear 14 = .ok (.iconst 0, 1) := by decide +kernel
theorem dX8_isYear_15 : decode cX8_isYear 15 = .ok (.ireturn, 1) := by decide +kernel
theorem dX8_isDay_0 : decode cX8_isDay 0 = .ok (.iload_n 0, 1) := by decide +kernel
theorem dX8_isDay_1 : decode cX8_isDay 1 = .ok (.invokestatic 143, 3) := by decide +kernel
theorem dX8_isDay_4 : decode cX8_isDay 4 = .ok (.ifCond .eq 17, 3) := by decide +kernel
theorem dX8_isDay_7 : decode cX8_isDay 7 = .ok (.iload_n 1, 1) := by decide +kernel
theorem dX8_isDay_8 : decode cX8_isDay 8 = .ok (.ifCond .lt 13, 3) := by decide +kernel
theorem dX8_isDay_11 : decode cX8_isDay 11 = .ok (.iload_n 1, 1) := by decide +kernel
theorem dX8_isDay_12 : decode cX8_isDay 12 = .ok (.bipush 30, 2) := by decide +kernel
theorem dX8_isDay_14 : decode cX8_isDay 14 = .ok (.if_icmp .ge 7, 3) := by decide +kernel
theorem dX8_isDay_17 : decode cX8_isDay 17 = .ok (.iconst 1, 1) := by decide +kernel
theorem dX8_isDay_18 : decode cX8_isDay 18 = .ok (.goto 4, 3) := by decide +kernel
theorem dX8_isDay_21 : decode cX8_isDay 21 = .ok (.iconst 0, 1) := by decide +kernel
theorem dX8_isDay_22 : decode cX8_isDay 22 = .ok (.ireturn, 1) := by decide +kernel
theorem dX8_dateOf_0 : decode cX8_dateOf 0 = .ok (.iload_n 0, 1) := by decide +kernel
theorem dX8_dateOf_1 : decode cX8_dateOf 1 = .ok (.bipush 30, 2) := by decide +kernel
theorem dX8_dateOf_3 : decode cX8_dateOf 3 = .ok (.imul, 1) := by decide +kernel
theorem dX8_dateOf_4 : decode cX8_dateOf 4 = .ok (.iload_n 1, 1) := by decide +kernel
theorem dX8_dateOf_5 : decode cX8_dateOf 5 = .ok (.iadd, 1) := by decide +kernel
theorem dX8_dateOf_6 : decode cX8_dateOf 6 = .ok (.ireturn, 1) := by decide +kernel
theorem dX8_knownDay_0 : decode cX8_knownDay 0 = .ok (.aload_n 0, 1) := by decide +kernel
theorem dX8_knownDay_1 : decode cX8_knownDay 1 = .ok (.getfield 70, 3) := by decide +kernel
theorem dX8_knownDay_4 : decode cX8_knownDay 4 = .ok (.iconst (-1), 1) := by decide +kernel
theorem dX8_knownDay_5 : decode cX8_knownDay 5 = .ok (.if_icmp .ne 10, 3) := by decide +kernel
theorem dX8_knownDay_8 : decode cX8_knownDay 8 = .ok (.aload_n 0, 1) := by decide +kernel
theorem dX8_knownDay_9 : decode cX8_knownDay 9 = .ok (.getfield 66, 3) := by decide +kernel
theorem dX8_knownDay_12 : decode cX8_knownDay 12 = .ok (.goto 7, 3) := by decide +kernel
theorem dX8_knownDay_15 : decode cX8_knownDay 15 = .ok (.aload_n 0, 1) := by decide +kernel
theorem dX8_knownDay_16 : decode cX8_knownDay 16 = .ok (.getfield 70, 3) := by decide +kernel
theorem dX8_knownDay_19 : decode cX8_knownDay 19 = .ok (.ireturn, 1) := by decide +kernel
theorem dX8_missedOf_0 : decode cX8_missedOf 0 = .ok (.aload_n 0, 1) := by decide +kernel
theorem dX8_missedOf_1 : decode cX8_missedOf 1 = .ok (.getfield 58, 3) := by decide +kernel
theorem dX8_missedOf_4 : decode cX8_missedOf 4 = .ok (.invokevirtual 214, 3) := by decide +kernel
theorem dX8_missedOf_7 : decode cX8_missedOf 7 = .ok (.aload_n 0, 1) := by decide +kernel
theorem dX8_missedOf_8 : decode cX8_missedOf 8 = .ok (.getfield 26, 3) := by decide +kernel
theorem dX8_missedOf_11 : decode cX8_missedOf 11 = .ok (.iload_n 1, 1) := by decide +kernel
theorem dX8_missedOf_12 : decode cX8_missedOf 12 = .ok (.aload_n 0, 1) := by decide +kernel
theorem dX8_missedOf_13 : decode cX8_missedOf 13 = .ok (.getfield 58, 3) := by decide +kernel
theorem dX8_missedOf_16 : decode cX8_missedOf 16 = .ok (.getfield 215, 3) := by decide +kernel
theorem dX8_missedOf_19 : decode cX8_missedOf 19 = .ok (.aload_n 0, 1) := by decide +kernel
theorem dX8_missedOf_20 : decode cX8_missedOf 20 = .ok (.getfield 58, 3) := by decide +kernel
theorem dX8_missedOf_23 : decode cX8_missedOf 23 = .ok (.getfield 218, 3) := by decide +kernel
theorem dX8_missedOf_26 : decode cX8_missedOf 26 = .ok (.invokevirtual 221, 3) := by decide +kernel
theorem dX8_missedOf_29 : decode cX8_missedOf 29 = .ok (.aload_n 0, 1) := by decide +kernel
theorem dX8_missedOf_30 : decode cX8_missedOf 30 = .ok (.getfield 42, 3) := by decide +kernel
theorem dX8_missedOf_33 : decode cX8_missedOf 33 = .ok (.iload_n 1, 1) := by decide +kernel
theorem dX8_missedOf_34 : decode cX8_missedOf 34 = .ok (.aload_n 0, 1) := by decide +kernel
theorem dX8_missedOf_35 : decode cX8_missedOf 35 = .ok (.getfield 26, 3) := by decide +kernel
theorem dX8_missedOf_38 : decode cX8_missedOf 38 = .ok (.aload_n 0, 1) := by decide +kernel
theorem dX8_missedOf_39 : decode cX8_missedOf 39 = .ok (.getfield 58, 3) := by decide +kernel
theorem dX8_missedOf_42 : decode cX8_missedOf 42 = .ok (.getfield 225, 3) := by decide +kernel
theorem dX8_missedOf_45 : decode cX8_missedOf 45 = .ok (.invokevirtual 228, 3) := by decide +kernel
theorem dX8_missedOf_48 : decode cX8_missedOf 48 = .ok (.aload_n 0, 1) := by decide +kernel
theorem dX8_missedOf_49 : decode cX8_missedOf 49 = .ok (.getfield 58, 3) := by decide +kernel
theorem dX8_missedOf_52 : decode cX8_missedOf 52 = .ok (.invokevirtual 232, 3) := by decide +kernel
theorem dX8_missedOf_55 : decode cX8_missedOf 55 = .ok (.ireturn, 1) := by decide +kernel
theorem dX8_totalOf_0 : decode cX8_totalOf 0 = .ok (.sipush 1000, 3) := by decide +kernel
theorem dX8_totalOf_3 : decode cX8_totalOf 3 = .ok (.aload_n 0, 1) := by decide +kernel
theorem dX8_totalOf_4 : decode cX8_totalOf 4 = .ok (.getfield 42, 3) := by decide +kernel
theorem dX8_totalOf_7 : decode cX8_totalOf 7 = .ok (.iload_n 1, 1) := by decide +kernel
theorem dX8_totalOf_8 : decode cX8_totalOf 8 = .ok (.invokevirtual 177, 3) := by decide +kernel
theorem dX8_totalOf_11 : decode cX8_totalOf 11 = .ok (.imul, 1) := by decide +kernel
theorem dX8_totalOf_12 : decode cX8_totalOf 12 = .ok (.aload_n 0, 1) := by decide +kernel
theorem dX8_totalOf_13 : decode cX8_totalOf 13 = .ok (.iload_n 1, 1) := by decide +kernel
theorem dX8_totalOf_14 : decode cX8_totalOf 14 = .ok (.invokevirtual 183, 3) := by decide +kernel
theorem dX8_totalOf_17 : decode cX8_totalOf 17 = .ok (.iadd, 1) := by decide +kernel
theorem dX8_totalOf_18 : decode cX8_totalOf 18 = .ok (.ireturn, 1) := by decide +kernel
theorem dX8_slotOfNth_0 : decode cX8_slotOfNth 0 = .ok (.iconst 0, 1) := by decide +kernel
theorem dX8_slotOfNth_1 : decode cX8_slotOfNth 1 = .ok (.istore_n 2, 1) := by decide +kernel
theorem dX8_slotOfNth_2 : decode cX8_slotOfNth 2 = .ok (.iconst 0, 1) := by decide +kernel
theorem dX8_slotOfNth_3 : decode cX8_slotOfNth 3 = .ok (.istore_n 3, 1) := by decide +kernel
theorem dX8_slotOfNth_4 : decode cX8_slotOfNth 4 = .ok (.iload_n 3, 1) := by decide +kernel
theorem dX8_slotOfNth_5 : decode cX8_slotOfNth 5 = .ok (.sipush 300, 3) := by decide +kernel
theorem dX8_slotOfNth_8 : decode cX8_slotOfNth 8 = .ok (.if_icmp .ge 25, 3) := by decide +kernel
theorem dX8_slotOfNth_11 : decode cX8_slotOfNth 11 = .ok (.iload_n 2, 1) := by decide +kernel
theorem dX8_slotOfNth_12 : decode cX8_slotOfNth 12 = .ok (.aload_n 0, 1) := by decide +kernel
theorem dX8_slotOfNth_13 : decode cX8_slotOfNth 13 = .ok (.getfield 62, 3) := by decide +kernel
theorem dX8_slotOfNth_16 : decode cX8_slotOfNth 16 = .ok (.iload_n 3, 1) := by decide +kernel
theorem dX8_slotOfNth_17 : decode cX8_slotOfNth 17 = .ok (.iaload, 1) := by decide +kernel
theorem dX8_slotOfNth_18 : decode cX8_slotOfNth 18 = .ok (.iadd, 1) := by decide +kernel
theorem dX8_slotOfNth_19 : decode cX8_slotOfNth 19 = .ok (.istore_n 2, 1) := by decide +kernel
theorem dX8_slotOfNth_20 : decode cX8_slotOfNth 20 = .ok (.iload_n 2, 1) := by decide +kernel
theorem dX8_slotOfNth_21 : decode cX8_slotOfNth 21 = .ok (.iload_n 1, 1) := by decide +kernel
theorem dX8_slotOfNth_22 : decode cX8_slotOfNth 22 = .ok (.if_icmp .lt 5, 3) := by decide +kernel
theorem dX8_slotOfNth_25 : decode cX8_slotOfNth 25 = .ok (.iload_n 3, 1) := by decide +kernel
theorem dX8_slotOfNth_26 : decode cX8_slotOfNth 26 = .ok (.ireturn, 1) := by decide +kernel
theorem dX8_slotOfNth_27 : decode cX8_slotOfNth 27 = .ok (.iinc 3 1, 3) := by decide +kernel
theorem dX8_slotOfNth_30 : decode cX8_slotOfNth 30 = .ok (.goto (-26), 3) := by decide +kernel
theorem dX8_slotOfNth_33 : decode cX8_slotOfNth 33 = .ok (.iconst (-1), 1) := by decide +kernel
theorem dX8_slotOfNth_34 : decode cX8_slotOfNth 34 = .ok (.ireturn, 1) := by decide +kernel
theorem dJ6_bitCount_0f7a4_0 : decode cJ6_bitCount_0f7a4 0 = .ok (.iload_n 0, 1) := by decide +kernel
theorem dJ6_bitCount_0f7a4_1 : decode cJ6_bitCount_0f7a4 1 = .ok (.iload_n 0, 1) := by decide +kernel
theorem dJ6_bitCount_0f7a4_2 : decode cJ6_bitCount_0f7a4 2 = .ok (.iconst 1, 1) := by decide +kernel
theorem dJ6_bitCount_0f7a4_3 : decode cJ6_bitCount_0f7a4 3 = .ok (.iushr, 1) := by decide +kernel
theorem dJ6_bitCount_0f7a4_4 : decode cJ6_bitCount_0f7a4 4 = .ok (.ldc_w 265, 3) := by decide +kernel
theorem dJ6_bitCount_0f7a4_7 : decode cJ6_bitCount_0f7a4 7 = .ok (.iand, 1) := by decide +kernel
theorem dJ6_bitCount_0f7a4_8 : decode cJ6_bitCount_0f7a4 8 = .ok (.isub, 1) := by decide +kernel
theorem dJ6_bitCount_0f7a4_9 : decode cJ6_bitCount_0f7a4 9 = .ok (.istore_n 0, 1) := by decide +kernel
theorem dJ6_bitCount_0f7a4_10 : decode cJ6_bitCount_0f7a4 10 = .ok (.iload_n 0, 1) := by decide +kernel
theorem dJ6_bitCount_0f7a4_11 : decode cJ6_bitCount_0f7a4 11 = .ok (.ldc_w 266, 3) := by decide +kernel
theorem dJ6_bitCount_0f7a4_14 : decode cJ6_bitCount_0f7a4 14 = .ok (.iand, 1) := by decide +kernel
theorem dJ6_bitCount_0f7a4_15 : decode cJ6_bitCount_0f7a4 15 = .ok (.iload_n 0, 1) := by decide +kernel
theorem dJ6_bitCount_0f7a4_16 : decode cJ6_bitCount_0f7a4 16 = .ok (.iconst 2, 1) := by decide +kernel
theorem dJ6_bitCount_0f7a4_17 : decode cJ6_bitCount_0f7a4 17 = .ok (.iushr, 1) := by decide +kernel
theorem dJ6_bitCount_0f7a4_18 : decode cJ6_bitCount_0f7a4 18 = .ok (.ldc_w 266, 3) := by decide +kernel
theorem dJ6_bitCount_0f7a4_21 : decode cJ6_bitCount_0f7a4 21 = .ok (.iand, 1) := by decide +kernel
theorem dJ6_bitCount_0f7a4_22 : decode cJ6_bitCount_0f7a4 22 = .ok (.iadd, 1) := by decide +kernel
theorem dJ6_bitCount_0f7a4_23 : decode cJ6_bitCount_0f7a4 23 = .ok (.istore_n 0, 1) := by decide +kernel
theorem dJ6_bitCount_0f7a4_24 : decode cJ6_bitCount_0f7a4 24 = .ok (.iload_n 0, 1) := by decide +kernel
theorem dJ6_bitCount_0f7a4_25 : decode cJ6_bitCount_0f7a4 25 = .ok (.iload_n 0, 1) := by decide +kernel
theorem dJ6_bitCount_0f7a4_26 : decode cJ6_bitCount_0f7a4 26 = .ok (.iconst 4, 1) := by decide +kernel
theorem dJ6_bitCount_0f7a4_27 : decode cJ6_bitCount_0f7a4 27 = .ok (.iushr, 1) := by decide +kernel
theorem dJ6_bitCount_0f7a4_28 : decode cJ6_bitCount_0f7a4 28 = .ok (.iadd, 1) := by decide +kernel
theorem dJ6_bitCount_0f7a4_29 : decode cJ6_bitCount_0f7a4 29 = .ok (.ldc_w 267, 3) := by decide +kernel
theorem dJ6_bitCount_0f7a4_32 : decode cJ6_bitCount_0f7a4 32 = .ok (.iand, 1) := by decide +kernel
theorem dJ6_bitCount_0f7a4_33 : decode cJ6_bitCount_0f7a4 33 = .ok (.istore_n 0, 1) := by decide +kernel
theorem dJ6_bitCount_0f7a4_34 : decode cJ6_bitCount_0f7a4 34 = .ok (.iload_n 0, 1) := by decide +kernel
theorem dJ6_bitCount_0f7a4_35 : decode cJ6_bitCount_0f7a4 35 = .ok (.iload_n 0, 1) := by decide +kernel
theorem dJ6_bitCount_0f7a4_36 : decode cJ6_bitCount_0f7a4 36 = .ok (.bipush 8, 2) := by decide +kernel
theorem dJ6_bitCount_0f7a4_38 : decode cJ6_bitCount_0f7a4 38 = .ok (.iushr, 1) := by decide +kernel
theorem dJ6_bitCount_0f7a4_39 : decode cJ6_bitCount_0f7a4 39 = .ok (.iadd, 1) := by decide +kernel
theorem dJ6_bitCount_0f7a4_40 : decode cJ6_bitCount_0f7a4 40 = .ok (.istore_n 0, 1) := by decide +kernel
theorem dJ6_bitCount_0f7a4_41 : decode cJ6_bitCount_0f7a4 41 = .ok (.iload_n 0, 1) := by decide +kernel
theorem dJ6_bitCount_0f7a4_42 : decode cJ6_bitCount_0f7a4 42 = .ok (.iload_n 0, 1) := by decide +kernel
theorem dJ6_bitCount_0f7a4_43 : decode cJ6_bitCount_0f7a4 43 = .ok (.bipush 16, 2) := by decide +kernel
theorem dJ6_bitCount_0f7a4_45 : decode cJ6_bitCount_0f7a4 45 = .ok (.iushr, 1) := by decide +kernel
theorem dJ6_bitCount_0f7a4_46 : decode cJ6_bitCount_0f7a4 46 = .ok (.iadd, 1) := by decide +kernel
theorem dJ6_bitCount_0f7a4_47 : decode cJ6_bitCount_0f7a4 47 = .ok (.istore_n 0, 1) := by decide +kernel
theorem dJ6_bitCount_0f7a4_48 : decode cJ6_bitCount_0f7a4 48 = .ok (.iload_n 0, 1) := by decide +kernel
theorem dJ6_bitCount_0f7a4_49 : decode cJ6_bitCount_0f7a4 49 = .ok (.bipush 63, 2) := by decide +kernel
theorem dJ6_bitCount_0f7a4_51 : decode cJ6_bitCount_0f7a4 51 = .ok (.iand, 1) := by decide +kernel
theorem dJ6_bitCount_0f7a4_52 : decode cJ6_bitCount_0f7a4 52 = .ok (.ireturn, 1) := by decide +kernel
theorem dJ9_max_7cf53_0 : decode cJ9_max_7cf53 0 = .ok (.iload_n 0, 1) := by decide +kernel
theorem dJ9_max_7cf53_1 : decode cJ9_max_7cf53 1 = .ok (.iload_n 1, 1) := by decide +kernel
theorem dJ9_max_7cf53_2 : decode cJ9_max_7cf53 2 = .ok (.if_icmp .lt 7, 3) := by decide +kernel
theorem dJ9_max_7cf53_5 : decode cJ9_max_7cf53 5 = .ok (.iload_n 0, 1) := by decide +kernel
theorem dJ9_max_7cf53_6 : decode cJ9_max_7cf53 6 = .ok (.goto 4, 3) := by decide +kernel
theorem dJ9_max_7cf53_9 : decode cJ9_max_7cf53 9 = .ok (.iload_n 1, 1) := by decide +kernel
theorem dJ9_max_7cf53_10 : decode cJ9_max_7cf53 10 = .ok (.ireturn, 1) := by decide +kernel
theorem dJ9_min_7cf53_0 : decode cJ9_min_7cf53 0 = .ok (.iload_n 0, 1) := by decide +kernel
theorem dJ9_min_7cf53_1 : decode cJ9_min_7cf53 1 = .ok (.iload_n 1, 1) := by decide +kernel
theorem dJ9_min_7cf53_2 : decode cJ9_min_7cf53 2 = .ok (.if_icmp .gt 7, 3) := by decide +kernel
theorem dJ9_min_7cf53_5 : decode cJ9_min_7cf53 5 = .ok (.iload_n 0, 1) := by decide +kernel
theorem dJ9_min_7cf53_6 : decode cJ9_min_7cf53 6 = .ok (.goto 4, 3) := by decide +kernel
theorem dJ9_min_7cf53_9 : decode cJ9_min_7cf53 9 = .ok (.iload_n 1, 1) := by decide +kernel
theorem dJ9_min_7cf53_10 : decode cJ9_min_7cf53 10 = .ok (.ireturn, 1) := by decide +kernel
