theorem dX7_init_0 : decode cX7_init 0 = .ok (.aload_n 0, 1) := by decide +kernel
theorem dX7_init_1 : decode cX7_init 1 = .ok (.invokespecial 1, 3) := by decide +kernel
theorem dX7_init_4 : decode cX7_init 4 = .ok (.aload_n 0, 1) := by decide +kernel
theorem dX7_init_5 : decode cX7_init 5 = .ok (.new 7, 3) := by decide +kernel
theorem dX7_init_8 : decode cX7_init 8 = .ok (.dup, 1) := by decide +kernel
theorem dX7_init_9 : decode cX7_init 9 = .ok (.invokespecial 9, 3) := by decide +kernel
theorem dX7_init_12 : decode cX7_init 12 = .ok (.putfield 10, 3) := by decide +kernel
theorem dX7_init_15 : decode cX7_init 15 = .ok (.aload_n 0, 1) := by decide +kernel
theorem dX7_init_16 : decode cX7_init 16 = .ok (.new 16, 3) := by decide +kernel
theorem dX7_init_19 : decode cX7_init 19 = .ok (.dup, 1) := by decide +kernel
theorem dX7_init_20 : decode cX7_init 20 = .ok (.invokespecial 18, 3) := by decide +kernel
theorem dX7_init_23 : decode cX7_init 23 = .ok (.putfield 19, 3) := by decide +kernel
theorem dX7_init_26 : decode cX7_init 26 = .ok (.aload_n 0, 1) := by decide +kernel
theorem dX7_init_27 : decode cX7_init 27 = .ok (.new 23, 3) := by decide +kernel
theorem dX7_init_30 : decode cX7_init 30 = .ok (.dup, 1) := by decide +kernel
theorem dX7_init_31 : decode cX7_init 31 = .ok (.invokespecial 25, 3) := by decide +kernel
theorem dX7_init_34 : decode cX7_init 34 = .ok (.putfield 26, 3) := by decide +kernel
theorem dX7_init_37 : decode cX7_init 37 = .ok (.aload_n 0, 1) := by decide +kernel
theorem dX7_init_38 : decode cX7_init 38 = .ok (.new 30, 3) := by decide +kernel
theorem dX7_init_41 : decode cX7_init 41 = .ok (.dup, 1) := by decide +kernel
theorem dX7_init_42 : decode cX7_init 42 = .ok (.invokespecial 32, 3) := by decide +kernel
theorem dX7_init_45 : decode cX7_init 45 = .ok (.putfield 33, 3) := by decide +kernel
theorem dX7_init_48 : decode cX7_init 48 = .ok (.aload_n 0, 1) := by decide +kernel
theorem dX7_init_49 : decode cX7_init 49 = .ok (.new 37, 3) := by decide +kernel
theorem dX7_init_52 : decode cX7_init 52 = .ok (.dup, 1) := by decide +kernel
theorem dX7_init_53 : decode cX7_init 53 = .ok (.invokespecial 39, 3) := by decide +kernel
theorem dX7_init_56 : decode cX7_init 56 = .ok (.putfield 40, 3) := by decide +kernel
theorem dX7_init_59 : decode cX7_init 59 = .ok (.aload_n 0, 1) := by decide +kernel
theorem dX7_init_60 : decode cX7_init 60 = .ok (.new 44, 3) := by decide +kernel
theorem dX7_init_63 : decode cX7_init 63 = .ok (.dup, 1) := by decide +kernel
theorem dX7_init_64 : decode cX7_init 64 = .ok (.invokespecial 46, 3) := by decide +kernel
theorem dX7_init_67 : decode cX7_init 67 = .ok (.putfield 47, 3) := by decide +kernel
theorem dX7_init_70 : decode cX7_init 70 = .ok (.aload_n 0, 1) := by decide +kernel
theorem dX7_init_71 : decode cX7_init 71 = .ok (.new 51, 3) := by decide +kernel
theorem dX7_init_74 : decode cX7_init 74 = .ok (.dup, 1) := by decide +kernel
theorem dX7_init_75 : decode cX7_init 75 = .ok (.invokespecial 53, 3) := by decide +kernel
theorem dX7_init_78 : decode cX7_init 78 = .ok (.putfield 54, 3) := by decide +kernel
theorem dX7_init_81 : decode cX7_init 81 = .ok (.aload_n 0, 1) := by decide +kernel
theorem dX7_init_82 : decode cX7_init 82 = .ok (.new 51, 3) := by decide +kernel
theorem dX7_init_85 : decode cX7_init 85 = .ok (.dup, 1) := by decide +kernel
theorem dX7_init_86 : decode cX7_init 86 = .ok (.invokespecial 53, 3) := by decide +kernel
theorem dX7_init_89 : decode cX7_init 89 = .ok (.putfield 58, 3) := by decide +kernel
theorem dX7_init_92 : decode cX7_init 92 = .ok (.aload_n 0, 1) := by decide +kernel
theorem dX7_init_93 : decode cX7_init 93 = .ok (.bipush 24, 2) := by decide +kernel
theorem dX7_init_95 : decode cX7_init 95 = .ok (.newarray .int, 2) := by decide +kernel
theorem dX7_init_97 : decode cX7_init 97 = .ok (.putfield 61, 3) := by decide +kernel
theorem dX7_init_100 : decode cX7_init 100 = .ok (.aload_n 0, 1) := by decide +kernel
theorem dX7_init_101 : decode cX7_init 101 = .ok (.bipush 24, 2) := by decide +kernel
theorem dX7_init_103 : decode cX7_init 103 = .ok (.newarray .int, 2) := by decide +kernel
theorem dX7_init_105 : decode cX7_init 105 = .ok (.putfield 65, 3) := by decide +kernel
theorem dX7_init_108 : decode cX7_init 108 = .ok (.return_, 1) := by decide +kernel
theorem dX7_name_0 : decode cX7_name 0 = .ok (.iload_n 1, 1) := by decide +kernel
theorem dX7_name_1 : decode cX7_name 1 = .ok (.invokestatic 68, 3) := by decide +kernel
theorem dX7_name_4 : decode cX7_name 4 = .ok (.ifCond .eq 11, 3) := by decide +kernel
theorem dX7_name_7 : decode cX7_name 7 = .ok (.iload_n 2, 1) := by decide +kernel
theorem dX7_name_8 : decode cX7_name 8 = .ok (.iload_n 3, 1) := by decide +kernel
theorem dX7_name_9 : decode cX7_name 9 = .ok (.invokestatic 72, 3) := by decide +kernel
theorem dX7_name_12 : decode cX7_name 12 = .ok (.ifCond .ne 6, 3) := by decide +kernel
theorem dX7_name_15 : decode cX7_name 15 = .ok (.bipush (-3), 2) := by decide +kernel
theorem dX7_name_17 : decode cX7_name 17 = .ok (.ireturn, 1) := by decide +kernel
theorem dX7_name_18 : decode cX7_name 18 = .ok (.aload_n 0, 1) := by decide +kernel
theorem dX7_name_19 : decode cX7_name 19 = .ok (.getfield 10, 3) := by decide +kernel
theorem dX7_name_22 : decode cX7_name 22 = .ok (.getfield 76, 3) := by decide +kernel
theorem dX7_name_25 : decode cX7_name 25 = .ok (.bipush 24, 2) := by decide +kernel
theorem dX7_name_27 : decode cX7_name 27 = .ok (.if_icmp .lt 6, 3) := by decide +kernel
theorem dX7_name_30 : decode cX7_name 30 = .ok (.bipush (-5), 2) := by decide +kernel
theorem dX7_name_32 : decode cX7_name 32 = .ok (.ireturn, 1) := by decide +kernel
theorem dX7_name_33 : decode cX7_name 33 = .ok (.aload_n 0, 1) := by decide +kernel
theorem dX7_name_34 : decode cX7_name 34 = .ok (.invokevirtual 80, 3) := by decide +kernel
theorem dX7_name_37 : decode cX7_name 37 = .ok (.aload_n 0, 1) := by decide +kernel
theorem dX7_name_38 : decode cX7_name 38 = .ok (.getfield 10, 3) := by decide +kernel
theorem dX7_name_41 : decode cX7_name 41 = .ok (.iload_n 1, 1) := by decide +kernel
theorem dX7_name_42 : decode cX7_name 42 = .ok (.iload_n 2, 1) := by decide +kernel
theorem dX7_name_43 : decode cX7_name 43 = .ok (.iload_n 3, 1) := by decide +kernel
theorem dX7_name_44 : decode cX7_name 44 = .ok (.invokevirtual 83, 3) := by decide +kernel
theorem dX7_name_47 : decode cX7_name 47 = .ok (.ireturn, 1) := by decide +kernel
theorem dX7_dot_0 : decode cX7_dot 0 = .ok (.iload_n 1, 1) := by decide +kernel
theorem dX7_dot_1 : decode cX7_dot 1 = .ok (.iload_n 2, 1) := by decide +kernel
theorem dX7_dot_2 : decode cX7_dot 2 = .ok (.invokestatic 72, 3) := by decide +kernel
theorem dX7_dot_5 : decode cX7_dot 5 = .ok (.ifCond .ne 6, 3) := by decide +kernel
theorem dX7_dot_8 : decode cX7_dot 8 = .ok (.bipush (-3), 2) := by decide +kernel
theorem dX7_dot_10 : decode cX7_dot 10 = .ok (.ireturn, 1) := by decide +kernel
theorem dX7_dot_11 : decode cX7_dot 11 = .ok (.aload_n 0, 1) := by decide +kernel
theorem dX7_dot_12 : decode cX7_dot 12 = .ok (.getfield 10, 3) := by decide +kernel
theorem dX7_dot_15 : decode cX7_dot 15 = .ok (.getfield 87, 3) := by decide +kernel
theorem dX7_dot_18 : decode cX7_dot 18 = .ok (.bipush 20, 2) := by decide +kernel
theorem dX7_dot_20 : decode cX7_dot 20 = .ok (.if_icmp .lt 6, 3) := by decide +kernel
theorem dX7_dot_23 : decode cX7_dot 23 = .ok (.bipush (-5), 2) := by decide +kernel
theorem dX7_dot_25 : decode cX7_dot 25 = .ok (.ireturn, 1) := by decide +kernel
theorem dX7_dot_26 : decode cX7_dot 26 = .ok (.aload_n 0, 1) := by decide +kernel
theorem dX7_dot_27 : decode cX7_dot 27 = .ok (.invokevirtual 80, 3) := by decide +kernel
theorem dX7_dot_30 : decode cX7_dot 30 = .ok (.aload_n 0, 1) := by decide +kernel
theorem dX7_dot_31 : decode cX7_dot 31 = .ok (.getfield 10, 3) := by decide +kernel
theorem dX7_dot_34 : decode cX7_dot 34 = .ok (.iload_n 1, 1) := by decide +kernel
theorem dX7_dot_35 : decode cX7_dot 35 = .ok (.iload_n 2, 1) := by decide +kernel
theorem dX7_dot_36 : decode cX7_dot 36 = .ok (.invokevirtual 90, 3) := by decide +kernel
theorem dX7_dot_39 : decode cX7_dot 39 = .ok (.ireturn, 1) := by decide +kernel
theorem dX7_move_0 : decode cX7_move 0 = .ok (.aload_n 0, 1) := by decide +kernel
theorem dX7_move_1 : decode cX7_move 1 = .ok (.getfield 10, 3) := by decide +kernel
theorem dX7_move_4 : decode cX7_move 4 = .ok (.iload_n 1, 1) := by decide +kernel
theorem dX7_move_5 : decode cX7_move 5 = .ok (.invokevirtual 94, 3) := by decide +kernel
theorem dX7_move_8 : decode cX7_move 8 = .ok (.ifCond .eq 11, 3) := by decide +kernel
theorem dX7_move_11 : decode cX7_move 11 = .ok (.iload_n 2, 1) := by decide +kernel
theorem dX7_move_12 : decode cX7_move 12 = .ok (.iload_n 3, 1) := by decide +kernel
theorem dX7_move_13 : decode cX7_move 13 = .ok (.invokestatic 72, 3) := by decide +kernel
theorem dX7_move_16 : decode cX7_move 16 = .ok (.ifCond .ne 6, 3) := by decide +kernel
theorem dX7_move_19 : decode cX7_move 19 = .ok (.bipush (-3), 2) := by decide +kernel
theorem dX7_move_21 : decode cX7_move 21 = .ok (.ireturn, 1) := by decide +kernel
theorem dX7_move_22 : decode cX7_move 22 = .ok (.aload_n 0, 1) := by decide +kernel
theorem dX7_move_23 : decode cX7_move 23 = .ok (.invokevirtual 80, 3) := by decide +kernel
theorem dX7_move_26 : decode cX7_move 26 = .ok (.aload_n 0, 1) := by decide +kernel
theorem dX7_move_27 : decode cX7_move 27 = .ok (.getfield 10, 3) := by decide +kernel
theorem dX7_move_30 : decode cX7_move 30 = .ok (.getfield 97, 3) := by decide +kernel
theorem dX7_move_33 : decode cX7_move 33 = .ok (.iload_n 1, 1) := by decide +kernel
theorem dX7_move_34 : decode cX7_move 34 = .ok (.iload_n 2, 1) := by decide +kernel
theorem dX7_move_35 : decode cX7_move 35 = .ok (.iastore, 1) := by decide +kernel
theorem dX7_move_36 : decode cX7_move 36 = .ok (.aload_n 0, 1) := by decide +kernel
theorem dX7_move_37 : decode cX7_move 37 = .ok (.getfield 10, 3) := by decide +kernel
theorem dX7_move_40 : decode cX7_move 40 = .ok (.getfield 100, 3) := by decide +kernel
theorem dX7_move_43 : decode cX7_move 43 = .ok (.iload_n 1, 1) := by decide +kernel
theorem dX7_move_44 : decode cX7_move 44 = .ok (.iload_n 3, 1) := by decide +kernel
theorem dX7_move_45 : decode cX7_move 45 = .ok (.iastore, 1) := by decide +kernel
theorem dX7_move_46 : decode cX7_move 46 = .ok (.iconst 0, 1) := by decide +kernel
theorem dX7_move_47 : decode cX7_move 47 = .ok (.ireturn, 1) := by decide +kernel
theorem dX7_weigh_0 : decode cX7_weigh 0 = .ok (.aload_n 0, 1) := by decide +kernel
theorem dX7_weigh_1 : decode cX7_weigh 1 = .ok (.getfield 10, 3) := by decide +kernel
theorem dX7_weigh_4 : decode cX7_weigh 4 = .ok (.iload_n 1, 1) := by decide +kernel
theorem dX7_weigh_5 : decode cX7_weigh 5 = .ok (.invokevirtual 94, 3) := by decide +kernel
theorem dX7_weigh_8 : decode cX7_weigh 8 = .ok (.ifCond .eq 14, 3) := by decide +kernel
theorem dX7_weigh_11 : decode cX7_weigh 11 = .ok (.iload_n 2, 1) := by decide +kernel
theorem dX7_weigh_12 : decode cX7_weigh 12 = .ok (.iconst 1, 1) := by decide +kernel
theorem dX7_weigh_13 : decode cX7_weigh 13 = .ok (.sipush 1000, 3) := by decide +kernel
theorem dX7_weigh_16 : decode cX7_weigh 16 = .ok (.invokestatic 103, 3) := by decide +kernel
theorem dX7_weigh_19 : decode cX7_weigh 19 = .ok (.ifCond .ne 6, 3) := by decide +kernel
theorem dX7_weigh_22 : decode cX7_weigh 22 = .ok (.bipush (-3), 2) := by decide +kernel
theorem dX7_weigh_24 : decode cX7_weigh 24 = .ok (.ireturn, 1) := by decide +kernel
theorem dX7_weigh_25 : decode cX7_weigh 25 = .ok (.aload_n 0, 1) := by decide +kernel
theorem dX7_weigh_26 : decode cX7_weigh 26 = .ok (.invokevirtual 80, 3) := by decide +kernel
theorem dX7_weigh_29 : decode cX7_weigh 29 = .ok (.aload_n 0, 1) := by decide +kernel
theorem dX7_weigh_30 : decode cX7_weigh 30 = .ok (.getfield 10, 3) := by decide +kernel
theorem dX7_weigh_33 : decode cX7_weigh 33 = .ok (.getfield 107, 3) := by decide +kernel
theorem dX7_weigh_36 : decode cX7_weigh 36 = .ok (.iload_n 1, 1) := by decide +kernel
theorem dX7_weigh_37 : decode cX7_weigh 37 = .ok (.iaload, 1) := by decide +kernel
theorem dX7_weigh_38 : decode cX7_weigh 38 = .ok (.istore_n 3, 1) := by decide +kernel
theorem dX7_weigh_39 : decode cX7_weigh 39 = .ok (.aload_n 0, 1) := by decide +kernel
theorem dX7_weigh_40 : decode cX7_weigh 40 = .ok (.getfield 10, 3) := by decide +kernel
theorem dX7_weigh_43 : decode cX7_weigh 43 = .ok (.getfield 107, 3) := by decide +kernel
theorem dX7_weigh_46 : decode cX7_weigh 46 = .ok (.iload_n 1, 1) := by decide +kernel
theorem dX7_weigh_47 : decode cX7_weigh 47 = .ok (.iload_n 2, 1) := by decide +kernel
theorem dX7_weigh_48 : decode cX7_weigh 48 = .ok (.iastore, 1) := by decide +kernel
theorem dX7_weigh_49 : decode cX7_weigh 49 = .ok (.iload_n 3, 1) := by decide +kernel
theorem dX7_weigh_50 : decode cX7_weigh 50 = .ok (.ireturn, 1) := by decide +kernel
theorem dX7_size_0 : decode cX7_size 0 = .ok (.aload_n 0, 1) := by decide +kernel
theorem dX7_size_1 : decode cX7_size 1 = .ok (.getfield 10, 3) := by decide +kernel
theorem dX7_size_4 : decode cX7_size 4 = .ok (.iload_n 1, 1) := by decide +kernel
theorem dX7_size_5 : decode cX7_size 5 = .ok (.invokevirtual 94, 3) := by decide +kernel
theorem dX7_size_8 : decode cX7_size 8 = .ok (.ifCond .eq 24, 3) := by decide +kernel
theorem dX7_size_11 : decode cX7_size 11 = .ok (.iload_n 2, 1) := by decide +kernel
theorem dX7_size_12 : decode cX7_size 12 = .ok (.iconst 1, 1) := by decide +kernel
theorem dX7_size_13 : decode cX7_size 13 = .ok (.sipush 300, 3) := by decide +kernel
theorem dX7_size_16 : decode cX7_size 16 = .ok (.invokestatic 103, 3) := by decide +kernel
theorem dX7_size_19 : decode cX7_size 19 = .ok (.ifCond .eq 13, 3) := by decide +kernel
theorem dX7_size_22 : decode cX7_size 22 = .ok (.iload_n 3, 1) := by decide +kernel
theorem dX7_size_23 : decode cX7_size 23 = .ok (.iconst 1, 1) := by decide +kernel
theorem dX7_size_24 : decode cX7_size 24 = .ok (.bipush 80, 2) := by decide +kernel
theorem dX7_size_26 : decode cX7_size 26 = .ok (.invokestatic 103, 3) := by decide +kernel
theorem dX7_size_29 : decode cX7_size 29 = .ok (.ifCond .ne 6, 3) := by decide +kernel
theorem dX7_size_32 : decode cX7_size 32 = .ok (.bipush (-3), 2) := by decide +kernel
theorem dX7_size_34 : decode cX7_size 34 = .ok (.ireturn, 1) := by decide +kernel
theorem dX7_size_35 : decode cX7_size 35 = .ok (.aload_n 0, 1) := by decide +kernel
theorem dX7_size_36 : decode cX7_size 36 = .ok (.invokevirtual 80, 3) := by decide +kernel
theorem dX7_size_39 : decode cX7_size 39 = .ok (.aload_n 0, 1) := by decide +kernel
theorem dX7_size_40 : decode cX7_size 40 = .ok (.getfield 10, 3) := by decide +kernel
theorem dX7_size_43 : decode cX7_size 43 = .ok (.getfield 110, 3) := by decide +kernel
theorem dX7_size_46 : decode cX7_size 46 = .ok (.iload_n 1, 1) := by decide +kernel
theorem dX7_size_47 : decode cX7_size 47 = .ok (.iload_n 2, 1) := by decide +kernel
theorem dX7_size_48 : decode cX7_size 48 = .ok (.iastore, 1) := by decide +kernel
theorem dX7_size_49 : decode cX7_size 49 = .ok (.aload_n 0, 1) := by decide +kernel
theorem dX7_size_50 : decode cX7_size 50 = .ok (.getfield 10, 3) := by decide +kernel
theorem dX7_size_53 : decode cX7_size 53 = .ok (.getfield 113, 3) := by decide +kernel
theorem dX7_size_56 : decode cX7_size 56 = .ok (.iload_n 1, 1) := by decide +kernel
theorem dX7_size_57 : decode cX7_size 57 = .ok (.iload_n 3, 1) := by decide +kernel
theorem dX7_size_58 : decode cX7_size 58 = .ok (.iastore, 1) := by decide +kernel
theorem dX7_size_59 : decode cX7_size 59 = .ok (.iconst 0, 1) := by decide +kernel
theorem dX7_size_60 : decode cX7_size 60 = .ok (.ireturn, 1) := by decide +kernel
theorem dX7_about_0 : decode cX7_about 0 = .ok (.aload_n 0, 1) := by decide +kernel
theorem dX7_about_1 : decode cX7_about 1 = .ok (.getfield 10, 3) := by decide +kernel
theorem dX7_about_4 : decode cX7_about 4 = .ok (.iload_n 1, 1) := by decide +kernel
theorem dX7_about_5 : decode cX7_about 5 = .ok (.invokevirtual 94, 3) := by decide +kernel
theorem dX7_about_8 : decode cX7_about 8 = .ok (.ifCond .ne 6, 3) := by decide +kernel
theorem dX7_about_11 : decode cX7_about 11 = .ok (.bipush (-3), 2) := by decide +kernel
theorem dX7_about_13 : decode cX7_about 13 = .ok (.ireturn, 1) := by decide +kernel
theorem dX7_about_14 : decode cX7_about 14 = .ok (.iload_n 2, 1) := by decide +kernel
theorem dX7_about_15 : decode cX7_about 15 = .ok (.tableswitch 138 0 8 #[49, 59, 69, 79, 89, 99, 109, 118, 124], 49) := by decide +kernel
theorem dX7_about_64 : decode cX7_about 64 = .ok (.aload_n 0, 1) := by decide +kernel
theorem dX7_about_65 : decode cX7_about 65 = .ok (.getfield 10, 3) := by decide +kernel
theorem dX7_about_68 : decode cX7_about 68 = .ok (.getfield 116, 3) := by decide +kernel
theorem dX7_about_71 : decode cX7_about 71 = .ok (.iload_n 1, 1) := by decide +kernel
theorem dX7_about_72 : decode cX7_about 72 = .ok (.iaload, 1) := by decide +kernel
theorem dX7_about_73 : decode cX7_about 73 = .ok (.ireturn, 1) := by decide +kernel
theorem dX7_about_74 : decode cX7_about 74 = .ok (.aload_n 0, 1) := by decide +kernel
theorem dX7_about_75 : decode cX7_about 75 = .ok (.getfield 10, 3) := by decide +kernel
theorem dX7_about_78 : decode cX7_about 78 = .ok (.getfield 97, 3) := by decide +kernel
theorem dX7_about_81 : decode cX7_about 81 = .ok (.iload_n 1, 1) := by decide +kernel
theorem dX7_about_82 : decode cX7_about 82 = .ok (.iaload, 1) := by decide +kernel
theorem dX7_about_83 : decode cX7_about 83 = .ok (.ireturn, 1) := by decide +kernel
theorem dX7_about_84 : decode cX7_about 84 = .ok (.aload_n 0, 1) := by decide +kernel
theorem dX7_about_85 : decode cX7_about 85 = .ok (.getfield 10, 3) := by decide +kernel
theorem dX7_about_88 : decode cX7_about 88 = .ok (.getfield 100, 3) := by decide +kernel
theorem dX7_about_91 : decode cX7_about 91 = .ok (.iload_n 1, 1) := by decide +kernel
theorem dX7_about_92 : decode cX7_about 92 = .ok (.iaload, 1) := by decide +kernel
theorem dX7_about_93 : decode cX7_about 93 = .ok (.ireturn, 1) := by decide +kernel
theorem dX7_about_94 : decode cX7_about 94 = .ok (.aload_n 0, 1) := by decide +kernel
theorem dX7_about_95 : decode cX7_about 95 = .ok (.getfield 10, 3) := by decide +kernel
theorem dX7_about_98 : decode cX7_about 98 = .ok (.getfield 110, 3) := by decide +kernel
theorem dX7_about_101 : decode cX7_about 101 = .ok (.iload_n 1, 1) := by decide +kernel
theorem dX7_about_102 : decode cX7_about 102 = .ok (.iaload, 1) := by decide +kernel
theorem dX7_about_103 : decode cX7_about 103 = .ok (.ireturn, 1) := by decide +kernel
theorem dX7_about_104 : decode cX7_about 104 = .ok (.aload_n 0, 1) := by decide +kernel
theorem dX7_about_105 : decode cX7_about 105 = .ok (.getfield 10, 3) := by decide +kernel
theorem dX7_about_108 : decode cX7_about 108 = .ok (.getfield 113, 3) := by decide +kernel
theorem dX7_about_111 : decode cX7_about 111 = .ok (.iload_n 1, 1) := by decide +kernel
theorem dX7_about_112 : decode cX7_about 112 = .ok (.iaload, 1) := by decide +kernel
theorem dX7_about_113 : decode cX7_about 113 = .ok (.ireturn, 1) := by decide +kernel
theorem dX7_about_114 : decode cX7_about 114 = .ok (.aload_n 0, 1) := by decide +kernel
theorem dX7_about_115 : decode cX7_about 115 = .ok (.getfield 10, 3) := by decide +kernel
theorem dX7_about_118 : decode cX7_about 118 = .ok (.getfield 107, 3) := by decide +kernel
theorem dX7_about_121 : decode cX7_about 121 = .ok (.iload_n 1, 1) := by decide +kernel
theorem dX7_about_122 : decode cX7_about 122 = .ok (.iaload, 1) := by decide +kernel
theorem dX7_about_123 : decode cX7_about 123 = .ok (.ireturn, 1) := by decide +kernel
theorem dX7_about_124 : decode cX7_about 124 = .ok (.aload_n 0, 1) := by decide +kernel
theorem dX7_about_125 : decode cX7_about 125 = .ok (.getfield 10, 3) := by decide +kernel
theorem dX7_about_128 : decode cX7_about 128 = .ok (.iload_n 1, 1) := by decide +kernel
theorem dX7_about_129 : decode cX7_about 129 = .ok (.invokevirtual 119, 3) := by decide +kernel
theorem dX7_about_132 : decode cX7_about 132 = .ok (.ireturn, 1) := by decide +kernel
theorem dX7_about_133 : decode cX7_about 133 = .ok (.aload_n 0, 1) := by decide +kernel
theorem dX7_about_134 : decode cX7_about 134 = .ok (.iload_n 1, 1) := by decide +kernel
theorem dX7_about_135 : decode cX7_about 135 = .ok (.invokevirtual 123, 3) := by decide +kernel
theorem dX7_about_138 : decode cX7_about 138 = .ok (.ireturn, 1) := by decide +kernel
theorem dX7_about_139 : decode cX7_about 139 = .ok (.aload_n 0, 1) := by decide +kernel
theorem dX7_about_140 : decode cX7_about 140 = .ok (.invokevirtual 126, 3) := by decide +kernel
theorem dX7_about_143 : decode cX7_about 143 = .ok (.aload_n 0, 1) := by decide +kernel
theorem dX7_about_144 : decode cX7_about 144 = .ok (.getfield 33, 3) := by decide +kernel
theorem dX7_about_147 : decode cX7_about 147 = .ok (.getfield 129, 3) := by decide +kernel
theorem dX7_about_150 : decode cX7_about 150 = .ok (.iload_n 1, 1) := by decide +kernel
theorem dX7_about_151 : decode cX7_about 151 = .ok (.iaload, 1) := by decide +kernel
theorem dX7_about_152 : decode cX7_about 152 = .ok (.ireturn, 1) := by decide +kernel
theorem dX7_about_153 : decode cX7_about 153 = .ok (.bipush (-3), 2) := by decide +kernel
theorem dX7_about_155 : decode cX7_about 155 = .ok (.ireturn, 1) := by decide +kernel
theorem dX7_isOf_0 : decode cX7_isOf 0 = .ok (.aload_n 0, 1) := by decide +kernel
theorem dX7_isOf_1 : decode cX7_isOf 1 = .ok (.getfield 10, 3) := by decide +kernel
theorem dX7_isOf_4 : decode cX7_isOf 4 = .ok (.iload_n 1, 1) := by decide +kernel
theorem dX7_isOf_5 : decode cX7_isOf 5 = .ok (.invokevirtual 94, 3) := by decide +kernel
theorem dX7_isOf_8 : decode cX7_isOf 8 = .ok (.ifCond .eq 25, 3) := by decide +kernel
theorem dX7_isOf_11 : decode cX7_isOf 11 = .ok (.iload_n 2, 1) := by decide +kernel
theorem dX7_isOf_12 : decode cX7_isOf 12 = .ok (.invokestatic 68, 3) := by decide +kernel
theorem dX7_isOf_15 : decode cX7_isOf 15 = .ok (.ifCond .eq 18, 3) := by decide +kernel
theorem dX7_isOf_18 : decode cX7_isOf 18 = .ok (.aload_n 0, 1) := by decide +kernel
theorem dX7_isOf_19 : decode cX7_isOf 19 = .ok (.getfield 10, 3) := by decide +kernel
theorem dX7_isOf_22 : decode cX7_isOf 22 = .ok (.iload_n 1, 1) := by decide +kernel
theorem dX7_isOf_23 : decode cX7_isOf 23 = .ok (.iload_n 2, 1) := by decide +kernel
theorem dX7_isOf_24 : decode cX7_isOf 24 = .ok (.invokevirtual 132, 3) := by decide +kernel
theorem dX7_isOf_27 : decode cX7_isOf 27 = .ok (.invokestatic 135, 3) := by decide +kernel
theorem dX7_isOf_30 : decode cX7_isOf 30 = .ok (.goto 5, 3) := by decide +kernel
theorem dX7_isOf_33 : decode cX7_isOf 33 = .ok (.bipush (-3), 2) := by decide +kernel
theorem dX7_isOf_35 : decode cX7_isOf 35 = .ok (.ireturn, 1) := by decide +kernel
theorem dX7_way_0 : decode cX7_way 0 = .ok (.aload_n 0, 1) := by decide +kernel
theorem dX7_way_1 : decode cX7_way 1 = .ok (.getfield 10, 3) := by decide +kernel
theorem dX7_way_4 : decode cX7_way 4 = .ok (.iload_n 1, 1) := by decide +kernel
theorem dX7_way_5 : decode cX7_way 5 = .ok (.iload_n 2, 1) := by decide +kernel
theorem dX7_way_6 : decode cX7_way 6 = .ok (.invokevirtual 139, 3) := by decide +kernel
theorem dX7_way_9 : decode cX7_way 9 = .ok (.ifCond .eq 10, 3) := by decide +kernel
theorem dX7_way_12 : decode cX7_way 12 = .ok (.iload_n 3, 1) := by decide +kernel
theorem dX7_way_13 : decode cX7_way 13 = .ok (.invokestatic 142, 3) := by decide +kernel
theorem dX7_way_16 : decode cX7_way 16 = .ok (.ifCond .ne 6, 3) := by decide +kernel
theorem dX7_way_19 : decode cX7_way 19 = .ok (.bipush (-3), 2) := by decide +kernel
theorem dX7_way_21 : decode cX7_way 21 = .ok (.ireturn, 1) := by decide +kernel
theorem dX7_way_22 : decode cX7_way 22 = .ok (.aload_n 0, 1) := by decide +kernel
theorem dX7_way_23 : decode cX7_way 23 = .ok (.getfield 54, 3) := by decide +kernel
theorem dX7_way_26 : decode cX7_way 26 = .ok (.aload_n 0, 1) := by decide +kernel
theorem dX7_way_27 : decode cX7_way 27 = .ok (.getfield 10, 3) := by decide +kernel
theorem dX7_way_30 : decode cX7_way 30 = .ok (.iload_n 1, 1) := by decide +kernel
theorem dX7_way_31 : decode cX7_way 31 = .ok (.iload_n 2, 1) := by decide +kernel
theorem dX7_way_32 : decode cX7_way 32 = .ok (.iload_n 3, 1) := by decide +kernel
theorem dX7_way_33 : decode cX7_way 33 = .ok (.invokevirtual 145, 3) := by decide +kernel
theorem dX7_way_36 : decode cX7_way 36 = .ok (.iload 4, 2) := by decide +kernel
theorem dX7_way_38 : decode cX7_way 38 = .ok (.tableswitch 112 0 5 #[38, 46, 54, 70, 86, 96], 38) := by decide +kernel
theorem dX7_way_76 : decode cX7_way 76 = .ok (.aload_n 0, 1) := by decide +kernel
theorem dX7_way_77 : decode cX7_way 77 = .ok (.getfield 54, 3) := by decide +kernel
theorem dX7_way_80 : decode cX7_way 80 = .ok (.getfield 149, 3) := by decide +kernel
theorem dX7_way_83 : decode cX7_way 83 = .ok (.ireturn, 1) := by decide +kernel
theorem dX7_way_84 : decode cX7_way 84 = .ok (.aload_n 0, 1) := by decide +kernel
theorem dX7_way_85 : decode cX7_way 85 = .ok (.getfield 54, 3) := by decide +kernel
theorem dX7_way_88 : decode cX7_way 88 = .ok (.getfield 152, 3) := by decide +kernel
theorem dX7_way_91 : decode cX7_way 91 = .ok (.ireturn, 1) := by decide +kernel
theorem dX7_way_92 : decode cX7_way 92 = .ok (.aload_n 0, 1) := by decide +kernel
theorem dX7_way_93 : decode cX7_way 93 = .ok (.getfield 54, 3) := by decide +kernel
theorem dX7_way_96 : decode cX7_way 96 = .ok (.getfield 155, 3) := by decide +kernel
theorem dX7_way_99 : decode cX7_way 99 = .ok (.aload_n 0, 1) := by decide +kernel
theorem dX7_way_100 : decode cX7_way 100 = .ok (.getfield 54, 3) := by decide +kernel
theorem dX7_way_103 : decode cX7_way 103 = .ok (.getfield 149, 3) := by decide +kernel
theorem dX7_way_106 : decode cX7_way 106 = .ok (.isub, 1) := by decide +kernel
theorem dX7_way_107 : decode cX7_way 107 = .ok (.ireturn, 1) := by decide +kernel
theorem dX7_way_108 : decode cX7_way 108 = .ok (.aload_n 0, 1) := by decide +kernel
theorem dX7_way_109 : decode cX7_way 109 = .ok (.getfield 54, 3) := by decide +kernel
theorem dX7_way_112 : decode cX7_way 112 = .ok (.getfield 158, 3) := by decide +kernel
theorem dX7_way_115 : decode cX7_way 115 = .ok (.aload_n 0, 1) := by decide +kernel
theorem dX7_way_116 : decode cX7_way 116 = .ok (.getfield 54, 3) := by decide +kernel
theorem dX7_way_119 : decode cX7_way 119 = .ok (.getfield 152, 3) := by decide +kernel
theorem dX7_way_122 : decode cX7_way 122 = .ok (.isub, 1) := by decide +kernel
theorem dX7_way_123 : decode cX7_way 123 = .ok (.ireturn, 1) := by decide +kernel
theorem dX7_way_124 : decode cX7_way 124 = .ok (.aload_n 0, 1) := by decide +kernel
theorem dX7_way_125 : decode cX7_way 125 = .ok (.getfield 10, 3) := by decide +kernel
theorem dX7_way_128 : decode cX7_way 128 = .ok (.iload_n 1, 1) := by decide +kernel
theorem dX7_way_129 : decode cX7_way 129 = .ok (.iload_n 2, 1) := by decide +kernel
theorem dX7_way_130 : decode cX7_way 130 = .ok (.invokevirtual 161, 3) := by decide +kernel
theorem dX7_way_133 : decode cX7_way 133 = .ok (.ireturn, 1) := by decide +kernel
theorem dX7_way_134 : decode cX7_way 134 = .ok (.aload_n 0, 1) := by decide +kernel
theorem dX7_way_135 : decode cX7_way 135 = .ok (.getfield 54, 3) := by decide +kernel
theorem dX7_way_138 : decode cX7_way 138 = .ok (.aload_n 0, 1) := by decide +kernel
theorem dX7_way_139 : decode cX7_way 139 = .ok (.getfield 10, 3) := by decide +kernel
theorem dX7_way_142 : decode cX7_way 142 = .ok (.iload_n 3, 1) := by decide +kernel
theorem dX7_way_143 : decode cX7_way 143 = .ok (.invokevirtual 164, 3) := by decide +kernel
theorem dX7_way_146 : decode cX7_way 146 = .ok (.invokestatic 135, 3) := by decide +kernel
theorem dX7_way_149 : decode cX7_way 149 = .ok (.ireturn, 1) := by decide +kernel
theorem dX7_way_150 : decode cX7_way 150 = .ok (.bipush (-3), 2) := by decide +kernel
theorem dX7_way_152 : decode cX7_way 152 = .ok (.ireturn, 1) := by decide +kernel
theorem dX7_clash_0 : decode cX7_clash 0 = .ok (.aload_n 0, 1) := by decide +kernel
theorem dX7_clash_1 : decode cX7_clash 1 = .ok (.getfield 10, 3) := by decide +kernel
theorem dX7_clash_4 : decode cX7_clash 4 = .ok (.iload_n 1, 1) := by decide +kernel
theorem dX7_clash_5 : decode cX7_clash 5 = .ok (.iload_n 2, 1) := by decide +kernel
theorem dX7_clash_6 : decode cX7_clash 6 = .ok (.invokevirtual 139, 3) := by decide +kernel
theorem dX7_clash_9 : decode cX7_clash 9 = .ok (.ifCond .eq 29, 3) := by decide +kernel
theorem dX7_clash_12 : decode cX7_clash 12 = .ok (.aload_n 0, 1) := by decide +kernel
theorem dX7_clash_13 : decode cX7_clash 13 = .ok (.getfield 10, 3) := by decide +kernel
theorem dX7_clash_16 : decode cX7_clash 16 = .ok (.iload_n 3, 1) := by decide +kernel
theorem dX7_clash_17 : decode cX7_clash 17 = .ok (.iload 4, 2) := by decide +kernel
theorem dX7_clash_19 : decode cX7_clash 19 = .ok (.invokevirtual 139, 3) := by decide +kernel
theorem dX7_clash_22 : decode cX7_clash 22 = .ok (.ifCond .eq 16, 3) := by decide +kernel
theorem dX7_clash_25 : decode cX7_clash 25 = .ok (.iload_n 1, 1) := by decide +kernel
theorem dX7_clash_26 : decode cX7_clash 26 = .ok (.iload_n 3, 1) := by decide +kernel
theorem dX7_clash_27 : decode cX7_clash 27 = .ok (.if_icmp .eq 11, 3) := by decide +kernel
theorem dX7_clash_30 : decode cX7_clash 30 = .ok (.iload 5, 2) := by decide +kernel
theorem dX7_clash_32 : decode cX7_clash 32 = .ok (.invokestatic 142, 3) := by decide +kernel
theorem dX7_clash_35 : decode cX7_clash 35 = .ok (.ifCond .ne 6, 3) := by decide +kernel
theorem dX7_clash_38 : decode cX7_clash 38 = .ok (.bipush (-3), 2) := by decide +kernel
theorem dX7_clash_40 : decode cX7_clash 40 = .ok (.ireturn, 1) := by decide +kernel
theorem dX7_clash_41 : decode cX7_clash 41 = .ok (.aload_n 0, 1) := by decide +kernel
theorem dX7_clash_42 : decode cX7_clash 42 = .ok (.getfield 54, 3) := by decide +kernel
theorem dX7_clash_45 : decode cX7_clash 45 = .ok (.aload_n 0, 1) := by decide +kernel
theorem dX7_clash_46 : decode cX7_clash 46 = .ok (.getfield 10, 3) := by decide +kernel
theorem dX7_clash_49 : decode cX7_clash 49 = .ok (.iload_n 1, 1) := by decide +kernel
theorem dX7_clash_50 : decode cX7_clash 50 = .ok (.iload_n 2, 1) := by decide +kernel
theorem dX7_clash_51 : decode cX7_clash 51 = .ok (.iload 5, 2) := by decide +kernel
theorem dX7_clash_53 : decode cX7_clash 53 = .ok (.invokevirtual 145, 3) := by decide +kernel
theorem dX7_clash_56 : decode cX7_clash 56 = .ok (.aload_n 0, 1) := by decide +kernel
theorem dX7_clash_57 : decode cX7_clash 57 = .ok (.getfield 58, 3) := by decide +kernel
theorem dX7_clash_60 : decode cX7_clash 60 = .ok (.aload_n 0, 1) := by decide +kernel
theorem dX7_clash_61 : decode cX7_clash 61 = .ok (.getfield 10, 3) := by decide +kernel
theorem dX7_clash_64 : decode cX7_clash 64 = .ok (.iload_n 3, 1) := by decide +kernel
theorem dX7_clash_65 : decode cX7_clash 65 = .ok (.iload 4, 2) := by decide +kernel
theorem dX7_clash_67 : decode cX7_clash 67 = .ok (.iload 5, 2) := by decide +kernel
theorem dX7_clash_69 : decode cX7_clash 69 = .ok (.invokevirtual 145, 3) := by decide +kernel
theorem dX7_clash_72 : decode cX7_clash 72 = .ok (.aload_n 0, 1) := by decide +kernel
theorem dX7_clash_73 : decode cX7_clash 73 = .ok (.getfield 54, 3) := by decide +kernel
theorem dX7_clash_76 : decode cX7_clash 76 = .ok (.aload_n 0, 1) := by decide +kernel
theorem dX7_clash_77 : decode cX7_clash 77 = .ok (.getfield 58, 3) := by decide +kernel
theorem dX7_clash_80 : decode cX7_clash 80 = .ok (.invokevirtual 168, 3) := by decide +kernel
theorem dX7_clash_83 : decode cX7_clash 83 = .ok (.invokestatic 135, 3) := by decide +kernel
theorem dX7_clash_86 : decode cX7_clash 86 = .ok (.ireturn, 1) := by decide +kernel
theorem dX7_clashes_0 : decode cX7_clashes 0 = .ok (.aload_n 0, 1) := by decide +kernel
theorem dX7_clashes_1 : decode cX7_clashes 1 = .ok (.getfield 10, 3) := by decide +kernel
theorem dX7_clashes_4 : decode cX7_clashes 4 = .ok (.iload_n 1, 1) := by decide +kernel
theorem dX7_clashes_5 : decode cX7_clashes 5 = .ok (.iload_n 2, 1) := by decide +kernel
theorem dX7_clashes_6 : decode cX7_clashes 6 = .ok (.invokevirtual 139, 3) := by decide +kernel
theorem dX7_clashes_9 : decode cX7_clashes 9 = .ok (.ifCond .ne 6, 3) := by decide +kernel
theorem dX7_clashes_12 : decode cX7_clashes 12 = .ok (.bipush (-3), 2) := by decide +kernel
theorem dX7_clashes_14 : decode cX7_clashes 14 = .ok (.ireturn, 1) := by decide +kernel
theorem dX7_clashes_15 : decode cX7_clashes 15 = .ok (.aload_n 0, 1) := by decide +kernel
theorem dX7_clashes_16 : decode cX7_clashes 16 = .ok (.invokevirtual 172, 3) := by decide +kernel
theorem dX7_clashes_19 : decode cX7_clashes 19 = .ok (.iconst 0, 1) := by decide +kernel
theorem dX7_clashes_20 : decode cX7_clashes 20 = .ok (.istore_n 3, 1) := by decide +kernel
theorem dX7_clashes_21 : decode cX7_clashes 21 = .ok (.iconst 0, 1) := by decide +kernel
theorem dX7_clashes_22 : decode cX7_clashes 22 = .ok (.istore 4, 2) := by decide +kernel
theorem dX7_clashes_24 : decode cX7_clashes 24 = .ok (.iload 4, 2) := by decide +kernel
theorem dX7_clashes_26 : decode cX7_clashes 26 = .ok (.aload_n 0, 1) := by decide +kernel
theorem dX7_clashes_27 : decode cX7_clashes 27 = .ok (.getfield 10, 3) := by decide +kernel
theorem dX7_clashes_30 : decode cX7_clashes 30 = .ok (.getfield 76, 3) := by decide +kernel
theorem dX7_clashes_33 : decode cX7_clashes 33 = .ok (.if_icmp .ge 32, 3) := by decide +kernel
theorem dX7_clashes_36 : decode cX7_clashes 36 = .ok (.iload 4, 2) := by decide +kernel
theorem dX7_clashes_38 : decode cX7_clashes 38 = .ok (.iload_n 1, 1) := by decide +kernel
theorem dX7_clashes_39 : decode cX7_clashes 39 = .ok (.if_icmp .eq 20, 3) := by decide +kernel
theorem dX7_clashes_42 : decode cX7_clashes 42 = .ok (.iload_n 3, 1) := by decide +kernel
theorem dX7_clashes_43 : decode cX7_clashes 43 = .ok (.aload_n 0, 1) := by decide +kernel
theorem dX7_clashes_44 : decode cX7_clashes 44 = .ok (.getfield 26, 3) := by decide +kernel
theorem dX7_clashes_47 : decode cX7_clashes 47 = .ok (.iload_n 1, 1) := by decide +kernel
theorem dX7_clashes_48 : decode cX7_clashes 48 = .ok (.iload_n 2, 1) := by decide +kernel
theorem dX7_clashes_49 : decode cX7_clashes 49 = .ok (.iload 4, 2) := by decide +kernel
theorem dX7_clashes_51 : decode cX7_clashes 51 = .ok (.invokevirtual 175, 3) := by decide +kernel
theorem dX7_clashes_54 : decode cX7_clashes 54 = .ok (.invokestatic 178, 3) := by decide +kernel
theorem dX7_clashes_57 : decode cX7_clashes 57 = .ok (.iadd, 1) := by decide +kernel
theorem dX7_clashes_58 : decode cX7_clashes 58 = .ok (.istore_n 3, 1) := by decide +kernel
theorem dX7_clashes_59 : decode cX7_clashes 59 = .ok (.iinc 4 1, 3) := by decide +kernel
theorem dX7_clashes_62 : decode cX7_clashes 62 = .ok (.goto (-38), 3) := by decide +kernel
theorem dX7_clashes_65 : decode cX7_clashes 65 = .ok (.iload_n 3, 1) := by decide +kernel
theorem dX7_clashes_66 : decode cX7_clashes 66 = .ok (.ireturn, 1) := by decide +kernel
theorem dX7_parts_0 : decode cX7_parts 0 = .ok (.aload_n 0, 1) := by decide +kernel
theorem dX7_parts_1 : decode cX7_parts 1 = .ok (.invokevirtual 126, 3) := by decide +kernel
theorem dX7_parts_4 : decode cX7_parts 4 = .ok (.aload_n 0, 1) := by decide +kernel
theorem dX7_parts_5 : decode cX7_parts 5 = .ok (.getfield 33, 3) := by decide +kernel
theorem dX7_parts_8 : decode cX7_parts 8 = .ok (.getfield 183, 3) := by decide +kernel
theorem dX7_parts_11 : decode cX7_parts 11 = .ok (.ireturn, 1) := by decide +kernel
theorem dX7_set_0 : decode cX7_set 0 = .ok (.aload_n 0, 1) := by decide +kernel
theorem dX7_set_1 : decode cX7_set 1 = .ok (.getfield 10, 3) := by decide +kernel
theorem dX7_set_4 : decode cX7_set 4 = .ok (.iload_n 1, 1) := by decide +kernel
theorem dX7_set_5 : decode cX7_set 5 = .ok (.iload_n 2, 1) := by decide +kernel
theorem dX7_set_6 : decode cX7_set 6 = .ok (.invokevirtual 139, 3) := by decide +kernel
theorem dX7_set_9 : decode cX7_set 9 = .ok (.ifCond .ne 6, 3) := by decide +kernel
theorem dX7_set_12 : decode cX7_set 12 = .ok (.bipush (-3), 2) := by decide +kernel
theorem dX7_set_14 : decode cX7_set 14 = .ok (.ireturn, 1) := by decide +kernel
theorem dX7_set_15 : decode cX7_set 15 = .ok (.aload_n 0, 1) := by decide +kernel
theorem dX7_set_16 : decode cX7_set 16 = .ok (.getfield 19, 3) := by decide +kernel
theorem dX7_set_19 : decode cX7_set 19 = .ok (.aload_n 0, 1) := by decide +kernel
theorem dX7_set_20 : decode cX7_set 20 = .ok (.getfield 10, 3) := by decide +kernel
theorem dX7_set_23 : decode cX7_set 23 = .ok (.invokevirtual 186, 3) := by decide +kernel
theorem dX7_set_26 : decode cX7_set 26 = .ok (.aload_n 0, 1) := by decide +kernel
theorem dX7_set_27 : decode cX7_set 27 = .ok (.getfield 10, 3) := by decide +kernel
theorem dX7_set_30 : decode cX7_set 30 = .ok (.getfield 190, 3) := by decide +kernel
theorem dX7_set_33 : decode cX7_set 33 = .ok (.iload_n 1, 1) := by decide +kernel
theorem dX7_set_34 : decode cX7_set 34 = .ok (.iaload, 1) := by decide +kernel
theorem dX7_set_35 : decode cX7_set 35 = .ok (.istore_n 3, 1) := by decide +kernel
theorem dX7_set_36 : decode cX7_set 36 = .ok (.aload_n 0, 1) := by decide +kernel
theorem dX7_set_37 : decode cX7_set 37 = .ok (.getfield 10, 3) := by decide +kernel
theorem dX7_set_40 : decode cX7_set 40 = .ok (.getfield 190, 3) := by decide +kernel
theorem dX7_set_43 : decode cX7_set 43 = .ok (.iload_n 1, 1) := by decide +kernel
theorem dX7_set_44 : decode cX7_set 44 = .ok (.iload_n 2, 1) := by decide +kernel
theorem dX7_set_45 : decode cX7_set 45 = .ok (.iastore, 1) := by decide +kernel
theorem dX7_set_46 : decode cX7_set 46 = .ok (.iload_n 3, 1) := by decide +kernel
theorem dX7_set_47 : decode cX7_set 47 = .ok (.ireturn, 1) := by decide +kernel
theorem dX7_free_0 : decode cX7_free 0 = .ok (.aload_n 0, 1) := by decide +kernel
theorem dX7_free_1 : decode cX7_free 1 = .ok (.getfield 10, 3) := by decide +kernel
theorem dX7_free_4 : decode cX7_free 4 = .ok (.iload_n 1, 1) := by decide +kernel
theorem dX7_free_5 : decode cX7_free 5 = .ok (.invokevirtual 94, 3) := by decide +kernel
theorem dX7_free_8 : decode cX7_free 8 = .ok (.ifCond .ne 6, 3) := by decide +kernel
theorem dX7_free_11 : decode cX7_free 11 = .ok (.bipush (-3), 2) := by decide +kernel
theorem dX7_free_13 : decode cX7_free 13 = .ok (.ireturn, 1) := by decide +kernel
theorem dX7_free_14 : decode cX7_free 14 = .ok (.aload_n 0, 1) := by decide +kernel
theorem dX7_free_15 : decode cX7_free 15 = .ok (.getfield 10, 3) := by decide +kernel
theorem dX7_free_18 : decode cX7_free 18 = .ok (.getfield 190, 3) := by decide +kernel
theorem dX7_free_21 : decode cX7_free 21 = .ok (.iload_n 1, 1) := by decide +kernel
theorem dX7_free_22 : decode cX7_free 22 = .ok (.iaload, 1) := by decide +kernel
theorem dX7_free_23 : decode cX7_free 23 = .ok (.istore_n 2, 1) := by decide +kernel
theorem dX7_free_24 : decode cX7_free 24 = .ok (.iload_n 2, 1) := by decide +kernel
theorem dX7_free_25 : decode cX7_free 25 = .ok (.iconst (-1), 1) := by decide +kernel
theorem dX7_free_26 : decode cX7_free 26 = .ok (.if_icmp .ne 6, 3) := by decide +kernel
theorem dX7_free_29 : decode cX7_free 29 = .ok (.bipush (-4), 2) := by decide +kernel
theorem dX7_free_31 : decode cX7_free 31 = .ok (.ireturn, 1) := by decide +kernel
theorem dX7_free_32 : decode cX7_free 32 = .ok (.aload_n 0, 1) := by decide +kernel
theorem dX7_free_33 : decode cX7_free 33 = .ok (.getfield 19, 3) := by decide +kernel
theorem dX7_free_36 : decode cX7_free 36 = .ok (.aload_n 0, 1) := by decide +kernel
theorem dX7_free_37 : decode cX7_free 37 = .ok (.getfield 10, 3) := by decide +kernel
theorem dX7_free_40 : decode cX7_free 40 = .ok (.invokevirtual 186, 3) := by decide +kernel
theorem dX7_free_43 : decode cX7_free 43 = .ok (.aload_n 0, 1) := by decide +kernel
theorem dX7_free_44 : decode cX7_free 44 = .ok (.getfield 10, 3) := by decide +kernel
theorem dX7_free_47 : decode cX7_free 47 = .ok (.getfield 190, 3) := by decide +kernel
theorem dX7_free_50 : decode cX7_free 50 = .ok (.iload_n 1, 1) := by decide +kernel
theorem dX7_free_51 : decode cX7_free 51 = .ok (.iconst (-1), 1) := by decide +kernel
theorem dX7_free_52 : decode cX7_free 52 = .ok (.iastore, 1) := by decide +kernel
theorem dX7_free_53 : decode cX7_free 53 = .ok (.iload_n 2, 1) := by decide +kernel
theorem dX7_free_54 : decode cX7_free 54 = .ok (.ireturn, 1) := by decide +kernel
theorem dX7_chosen_0 : decode cX7_chosen 0 = .ok (.aload_n 0, 1) := by decide +kernel
theorem dX7_chosen_1 : decode cX7_chosen 1 = .ok (.getfield 10, 3) := by decide +kernel
theorem dX7_chosen_4 : decode cX7_chosen 4 = .ok (.iload_n 1, 1) := by decide +kernel
theorem dX7_chosen_5 : decode cX7_chosen 5 = .ok (.invokevirtual 94, 3) := by decide +kernel
theorem dX7_chosen_8 : decode cX7_chosen 8 = .ok (.ifCond .eq 15, 3) := by decide +kernel
theorem dX7_chosen_11 : decode cX7_chosen 11 = .ok (.aload_n 0, 1) := by decide +kernel
theorem dX7_chosen_12 : decode cX7_chosen 12 = .ok (.getfield 10, 3) := by decide +kernel
theorem dX7_chosen_15 : decode cX7_chosen 15 = .ok (.getfield 190, 3) := by decide +kernel
theorem dX7_chosen_18 : decode cX7_chosen 18 = .ok (.iload_n 1, 1) := by decide +kernel
theorem dX7_chosen_19 : decode cX7_chosen 19 = .ok (.iaload, 1) := by decide +kernel
theorem dX7_chosen_20 : decode cX7_chosen 20 = .ok (.goto 5, 3) := by decide +kernel
theorem dX7_chosen_23 : decode cX7_chosen 23 = .ok (.bipush (-3), 2) := by decide +kernel
theorem dX7_chosen_25 : decode cX7_chosen 25 = .ok (.ireturn, 1) := by decide +kernel
theorem dX7_check_0 : decode cX7_check 0 = .ok (.aload_n 0, 1) := by decide +kernel
theorem dX7_check_1 : decode cX7_check 1 = .ok (.invokevirtual 172, 3) := by decide +kernel
theorem dX7_check_4 : decode cX7_check 4 = .ok (.aload_n 0, 1) := by decide +kernel
theorem dX7_check_5 : decode cX7_check 5 = .ok (.invokevirtual 193, 3) := by decide +kernel
theorem dX7_check_8 : decode cX7_check 8 = .ok (.istore_n 1, 1) := by decide +kernel
theorem dX7_check_9 : decode cX7_check 9 = .ok (.iload_n 1, 1) := by decide +kernel
theorem dX7_check_10 : decode cX7_check 10 = .ok (.iconst (-1), 1) := by decide +kernel
theorem dX7_check_11 : decode cX7_check 11 = .ok (.if_icmp .eq 8, 3) := by decide +kernel
theorem dX7_check_14 : decode cX7_check 14 = .ok (.bipush 100, 2) := by decide +kernel
theorem dX7_check_16 : decode cX7_check 16 = .ok (.iload_n 1, 1) := by decide +kernel
theorem dX7_check_17 : decode cX7_check 17 = .ok (.iadd, 1) := by decide +kernel
theorem dX7_check_18 : decode cX7_check 18 = .ok (.ireturn, 1) := by decide +kernel
theorem dX7_check_19 : decode cX7_check 19 = .ok (.aload_n 0, 1) := by decide +kernel
theorem dX7_check_20 : decode cX7_check 20 = .ok (.invokevirtual 197, 3) := by decide +kernel
theorem dX7_check_23 : decode cX7_check 23 = .ok (.istore_n 2, 1) := by decide +kernel
theorem dX7_check_24 : decode cX7_check 24 = .ok (.iload_n 2, 1) := by decide +kernel
theorem dX7_check_25 : decode cX7_check 25 = .ok (.iconst (-1), 1) := by decide +kernel
theorem dX7_check_26 : decode cX7_check 26 = .ok (.if_icmp .eq 9, 3) := by decide +kernel
theorem dX7_check_29 : decode cX7_check 29 = .ok (.sipush 200, 3) := by decide +kernel
theorem dX7_check_32 : decode cX7_check 32 = .ok (.iload_n 2, 1) := by decide +kernel
theorem dX7_check_33 : decode cX7_check 33 = .ok (.iadd, 1) := by decide +kernel
theorem dX7_check_34 : decode cX7_check 34 = .ok (.ireturn, 1) := by decide +kernel
theorem dX7_check_35 : decode cX7_check 35 = .ok (.aload_n 0, 1) := by decide +kernel
theorem dX7_check_36 : decode cX7_check 36 = .ok (.invokevirtual 200, 3) := by decide +kernel
theorem dX7_check_39 : decode cX7_check 39 = .ok (.istore_n 3, 1) := by decide +kernel
theorem dX7_check_40 : decode cX7_check 40 = .ok (.iload_n 3, 1) := by decide +kernel
theorem dX7_check_41 : decode cX7_check 41 = .ok (.iconst (-1), 1) := by decide +kernel
theorem dX7_check_42 : decode cX7_check 42 = .ok (.if_icmp .eq 11, 3) := by decide +kernel
theorem dX7_check_45 : decode cX7_check 45 = .ok (.sipush 300, 3) := by decide +kernel
theorem dX7_check_48 : decode cX7_check 48 = .ok (.iload_n 3, 1) := by decide +kernel
theorem dX7_check_49 : decode cX7_check 49 = .ok (.iadd, 1) := by decide +kernel
theorem dX7_check_50 : decode cX7_check 50 = .ok (.goto 4, 3) := by decide +kernel
theorem dX7_check_53 : decode cX7_check 53 = .ok (.iconst 0, 1) := by decide +kernel
theorem dX7_check_54 : decode cX7_check 54 = .ok (.ireturn, 1) := by decide +kernel
theorem dX7_worth_0 : decode cX7_worth 0 = .ok (.iconst 0, 1) := by decide +kernel
theorem dX7_worth_1 : decode cX7_worth 1 = .ok (.istore_n 1, 1) := by decide +kernel
theorem dX7_worth_2 : decode cX7_worth 2 = .ok (.iconst 0, 1) := by decide +kernel
theorem dX7_worth_3 : decode cX7_worth 3 = .ok (.istore_n 2, 1) := by decide +kernel
theorem dX7_worth_4 : decode cX7_worth 4 = .ok (.iload_n 2, 1) := by decide +kernel
theorem dX7_worth_5 : decode cX7_worth 5 = .ok (.aload_n 0, 1) := by decide +kernel
theorem dX7_worth_6 : decode cX7_worth 6 = .ok (.getfield 10, 3) := by decide +kernel
theorem dX7_worth_9 : decode cX7_worth 9 = .ok (.getfield 76, 3) := by decide +kernel
theorem dX7_worth_12 : decode cX7_worth 12 = .ok (.if_icmp .ge 46, 3) := by decide +kernel
theorem dX7_worth_15 : decode cX7_worth 15 = .ok (.iload_n 1, 1) := by decide +kernel
theorem dX7_worth_16 : decode cX7_worth 16 = .ok (.aload_n 0, 1) := by decide +kernel
theorem dX7_worth_17 : decode cX7_worth 17 = .ok (.getfield 10, 3) := by decide +kernel
theorem dX7_worth_20 : decode cX7_worth 20 = .ok (.getfield 190, 3) := by decide +kernel
theorem dX7_worth_23 : decode cX7_worth 23 = .ok (.iload_n 2, 1) := by decide +kernel
theorem dX7_worth_24 : decode cX7_worth 24 = .ok (.iaload, 1) := by decide +kernel
theorem dX7_worth_25 : decode cX7_worth 25 = .ok (.iconst (-1), 1) := by decide +kernel
theorem dX7_worth_26 : decode cX7_worth 26 = .ok (.if_icmp .ne 7, 3) := by decide +kernel
theorem dX7_worth_29 : decode cX7_worth 29 = .ok (.iconst 0, 1) := by decide +kernel
theorem dX7_worth_30 : decode cX7_worth 30 = .ok (.goto 20, 3) := by decide +kernel
theorem dX7_worth_33 : decode cX7_worth 33 = .ok (.aload_n 0, 1) := by decide +kernel
theorem dX7_worth_34 : decode cX7_worth 34 = .ok (.getfield 10, 3) := by decide +kernel
theorem dX7_worth_37 : decode cX7_worth 37 = .ok (.iload_n 2, 1) := by decide +kernel
theorem dX7_worth_38 : decode cX7_worth 38 = .ok (.aload_n 0, 1) := by decide +kernel
theorem dX7_worth_39 : decode cX7_worth 39 = .ok (.getfield 10, 3) := by decide +kernel
theorem dX7_worth_42 : decode cX7_worth 42 = .ok (.getfield 190, 3) := by decide +kernel
theorem dX7_worth_45 : decode cX7_worth 45 = .ok (.iload_n 2, 1) := by decide +kernel
theorem dX7_worth_46 : decode cX7_worth 46 = .ok (.iaload, 1) := by decide +kernel
theorem dX7_worth_47 : decode cX7_worth 47 = .ok (.invokevirtual 203, 3) := by decide +kernel
theorem dX7_worth_50 : decode cX7_worth 50 = .ok (.iadd, 1) := by decide +kernel
theorem dX7_worth_51 : decode cX7_worth 51 = .ok (.istore_n 1, 1) := by decide +kernel
theorem dX7_worth_52 : decode cX7_worth 52 = .ok (.iinc 2 1, 3) := by decide +kernel
theorem dX7_worth_55 : decode cX7_worth 55 = .ok (.goto (-51), 3) := by decide +kernel
theorem dX7_worth_58 : decode cX7_worth 58 = .ok (.iload_n 1, 1) := by decide +kernel
theorem dX7_worth_59 : decode cX7_worth 59 = .ok (.ireturn, 1) := by decide +kernel
theorem dX7_best_0 : decode cX7_best 0 = .ok (.aload_n 0, 1) := by decide +kernel
theorem dX7_best_1 : decode cX7_best 1 = .ok (.invokevirtual 126, 3) := by decide +kernel
theorem dX7_best_4 : decode cX7_best 4 = .ok (.aload_n 0, 1) := by decide +kernel
theorem dX7_best_5 : decode cX7_best 5 = .ok (.getfield 33, 3) := by decide +kernel
theorem dX7_best_8 : decode cX7_best 8 = .ok (.getfield 206, 3) := by decide +kernel
theorem dX7_best_11 : decode cX7_best 11 = .ok (.bipush 7, 2) := by decide +kernel
theorem dX7_best_13 : decode cX7_best 13 = .ok (.if_icmp .le 6, 3) := by decide +kernel
theorem dX7_best_16 : decode cX7_best 16 = .ok (.bipush (-6), 2) := by decide +kernel
theorem dX7_best_18 : decode cX7_best 18 = .ok (.ireturn, 1) := by decide +kernel
theorem dX7_best_19 : decode cX7_best 19 = .ok (.aload_n 0, 1) := by decide +kernel
theorem dX7_best_20 : decode cX7_best 20 = .ok (.getfield 10, 3) := by decide +kernel
theorem dX7_best_23 : decode cX7_best 23 = .ok (.aload_n 0, 1) := by decide +kernel
theorem dX7_best_24 : decode cX7_best 24 = .ok (.getfield 65, 3) := by decide +kernel
theorem dX7_best_27 : decode cX7_best 27 = .ok (.invokevirtual 209, 3) := by decide +kernel
theorem dX7_best_30 : decode cX7_best 30 = .ok (.iconst 0, 1) := by decide +kernel
theorem dX7_best_31 : decode cX7_best 31 = .ok (.istore_n 1, 1) := by decide +kernel
theorem dX7_best_32 : decode cX7_best 32 = .ok (.iconst 0, 1) := by decide +kernel
theorem dX7_best_33 : decode cX7_best 33 = .ok (.istore_n 2, 1) := by decide +kernel
theorem dX7_best_34 : decode cX7_best 34 = .ok (.iload_n 2, 1) := by decide +kernel
theorem dX7_best_35 : decode cX7_best 35 = .ok (.aload_n 0, 1) := by decide +kernel
theorem dX7_best_36 : decode cX7_best 36 = .ok (.getfield 33, 3) := by decide +kernel
theorem dX7_best_39 : decode cX7_best 39 = .ok (.getfield 183, 3) := by decide +kernel
theorem dX7_best_42 : decode cX7_best 42 = .ok (.if_icmp .ge 69, 3) := by decide +kernel
theorem dX7_best_45 : decode cX7_best 45 = .ok (.aload_n 0, 1) := by decide +kernel
theorem dX7_best_46 : decode cX7_best 46 = .ok (.getfield 40, 3) := by decide +kernel
theorem dX7_best_49 : decode cX7_best 49 = .ok (.aload_n 0, 1) := by decide +kernel
theorem dX7_best_50 : decode cX7_best 50 = .ok (.getfield 10, 3) := by decide +kernel
theorem dX7_best_53 : decode cX7_best 53 = .ok (.aload_n 0, 1) := by decide +kernel
theorem dX7_best_54 : decode cX7_best 54 = .ok (.getfield 26, 3) := by decide +kernel
theorem dX7_best_57 : decode cX7_best 57 = .ok (.aload_n 0, 1) := by decide +kernel
theorem dX7_best_58 : decode cX7_best 58 = .ok (.getfield 33, 3) := by decide +kernel
theorem dX7_best_61 : decode cX7_best 61 = .ok (.iload_n 2, 1) := by decide +kernel
theorem dX7_best_62 : decode cX7_best 62 = .ok (.aload_n 0, 1) := by decide +kernel
theorem dX7_best_63 : decode cX7_best 63 = .ok (.getfield 65, 3) := by decide +kernel
theorem dX7_best_66 : decode cX7_best 66 = .ok (.invokevirtual 213, 3) := by decide +kernel
theorem dX7_best_69 : decode cX7_best 69 = .ok (.aload_n 0, 1) := by decide +kernel
theorem dX7_best_70 : decode cX7_best 70 = .ok (.getfield 40, 3) := by decide +kernel
theorem dX7_best_73 : decode cX7_best 73 = .ok (.invokevirtual 217, 3) := by decide +kernel
theorem dX7_best_76 : decode cX7_best 76 = .ok (.istore_n 3, 1) := by decide +kernel
theorem dX7_best_77 : decode cX7_best 77 = .ok (.iload_n 3, 1) := by decide +kernel
theorem dX7_best_78 : decode cX7_best 78 = .ok (.iconst (-1), 1) := by decide +kernel
theorem dX7_best_79 : decode cX7_best 79 = .ok (.if_icmp .ne 6, 3) := by decide +kernel
theorem dX7_best_82 : decode cX7_best 82 = .ok (.bipush (-4), 2) := by decide +kernel
theorem dX7_best_84 : decode cX7_best 84 = .ok (.ireturn, 1) := by decide +kernel
theorem dX7_best_85 : decode cX7_best 85 = .ok (.aload_n 0, 1) := by decide +kernel
theorem dX7_best_86 : decode cX7_best 86 = .ok (.getfield 40, 3) := by decide +kernel
theorem dX7_best_89 : decode cX7_best 89 = .ok (.aload_n 0, 1) := by decide +kernel
theorem dX7_best_90 : decode cX7_best 90 = .ok (.getfield 10, 3) := by decide +kernel
theorem dX7_best_93 : decode cX7_best 93 = .ok (.iload_n 3, 1) := by decide +kernel
theorem dX7_best_94 : decode cX7_best 94 = .ok (.aload_n 0, 1) := by decide +kernel
theorem dX7_best_95 : decode cX7_best 95 = .ok (.getfield 61, 3) := by decide +kernel
theorem dX7_best_98 : decode cX7_best 98 = .ok (.invokevirtual 220, 3) := by decide +kernel
theorem dX7_best_101 : decode cX7_best 101 = .ok (.iload_n 1, 1) := by decide +kernel
theorem dX7_best_102 : decode cX7_best 102 = .ok (.iload_n 3, 1) := by decide +kernel
theorem dX7_best_103 : decode cX7_best 103 = .ok (.iadd, 1) := by decide +kernel
theorem dX7_best_104 : decode cX7_best 104 = .ok (.istore_n 1, 1) := by decide +kernel
theorem dX7_best_105 : decode cX7_best 105 = .ok (.iinc 2 1, 3) := by decide +kernel
theorem dX7_best_108 : decode cX7_best 108 = .ok (.goto (-74), 3) := by decide +kernel
theorem dX7_best_111 : decode cX7_best 111 = .ok (.aload_n 0, 1) := by decide +kernel
theorem dX7_best_112 : decode cX7_best 112 = .ok (.invokevirtual 224, 3) := by decide +kernel
theorem dX7_best_115 : decode cX7_best 115 = .ok (.iload_n 1, 1) := by decide +kernel
theorem dX7_best_116 : decode cX7_best 116 = .ok (.ireturn, 1) := by decide +kernel
theorem dX7_quick_0 : decode cX7_quick 0 = .ok (.aload_n 0, 1) := by decide +kernel
theorem dX7_quick_1 : decode cX7_quick 1 = .ok (.invokevirtual 172, 3) := by decide +kernel
theorem dX7_quick_4 : decode cX7_quick 4 = .ok (.aload_n 0, 1) := by decide +kernel
theorem dX7_quick_5 : decode cX7_quick 5 = .ok (.getfield 10, 3) := by decide +kernel
theorem dX7_quick_8 : decode cX7_quick 8 = .ok (.aload_n 0, 1) := by decide +kernel
theorem dX7_quick_9 : decode cX7_quick 9 = .ok (.getfield 65, 3) := by decide +kernel
theorem dX7_quick_12 : decode cX7_quick 12 = .ok (.invokevirtual 209, 3) := by decide +kernel
theorem dX7_quick_15 : decode cX7_quick 15 = .ok (.aload_n 0, 1) := by decide +kernel
theorem dX7_quick_16 : decode cX7_quick 16 = .ok (.getfield 61, 3) := by decide +kernel
theorem dX7_quick_19 : decode cX7_quick 19 = .ok (.iconst (-1), 1) := by decide +kernel
theorem dX7_quick_20 : decode cX7_quick 20 = .ok (.invokestatic 227, 3) := by decide +kernel
theorem dX7_quick_23 : decode cX7_quick 23 = .ok (.iconst 0, 1) := by decide +kernel
theorem dX7_quick_24 : decode cX7_quick 24 = .ok (.istore_n 1, 1) := by decide +kernel
theorem dX7_quick_25 : decode cX7_quick 25 = .ok (.iload_n 1, 1) := by decide +kernel
theorem dX7_quick_26 : decode cX7_quick 26 = .ok (.aload_n 0, 1) := by decide +kernel
theorem dX7_quick_27 : decode cX7_quick 27 = .ok (.getfield 10, 3) := by decide +kernel
theorem dX7_quick_30 : decode cX7_quick 30 = .ok (.getfield 76, 3) := by decide +kernel
theorem dX7_quick_33 : decode cX7_quick 33 = .ok (.if_icmp .ge 31, 3) := by decide +kernel
theorem dX7_quick_36 : decode cX7_quick 36 = .ok (.aload_n 0, 1) := by decide +kernel
theorem dX7_quick_37 : decode cX7_quick 37 = .ok (.getfield 65, 3) := by decide +kernel
theorem dX7_quick_40 : decode cX7_quick 40 = .ok (.iload_n 1, 1) := by decide +kernel
theorem dX7_quick_41 : decode cX7_quick 41 = .ok (.iaload, 1) := by decide +kernel
theorem dX7_quick_42 : decode cX7_quick 42 = .ok (.istore_n 2, 1) := by decide +kernel
theorem dX7_quick_43 : decode cX7_quick 43 = .ok (.aload_n 0, 1) := by decide +kernel
theorem dX7_quick_44 : decode cX7_quick 44 = .ok (.getfield 61, 3) := by decide +kernel
theorem dX7_quick_47 : decode cX7_quick 47 = .ok (.iload_n 2, 1) := by decide +kernel
theorem dX7_quick_48 : decode cX7_quick 48 = .ok (.aload_n 0, 1) := by decide +kernel
theorem dX7_quick_49 : decode cX7_quick 49 = .ok (.iload_n 2, 1) := by decide +kernel
theorem dX7_quick_50 : decode cX7_quick 50 = .ok (.aload_n 0, 1) := by decide +kernel
theorem dX7_quick_51 : decode cX7_quick 51 = .ok (.getfield 61, 3) := by decide +kernel
theorem dX7_quick_54 : decode cX7_quick 54 = .ok (.invokevirtual 233, 3) := by decide +kernel
theorem dX7_quick_57 : decode cX7_quick 57 = .ok (.iastore, 1) := by decide +kernel
theorem dX7_quick_58 : decode cX7_quick 58 = .ok (.iinc 1 1, 3) := by decide +kernel
theorem dX7_quick_61 : decode cX7_quick 61 = .ok (.goto (-36), 3) := by decide +kernel
theorem dX7_quick_64 : decode cX7_quick 64 = .ok (.aload_n 0, 1) := by decide +kernel
theorem dX7_quick_65 : decode cX7_quick 65 = .ok (.invokevirtual 224, 3) := by decide +kernel
theorem dX7_quick_68 : decode cX7_quick 68 = .ok (.aload_n 0, 1) := by decide +kernel
theorem dX7_quick_69 : decode cX7_quick 69 = .ok (.invokevirtual 237, 3) := by decide +kernel
theorem dX7_quick_72 : decode cX7_quick 72 = .ok (.ireturn, 1) := by decide +kernel
theorem dX7_why_0 : decode cX7_why 0 = .ok (.aload_n 0, 1) := by decide +kernel
theorem dX7_why_1 : decode cX7_why 1 = .ok (.getfield 10, 3) := by decide +kernel
theorem dX7_why_4 : decode cX7_why 4 = .ok (.iload_n 1, 1) := by decide +kernel
theorem dX7_why_5 : decode cX7_why 5 = .ok (.iload_n 2, 1) := by decide +kernel
theorem dX7_why_6 : decode cX7_why 6 = .ok (.invokevirtual 139, 3) := by decide +kernel
theorem dX7_why_9 : decode cX7_why 9 = .ok (.ifCond .ne 6, 3) := by decide +kernel
theorem dX7_why_12 : decode cX7_why 12 = .ok (.bipush (-3), 2) := by decide +kernel
theorem dX7_why_14 : decode cX7_why 14 = .ok (.ireturn, 1) := by decide +kernel
theorem dX7_why_15 : decode cX7_why 15 = .ok (.aload_n 0, 1) := by decide +kernel
theorem dX7_why_16 : decode cX7_why 16 = .ok (.getfield 10, 3) := by decide +kernel
theorem dX7_why_19 : decode cX7_why 19 = .ok (.getfield 190, 3) := by decide +kernel
theorem dX7_why_22 : decode cX7_why 22 = .ok (.iload_n 1, 1) := by decide +kernel
theorem dX7_why_23 : decode cX7_why 23 = .ok (.iaload, 1) := by decide +kernel
theorem dX7_why_24 : decode cX7_why 24 = .ok (.iconst (-1), 1) := by decide +kernel
theorem dX7_why_25 : decode cX7_why 25 = .ok (.if_icmp .eq 6, 3) := by decide +kernel
theorem dX7_why_28 : decode cX7_why 28 = .ok (.bipush (-4), 2) := by decide +kernel
theorem dX7_why_30 : decode cX7_why 30 = .ok (.ireturn, 1) := by decide +kernel
theorem dX7_why_31 : decode cX7_why 31 = .ok (.aload_n 0, 1) := by decide +kernel
theorem dX7_why_32 : decode cX7_why 32 = .ok (.invokevirtual 172, 3) := by decide +kernel
theorem dX7_why_35 : decode cX7_why 35 = .ok (.aload_n 0, 1) := by decide +kernel
theorem dX7_why_36 : decode cX7_why 36 = .ok (.iload_n 1, 1) := by decide +kernel
theorem dX7_why_37 : decode cX7_why 37 = .ok (.iload_n 2, 1) := by decide +kernel
theorem dX7_why_38 : decode cX7_why 38 = .ok (.aload_n 0, 1) := by decide +kernel
theorem dX7_why_39 : decode cX7_why 39 = .ok (.getfield 10, 3) := by decide +kernel
theorem dX7_why_42 : decode cX7_why 42 = .ok (.getfield 190, 3) := by decide +kernel
theorem dX7_why_45 : decode cX7_why 45 = .ok (.invokevirtual 240, 3) := by decide +kernel
theorem dX7_why_48 : decode cX7_why 48 = .ok (.ireturn, 1) := by decide +kernel
theorem dX7_slack_0 : decode cX7_slack 0 = .ok (.aload_n 0, 1) := by decide +kernel
theorem dX7_slack_1 : decode cX7_slack 1 = .ok (.invokevirtual 172, 3) := by decide +kernel
theorem dX7_slack_4 : decode cX7_slack 4 = .ok (.iconst 0, 1) := by decide +kernel
theorem dX7_slack_5 : decode cX7_slack 5 = .ok (.istore_n 1, 1) := by decide +kernel
theorem dX7_slack_6 : decode cX7_slack 6 = .ok (.iconst 0, 1) := by decide +kernel
theorem dX7_slack_7 : decode cX7_slack 7 = .ok (.istore_n 2, 1) := by decide +kernel
theorem dX7_slack_8 : decode cX7_slack 8 = .ok (.iload_n 2, 1) := by decide +kernel
theorem dX7_slack_9 : decode cX7_slack 9 = .ok (.aload_n 0, 1) := by decide +kernel
theorem dX7_slack_10 : decode cX7_slack 10 = .ok (.getfield 10, 3) := by decide +kernel
theorem dX7_slack_13 : decode cX7_slack 13 = .ok (.getfield 76, 3) := by decide +kernel
theorem dX7_slack_16 : decode cX7_slack 16 = .ok (.if_icmp .ge 73, 3) := by decide +kernel
theorem dX7_slack_19 : decode cX7_slack 19 = .ok (.aload_n 0, 1) := by decide +kernel
theorem dX7_slack_20 : decode cX7_slack 20 = .ok (.getfield 10, 3) := by decide +kernel
theorem dX7_slack_23 : decode cX7_slack 23 = .ok (.getfield 190, 3) := by decide +kernel
theorem dX7_slack_26 : decode cX7_slack 26 = .ok (.iload_n 2, 1) := by decide +kernel
theorem dX7_slack_27 : decode cX7_slack 27 = .ok (.iaload, 1) := by decide +kernel
theorem dX7_slack_28 : decode cX7_slack 28 = .ok (.istore_n 3, 1) := by decide +kernel
theorem dX7_slack_29 : decode cX7_slack 29 = .ok (.iload_n 3, 1) := by decide +kernel
theorem dX7_slack_30 : decode cX7_slack 30 = .ok (.iconst (-1), 1) := by decide +kernel
theorem dX7_slack_31 : decode cX7_slack 31 = .ok (.if_icmp .ne 7, 3) := by decide +kernel
theorem dX7_slack_34 : decode cX7_slack 34 = .ok (.iconst (-1), 1) := by decide +kernel
theorem dX7_slack_35 : decode cX7_slack 35 = .ok (.goto 15, 3) := by decide +kernel
theorem dX7_slack_38 : decode cX7_slack 38 = .ok (.aload_n 0, 1) := by decide +kernel
theorem dX7_slack_39 : decode cX7_slack 39 = .ok (.iload_n 2, 1) := by decide +kernel
theorem dX7_slack_40 : decode cX7_slack 40 = .ok (.aload_n 0, 1) := by decide +kernel
theorem dX7_slack_41 : decode cX7_slack 41 = .ok (.getfield 10, 3) := by decide +kernel
theorem dX7_slack_44 : decode cX7_slack 44 = .ok (.getfield 190, 3) := by decide +kernel
theorem dX7_slack_47 : decode cX7_slack 47 = .ok (.invokevirtual 233, 3) := by decide +kernel
theorem dX7_slack_50 : decode cX7_slack 50 = .ok (.istore 4, 2) := by decide +kernel
theorem dX7_slack_52 : decode cX7_slack 52 = .ok (.iload 4, 2) := by decide +kernel
theorem dX7_slack_54 : decode cX7_slack 54 = .ok (.iconst (-1), 1) := by decide +kernel
theorem dX7_slack_55 : decode cX7_slack 55 = .ok (.if_icmp .eq 28, 3) := by decide +kernel
theorem dX7_slack_58 : decode cX7_slack 58 = .ok (.aload_n 0, 1) := by decide +kernel
theorem dX7_slack_59 : decode cX7_slack 59 = .ok (.getfield 10, 3) := by decide +kernel
theorem dX7_slack_62 : decode cX7_slack 62 = .ok (.iload_n 2, 1) := by decide +kernel
theorem dX7_slack_63 : decode cX7_slack 63 = .ok (.iload 4, 2) := by decide +kernel
theorem dX7_slack_65 : decode cX7_slack 65 = .ok (.invokevirtual 161, 3) := by decide +kernel
theorem dX7_slack_68 : decode cX7_slack 68 = .ok (.aload_n 0, 1) := by decide +kernel
theorem dX7_slack_69 : decode cX7_slack 69 = .ok (.getfield 10, 3) := by decide +kernel
theorem dX7_slack_72 : decode cX7_slack 72 = .ok (.iload_n 2, 1) := by decide +kernel
theorem dX7_slack_73 : decode cX7_slack 73 = .ok (.iload_n 3, 1) := by decide +kernel
theorem dX7_slack_74 : decode cX7_slack 74 = .ok (.invokevirtual 161, 3) := by decide +kernel
theorem dX7_slack_77 : decode cX7_slack 77 = .ok (.if_icmp .ge 6, 3) := by decide +kernel
theorem dX7_slack_80 : decode cX7_slack 80 = .ok (.iinc 1 1, 3) := by decide +kernel
theorem dX7_slack_83 : decode cX7_slack 83 = .ok (.iinc 2 1, 3) := by decide +kernel
theorem dX7_slack_86 : decode cX7_slack 86 = .ok (.goto (-78), 3) := by decide +kernel
theorem dX7_slack_89 : decode cX7_slack 89 = .ok (.iload_n 1, 1) := by decide +kernel
theorem dX7_slack_90 : decode cX7_slack 90 = .ok (.ireturn, 1) := by decide +kernel
theorem dX7_steady_0 : decode cX7_steady 0 = .ok (.aload_n 0, 1) := by decide +kernel
theorem dX7_steady_1 : decode cX7_steady 1 = .ok (.getfield 10, 3) := by decide +kernel
theorem dX7_steady_4 : decode cX7_steady 4 = .ok (.iload_n 1, 1) := by decide +kernel
theorem dX7_steady_5 : decode cX7_steady 5 = .ok (.invokevirtual 94, 3) := by decide +kernel
theorem dX7_steady_8 : decode cX7_steady 8 = .ok (.ifCond .eq 12, 3) := by decide +kernel
theorem dX7_steady_11 : decode cX7_steady 11 = .ok (.iload_n 2, 1) := by decide +kernel
theorem dX7_steady_12 : decode cX7_steady 12 = .ok (.iconst 0, 1) := by decide +kernel
theorem dX7_steady_13 : decode cX7_steady 13 = .ok (.iconst 1, 1) := by decide +kernel
theorem dX7_steady_14 : decode cX7_steady 14 = .ok (.invokestatic 103, 3) := by decide +kernel
theorem dX7_steady_17 : decode cX7_steady 17 = .ok (.ifCond .ne 6, 3) := by decide +kernel
theorem dX7_steady_20 : decode cX7_steady 20 = .ok (.bipush (-3), 2) := by decide +kernel
theorem dX7_steady_22 : decode cX7_steady 22 = .ok (.ireturn, 1) := by decide +kernel
theorem dX7_steady_23 : decode cX7_steady 23 = .ok (.aload_n 0, 1) := by decide +kernel
theorem dX7_steady_24 : decode cX7_steady 24 = .ok (.getfield 47, 3) := by decide +kernel
theorem dX7_steady_27 : decode cX7_steady 27 = .ok (.aload_n 0, 1) := by decide +kernel
theorem dX7_steady_28 : decode cX7_steady 28 = .ok (.getfield 10, 3) := by decide +kernel
theorem dX7_steady_31 : decode cX7_steady 31 = .ok (.invokevirtual 244, 3) := by decide +kernel
theorem dX7_steady_34 : decode cX7_steady 34 = .ok (.iload_n 2, 1) := by decide +kernel
theorem dX7_steady_35 : decode cX7_steady 35 = .ok (.ifCond .ne 15, 3) := by decide +kernel
theorem dX7_steady_38 : decode cX7_steady 38 = .ok (.aload_n 0, 1) := by decide +kernel
theorem dX7_steady_39 : decode cX7_steady 39 = .ok (.getfield 47, 3) := by decide +kernel
theorem dX7_steady_42 : decode cX7_steady 42 = .ok (.getfield 247, 3) := by decide +kernel
theorem dX7_steady_45 : decode cX7_steady 45 = .ok (.iload_n 1, 1) := by decide +kernel
theorem dX7_steady_46 : decode cX7_steady 46 = .ok (.iaload, 1) := by decide +kernel
theorem dX7_steady_47 : decode cX7_steady 47 = .ok (.goto 12, 3) := by decide +kernel
theorem dX7_steady_50 : decode cX7_steady 50 = .ok (.aload_n 0, 1) := by decide +kernel
theorem dX7_steady_51 : decode cX7_steady 51 = .ok (.getfield 47, 3) := by decide +kernel
theorem dX7_steady_54 : decode cX7_steady 54 = .ok (.getfield 250, 3) := by decide +kernel
theorem dX7_steady_57 : decode cX7_steady 57 = .ok (.iload_n 1, 1) := by decide +kernel
theorem dX7_steady_58 : decode cX7_steady 58 = .ok (.iaload, 1) := by decide +kernel
theorem dX7_steady_59 : decode cX7_steady 59 = .ok (.ireturn, 1) := by decide +kernel
theorem dX7_there_0 : decode cX7_there 0 = .ok (.iload_n 1, 1) := by decide +kernel
theorem dX7_there_1 : decode cX7_there 1 = .ok (.invokestatic 142, 3) := by decide +kernel
theorem dX7_there_4 : decode cX7_there 4 = .ok (.ifCond .ne 6, 3) := by decide +kernel
theorem dX7_there_7 : decode cX7_there 7 = .ok (.bipush (-3), 2) := by decide +kernel
theorem dX7_there_9 : decode cX7_there 9 = .ok (.ireturn, 1) := by decide +kernel
theorem dX7_there_10 : decode cX7_there 10 = .ok (.aload_n 0, 1) := by decide +kernel
theorem dX7_there_11 : decode cX7_there 11 = .ok (.getfield 47, 3) := by decide +kernel
theorem dX7_there_14 : decode cX7_there 14 = .ok (.aload_n 0, 1) := by decide +kernel
theorem dX7_there_15 : decode cX7_there 15 = .ok (.getfield 10, 3) := by decide +kernel
theorem dX7_there_18 : decode cX7_there 18 = .ok (.invokevirtual 244, 3) := by decide +kernel
theorem dX7_there_21 : decode cX7_there 21 = .ok (.iconst 0, 1) := by decide +kernel
theorem dX7_there_22 : decode cX7_there 22 = .ok (.istore_n 2, 1) := by decide +kernel
theorem dX7_there_23 : decode cX7_there 23 = .ok (.iconst 0, 1) := by decide +kernel
theorem dX7_there_24 : decode cX7_there 24 = .ok (.istore_n 3, 1) := by decide +kernel
theorem dX7_there_25 : decode cX7_there 25 = .ok (.iload_n 3, 1) := by decide +kernel
theorem dX7_there_26 : decode cX7_there 26 = .ok (.aload_n 0, 1) := by decide +kernel
theorem dX7_there_27 : decode cX7_there 27 = .ok (.getfield 10, 3) := by decide +kernel
theorem dX7_there_30 : decode cX7_there 30 = .ok (.getfield 76, 3) := by decide +kernel
theorem dX7_there_33 : decode cX7_there 33 = .ok (.if_icmp .ge 24, 3) := by decide +kernel
theorem dX7_there_36 : decode cX7_there 36 = .ok (.iload_n 2, 1) := by decide +kernel
theorem dX7_there_37 : decode cX7_there 37 = .ok (.aload_n 0, 1) := by decide +kernel
theorem dX7_there_38 : decode cX7_there 38 = .ok (.getfield 47, 3) := by decide +kernel
theorem dX7_there_41 : decode cX7_there 41 = .ok (.iload_n 3, 1) := by decide +kernel
theorem dX7_there_42 : decode cX7_there 42 = .ok (.iload_n 1, 1) := by decide +kernel
theorem dX7_there_43 : decode cX7_there 43 = .ok (.invokevirtual 253, 3) := by decide +kernel
theorem dX7_there_46 : decode cX7_there 46 = .ok (.invokestatic 135, 3) := by decide +kernel
theorem dX7_there_49 : decode cX7_there 49 = .ok (.iadd, 1) := by decide +kernel
theorem dX7_there_50 : decode cX7_there 50 = .ok (.istore_n 2, 1) := by decide +kernel
theorem dX7_there_51 : decode cX7_there 51 = .ok (.iinc 3 1, 3) := by decide +kernel
theorem dX7_there_54 : decode cX7_there 54 = .ok (.goto (-29), 3) := by decide +kernel
theorem dX7_there_57 : decode cX7_there 57 = .ok (.iload_n 2, 1) := by decide +kernel
theorem dX7_there_58 : decode cX7_there 58 = .ok (.ireturn, 1) := by decide +kernel
theorem dX7_at_0 : decode cX7_at 0 = .ok (.iload_n 1, 1) := by decide +kernel
theorem dX7_at_1 : decode cX7_at 1 = .ok (.iload_n 2, 1) := by decide +kernel
theorem dX7_at_2 : decode cX7_at 2 = .ok (.invokestatic 72, 3) := by decide +kernel
theorem dX7_at_5 : decode cX7_at 5 = .ok (.ifCond .ne 6, 3) := by decide +kernel
theorem dX7_at_8 : decode cX7_at 8 = .ok (.bipush (-3), 2) := by decide +kernel
theorem dX7_at_10 : decode cX7_at 10 = .ok (.ireturn, 1) := by decide +kernel
theorem dX7_at_11 : decode cX7_at 11 = .ok (.aload_n 0, 1) := by decide +kernel
theorem dX7_at_12 : decode cX7_at 12 = .ok (.invokevirtual 172, 3) := by decide +kernel
theorem dX7_at_15 : decode cX7_at 15 = .ok (.iconst 0, 1) := by decide +kernel
theorem dX7_at_16 : decode cX7_at 16 = .ok (.istore_n 3, 1) := by decide +kernel
theorem dX7_at_17 : decode cX7_at 17 = .ok (.iload_n 3, 1) := by decide +kernel
theorem dX7_at_18 : decode cX7_at 18 = .ok (.aload_n 0, 1) := by decide +kernel
theorem dX7_at_19 : decode cX7_at 19 = .ok (.getfield 10, 3) := by decide +kernel
theorem dX7_at_22 : decode cX7_at 22 = .ok (.getfield 76, 3) := by decide +kernel
theorem dX7_at_25 : decode cX7_at 25 = .ok (.if_icmp .ge 49, 3) := by decide +kernel
theorem dX7_at_28 : decode cX7_at 28 = .ok (.aload_n 0, 1) := by decide +kernel
theorem dX7_at_29 : decode cX7_at 29 = .ok (.getfield 10, 3) := by decide +kernel
theorem dX7_at_32 : decode cX7_at 32 = .ok (.getfield 190, 3) := by decide +kernel
theorem dX7_at_35 : decode cX7_at 35 = .ok (.iload_n 3, 1) := by decide +kernel
theorem dX7_at_36 : decode cX7_at 36 = .ok (.iaload, 1) := by decide +kernel
theorem dX7_at_37 : decode cX7_at 37 = .ok (.iconst (-1), 1) := by decide +kernel
theorem dX7_at_38 : decode cX7_at 38 = .ok (.if_icmp .eq 30, 3) := by decide +kernel
theorem dX7_at_41 : decode cX7_at 41 = .ok (.aload_n 0, 1) := by decide +kernel
theorem dX7_at_42 : decode cX7_at 42 = .ok (.getfield 26, 3) := by decide +kernel
theorem dX7_at_45 : decode cX7_at 45 = .ok (.iload_n 3, 1) := by decide +kernel
theorem dX7_at_46 : decode cX7_at 46 = .ok (.aload_n 0, 1) := by decide +kernel
theorem dX7_at_47 : decode cX7_at 47 = .ok (.getfield 10, 3) := by decide +kernel
theorem dX7_at_50 : decode cX7_at 50 = .ok (.getfield 190, 3) := by decide +kernel
theorem dX7_at_53 : decode cX7_at 53 = .ok (.iload_n 3, 1) := by decide +kernel
theorem dX7_at_54 : decode cX7_at 54 = .ok (.iaload, 1) := by decide +kernel
theorem dX7_at_55 : decode cX7_at 55 = .ok (.invokevirtual 256, 3) := by decide +kernel
theorem dX7_at_58 : decode cX7_at 58 = .ok (.iload_n 1, 1) := by decide +kernel
theorem dX7_at_59 : decode cX7_at 59 = .ok (.iload_n 2, 1) := by decide +kernel
theorem dX7_at_60 : decode cX7_at 60 = .ok (.invokevirtual 260, 3) := by decide +kernel
theorem dX7_at_63 : decode cX7_at 63 = .ok (.ifCond .eq 5, 3) := by decide +kernel
theorem dX7_at_66 : decode cX7_at 66 = .ok (.iload_n 3, 1) := by decide +kernel
theorem dX7_at_67 : decode cX7_at 67 = .ok (.ireturn, 1) := by decide +kernel
theorem dX7_at_68 : decode cX7_at 68 = .ok (.iinc 3 1, 3) := by decide +kernel
theorem dX7_at_71 : decode cX7_at 71 = .ok (.goto (-54), 3) := by decide +kernel
theorem dX7_at_74 : decode cX7_at 74 = .ok (.iconst (-1), 1) := by decide +kernel
theorem dX7_at_75 : decode cX7_at 75 = .ok (.ireturn, 1) := by decide +kernel
theorem dX7_find_0 : decode cX7_find 0 = .ok (.iload_n 1, 1) := by decide +kernel
theorem dX7_find_1 : decode cX7_find 1 = .ok (.iload_n 2, 1) := by decide +kernel
theorem dX7_find_2 : decode cX7_find 2 = .ok (.invokestatic 72, 3) := by decide +kernel
theorem dX7_find_5 : decode cX7_find 5 = .ok (.ifCond .eq 31, 3) := by decide +kernel
theorem dX7_find_8 : decode cX7_find 8 = .ok (.iload_n 3, 1) := by decide +kernel
theorem dX7_find_9 : decode cX7_find 9 = .ok (.iconst 1, 1) := by decide +kernel
theorem dX7_find_10 : decode cX7_find 10 = .ok (.sipush 1000, 3) := by decide +kernel
theorem dX7_find_13 : decode cX7_find 13 = .ok (.invokestatic 103, 3) := by decide +kernel
theorem dX7_find_16 : decode cX7_find 16 = .ok (.ifCond .eq 20, 3) := by decide +kernel
theorem dX7_find_19 : decode cX7_find 19 = .ok (.iload 4, 2) := by decide +kernel
theorem dX7_find_21 : decode cX7_find 21 = .ok (.iconst 1, 1) := by decide +kernel
theorem dX7_find_22 : decode cX7_find 22 = .ok (.sipush 1000, 3) := by decide +kernel
theorem dX7_find_25 : decode cX7_find 25 = .ok (.invokestatic 103, 3) := by decide +kernel
theorem dX7_find_28 : decode cX7_find 28 = .ok (.ifCond .eq 8, 3) := by decide +kernel
theorem dX7_find_31 : decode cX7_find 31 = .ok (.iload 5, 2) := by decide +kernel
theorem dX7_find_33 : decode cX7_find 33 = .ok (.ifCond .ge 6, 3) := by decide +kernel
theorem dX7_find_36 : decode cX7_find 36 = .ok (.bipush (-3), 2) := by decide +kernel
theorem dX7_find_38 : decode cX7_find 38 = .ok (.ireturn, 1) := by decide +kernel
theorem dX7_find_39 : decode cX7_find 39 = .ok (.aload_n 0, 1) := by decide +kernel
theorem dX7_find_40 : decode cX7_find 40 = .ok (.invokevirtual 172, 3) := by decide +kernel
theorem dX7_find_43 : decode cX7_find 43 = .ok (.iconst 0, 1) := by decide +kernel
theorem dX7_find_44 : decode cX7_find 44 = .ok (.istore 6, 2) := by decide +kernel
theorem dX7_find_46 : decode cX7_find 46 = .ok (.iconst 0, 1) := by decide +kernel
theorem dX7_find_47 : decode cX7_find 47 = .ok (.istore 7, 2) := by decide +kernel
theorem dX7_find_49 : decode cX7_find 49 = .ok (.iload 7, 2) := by decide +kernel
theorem dX7_find_51 : decode cX7_find 51 = .ok (.aload_n 0, 1) := by decide +kernel
theorem dX7_find_52 : decode cX7_find 52 = .ok (.getfield 10, 3) := by decide +kernel
theorem dX7_find_55 : decode cX7_find 55 = .ok (.getfield 76, 3) := by decide +kernel
theorem dX7_find_58 : decode cX7_find 58 = .ok (.if_icmp .ge 70, 3) := by decide +kernel
theorem dX7_find_61 : decode cX7_find 61 = .ok (.aload_n 0, 1) := by decide +kernel
theorem dX7_find_62 : decode cX7_find 62 = .ok (.getfield 10, 3) := by decide +kernel
theorem dX7_find_65 : decode cX7_find 65 = .ok (.getfield 190, 3) := by decide +kernel
theorem dX7_find_68 : decode cX7_find 68 = .ok (.iload 7, 2) := by decide +kernel
theorem dX7_find_70 : decode cX7_find 70 = .ok (.iaload, 1) := by decide +kernel
theorem dX7_find_71 : decode cX7_find 71 = .ok (.iconst (-1), 1) := by decide +kernel
theorem dX7_find_72 : decode cX7_find 72 = .ok (.if_icmp .eq 50, 3) := by decide +kernel
theorem dX7_find_75 : decode cX7_find 75 = .ok (.aload_n 0, 1) := by decide +kernel
theorem dX7_find_76 : decode cX7_find 76 = .ok (.getfield 26, 3) := by decide +kernel
theorem dX7_find_79 : decode cX7_find 79 = .ok (.iload 7, 2) := by decide +kernel
theorem dX7_find_81 : decode cX7_find 81 = .ok (.aload_n 0, 1) := by decide +kernel
theorem dX7_find_82 : decode cX7_find 82 = .ok (.getfield 10, 3) := by decide +kernel
theorem dX7_find_85 : decode cX7_find 85 = .ok (.getfield 190, 3) := by decide +kernel
theorem dX7_find_88 : decode cX7_find 88 = .ok (.iload 7, 2) := by decide +kernel
theorem dX7_find_90 : decode cX7_find 90 = .ok (.iaload, 1) := by decide +kernel
theorem dX7_find_91 : decode cX7_find 91 = .ok (.invokevirtual 256, 3) := by decide +kernel
theorem dX7_find_94 : decode cX7_find 94 = .ok (.iload_n 1, 1) := by decide +kernel
theorem dX7_find_95 : decode cX7_find 95 = .ok (.iload_n 2, 1) := by decide +kernel
theorem dX7_find_96 : decode cX7_find 96 = .ok (.iload_n 1, 1) := by decide +kernel
theorem dX7_find_97 : decode cX7_find 97 = .ok (.iload_n 3, 1) := by decide +kernel
theorem dX7_find_98 : decode cX7_find 98 = .ok (.iadd, 1) := by decide +kernel
theorem dX7_find_99 : decode cX7_find 99 = .ok (.iload_n 2, 1) := by decide +kernel
theorem dX7_find_100 : decode cX7_find 100 = .ok (.iload 4, 2) := by decide +kernel
theorem dX7_find_102 : decode cX7_find 102 = .ok (.iadd, 1) := by decide +kernel
theorem dX7_find_103 : decode cX7_find 103 = .ok (.invokevirtual 263, 3) := by decide +kernel
theorem dX7_find_106 : decode cX7_find 106 = .ok (.ifCond .eq 16, 3) := by decide +kernel
theorem dX7_find_109 : decode cX7_find 109 = .ok (.iload 6, 2) := by decide +kernel
theorem dX7_find_111 : decode cX7_find 111 = .ok (.iload 5, 2) := by decide +kernel
theorem dX7_find_113 : decode cX7_find 113 = .ok (.if_icmp .ne 6, 3) := by decide +kernel
theorem dX7_find_116 : decode cX7_find 116 = .ok (.iload 7, 2) := by decide +kernel
theorem dX7_find_118 : decode cX7_find 118 = .ok (.ireturn, 1) := by decide +kernel
theorem dX7_find_119 : decode cX7_find 119 = .ok (.iinc 6 1, 3) := by decide +kernel
theorem dX7_find_122 : decode cX7_find 122 = .ok (.iinc 7 1, 3) := by decide +kernel
theorem dX7_find_125 : decode cX7_find 125 = .ok (.goto (-76), 3) := by decide +kernel
theorem dX7_find_128 : decode cX7_find 128 = .ok (.iconst (-1), 1) := by decide +kernel
theorem dX7_find_129 : decode cX7_find 129 = .ok (.ireturn, 1) := by decide +kernel
theorem dX7_undo_0 : decode cX7_undo 0 = .ok (.aload_n 0, 1) := by decide +kernel
theorem dX7_undo_1 : decode cX7_undo 1 = .ok (.getfield 19, 3) := by decide +kernel
theorem dX7_undo_4 : decode cX7_undo 4 = .ok (.getfield 267, 3) := by decide +kernel
theorem dX7_undo_7 : decode cX7_undo 7 = .ok (.ifCond .ne 6, 3) := by decide +kernel
theorem dX7_undo_10 : decode cX7_undo 10 = .ok (.bipush (-4), 2) := by decide +kernel
theorem dX7_undo_12 : decode cX7_undo 12 = .ok (.ireturn, 1) := by decide +kernel
theorem dX7_undo_13 : decode cX7_undo 13 = .ok (.aload_n 0, 1) := by decide +kernel
theorem dX7_undo_14 : decode cX7_undo 14 = .ok (.getfield 19, 3) := by decide +kernel
theorem dX7_undo_17 : decode cX7_undo 17 = .ok (.aload_n 0, 1) := by decide +kernel
theorem dX7_undo_18 : decode cX7_undo 18 = .ok (.getfield 10, 3) := by decide +kernel
theorem dX7_undo_21 : decode cX7_undo 21 = .ok (.invokevirtual 270, 3) := by decide +kernel
theorem dX7_undo_24 : decode cX7_undo 24 = .ok (.aload_n 0, 1) := by decide +kernel
theorem dX7_undo_25 : decode cX7_undo 25 = .ok (.invokevirtual 273, 3) := by decide +kernel
theorem dX7_undo_28 : decode cX7_undo 28 = .ok (.aload_n 0, 1) := by decide +kernel
theorem dX7_undo_29 : decode cX7_undo 29 = .ok (.getfield 19, 3) := by decide +kernel
theorem dX7_undo_32 : decode cX7_undo 32 = .ok (.getfield 267, 3) := by decide +kernel
theorem dX7_undo_35 : decode cX7_undo 35 = .ok (.ireturn, 1) := by decide +kernel
theorem dX7_count_0 : decode cX7_count 0 = .ok (.iload_n 1, 1) := by decide +kernel
theorem dX7_count_1 : decode cX7_count 1 = .ok (.tableswitch 85 0 5 #[39, 47, 55, 60, 68, 73], 39) := by decide +kernel
theorem dX7_count_40 : decode cX7_count 40 = .ok (.aload_n 0, 1) := by decide +kernel
theorem dX7_count_41 : decode cX7_count 41 = .ok (.getfield 10, 3) := by decide +kernel
theorem dX7_count_44 : decode cX7_count 44 = .ok (.getfield 76, 3) := by decide +kernel
theorem dX7_count_47 : decode cX7_count 47 = .ok (.ireturn, 1) := by decide +kernel
theorem dX7_count_48 : decode cX7_count 48 = .ok (.aload_n 0, 1) := by decide +kernel
theorem dX7_count_49 : decode cX7_count 49 = .ok (.getfield 10, 3) := by decide +kernel
theorem dX7_count_52 : decode cX7_count 52 = .ok (.getfield 87, 3) := by decide +kernel
theorem dX7_count_55 : decode cX7_count 55 = .ok (.ireturn, 1) := by decide +kernel
theorem dX7_count_56 : decode cX7_count 56 = .ok (.aload_n 0, 1) := by decide +kernel
theorem dX7_count_57 : decode cX7_count 57 = .ok (.invokevirtual 237, 3) := by decide +kernel
theorem dX7_count_60 : decode cX7_count 60 = .ok (.ireturn, 1) := by decide +kernel
theorem dX7_count_61 : decode cX7_count 61 = .ok (.aload_n 0, 1) := by decide +kernel
theorem dX7_count_62 : decode cX7_count 62 = .ok (.getfield 19, 3) := by decide +kernel
theorem dX7_count_65 : decode cX7_count 65 = .ok (.getfield 267, 3) := by decide +kernel
theorem dX7_count_68 : decode cX7_count 68 = .ok (.ireturn, 1) := by decide +kernel
theorem dX7_count_69 : decode cX7_count 69 = .ok (.aload_n 0, 1) := by decide +kernel
theorem dX7_count_70 : decode cX7_count 70 = .ok (.invokevirtual 276, 3) := by decide +kernel
theorem dX7_count_73 : decode cX7_count 73 = .ok (.ireturn, 1) := by decide +kernel
theorem dX7_count_74 : decode cX7_count 74 = .ok (.aload_n 0, 1) := by decide +kernel
theorem dX7_count_75 : decode cX7_count 75 = .ok (.invokevirtual 126, 3) := by decide +kernel
theorem dX7_count_78 : decode cX7_count 78 = .ok (.aload_n 0, 1) := by decide +kernel
theorem dX7_count_79 : decode cX7_count 79 = .ok (.getfield 33, 3) := by decide +kernel
theorem dX7_count_82 : decode cX7_count 82 = .ok (.getfield 206, 3) := by decide +kernel
theorem dX7_count_85 : decode cX7_count 85 = .ok (.ireturn, 1) := by decide +kernel
theorem dX7_count_86 : decode cX7_count 86 = .ok (.bipush (-3), 2) := by decide +kernel
theorem dX7_count_88 : decode cX7_count 88 = .ok (.ireturn, 1) := by decide +kernel
theorem dX7_within_0 : decode cX7_within 0 = .ok (.iload_n 0, 1) := by decide +kernel
theorem dX7_within_1 : decode cX7_within 1 = .ok (.iload_n 1, 1) := by decide +kernel
theorem dX7_within_2 : decode cX7_within 2 = .ok (.if_icmp .lt 12, 3) := by decide +kernel
theorem dX7_within_5 : decode cX7_within 5 = .ok (.iload_n 0, 1) := by decide +kernel
theorem dX7_within_6 : decode cX7_within 6 = .ok (.iload_n 2, 1) := by decide +kernel
theorem dX7_within_7 : decode cX7_within 7 = .ok (.if_icmp .gt 7, 3) := by decide +kernel
theorem dX7_within_10 : decode cX7_within 10 = .ok (.iconst 1, 1) := by decide +kernel
theorem dX7_within_11 : decode cX7_within 11 = .ok (.goto 4, 3) := by decide +kernel
theorem dX7_within_14 : decode cX7_within 14 = .ok (.iconst 0, 1) := by decide +kernel
theorem dX7_within_15 : decode cX7_within 15 = .ok (.ireturn, 1) := by decide +kernel
theorem dX7_isPlace_0 : decode cX7_isPlace 0 = .ok (.iload_n 0, 1) := by decide +kernel
theorem dX7_isPlace_1 : decode cX7_isPlace 1 = .ok (.iconst 0, 1) := by decide +kernel
theorem dX7_isPlace_2 : decode cX7_isPlace 2 = .ok (.sipush 1000, 3) := by decide +kernel
theorem dX7_isPlace_5 : decode cX7_isPlace 5 = .ok (.invokestatic 103, 3) := by decide +kernel
theorem dX7_isPlace_8 : decode cX7_isPlace 8 = .ok (.ifCond .eq 18, 3) := by decide +kernel
theorem dX7_isPlace_11 : decode cX7_isPlace 11 = .ok (.iload_n 1, 1) := by decide +kernel
theorem dX7_isPlace_12 : decode cX7_isPlace 12 = .ok (.iconst 0, 1) := by decide +kernel
theorem dX7_isPlace_13 : decode cX7_isPlace 13 = .ok (.sipush 1000, 3) := by decide +kernel
theorem dX7_isPlace_16 : decode cX7_isPlace 16 = .ok (.invokestatic 103, 3) := by decide +kernel
theorem dX7_isPlace_19 : decode cX7_isPlace 19 = .ok (.ifCond .eq 7, 3) := by decide +kernel
theorem dX7_isPlace_22 : decode cX7_isPlace 22 = .ok (.iconst 1, 1) := by decide +kernel
theorem dX7_isPlace_23 : decode cX7_isPlace 23 = .ok (.goto 4, 3) := by decide +kernel
theorem dX7_isPlace_26 : decode cX7_isPlace 26 = .ok (.iconst 0, 1) := by decide +kernel
theorem dX7_isPlace_27 : decode cX7_isPlace 27 = .ok (.ireturn, 1) := by decide +kernel
theorem dX7_isKind_0 : decode cX7_isKind 0 = .ok (.iload_n 0, 1) := by decide +kernel
theorem dX7_isKind_1 : decode cX7_isKind 1 = .ok (.iconst 0, 1) := by decide +kernel
theorem dX7_isKind_2 : decode cX7_isKind 2 = .ok (.iconst 3, 1) := by decide +kernel
theorem dX7_isKind_3 : decode cX7_isKind 3 = .ok (.invokestatic 103, 3) := by decide +kernel
theorem dX7_isKind_6 : decode cX7_isKind 6 = .ok (.ireturn, 1) := by decide +kernel
theorem dX7_isZoom_0 : decode cX7_isZoom 0 = .ok (.iload_n 0, 1) := by decide +kernel
theorem dX7_isZoom_1 : decode cX7_isZoom 1 = .ok (.iconst 0, 1) := by decide +kernel
theorem dX7_isZoom_2 : decode cX7_isZoom 2 = .ok (.bipush 6, 2) := by decide +kernel
theorem dX7_isZoom_4 : decode cX7_isZoom 4 = .ok (.invokestatic 103, 3) := by decide +kernel
theorem dX7_isZoom_7 : decode cX7_isZoom 7 = .ok (.ireturn, 1) := by decide +kernel
theorem dX7_yes_0 : decode cX7_yes 0 = .ok (.iload_n 0, 1) := by decide +kernel
theorem dX7_yes_1 : decode cX7_yes 1 = .ok (.ifCond .eq 7, 3) := by decide +kernel
theorem dX7_yes_4 : decode cX7_yes 4 = .ok (.iconst 1, 1) := by decide +kernel
theorem dX7_yes_5 : decode cX7_yes 5 = .ok (.goto 4, 3) := by decide +kernel
theorem dX7_yes_8 : decode cX7_yes 8 = .ok (.iconst 0, 1) := by decide +kernel
theorem dX7_yes_9 : decode cX7_yes 9 = .ok (.ireturn, 1) := by decide +kernel
theorem dX7_redraw_0 : decode cX7_redraw 0 = .ok (.aload_n 0, 1) := by decide +kernel
theorem dX7_redraw_1 : decode cX7_redraw 1 = .ok (.getfield 19, 3) := by decide +kernel
theorem dX7_redraw_4 : decode cX7_redraw 4 = .ok (.aload_n 0, 1) := by decide +kernel
theorem dX7_redraw_5 : decode cX7_redraw 5 = .ok (.getfield 10, 3) := by decide +kernel
theorem dX7_redraw_8 : decode cX7_redraw 8 = .ok (.invokevirtual 186, 3) := by decide +kernel
theorem dX7_redraw_11 : decode cX7_redraw 11 = .ok (.aload_n 0, 1) := by decide +kernel
theorem dX7_redraw_12 : decode cX7_redraw 12 = .ok (.invokevirtual 273, 3) := by decide +kernel
theorem dX7_redraw_15 : decode cX7_redraw 15 = .ok (.return_, 1) := by decide +kernel
theorem dX7_forgetDrawing_0 : decode cX7_forgetDrawing 0 = .ok (.aload_n 0, 1) := by decide +kernel
theorem dX7_forgetDrawing_1 : decode cX7_forgetDrawing 1 = .ok (.getfield 26, 3) := by decide +kernel
theorem dX7_forgetDrawing_4 : decode cX7_forgetDrawing 4 = .ok (.iconst 0, 1) := by decide +kernel
theorem dX7_forgetDrawing_5 : decode cX7_forgetDrawing 5 = .ok (.putfield 279, 3) := by decide +kernel
theorem dX7_forgetDrawing_8 : decode cX7_forgetDrawing 8 = .ok (.aload_n 0, 1) := by decide +kernel
theorem dX7_forgetDrawing_9 : decode cX7_forgetDrawing 9 = .ok (.getfield 33, 3) := by decide +kernel
theorem dX7_forgetDrawing_12 : decode cX7_forgetDrawing 12 = .ok (.iconst 0, 1) := by decide +kernel
theorem dX7_forgetDrawing_13 : decode cX7_forgetDrawing 13 = .ok (.putfield 283, 3) := by decide +kernel
theorem dX7_forgetDrawing_16 : decode cX7_forgetDrawing 16 = .ok (.aload_n 0, 1) := by decide +kernel
theorem dX7_forgetDrawing_17 : decode cX7_forgetDrawing 17 = .ok (.getfield 47, 3) := by decide +kernel
theorem dX7_forgetDrawing_20 : decode cX7_forgetDrawing 20 = .ok (.iconst 0, 1) := by decide +kernel
theorem dX7_forgetDrawing_21 : decode cX7_forgetDrawing 21 = .ok (.putfield 284, 3) := by decide +kernel
theorem dX7_forgetDrawing_24 : decode cX7_forgetDrawing 24 = .ok (.return_, 1) := by decide +kernel
theorem dX7_layOut_0 : decode cX7_layOut 0 = .ok (.aload_n 0, 1) := by decide +kernel
theorem dX7_layOut_1 : decode cX7_layOut 1 = .ok (.getfield 26, 3) := by decide +kernel
theorem dX7_layOut_4 : decode cX7_layOut 4 = .ok (.aload_n 0, 1) := by decide +kernel
theorem dX7_layOut_5 : decode cX7_layOut 5 = .ok (.getfield 10, 3) := by decide +kernel
theorem dX7_layOut_8 : decode cX7_layOut 8 = .ok (.invokevirtual 285, 3) := by decide +kernel
theorem dX7_layOut_11 : decode cX7_layOut 11 = .ok (.return_, 1) := by decide +kernel
theorem dX7_splitUp_0 : decode cX7_splitUp 0 = .ok (.aload_n 0, 1) := by decide +kernel
theorem dX7_splitUp_1 : decode cX7_splitUp 1 = .ok (.invokevirtual 172, 3) := by decide +kernel
theorem dX7_splitUp_4 : decode cX7_splitUp 4 = .ok (.aload_n 0, 1) := by decide +kernel
theorem dX7_splitUp_5 : decode cX7_splitUp 5 = .ok (.getfield 33, 3) := by decide +kernel
theorem dX7_splitUp_8 : decode cX7_splitUp 8 = .ok (.aload_n 0, 1) := by decide +kernel
theorem dX7_splitUp_9 : decode cX7_splitUp 9 = .ok (.getfield 10, 3) := by decide +kernel
theorem dX7_splitUp_12 : decode cX7_splitUp 12 = .ok (.aload_n 0, 1) := by decide +kernel
theorem dX7_splitUp_13 : decode cX7_splitUp 13 = .ok (.getfield 26, 3) := by decide +kernel
theorem dX7_splitUp_16 : decode cX7_splitUp 16 = .ok (.invokevirtual 286, 3) := by decide +kernel
theorem dX7_splitUp_19 : decode cX7_splitUp 19 = .ok (.return_, 1) := by decide +kernel
theorem dX7_openWays_0 : decode cX7_openWays 0 = .ok (.aload_n 0, 1) := by decide +kernel
theorem dX7_openWays_1 : decode cX7_openWays 1 = .ok (.invokevirtual 172, 3) := by decide +kernel
theorem dX7_openWays_4 : decode cX7_openWays 4 = .ok (.aload_n 0, 1) := by decide +kernel
theorem dX7_openWays_5 : decode cX7_openWays 5 = .ok (.getfield 26, 3) := by decide +kernel
theorem dX7_openWays_8 : decode cX7_openWays 8 = .ok (.getfield 289, 3) := by decide +kernel
theorem dX7_openWays_11 : decode cX7_openWays 11 = .ok (.iload_n 1, 1) := by decide +kernel
theorem dX7_openWays_12 : decode cX7_openWays 12 = .ok (.iaload, 1) := by decide +kernel
theorem dX7_openWays_13 : decode cX7_openWays 13 = .ok (.invokestatic 178, 3) := by decide +kernel
theorem dX7_openWays_16 : decode cX7_openWays 16 = .ok (.ireturn, 1) := by decide +kernel
theorem dX7_musts_0 : decode cX7_musts 0 = .ok (.iconst 0, 1) := by decide +kernel
theorem dX7_musts_1 : decode cX7_musts 1 = .ok (.istore_n 1, 1) := by decide +kernel
theorem dX7_musts_2 : decode cX7_musts 2 = .ok (.iconst 0, 1) := by decide +kernel
theorem dX7_musts_3 : decode cX7_musts 3 = .ok (.istore_n 2, 1) := by decide +kernel
theorem dX7_musts_4 : decode cX7_musts 4 = .ok (.iload_n 2, 1) := by decide +kernel
theorem dX7_musts_5 : decode cX7_musts 5 = .ok (.aload_n 0, 1) := by decide +kernel
theorem dX7_musts_6 : decode cX7_musts 6 = .ok (.getfield 10, 3) := by decide +kernel
theorem dX7_musts_9 : decode cX7_musts 9 = .ok (.getfield 76, 3) := by decide +kernel
theorem dX7_musts_12 : decode cX7_musts 12 = .ok (.if_icmp .ge 33, 3) := by decide +kernel
theorem dX7_musts_15 : decode cX7_musts 15 = .ok (.iload_n 1, 1) := by decide +kernel
theorem dX7_musts_16 : decode cX7_musts 16 = .ok (.aload_n 0, 1) := by decide +kernel
theorem dX7_musts_17 : decode cX7_musts 17 = .ok (.getfield 10, 3) := by decide +kernel
theorem dX7_musts_20 : decode cX7_musts 20 = .ok (.getfield 116, 3) := by decide +kernel
theorem dX7_musts_23 : decode cX7_musts 23 = .ok (.iload_n 2, 1) := by decide +kernel
theorem dX7_musts_24 : decode cX7_musts 24 = .ok (.iaload, 1) := by decide +kernel
theorem dX7_musts_25 : decode cX7_musts 25 = .ok (.iconst 3, 1) := by decide +kernel
theorem dX7_musts_26 : decode cX7_musts 26 = .ok (.if_icmp .ne 7, 3) := by decide +kernel
theorem dX7_musts_29 : decode cX7_musts 29 = .ok (.iconst 1, 1) := by decide +kernel
theorem dX7_musts_30 : decode cX7_musts 30 = .ok (.goto 4, 3) := by decide +kernel
theorem dX7_musts_33 : decode cX7_musts 33 = .ok (.iconst 0, 1) := by decide +kernel
theorem dX7_musts_34 : decode cX7_musts 34 = .ok (.invokestatic 135, 3) := by decide +kernel
theorem dX7_musts_37 : decode cX7_musts 37 = .ok (.iadd, 1) := by decide +kernel
theorem dX7_musts_38 : decode cX7_musts 38 = .ok (.istore_n 1, 1) := by decide +kernel
theorem dX7_musts_39 : decode cX7_musts 39 = .ok (.iinc 2 1, 3) := by decide +kernel
theorem dX7_musts_42 : decode cX7_musts 42 = .ok (.goto (-38), 3) := by decide +kernel
theorem dX7_musts_45 : decode cX7_musts 45 = .ok (.iload_n 1, 1) := by decide +kernel
theorem dX7_musts_46 : decode cX7_musts 46 = .ok (.ireturn, 1) := by decide +kernel
theorem dX7_leftInHand_0 : decode cX7_leftInHand 0 = .ok (.iconst 0, 1) := by decide +kernel
theorem dX7_leftInHand_1 : decode cX7_leftInHand 1 = .ok (.istore_n 1, 1) := by decide +kernel
theorem dX7_leftInHand_2 : decode cX7_leftInHand 2 = .ok (.iconst 0, 1) := by decide +kernel
theorem dX7_leftInHand_3 : decode cX7_leftInHand 3 = .ok (.istore_n 2, 1) := by decide +kernel
theorem dX7_leftInHand_4 : decode cX7_leftInHand 4 = .ok (.iload_n 2, 1) := by decide +kernel
theorem dX7_leftInHand_5 : decode cX7_leftInHand 5 = .ok (.aload_n 0, 1) := by decide +kernel
theorem dX7_leftInHand_6 : decode cX7_leftInHand 6 = .ok (.getfield 10, 3) := by decide +kernel
theorem dX7_leftInHand_9 : decode cX7_leftInHand 9 = .ok (.getfield 76, 3) := by decide +kernel
theorem dX7_leftInHand_12 : decode cX7_leftInHand 12 = .ok (.if_icmp .ge 33, 3) := by decide +kernel
theorem dX7_leftInHand_15 : decode cX7_leftInHand 15 = .ok (.iload_n 1, 1) := by decide +kernel
theorem dX7_leftInHand_16 : decode cX7_leftInHand 16 = .ok (.aload_n 0, 1) := by decide +kernel
theorem dX7_leftInHand_17 : decode cX7_leftInHand 17 = .ok (.getfield 10, 3) := by decide +kernel
theorem dX7_leftInHand_20 : decode cX7_leftInHand 20 = .ok (.getfield 190, 3) := by decide +kernel
theorem dX7_leftInHand_23 : decode cX7_leftInHand 23 = .ok (.iload_n 2, 1) := by decide +kernel
theorem dX7_leftInHand_24 : decode cX7_leftInHand 24 = .ok (.iaload, 1) := by decide +kernel
theorem dX7_leftInHand_25 : decode cX7_leftInHand 25 = .ok (.iconst (-1), 1) := by decide +kernel
theorem dX7_leftInHand_26 : decode cX7_leftInHand 26 = .ok (.if_icmp .ne 7, 3) := by decide +kernel
theorem dX7_leftInHand_29 : decode cX7_leftInHand 29 = .ok (.iconst 1, 1) := by decide +kernel
theorem dX7_leftInHand_30 : decode cX7_leftInHand 30 = .ok (.goto 4, 3) := by decide +kernel
theorem dX7_leftInHand_33 : decode cX7_leftInHand 33 = .ok (.iconst 0, 1) := by decide +kernel
theorem dX7_leftInHand_34 : decode cX7_leftInHand 34 = .ok (.invokestatic 135, 3) := by decide +kernel
theorem dX7_leftInHand_37 : decode cX7_leftInHand 37 = .ok (.iadd, 1) := by decide +kernel
theorem dX7_leftInHand_38 : decode cX7_leftInHand 38 = .ok (.istore_n 1, 1) := by decide +kernel
theorem dX7_leftInHand_39 : decode cX7_leftInHand 39 = .ok (.iinc 2 1, 3) := by decide +kernel
theorem dX7_leftInHand_42 : decode cX7_leftInHand 42 = .ok (.goto (-38), 3) := by decide +kernel
theorem dX7_leftInHand_45 : decode cX7_leftInHand 45 = .ok (.iload_n 1, 1) := by decide +kernel
theorem dX7_leftInHand_46 : decode cX7_leftInHand 46 = .ok (.ireturn, 1) := by decide +kernel
theorem dX7_takeInHand_0 : decode cX7_takeInHand 0 = .ok (.aload_n 0, 1) := by decide +kernel
theorem dX7_takeInHand_1 : decode cX7_takeInHand 1 = .ok (.getfield 19, 3) := by decide +kernel
theorem dX7_takeInHand_4 : decode cX7_takeInHand 4 = .ok (.aload_n 0, 1) := by decide +kernel
theorem dX7_takeInHand_5 : decode cX7_takeInHand 5 = .ok (.getfield 10, 3) := by decide +kernel
theorem dX7_takeInHand_8 : decode cX7_takeInHand 8 = .ok (.invokevirtual 186, 3) := by decide +kernel
theorem dX7_takeInHand_11 : decode cX7_takeInHand 11 = .ok (.aload_n 0, 1) := by decide +kernel
theorem dX7_takeInHand_12 : decode cX7_takeInHand 12 = .ok (.getfield 61, 3) := by decide +kernel
theorem dX7_takeInHand_15 : decode cX7_takeInHand 15 = .ok (.iconst 0, 1) := by decide +kernel
theorem dX7_takeInHand_16 : decode cX7_takeInHand 16 = .ok (.aload_n 0, 1) := by decide +kernel
theorem dX7_takeInHand_17 : decode cX7_takeInHand 17 = .ok (.getfield 10, 3) := by decide +kernel
theorem dX7_takeInHand_20 : decode cX7_takeInHand 20 = .ok (.getfield 190, 3) := by decide +kernel
theorem dX7_takeInHand_23 : decode cX7_takeInHand 23 = .ok (.iconst 0, 1) := by decide +kernel
theorem dX7_takeInHand_24 : decode cX7_takeInHand 24 = .ok (.aload_n 0, 1) := by decide +kernel
theorem dX7_takeInHand_25 : decode cX7_takeInHand 25 = .ok (.getfield 10, 3) := by decide +kernel
theorem dX7_takeInHand_28 : decode cX7_takeInHand 28 = .ok (.getfield 76, 3) := by decide +kernel
theorem dX7_takeInHand_31 : decode cX7_takeInHand 31 = .ok (.invokestatic 292, 3) := by decide +kernel
theorem dX7_takeInHand_34 : decode cX7_takeInHand 34 = .ok (.return_, 1) := by decide +kernel
theorem dX7_firstShut_0 : decode cX7_firstShut 0 = .ok (.iconst 0, 1) := by decide +kernel
theorem dX7_firstShut_1 : decode cX7_firstShut 1 = .ok (.istore_n 1, 1) := by decide +kernel
theorem dX7_firstShut_2 : decode cX7_firstShut 2 = .ok (.iload_n 1, 1) := by decide +kernel
theorem dX7_firstShut_3 : decode cX7_firstShut 3 = .ok (.aload_n 0, 1) := by decide +kernel
theorem dX7_firstShut_4 : decode cX7_firstShut 4 = .ok (.getfield 10, 3) := by decide +kernel
theorem dX7_firstShut_7 : decode cX7_firstShut 7 = .ok (.getfield 76, 3) := by decide +kernel
theorem dX7_firstShut_10 : decode cX7_firstShut 10 = .ok (.if_icmp .ge 44, 3) := by decide +kernel
theorem dX7_firstShut_13 : decode cX7_firstShut 13 = .ok (.aload_n 0, 1) := by decide +kernel
theorem dX7_firstShut_14 : decode cX7_firstShut 14 = .ok (.getfield 10, 3) := by decide +kernel
theorem dX7_firstShut_17 : decode cX7_firstShut 17 = .ok (.getfield 190, 3) := by decide +kernel
theorem dX7_firstShut_20 : decode cX7_firstShut 20 = .ok (.iload_n 1, 1) := by decide +kernel
theorem dX7_firstShut_21 : decode cX7_firstShut 21 = .ok (.iaload, 1) := by decide +kernel
theorem dX7_firstShut_22 : decode cX7_firstShut 22 = .ok (.iconst (-1), 1) := by decide +kernel
theorem dX7_firstShut_23 : decode cX7_firstShut 23 = .ok (.if_icmp .eq 25, 3) := by decide +kernel
theorem dX7_firstShut_26 : decode cX7_firstShut 26 = .ok (.aload_n 0, 1) := by decide +kernel
theorem dX7_firstShut_27 : decode cX7_firstShut 27 = .ok (.getfield 26, 3) := by decide +kernel
theorem dX7_firstShut_30 : decode cX7_firstShut 30 = .ok (.iload_n 1, 1) := by decide +kernel
theorem dX7_firstShut_31 : decode cX7_firstShut 31 = .ok (.aload_n 0, 1) := by decide +kernel
theorem dX7_firstShut_32 : decode cX7_firstShut 32 = .ok (.getfield 10, 3) := by decide +kernel
theorem dX7_firstShut_35 : decode cX7_firstShut 35 = .ok (.getfield 190, 3) := by decide +kernel
theorem dX7_firstShut_38 : decode cX7_firstShut 38 = .ok (.iload_n 1, 1) := by decide +kernel
theorem dX7_firstShut_39 : decode cX7_firstShut 39 = .ok (.iaload, 1) := by decide +kernel
theorem dX7_firstShut_40 : decode cX7_firstShut 40 = .ok (.invokevirtual 298, 3) := by decide +kernel
theorem dX7_firstShut_43 : decode cX7_firstShut 43 = .ok (.ifCond .ne 5, 3) := by decide +kernel
theorem dX7_firstShut_46 : decode cX7_firstShut 46 = .ok (.iload_n 1, 1) := by decide +kernel
theorem dX7_firstShut_47 : decode cX7_firstShut 47 = .ok (.ireturn, 1) := by decide +kernel
theorem dX7_firstShut_48 : decode cX7_firstShut 48 = .ok (.iinc 1 1, 3) := by decide +kernel
theorem dX7_firstShut_51 : decode cX7_firstShut 51 = .ok (.goto (-49), 3) := by decide +kernel
theorem dX7_firstShut_54 : decode cX7_firstShut 54 = .ok (.iconst (-1), 1) := by decide +kernel
theorem dX7_firstShut_55 : decode cX7_firstShut 55 = .ok (.ireturn, 1) := by decide +kernel
theorem dX7_firstClashing_0 : decode cX7_firstClashing 0 = .ok (.iconst 0, 1) := by decide +kernel
theorem dX7_firstClashing_1 : decode cX7_firstClashing 1 = .ok (.istore_n 1, 1) := by decide +kernel
theorem dX7_firstClashing_2 : decode cX7_firstClashing 2 = .ok (.iload_n 1, 1) := by decide +kernel
theorem dX7_firstClashing_3 : decode cX7_firstClashing 3 = .ok (.aload_n 0, 1) := by decide +kernel
theorem dX7_firstClashing_4 : decode cX7_firstClashing 4 = .ok (.getfield 10, 3) := by decide +kernel
theorem dX7_firstClashing_7 : decode cX7_firstClashing 7 = .ok (.getfield 76, 3) := by decide +kernel
theorem dX7_firstClashing_10 : decode cX7_firstClashing 10 = .ok (.if_icmp .ge 49, 3) := by decide +kernel
theorem dX7_firstClashing_13 : decode cX7_firstClashing 13 = .ok (.aload_n 0, 1) := by decide +kernel
theorem dX7_firstClashing_14 : decode cX7_firstClashing 14 = .ok (.getfield 10, 3) := by decide +kernel
theorem dX7_firstClashing_17 : decode cX7_firstClashing 17 = .ok (.getfield 190, 3) := by decide +kernel
theorem dX7_firstClashing_20 : decode cX7_firstClashing 20 = .ok (.iload_n 1, 1) := by decide +kernel
theorem dX7_firstClashing_21 : decode cX7_firstClashing 21 = .ok (.iaload, 1) := by decide +kernel
theorem dX7_firstClashing_22 : decode cX7_firstClashing 22 = .ok (.iconst (-1), 1) := by decide +kernel
theorem dX7_firstClashing_23 : decode cX7_firstClashing 23 = .ok (.if_icmp .eq 30, 3) := by decide +kernel
theorem dX7_firstClashing_26 : decode cX7_firstClashing 26 = .ok (.aload_n 0, 1) := by decide +kernel
theorem dX7_firstClashing_27 : decode cX7_firstClashing 27 = .ok (.iload_n 1, 1) := by decide +kernel
theorem dX7_firstClashing_28 : decode cX7_firstClashing 28 = .ok (.aload_n 0, 1) := by decide +kernel
theorem dX7_firstClashing_29 : decode cX7_firstClashing 29 = .ok (.getfield 10, 3) := by decide +kernel
theorem dX7_firstClashing_32 : decode cX7_firstClashing 32 = .ok (.getfield 190, 3) := by decide +kernel
theorem dX7_firstClashing_35 : decode cX7_firstClashing 35 = .ok (.iload_n 1, 1) := by decide +kernel
theorem dX7_firstClashing_36 : decode cX7_firstClashing 36 = .ok (.iaload, 1) := by decide +kernel
theorem dX7_firstClashing_37 : decode cX7_firstClashing 37 = .ok (.aload_n 0, 1) := by decide +kernel
theorem dX7_firstClashing_38 : decode cX7_firstClashing 38 = .ok (.getfield 10, 3) := by decide +kernel
theorem dX7_firstClashing_41 : decode cX7_firstClashing 41 = .ok (.getfield 190, 3) := by decide +kernel
theorem dX7_firstClashing_44 : decode cX7_firstClashing 44 = .ok (.invokevirtual 240, 3) := by decide +kernel
theorem dX7_firstClashing_47 : decode cX7_firstClashing 47 = .ok (.iconst (-1), 1) := by decide +kernel
theorem dX7_firstClashing_48 : decode cX7_firstClashing 48 = .ok (.if_icmp .eq 5, 3) := by decide +kernel
theorem dX7_firstClashing_51 : decode cX7_firstClashing 51 = .ok (.iload_n 1, 1) := by decide +kernel
theorem dX7_firstClashing_52 : decode cX7_firstClashing 52 = .ok (.ireturn, 1) := by decide +kernel
theorem dX7_firstClashing_53 : decode cX7_firstClashing 53 = .ok (.iinc 1 1, 3) := by decide +kernel
theorem dX7_firstClashing_56 : decode cX7_firstClashing 56 = .ok (.goto (-54), 3) := by decide +kernel
theorem dX7_firstClashing_59 : decode cX7_firstClashing 59 = .ok (.iconst (-1), 1) := by decide +kernel
theorem dX7_firstClashing_60 : decode cX7_firstClashing 60 = .ok (.ireturn, 1) := by decide +kernel
theorem dX7_firstMissing_0 : decode cX7_firstMissing 0 = .ok (.iconst 0, 1) := by decide +kernel
theorem dX7_firstMissing_1 : decode cX7_firstMissing 1 = .ok (.istore_n 1, 1) := by decide +kernel
theorem dX7_firstMissing_2 : decode cX7_firstMissing 2 = .ok (.iload_n 1, 1) := by decide +kernel
theorem dX7_firstMissing_3 : decode cX7_firstMissing 3 = .ok (.aload_n 0, 1) := by decide +kernel
theorem dX7_firstMissing_4 : decode cX7_firstMissing 4 = .ok (.getfield 10, 3) := by decide +kernel
theorem dX7_firstMissing_7 : decode cX7_firstMissing 7 = .ok (.getfield 76, 3) := by decide +kernel
theorem dX7_firstMissing_10 : decode cX7_firstMissing 10 = .ok (.if_icmp .ge 37, 3) := by decide +kernel
theorem dX7_firstMissing_13 : decode cX7_firstMissing 13 = .ok (.aload_n 0, 1) := by decide +kernel
theorem dX7_firstMissing_14 : decode cX7_firstMissing 14 = .ok (.getfield 10, 3) := by decide +kernel
theorem dX7_firstMissing_17 : decode cX7_firstMissing 17 = .ok (.getfield 116, 3) := by decide +kernel
theorem dX7_firstMissing_20 : decode cX7_firstMissing 20 = .ok (.iload_n 1, 1) := by decide +kernel
theorem dX7_firstMissing_21 : decode cX7_firstMissing 21 = .ok (.iaload, 1) := by decide +kernel
theorem dX7_firstMissing_22 : decode cX7_firstMissing 22 = .ok (.iconst 3, 1) := by decide +kernel
theorem dX7_firstMissing_23 : decode cX7_firstMissing 23 = .ok (.if_icmp .ne 18, 3) := by decide +kernel
theorem dX7_firstMissing_26 : decode cX7_firstMissing 26 = .ok (.aload_n 0, 1) := by decide +kernel
theorem dX7_firstMissing_27 : decode cX7_firstMissing 27 = .ok (.getfield 10, 3) := by decide +kernel
theorem dX7_firstMissing_30 : decode cX7_firstMissing 30 = .ok (.getfield 190, 3) := by decide +kernel
theorem dX7_firstMissing_33 : decode cX7_firstMissing 33 = .ok (.iload_n 1, 1) := by decide +kernel
theorem dX7_firstMissing_34 : decode cX7_firstMissing 34 = .ok (.iaload, 1) := by decide +kernel
theorem dX7_firstMissing_35 : decode cX7_firstMissing 35 = .ok (.iconst (-1), 1) := by decide +kernel
theorem dX7_firstMissing_36 : decode cX7_firstMissing 36 = .ok (.if_icmp .ne 5, 3) := by decide +kernel
theorem dX7_firstMissing_39 : decode cX7_firstMissing 39 = .ok (.iload_n 1, 1) := by decide +kernel
theorem dX7_firstMissing_40 : decode cX7_firstMissing 40 = .ok (.ireturn, 1) := by decide +kernel
theorem dX7_firstMissing_41 : decode cX7_firstMissing 41 = .ok (.iinc 1 1, 3) := by decide +kernel
theorem dX7_firstMissing_44 : decode cX7_firstMissing 44 = .ok (.goto (-42), 3) := by decide +kernel
theorem dX7_firstMissing_47 : decode cX7_firstMissing 47 = .ok (.iconst (-1), 1) := by decide +kernel
theorem dX7_firstMissing_48 : decode cX7_firstMissing 48 = .ok (.ireturn, 1) := by decide +kernel
theorem dX7_firstHit_0 : decode cX7_firstHit 0 = .ok (.aload_n 0, 1) := by decide +kernel
theorem dX7_firstHit_1 : decode cX7_firstHit 1 = .ok (.getfield 26, 3) := by decide +kernel
theorem dX7_firstHit_4 : decode cX7_firstHit 4 = .ok (.iload_n 1, 1) := by decide +kernel
theorem dX7_firstHit_5 : decode cX7_firstHit 5 = .ok (.iload_n 2, 1) := by decide +kernel
theorem dX7_firstHit_6 : decode cX7_firstHit 6 = .ok (.invokevirtual 256, 3) := by decide +kernel
theorem dX7_firstHit_9 : decode cX7_firstHit 9 = .ok (.astore 4, 2) := by decide +kernel
theorem dX7_firstHit_11 : decode cX7_firstHit 11 = .ok (.iconst 0, 1) := by decide +kernel
theorem dX7_firstHit_12 : decode cX7_firstHit 12 = .ok (.istore 5, 2) := by decide +kernel
theorem dX7_firstHit_14 : decode cX7_firstHit 14 = .ok (.iload 5, 2) := by decide +kernel
theorem dX7_firstHit_16 : decode cX7_firstHit 16 = .ok (.aload_n 0, 1) := by decide +kernel
theorem dX7_firstHit_17 : decode cX7_firstHit 17 = .ok (.getfield 10, 3) := by decide +kernel
theorem dX7_firstHit_20 : decode cX7_firstHit 20 = .ok (.getfield 76, 3) := by decide +kernel
theorem dX7_firstHit_23 : decode cX7_firstHit 23 = .ok (.if_icmp .ge 47, 3) := by decide +kernel
theorem dX7_firstHit_26 : decode cX7_firstHit 26 = .ok (.iload 5, 2) := by decide +kernel
theorem dX7_firstHit_28 : decode cX7_firstHit 28 = .ok (.iload_n 1, 1) := by decide +kernel
theorem dX7_firstHit_29 : decode cX7_firstHit 29 = .ok (.if_icmp .eq 35, 3) := by decide +kernel
theorem dX7_firstHit_32 : decode cX7_firstHit 32 = .ok (.aload_n 3, 1) := by decide +kernel
theorem dX7_firstHit_33 : decode cX7_firstHit 33 = .ok (.iload 5, 2) := by decide +kernel
theorem dX7_firstHit_35 : decode cX7_firstHit 35 = .ok (.iaload, 1) := by decide +kernel
theorem dX7_firstHit_36 : decode cX7_firstHit 36 = .ok (.iconst (-1), 1) := by decide +kernel
theorem dX7_firstHit_37 : decode cX7_firstHit 37 = .ok (.if_icmp .eq 27, 3) := by decide +kernel
theorem dX7_firstHit_40 : decode cX7_firstHit 40 = .ok (.aload 4, 2) := by decide +kernel
theorem dX7_firstHit_42 : decode cX7_firstHit 42 = .ok (.aload_n 0, 1) := by decide +kernel
theorem dX7_firstHit_43 : decode cX7_firstHit 43 = .ok (.getfield 26, 3) := by decide +kernel
theorem dX7_firstHit_46 : decode cX7_firstHit 46 = .ok (.iload 5, 2) := by decide +kernel
theorem dX7_firstHit_48 : decode cX7_firstHit 48 = .ok (.aload_n 3, 1) := by decide +kernel
theorem dX7_firstHit_49 : decode cX7_firstHit 49 = .ok (.iload 5, 2) := by decide +kernel
theorem dX7_firstHit_51 : decode cX7_firstHit 51 = .ok (.iaload, 1) := by decide +kernel
theorem dX7_firstHit_52 : decode cX7_firstHit 52 = .ok (.invokevirtual 256, 3) := by decide +kernel
theorem dX7_firstHit_55 : decode cX7_firstHit 55 = .ok (.invokevirtual 168, 3) := by decide +kernel
theorem dX7_firstHit_58 : decode cX7_firstHit 58 = .ok (.ifCond .eq 6, 3) := by decide +kernel
theorem dX7_firstHit_61 : decode cX7_firstHit 61 = .ok (.iload 5, 2) := by decide +kernel
theorem dX7_firstHit_63 : decode cX7_firstHit 63 = .ok (.ireturn, 1) := by decide +kernel
theorem dX7_firstHit_64 : decode cX7_firstHit 64 = .ok (.iinc 5 1, 3) := by decide +kernel
theorem dX7_firstHit_67 : decode cX7_firstHit 67 = .ok (.goto (-53), 3) := by decide +kernel
theorem dX7_firstHit_70 : decode cX7_firstHit 70 = .ok (.iconst (-1), 1) := by decide +kernel
theorem dX7_firstHit_71 : decode cX7_firstHit 71 = .ok (.ireturn, 1) := by decide +kernel
theorem dX7_cheapestWay_0 : decode cX7_cheapestWay 0 = .ok (.iconst 0, 1) := by decide +kernel
theorem dX7_cheapestWay_1 : decode cX7_cheapestWay 1 = .ok (.istore_n 3, 1) := by decide +kernel
theorem dX7_cheapestWay_2 : decode cX7_cheapestWay 2 = .ok (.iload_n 3, 1) := by decide +kernel
theorem dX7_cheapestWay_3 : decode cX7_cheapestWay 3 = .ok (.aload_n 0, 1) := by decide +kernel
theorem dX7_cheapestWay_4 : decode cX7_cheapestWay 4 = .ok (.getfield 10, 3) := by decide +kernel
theorem dX7_cheapestWay_7 : decode cX7_cheapestWay 7 = .ok (.iload_n 1, 1) := by decide +kernel
theorem dX7_cheapestWay_8 : decode cX7_cheapestWay 8 = .ok (.invokevirtual 119, 3) := by decide +kernel
theorem dX7_cheapestWay_11 : decode cX7_cheapestWay 11 = .ok (.if_icmp .ge 48, 3) := by decide +kernel
theorem dX7_cheapestWay_14 : decode cX7_cheapestWay 14 = .ok (.aload_n 0, 1) := by decide +kernel
theorem dX7_cheapestWay_15 : decode cX7_cheapestWay 15 = .ok (.getfield 10, 3) := by decide +kernel
theorem dX7_cheapestWay_18 : decode cX7_cheapestWay 18 = .ok (.iload_n 1, 1) := by decide +kernel
theorem dX7_cheapestWay_19 : decode cX7_cheapestWay 19 = .ok (.iload_n 3, 1) := by decide +kernel
theorem dX7_cheapestWay_20 : decode cX7_cheapestWay 20 = .ok (.invokevirtual 300, 3) := by decide +kernel
theorem dX7_cheapestWay_23 : decode cX7_cheapestWay 23 = .ok (.istore 4, 2) := by decide +kernel
theorem dX7_cheapestWay_25 : decode cX7_cheapestWay 25 = .ok (.aload_n 0, 1) := by decide +kernel
theorem dX7_cheapestWay_26 : decode cX7_cheapestWay 26 = .ok (.getfield 26, 3) := by decide +kernel
theorem dX7_cheapestWay_29 : decode cX7_cheapestWay 29 = .ok (.iload_n 1, 1) := by decide +kernel
theorem dX7_cheapestWay_30 : decode cX7_cheapestWay 30 = .ok (.iload 4, 2) := by decide +kernel
theorem dX7_cheapestWay_32 : decode cX7_cheapestWay 32 = .ok (.invokevirtual 298, 3) := by decide +kernel
theorem dX7_cheapestWay_35 : decode cX7_cheapestWay 35 = .ok (.ifCond .eq 18, 3) := by decide +kernel
theorem dX7_cheapestWay_38 : decode cX7_cheapestWay 38 = .ok (.aload_n 0, 1) := by decide +kernel
theorem dX7_cheapestWay_39 : decode cX7_cheapestWay 39 = .ok (.iload_n 1, 1) := by decide +kernel
theorem dX7_cheapestWay_40 : decode cX7_cheapestWay 40 = .ok (.iload 4, 2) := by decide +kernel
theorem dX7_cheapestWay_42 : decode cX7_cheapestWay 42 = .ok (.aload_n 2, 1) := by decide +kernel
theorem dX7_cheapestWay_43 : decode cX7_cheapestWay 43 = .ok (.invokevirtual 240, 3) := by decide +kernel
theorem dX7_cheapestWay_46 : decode cX7_cheapestWay 46 = .ok (.iconst (-1), 1) := by decide +kernel
theorem dX7_cheapestWay_47 : decode cX7_cheapestWay 47 = .ok (.if_icmp .ne 6, 3) := by decide +kernel
theorem dX7_cheapestWay_50 : decode cX7_cheapestWay 50 = .ok (.iload 4, 2) := by decide +kernel
theorem dX7_cheapestWay_52 : decode cX7_cheapestWay 52 = .ok (.ireturn, 1) := by decide +kernel
theorem dX7_cheapestWay_53 : decode cX7_cheapestWay 53 = .ok (.iinc 3 1, 3) := by decide +kernel
theorem dX7_cheapestWay_56 : decode cX7_cheapestWay 56 = .ok (.goto (-54), 3) := by decide +kernel
theorem dX7_cheapestWay_59 : decode cX7_cheapestWay 59 = .ok (.iconst (-1), 1) := by decide +kernel
theorem dX7_cheapestWay_60 : decode cX7_cheapestWay 60 = .ok (.ireturn, 1) := by decide +kernel
