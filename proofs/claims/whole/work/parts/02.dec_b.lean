theorem dX2_init_0 : decode cX2_init 0 = .ok (.aload_n 0, 1) := by decide +kernel
theorem dX2_init_1 : decode cX2_init 1 = .ok (.invokespecial 3, 3) := by decide +kernel
theorem dX2_init_4 : decode cX2_init 4 = .ok (.aload_n 0, 1) := by decide +kernel
theorem dX2_init_5 : decode cX2_init 5 = .ok (.bipush 8, 2) := by decide +kernel
theorem dX2_init_7 : decode cX2_init 7 = .ok (.anewarray 9, 3) := by decide +kernel
theorem dX2_init_10 : decode cX2_init 10 = .ok (.putfield 11, 3) := by decide +kernel
theorem dX2_init_13 : decode cX2_init 13 = .ok (.iconst 0, 1) := by decide +kernel
theorem dX2_init_14 : decode cX2_init 14 = .ok (.istore_n 1, 1) := by decide +kernel
theorem dX2_init_15 : decode cX2_init 15 = .ok (.iload_n 1, 1) := by decide +kernel
theorem dX2_init_16 : decode cX2_init 16 = .ok (.bipush 8, 2) := by decide +kernel
theorem dX2_init_18 : decode cX2_init 18 = .ok (.if_icmp .ge 22, 3) := by decide +kernel
theorem dX2_init_21 : decode cX2_init 21 = .ok (.aload_n 0, 1) := by decide +kernel
theorem dX2_init_22 : decode cX2_init 22 = .ok (.getfield 11, 3) := by decide +kernel
theorem dX2_init_25 : decode cX2_init 25 = .ok (.iload_n 1, 1) := by decide +kernel
theorem dX2_init_26 : decode cX2_init 26 = .ok (.new 9, 3) := by decide +kernel
theorem dX2_init_29 : decode cX2_init 29 = .ok (.dup, 1) := by decide +kernel
theorem dX2_init_30 : decode cX2_init 30 = .ok (.invokespecial 17, 3) := by decide +kernel
theorem dX2_init_33 : decode cX2_init 33 = .ok (.aastore, 1) := by decide +kernel
theorem dX2_init_34 : decode cX2_init 34 = .ok (.iinc 1 1, 3) := by decide +kernel
theorem dX2_init_37 : decode cX2_init 37 = .ok (.goto (-22), 3) := by decide +kernel
theorem dX2_init_40 : decode cX2_init 40 = .ok (.return_, 1) := by decide +kernel
theorem dX2_keep_0 : decode cX2_keep 0 = .ok (.aload_n 0, 1) := by decide +kernel
theorem dX2_keep_1 : decode cX2_keep 1 = .ok (.getfield 11, 3) := by decide +kernel
theorem dX2_keep_4 : decode cX2_keep 4 = .ok (.aload_n 0, 1) := by decide +kernel
theorem dX2_keep_5 : decode cX2_keep 5 = .ok (.getfield 18, 3) := by decide +kernel
theorem dX2_keep_8 : decode cX2_keep 8 = .ok (.aaload, 1) := by decide +kernel
theorem dX2_keep_9 : decode cX2_keep 9 = .ok (.aload_n 1, 1) := by decide +kernel
theorem dX2_keep_10 : decode cX2_keep 10 = .ok (.invokevirtual 22, 3) := by decide +kernel
theorem dX2_keep_13 : decode cX2_keep 13 = .ok (.aload_n 0, 1) := by decide +kernel
theorem dX2_keep_14 : decode cX2_keep 14 = .ok (.aload_n 0, 1) := by decide +kernel
theorem dX2_keep_15 : decode cX2_keep 15 = .ok (.getfield 18, 3) := by decide +kernel
theorem dX2_keep_18 : decode cX2_keep 18 = .ok (.iconst 1, 1) := by decide +kernel
theorem dX2_keep_19 : decode cX2_keep 19 = .ok (.iadd, 1) := by decide +kernel
theorem dX2_keep_20 : decode cX2_keep 20 = .ok (.bipush 8, 2) := by decide +kernel
theorem dX2_keep_22 : decode cX2_keep 22 = .ok (.irem, 1) := by decide +kernel
theorem dX2_keep_23 : decode cX2_keep 23 = .ok (.putfield 18, 3) := by decide +kernel
theorem dX2_keep_26 : decode cX2_keep 26 = .ok (.aload_n 0, 1) := by decide +kernel
theorem dX2_keep_27 : decode cX2_keep 27 = .ok (.aload_n 0, 1) := by decide +kernel
theorem dX2_keep_28 : decode cX2_keep 28 = .ok (.getfield 26, 3) := by decide +kernel
theorem dX2_keep_31 : decode cX2_keep 31 = .ok (.iconst 1, 1) := by decide +kernel
theorem dX2_keep_32 : decode cX2_keep 32 = .ok (.iadd, 1) := by decide +kernel
theorem dX2_keep_33 : decode cX2_keep 33 = .ok (.bipush 8, 2) := by decide +kernel
theorem dX2_keep_35 : decode cX2_keep 35 = .ok (.invokestatic 29, 3) := by decide +kernel
theorem dX2_keep_38 : decode cX2_keep 38 = .ok (.putfield 26, 3) := by decide +kernel
theorem dX2_keep_41 : decode cX2_keep 41 = .ok (.return_, 1) := by decide +kernel
theorem dX2_takeBack_0 : decode cX2_takeBack 0 = .ok (.aload_n 0, 1) := by decide +kernel
theorem dX2_takeBack_1 : decode cX2_takeBack 1 = .ok (.aload_n 0, 1) := by decide +kernel
theorem dX2_takeBack_2 : decode cX2_takeBack 2 = .ok (.getfield 18, 3) := by decide +kernel
theorem dX2_takeBack_5 : decode cX2_takeBack 5 = .ok (.bipush 8, 2) := by decide +kernel
theorem dX2_takeBack_7 : decode cX2_takeBack 7 = .ok (.iadd, 1) := by decide +kernel
theorem dX2_takeBack_8 : decode cX2_takeBack 8 = .ok (.iconst 1, 1) := by decide +kernel
theorem dX2_takeBack_9 : decode cX2_takeBack 9 = .ok (.isub, 1) := by decide +kernel
theorem dX2_takeBack_10 : decode cX2_takeBack 10 = .ok (.bipush 8, 2) := by decide +kernel
theorem dX2_takeBack_12 : decode cX2_takeBack 12 = .ok (.irem, 1) := by decide +kernel
theorem dX2_takeBack_13 : decode cX2_takeBack 13 = .ok (.putfield 18, 3) := by decide +kernel
theorem dX2_takeBack_16 : decode cX2_takeBack 16 = .ok (.aload_n 1, 1) := by decide +kernel
theorem dX2_takeBack_17 : decode cX2_takeBack 17 = .ok (.aload_n 0, 1) := by decide +kernel
theorem dX2_takeBack_18 : decode cX2_takeBack 18 = .ok (.getfield 11, 3) := by decide +kernel
theorem dX2_takeBack_21 : decode cX2_takeBack 21 = .ok (.aload_n 0, 1) := by decide +kernel
theorem dX2_takeBack_22 : decode cX2_takeBack 22 = .ok (.getfield 18, 3) := by decide +kernel
theorem dX2_takeBack_25 : decode cX2_takeBack 25 = .ok (.aaload, 1) := by decide +kernel
theorem dX2_takeBack_26 : decode cX2_takeBack 26 = .ok (.invokevirtual 22, 3) := by decide +kernel
theorem dX2_takeBack_29 : decode cX2_takeBack 29 = .ok (.aload_n 0, 1) := by decide +kernel
theorem dX2_takeBack_30 : decode cX2_takeBack 30 = .ok (.dup, 1) := by decide +kernel
theorem dX2_takeBack_31 : decode cX2_takeBack 31 = .ok (.getfield 26, 3) := by decide +kernel
theorem dX2_takeBack_34 : decode cX2_takeBack 34 = .ok (.iconst 1, 1) := by decide +kernel
theorem dX2_takeBack_35 : decode cX2_takeBack 35 = .ok (.isub, 1) := by decide +kernel
theorem dX2_takeBack_36 : decode cX2_takeBack 36 = .ok (.putfield 26, 3) := by decide +kernel
theorem dX2_takeBack_39 : decode cX2_takeBack 39 = .ok (.return_, 1) := by decide +kernel
theorem dX3_init_0 : decode cX3_init 0 = .ok (.aload_n 0, 1) := by decide +kernel
theorem dX3_init_1 : decode cX3_init 1 = .ok (.invokespecial 3, 3) := by decide +kernel
theorem dX3_init_4 : decode cX3_init 4 = .ok (.aload_n 0, 1) := by decide +kernel
theorem dX3_init_5 : decode cX3_init 5 = .ok (.sipush 384, 3) := by decide +kernel
theorem dX3_init_8 : decode cX3_init 8 = .ok (.anewarray 9, 3) := by decide +kernel
theorem dX3_init_11 : decode cX3_init 11 = .ok (.putfield 11, 3) := by decide +kernel
theorem dX3_init_14 : decode cX3_init 14 = .ok (.aload_n 0, 1) := by decide +kernel
theorem dX3_init_15 : decode cX3_init 15 = .ok (.bipush 24, 2) := by decide +kernel
theorem dX3_init_17 : decode cX3_init 17 = .ok (.newarray .int, 2) := by decide +kernel
theorem dX3_init_19 : decode cX3_init 19 = .ok (.putfield 17, 3) := by decide +kernel
theorem dX3_init_22 : decode cX3_init 22 = .ok (.iconst 0, 1) := by decide +kernel
theorem dX3_init_23 : decode cX3_init 23 = .ok (.istore_n 1, 1) := by decide +kernel
theorem dX3_init_24 : decode cX3_init 24 = .ok (.iload_n 1, 1) := by decide +kernel
theorem dX3_init_25 : decode cX3_init 25 = .ok (.aload_n 0, 1) := by decide +kernel
theorem dX3_init_26 : decode cX3_init 26 = .ok (.getfield 11, 3) := by decide +kernel
theorem dX3_init_29 : decode cX3_init 29 = .ok (.arraylength, 1) := by decide +kernel
theorem dX3_init_30 : decode cX3_init 30 = .ok (.if_icmp .ge 22, 3) := by decide +kernel
theorem dX3_init_33 : decode cX3_init 33 = .ok (.aload_n 0, 1) := by decide +kernel
theorem dX3_init_34 : decode cX3_init 34 = .ok (.getfield 11, 3) := by decide +kernel
theorem dX3_init_37 : decode cX3_init 37 = .ok (.iload_n 1, 1) := by decide +kernel
theorem dX3_init_38 : decode cX3_init 38 = .ok (.new 9, 3) := by decide +kernel
theorem dX3_init_41 : decode cX3_init 41 = .ok (.dup, 1) := by decide +kernel
theorem dX3_init_42 : decode cX3_init 42 = .ok (.invokespecial 21, 3) := by decide +kernel
theorem dX3_init_45 : decode cX3_init 45 = .ok (.aastore, 1) := by decide +kernel
theorem dX3_init_46 : decode cX3_init 46 = .ok (.iinc 1 1, 3) := by decide +kernel
theorem dX3_init_49 : decode cX3_init 49 = .ok (.goto (-25), 3) := by decide +kernel
theorem dX3_init_52 : decode cX3_init 52 = .ok (.return_, 1) := by decide +kernel
theorem dX3_refresh_0 : decode cX3_refresh 0 = .ok (.aload_n 0, 1) := by decide +kernel
theorem dX3_refresh_1 : decode cX3_refresh 1 = .ok (.getfield 22, 3) := by decide +kernel
theorem dX3_refresh_4 : decode cX3_refresh 4 = .ok (.ifCond .eq 4, 3) := by decide +kernel
theorem dX3_refresh_7 : decode cX3_refresh 7 = .ok (.return_, 1) := by decide +kernel
theorem dX3_refresh_8 : decode cX3_refresh 8 = .ok (.aload_n 0, 1) := by decide +kernel
theorem dX3_refresh_9 : decode cX3_refresh 9 = .ok (.iconst 1, 1) := by decide +kernel
theorem dX3_refresh_10 : decode cX3_refresh 10 = .ok (.putfield 22, 3) := by decide +kernel
theorem dX3_refresh_13 : decode cX3_refresh 13 = .ok (.iconst 0, 1) := by decide +kernel
theorem dX3_refresh_14 : decode cX3_refresh 14 = .ok (.istore_n 2, 1) := by decide +kernel
theorem dX3_refresh_15 : decode cX3_refresh 15 = .ok (.iload_n 2, 1) := by decide +kernel
theorem dX3_refresh_16 : decode cX3_refresh 16 = .ok (.aload_n 1, 1) := by decide +kernel
theorem dX3_refresh_17 : decode cX3_refresh 17 = .ok (.getfield 26, 3) := by decide +kernel
theorem dX3_refresh_20 : decode cX3_refresh 20 = .ok (.if_icmp .ge 76, 3) := by decide +kernel
theorem dX3_refresh_23 : decode cX3_refresh 23 = .ok (.aload_n 0, 1) := by decide +kernel
theorem dX3_refresh_24 : decode cX3_refresh 24 = .ok (.getfield 17, 3) := by decide +kernel
theorem dX3_refresh_27 : decode cX3_refresh 27 = .ok (.iload_n 2, 1) := by decide +kernel
theorem dX3_refresh_28 : decode cX3_refresh 28 = .ok (.iconst 0, 1) := by decide +kernel
theorem dX3_refresh_29 : decode cX3_refresh 29 = .ok (.iastore, 1) := by decide +kernel
theorem dX3_refresh_30 : decode cX3_refresh 30 = .ok (.iconst 0, 1) := by decide +kernel
theorem dX3_refresh_31 : decode cX3_refresh 31 = .ok (.istore_n 3, 1) := by decide +kernel
theorem dX3_refresh_32 : decode cX3_refresh 32 = .ok (.iload_n 3, 1) := by decide +kernel
theorem dX3_refresh_33 : decode cX3_refresh 33 = .ok (.aload_n 1, 1) := by decide +kernel
theorem dX3_refresh_34 : decode cX3_refresh 34 = .ok (.iload_n 2, 1) := by decide +kernel
theorem dX3_refresh_35 : decode cX3_refresh 35 = .ok (.invokevirtual 32, 3) := by decide +kernel
theorem dX3_refresh_38 : decode cX3_refresh 38 = .ok (.if_icmp .ge 52, 3) := by decide +kernel
theorem dX3_refresh_41 : decode cX3_refresh 41 = .ok (.aload_n 0, 1) := by decide +kernel
theorem dX3_refresh_42 : decode cX3_refresh 42 = .ok (.iload_n 2, 1) := by decide +kernel
theorem dX3_refresh_43 : decode cX3_refresh 43 = .ok (.iload_n 3, 1) := by decide +kernel
theorem dX3_refresh_44 : decode cX3_refresh 44 = .ok (.invokevirtual 36, 3) := by decide +kernel
theorem dX3_refresh_47 : decode cX3_refresh 47 = .ok (.astore 4, 2) := by decide +kernel
theorem dX3_refresh_49 : decode cX3_refresh 49 = .ok (.aload 4, 2) := by decide +kernel
theorem dX3_refresh_51 : decode cX3_refresh 51 = .ok (.aload_n 1, 1) := by decide +kernel
theorem dX3_refresh_52 : decode cX3_refresh 52 = .ok (.iload_n 2, 1) := by decide +kernel
theorem dX3_refresh_53 : decode cX3_refresh 53 = .ok (.iload_n 3, 1) := by decide +kernel
theorem dX3_refresh_54 : decode cX3_refresh 54 = .ok (.iconst 0, 1) := by decide +kernel
theorem dX3_refresh_55 : decode cX3_refresh 55 = .ok (.invokevirtual 40, 3) := by decide +kernel
theorem dX3_refresh_58 : decode cX3_refresh 58 = .ok (.aload_n 0, 1) := by decide +kernel
theorem dX3_refresh_59 : decode cX3_refresh 59 = .ok (.getfield 17, 3) := by decide +kernel
theorem dX3_refresh_62 : decode cX3_refresh 62 = .ok (.iload_n 2, 1) := by decide +kernel
theorem dX3_refresh_63 : decode cX3_refresh 63 = .ok (.dup2, 1) := by decide +kernel
theorem dX3_refresh_64 : decode cX3_refresh 64 = .ok (.iaload, 1) := by decide +kernel
theorem dX3_refresh_65 : decode cX3_refresh 65 = .ok (.aload 4, 2) := by decide +kernel
theorem dX3_refresh_67 : decode cX3_refresh 67 = .ok (.aload_n 1, 1) := by decide +kernel
theorem dX3_refresh_68 : decode cX3_refresh 68 = .ok (.iconst 0, 1) := by decide +kernel
theorem dX3_refresh_69 : decode cX3_refresh 69 = .ok (.invokevirtual 44, 3) := by decide +kernel
theorem dX3_refresh_72 : decode cX3_refresh 72 = .ok (.ifCond .eq 9, 3) := by decide +kernel
theorem dX3_refresh_75 : decode cX3_refresh 75 = .ok (.iconst 1, 1) := by decide +kernel
theorem dX3_refresh_76 : decode cX3_refresh 76 = .ok (.iload_n 3, 1) := by decide +kernel
theorem dX3_refresh_77 : decode cX3_refresh 77 = .ok (.ishl, 1) := by decide +kernel
theorem dX3_refresh_78 : decode cX3_refresh 78 = .ok (.goto 4, 3) := by decide +kernel
theorem dX3_refresh_81 : decode cX3_refresh 81 = .ok (.iconst 0, 1) := by decide +kernel
theorem dX3_refresh_82 : decode cX3_refresh 82 = .ok (.ior, 1) := by decide +kernel
theorem dX3_refresh_83 : decode cX3_refresh 83 = .ok (.iastore, 1) := by decide +kernel
theorem dX3_refresh_84 : decode cX3_refresh 84 = .ok (.iinc 3 1, 3) := by decide +kernel
theorem dX3_refresh_87 : decode cX3_refresh 87 = .ok (.goto (-55), 3) := by decide +kernel
theorem dX3_refresh_90 : decode cX3_refresh 90 = .ok (.iinc 2 1, 3) := by decide +kernel
theorem dX3_refresh_93 : decode cX3_refresh 93 = .ok (.goto (-78), 3) := by decide +kernel
theorem dX3_refresh_96 : decode cX3_refresh 96 = .ok (.return_, 1) := by decide +kernel
theorem dX3_boxOf_0 : decode cX3_boxOf 0 = .ok (.aload_n 0, 1) := by decide +kernel
theorem dX3_boxOf_1 : decode cX3_boxOf 1 = .ok (.getfield 11, 3) := by decide +kernel
theorem dX3_boxOf_4 : decode cX3_boxOf 4 = .ok (.iload_n 1, 1) := by decide +kernel
theorem dX3_boxOf_5 : decode cX3_boxOf 5 = .ok (.bipush 16, 2) := by decide +kernel
theorem dX3_boxOf_7 : decode cX3_boxOf 7 = .ok (.imul, 1) := by decide +kernel
theorem dX3_boxOf_8 : decode cX3_boxOf 8 = .ok (.iload_n 2, 1) := by decide +kernel
theorem dX3_boxOf_9 : decode cX3_boxOf 9 = .ok (.iadd, 1) := by decide +kernel
theorem dX3_boxOf_10 : decode cX3_boxOf 10 = .ok (.aaload, 1) := by decide +kernel
theorem dX3_boxOf_11 : decode cX3_boxOf 11 = .ok (.areturn, 1) := by decide +kernel
theorem dX3_isOpen_0 : decode cX3_isOpen 0 = .ok (.aload_n 0, 1) := by decide +kernel
theorem dX3_isOpen_1 : decode cX3_isOpen 1 = .ok (.getfield 17, 3) := by decide +kernel
theorem dX3_isOpen_4 : decode cX3_isOpen 4 = .ok (.iload_n 1, 1) := by decide +kernel
theorem dX3_isOpen_5 : decode cX3_isOpen 5 = .ok (.iaload, 1) := by decide +kernel
theorem dX3_isOpen_6 : decode cX3_isOpen 6 = .ok (.iload_n 2, 1) := by decide +kernel
theorem dX3_isOpen_7 : decode cX3_isOpen 7 = .ok (.ishr, 1) := by decide +kernel
theorem dX3_isOpen_8 : decode cX3_isOpen 8 = .ok (.iconst 1, 1) := by decide +kernel
theorem dX3_isOpen_9 : decode cX3_isOpen 9 = .ok (.iand, 1) := by decide +kernel
theorem dX3_isOpen_10 : decode cX3_isOpen 10 = .ok (.iconst 1, 1) := by decide +kernel
theorem dX3_isOpen_11 : decode cX3_isOpen 11 = .ok (.if_icmp .ne 7, 3) := by decide +kernel
theorem dX3_isOpen_14 : decode cX3_isOpen 14 = .ok (.iconst 1, 1) := by decide +kernel
theorem dX3_isOpen_15 : decode cX3_isOpen 15 = .ok (.goto 4, 3) := by decide +kernel
theorem dX3_isOpen_18 : decode cX3_isOpen 18 = .ok (.iconst 0, 1) := by decide +kernel
theorem dX3_isOpen_19 : decode cX3_isOpen 19 = .ok (.ireturn, 1) := by decide +kernel
theorem dX3_openHits_0 : decode cX3_openHits 0 = .ok (.aload_n 0, 1) := by decide +kernel
theorem dX3_openHits_1 : decode cX3_openHits 1 = .ok (.iload_n 1, 1) := by decide +kernel
theorem dX3_openHits_2 : decode cX3_openHits 2 = .ok (.iload_n 2, 1) := by decide +kernel
theorem dX3_openHits_3 : decode cX3_openHits 3 = .ok (.invokevirtual 36, 3) := by decide +kernel
theorem dX3_openHits_6 : decode cX3_openHits 6 = .ok (.astore 4, 2) := by decide +kernel
theorem dX3_openHits_8 : decode cX3_openHits 8 = .ok (.iconst 0, 1) := by decide +kernel
theorem dX3_openHits_9 : decode cX3_openHits 9 = .ok (.istore 5, 2) := by decide +kernel
theorem dX3_openHits_11 : decode cX3_openHits 11 = .ok (.iconst 0, 1) := by decide +kernel
theorem dX3_openHits_12 : decode cX3_openHits 12 = .ok (.istore 6, 2) := by decide +kernel
theorem dX3_openHits_14 : decode cX3_openHits 14 = .ok (.iload 6, 2) := by decide +kernel
theorem dX3_openHits_16 : decode cX3_openHits 16 = .ok (.bipush 16, 2) := by decide +kernel
theorem dX3_openHits_18 : decode cX3_openHits 18 = .ok (.if_icmp .ge 43, 3) := by decide +kernel
theorem dX3_openHits_21 : decode cX3_openHits 21 = .ok (.aload_n 0, 1) := by decide +kernel
theorem dX3_openHits_22 : decode cX3_openHits 22 = .ok (.iload_n 3, 1) := by decide +kernel
theorem dX3_openHits_23 : decode cX3_openHits 23 = .ok (.iload 6, 2) := by decide +kernel
theorem dX3_openHits_25 : decode cX3_openHits 25 = .ok (.invokevirtual 48, 3) := by decide +kernel
theorem dX3_openHits_28 : decode cX3_openHits 28 = .ok (.ifCond .eq 27, 3) := by decide +kernel
theorem dX3_openHits_31 : decode cX3_openHits 31 = .ok (.aload 4, 2) := by decide +kernel
theorem dX3_openHits_33 : decode cX3_openHits 33 = .ok (.aload_n 0, 1) := by decide +kernel
theorem dX3_openHits_34 : decode cX3_openHits 34 = .ok (.iload_n 3, 1) := by decide +kernel
theorem dX3_openHits_35 : decode cX3_openHits 35 = .ok (.iload 6, 2) := by decide +kernel
theorem dX3_openHits_37 : decode cX3_openHits 37 = .ok (.invokevirtual 36, 3) := by decide +kernel
theorem dX3_openHits_40 : decode cX3_openHits 40 = .ok (.invokevirtual 51, 3) := by decide +kernel
theorem dX3_openHits_43 : decode cX3_openHits 43 = .ok (.ifCond .eq 12, 3) := by decide +kernel
theorem dX3_openHits_46 : decode cX3_openHits 46 = .ok (.iload 5, 2) := by decide +kernel
theorem dX3_openHits_48 : decode cX3_openHits 48 = .ok (.iconst 1, 1) := by decide +kernel
theorem dX3_openHits_49 : decode cX3_openHits 49 = .ok (.iload 6, 2) := by decide +kernel
theorem dX3_openHits_51 : decode cX3_openHits 51 = .ok (.ishl, 1) := by decide +kernel
theorem dX3_openHits_52 : decode cX3_openHits 52 = .ok (.ior, 1) := by decide +kernel
theorem dX3_openHits_53 : decode cX3_openHits 53 = .ok (.istore 5, 2) := by decide +kernel
theorem dX3_openHits_55 : decode cX3_openHits 55 = .ok (.iinc 6 1, 3) := by decide +kernel
theorem dX3_openHits_58 : decode cX3_openHits 58 = .ok (.goto (-44), 3) := by decide +kernel
theorem dX3_openHits_61 : decode cX3_openHits 61 = .ok (.iload 5, 2) := by decide +kernel
theorem dX3_openHits_63 : decode cX3_openHits 63 = .ok (.ireturn, 1) := by decide +kernel
theorem dX3_openWaysClash_0 : decode cX3_openWaysClash 0 = .ok (.iconst 0, 1) := by decide +kernel
theorem dX3_openWaysClash_1 : decode cX3_openWaysClash 1 = .ok (.istore_n 3, 1) := by decide +kernel
theorem dX3_openWaysClash_2 : decode cX3_openWaysClash 2 = .ok (.iload_n 3, 1) := by decide +kernel
theorem dX3_openWaysClash_3 : decode cX3_openWaysClash 3 = .ok (.bipush 16, 2) := by decide +kernel
theorem dX3_openWaysClash_5 : decode cX3_openWaysClash 5 = .ok (.if_icmp .ge 65, 3) := by decide +kernel
theorem dX3_openWaysClash_8 : decode cX3_openWaysClash 8 = .ok (.iconst 0, 1) := by decide +kernel
theorem dX3_openWaysClash_9 : decode cX3_openWaysClash 9 = .ok (.istore 4, 2) := by decide +kernel
theorem dX3_openWaysClash_11 : decode cX3_openWaysClash 11 = .ok (.iload 4, 2) := by decide +kernel
theorem dX3_openWaysClash_13 : decode cX3_openWaysClash 13 = .ok (.bipush 16, 2) := by decide +kernel
theorem dX3_openWaysClash_15 : decode cX3_openWaysClash 15 = .ok (.if_icmp .ge 49, 3) := by decide +kernel
theorem dX3_openWaysClash_18 : decode cX3_openWaysClash 18 = .ok (.aload_n 0, 1) := by decide +kernel
theorem dX3_openWaysClash_19 : decode cX3_openWaysClash 19 = .ok (.iload_n 1, 1) := by decide +kernel
theorem dX3_openWaysClash_20 : decode cX3_openWaysClash 20 = .ok (.iload_n 3, 1) := by decide +kernel
theorem dX3_openWaysClash_21 : decode cX3_openWaysClash 21 = .ok (.invokevirtual 48, 3) := by decide +kernel
theorem dX3_openWaysClash_24 : decode cX3_openWaysClash 24 = .ok (.ifCond .eq 40, 3) := by decide +kernel
theorem dX3_openWaysClash_27 : decode cX3_openWaysClash 27 = .ok (.aload_n 0, 1) := by decide +kernel
theorem dX3_openWaysClash_28 : decode cX3_openWaysClash 28 = .ok (.iload_n 2, 1) := by decide +kernel
theorem dX3_openWaysClash_29 : decode cX3_openWaysClash 29 = .ok (.iload 4, 2) := by decide +kernel
theorem dX3_openWaysClash_31 : decode cX3_openWaysClash 31 = .ok (.invokevirtual 48, 3) := by decide +kernel
theorem dX3_openWaysClash_34 : decode cX3_openWaysClash 34 = .ok (.ifCond .eq 24, 3) := by decide +kernel
theorem dX3_openWaysClash_37 : decode cX3_openWaysClash 37 = .ok (.aload_n 0, 1) := by decide +kernel
theorem dX3_openWaysClash_38 : decode cX3_openWaysClash 38 = .ok (.iload_n 1, 1) := by decide +kernel
theorem dX3_openWaysClash_39 : decode cX3_openWaysClash 39 = .ok (.iload_n 3, 1) := by decide +kernel
theorem dX3_openWaysClash_40 : decode cX3_openWaysClash 40 = .ok (.invokevirtual 36, 3) := by decide +kernel
theorem dX3_openWaysClash_43 : decode cX3_openWaysClash 43 = .ok (.aload_n 0, 1) := by decide +kernel
theorem dX3_openWaysClash_44 : decode cX3_openWaysClash 44 = .ok (.iload_n 2, 1) := by decide +kernel
theorem dX3_openWaysClash_45 : decode cX3_openWaysClash 45 = .ok (.iload 4, 2) := by decide +kernel
theorem dX3_openWaysClash_47 : decode cX3_openWaysClash 47 = .ok (.invokevirtual 36, 3) := by decide +kernel
theorem dX3_openWaysClash_50 : decode cX3_openWaysClash 50 = .ok (.invokevirtual 51, 3) := by decide +kernel
theorem dX3_openWaysClash_53 : decode cX3_openWaysClash 53 = .ok (.ifCond .eq 5, 3) := by decide +kernel
theorem dX3_openWaysClash_56 : decode cX3_openWaysClash 56 = .ok (.iconst 1, 1) := by decide +kernel
theorem dX3_openWaysClash_57 : decode cX3_openWaysClash 57 = .ok (.ireturn, 1) := by decide +kernel
theorem dX3_openWaysClash_58 : decode cX3_openWaysClash 58 = .ok (.iinc 4 1, 3) := by decide +kernel
theorem dX3_openWaysClash_61 : decode cX3_openWaysClash 61 = .ok (.goto (-50), 3) := by decide +kernel
theorem dX3_openWaysClash_64 : decode cX3_openWaysClash 64 = .ok (.iinc 3 1, 3) := by decide +kernel
theorem dX3_openWaysClash_67 : decode cX3_openWaysClash 67 = .ok (.goto (-65), 3) := by decide +kernel
theorem dX3_openWaysClash_70 : decode cX3_openWaysClash 70 = .ok (.iconst 0, 1) := by decide +kernel
theorem dX3_openWaysClash_71 : decode cX3_openWaysClash 71 = .ok (.ireturn, 1) := by decide +kernel
theorem dX4_init_0 : decode cX4_init 0 = .ok (.aload_n 0, 1) := by decide +kernel
theorem dX4_init_1 : decode cX4_init 1 = .ok (.invokespecial 3, 3) := by decide +kernel
theorem dX4_init_4 : decode cX4_init 4 = .ok (.aload_n 0, 1) := by decide +kernel
theorem dX4_init_5 : decode cX4_init 5 = .ok (.bipush 24, 2) := by decide +kernel
theorem dX4_init_7 : decode cX4_init 7 = .ok (.newarray .int, 2) := by decide +kernel
theorem dX4_init_9 : decode cX4_init 9 = .ok (.putfield 9, 3) := by decide +kernel
theorem dX4_init_12 : decode cX4_init 12 = .ok (.aload_n 0, 1) := by decide +kernel
theorem dX4_init_13 : decode cX4_init 13 = .ok (.bipush 24, 2) := by decide +kernel
theorem dX4_init_15 : decode cX4_init 15 = .ok (.newarray .int, 2) := by decide +kernel
theorem dX4_init_17 : decode cX4_init 17 = .ok (.putfield 15, 3) := by decide +kernel
theorem dX4_init_20 : decode cX4_init 20 = .ok (.return_, 1) := by decide +kernel
theorem dX4_refresh_0 : decode cX4_refresh 0 = .ok (.aload_n 0, 1) := by decide +kernel
theorem dX4_refresh_1 : decode cX4_refresh 1 = .ok (.getfield 18, 3) := by decide +kernel
theorem dX4_refresh_4 : decode cX4_refresh 4 = .ok (.ifCond .eq 4, 3) := by decide +kernel
theorem dX4_refresh_7 : decode cX4_refresh 7 = .ok (.return_, 1) := by decide +kernel
theorem dX4_refresh_8 : decode cX4_refresh 8 = .ok (.aload_n 0, 1) := by decide +kernel
theorem dX4_refresh_9 : decode cX4_refresh 9 = .ok (.iconst 1, 1) := by decide +kernel
theorem dX4_refresh_10 : decode cX4_refresh 10 = .ok (.putfield 18, 3) := by decide +kernel
theorem dX4_refresh_13 : decode cX4_refresh 13 = .ok (.iconst 0, 1) := by decide +kernel
theorem dX4_refresh_14 : decode cX4_refresh 14 = .ok (.istore_n 3, 1) := by decide +kernel
theorem dX4_refresh_15 : decode cX4_refresh 15 = .ok (.iload_n 3, 1) := by decide +kernel
theorem dX4_refresh_16 : decode cX4_refresh 16 = .ok (.aload_n 1, 1) := by decide +kernel
theorem dX4_refresh_17 : decode cX4_refresh 17 = .ok (.getfield 22, 3) := by decide +kernel
theorem dX4_refresh_20 : decode cX4_refresh 20 = .ok (.if_icmp .ge 23, 3) := by decide +kernel
theorem dX4_refresh_23 : decode cX4_refresh 23 = .ok (.aload_n 0, 1) := by decide +kernel
theorem dX4_refresh_24 : decode cX4_refresh 24 = .ok (.getfield 9, 3) := by decide +kernel
theorem dX4_refresh_27 : decode cX4_refresh 27 = .ok (.iload_n 3, 1) := by decide +kernel
theorem dX4_refresh_28 : decode cX4_refresh 28 = .ok (.iload_n 3, 1) := by decide +kernel
theorem dX4_refresh_29 : decode cX4_refresh 29 = .ok (.iastore, 1) := by decide +kernel
theorem dX4_refresh_30 : decode cX4_refresh 30 = .ok (.aload_n 0, 1) := by decide +kernel
theorem dX4_refresh_31 : decode cX4_refresh 31 = .ok (.aload_n 1, 1) := by decide +kernel
theorem dX4_refresh_32 : decode cX4_refresh 32 = .ok (.aload_n 2, 1) := by decide +kernel
theorem dX4_refresh_33 : decode cX4_refresh 33 = .ok (.iload_n 3, 1) := by decide +kernel
theorem dX4_refresh_34 : decode cX4_refresh 34 = .ok (.invokevirtual 28, 3) := by decide +kernel
theorem dX4_refresh_37 : decode cX4_refresh 37 = .ok (.iinc 3 1, 3) := by decide +kernel
theorem dX4_refresh_40 : decode cX4_refresh 40 = .ok (.goto (-25), 3) := by decide +kernel
theorem dX4_refresh_43 : decode cX4_refresh 43 = .ok (.aload_n 0, 1) := by decide +kernel
theorem dX4_refresh_44 : decode cX4_refresh 44 = .ok (.aload_n 1, 1) := by decide +kernel
theorem dX4_refresh_45 : decode cX4_refresh 45 = .ok (.getfield 22, 3) := by decide +kernel
theorem dX4_refresh_48 : decode cX4_refresh 48 = .ok (.invokevirtual 32, 3) := by decide +kernel
theorem dX4_refresh_51 : decode cX4_refresh 51 = .ok (.return_, 1) := by decide +kernel
theorem dX4_joinBack_0 : decode cX4_joinBack 0 = .ok (.iconst 0, 1) := by decide +kernel
theorem dX4_joinBack_1 : decode cX4_joinBack 1 = .ok (.istore 4, 2) := by decide +kernel
theorem dX4_joinBack_3 : decode cX4_joinBack 3 = .ok (.iload 4, 2) := by decide +kernel
theorem dX4_joinBack_5 : decode cX4_joinBack 5 = .ok (.iload_n 3, 1) := by decide +kernel
theorem dX4_joinBack_6 : decode cX4_joinBack 6 = .ok (.if_icmp .ge 82, 3) := by decide +kernel
theorem dX4_joinBack_9 : decode cX4_joinBack 9 = .ok (.aload_n 0, 1) := by decide +kernel
theorem dX4_joinBack_10 : decode cX4_joinBack 10 = .ok (.getfield 9, 3) := by decide +kernel
theorem dX4_joinBack_13 : decode cX4_joinBack 13 = .ok (.iload_n 3, 1) := by decide +kernel
theorem dX4_joinBack_14 : decode cX4_joinBack 14 = .ok (.iaload, 1) := by decide +kernel
theorem dX4_joinBack_15 : decode cX4_joinBack 15 = .ok (.aload_n 0, 1) := by decide +kernel
theorem dX4_joinBack_16 : decode cX4_joinBack 16 = .ok (.getfield 9, 3) := by decide +kernel
theorem dX4_joinBack_19 : decode cX4_joinBack 19 = .ok (.iload 4, 2) := by decide +kernel
theorem dX4_joinBack_21 : decode cX4_joinBack 21 = .ok (.iaload, 1) := by decide +kernel
theorem dX4_joinBack_22 : decode cX4_joinBack 22 = .ok (.if_icmp .eq 60, 3) := by decide +kernel
theorem dX4_joinBack_25 : decode cX4_joinBack 25 = .ok (.aload_n 1, 1) := by decide +kernel
theorem dX4_joinBack_26 : decode cX4_joinBack 26 = .ok (.iload_n 3, 1) := by decide +kernel
theorem dX4_joinBack_27 : decode cX4_joinBack 27 = .ok (.iload 4, 2) := by decide +kernel
theorem dX4_joinBack_29 : decode cX4_joinBack 29 = .ok (.invokevirtual 36, 3) := by decide +kernel
theorem dX4_joinBack_32 : decode cX4_joinBack 32 = .ok (.ifCond .eq 50, 3) := by decide +kernel
theorem dX4_joinBack_35 : decode cX4_joinBack 35 = .ok (.aload_n 2, 1) := by decide +kernel
theorem dX4_joinBack_36 : decode cX4_joinBack 36 = .ok (.iload_n 3, 1) := by decide +kernel
theorem dX4_joinBack_37 : decode cX4_joinBack 37 = .ok (.iload 4, 2) := by decide +kernel
theorem dX4_joinBack_39 : decode cX4_joinBack 39 = .ok (.invokevirtual 40, 3) := by decide +kernel
theorem dX4_joinBack_42 : decode cX4_joinBack 42 = .ok (.ifCond .eq 40, 3) := by decide +kernel
theorem dX4_joinBack_45 : decode cX4_joinBack 45 = .ok (.aload_n 0, 1) := by decide +kernel
theorem dX4_joinBack_46 : decode cX4_joinBack 46 = .ok (.aload_n 0, 1) := by decide +kernel
theorem dX4_joinBack_47 : decode cX4_joinBack 47 = .ok (.getfield 9, 3) := by decide +kernel
theorem dX4_joinBack_50 : decode cX4_joinBack 50 = .ok (.iload_n 3, 1) := by decide +kernel
theorem dX4_joinBack_51 : decode cX4_joinBack 51 = .ok (.iaload, 1) := by decide +kernel
theorem dX4_joinBack_52 : decode cX4_joinBack 52 = .ok (.aload_n 0, 1) := by decide +kernel
theorem dX4_joinBack_53 : decode cX4_joinBack 53 = .ok (.getfield 9, 3) := by decide +kernel
theorem dX4_joinBack_56 : decode cX4_joinBack 56 = .ok (.iload 4, 2) := by decide +kernel
theorem dX4_joinBack_58 : decode cX4_joinBack 58 = .ok (.iaload, 1) := by decide +kernel
theorem dX4_joinBack_59 : decode cX4_joinBack 59 = .ok (.invokestatic 45, 3) := by decide +kernel
theorem dX4_joinBack_62 : decode cX4_joinBack 62 = .ok (.aload_n 0, 1) := by decide +kernel
theorem dX4_joinBack_63 : decode cX4_joinBack 63 = .ok (.getfield 9, 3) := by decide +kernel
theorem dX4_joinBack_66 : decode cX4_joinBack 66 = .ok (.iload_n 3, 1) := by decide +kernel
theorem dX4_joinBack_67 : decode cX4_joinBack 67 = .ok (.iaload, 1) := by decide +kernel
theorem dX4_joinBack_68 : decode cX4_joinBack 68 = .ok (.aload_n 0, 1) := by decide +kernel
theorem dX4_joinBack_69 : decode cX4_joinBack 69 = .ok (.getfield 9, 3) := by decide +kernel
theorem dX4_joinBack_72 : decode cX4_joinBack 72 = .ok (.iload 4, 2) := by decide +kernel
theorem dX4_joinBack_74 : decode cX4_joinBack 74 = .ok (.iaload, 1) := by decide +kernel
theorem dX4_joinBack_75 : decode cX4_joinBack 75 = .ok (.invokestatic 51, 3) := by decide +kernel
theorem dX4_joinBack_78 : decode cX4_joinBack 78 = .ok (.iload_n 3, 1) := by decide +kernel
theorem dX4_joinBack_79 : decode cX4_joinBack 79 = .ok (.invokevirtual 54, 3) := by decide +kernel
theorem dX4_joinBack_82 : decode cX4_joinBack 82 = .ok (.iinc 4 1, 3) := by decide +kernel
theorem dX4_joinBack_85 : decode cX4_joinBack 85 = .ok (.goto (-82), 3) := by decide +kernel
theorem dX4_joinBack_88 : decode cX4_joinBack 88 = .ok (.return_, 1) := by decide +kernel
theorem dX4_join_0 : decode cX4_join 0 = .ok (.iconst 0, 1) := by decide +kernel
theorem dX4_join_1 : decode cX4_join 1 = .ok (.istore 4, 2) := by decide +kernel
theorem dX4_join_3 : decode cX4_join 3 = .ok (.iload 4, 2) := by decide +kernel
theorem dX4_join_5 : decode cX4_join 5 = .ok (.iload_n 3, 1) := by decide +kernel
theorem dX4_join_6 : decode cX4_join 6 = .ok (.if_icmp .gt 28, 3) := by decide +kernel
theorem dX4_join_9 : decode cX4_join 9 = .ok (.aload_n 0, 1) := by decide +kernel
theorem dX4_join_10 : decode cX4_join 10 = .ok (.getfield 9, 3) := by decide +kernel
theorem dX4_join_13 : decode cX4_join 13 = .ok (.iload 4, 2) := by decide +kernel
theorem dX4_join_15 : decode cX4_join 15 = .ok (.iaload, 1) := by decide +kernel
theorem dX4_join_16 : decode cX4_join 16 = .ok (.iload_n 2, 1) := by decide +kernel
theorem dX4_join_17 : decode cX4_join 17 = .ok (.if_icmp .ne 11, 3) := by decide +kernel
theorem dX4_join_20 : decode cX4_join 20 = .ok (.aload_n 0, 1) := by decide +kernel
theorem dX4_join_21 : decode cX4_join 21 = .ok (.getfield 9, 3) := by decide +kernel
theorem dX4_join_24 : decode cX4_join 24 = .ok (.iload 4, 2) := by decide +kernel
theorem dX4_join_26 : decode cX4_join 26 = .ok (.iload_n 1, 1) := by decide +kernel
theorem dX4_join_27 : decode cX4_join 27 = .ok (.iastore, 1) := by decide +kernel
theorem dX4_join_28 : decode cX4_join 28 = .ok (.iinc 4 1, 3) := by decide +kernel
theorem dX4_join_31 : decode cX4_join 31 = .ok (.goto (-28), 3) := by decide +kernel
theorem dX4_join_34 : decode cX4_join 34 = .ok (.return_, 1) := by decide +kernel
theorem dX4_giveNumbers_0 : decode cX4_giveNumbers 0 = .ok (.aload_n 0, 1) := by decide +kernel
theorem dX4_giveNumbers_1 : decode cX4_giveNumbers 1 = .ok (.iconst 0, 1) := by decide +kernel
theorem dX4_giveNumbers_2 : decode cX4_giveNumbers 2 = .ok (.putfield 58, 3) := by decide +kernel
theorem dX4_giveNumbers_5 : decode cX4_giveNumbers 5 = .ok (.aload_n 0, 1) := by decide +kernel
theorem dX4_giveNumbers_6 : decode cX4_giveNumbers 6 = .ok (.iconst 0, 1) := by decide +kernel
theorem dX4_giveNumbers_7 : decode cX4_giveNumbers 7 = .ok (.putfield 61, 3) := by decide +kernel
theorem dX4_giveNumbers_10 : decode cX4_giveNumbers 10 = .ok (.iconst 0, 1) := by decide +kernel
theorem dX4_giveNumbers_11 : decode cX4_giveNumbers 11 = .ok (.istore_n 2, 1) := by decide +kernel
theorem dX4_giveNumbers_12 : decode cX4_giveNumbers 12 = .ok (.iload_n 2, 1) := by decide +kernel
theorem dX4_giveNumbers_13 : decode cX4_giveNumbers 13 = .ok (.iload_n 1, 1) := by decide +kernel
theorem dX4_giveNumbers_14 : decode cX4_giveNumbers 14 = .ok (.if_icmp .ge 106, 3) := by decide +kernel
theorem dX4_giveNumbers_17 : decode cX4_giveNumbers 17 = .ok (.aload_n 0, 1) := by decide +kernel
theorem dX4_giveNumbers_18 : decode cX4_giveNumbers 18 = .ok (.getfield 9, 3) := by decide +kernel
theorem dX4_giveNumbers_21 : decode cX4_giveNumbers 21 = .ok (.iload_n 2, 1) := by decide +kernel
theorem dX4_giveNumbers_22 : decode cX4_giveNumbers 22 = .ok (.iaload, 1) := by decide +kernel
theorem dX4_giveNumbers_23 : decode cX4_giveNumbers 23 = .ok (.iload_n 2, 1) := by decide +kernel
theorem dX4_giveNumbers_24 : decode cX4_giveNumbers 24 = .ok (.if_icmp .ne 36, 3) := by decide +kernel
theorem dX4_giveNumbers_27 : decode cX4_giveNumbers 27 = .ok (.aload_n 0, 1) := by decide +kernel
theorem dX4_giveNumbers_28 : decode cX4_giveNumbers 28 = .ok (.getfield 15, 3) := by decide +kernel
theorem dX4_giveNumbers_31 : decode cX4_giveNumbers 31 = .ok (.aload_n 0, 1) := by decide +kernel
theorem dX4_giveNumbers_32 : decode cX4_giveNumbers 32 = .ok (.getfield 58, 3) := by decide +kernel
theorem dX4_giveNumbers_35 : decode cX4_giveNumbers 35 = .ok (.iconst 0, 1) := by decide +kernel
theorem dX4_giveNumbers_36 : decode cX4_giveNumbers 36 = .ok (.iastore, 1) := by decide +kernel
theorem dX4_giveNumbers_37 : decode cX4_giveNumbers 37 = .ok (.aload_n 0, 1) := by decide +kernel
theorem dX4_giveNumbers_38 : decode cX4_giveNumbers 38 = .ok (.getfield 9, 3) := by decide +kernel
theorem dX4_giveNumbers_41 : decode cX4_giveNumbers 41 = .ok (.iload_n 2, 1) := by decide +kernel
theorem dX4_giveNumbers_42 : decode cX4_giveNumbers 42 = .ok (.aload_n 0, 1) := by decide +kernel
theorem dX4_giveNumbers_43 : decode cX4_giveNumbers 43 = .ok (.getfield 58, 3) := by decide +kernel
theorem dX4_giveNumbers_46 : decode cX4_giveNumbers 46 = .ok (.iastore, 1) := by decide +kernel
theorem dX4_giveNumbers_47 : decode cX4_giveNumbers 47 = .ok (.aload_n 0, 1) := by decide +kernel
theorem dX4_giveNumbers_48 : decode cX4_giveNumbers 48 = .ok (.dup, 1) := by decide +kernel
theorem dX4_giveNumbers_49 : decode cX4_giveNumbers 49 = .ok (.getfield 58, 3) := by decide +kernel
theorem dX4_giveNumbers_52 : decode cX4_giveNumbers 52 = .ok (.iconst 1, 1) := by decide +kernel
theorem dX4_giveNumbers_53 : decode cX4_giveNumbers 53 = .ok (.iadd, 1) := by decide +kernel
theorem dX4_giveNumbers_54 : decode cX4_giveNumbers 54 = .ok (.putfield 58, 3) := by decide +kernel
theorem dX4_giveNumbers_57 : decode cX4_giveNumbers 57 = .ok (.goto 20, 3) := by decide +kernel
theorem dX4_giveNumbers_60 : decode cX4_giveNumbers 60 = .ok (.aload_n 0, 1) := by decide +kernel
theorem dX4_giveNumbers_61 : decode cX4_giveNumbers 61 = .ok (.getfield 9, 3) := by decide +kernel
theorem dX4_giveNumbers_64 : decode cX4_giveNumbers 64 = .ok (.iload_n 2, 1) := by decide +kernel
theorem dX4_giveNumbers_65 : decode cX4_giveNumbers 65 = .ok (.aload_n 0, 1) := by decide +kernel
theorem dX4_giveNumbers_66 : decode cX4_giveNumbers 66 = .ok (.getfield 9, 3) := by decide +kernel
theorem dX4_giveNumbers_69 : decode cX4_giveNumbers 69 = .ok (.aload_n 0, 1) := by decide +kernel
theorem dX4_giveNumbers_70 : decode cX4_giveNumbers 70 = .ok (.getfield 9, 3) := by decide +kernel
theorem dX4_giveNumbers_73 : decode cX4_giveNumbers 73 = .ok (.iload_n 2, 1) := by decide +kernel
theorem dX4_giveNumbers_74 : decode cX4_giveNumbers 74 = .ok (.iaload, 1) := by decide +kernel
theorem dX4_giveNumbers_75 : decode cX4_giveNumbers 75 = .ok (.iaload, 1) := by decide +kernel
theorem dX4_giveNumbers_76 : decode cX4_giveNumbers 76 = .ok (.iastore, 1) := by decide +kernel
theorem dX4_giveNumbers_77 : decode cX4_giveNumbers 77 = .ok (.aload_n 0, 1) := by decide +kernel
theorem dX4_giveNumbers_78 : decode cX4_giveNumbers 78 = .ok (.getfield 15, 3) := by decide +kernel
theorem dX4_giveNumbers_81 : decode cX4_giveNumbers 81 = .ok (.aload_n 0, 1) := by decide +kernel
theorem dX4_giveNumbers_82 : decode cX4_giveNumbers 82 = .ok (.getfield 9, 3) := by decide +kernel
theorem dX4_giveNumbers_85 : decode cX4_giveNumbers 85 = .ok (.iload_n 2, 1) := by decide +kernel
theorem dX4_giveNumbers_86 : decode cX4_giveNumbers 86 = .ok (.iaload, 1) := by decide +kernel
theorem dX4_giveNumbers_87 : decode cX4_giveNumbers 87 = .ok (.dup2, 1) := by decide +kernel
theorem dX4_giveNumbers_88 : decode cX4_giveNumbers 88 = .ok (.iaload, 1) := by decide +kernel
theorem dX4_giveNumbers_89 : decode cX4_giveNumbers 89 = .ok (.iconst 1, 1) := by decide +kernel
theorem dX4_giveNumbers_90 : decode cX4_giveNumbers 90 = .ok (.iadd, 1) := by decide +kernel
theorem dX4_giveNumbers_91 : decode cX4_giveNumbers 91 = .ok (.iastore, 1) := by decide +kernel
theorem dX4_giveNumbers_92 : decode cX4_giveNumbers 92 = .ok (.aload_n 0, 1) := by decide +kernel
theorem dX4_giveNumbers_93 : decode cX4_giveNumbers 93 = .ok (.aload_n 0, 1) := by decide +kernel
theorem dX4_giveNumbers_94 : decode cX4_giveNumbers 94 = .ok (.getfield 61, 3) := by decide +kernel
theorem dX4_giveNumbers_97 : decode cX4_giveNumbers 97 = .ok (.aload_n 0, 1) := by decide +kernel
theorem dX4_giveNumbers_98 : decode cX4_giveNumbers 98 = .ok (.getfield 15, 3) := by decide +kernel
theorem dX4_giveNumbers_101 : decode cX4_giveNumbers 101 = .ok (.aload_n 0, 1) := by decide +kernel
theorem dX4_giveNumbers_102 : decode cX4_giveNumbers 102 = .ok (.getfield 9, 3) := by decide +kernel
theorem dX4_giveNumbers_105 : decode cX4_giveNumbers 105 = .ok (.iload_n 2, 1) := by decide +kernel
theorem dX4_giveNumbers_106 : decode cX4_giveNumbers 106 = .ok (.iaload, 1) := by decide +kernel
theorem dX4_giveNumbers_107 : decode cX4_giveNumbers 107 = .ok (.iaload, 1) := by decide +kernel
theorem dX4_giveNumbers_108 : decode cX4_giveNumbers 108 = .ok (.invokestatic 51, 3) := by decide +kernel
theorem dX4_giveNumbers_111 : decode cX4_giveNumbers 111 = .ok (.putfield 61, 3) := by decide +kernel
theorem dX4_giveNumbers_114 : decode cX4_giveNumbers 114 = .ok (.iinc 2 1, 3) := by decide +kernel
theorem dX4_giveNumbers_117 : decode cX4_giveNumbers 117 = .ok (.goto (-105), 3) := by decide +kernel
theorem dX4_giveNumbers_120 : decode cX4_giveNumbers 120 = .ok (.return_, 1) := by decide +kernel
theorem dX5_init_0 : decode cX5_init 0 = .ok (.aload_n 0, 1) := by decide +kernel
theorem dX5_init_1 : decode cX5_init 1 = .ok (.invokespecial 3, 3) := by decide +kernel
theorem dX5_init_4 : decode cX5_init 4 = .ok (.aload_n 0, 1) := by decide +kernel
theorem dX5_init_5 : decode cX5_init 5 = .ok (.bipush 24, 2) := by decide +kernel
theorem dX5_init_7 : decode cX5_init 7 = .ok (.newarray .int, 2) := by decide +kernel
theorem dX5_init_9 : decode cX5_init 9 = .ok (.putfield 9, 3) := by decide +kernel
theorem dX5_init_12 : decode cX5_init 12 = .ok (.aload_n 0, 1) := by decide +kernel
theorem dX5_init_13 : decode cX5_init 13 = .ok (.bipush 24, 2) := by decide +kernel
theorem dX5_init_15 : decode cX5_init 15 = .ok (.newarray .int, 2) := by decide +kernel
theorem dX5_init_17 : decode cX5_init 17 = .ok (.putfield 15, 3) := by decide +kernel
theorem dX5_init_20 : decode cX5_init 20 = .ok (.aload_n 0, 1) := by decide +kernel
theorem dX5_init_21 : decode cX5_init 21 = .ok (.bipush 24, 2) := by decide +kernel
theorem dX5_init_23 : decode cX5_init 23 = .ok (.newarray .int, 2) := by decide +kernel
theorem dX5_init_25 : decode cX5_init 25 = .ok (.putfield 18, 3) := by decide +kernel
theorem dX5_init_28 : decode cX5_init 28 = .ok (.aload_n 0, 1) := by decide +kernel
theorem dX5_init_29 : decode cX5_init 29 = .ok (.new 21, 3) := by decide +kernel
theorem dX5_init_32 : decode cX5_init 32 = .ok (.dup, 1) := by decide +kernel
theorem dX5_init_33 : decode cX5_init 33 = .ok (.invokespecial 23, 3) := by decide +kernel
theorem dX5_init_36 : decode cX5_init 36 = .ok (.putfield 24, 3) := by decide +kernel
theorem dX5_init_39 : decode cX5_init 39 = .ok (.aload_n 0, 1) := by decide +kernel
theorem dX5_init_40 : decode cX5_init 40 = .ok (.new 21, 3) := by decide +kernel
theorem dX5_init_43 : decode cX5_init 43 = .ok (.dup, 1) := by decide +kernel
theorem dX5_init_44 : decode cX5_init 44 = .ok (.invokespecial 23, 3) := by decide +kernel
theorem dX5_init_47 : decode cX5_init 47 = .ok (.putfield 28, 3) := by decide +kernel
theorem dX5_init_50 : decode cX5_init 50 = .ok (.return_, 1) := by decide +kernel
theorem dX5_refresh_0 : decode cX5_refresh 0 = .ok (.aload_n 0, 1) := by decide +kernel
theorem dX5_refresh_1 : decode cX5_refresh 1 = .ok (.getfield 31, 3) := by decide +kernel
theorem dX5_refresh_4 : decode cX5_refresh 4 = .ok (.ifCond .eq 4, 3) := by decide +kernel
theorem dX5_refresh_7 : decode cX5_refresh 7 = .ok (.return_, 1) := by decide +kernel
theorem dX5_refresh_8 : decode cX5_refresh 8 = .ok (.aload_n 0, 1) := by decide +kernel
theorem dX5_refresh_9 : decode cX5_refresh 9 = .ok (.iconst 1, 1) := by decide +kernel
theorem dX5_refresh_10 : decode cX5_refresh 10 = .ok (.putfield 31, 3) := by decide +kernel
theorem dX5_refresh_13 : decode cX5_refresh 13 = .ok (.aload_n 0, 1) := by decide +kernel
theorem dX5_refresh_14 : decode cX5_refresh 14 = .ok (.getfield 9, 3) := by decide +kernel
theorem dX5_refresh_17 : decode cX5_refresh 17 = .ok (.iconst (-1), 1) := by decide +kernel
theorem dX5_refresh_18 : decode cX5_refresh 18 = .ok (.invokestatic 35, 3) := by decide +kernel
theorem dX5_refresh_21 : decode cX5_refresh 21 = .ok (.aload_n 0, 1) := by decide +kernel
theorem dX5_refresh_22 : decode cX5_refresh 22 = .ok (.getfield 15, 3) := by decide +kernel
theorem dX5_refresh_25 : decode cX5_refresh 25 = .ok (.iconst (-1), 1) := by decide +kernel
theorem dX5_refresh_26 : decode cX5_refresh 26 = .ok (.invokestatic 35, 3) := by decide +kernel
theorem dX5_refresh_29 : decode cX5_refresh 29 = .ok (.aload_n 1, 1) := by decide +kernel
theorem dX5_refresh_30 : decode cX5_refresh 30 = .ok (.aload_n 0, 1) := by decide +kernel
theorem dX5_refresh_31 : decode cX5_refresh 31 = .ok (.getfield 18, 3) := by decide +kernel
theorem dX5_refresh_34 : decode cX5_refresh 34 = .ok (.invokevirtual 41, 3) := by decide +kernel
theorem dX5_refresh_37 : decode cX5_refresh 37 = .ok (.iconst 0, 1) := by decide +kernel
theorem dX5_refresh_38 : decode cX5_refresh 38 = .ok (.istore_n 2, 1) := by decide +kernel
theorem dX5_refresh_39 : decode cX5_refresh 39 = .ok (.iload_n 2, 1) := by decide +kernel
theorem dX5_refresh_40 : decode cX5_refresh 40 = .ok (.aload_n 1, 1) := by decide +kernel
theorem dX5_refresh_41 : decode cX5_refresh 41 = .ok (.getfield 47, 3) := by decide +kernel
theorem dX5_refresh_44 : decode cX5_refresh 44 = .ok (.if_icmp .ge 20, 3) := by decide +kernel
theorem dX5_refresh_47 : decode cX5_refresh 47 = .ok (.aload_n 0, 1) := by decide +kernel
theorem dX5_refresh_48 : decode cX5_refresh 48 = .ok (.aload_n 1, 1) := by decide +kernel
theorem dX5_refresh_49 : decode cX5_refresh 49 = .ok (.aload_n 0, 1) := by decide +kernel
theorem dX5_refresh_50 : decode cX5_refresh 50 = .ok (.getfield 18, 3) := by decide +kernel
theorem dX5_refresh_53 : decode cX5_refresh 53 = .ok (.iload_n 2, 1) := by decide +kernel
theorem dX5_refresh_54 : decode cX5_refresh 54 = .ok (.iaload, 1) := by decide +kernel
theorem dX5_refresh_55 : decode cX5_refresh 55 = .ok (.invokevirtual 51, 3) := by decide +kernel
theorem dX5_refresh_58 : decode cX5_refresh 58 = .ok (.iinc 2 1, 3) := by decide +kernel
theorem dX5_refresh_61 : decode cX5_refresh 61 = .ok (.goto (-22), 3) := by decide +kernel
theorem dX5_refresh_64 : decode cX5_refresh 64 = .ok (.return_, 1) := by decide +kernel
theorem dX5_isThere_0 : decode cX5_isThere 0 = .ok (.aload_n 0, 1) := by decide +kernel
theorem dX5_isThere_1 : decode cX5_isThere 1 = .ok (.getfield 9, 3) := by decide +kernel
theorem dX5_isThere_4 : decode cX5_isThere 4 = .ok (.iload_n 1, 1) := by decide +kernel
theorem dX5_isThere_5 : decode cX5_isThere 5 = .ok (.iaload, 1) := by decide +kernel
theorem dX5_isThere_6 : decode cX5_isThere 6 = .ok (.iconst (-1), 1) := by decide +kernel
theorem dX5_isThere_7 : decode cX5_isThere 7 = .ok (.if_icmp .eq 17, 3) := by decide +kernel
theorem dX5_isThere_10 : decode cX5_isThere 10 = .ok (.aload_n 0, 1) := by decide +kernel
theorem dX5_isThere_11 : decode cX5_isThere 11 = .ok (.getfield 9, 3) := by decide +kernel
theorem dX5_isThere_14 : decode cX5_isThere 14 = .ok (.iload_n 1, 1) := by decide +kernel
theorem dX5_isThere_15 : decode cX5_isThere 15 = .ok (.iaload, 1) := by decide +kernel
theorem dX5_isThere_16 : decode cX5_isThere 16 = .ok (.iload_n 2, 1) := by decide +kernel
theorem dX5_isThere_17 : decode cX5_isThere 17 = .ok (.if_icmp .gt 7, 3) := by decide +kernel
theorem dX5_isThere_20 : decode cX5_isThere 20 = .ok (.iconst 1, 1) := by decide +kernel
theorem dX5_isThere_21 : decode cX5_isThere 21 = .ok (.goto 4, 3) := by decide +kernel
theorem dX5_isThere_24 : decode cX5_isThere 24 = .ok (.iconst 0, 1) := by decide +kernel
theorem dX5_isThere_25 : decode cX5_isThere 25 = .ok (.ireturn, 1) := by decide +kernel
theorem dX5_settle_0 : decode cX5_settle 0 = .ok (.bipush 7, 2) := by decide +kernel
theorem dX5_settle_2 : decode cX5_settle 2 = .ok (.istore_n 3, 1) := by decide +kernel
theorem dX5_settle_3 : decode cX5_settle 3 = .ok (.iconst (-1), 1) := by decide +kernel
theorem dX5_settle_4 : decode cX5_settle 4 = .ok (.istore 4, 2) := by decide +kernel
theorem dX5_settle_6 : decode cX5_settle 6 = .ok (.iconst 0, 1) := by decide +kernel
theorem dX5_settle_7 : decode cX5_settle 7 = .ok (.istore 5, 2) := by decide +kernel
theorem dX5_settle_9 : decode cX5_settle 9 = .ok (.iload 5, 2) := by decide +kernel
theorem dX5_settle_11 : decode cX5_settle 11 = .ok (.aload_n 1, 1) := by decide +kernel
theorem dX5_settle_12 : decode cX5_settle 12 = .ok (.iload_n 2, 1) := by decide +kernel
theorem dX5_settle_13 : decode cX5_settle 13 = .ok (.invokevirtual 55, 3) := by decide +kernel
theorem dX5_settle_16 : decode cX5_settle 16 = .ok (.if_icmp .ge 56, 3) := by decide +kernel
theorem dX5_settle_19 : decode cX5_settle 19 = .ok (.iload_n 3, 1) := by decide +kernel
theorem dX5_settle_20 : decode cX5_settle 20 = .ok (.ifCond .le 52, 3) := by decide +kernel
theorem dX5_settle_23 : decode cX5_settle 23 = .ok (.bipush 7, 2) := by decide +kernel
theorem dX5_settle_25 : decode cX5_settle 25 = .ok (.istore 6, 2) := by decide +kernel
theorem dX5_settle_27 : decode cX5_settle 27 = .ok (.iload 6, 2) := by decide +kernel
theorem dX5_settle_29 : decode cX5_settle 29 = .ok (.ifCond .le 24, 3) := by decide +kernel
theorem dX5_settle_32 : decode cX5_settle 32 = .ok (.aload_n 0, 1) := by decide +kernel
theorem dX5_settle_33 : decode cX5_settle 33 = .ok (.aload_n 1, 1) := by decide +kernel
theorem dX5_settle_34 : decode cX5_settle 34 = .ok (.iload_n 2, 1) := by decide +kernel
theorem dX5_settle_35 : decode cX5_settle 35 = .ok (.iload 5, 2) := by decide +kernel
theorem dX5_settle_37 : decode cX5_settle 37 = .ok (.iload 6, 2) := by decide +kernel
theorem dX5_settle_39 : decode cX5_settle 39 = .ok (.iconst 1, 1) := by decide +kernel
theorem dX5_settle_40 : decode cX5_settle 40 = .ok (.isub, 1) := by decide +kernel
theorem dX5_settle_41 : decode cX5_settle 41 = .ok (.invokevirtual 59, 3) := by decide +kernel
theorem dX5_settle_44 : decode cX5_settle 44 = .ok (.ifCond .eq 9, 3) := by decide +kernel
theorem dX5_settle_47 : decode cX5_settle 47 = .ok (.iinc 6 (-1), 3) := by decide +kernel
theorem dX5_settle_50 : decode cX5_settle 50 = .ok (.goto (-23), 3) := by decide +kernel
theorem dX5_settle_53 : decode cX5_settle 53 = .ok (.iload 6, 2) := by decide +kernel
theorem dX5_settle_55 : decode cX5_settle 55 = .ok (.iload_n 3, 1) := by decide +kernel
theorem dX5_settle_56 : decode cX5_settle 56 = .ok (.if_icmp .ge 10, 3) := by decide +kernel
theorem dX5_settle_59 : decode cX5_settle 59 = .ok (.iload 6, 2) := by decide +kernel
theorem dX5_settle_61 : decode cX5_settle 61 = .ok (.istore_n 3, 1) := by decide +kernel
theorem dX5_settle_62 : decode cX5_settle 62 = .ok (.iload 5, 2) := by decide +kernel
theorem dX5_settle_64 : decode cX5_settle 64 = .ok (.istore 4, 2) := by decide +kernel
theorem dX5_settle_66 : decode cX5_settle 66 = .ok (.iinc 5 1, 3) := by decide +kernel
theorem dX5_settle_69 : decode cX5_settle 69 = .ok (.goto (-60), 3) := by decide +kernel
theorem dX5_settle_72 : decode cX5_settle 72 = .ok (.iload 4, 2) := by decide +kernel
theorem dX5_settle_74 : decode cX5_settle 74 = .ok (.iconst (-1), 1) := by decide +kernel
theorem dX5_settle_75 : decode cX5_settle 75 = .ok (.if_icmp .eq 18, 3) := by decide +kernel
theorem dX5_settle_78 : decode cX5_settle 78 = .ok (.aload_n 0, 1) := by decide +kernel
theorem dX5_settle_79 : decode cX5_settle 79 = .ok (.getfield 9, 3) := by decide +kernel
theorem dX5_settle_82 : decode cX5_settle 82 = .ok (.iload_n 2, 1) := by decide +kernel
theorem dX5_settle_83 : decode cX5_settle 83 = .ok (.iload_n 3, 1) := by decide +kernel
theorem dX5_settle_84 : decode cX5_settle 84 = .ok (.iastore, 1) := by decide +kernel
theorem dX5_settle_85 : decode cX5_settle 85 = .ok (.aload_n 0, 1) := by decide +kernel
theorem dX5_settle_86 : decode cX5_settle 86 = .ok (.getfield 15, 3) := by decide +kernel
theorem dX5_settle_89 : decode cX5_settle 89 = .ok (.iload_n 2, 1) := by decide +kernel
theorem dX5_settle_90 : decode cX5_settle 90 = .ok (.iload 4, 2) := by decide +kernel
theorem dX5_settle_92 : decode cX5_settle 92 = .ok (.iastore, 1) := by decide +kernel
theorem dX5_settle_93 : decode cX5_settle 93 = .ok (.return_, 1) := by decide +kernel
theorem dX5_fits_0 : decode cX5_fits 0 = .ok (.aload_n 0, 1) := by decide +kernel
theorem dX5_fits_1 : decode cX5_fits 1 = .ok (.getfield 24, 3) := by decide +kernel
theorem dX5_fits_4 : decode cX5_fits 4 = .ok (.aload_n 1, 1) := by decide +kernel
theorem dX5_fits_5 : decode cX5_fits 5 = .ok (.iload_n 2, 1) := by decide +kernel
theorem dX5_fits_6 : decode cX5_fits 6 = .ok (.iload_n 3, 1) := by decide +kernel
theorem dX5_fits_7 : decode cX5_fits 7 = .ok (.iload 4, 2) := by decide +kernel
theorem dX5_fits_9 : decode cX5_fits 9 = .ok (.invokevirtual 63, 3) := by decide +kernel
theorem dX5_fits_12 : decode cX5_fits 12 = .ok (.aload_n 0, 1) := by decide +kernel
theorem dX5_fits_13 : decode cX5_fits 13 = .ok (.getfield 24, 3) := by decide +kernel
theorem dX5_fits_16 : decode cX5_fits 16 = .ok (.aload_n 1, 1) := by decide +kernel
theorem dX5_fits_17 : decode cX5_fits 17 = .ok (.iload 4, 2) := by decide +kernel
theorem dX5_fits_19 : decode cX5_fits 19 = .ok (.invokevirtual 67, 3) := by decide +kernel
theorem dX5_fits_22 : decode cX5_fits 22 = .ok (.ifCond .ne 5, 3) := by decide +kernel
theorem dX5_fits_25 : decode cX5_fits 25 = .ok (.iconst 0, 1) := by decide +kernel
theorem dX5_fits_26 : decode cX5_fits 26 = .ok (.ireturn, 1) := by decide +kernel
theorem dX5_fits_27 : decode cX5_fits 27 = .ok (.iconst 0, 1) := by decide +kernel
theorem dX5_fits_28 : decode cX5_fits 28 = .ok (.istore 5, 2) := by decide +kernel
theorem dX5_fits_30 : decode cX5_fits 30 = .ok (.iload 5, 2) := by decide +kernel
theorem dX5_fits_32 : decode cX5_fits 32 = .ok (.aload_n 1, 1) := by decide +kernel
theorem dX5_fits_33 : decode cX5_fits 33 = .ok (.getfield 47, 3) := by decide +kernel
theorem dX5_fits_36 : decode cX5_fits 36 = .ok (.if_icmp .ge 55, 3) := by decide +kernel
theorem dX5_fits_39 : decode cX5_fits 39 = .ok (.aload_n 0, 1) := by decide +kernel
theorem dX5_fits_40 : decode cX5_fits 40 = .ok (.iload 5, 2) := by decide +kernel
theorem dX5_fits_42 : decode cX5_fits 42 = .ok (.iload 4, 2) := by decide +kernel
theorem dX5_fits_44 : decode cX5_fits 44 = .ok (.invokevirtual 71, 3) := by decide +kernel
theorem dX5_fits_47 : decode cX5_fits 47 = .ok (.ifCond .eq 38, 3) := by decide +kernel
theorem dX5_fits_50 : decode cX5_fits 50 = .ok (.aload_n 0, 1) := by decide +kernel
theorem dX5_fits_51 : decode cX5_fits 51 = .ok (.getfield 28, 3) := by decide +kernel
theorem dX5_fits_54 : decode cX5_fits 54 = .ok (.aload_n 1, 1) := by decide +kernel
theorem dX5_fits_55 : decode cX5_fits 55 = .ok (.iload 5, 2) := by decide +kernel
theorem dX5_fits_57 : decode cX5_fits 57 = .ok (.aload_n 0, 1) := by decide +kernel
theorem dX5_fits_58 : decode cX5_fits 58 = .ok (.getfield 15, 3) := by decide +kernel
theorem dX5_fits_61 : decode cX5_fits 61 = .ok (.iload 5, 2) := by decide +kernel
theorem dX5_fits_63 : decode cX5_fits 63 = .ok (.iaload, 1) := by decide +kernel
theorem dX5_fits_64 : decode cX5_fits 64 = .ok (.iload 4, 2) := by decide +kernel
theorem dX5_fits_66 : decode cX5_fits 66 = .ok (.invokevirtual 63, 3) := by decide +kernel
theorem dX5_fits_69 : decode cX5_fits 69 = .ok (.aload_n 0, 1) := by decide +kernel
theorem dX5_fits_70 : decode cX5_fits 70 = .ok (.getfield 24, 3) := by decide +kernel
theorem dX5_fits_73 : decode cX5_fits 73 = .ok (.aload_n 0, 1) := by decide +kernel
theorem dX5_fits_74 : decode cX5_fits 74 = .ok (.getfield 28, 3) := by decide +kernel
theorem dX5_fits_77 : decode cX5_fits 77 = .ok (.invokevirtual 75, 3) := by decide +kernel
theorem dX5_fits_80 : decode cX5_fits 80 = .ok (.ifCond .eq 5, 3) := by decide +kernel
theorem dX5_fits_83 : decode cX5_fits 83 = .ok (.iconst 0, 1) := by decide +kernel
theorem dX5_fits_84 : decode cX5_fits 84 = .ok (.ireturn, 1) := by decide +kernel
theorem dX5_fits_85 : decode cX5_fits 85 = .ok (.iinc 5 1, 3) := by decide +kernel
theorem dX5_fits_88 : decode cX5_fits 88 = .ok (.goto (-58), 3) := by decide +kernel
theorem dX5_fits_91 : decode cX5_fits 91 = .ok (.iconst 1, 1) := by decide +kernel
theorem dX5_fits_92 : decode cX5_fits 92 = .ok (.ireturn, 1) := by decide +kernel
theorem dX6_init_0 : decode cX6_init 0 = .ok (.aload_n 0, 1) := by decide +kernel
theorem dX6_init_1 : decode cX6_init 1 = .ok (.invokespecial 3, 3) := by decide +kernel
theorem dX6_init_4 : decode cX6_init 4 = .ok (.aload_n 0, 1) := by decide +kernel
theorem dX6_init_5 : decode cX6_init 5 = .ok (.bipush 7, 2) := by decide +kernel
theorem dX6_init_7 : decode cX6_init 7 = .ok (.newarray .int, 2) := by decide +kernel
theorem dX6_init_9 : decode cX6_init 9 = .ok (.putfield 9, 3) := by decide +kernel
theorem dX6_init_12 : decode cX6_init 12 = .ok (.aload_n 0, 1) := by decide +kernel
theorem dX6_init_13 : decode cX6_init 13 = .ok (.bipush 7, 2) := by decide +kernel
theorem dX6_init_15 : decode cX6_init 15 = .ok (.newarray .boolean, 2) := by decide +kernel
theorem dX6_init_17 : decode cX6_init 17 = .ok (.putfield 15, 3) := by decide +kernel
theorem dX6_init_20 : decode cX6_init 20 = .ok (.aload_n 0, 1) := by decide +kernel
theorem dX6_init_21 : decode cX6_init 21 = .ok (.bipush 119, 2) := by decide +kernel
theorem dX6_init_23 : decode cX6_init 23 = .ok (.newarray .int, 2) := by decide +kernel
theorem dX6_init_25 : decode cX6_init 25 = .ok (.putfield 19, 3) := by decide +kernel
theorem dX6_init_28 : decode cX6_init 28 = .ok (.aload_n 0, 1) := by decide +kernel
theorem dX6_init_29 : decode cX6_init 29 = .ok (.bipush 119, 2) := by decide +kernel
theorem dX6_init_31 : decode cX6_init 31 = .ok (.newarray .long, 2) := by decide +kernel
theorem dX6_init_33 : decode cX6_init 33 = .ok (.putfield 22, 3) := by decide +kernel
theorem dX6_init_36 : decode cX6_init 36 = .ok (.aload_n 0, 1) := by decide +kernel
theorem dX6_init_37 : decode cX6_init 37 = .ok (.bipush 119, 2) := by decide +kernel
theorem dX6_init_39 : decode cX6_init 39 = .ok (.newarray .long, 2) := by decide +kernel
theorem dX6_init_41 : decode cX6_init 41 = .ok (.putfield 26, 3) := by decide +kernel
theorem dX6_init_44 : decode cX6_init 44 = .ok (.return_, 1) := by decide +kernel
theorem dX6_seat_0 : decode cX6_seat 0 = .ok (.aload_n 0, 1) := by decide +kernel
theorem dX6_seat_1 : decode cX6_seat 1 = .ok (.iconst 0, 1) := by decide +kernel
theorem dX6_seat_2 : decode cX6_seat 2 = .ok (.putfield 29, 3) := by decide +kernel
theorem dX6_seat_5 : decode cX6_seat 5 = .ok (.iconst 0, 1) := by decide +kernel
theorem dX6_seat_6 : decode cX6_seat 6 = .ok (.istore 6, 2) := by decide +kernel
theorem dX6_seat_8 : decode cX6_seat 8 = .ok (.iload 6, 2) := by decide +kernel
theorem dX6_seat_10 : decode cX6_seat 10 = .ok (.aload_n 1, 1) := by decide +kernel
theorem dX6_seat_11 : decode cX6_seat 11 = .ok (.getfield 33, 3) := by decide +kernel
theorem dX6_seat_14 : decode cX6_seat 14 = .ok (.if_icmp .ge 83, 3) := by decide +kernel
theorem dX6_seat_17 : decode cX6_seat 17 = .ok (.aload 5, 2) := by decide +kernel
theorem dX6_seat_19 : decode cX6_seat 19 = .ok (.iload 6, 2) := by decide +kernel
theorem dX6_seat_21 : decode cX6_seat 21 = .ok (.iaload, 1) := by decide +kernel
theorem dX6_seat_22 : decode cX6_seat 22 = .ok (.istore 7, 2) := by decide +kernel
theorem dX6_seat_24 : decode cX6_seat 24 = .ok (.aload_n 3, 1) := by decide +kernel
theorem dX6_seat_25 : decode cX6_seat 25 = .ok (.getfield 38, 3) := by decide +kernel
theorem dX6_seat_28 : decode cX6_seat 28 = .ok (.iload 7, 2) := by decide +kernel
theorem dX6_seat_30 : decode cX6_seat 30 = .ok (.iaload, 1) := by decide +kernel
theorem dX6_seat_31 : decode cX6_seat 31 = .ok (.iload 4, 2) := by decide +kernel
theorem dX6_seat_33 : decode cX6_seat 33 = .ok (.if_icmp .ne 58, 3) := by decide +kernel
theorem dX6_seat_36 : decode cX6_seat 36 = .ok (.aload_n 0, 1) := by decide +kernel
theorem dX6_seat_37 : decode cX6_seat 37 = .ok (.getfield 29, 3) := by decide +kernel
theorem dX6_seat_40 : decode cX6_seat 40 = .ok (.bipush 7, 2) := by decide +kernel
theorem dX6_seat_42 : decode cX6_seat 42 = .ok (.if_icmp .ge 49, 3) := by decide +kernel
theorem dX6_seat_45 : decode cX6_seat 45 = .ok (.aload_n 0, 1) := by decide +kernel
theorem dX6_seat_46 : decode cX6_seat 46 = .ok (.getfield 9, 3) := by decide +kernel
theorem dX6_seat_49 : decode cX6_seat 49 = .ok (.aload_n 0, 1) := by decide +kernel
theorem dX6_seat_50 : decode cX6_seat 50 = .ok (.getfield 29, 3) := by decide +kernel
theorem dX6_seat_53 : decode cX6_seat 53 = .ok (.iload 7, 2) := by decide +kernel
theorem dX6_seat_55 : decode cX6_seat 55 = .ok (.iastore, 1) := by decide +kernel
theorem dX6_seat_56 : decode cX6_seat 56 = .ok (.aload_n 0, 1) := by decide +kernel
theorem dX6_seat_57 : decode cX6_seat 57 = .ok (.getfield 15, 3) := by decide +kernel
theorem dX6_seat_60 : decode cX6_seat 60 = .ok (.aload_n 0, 1) := by decide +kernel
theorem dX6_seat_61 : decode cX6_seat 61 = .ok (.getfield 29, 3) := by decide +kernel
theorem dX6_seat_64 : decode cX6_seat 64 = .ok (.aload_n 1, 1) := by decide +kernel
theorem dX6_seat_65 : decode cX6_seat 65 = .ok (.getfield 43, 3) := by decide +kernel
theorem dX6_seat_68 : decode cX6_seat 68 = .ok (.iload 7, 2) := by decide +kernel
theorem dX6_seat_70 : decode cX6_seat 70 = .ok (.iaload, 1) := by decide +kernel
theorem dX6_seat_71 : decode cX6_seat 71 = .ok (.iconst 3, 1) := by decide +kernel
theorem dX6_seat_72 : decode cX6_seat 72 = .ok (.if_icmp .ne 7, 3) := by decide +kernel
theorem dX6_seat_75 : decode cX6_seat 75 = .ok (.iconst 1, 1) := by decide +kernel
theorem dX6_seat_76 : decode cX6_seat 76 = .ok (.goto 4, 3) := by decide +kernel
theorem dX6_seat_79 : decode cX6_seat 79 = .ok (.iconst 0, 1) := by decide +kernel
theorem dX6_seat_80 : decode cX6_seat 80 = .ok (.bastore, 1) := by decide +kernel
theorem dX6_seat_81 : decode cX6_seat 81 = .ok (.aload_n 0, 1) := by decide +kernel
theorem dX6_seat_82 : decode cX6_seat 82 = .ok (.dup, 1) := by decide +kernel
theorem dX6_seat_83 : decode cX6_seat 83 = .ok (.getfield 29, 3) := by decide +kernel
theorem dX6_seat_86 : decode cX6_seat 86 = .ok (.iconst 1, 1) := by decide +kernel
theorem dX6_seat_87 : decode cX6_seat 87 = .ok (.iadd, 1) := by decide +kernel
theorem dX6_seat_88 : decode cX6_seat 88 = .ok (.putfield 29, 3) := by decide +kernel
theorem dX6_seat_91 : decode cX6_seat 91 = .ok (.iinc 6 1, 3) := by decide +kernel
theorem dX6_seat_94 : decode cX6_seat 94 = .ok (.goto (-86), 3) := by decide +kernel
theorem dX6_seat_97 : decode cX6_seat 97 = .ok (.aload_n 0, 1) := by decide +kernel
theorem dX6_seat_98 : decode cX6_seat 98 = .ok (.lconst 0, 1) := by decide +kernel
theorem dX6_seat_99 : decode cX6_seat 99 = .ok (.putfield 46, 3) := by decide +kernel
theorem dX6_seat_102 : decode cX6_seat 102 = .ok (.aload_n 0, 1) := by decide +kernel
theorem dX6_seat_103 : decode cX6_seat 103 = .ok (.lconst 0, 1) := by decide +kernel
theorem dX6_seat_104 : decode cX6_seat 104 = .ok (.putfield 50, 3) := by decide +kernel
theorem dX6_seat_107 : decode cX6_seat 107 = .ok (.iconst 0, 1) := by decide +kernel
theorem dX6_seat_108 : decode cX6_seat 108 = .ok (.istore 6, 2) := by decide +kernel
theorem dX6_seat_110 : decode cX6_seat 110 = .ok (.iload 6, 2) := by decide +kernel
theorem dX6_seat_112 : decode cX6_seat 112 = .ok (.aload_n 0, 1) := by decide +kernel
theorem dX6_seat_113 : decode cX6_seat 113 = .ok (.getfield 29, 3) := by decide +kernel
theorem dX6_seat_116 : decode cX6_seat 116 = .ok (.if_icmp .ge 17, 3) := by decide +kernel
theorem dX6_seat_119 : decode cX6_seat 119 = .ok (.aload_n 0, 1) := by decide +kernel
theorem dX6_seat_120 : decode cX6_seat 120 = .ok (.aload_n 1, 1) := by decide +kernel
theorem dX6_seat_121 : decode cX6_seat 121 = .ok (.aload_n 2, 1) := by decide +kernel
theorem dX6_seat_122 : decode cX6_seat 122 = .ok (.iload 6, 2) := by decide +kernel
theorem dX6_seat_124 : decode cX6_seat 124 = .ok (.invokevirtual 53, 3) := by decide +kernel
theorem dX6_seat_127 : decode cX6_seat 127 = .ok (.iinc 6 1, 3) := by decide +kernel
theorem dX6_seat_130 : decode cX6_seat 130 = .ok (.goto (-20), 3) := by decide +kernel
theorem dX6_seat_133 : decode cX6_seat 133 = .ok (.return_, 1) := by decide +kernel
theorem dX6_mostWorth_0 : decode cX6_mostWorth 0 = .ok (.aload_n 0, 1) := by decide +kernel
theorem dX6_mostWorth_1 : decode cX6_mostWorth 1 = .ok (.iconst (-1), 1) := by decide +kernel
theorem dX6_mostWorth_2 : decode cX6_mostWorth 2 = .ok (.putfield 57, 3) := by decide +kernel
theorem dX6_mostWorth_5 : decode cX6_mostWorth 5 = .ok (.aload_n 0, 1) := by decide +kernel
theorem dX6_mostWorth_6 : decode cX6_mostWorth 6 = .ok (.ldc 60, 2) := by decide +kernel
theorem dX6_mostWorth_8 : decode cX6_mostWorth 8 = .ok (.putfield 61, 3) := by decide +kernel
theorem dX6_mostWorth_11 : decode cX6_mostWorth 11 = .ok (.aload_n 0, 1) := by decide +kernel
theorem dX6_mostWorth_12 : decode cX6_mostWorth 12 = .ok (.iconst 0, 1) := by decide +kernel
theorem dX6_mostWorth_13 : decode cX6_mostWorth 13 = .ok (.aload_n 0, 1) := by decide +kernel
theorem dX6_mostWorth_14 : decode cX6_mostWorth 14 = .ok (.getfield 46, 3) := by decide +kernel
theorem dX6_mostWorth_17 : decode cX6_mostWorth 17 = .ok (.aload_n 0, 1) := by decide +kernel
theorem dX6_mostWorth_18 : decode cX6_mostWorth 18 = .ok (.getfield 50, 3) := by decide +kernel
theorem dX6_mostWorth_21 : decode cX6_mostWorth 21 = .ok (.iconst 0, 1) := by decide +kernel
theorem dX6_mostWorth_22 : decode cX6_mostWorth 22 = .ok (.invokevirtual 64, 3) := by decide +kernel
theorem dX6_mostWorth_25 : decode cX6_mostWorth 25 = .ok (.aload_n 0, 1) := by decide +kernel
theorem dX6_mostWorth_26 : decode cX6_mostWorth 26 = .ok (.getfield 57, 3) := by decide +kernel
theorem dX6_mostWorth_29 : decode cX6_mostWorth 29 = .ok (.ireturn, 1) := by decide +kernel
theorem dX6_pickFirst_0 : decode cX6_pickFirst 0 = .ok (.iconst 0, 1) := by decide +kernel
theorem dX6_pickFirst_1 : decode cX6_pickFirst 1 = .ok (.istore 4, 2) := by decide +kernel
theorem dX6_pickFirst_3 : decode cX6_pickFirst 3 = .ok (.iload 4, 2) := by decide +kernel
theorem dX6_pickFirst_5 : decode cX6_pickFirst 5 = .ok (.aload_n 1, 1) := by decide +kernel
theorem dX6_pickFirst_6 : decode cX6_pickFirst 6 = .ok (.getfield 33, 3) := by decide +kernel
theorem dX6_pickFirst_9 : decode cX6_pickFirst 9 = .ok (.if_icmp .ge 51, 3) := by decide +kernel
theorem dX6_pickFirst_12 : decode cX6_pickFirst 12 = .ok (.iconst 0, 1) := by decide +kernel
theorem dX6_pickFirst_13 : decode cX6_pickFirst 13 = .ok (.istore 5, 2) := by decide +kernel
theorem dX6_pickFirst_15 : decode cX6_pickFirst 15 = .ok (.iload 5, 2) := by decide +kernel
theorem dX6_pickFirst_17 : decode cX6_pickFirst 17 = .ok (.aload_n 0, 1) := by decide +kernel
theorem dX6_pickFirst_18 : decode cX6_pickFirst 18 = .ok (.getfield 29, 3) := by decide +kernel
theorem dX6_pickFirst_21 : decode cX6_pickFirst 21 = .ok (.if_icmp .ge 33, 3) := by decide +kernel
theorem dX6_pickFirst_24 : decode cX6_pickFirst 24 = .ok (.aload_n 0, 1) := by decide +kernel
theorem dX6_pickFirst_25 : decode cX6_pickFirst 25 = .ok (.getfield 9, 3) := by decide +kernel
theorem dX6_pickFirst_28 : decode cX6_pickFirst 28 = .ok (.iload 5, 2) := by decide +kernel
theorem dX6_pickFirst_30 : decode cX6_pickFirst 30 = .ok (.iaload, 1) := by decide +kernel
theorem dX6_pickFirst_31 : decode cX6_pickFirst 31 = .ok (.iload 4, 2) := by decide +kernel
theorem dX6_pickFirst_33 : decode cX6_pickFirst 33 = .ok (.if_icmp .ne 15, 3) := by decide +kernel
theorem dX6_pickFirst_36 : decode cX6_pickFirst 36 = .ok (.aload_n 3, 1) := by decide +kernel
theorem dX6_pickFirst_37 : decode cX6_pickFirst 37 = .ok (.iload 4, 2) := by decide +kernel
theorem dX6_pickFirst_39 : decode cX6_pickFirst 39 = .ok (.aload_n 0, 1) := by decide +kernel
theorem dX6_pickFirst_40 : decode cX6_pickFirst 40 = .ok (.aload_n 1, 1) := by decide +kernel
theorem dX6_pickFirst_41 : decode cX6_pickFirst 41 = .ok (.iload 5, 2) := by decide +kernel
theorem dX6_pickFirst_43 : decode cX6_pickFirst 43 = .ok (.iload_n 2, 1) := by decide +kernel
theorem dX6_pickFirst_44 : decode cX6_pickFirst 44 = .ok (.invokevirtual 68, 3) := by decide +kernel
theorem dX6_pickFirst_47 : decode cX6_pickFirst 47 = .ok (.iastore, 1) := by decide +kernel
theorem dX6_pickFirst_48 : decode cX6_pickFirst 48 = .ok (.iinc 5 1, 3) := by decide +kernel
theorem dX6_pickFirst_51 : decode cX6_pickFirst 51 = .ok (.goto (-36), 3) := by decide +kernel
theorem dX6_pickFirst_54 : decode cX6_pickFirst 54 = .ok (.iinc 4 1, 3) := by decide +kernel
theorem dX6_pickFirst_57 : decode cX6_pickFirst 57 = .ok (.goto (-54), 3) := by decide +kernel
theorem dX6_pickFirst_60 : decode cX6_pickFirst 60 = .ok (.return_, 1) := by decide +kernel
theorem dX6_firstReaching_0 : decode cX6_firstReaching 0 = .ok (.iload_n 2, 1) := by decide +kernel
theorem dX6_firstReaching_1 : decode cX6_firstReaching 1 = .ok (.aload_n 0, 1) := by decide +kernel
theorem dX6_firstReaching_2 : decode cX6_firstReaching 2 = .ok (.getfield 46, 3) := by decide +kernel
theorem dX6_firstReaching_5 : decode cX6_firstReaching 5 = .ok (.aload_n 0, 1) := by decide +kernel
theorem dX6_firstReaching_6 : decode cX6_firstReaching 6 = .ok (.getfield 50, 3) := by decide +kernel
theorem dX6_firstReaching_9 : decode cX6_firstReaching 9 = .ok (.invokestatic 72, 3) := by decide +kernel
theorem dX6_firstReaching_12 : decode cX6_firstReaching 12 = .ok (.istore 4, 2) := by decide +kernel
theorem dX6_firstReaching_14 : decode cX6_firstReaching 14 = .ok (.iconst 0, 1) := by decide +kernel
theorem dX6_firstReaching_15 : decode cX6_firstReaching 15 = .ok (.istore 5, 2) := by decide +kernel
theorem dX6_firstReaching_17 : decode cX6_firstReaching 17 = .ok (.iload 5, 2) := by decide +kernel
theorem dX6_firstReaching_19 : decode cX6_firstReaching 19 = .ok (.bipush 16, 2) := by decide +kernel
theorem dX6_firstReaching_21 : decode cX6_firstReaching 21 = .ok (.if_icmp .ge 48, 3) := by decide +kernel
theorem dX6_firstReaching_24 : decode cX6_firstReaching 24 = .ok (.aload_n 1, 1) := by decide +kernel
theorem dX6_firstReaching_25 : decode cX6_firstReaching 25 = .ok (.aload_n 0, 1) := by decide +kernel
theorem dX6_firstReaching_26 : decode cX6_firstReaching 26 = .ok (.getfield 9, 3) := by decide +kernel
theorem dX6_firstReaching_29 : decode cX6_firstReaching 29 = .ok (.iload_n 2, 1) := by decide +kernel
theorem dX6_firstReaching_30 : decode cX6_firstReaching 30 = .ok (.iaload, 1) := by decide +kernel
theorem dX6_firstReaching_31 : decode cX6_firstReaching 31 = .ok (.iload 5, 2) := by decide +kernel
theorem dX6_firstReaching_33 : decode cX6_firstReaching 33 = .ok (.invokevirtual 76, 3) := by decide +kernel
theorem dX6_firstReaching_36 : decode cX6_firstReaching 36 = .ok (.istore 6, 2) := by decide +kernel
theorem dX6_firstReaching_38 : decode cX6_firstReaching 38 = .ok (.iload 4, 2) := by decide +kernel
theorem dX6_firstReaching_40 : decode cX6_firstReaching 40 = .ok (.iload 6, 2) := by decide +kernel
theorem dX6_firstReaching_42 : decode cX6_firstReaching 42 = .ok (.ishr, 1) := by decide +kernel
theorem dX6_firstReaching_43 : decode cX6_firstReaching 43 = .ok (.iconst 1, 1) := by decide +kernel
theorem dX6_firstReaching_44 : decode cX6_firstReaching 44 = .ok (.iand, 1) := by decide +kernel
theorem dX6_firstReaching_45 : decode cX6_firstReaching 45 = .ok (.iconst 1, 1) := by decide +kernel
theorem dX6_firstReaching_46 : decode cX6_firstReaching 46 = .ok (.if_icmp .ne 17, 3) := by decide +kernel
theorem dX6_firstReaching_49 : decode cX6_firstReaching 49 = .ok (.aload_n 0, 1) := by decide +kernel
theorem dX6_firstReaching_50 : decode cX6_firstReaching 50 = .ok (.iload_n 2, 1) := by decide +kernel
theorem dX6_firstReaching_51 : decode cX6_firstReaching 51 = .ok (.iload 6, 2) := by decide +kernel
theorem dX6_firstReaching_53 : decode cX6_firstReaching 53 = .ok (.iload_n 3, 1) := by decide +kernel
theorem dX6_firstReaching_54 : decode cX6_firstReaching 54 = .ok (.invokevirtual 80, 3) := by decide +kernel
theorem dX6_firstReaching_57 : decode cX6_firstReaching 57 = .ok (.ifCond .eq 6, 3) := by decide +kernel
theorem dX6_firstReaching_60 : decode cX6_firstReaching 60 = .ok (.iload 5, 2) := by decide +kernel
theorem dX6_firstReaching_62 : decode cX6_firstReaching 62 = .ok (.ireturn, 1) := by decide +kernel
theorem dX6_firstReaching_63 : decode cX6_firstReaching 63 = .ok (.iinc 5 1, 3) := by decide +kernel
theorem dX6_firstReaching_66 : decode cX6_firstReaching 66 = .ok (.goto (-49), 3) := by decide +kernel
theorem dX6_firstReaching_69 : decode cX6_firstReaching 69 = .ok (.aload_n 0, 1) := by decide +kernel
theorem dX6_firstReaching_70 : decode cX6_firstReaching 70 = .ok (.dup, 1) := by decide +kernel
theorem dX6_firstReaching_71 : decode cX6_firstReaching 71 = .ok (.getfield 46, 3) := by decide +kernel
theorem dX6_firstReaching_74 : decode cX6_firstReaching 74 = .ok (.iload_n 2, 1) := by decide +kernel
theorem dX6_firstReaching_75 : decode cX6_firstReaching 75 = .ok (.ldc 84, 2) := by decide +kernel
theorem dX6_firstReaching_77 : decode cX6_firstReaching 77 = .ok (.invokestatic 85, 3) := by decide +kernel
theorem dX6_firstReaching_80 : decode cX6_firstReaching 80 = .ok (.ldc2_w 89, 3) := by decide +kernel
theorem dX6_firstReaching_83 : decode cX6_firstReaching 83 = .ok (.lxor, 1) := by decide +kernel
theorem dX6_firstReaching_84 : decode cX6_firstReaching 84 = .ok (.land, 1) := by decide +kernel
theorem dX6_firstReaching_85 : decode cX6_firstReaching 85 = .ok (.putfield 46, 3) := by decide +kernel
theorem dX6_firstReaching_88 : decode cX6_firstReaching 88 = .ok (.aload_n 0, 1) := by decide +kernel
theorem dX6_firstReaching_89 : decode cX6_firstReaching 89 = .ok (.dup, 1) := by decide +kernel
theorem dX6_firstReaching_90 : decode cX6_firstReaching 90 = .ok (.getfield 50, 3) := by decide +kernel
theorem dX6_firstReaching_93 : decode cX6_firstReaching 93 = .ok (.iload_n 2, 1) := by decide +kernel
theorem dX6_firstReaching_94 : decode cX6_firstReaching 94 = .ok (.ldc 84, 2) := by decide +kernel
theorem dX6_firstReaching_96 : decode cX6_firstReaching 96 = .ok (.invokestatic 91, 3) := by decide +kernel
theorem dX6_firstReaching_99 : decode cX6_firstReaching 99 = .ok (.ldc2_w 89, 3) := by decide +kernel
theorem dX6_firstReaching_102 : decode cX6_firstReaching 102 = .ok (.lxor, 1) := by decide +kernel
theorem dX6_firstReaching_103 : decode cX6_firstReaching 103 = .ok (.land, 1) := by decide +kernel
theorem dX6_firstReaching_104 : decode cX6_firstReaching 104 = .ok (.putfield 50, 3) := by decide +kernel
theorem dX6_firstReaching_107 : decode cX6_firstReaching 107 = .ok (.iconst (-1), 1) := by decide +kernel
theorem dX6_firstReaching_108 : decode cX6_firstReaching 108 = .ok (.ireturn, 1) := by decide +kernel
theorem dX6_fixIfReaching_0 : decode cX6_fixIfReaching 0 = .ok (.iload_n 1, 1) := by decide +kernel
theorem dX6_fixIfReaching_1 : decode cX6_fixIfReaching 1 = .ok (.bipush 17, 2) := by decide +kernel
theorem dX6_fixIfReaching_3 : decode cX6_fixIfReaching 3 = .ok (.imul, 1) := by decide +kernel
theorem dX6_fixIfReaching_4 : decode cX6_fixIfReaching 4 = .ok (.iload_n 2, 1) := by decide +kernel
theorem dX6_fixIfReaching_5 : decode cX6_fixIfReaching 5 = .ok (.iadd, 1) := by decide +kernel
theorem dX6_fixIfReaching_6 : decode cX6_fixIfReaching 6 = .ok (.istore 4, 2) := by decide +kernel
theorem dX6_fixIfReaching_8 : decode cX6_fixIfReaching 8 = .ok (.aload_n 0, 1) := by decide +kernel
theorem dX6_fixIfReaching_9 : decode cX6_fixIfReaching 9 = .ok (.getfield 46, 3) := by decide +kernel
theorem dX6_fixIfReaching_12 : decode cX6_fixIfReaching 12 = .ok (.aload_n 0, 1) := by decide +kernel
theorem dX6_fixIfReaching_13 : decode cX6_fixIfReaching 13 = .ok (.getfield 22, 3) := by decide +kernel
theorem dX6_fixIfReaching_16 : decode cX6_fixIfReaching 16 = .ok (.iload 4, 2) := by decide +kernel
theorem dX6_fixIfReaching_18 : decode cX6_fixIfReaching 18 = .ok (.laload, 1) := by decide +kernel
theorem dX6_fixIfReaching_19 : decode cX6_fixIfReaching 19 = .ok (.ldc2_w 89, 3) := by decide +kernel
theorem dX6_fixIfReaching_22 : decode cX6_fixIfReaching 22 = .ok (.lxor, 1) := by decide +kernel
theorem dX6_fixIfReaching_23 : decode cX6_fixIfReaching 23 = .ok (.land, 1) := by decide +kernel
theorem dX6_fixIfReaching_24 : decode cX6_fixIfReaching 24 = .ok (.iload_n 1, 1) := by decide +kernel
theorem dX6_fixIfReaching_25 : decode cX6_fixIfReaching 25 = .ok (.iconst 1, 1) := by decide +kernel
theorem dX6_fixIfReaching_26 : decode cX6_fixIfReaching 26 = .ok (.iload_n 2, 1) := by decide +kernel
theorem dX6_fixIfReaching_27 : decode cX6_fixIfReaching 27 = .ok (.ishl, 1) := by decide +kernel
theorem dX6_fixIfReaching_28 : decode cX6_fixIfReaching 28 = .ok (.invokestatic 85, 3) := by decide +kernel
theorem dX6_fixIfReaching_31 : decode cX6_fixIfReaching 31 = .ok (.lor, 1) := by decide +kernel
theorem dX6_fixIfReaching_32 : decode cX6_fixIfReaching 32 = .ok (.lstore 5, 2) := by decide +kernel
theorem dX6_fixIfReaching_34 : decode cX6_fixIfReaching 34 = .ok (.aload_n 0, 1) := by decide +kernel
theorem dX6_fixIfReaching_35 : decode cX6_fixIfReaching 35 = .ok (.getfield 50, 3) := by decide +kernel
theorem dX6_fixIfReaching_38 : decode cX6_fixIfReaching 38 = .ok (.aload_n 0, 1) := by decide +kernel
theorem dX6_fixIfReaching_39 : decode cX6_fixIfReaching 39 = .ok (.getfield 26, 3) := by decide +kernel
theorem dX6_fixIfReaching_42 : decode cX6_fixIfReaching 42 = .ok (.iload 4, 2) := by decide +kernel
theorem dX6_fixIfReaching_44 : decode cX6_fixIfReaching 44 = .ok (.laload, 1) := by decide +kernel
theorem dX6_fixIfReaching_45 : decode cX6_fixIfReaching 45 = .ok (.ldc2_w 89, 3) := by decide +kernel
theorem dX6_fixIfReaching_48 : decode cX6_fixIfReaching 48 = .ok (.lxor, 1) := by decide +kernel
theorem dX6_fixIfReaching_49 : decode cX6_fixIfReaching 49 = .ok (.land, 1) := by decide +kernel
theorem dX6_fixIfReaching_50 : decode cX6_fixIfReaching 50 = .ok (.iload_n 1, 1) := by decide +kernel
theorem dX6_fixIfReaching_51 : decode cX6_fixIfReaching 51 = .ok (.iconst 1, 1) := by decide +kernel
theorem dX6_fixIfReaching_52 : decode cX6_fixIfReaching 52 = .ok (.iload_n 2, 1) := by decide +kernel
theorem dX6_fixIfReaching_53 : decode cX6_fixIfReaching 53 = .ok (.ishl, 1) := by decide +kernel
theorem dX6_fixIfReaching_54 : decode cX6_fixIfReaching 54 = .ok (.invokestatic 91, 3) := by decide +kernel
theorem dX6_fixIfReaching_57 : decode cX6_fixIfReaching 57 = .ok (.lor, 1) := by decide +kernel
theorem dX6_fixIfReaching_58 : decode cX6_fixIfReaching 58 = .ok (.lstore 7, 2) := by decide +kernel
theorem dX6_fixIfReaching_60 : decode cX6_fixIfReaching 60 = .ok (.aload_n 0, 1) := by decide +kernel
theorem dX6_fixIfReaching_61 : decode cX6_fixIfReaching 61 = .ok (.iload_n 3, 1) := by decide +kernel
theorem dX6_fixIfReaching_62 : decode cX6_fixIfReaching 62 = .ok (.iconst 1, 1) := by decide +kernel
theorem dX6_fixIfReaching_63 : decode cX6_fixIfReaching 63 = .ok (.isub, 1) := by decide +kernel
theorem dX6_fixIfReaching_64 : decode cX6_fixIfReaching 64 = .ok (.putfield 57, 3) := by decide +kernel
theorem dX6_fixIfReaching_67 : decode cX6_fixIfReaching 67 = .ok (.aload_n 0, 1) := by decide +kernel
theorem dX6_fixIfReaching_68 : decode cX6_fixIfReaching 68 = .ok (.iload_n 3, 1) := by decide +kernel
theorem dX6_fixIfReaching_69 : decode cX6_fixIfReaching 69 = .ok (.putfield 61, 3) := by decide +kernel
theorem dX6_fixIfReaching_72 : decode cX6_fixIfReaching 72 = .ok (.aload_n 0, 1) := by decide +kernel
theorem dX6_fixIfReaching_73 : decode cX6_fixIfReaching 73 = .ok (.iconst 0, 1) := by decide +kernel
theorem dX6_fixIfReaching_74 : decode cX6_fixIfReaching 74 = .ok (.lload 5, 2) := by decide +kernel
theorem dX6_fixIfReaching_76 : decode cX6_fixIfReaching 76 = .ok (.lload 7, 2) := by decide +kernel
theorem dX6_fixIfReaching_78 : decode cX6_fixIfReaching 78 = .ok (.iconst 0, 1) := by decide +kernel
theorem dX6_fixIfReaching_79 : decode cX6_fixIfReaching 79 = .ok (.invokevirtual 64, 3) := by decide +kernel
theorem dX6_fixIfReaching_82 : decode cX6_fixIfReaching 82 = .ok (.aload_n 0, 1) := by decide +kernel
theorem dX6_fixIfReaching_83 : decode cX6_fixIfReaching 83 = .ok (.getfield 57, 3) := by decide +kernel
theorem dX6_fixIfReaching_86 : decode cX6_fixIfReaching 86 = .ok (.iload_n 3, 1) := by decide +kernel
theorem dX6_fixIfReaching_87 : decode cX6_fixIfReaching 87 = .ok (.if_icmp .ge 5, 3) := by decide +kernel
theorem dX6_fixIfReaching_90 : decode cX6_fixIfReaching 90 = .ok (.iconst 0, 1) := by decide +kernel
theorem dX6_fixIfReaching_91 : decode cX6_fixIfReaching 91 = .ok (.ireturn, 1) := by decide +kernel
theorem dX6_fixIfReaching_92 : decode cX6_fixIfReaching 92 = .ok (.aload_n 0, 1) := by decide +kernel
theorem dX6_fixIfReaching_93 : decode cX6_fixIfReaching 93 = .ok (.lload 5, 2) := by decide +kernel
theorem dX6_fixIfReaching_95 : decode cX6_fixIfReaching 95 = .ok (.putfield 46, 3) := by decide +kernel
theorem dX6_fixIfReaching_98 : decode cX6_fixIfReaching 98 = .ok (.aload_n 0, 1) := by decide +kernel
theorem dX6_fixIfReaching_99 : decode cX6_fixIfReaching 99 = .ok (.lload 7, 2) := by decide +kernel
theorem dX6_fixIfReaching_101 : decode cX6_fixIfReaching 101 = .ok (.putfield 50, 3) := by decide +kernel
theorem dX6_fixIfReaching_104 : decode cX6_fixIfReaching 104 = .ok (.iconst 1, 1) := by decide +kernel
theorem dX6_fixIfReaching_105 : decode cX6_fixIfReaching 105 = .ok (.ireturn, 1) := by decide +kernel
theorem dX6_gatherOptions_0 : decode cX6_gatherOptions 0 = .ok (.aload_n 0, 1) := by decide +kernel
theorem dX6_gatherOptions_1 : decode cX6_gatherOptions 1 = .ok (.getfield 9, 3) := by decide +kernel
theorem dX6_gatherOptions_4 : decode cX6_gatherOptions 4 = .ok (.iload_n 3, 1) := by decide +kernel
theorem dX6_gatherOptions_5 : decode cX6_gatherOptions 5 = .ok (.iaload, 1) := by decide +kernel
theorem dX6_gatherOptions_6 : decode cX6_gatherOptions 6 = .ok (.istore 4, 2) := by decide +kernel
theorem dX6_gatherOptions_8 : decode cX6_gatherOptions 8 = .ok (.aload_n 1, 1) := by decide +kernel
theorem dX6_gatherOptions_9 : decode cX6_gatherOptions 9 = .ok (.iload 4, 2) := by decide +kernel
theorem dX6_gatherOptions_11 : decode cX6_gatherOptions 11 = .ok (.aload_n 2, 1) := by decide +kernel
theorem dX6_gatherOptions_12 : decode cX6_gatherOptions 12 = .ok (.getfield 94, 3) := by decide +kernel
theorem dX6_gatherOptions_15 : decode cX6_gatherOptions 15 = .ok (.iload 4, 2) := by decide +kernel
theorem dX6_gatherOptions_17 : decode cX6_gatherOptions 17 = .ok (.iaload, 1) := by decide +kernel
theorem dX6_gatherOptions_18 : decode cX6_gatherOptions 18 = .ok (.invokestatic 99, 3) := by decide +kernel
theorem dX6_gatherOptions_21 : decode cX6_gatherOptions 21 = .ok (.istore 5, 2) := by decide +kernel
theorem dX6_gatherOptions_23 : decode cX6_gatherOptions 23 = .ok (.aload_n 0, 1) := by decide +kernel
theorem dX6_gatherOptions_24 : decode cX6_gatherOptions 24 = .ok (.dup, 1) := by decide +kernel
theorem dX6_gatherOptions_25 : decode cX6_gatherOptions 25 = .ok (.getfield 46, 3) := by decide +kernel
theorem dX6_gatherOptions_28 : decode cX6_gatherOptions 28 = .ok (.iload_n 3, 1) := by decide +kernel
theorem dX6_gatherOptions_29 : decode cX6_gatherOptions 29 = .ok (.iload 5, 2) := by decide +kernel
theorem dX6_gatherOptions_31 : decode cX6_gatherOptions 31 = .ok (.invokestatic 85, 3) := by decide +kernel
theorem dX6_gatherOptions_34 : decode cX6_gatherOptions 34 = .ok (.lor, 1) := by decide +kernel
theorem dX6_gatherOptions_35 : decode cX6_gatherOptions 35 = .ok (.putfield 46, 3) := by decide +kernel
theorem dX6_gatherOptions_38 : decode cX6_gatherOptions 38 = .ok (.aload_n 0, 1) := by decide +kernel
theorem dX6_gatherOptions_39 : decode cX6_gatherOptions 39 = .ok (.dup, 1) := by decide +kernel
theorem dX6_gatherOptions_40 : decode cX6_gatherOptions 40 = .ok (.getfield 50, 3) := by decide +kernel
theorem dX6_gatherOptions_43 : decode cX6_gatherOptions 43 = .ok (.iload_n 3, 1) := by decide +kernel
theorem dX6_gatherOptions_44 : decode cX6_gatherOptions 44 = .ok (.iload 5, 2) := by decide +kernel
theorem dX6_gatherOptions_46 : decode cX6_gatherOptions 46 = .ok (.invokestatic 91, 3) := by decide +kernel
theorem dX6_gatherOptions_49 : decode cX6_gatherOptions 49 = .ok (.lor, 1) := by decide +kernel
theorem dX6_gatherOptions_50 : decode cX6_gatherOptions 50 = .ok (.putfield 50, 3) := by decide +kernel
theorem dX6_gatherOptions_53 : decode cX6_gatherOptions 53 = .ok (.iconst 0, 1) := by decide +kernel
theorem dX6_gatherOptions_54 : decode cX6_gatherOptions 54 = .ok (.istore 6, 2) := by decide +kernel
theorem dX6_gatherOptions_56 : decode cX6_gatherOptions 56 = .ok (.iload 6, 2) := by decide +kernel
theorem dX6_gatherOptions_58 : decode cX6_gatherOptions 58 = .ok (.bipush 17, 2) := by decide +kernel
theorem dX6_gatherOptions_60 : decode cX6_gatherOptions 60 = .ok (.if_icmp .ge 99, 3) := by decide +kernel
theorem dX6_gatherOptions_63 : decode cX6_gatherOptions 63 = .ok (.iload_n 3, 1) := by decide +kernel
theorem dX6_gatherOptions_64 : decode cX6_gatherOptions 64 = .ok (.bipush 17, 2) := by decide +kernel
theorem dX6_gatherOptions_66 : decode cX6_gatherOptions 66 = .ok (.imul, 1) := by decide +kernel
theorem dX6_gatherOptions_67 : decode cX6_gatherOptions 67 = .ok (.iload 6, 2) := by decide +kernel
theorem dX6_gatherOptions_69 : decode cX6_gatherOptions 69 = .ok (.iadd, 1) := by decide +kernel
theorem dX6_gatherOptions_70 : decode cX6_gatherOptions 70 = .ok (.istore 7, 2) := by decide +kernel
theorem dX6_gatherOptions_72 : decode cX6_gatherOptions 72 = .ok (.aload_n 0, 1) := by decide +kernel
theorem dX6_gatherOptions_73 : decode cX6_gatherOptions 73 = .ok (.getfield 19, 3) := by decide +kernel
theorem dX6_gatherOptions_76 : decode cX6_gatherOptions 76 = .ok (.iload 7, 2) := by decide +kernel
theorem dX6_gatherOptions_78 : decode cX6_gatherOptions 78 = .ok (.iconst 0, 1) := by decide +kernel
theorem dX6_gatherOptions_79 : decode cX6_gatherOptions 79 = .ok (.iastore, 1) := by decide +kernel
theorem dX6_gatherOptions_80 : decode cX6_gatherOptions 80 = .ok (.aload_n 0, 1) := by decide +kernel
theorem dX6_gatherOptions_81 : decode cX6_gatherOptions 81 = .ok (.getfield 22, 3) := by decide +kernel
theorem dX6_gatherOptions_84 : decode cX6_gatherOptions 84 = .ok (.iload 7, 2) := by decide +kernel
theorem dX6_gatherOptions_86 : decode cX6_gatherOptions 86 = .ok (.iload_n 3, 1) := by decide +kernel
theorem dX6_gatherOptions_87 : decode cX6_gatherOptions 87 = .ok (.ldc 84, 2) := by decide +kernel
theorem dX6_gatherOptions_89 : decode cX6_gatherOptions 89 = .ok (.invokestatic 85, 3) := by decide +kernel
theorem dX6_gatherOptions_92 : decode cX6_gatherOptions 92 = .ok (.lastore, 1) := by decide +kernel
theorem dX6_gatherOptions_93 : decode cX6_gatherOptions 93 = .ok (.aload_n 0, 1) := by decide +kernel
theorem dX6_gatherOptions_94 : decode cX6_gatherOptions 94 = .ok (.getfield 26, 3) := by decide +kernel
theorem dX6_gatherOptions_97 : decode cX6_gatherOptions 97 = .ok (.iload 7, 2) := by decide +kernel
theorem dX6_gatherOptions_99 : decode cX6_gatherOptions 99 = .ok (.iload_n 3, 1) := by decide +kernel
theorem dX6_gatherOptions_100 : decode cX6_gatherOptions 100 = .ok (.ldc 84, 2) := by decide +kernel
theorem dX6_gatherOptions_102 : decode cX6_gatherOptions 102 = .ok (.invokestatic 91, 3) := by decide +kernel
theorem dX6_gatherOptions_105 : decode cX6_gatherOptions 105 = .ok (.lastore, 1) := by decide +kernel
theorem dX6_gatherOptions_106 : decode cX6_gatherOptions 106 = .ok (.iload 5, 2) := by decide +kernel
theorem dX6_gatherOptions_108 : decode cX6_gatherOptions 108 = .ok (.iload 6, 2) := by decide +kernel
theorem dX6_gatherOptions_110 : decode cX6_gatherOptions 110 = .ok (.ishr, 1) := by decide +kernel
theorem dX6_gatherOptions_111 : decode cX6_gatherOptions 111 = .ok (.iconst 1, 1) := by decide +kernel
theorem dX6_gatherOptions_112 : decode cX6_gatherOptions 112 = .ok (.iand, 1) := by decide +kernel
theorem dX6_gatherOptions_113 : decode cX6_gatherOptions 113 = .ok (.iconst 1, 1) := by decide +kernel
theorem dX6_gatherOptions_114 : decode cX6_gatherOptions 114 = .ok (.if_icmp .ne 39, 3) := by decide +kernel
theorem dX6_gatherOptions_117 : decode cX6_gatherOptions 117 = .ok (.aload_n 1, 1) := by decide +kernel
theorem dX6_gatherOptions_118 : decode cX6_gatherOptions 118 = .ok (.iload 4, 2) := by decide +kernel
theorem dX6_gatherOptions_120 : decode cX6_gatherOptions 120 = .ok (.iload 6, 2) := by decide +kernel
theorem dX6_gatherOptions_122 : decode cX6_gatherOptions 122 = .ok (.invokevirtual 102, 3) := by decide +kernel
theorem dX6_gatherOptions_125 : decode cX6_gatherOptions 125 = .ok (.istore 8, 2) := by decide +kernel
theorem dX6_gatherOptions_127 : decode cX6_gatherOptions 127 = .ok (.aload_n 0, 1) := by decide +kernel
theorem dX6_gatherOptions_128 : decode cX6_gatherOptions 128 = .ok (.getfield 19, 3) := by decide +kernel
theorem dX6_gatherOptions_131 : decode cX6_gatherOptions 131 = .ok (.iload 7, 2) := by decide +kernel
theorem dX6_gatherOptions_133 : decode cX6_gatherOptions 133 = .ok (.aload_n 1, 1) := by decide +kernel
theorem dX6_gatherOptions_134 : decode cX6_gatherOptions 134 = .ok (.iload 4, 2) := by decide +kernel
theorem dX6_gatherOptions_136 : decode cX6_gatherOptions 136 = .ok (.iload 8, 2) := by decide +kernel
theorem dX6_gatherOptions_138 : decode cX6_gatherOptions 138 = .ok (.invokevirtual 105, 3) := by decide +kernel
theorem dX6_gatherOptions_141 : decode cX6_gatherOptions 141 = .ok (.iastore, 1) := by decide +kernel
theorem dX6_gatherOptions_142 : decode cX6_gatherOptions 142 = .ok (.aload_n 0, 1) := by decide +kernel
theorem dX6_gatherOptions_143 : decode cX6_gatherOptions 143 = .ok (.aload_n 1, 1) := by decide +kernel
theorem dX6_gatherOptions_144 : decode cX6_gatherOptions 144 = .ok (.aload_n 2, 1) := by decide +kernel
theorem dX6_gatherOptions_145 : decode cX6_gatherOptions 145 = .ok (.iload_n 3, 1) := by decide +kernel
theorem dX6_gatherOptions_146 : decode cX6_gatherOptions 146 = .ok (.iload 8, 2) := by decide +kernel
theorem dX6_gatherOptions_148 : decode cX6_gatherOptions 148 = .ok (.iload 7, 2) := by decide +kernel
theorem dX6_gatherOptions_150 : decode cX6_gatherOptions 150 = .ok (.invokevirtual 108, 3) := by decide +kernel
theorem dX6_gatherOptions_153 : decode cX6_gatherOptions 153 = .ok (.iinc 6 1, 3) := by decide +kernel
theorem dX6_gatherOptions_156 : decode cX6_gatherOptions 156 = .ok (.goto (-100), 3) := by decide +kernel
theorem dX6_gatherOptions_159 : decode cX6_gatherOptions 159 = .ok (.return_, 1) := by decide +kernel
theorem dX6_gatherBans_0 : decode cX6_gatherBans 0 = .ok (.iconst 0, 1) := by decide +kernel
theorem dX6_gatherBans_1 : decode cX6_gatherBans 1 = .ok (.istore 6, 2) := by decide +kernel
theorem dX6_gatherBans_3 : decode cX6_gatherBans 3 = .ok (.iload 6, 2) := by decide +kernel
theorem dX6_gatherBans_5 : decode cX6_gatherBans 5 = .ok (.aload_n 0, 1) := by decide +kernel
theorem dX6_gatherBans_6 : decode cX6_gatherBans 6 = .ok (.getfield 29, 3) := by decide +kernel
theorem dX6_gatherBans_9 : decode cX6_gatherBans 9 = .ok (.if_icmp .ge 101, 3) := by decide +kernel
theorem dX6_gatherBans_12 : decode cX6_gatherBans 12 = .ok (.iload 6, 2) := by decide +kernel
theorem dX6_gatherBans_14 : decode cX6_gatherBans 14 = .ok (.iload_n 3, 1) := by decide +kernel
theorem dX6_gatherBans_15 : decode cX6_gatherBans 15 = .ok (.if_icmp .eq 89, 3) := by decide +kernel
theorem dX6_gatherBans_18 : decode cX6_gatherBans 18 = .ok (.aload_n 1, 1) := by decide +kernel
theorem dX6_gatherBans_19 : decode cX6_gatherBans 19 = .ok (.aload_n 0, 1) := by decide +kernel
theorem dX6_gatherBans_20 : decode cX6_gatherBans 20 = .ok (.getfield 9, 3) := by decide +kernel
theorem dX6_gatherBans_23 : decode cX6_gatherBans 23 = .ok (.iload_n 3, 1) := by decide +kernel
theorem dX6_gatherBans_24 : decode cX6_gatherBans 24 = .ok (.iaload, 1) := by decide +kernel
theorem dX6_gatherBans_25 : decode cX6_gatherBans 25 = .ok (.aload_n 0, 1) := by decide +kernel
theorem dX6_gatherBans_26 : decode cX6_gatherBans 26 = .ok (.getfield 9, 3) := by decide +kernel
theorem dX6_gatherBans_29 : decode cX6_gatherBans 29 = .ok (.iload 6, 2) := by decide +kernel
theorem dX6_gatherBans_31 : decode cX6_gatherBans 31 = .ok (.iaload, 1) := by decide +kernel
theorem dX6_gatherBans_32 : decode cX6_gatherBans 32 = .ok (.invokevirtual 112, 3) := by decide +kernel
theorem dX6_gatherBans_35 : decode cX6_gatherBans 35 = .ok (.ifCond .eq 69, 3) := by decide +kernel
theorem dX6_gatherBans_38 : decode cX6_gatherBans 38 = .ok (.aload_n 1, 1) := by decide +kernel
theorem dX6_gatherBans_39 : decode cX6_gatherBans 39 = .ok (.aload_n 0, 1) := by decide +kernel
theorem dX6_gatherBans_40 : decode cX6_gatherBans 40 = .ok (.getfield 9, 3) := by decide +kernel
theorem dX6_gatherBans_43 : decode cX6_gatherBans 43 = .ok (.iload 6, 2) := by decide +kernel
theorem dX6_gatherBans_45 : decode cX6_gatherBans 45 = .ok (.iaload, 1) := by decide +kernel
theorem dX6_gatherBans_46 : decode cX6_gatherBans 46 = .ok (.aload_n 2, 1) := by decide +kernel
theorem dX6_gatherBans_47 : decode cX6_gatherBans 47 = .ok (.aload_n 0, 1) := by decide +kernel
theorem dX6_gatherBans_48 : decode cX6_gatherBans 48 = .ok (.getfield 9, 3) := by decide +kernel
theorem dX6_gatherBans_51 : decode cX6_gatherBans 51 = .ok (.iload_n 3, 1) := by decide +kernel
theorem dX6_gatherBans_52 : decode cX6_gatherBans 52 = .ok (.iaload, 1) := by decide +kernel
theorem dX6_gatherBans_53 : decode cX6_gatherBans 53 = .ok (.iload 4, 2) := by decide +kernel
theorem dX6_gatherBans_55 : decode cX6_gatherBans 55 = .ok (.aload_n 0, 1) := by decide +kernel
theorem dX6_gatherBans_56 : decode cX6_gatherBans 56 = .ok (.getfield 9, 3) := by decide +kernel
theorem dX6_gatherBans_59 : decode cX6_gatherBans 59 = .ok (.iload 6, 2) := by decide +kernel
theorem dX6_gatherBans_61 : decode cX6_gatherBans 61 = .ok (.iaload, 1) := by decide +kernel
theorem dX6_gatherBans_62 : decode cX6_gatherBans 62 = .ok (.invokevirtual 116, 3) := by decide +kernel
theorem dX6_gatherBans_65 : decode cX6_gatherBans 65 = .ok (.invokestatic 99, 3) := by decide +kernel
theorem dX6_gatherBans_68 : decode cX6_gatherBans 68 = .ok (.istore 7, 2) := by decide +kernel
theorem dX6_gatherBans_70 : decode cX6_gatherBans 70 = .ok (.aload_n 0, 1) := by decide +kernel
theorem dX6_gatherBans_71 : decode cX6_gatherBans 71 = .ok (.getfield 22, 3) := by decide +kernel
theorem dX6_gatherBans_74 : decode cX6_gatherBans 74 = .ok (.iload 5, 2) := by decide +kernel
theorem dX6_gatherBans_76 : decode cX6_gatherBans 76 = .ok (.dup2, 1) := by decide +kernel
theorem dX6_gatherBans_77 : decode cX6_gatherBans 77 = .ok (.laload, 1) := by decide +kernel
theorem dX6_gatherBans_78 : decode cX6_gatherBans 78 = .ok (.iload 6, 2) := by decide +kernel
theorem dX6_gatherBans_80 : decode cX6_gatherBans 80 = .ok (.iload 7, 2) := by decide +kernel
theorem dX6_gatherBans_82 : decode cX6_gatherBans 82 = .ok (.invokestatic 85, 3) := by decide +kernel
theorem dX6_gatherBans_85 : decode cX6_gatherBans 85 = .ok (.lor, 1) := by decide +kernel
theorem dX6_gatherBans_86 : decode cX6_gatherBans 86 = .ok (.lastore, 1) := by decide +kernel
theorem dX6_gatherBans_87 : decode cX6_gatherBans 87 = .ok (.aload_n 0, 1) := by decide +kernel
theorem dX6_gatherBans_88 : decode cX6_gatherBans 88 = .ok (.getfield 26, 3) := by decide +kernel
theorem dX6_gatherBans_91 : decode cX6_gatherBans 91 = .ok (.iload 5, 2) := by decide +kernel
theorem dX6_gatherBans_93 : decode cX6_gatherBans 93 = .ok (.dup2, 1) := by decide +kernel
theorem dX6_gatherBans_94 : decode cX6_gatherBans 94 = .ok (.laload, 1) := by decide +kernel
theorem dX6_gatherBans_95 : decode cX6_gatherBans 95 = .ok (.iload 6, 2) := by decide +kernel
theorem dX6_gatherBans_97 : decode cX6_gatherBans 97 = .ok (.iload 7, 2) := by decide +kernel
theorem dX6_gatherBans_99 : decode cX6_gatherBans 99 = .ok (.invokestatic 91, 3) := by decide +kernel
theorem dX6_gatherBans_102 : decode cX6_gatherBans 102 = .ok (.lor, 1) := by decide +kernel
theorem dX6_gatherBans_103 : decode cX6_gatherBans 103 = .ok (.lastore, 1) := by decide +kernel
theorem dX6_gatherBans_104 : decode cX6_gatherBans 104 = .ok (.iinc 6 1, 3) := by decide +kernel
theorem dX6_gatherBans_107 : decode cX6_gatherBans 107 = .ok (.goto (-104), 3) := by decide +kernel
theorem dX6_gatherBans_110 : decode cX6_gatherBans 110 = .ok (.return_, 1) := by decide +kernel
theorem dX6_byRank_0 : decode cX6_byRank 0 = .ok (.iconst 0, 1) := by decide +kernel
theorem dX6_byRank_1 : decode cX6_byRank 1 = .ok (.istore_n 3, 1) := by decide +kernel
theorem dX6_byRank_2 : decode cX6_byRank 2 = .ok (.iconst 0, 1) := by decide +kernel
theorem dX6_byRank_3 : decode cX6_byRank 3 = .ok (.istore 4, 2) := by decide +kernel
theorem dX6_byRank_5 : decode cX6_byRank 5 = .ok (.iload 4, 2) := by decide +kernel
theorem dX6_byRank_7 : decode cX6_byRank 7 = .ok (.bipush 16, 2) := by decide +kernel
theorem dX6_byRank_9 : decode cX6_byRank 9 = .ok (.if_icmp .ge 26, 3) := by decide +kernel
theorem dX6_byRank_12 : decode cX6_byRank 12 = .ok (.iload_n 3, 1) := by decide +kernel
theorem dX6_byRank_13 : decode cX6_byRank 13 = .ok (.iload_n 2, 1) := by decide +kernel
theorem dX6_byRank_14 : decode cX6_byRank 14 = .ok (.iload 4, 2) := by decide +kernel
theorem dX6_byRank_16 : decode cX6_byRank 16 = .ok (.ishr, 1) := by decide +kernel
theorem dX6_byRank_17 : decode cX6_byRank 17 = .ok (.iconst 1, 1) := by decide +kernel
theorem dX6_byRank_18 : decode cX6_byRank 18 = .ok (.iand, 1) := by decide +kernel
theorem dX6_byRank_19 : decode cX6_byRank 19 = .ok (.aload_n 0, 1) := by decide +kernel
theorem dX6_byRank_20 : decode cX6_byRank 20 = .ok (.iload_n 1, 1) := by decide +kernel
theorem dX6_byRank_21 : decode cX6_byRank 21 = .ok (.iload 4, 2) := by decide +kernel
theorem dX6_byRank_23 : decode cX6_byRank 23 = .ok (.invokevirtual 76, 3) := by decide +kernel
theorem dX6_byRank_26 : decode cX6_byRank 26 = .ok (.ishl, 1) := by decide +kernel
theorem dX6_byRank_27 : decode cX6_byRank 27 = .ok (.ior, 1) := by decide +kernel
theorem dX6_byRank_28 : decode cX6_byRank 28 = .ok (.istore_n 3, 1) := by decide +kernel
theorem dX6_byRank_29 : decode cX6_byRank 29 = .ok (.iinc 4 1, 3) := by decide +kernel
theorem dX6_byRank_32 : decode cX6_byRank 32 = .ok (.goto (-27), 3) := by decide +kernel
theorem dX6_byRank_35 : decode cX6_byRank 35 = .ok (.iload_n 3, 1) := by decide +kernel
theorem dX6_byRank_36 : decode cX6_byRank 36 = .ok (.ireturn, 1) := by decide +kernel
theorem dX6_inFront_0 : decode cX6_inFront 0 = .ok (.iload_n 0, 1) := by decide +kernel
theorem dX6_inFront_1 : decode cX6_inFront 1 = .ok (.iconst 4, 1) := by decide +kernel
theorem dX6_inFront_2 : decode cX6_inFront 2 = .ok (.if_icmp .ge 13, 3) := by decide +kernel
theorem dX6_inFront_5 : decode cX6_inFront 5 = .ok (.iload_n 1, 1) := by decide +kernel
theorem dX6_inFront_6 : decode cX6_inFront 6 = .ok (.i2l, 1) := by decide +kernel
theorem dX6_inFront_7 : decode cX6_inFront 7 = .ok (.bipush 16, 2) := by decide +kernel
theorem dX6_inFront_9 : decode cX6_inFront 9 = .ok (.iload_n 0, 1) := by decide +kernel
theorem dX6_inFront_10 : decode cX6_inFront 10 = .ok (.imul, 1) := by decide +kernel
theorem dX6_inFront_11 : decode cX6_inFront 11 = .ok (.lshl, 1) := by decide +kernel
theorem dX6_inFront_12 : decode cX6_inFront 12 = .ok (.goto 4, 3) := by decide +kernel
theorem dX6_inFront_15 : decode cX6_inFront 15 = .ok (.lconst 0, 1) := by decide +kernel
theorem dX6_inFront_16 : decode cX6_inFront 16 = .ok (.lreturn, 1) := by decide +kernel
theorem dX6_inBack_0 : decode cX6_inBack 0 = .ok (.iload_n 0, 1) := by decide +kernel
theorem dX6_inBack_1 : decode cX6_inBack 1 = .ok (.iconst 4, 1) := by decide +kernel
theorem dX6_inBack_2 : decode cX6_inBack 2 = .ok (.if_icmp .ge 7, 3) := by decide +kernel
theorem dX6_inBack_5 : decode cX6_inBack 5 = .ok (.lconst 0, 1) := by decide +kernel
theorem dX6_inBack_6 : decode cX6_inBack 6 = .ok (.goto 12, 3) := by decide +kernel
theorem dX6_inBack_9 : decode cX6_inBack 9 = .ok (.iload_n 1, 1) := by decide +kernel
theorem dX6_inBack_10 : decode cX6_inBack 10 = .ok (.i2l, 1) := by decide +kernel
theorem dX6_inBack_11 : decode cX6_inBack 11 = .ok (.bipush 16, 2) := by decide +kernel
theorem dX6_inBack_13 : decode cX6_inBack 13 = .ok (.iload_n 0, 1) := by decide +kernel
theorem dX6_inBack_14 : decode cX6_inBack 14 = .ok (.iconst 4, 1) := by decide +kernel
theorem dX6_inBack_15 : decode cX6_inBack 15 = .ok (.isub, 1) := by decide +kernel
theorem dX6_inBack_16 : decode cX6_inBack 16 = .ok (.imul, 1) := by decide +kernel
theorem dX6_inBack_17 : decode cX6_inBack 17 = .ok (.lshl, 1) := by decide +kernel
theorem dX6_inBack_18 : decode cX6_inBack 18 = .ok (.lreturn, 1) := by decide +kernel
theorem dX6_bitsOf_0 : decode cX6_bitsOf 0 = .ok (.iload_n 0, 1) := by decide +kernel
theorem dX6_bitsOf_1 : decode cX6_bitsOf 1 = .ok (.iconst 4, 1) := by decide +kernel
theorem dX6_bitsOf_2 : decode cX6_bitsOf 2 = .ok (.if_icmp .ge 12, 3) := by decide +kernel
theorem dX6_bitsOf_5 : decode cX6_bitsOf 5 = .ok (.lload_n 1, 1) := by decide +kernel
theorem dX6_bitsOf_6 : decode cX6_bitsOf 6 = .ok (.bipush 16, 2) := by decide +kernel
theorem dX6_bitsOf_8 : decode cX6_bitsOf 8 = .ok (.iload_n 0, 1) := by decide +kernel
theorem dX6_bitsOf_9 : decode cX6_bitsOf 9 = .ok (.imul, 1) := by decide +kernel
theorem dX6_bitsOf_10 : decode cX6_bitsOf 10 = .ok (.lushr, 1) := by decide +kernel
theorem dX6_bitsOf_11 : decode cX6_bitsOf 11 = .ok (.goto 11, 3) := by decide +kernel
theorem dX6_bitsOf_14 : decode cX6_bitsOf 14 = .ok (.lload_n 3, 1) := by decide +kernel
theorem dX6_bitsOf_15 : decode cX6_bitsOf 15 = .ok (.bipush 16, 2) := by decide +kernel
theorem dX6_bitsOf_17 : decode cX6_bitsOf 17 = .ok (.iload_n 0, 1) := by decide +kernel
theorem dX6_bitsOf_18 : decode cX6_bitsOf 18 = .ok (.iconst 4, 1) := by decide +kernel
theorem dX6_bitsOf_19 : decode cX6_bitsOf 19 = .ok (.isub, 1) := by decide +kernel
theorem dX6_bitsOf_20 : decode cX6_bitsOf 20 = .ok (.imul, 1) := by decide +kernel
theorem dX6_bitsOf_21 : decode cX6_bitsOf 21 = .ok (.lushr, 1) := by decide +kernel
theorem dX6_bitsOf_22 : decode cX6_bitsOf 22 = .ok (.lstore 5, 2) := by decide +kernel
theorem dX6_bitsOf_24 : decode cX6_bitsOf 24 = .ok (.lload 5, 2) := by decide +kernel
theorem dX6_bitsOf_26 : decode cX6_bitsOf 26 = .ok (.l2i, 1) := by decide +kernel
theorem dX6_bitsOf_27 : decode cX6_bitsOf 27 = .ok (.ldc 84, 2) := by decide +kernel
theorem dX6_bitsOf_29 : decode cX6_bitsOf 29 = .ok (.iand, 1) := by decide +kernel
theorem dX6_bitsOf_30 : decode cX6_bitsOf 30 = .ok (.ireturn, 1) := by decide +kernel
theorem dX6_descend_0 : decode cX6_descend 0 = .ok (.iload_n 1, 1) := by decide +kernel
theorem dX6_descend_1 : decode cX6_descend 1 = .ok (.aload_n 0, 1) := by decide +kernel
theorem dX6_descend_2 : decode cX6_descend 2 = .ok (.getfield 29, 3) := by decide +kernel
theorem dX6_descend_5 : decode cX6_descend 5 = .ok (.if_icmp .lt 17, 3) := by decide +kernel
theorem dX6_descend_8 : decode cX6_descend 8 = .ok (.aload_n 0, 1) := by decide +kernel
theorem dX6_descend_9 : decode cX6_descend 9 = .ok (.aload_n 0, 1) := by decide +kernel
theorem dX6_descend_10 : decode cX6_descend 10 = .ok (.getfield 57, 3) := by decide +kernel
theorem dX6_descend_13 : decode cX6_descend 13 = .ok (.iload 6, 2) := by decide +kernel
theorem dX6_descend_15 : decode cX6_descend 15 = .ok (.invokestatic 120, 3) := by decide +kernel
theorem dX6_descend_18 : decode cX6_descend 18 = .ok (.putfield 57, 3) := by decide +kernel
theorem dX6_descend_21 : decode cX6_descend 21 = .ok (.return_, 1) := by decide +kernel
theorem dX6_descend_22 : decode cX6_descend 22 = .ok (.iload 6, 2) := by decide +kernel
theorem dX6_descend_24 : decode cX6_descend 24 = .ok (.aload_n 0, 1) := by decide +kernel
theorem dX6_descend_25 : decode cX6_descend 25 = .ok (.iload_n 1, 1) := by decide +kernel
theorem dX6_descend_26 : decode cX6_descend 26 = .ok (.lload_n 2, 1) := by decide +kernel
theorem dX6_descend_27 : decode cX6_descend 27 = .ok (.lload 4, 2) := by decide +kernel
theorem dX6_descend_29 : decode cX6_descend 29 = .ok (.invokevirtual 125, 3) := by decide +kernel
theorem dX6_descend_32 : decode cX6_descend 32 = .ok (.iadd, 1) := by decide +kernel
theorem dX6_descend_33 : decode cX6_descend 33 = .ok (.aload_n 0, 1) := by decide +kernel
theorem dX6_descend_34 : decode cX6_descend 34 = .ok (.getfield 57, 3) := by decide +kernel
theorem dX6_descend_37 : decode cX6_descend 37 = .ok (.if_icmp .gt 4, 3) := by decide +kernel
theorem dX6_descend_40 : decode cX6_descend 40 = .ok (.return_, 1) := by decide +kernel
theorem dX6_descend_41 : decode cX6_descend 41 = .ok (.iload_n 1, 1) := by decide +kernel
theorem dX6_descend_42 : decode cX6_descend 42 = .ok (.lload_n 2, 1) := by decide +kernel
theorem dX6_descend_43 : decode cX6_descend 43 = .ok (.lload 4, 2) := by decide +kernel
theorem dX6_descend_45 : decode cX6_descend 45 = .ok (.invokestatic 72, 3) := by decide +kernel
theorem dX6_descend_48 : decode cX6_descend 48 = .ok (.aload_n 0, 1) := by decide +kernel
theorem dX6_descend_49 : decode cX6_descend 49 = .ok (.getfield 15, 3) := by decide +kernel
theorem dX6_descend_52 : decode cX6_descend 52 = .ok (.iload_n 1, 1) := by decide +kernel
theorem dX6_descend_53 : decode cX6_descend 53 = .ok (.baload, 1) := by decide +kernel
theorem dX6_descend_54 : decode cX6_descend 54 = .ok (.ifCond .eq 7, 3) := by decide +kernel
theorem dX6_descend_57 : decode cX6_descend 57 = .ok (.iconst 0, 1) := by decide +kernel
theorem dX6_descend_58 : decode cX6_descend 58 = .ok (.goto 5, 3) := by decide +kernel
theorem dX6_descend_61 : decode cX6_descend 61 = .ok (.ldc 128, 2) := by decide +kernel
theorem dX6_descend_63 : decode cX6_descend 63 = .ok (.ior, 1) := by decide +kernel
theorem dX6_descend_64 : decode cX6_descend 64 = .ok (.istore 7, 2) := by decide +kernel
theorem dX6_descend_66 : decode cX6_descend 66 = .ok (.iconst 0, 1) := by decide +kernel
theorem dX6_descend_67 : decode cX6_descend 67 = .ok (.istore 8, 2) := by decide +kernel
theorem dX6_descend_69 : decode cX6_descend 69 = .ok (.iload 8, 2) := by decide +kernel
theorem dX6_descend_71 : decode cX6_descend 71 = .ok (.bipush 17, 2) := by decide +kernel
theorem dX6_descend_73 : decode cX6_descend 73 = .ok (.if_icmp .ge 99, 3) := by decide +kernel
theorem dX6_descend_76 : decode cX6_descend 76 = .ok (.aload_n 0, 1) := by decide +kernel
theorem dX6_descend_77 : decode cX6_descend 77 = .ok (.getfield 57, 3) := by decide +kernel
theorem dX6_descend_80 : decode cX6_descend 80 = .ok (.aload_n 0, 1) := by decide +kernel
theorem dX6_descend_81 : decode cX6_descend 81 = .ok (.getfield 61, 3) := by decide +kernel
theorem dX6_descend_84 : decode cX6_descend 84 = .ok (.if_icmp .ge 88, 3) := by decide +kernel
theorem dX6_descend_87 : decode cX6_descend 87 = .ok (.iload_n 1, 1) := by decide +kernel
theorem dX6_descend_88 : decode cX6_descend 88 = .ok (.bipush 17, 2) := by decide +kernel
theorem dX6_descend_90 : decode cX6_descend 90 = .ok (.imul, 1) := by decide +kernel
theorem dX6_descend_91 : decode cX6_descend 91 = .ok (.iload 8, 2) := by decide +kernel
theorem dX6_descend_93 : decode cX6_descend 93 = .ok (.iadd, 1) := by decide +kernel
theorem dX6_descend_94 : decode cX6_descend 94 = .ok (.istore 9, 2) := by decide +kernel
theorem dX6_descend_96 : decode cX6_descend 96 = .ok (.iload 7, 2) := by decide +kernel
theorem dX6_descend_98 : decode cX6_descend 98 = .ok (.iload 8, 2) := by decide +kernel
theorem dX6_descend_100 : decode cX6_descend 100 = .ok (.ishr, 1) := by decide +kernel
theorem dX6_descend_101 : decode cX6_descend 101 = .ok (.iconst 1, 1) := by decide +kernel
theorem dX6_descend_102 : decode cX6_descend 102 = .ok (.iand, 1) := by decide +kernel
theorem dX6_descend_103 : decode cX6_descend 103 = .ok (.iconst 1, 1) := by decide +kernel
theorem dX6_descend_104 : decode cX6_descend 104 = .ok (.if_icmp .ne 62, 3) := by decide +kernel
theorem dX6_descend_107 : decode cX6_descend 107 = .ok (.aload_n 0, 1) := by decide +kernel
theorem dX6_descend_108 : decode cX6_descend 108 = .ok (.iload_n 1, 1) := by decide +kernel
theorem dX6_descend_109 : decode cX6_descend 109 = .ok (.iload 8, 2) := by decide +kernel
theorem dX6_descend_111 : decode cX6_descend 111 = .ok (.iload 7, 2) := by decide +kernel
theorem dX6_descend_113 : decode cX6_descend 113 = .ok (.lload_n 2, 1) := by decide +kernel
theorem dX6_descend_114 : decode cX6_descend 114 = .ok (.lload 4, 2) := by decide +kernel
theorem dX6_descend_116 : decode cX6_descend 116 = .ok (.invokevirtual 129, 3) := by decide +kernel
theorem dX6_descend_119 : decode cX6_descend 119 = .ok (.ifCond .ne 47, 3) := by decide +kernel
theorem dX6_descend_122 : decode cX6_descend 122 = .ok (.aload_n 0, 1) := by decide +kernel
theorem dX6_descend_123 : decode cX6_descend 123 = .ok (.iload_n 1, 1) := by decide +kernel
theorem dX6_descend_124 : decode cX6_descend 124 = .ok (.iconst 1, 1) := by decide +kernel
theorem dX6_descend_125 : decode cX6_descend 125 = .ok (.iadd, 1) := by decide +kernel
theorem dX6_descend_126 : decode cX6_descend 126 = .ok (.lload_n 2, 1) := by decide +kernel
theorem dX6_descend_127 : decode cX6_descend 127 = .ok (.aload_n 0, 1) := by decide +kernel
theorem dX6_descend_128 : decode cX6_descend 128 = .ok (.getfield 22, 3) := by decide +kernel
theorem dX6_descend_131 : decode cX6_descend 131 = .ok (.iload 9, 2) := by decide +kernel
theorem dX6_descend_133 : decode cX6_descend 133 = .ok (.laload, 1) := by decide +kernel
theorem dX6_descend_134 : decode cX6_descend 134 = .ok (.ldc2_w 89, 3) := by decide +kernel
theorem dX6_descend_137 : decode cX6_descend 137 = .ok (.lxor, 1) := by decide +kernel
theorem dX6_descend_138 : decode cX6_descend 138 = .ok (.land, 1) := by decide +kernel
theorem dX6_descend_139 : decode cX6_descend 139 = .ok (.lload 4, 2) := by decide +kernel
theorem dX6_descend_141 : decode cX6_descend 141 = .ok (.aload_n 0, 1) := by decide +kernel
theorem dX6_descend_142 : decode cX6_descend 142 = .ok (.getfield 26, 3) := by decide +kernel
theorem dX6_descend_145 : decode cX6_descend 145 = .ok (.iload 9, 2) := by decide +kernel
theorem dX6_descend_147 : decode cX6_descend 147 = .ok (.laload, 1) := by decide +kernel
theorem dX6_descend_148 : decode cX6_descend 148 = .ok (.ldc2_w 89, 3) := by decide +kernel
theorem dX6_descend_151 : decode cX6_descend 151 = .ok (.lxor, 1) := by decide +kernel
theorem dX6_descend_152 : decode cX6_descend 152 = .ok (.land, 1) := by decide +kernel
theorem dX6_descend_153 : decode cX6_descend 153 = .ok (.iload 6, 2) := by decide +kernel
theorem dX6_descend_155 : decode cX6_descend 155 = .ok (.aload_n 0, 1) := by decide +kernel
theorem dX6_descend_156 : decode cX6_descend 156 = .ok (.getfield 19, 3) := by decide +kernel
theorem dX6_descend_159 : decode cX6_descend 159 = .ok (.iload 9, 2) := by decide +kernel
theorem dX6_descend_161 : decode cX6_descend 161 = .ok (.iaload, 1) := by decide +kernel
theorem dX6_descend_162 : decode cX6_descend 162 = .ok (.iadd, 1) := by decide +kernel
theorem dX6_descend_163 : decode cX6_descend 163 = .ok (.invokevirtual 64, 3) := by decide +kernel
theorem dX6_descend_166 : decode cX6_descend 166 = .ok (.iinc 8 1, 3) := by decide +kernel
theorem dX6_descend_169 : decode cX6_descend 169 = .ok (.goto (-100), 3) := by decide +kernel
theorem dX6_descend_172 : decode cX6_descend 172 = .ok (.return_, 1) := by decide +kernel
theorem dX6_hope_0 : decode cX6_hope 0 = .ok (.iconst 0, 1) := by decide +kernel
theorem dX6_hope_1 : decode cX6_hope 1 = .ok (.istore 6, 2) := by decide +kernel
theorem dX6_hope_3 : decode cX6_hope 3 = .ok (.iload_n 1, 1) := by decide +kernel
theorem dX6_hope_4 : decode cX6_hope 4 = .ok (.istore 7, 2) := by decide +kernel
theorem dX6_hope_6 : decode cX6_hope 6 = .ok (.iload 7, 2) := by decide +kernel
theorem dX6_hope_8 : decode cX6_hope 8 = .ok (.aload_n 0, 1) := by decide +kernel
theorem dX6_hope_9 : decode cX6_hope 9 = .ok (.getfield 29, 3) := by decide +kernel
theorem dX6_hope_12 : decode cX6_hope 12 = .ok (.if_icmp .ge 61, 3) := by decide +kernel
theorem dX6_hope_15 : decode cX6_hope 15 = .ok (.iload 7, 2) := by decide +kernel
theorem dX6_hope_17 : decode cX6_hope 17 = .ok (.lload_n 2, 1) := by decide +kernel
theorem dX6_hope_18 : decode cX6_hope 18 = .ok (.lload 4, 2) := by decide +kernel
theorem dX6_hope_20 : decode cX6_hope 20 = .ok (.invokestatic 72, 3) := by decide +kernel
theorem dX6_hope_23 : decode cX6_hope 23 = .ok (.istore 8, 2) := by decide +kernel
theorem dX6_hope_25 : decode cX6_hope 25 = .ok (.iload 8, 2) := by decide +kernel
theorem dX6_hope_27 : decode cX6_hope 27 = .ok (.ifCond .eq 27, 3) := by decide +kernel
theorem dX6_hope_30 : decode cX6_hope 30 = .ok (.iload 6, 2) := by decide +kernel
theorem dX6_hope_32 : decode cX6_hope 32 = .ok (.aload_n 0, 1) := by decide +kernel
theorem dX6_hope_33 : decode cX6_hope 33 = .ok (.getfield 19, 3) := by decide +kernel
theorem dX6_hope_36 : decode cX6_hope 36 = .ok (.iload 7, 2) := by decide +kernel
theorem dX6_hope_38 : decode cX6_hope 38 = .ok (.bipush 17, 2) := by decide +kernel
theorem dX6_hope_40 : decode cX6_hope 40 = .ok (.imul, 1) := by decide +kernel
theorem dX6_hope_41 : decode cX6_hope 41 = .ok (.iload 8, 2) := by decide +kernel
theorem dX6_hope_43 : decode cX6_hope 43 = .ok (.invokestatic 133, 3) := by decide +kernel
theorem dX6_hope_46 : decode cX6_hope 46 = .ok (.iadd, 1) := by decide +kernel
theorem dX6_hope_47 : decode cX6_hope 47 = .ok (.iaload, 1) := by decide +kernel
theorem dX6_hope_48 : decode cX6_hope 48 = .ok (.iadd, 1) := by decide +kernel
theorem dX6_hope_49 : decode cX6_hope 49 = .ok (.istore 6, 2) := by decide +kernel
theorem dX6_hope_51 : decode cX6_hope 51 = .ok (.goto 16, 3) := by decide +kernel
theorem dX6_hope_54 : decode cX6_hope 54 = .ok (.aload_n 0, 1) := by decide +kernel
theorem dX6_hope_55 : decode cX6_hope 55 = .ok (.getfield 15, 3) := by decide +kernel
theorem dX6_hope_58 : decode cX6_hope 58 = .ok (.iload 7, 2) := by decide +kernel
theorem dX6_hope_60 : decode cX6_hope 60 = .ok (.baload, 1) := by decide +kernel
theorem dX6_hope_61 : decode cX6_hope 61 = .ok (.ifCond .eq 6, 3) := by decide +kernel
theorem dX6_hope_64 : decode cX6_hope 64 = .ok (.ldc 139, 2) := by decide +kernel
theorem dX6_hope_66 : decode cX6_hope 66 = .ok (.ireturn, 1) := by decide +kernel
theorem dX6_hope_67 : decode cX6_hope 67 = .ok (.iinc 7 1, 3) := by decide +kernel
theorem dX6_hope_70 : decode cX6_hope 70 = .ok (.goto (-64), 3) := by decide +kernel
theorem dX6_hope_73 : decode cX6_hope 73 = .ok (.iload 6, 2) := by decide +kernel
theorem dX6_hope_75 : decode cX6_hope 75 = .ok (.ireturn, 1) := by decide +kernel
theorem dX6_isBeaten_0 : decode cX6_isBeaten 0 = .ok (.iload_n 1, 1) := by decide +kernel
theorem dX6_isBeaten_1 : decode cX6_isBeaten 1 = .ok (.bipush 17, 2) := by decide +kernel
theorem dX6_isBeaten_3 : decode cX6_isBeaten 3 = .ok (.imul, 1) := by decide +kernel
theorem dX6_isBeaten_4 : decode cX6_isBeaten 4 = .ok (.iload_n 2, 1) := by decide +kernel
theorem dX6_isBeaten_5 : decode cX6_isBeaten 5 = .ok (.iadd, 1) := by decide +kernel
theorem dX6_isBeaten_6 : decode cX6_isBeaten 6 = .ok (.istore 8, 2) := by decide +kernel
theorem dX6_isBeaten_8 : decode cX6_isBeaten 8 = .ok (.iload_n 1, 1) := by decide +kernel
theorem dX6_isBeaten_9 : decode cX6_isBeaten 9 = .ok (.bipush 17, 2) := by decide +kernel
theorem dX6_isBeaten_11 : decode cX6_isBeaten 11 = .ok (.imul, 1) := by decide +kernel
theorem dX6_isBeaten_12 : decode cX6_isBeaten 12 = .ok (.istore 9, 2) := by decide +kernel
theorem dX6_isBeaten_14 : decode cX6_isBeaten 14 = .ok (.iload 9, 2) := by decide +kernel
theorem dX6_isBeaten_16 : decode cX6_isBeaten 16 = .ok (.iload 8, 2) := by decide +kernel
theorem dX6_isBeaten_18 : decode cX6_isBeaten 18 = .ok (.if_icmp .ge 92, 3) := by decide +kernel
theorem dX6_isBeaten_21 : decode cX6_isBeaten 21 = .ok (.iload_n 3, 1) := by decide +kernel
theorem dX6_isBeaten_22 : decode cX6_isBeaten 22 = .ok (.iload 9, 2) := by decide +kernel
theorem dX6_isBeaten_24 : decode cX6_isBeaten 24 = .ok (.iload_n 1, 1) := by decide +kernel
theorem dX6_isBeaten_25 : decode cX6_isBeaten 25 = .ok (.bipush 17, 2) := by decide +kernel
theorem dX6_isBeaten_27 : decode cX6_isBeaten 27 = .ok (.imul, 1) := by decide +kernel
theorem dX6_isBeaten_28 : decode cX6_isBeaten 28 = .ok (.isub, 1) := by decide +kernel
theorem dX6_isBeaten_29 : decode cX6_isBeaten 29 = .ok (.ishr, 1) := by decide +kernel
theorem dX6_isBeaten_30 : decode cX6_isBeaten 30 = .ok (.iconst 1, 1) := by decide +kernel
theorem dX6_isBeaten_31 : decode cX6_isBeaten 31 = .ok (.iand, 1) := by decide +kernel
theorem dX6_isBeaten_32 : decode cX6_isBeaten 32 = .ok (.iconst 1, 1) := by decide +kernel
theorem dX6_isBeaten_33 : decode cX6_isBeaten 33 = .ok (.if_icmp .ne 7, 3) := by decide +kernel
theorem dX6_isBeaten_36 : decode cX6_isBeaten 36 = .ok (.iconst 1, 1) := by decide +kernel
theorem dX6_isBeaten_37 : decode cX6_isBeaten 37 = .ok (.goto 4, 3) := by decide +kernel
theorem dX6_isBeaten_40 : decode cX6_isBeaten 40 = .ok (.iconst 0, 1) := by decide +kernel
theorem dX6_isBeaten_41 : decode cX6_isBeaten 41 = .ok (.istore 10, 2) := by decide +kernel
theorem dX6_isBeaten_43 : decode cX6_isBeaten 43 = .ok (.iload 10, 2) := by decide +kernel
theorem dX6_isBeaten_45 : decode cX6_isBeaten 45 = .ok (.ifCond .eq 59, 3) := by decide +kernel
theorem dX6_isBeaten_48 : decode cX6_isBeaten 48 = .ok (.aload_n 0, 1) := by decide +kernel
theorem dX6_isBeaten_49 : decode cX6_isBeaten 49 = .ok (.getfield 22, 3) := by decide +kernel
theorem dX6_isBeaten_52 : decode cX6_isBeaten 52 = .ok (.iload 9, 2) := by decide +kernel
theorem dX6_isBeaten_54 : decode cX6_isBeaten 54 = .ok (.laload, 1) := by decide +kernel
theorem dX6_isBeaten_55 : decode cX6_isBeaten 55 = .ok (.aload_n 0, 1) := by decide +kernel
theorem dX6_isBeaten_56 : decode cX6_isBeaten 56 = .ok (.getfield 22, 3) := by decide +kernel
theorem dX6_isBeaten_59 : decode cX6_isBeaten 59 = .ok (.iload 8, 2) := by decide +kernel
theorem dX6_isBeaten_61 : decode cX6_isBeaten 61 = .ok (.laload, 1) := by decide +kernel
theorem dX6_isBeaten_62 : decode cX6_isBeaten 62 = .ok (.ldc2_w 89, 3) := by decide +kernel
theorem dX6_isBeaten_65 : decode cX6_isBeaten 65 = .ok (.lxor, 1) := by decide +kernel
theorem dX6_isBeaten_66 : decode cX6_isBeaten 66 = .ok (.land, 1) := by decide +kernel
theorem dX6_isBeaten_67 : decode cX6_isBeaten 67 = .ok (.lload 4, 2) := by decide +kernel
theorem dX6_isBeaten_69 : decode cX6_isBeaten 69 = .ok (.land, 1) := by decide +kernel
theorem dX6_isBeaten_70 : decode cX6_isBeaten 70 = .ok (.lconst 0, 1) := by decide +kernel
theorem dX6_isBeaten_71 : decode cX6_isBeaten 71 = .ok (.lcmp, 1) := by decide +kernel
theorem dX6_isBeaten_72 : decode cX6_isBeaten 72 = .ok (.ifCond .ne 32, 3) := by decide +kernel
theorem dX6_isBeaten_75 : decode cX6_isBeaten 75 = .ok (.aload_n 0, 1) := by decide +kernel
theorem dX6_isBeaten_76 : decode cX6_isBeaten 76 = .ok (.getfield 26, 3) := by decide +kernel
theorem dX6_isBeaten_79 : decode cX6_isBeaten 79 = .ok (.iload 9, 2) := by decide +kernel
theorem dX6_isBeaten_81 : decode cX6_isBeaten 81 = .ok (.laload, 1) := by decide +kernel
theorem dX6_isBeaten_82 : decode cX6_isBeaten 82 = .ok (.aload_n 0, 1) := by decide +kernel
theorem dX6_isBeaten_83 : decode cX6_isBeaten 83 = .ok (.getfield 26, 3) := by decide +kernel
theorem dX6_isBeaten_86 : decode cX6_isBeaten 86 = .ok (.iload 8, 2) := by decide +kernel
theorem dX6_isBeaten_88 : decode cX6_isBeaten 88 = .ok (.laload, 1) := by decide +kernel
theorem dX6_isBeaten_89 : decode cX6_isBeaten 89 = .ok (.ldc2_w 89, 3) := by decide +kernel
theorem dX6_isBeaten_92 : decode cX6_isBeaten 92 = .ok (.lxor, 1) := by decide +kernel
theorem dX6_isBeaten_93 : decode cX6_isBeaten 93 = .ok (.land, 1) := by decide +kernel
theorem dX6_isBeaten_94 : decode cX6_isBeaten 94 = .ok (.lload 6, 2) := by decide +kernel
theorem dX6_isBeaten_96 : decode cX6_isBeaten 96 = .ok (.land, 1) := by decide +kernel
theorem dX6_isBeaten_97 : decode cX6_isBeaten 97 = .ok (.lconst 0, 1) := by decide +kernel
theorem dX6_isBeaten_98 : decode cX6_isBeaten 98 = .ok (.lcmp, 1) := by decide +kernel
theorem dX6_isBeaten_99 : decode cX6_isBeaten 99 = .ok (.ifCond .ne 5, 3) := by decide +kernel
theorem dX6_isBeaten_102 : decode cX6_isBeaten 102 = .ok (.iconst 1, 1) := by decide +kernel
theorem dX6_isBeaten_103 : decode cX6_isBeaten 103 = .ok (.ireturn, 1) := by decide +kernel
theorem dX6_isBeaten_104 : decode cX6_isBeaten 104 = .ok (.iinc 9 1, 3) := by decide +kernel
theorem dX6_isBeaten_107 : decode cX6_isBeaten 107 = .ok (.goto (-93), 3) := by decide +kernel
theorem dX6_isBeaten_110 : decode cX6_isBeaten 110 = .ok (.iconst 0, 1) := by decide +kernel
theorem dX6_isBeaten_111 : decode cX6_isBeaten 111 = .ok (.ireturn, 1) := by decide +kernel
theorem dJ6_numberOfTrailingZeros_0f7a4_0 : decode cJ6_numberOfTrailingZeros_0f7a4 0 = .ok (.iload_n 0, 1) := by decide +kernel
theorem dJ6_numberOfTrailingZeros_0f7a4_1 : decode cJ6_numberOfTrailingZeros_0f7a4 1 = .ok (.iconst (-1), 1) := by decide +kernel
theorem dJ6_numberOfTrailingZeros_0f7a4_2 : decode cJ6_numberOfTrailingZeros_0f7a4 2 = .ok (.ixor, 1) := by decide +kernel
theorem dJ6_numberOfTrailingZeros_0f7a4_3 : decode cJ6_numberOfTrailingZeros_0f7a4 3 = .ok (.iload_n 0, 1) := by decide +kernel
theorem dJ6_numberOfTrailingZeros_0f7a4_4 : decode cJ6_numberOfTrailingZeros_0f7a4 4 = .ok (.iconst 1, 1) := by decide +kernel
theorem dJ6_numberOfTrailingZeros_0f7a4_5 : decode cJ6_numberOfTrailingZeros_0f7a4 5 = .ok (.isub, 1) := by decide +kernel
theorem dJ6_numberOfTrailingZeros_0f7a4_6 : decode cJ6_numberOfTrailingZeros_0f7a4 6 = .ok (.iand, 1) := by decide +kernel
theorem dJ6_numberOfTrailingZeros_0f7a4_7 : decode cJ6_numberOfTrailingZeros_0f7a4 7 = .ok (.istore_n 0, 1) := by decide +kernel
theorem dJ6_numberOfTrailingZeros_0f7a4_8 : decode cJ6_numberOfTrailingZeros_0f7a4 8 = .ok (.iload_n 0, 1) := by decide +kernel
theorem dJ6_numberOfTrailingZeros_0f7a4_9 : decode cJ6_numberOfTrailingZeros_0f7a4 9 = .ok (.ifCond .gt 8, 3) := by decide +kernel
theorem dJ6_numberOfTrailingZeros_0f7a4_12 : decode cJ6_numberOfTrailingZeros_0f7a4 12 = .ok (.iload_n 0, 1) := by decide +kernel
theorem dJ6_numberOfTrailingZeros_0f7a4_13 : decode cJ6_numberOfTrailingZeros_0f7a4 13 = .ok (.bipush 32, 2) := by decide +kernel
theorem dJ6_numberOfTrailingZeros_0f7a4_15 : decode cJ6_numberOfTrailingZeros_0f7a4 15 = .ok (.iand, 1) := by decide +kernel
theorem dJ6_numberOfTrailingZeros_0f7a4_16 : decode cJ6_numberOfTrailingZeros_0f7a4 16 = .ok (.ireturn, 1) := by decide +kernel
theorem dJ6_numberOfTrailingZeros_0f7a4_17 : decode cJ6_numberOfTrailingZeros_0f7a4 17 = .ok (.iconst 1, 1) := by decide +kernel
theorem dJ6_numberOfTrailingZeros_0f7a4_18 : decode cJ6_numberOfTrailingZeros_0f7a4 18 = .ok (.istore_n 1, 1) := by decide +kernel
theorem dJ6_numberOfTrailingZeros_0f7a4_19 : decode cJ6_numberOfTrailingZeros_0f7a4 19 = .ok (.iload_n 0, 1) := by decide +kernel
theorem dJ6_numberOfTrailingZeros_0f7a4_20 : decode cJ6_numberOfTrailingZeros_0f7a4 20 = .ok (.ldc_w 264, 3) := by decide +kernel
theorem dJ6_numberOfTrailingZeros_0f7a4_23 : decode cJ6_numberOfTrailingZeros_0f7a4 23 = .ok (.if_icmp .le 11, 3) := by decide +kernel
theorem dJ6_numberOfTrailingZeros_0f7a4_26 : decode cJ6_numberOfTrailingZeros_0f7a4 26 = .ok (.iinc 1 16, 3) := by decide +kernel
theorem dJ6_numberOfTrailingZeros_0f7a4_29 : decode cJ6_numberOfTrailingZeros_0f7a4 29 = .ok (.iload_n 0, 1) := by decide +kernel
theorem dJ6_numberOfTrailingZeros_0f7a4_30 : decode cJ6_numberOfTrailingZeros_0f7a4 30 = .ok (.bipush 16, 2) := by decide +kernel
theorem dJ6_numberOfTrailingZeros_0f7a4_32 : decode cJ6_numberOfTrailingZeros_0f7a4 32 = .ok (.iushr, 1) := by decide +kernel
theorem dJ6_numberOfTrailingZeros_0f7a4_33 : decode cJ6_numberOfTrailingZeros_0f7a4 33 = .ok (.istore_n 0, 1) := by decide +kernel
theorem dJ6_numberOfTrailingZeros_0f7a4_34 : decode cJ6_numberOfTrailingZeros_0f7a4 34 = .ok (.iload_n 0, 1) := by decide +kernel
theorem dJ6_numberOfTrailingZeros_0f7a4_35 : decode cJ6_numberOfTrailingZeros_0f7a4 35 = .ok (.sipush 256, 3) := by decide +kernel
theorem dJ6_numberOfTrailingZeros_0f7a4_38 : decode cJ6_numberOfTrailingZeros_0f7a4 38 = .ok (.if_icmp .le 11, 3) := by decide +kernel
theorem dJ6_numberOfTrailingZeros_0f7a4_41 : decode cJ6_numberOfTrailingZeros_0f7a4 41 = .ok (.iinc 1 8, 3) := by decide +kernel
theorem dJ6_numberOfTrailingZeros_0f7a4_44 : decode cJ6_numberOfTrailingZeros_0f7a4 44 = .ok (.iload_n 0, 1) := by decide +kernel
theorem dJ6_numberOfTrailingZeros_0f7a4_45 : decode cJ6_numberOfTrailingZeros_0f7a4 45 = .ok (.bipush 8, 2) := by decide +kernel
theorem dJ6_numberOfTrailingZeros_0f7a4_47 : decode cJ6_numberOfTrailingZeros_0f7a4 47 = .ok (.iushr, 1) := by decide +kernel
theorem dJ6_numberOfTrailingZeros_0f7a4_48 : decode cJ6_numberOfTrailingZeros_0f7a4 48 = .ok (.istore_n 0, 1) := by decide +kernel
theorem dJ6_numberOfTrailingZeros_0f7a4_49 : decode cJ6_numberOfTrailingZeros_0f7a4 49 = .ok (.iload_n 0, 1) := by decide +kernel
theorem dJ6_numberOfTrailingZeros_0f7a4_50 : decode cJ6_numberOfTrailingZeros_0f7a4 50 = .ok (.bipush 16, 2) := by decide +kernel
theorem dJ6_numberOfTrailingZeros_0f7a4_52 : decode cJ6_numberOfTrailingZeros_0f7a4 52 = .ok (.if_icmp .le 10, 3) := by decide +kernel
theorem dJ6_numberOfTrailingZeros_0f7a4_55 : decode cJ6_numberOfTrailingZeros_0f7a4 55 = .ok (.iinc 1 4, 3) := by decide +kernel
theorem dJ6_numberOfTrailingZeros_0f7a4_58 : decode cJ6_numberOfTrailingZeros_0f7a4 58 = .ok (.iload_n 0, 1) := by decide +kernel
theorem dJ6_numberOfTrailingZeros_0f7a4_59 : decode cJ6_numberOfTrailingZeros_0f7a4 59 = .ok (.iconst 4, 1) := by decide +kernel
theorem dJ6_numberOfTrailingZeros_0f7a4_60 : decode cJ6_numberOfTrailingZeros_0f7a4 60 = .ok (.iushr, 1) := by decide +kernel
theorem dJ6_numberOfTrailingZeros_0f7a4_61 : decode cJ6_numberOfTrailingZeros_0f7a4 61 = .ok (.istore_n 0, 1) := by decide +kernel
theorem dJ6_numberOfTrailingZeros_0f7a4_62 : decode cJ6_numberOfTrailingZeros_0f7a4 62 = .ok (.iload_n 0, 1) := by decide +kernel
theorem dJ6_numberOfTrailingZeros_0f7a4_63 : decode cJ6_numberOfTrailingZeros_0f7a4 63 = .ok (.iconst 4, 1) := by decide +kernel
theorem dJ6_numberOfTrailingZeros_0f7a4_64 : decode cJ6_numberOfTrailingZeros_0f7a4 64 = .ok (.if_icmp .le 10, 3) := by decide +kernel
theorem dJ6_numberOfTrailingZeros_0f7a4_67 : decode cJ6_numberOfTrailingZeros_0f7a4 67 = .ok (.iinc 1 2, 3) := by decide +kernel
theorem dJ6_numberOfTrailingZeros_0f7a4_70 : decode cJ6_numberOfTrailingZeros_0f7a4 70 = .ok (.iload_n 0, 1) := by decide +kernel
theorem dJ6_numberOfTrailingZeros_0f7a4_71 : decode cJ6_numberOfTrailingZeros_0f7a4 71 = .ok (.iconst 2, 1) := by decide +kernel
theorem dJ6_numberOfTrailingZeros_0f7a4_72 : decode cJ6_numberOfTrailingZeros_0f7a4 72 = .ok (.iushr, 1) := by decide +kernel
theorem dJ6_numberOfTrailingZeros_0f7a4_73 : decode cJ6_numberOfTrailingZeros_0f7a4 73 = .ok (.istore_n 0, 1) := by decide +kernel
theorem dJ6_numberOfTrailingZeros_0f7a4_74 : decode cJ6_numberOfTrailingZeros_0f7a4 74 = .ok (.iload_n 1, 1) := by decide +kernel
theorem dJ6_numberOfTrailingZeros_0f7a4_75 : decode cJ6_numberOfTrailingZeros_0f7a4 75 = .ok (.iload_n 0, 1) := by decide +kernel
theorem dJ6_numberOfTrailingZeros_0f7a4_76 : decode cJ6_numberOfTrailingZeros_0f7a4 76 = .ok (.iconst 1, 1) := by decide +kernel
theorem dJ6_numberOfTrailingZeros_0f7a4_77 : decode cJ6_numberOfTrailingZeros_0f7a4 77 = .ok (.iushr, 1) := by decide +kernel
theorem dJ6_numberOfTrailingZeros_0f7a4_78 : decode cJ6_numberOfTrailingZeros_0f7a4 78 = .ok (.iadd, 1) := by decide +kernel
theorem dJ6_numberOfTrailingZeros_0f7a4_79 : decode cJ6_numberOfTrailingZeros_0f7a4 79 = .ok (.ireturn, 1) := by decide +kernel
theorem dJ6_bitCount_0f7a4_0 : decode cJ6_bitCount_0f7a4 0 = .ok (.iload_n 0, 1) := by decide +kernel
theorem dJ6_bitCount_0f7a4_1 : decode cJ6_bitCount_0f7a4 1 = .ok (.iload_n 0, 1) := by decide +kernel
theorem dJ6_bitCount_0f7a4_2 : decode cJ6_bitCount_0f7a4 2 = .ok (.iconst 1, 1) := by decide +kernel
theorem dJ6_bitCount_0f7a4_3 : decode cJ6_bitCount_0f7a4 3 = .ok (.iushr, 1) := by decide +kernel
theorem dJ6_bitCount_0f7a4_4 : decode cJ6_bitCount_0f7a4 4 = .ok (.ldc_w 265, 3) := by decide +kernel
theorem dJ6_bitCount_0f7a4_7 : decode cJ6_bitCount_0f7a4 7 = .ok (.iand, 1) := by decide +kernel
theorem dJ6_bitCount_0f7a4_8 : decode cJ6_bitCount_0f7a4 8 = .ok (.isub, 1) := by decide +kernel
theorem dJ6_bitCount_0f7a4_9 : decode cJ6_bitCount_0f7a4 9 = .ok (.istore_n 0, 1) := by decide +kernel
theorem dJ6_bitCount_0f7a4_10 : decode cJ6_bitCount_0f7a4 10 = .ok (.iload_n 0, 1) := by decide +kernel
theorem dJ6_bitCount_0f7a4_11 : decode cJ6_bitCount_0f7a4 11 = .ok (.ldc_w 266, 3) := by decide +kernel
theorem dJ6_bitCount_0f7a4_14 : decode cJ6_bitCount_0f7a4 14 = .ok (.iand, 1) := by decide +kernel
theorem dJ6_bitCount_0f7a4_15 : decode cJ6_bitCount_0f7a4 15 = .ok (.iload_n 0, 1) := by decide +kernel
theorem dJ6_bitCount_0f7a4_16 : decode cJ6_bitCount_0f7a4 16 = .ok (.iconst 2, 1) := by decide +kernel
theorem dJ6_bitCount_0f7a4_17 : decode cJ6_bitCount_0f7a4 17 = .ok (.iushr, 1) := by decide +kernel
theorem dJ6_bitCount_0f7a4_18 : decode cJ6_bitCount_0f7a4 18 = .ok (.ldc_w 266, 3) := by decide +kernel
theorem dJ6_bitCount_0f7a4_21 : decode cJ6_bitCount_0f7a4 21 = .ok (.iand, 1) := by decide +kernel
theorem dJ6_bitCount_0f7a4_22 : decode cJ6_bitCount_0f7a4 22 = .ok (.iadd, 1) := by decide +kernel
theorem dJ6_bitCount_0f7a4_23 : decode cJ6_bitCount_0f7a4 23 = .ok (.istore_n 0, 1) := by decide +kernel
theorem dJ6_bitCount_0f7a4_24 : decode cJ6_bitCount_0f7a4 24 = .ok (.iload_n 0, 1) := by decide +kernel
theorem dJ6_bitCount_0f7a4_25 : decode cJ6_bitCount_0f7a4 25 = .ok (.iload_n 0, 1) := by decide +kernel
theorem dJ6_bitCount_0f7a4_26 : decode cJ6_bitCount_0f7a4 26 = .ok (.iconst 4, 1) := by decide +kernel
theorem dJ6_bitCount_0f7a4_27 : decode cJ6_bitCount_0f7a4 27 = .ok (.iushr, 1) := by decide +kernel
theorem dJ6_bitCount_0f7a4_28 : decode cJ6_bitCount_0f7a4 28 = .ok (.iadd, 1) := by decide +kernel
theorem dJ6_bitCount_0f7a4_29 : decode cJ6_bitCount_0f7a4 29 = .ok (.ldc_w 267, 3) := by decide +kernel
theorem dJ6_bitCount_0f7a4_32 : decode cJ6_bitCount_0f7a4 32 = .ok (.iand, 1) := by decide +kernel
theorem dJ6_bitCount_0f7a4_33 : decode cJ6_bitCount_0f7a4 33 = .ok (.istore_n 0, 1) := by decide +kernel
theorem dJ6_bitCount_0f7a4_34 : decode cJ6_bitCount_0f7a4 34 = .ok (.iload_n 0, 1) := by decide +kernel
theorem dJ6_bitCount_0f7a4_35 : decode cJ6_bitCount_0f7a4 35 = .ok (.iload_n 0, 1) := by decide +kernel
theorem dJ6_bitCount_0f7a4_36 : decode cJ6_bitCount_0f7a4 36 = .ok (.bipush 8, 2) := by decide +kernel
theorem dJ6_bitCount_0f7a4_38 : decode cJ6_bitCount_0f7a4 38 = .ok (.iushr, 1) := by decide +kernel
theorem dJ6_bitCount_0f7a4_39 : decode cJ6_bitCount_0f7a4 39 = .ok (.iadd, 1) := by decide +kernel
theorem dJ6_bitCount_0f7a4_40 : decode cJ6_bitCount_0f7a4 40 = .ok (.istore_n 0, 1) := by decide +kernel
theorem dJ6_bitCount_0f7a4_41 : decode cJ6_bitCount_0f7a4 41 = .ok (.iload_n 0, 1) := by decide +kernel
theorem dJ6_bitCount_0f7a4_42 : decode cJ6_bitCount_0f7a4 42 = .ok (.iload_n 0, 1) := by decide +kernel
theorem dJ6_bitCount_0f7a4_43 : decode cJ6_bitCount_0f7a4 43 = .ok (.bipush 16, 2) := by decide +kernel
theorem dJ6_bitCount_0f7a4_45 : decode cJ6_bitCount_0f7a4 45 = .ok (.iushr, 1) := by decide +kernel
theorem dJ6_bitCount_0f7a4_46 : decode cJ6_bitCount_0f7a4 46 = .ok (.iadd, 1) := by decide +kernel
theorem dJ6_bitCount_0f7a4_47 : decode cJ6_bitCount_0f7a4 47 = .ok (.istore_n 0, 1) := by decide +kernel
theorem dJ6_bitCount_0f7a4_48 : decode cJ6_bitCount_0f7a4 48 = .ok (.iload_n 0, 1) := by decide +kernel
theorem dJ6_bitCount_0f7a4_49 : decode cJ6_bitCount_0f7a4 49 = .ok (.bipush 63, 2) := by decide +kernel
theorem dJ6_bitCount_0f7a4_51 : decode cJ6_bitCount_0f7a4 51 = .ok (.iand, 1) := by decide +kernel
theorem dJ6_bitCount_0f7a4_52 : decode cJ6_bitCount_0f7a4 52 = .ok (.ireturn, 1) := by decide +kernel
theorem dJ9_abs_0f7a4_0 : decode cJ9_abs_0f7a4 0 = .ok (.iload_n 0, 1) := by decide +kernel
theorem dJ9_abs_0f7a4_1 : decode cJ9_abs_0f7a4 1 = .ok (.ifCond .ge 8, 3) := by decide +kernel
theorem dJ9_abs_0f7a4_4 : decode cJ9_abs_0f7a4 4 = .ok (.iload_n 0, 1) := by decide +kernel
theorem dJ9_abs_0f7a4_5 : decode cJ9_abs_0f7a4 5 = .ok (.ineg, 1) := by decide +kernel
theorem dJ9_abs_0f7a4_6 : decode cJ9_abs_0f7a4 6 = .ok (.goto 4, 3) := by decide +kernel
theorem dJ9_abs_0f7a4_9 : decode cJ9_abs_0f7a4 9 = .ok (.iload_n 0, 1) := by decide +kernel
theorem dJ9_abs_0f7a4_10 : decode cJ9_abs_0f7a4 10 = .ok (.ireturn, 1) := by decide +kernel
theorem dJ9_max_7cf53_0 : decode cJ9_max_7cf53 0 = .ok (.iload_n 0, 1) := by decide +kernel
theorem dJ9_max_7cf53_1 : decode cJ9_max_7cf53 1 = .ok (.iload_n 1, 1) := by decide +kernel
theorem dJ9_max_7cf53_2 : decode cJ9_max_7cf53 2 = .ok (.if_icmp .lt 7, 3) := by decide +kernel
theorem dJ9_max_7cf53_5 : decode cJ9_max_7cf53 5 = .ok (.iload_n 0, 1) := by decide +kernel
theorem dJ9_max_7cf53_6 : decode cJ9_max_7cf53 6 = .ok (.goto 4, 3) := by decide +kernel
theorem dJ9_max_7cf53_9 : decode cJ9_max_7cf53 9 = .ok (.iload_n 1, 1) := by decide +kernel
theorem dJ9_max_7cf53_10 : decode cJ9_max_7cf53 10 = .ok (.ireturn, 1) := by decide +kernel
theorem dJ9_min_7cf53_0 : decode cJ9_min_7cf53 0 = .ok (.iload_n 0, 1) := by decide +kernel
theorem dJ9_min_7cf53_1 : decode cJ9_min_7cf53 1 = .ok (.iload_n 1, 1) := by decide +kernel
theorem dJ9_min_7cf53_2 : decode cJ9_min_7cf53 2 = .ok (.if_icmp .gt 7, 3) := by decide +kernel
theorem dJ9_min_7cf53_5 : decode cJ9_min_7cf53 5 = .ok (.iload_n 0, 1) := by decide +kernel
theorem dJ9_min_7cf53_6 : decode cJ9_min_7cf53 6 = .ok (.goto 4, 3) := by decide +kernel
theorem dJ9_min_7cf53_9 : decode cJ9_min_7cf53 9 = .ok (.iload_n 1, 1) := by decide +kernel
theorem dJ9_min_7cf53_10 : decode cJ9_min_7cf53 10 = .ok (.ireturn, 1) := by decide +kernel
theorem dJ7_fill_53178_0 : decode cJ7_fill_53178 0 = .ok (.iconst 0, 1) := by decide +kernel
theorem dJ7_fill_53178_1 : decode cJ7_fill_53178 1 = .ok (.istore_n 2, 1) := by decide +kernel
theorem dJ7_fill_53178_2 : decode cJ7_fill_53178 2 = .ok (.aload_n 0, 1) := by decide +kernel
theorem dJ7_fill_53178_3 : decode cJ7_fill_53178 3 = .ok (.arraylength, 1) := by decide +kernel
theorem dJ7_fill_53178_4 : decode cJ7_fill_53178 4 = .ok (.istore_n 3, 1) := by decide +kernel
theorem dJ7_fill_53178_5 : decode cJ7_fill_53178 5 = .ok (.iload_n 2, 1) := by decide +kernel
theorem dJ7_fill_53178_6 : decode cJ7_fill_53178 6 = .ok (.iload_n 3, 1) := by decide +kernel
theorem dJ7_fill_53178_7 : decode cJ7_fill_53178 7 = .ok (.if_icmp .ge 13, 3) := by decide +kernel
theorem dJ7_fill_53178_10 : decode cJ7_fill_53178 10 = .ok (.aload_n 0, 1) := by decide +kernel
theorem dJ7_fill_53178_11 : decode cJ7_fill_53178 11 = .ok (.iload_n 2, 1) := by decide +kernel
theorem dJ7_fill_53178_12 : decode cJ7_fill_53178 12 = .ok (.iload_n 1, 1) := by decide +kernel
theorem dJ7_fill_53178_13 : decode cJ7_fill_53178 13 = .ok (.iastore, 1) := by decide +kernel
theorem dJ7_fill_53178_14 : decode cJ7_fill_53178 14 = .ok (.iinc 2 1, 3) := by decide +kernel
theorem dJ7_fill_53178_17 : decode cJ7_fill_53178 17 = .ok (.goto (-12), 3) := by decide +kernel
theorem dJ7_fill_53178_20 : decode cJ7_fill_53178 20 = .ok (.return_, 1) := by decide +kernel
