theorem dX8_init_0 : decode cX8_init 0 = .ok (.aload_n 0, 1) := by decide +kernel
theorem dX8_init_1 : decode cX8_init 1 = .ok (.invokespecial 1, 3) := by decide +kernel
theorem dX8_init_4 : decode cX8_init 4 = .ok (.aload_n 0, 1) := by decide +kernel
theorem dX8_init_5 : decode cX8_init 5 = .ok (.bipush 24, 2) := by decide +kernel
theorem dX8_init_7 : decode cX8_init 7 = .ok (.newarray .int, 2) := by decide +kernel
theorem dX8_init_9 : decode cX8_init 9 = .ok (.putfield 7, 3) := by decide +kernel
theorem dX8_init_12 : decode cX8_init 12 = .ok (.aload_n 0, 1) := by decide +kernel
theorem dX8_init_13 : decode cX8_init 13 = .ok (.bipush 24, 2) := by decide +kernel
theorem dX8_init_15 : decode cX8_init 15 = .ok (.newarray .int, 2) := by decide +kernel
theorem dX8_init_17 : decode cX8_init 17 = .ok (.putfield 13, 3) := by decide +kernel
theorem dX8_init_20 : decode cX8_init 20 = .ok (.aload_n 0, 1) := by decide +kernel
theorem dX8_init_21 : decode cX8_init 21 = .ok (.bipush 24, 2) := by decide +kernel
theorem dX8_init_23 : decode cX8_init 23 = .ok (.newarray .int, 2) := by decide +kernel
theorem dX8_init_25 : decode cX8_init 25 = .ok (.putfield 16, 3) := by decide +kernel
theorem dX8_init_28 : decode cX8_init 28 = .ok (.aload_n 0, 1) := by decide +kernel
theorem dX8_init_29 : decode cX8_init 29 = .ok (.bipush 24, 2) := by decide +kernel
theorem dX8_init_31 : decode cX8_init 31 = .ok (.newarray .int, 2) := by decide +kernel
theorem dX8_init_33 : decode cX8_init 33 = .ok (.putfield 19, 3) := by decide +kernel
theorem dX8_init_36 : decode cX8_init 36 = .ok (.aload_n 0, 1) := by decide +kernel
theorem dX8_init_37 : decode cX8_init 37 = .ok (.bipush 24, 2) := by decide +kernel
theorem dX8_init_39 : decode cX8_init 39 = .ok (.newarray .int, 2) := by decide +kernel
theorem dX8_init_41 : decode cX8_init 41 = .ok (.putfield 22, 3) := by decide +kernel
theorem dX8_init_44 : decode cX8_init 44 = .ok (.aload_n 0, 1) := by decide +kernel
theorem dX8_init_45 : decode cX8_init 45 = .ok (.bipush 24, 2) := by decide +kernel
theorem dX8_init_47 : decode cX8_init 47 = .ok (.newarray .int, 2) := by decide +kernel
theorem dX8_init_49 : decode cX8_init 49 = .ok (.putfield 25, 3) := by decide +kernel
theorem dX8_init_52 : decode cX8_init 52 = .ok (.aload_n 0, 1) := by decide +kernel
theorem dX8_init_53 : decode cX8_init 53 = .ok (.bipush 24, 2) := by decide +kernel
theorem dX8_init_55 : decode cX8_init 55 = .ok (.newarray .int, 2) := by decide +kernel
theorem dX8_init_57 : decode cX8_init 57 = .ok (.putfield 28, 3) := by decide +kernel
theorem dX8_init_60 : decode cX8_init 60 = .ok (.aload_n 0, 1) := by decide +kernel
theorem dX8_init_61 : decode cX8_init 61 = .ok (.bipush 20, 2) := by decide +kernel
theorem dX8_init_63 : decode cX8_init 63 = .ok (.newarray .int, 2) := by decide +kernel
theorem dX8_init_65 : decode cX8_init 65 = .ok (.putfield 31, 3) := by decide +kernel
theorem dX8_init_68 : decode cX8_init 68 = .ok (.aload_n 0, 1) := by decide +kernel
theorem dX8_init_69 : decode cX8_init 69 = .ok (.bipush 20, 2) := by decide +kernel
theorem dX8_init_71 : decode cX8_init 71 = .ok (.newarray .int, 2) := by decide +kernel
theorem dX8_init_73 : decode cX8_init 73 = .ok (.putfield 34, 3) := by decide +kernel
theorem dX8_init_76 : decode cX8_init 76 = .ok (.aload_n 0, 1) := by decide +kernel
theorem dX8_init_77 : decode cX8_init 77 = .ok (.sipush 1680, 3) := by decide +kernel
theorem dX8_init_80 : decode cX8_init 80 = .ok (.newarray .int, 2) := by decide +kernel
theorem dX8_init_82 : decode cX8_init 82 = .ok (.putfield 37, 3) := by decide +kernel
theorem dX8_init_85 : decode cX8_init 85 = .ok (.aload_n 0, 1) := by decide +kernel
theorem dX8_init_86 : decode cX8_init 86 = .ok (.bipush 8, 2) := by decide +kernel
theorem dX8_init_88 : decode cX8_init 88 = .ok (.newarray .long, 2) := by decide +kernel
theorem dX8_init_90 : decode cX8_init 90 = .ok (.putfield 40, 3) := by decide +kernel
theorem dX8_init_93 : decode cX8_init 93 = .ok (.aload_n 0, 1) := by decide +kernel
theorem dX8_init_94 : decode cX8_init 94 = .ok (.bipush 8, 2) := by decide +kernel
theorem dX8_init_96 : decode cX8_init 96 = .ok (.newarray .long, 2) := by decide +kernel
theorem dX8_init_98 : decode cX8_init 98 = .ok (.putfield 44, 3) := by decide +kernel
theorem dX8_init_101 : decode cX8_init 101 = .ok (.aload_n 0, 1) := by decide +kernel
theorem dX8_init_102 : decode cX8_init 102 = .ok (.bipush 24, 2) := by decide +kernel
theorem dX8_init_104 : decode cX8_init 104 = .ok (.newarray .int, 2) := by decide +kernel
theorem dX8_init_106 : decode cX8_init 106 = .ok (.putfield 47, 3) := by decide +kernel
theorem dX8_init_109 : decode cX8_init 109 = .ok (.aload_n 0, 1) := by decide +kernel
theorem dX8_init_110 : decode cX8_init 110 = .ok (.sipush 384, 3) := by decide +kernel
theorem dX8_init_113 : decode cX8_init 113 = .ok (.newarray .boolean, 2) := by decide +kernel
theorem dX8_init_115 : decode cX8_init 115 = .ok (.putfield 50, 3) := by decide +kernel
theorem dX8_init_118 : decode cX8_init 118 = .ok (.aload_n 0, 1) := by decide +kernel
theorem dX8_init_119 : decode cX8_init 119 = .ok (.bipush 24, 2) := by decide +kernel
theorem dX8_init_121 : decode cX8_init 121 = .ok (.newarray .int, 2) := by decide +kernel
theorem dX8_init_123 : decode cX8_init 123 = .ok (.putfield 54, 3) := by decide +kernel
theorem dX8_init_126 : decode cX8_init 126 = .ok (.aload_n 0, 1) := by decide +kernel
theorem dX8_init_127 : decode cX8_init 127 = .ok (.bipush 24, 2) := by decide +kernel
theorem dX8_init_129 : decode cX8_init 129 = .ok (.newarray .int, 2) := by decide +kernel
theorem dX8_init_131 : decode cX8_init 131 = .ok (.putfield 57, 3) := by decide +kernel
theorem dX8_init_134 : decode cX8_init 134 = .ok (.aload_n 0, 1) := by decide +kernel
theorem dX8_init_135 : decode cX8_init 135 = .ok (.bipush 24, 2) := by decide +kernel
theorem dX8_init_137 : decode cX8_init 137 = .ok (.newarray .int, 2) := by decide +kernel
theorem dX8_init_139 : decode cX8_init 139 = .ok (.putfield 60, 3) := by decide +kernel
theorem dX8_init_142 : decode cX8_init 142 = .ok (.aload_n 0, 1) := by decide +kernel
theorem dX8_init_143 : decode cX8_init 143 = .ok (.bipush 25, 2) := by decide +kernel
theorem dX8_init_145 : decode cX8_init 145 = .ok (.newarray .int, 2) := by decide +kernel
theorem dX8_init_147 : decode cX8_init 147 = .ok (.putfield 63, 3) := by decide +kernel
theorem dX8_init_150 : decode cX8_init 150 = .ok (.aload_n 0, 1) := by decide +kernel
theorem dX8_init_151 : decode cX8_init 151 = .ok (.bipush 24, 2) := by decide +kernel
theorem dX8_init_153 : decode cX8_init 153 = .ok (.newarray .int, 2) := by decide +kernel
theorem dX8_init_155 : decode cX8_init 155 = .ok (.putfield 66, 3) := by decide +kernel
theorem dX8_init_158 : decode cX8_init 158 = .ok (.aload_n 0, 1) := by decide +kernel
theorem dX8_init_159 : decode cX8_init 159 = .ok (.bipush 24, 2) := by decide +kernel
theorem dX8_init_161 : decode cX8_init 161 = .ok (.newarray .int, 2) := by decide +kernel
theorem dX8_init_163 : decode cX8_init 163 = .ok (.putfield 69, 3) := by decide +kernel
theorem dX8_init_166 : decode cX8_init 166 = .ok (.aload_n 0, 1) := by decide +kernel
theorem dX8_init_167 : decode cX8_init 167 = .ok (.bipush 24, 2) := by decide +kernel
theorem dX8_init_169 : decode cX8_init 169 = .ok (.newarray .int, 2) := by decide +kernel
theorem dX8_init_171 : decode cX8_init 171 = .ok (.putfield 72, 3) := by decide +kernel
theorem dX8_init_174 : decode cX8_init 174 = .ok (.aload_n 0, 1) := by decide +kernel
theorem dX8_init_175 : decode cX8_init 175 = .ok (.bipush 24, 2) := by decide +kernel
theorem dX8_init_177 : decode cX8_init 177 = .ok (.newarray .int, 2) := by decide +kernel
theorem dX8_init_179 : decode cX8_init 179 = .ok (.putfield 75, 3) := by decide +kernel
theorem dX8_init_182 : decode cX8_init 182 = .ok (.return_, 1) := by decide +kernel
theorem dX8_in_0 : decode cX8_in 0 = .ok (.iload_n 0, 1) := by decide +kernel
theorem dX8_in_1 : decode cX8_in 1 = .ok (.iload_n 1, 1) := by decide +kernel
theorem dX8_in_2 : decode cX8_in 2 = .ok (.if_icmp .lt 12, 3) := by decide +kernel
theorem dX8_in_5 : decode cX8_in 5 = .ok (.iload_n 0, 1) := by decide +kernel
theorem dX8_in_6 : decode cX8_in 6 = .ok (.iload_n 2, 1) := by decide +kernel
theorem dX8_in_7 : decode cX8_in 7 = .ok (.if_icmp .gt 7, 3) := by decide +kernel
theorem dX8_in_10 : decode cX8_in 10 = .ok (.iconst 1, 1) := by decide +kernel
theorem dX8_in_11 : decode cX8_in 11 = .ok (.goto 4, 3) := by decide +kernel
theorem dX8_in_14 : decode cX8_in 14 = .ok (.iconst 0, 1) := by decide +kernel
theorem dX8_in_15 : decode cX8_in 15 = .ok (.ireturn, 1) := by decide +kernel
theorem dX8_write_0 : decode cX8_write 0 = .ok (.iconst 0, 1) := by decide +kernel
theorem dX8_write_1 : decode cX8_write 1 = .ok (.istore_n 3, 1) := by decide +kernel
theorem dX8_write_2 : decode cX8_write 2 = .ok (.iload_n 3, 1) := by decide +kernel
theorem dX8_write_3 : decode cX8_write 3 = .ok (.iload_n 2, 1) := by decide +kernel
theorem dX8_write_4 : decode cX8_write 4 = .ok (.if_icmp .ge 31, 3) := by decide +kernel
theorem dX8_write_7 : decode cX8_write 7 = .ok (.aload_n 0, 1) := by decide +kernel
theorem dX8_write_8 : decode cX8_write 8 = .ok (.getfield 37, 3) := by decide +kernel
theorem dX8_write_11 : decode cX8_write 11 = .ok (.aload_n 0, 1) := by decide +kernel
theorem dX8_write_12 : decode cX8_write 12 = .ok (.getfield 82, 3) := by decide +kernel
theorem dX8_write_15 : decode cX8_write 15 = .ok (.aload_n 1, 1) := by decide +kernel
theorem dX8_write_16 : decode cX8_write 16 = .ok (.iload_n 3, 1) := by decide +kernel
theorem dX8_write_17 : decode cX8_write 17 = .ok (.iaload, 1) := by decide +kernel
theorem dX8_write_18 : decode cX8_write 18 = .ok (.iastore, 1) := by decide +kernel
theorem dX8_write_19 : decode cX8_write 19 = .ok (.aload_n 0, 1) := by decide +kernel
theorem dX8_write_20 : decode cX8_write 20 = .ok (.dup, 1) := by decide +kernel
theorem dX8_write_21 : decode cX8_write 21 = .ok (.getfield 82, 3) := by decide +kernel
theorem dX8_write_24 : decode cX8_write 24 = .ok (.iconst 1, 1) := by decide +kernel
theorem dX8_write_25 : decode cX8_write 25 = .ok (.iadd, 1) := by decide +kernel
theorem dX8_write_26 : decode cX8_write 26 = .ok (.putfield 82, 3) := by decide +kernel
theorem dX8_write_29 : decode cX8_write 29 = .ok (.iinc 3 1, 3) := by decide +kernel
theorem dX8_write_32 : decode cX8_write 32 = .ok (.goto (-30), 3) := by decide +kernel
theorem dX8_write_35 : decode cX8_write 35 = .ok (.return_, 1) := by decide +kernel
theorem dX8_read_0 : decode cX8_read 0 = .ok (.iconst 0, 1) := by decide +kernel
theorem dX8_read_1 : decode cX8_read 1 = .ok (.istore_n 3, 1) := by decide +kernel
theorem dX8_read_2 : decode cX8_read 2 = .ok (.iload_n 3, 1) := by decide +kernel
theorem dX8_read_3 : decode cX8_read 3 = .ok (.iload_n 2, 1) := by decide +kernel
theorem dX8_read_4 : decode cX8_read 4 = .ok (.if_icmp .ge 31, 3) := by decide +kernel
theorem dX8_read_7 : decode cX8_read 7 = .ok (.aload_n 1, 1) := by decide +kernel
theorem dX8_read_8 : decode cX8_read 8 = .ok (.iload_n 3, 1) := by decide +kernel
theorem dX8_read_9 : decode cX8_read 9 = .ok (.aload_n 0, 1) := by decide +kernel
theorem dX8_read_10 : decode cX8_read 10 = .ok (.getfield 37, 3) := by decide +kernel
theorem dX8_read_13 : decode cX8_read 13 = .ok (.aload_n 0, 1) := by decide +kernel
theorem dX8_read_14 : decode cX8_read 14 = .ok (.getfield 82, 3) := by decide +kernel
theorem dX8_read_17 : decode cX8_read 17 = .ok (.iaload, 1) := by decide +kernel
theorem dX8_read_18 : decode cX8_read 18 = .ok (.iastore, 1) := by decide +kernel
theorem dX8_read_19 : decode cX8_read 19 = .ok (.aload_n 0, 1) := by decide +kernel
theorem dX8_read_20 : decode cX8_read 20 = .ok (.dup, 1) := by decide +kernel
theorem dX8_read_21 : decode cX8_read 21 = .ok (.getfield 82, 3) := by decide +kernel
theorem dX8_read_24 : decode cX8_read 24 = .ok (.iconst 1, 1) := by decide +kernel
theorem dX8_read_25 : decode cX8_read 25 = .ok (.iadd, 1) := by decide +kernel
theorem dX8_read_26 : decode cX8_read 26 = .ok (.putfield 82, 3) := by decide +kernel
theorem dX8_read_29 : decode cX8_read 29 = .ok (.iinc 3 1, 3) := by decide +kernel
theorem dX8_read_32 : decode cX8_read 32 = .ok (.goto (-30), 3) := by decide +kernel
theorem dX8_read_35 : decode cX8_read 35 = .ok (.return_, 1) := by decide +kernel
theorem dX8_keep_0 : decode cX8_keep 0 = .ok (.aload_n 0, 1) := by decide +kernel
theorem dX8_keep_1 : decode cX8_keep 1 = .ok (.sipush 210, 3) := by decide +kernel
theorem dX8_keep_4 : decode cX8_keep 4 = .ok (.aload_n 0, 1) := by decide +kernel
theorem dX8_keep_5 : decode cX8_keep 5 = .ok (.getfield 85, 3) := by decide +kernel
theorem dX8_keep_8 : decode cX8_keep 8 = .ok (.imul, 1) := by decide +kernel
theorem dX8_keep_9 : decode cX8_keep 9 = .ok (.putfield 82, 3) := by decide +kernel
theorem dX8_keep_12 : decode cX8_keep 12 = .ok (.aload_n 0, 1) := by decide +kernel
theorem dX8_keep_13 : decode cX8_keep 13 = .ok (.getfield 37, 3) := by decide +kernel
theorem dX8_keep_16 : decode cX8_keep 16 = .ok (.aload_n 0, 1) := by decide +kernel
theorem dX8_keep_17 : decode cX8_keep 17 = .ok (.getfield 82, 3) := by decide +kernel
theorem dX8_keep_20 : decode cX8_keep 20 = .ok (.aload_n 0, 1) := by decide +kernel
theorem dX8_keep_21 : decode cX8_keep 21 = .ok (.getfield 88, 3) := by decide +kernel
theorem dX8_keep_24 : decode cX8_keep 24 = .ok (.iastore, 1) := by decide +kernel
theorem dX8_keep_25 : decode cX8_keep 25 = .ok (.aload_n 0, 1) := by decide +kernel
theorem dX8_keep_26 : decode cX8_keep 26 = .ok (.getfield 37, 3) := by decide +kernel
theorem dX8_keep_29 : decode cX8_keep 29 = .ok (.aload_n 0, 1) := by decide +kernel
theorem dX8_keep_30 : decode cX8_keep 30 = .ok (.getfield 82, 3) := by decide +kernel
theorem dX8_keep_33 : decode cX8_keep 33 = .ok (.iconst 1, 1) := by decide +kernel
theorem dX8_keep_34 : decode cX8_keep 34 = .ok (.iadd, 1) := by decide +kernel
theorem dX8_keep_35 : decode cX8_keep 35 = .ok (.aload_n 0, 1) := by decide +kernel
theorem dX8_keep_36 : decode cX8_keep 36 = .ok (.getfield 91, 3) := by decide +kernel
theorem dX8_keep_39 : decode cX8_keep 39 = .ok (.iastore, 1) := by decide +kernel
theorem dX8_keep_40 : decode cX8_keep 40 = .ok (.aload_n 0, 1) := by decide +kernel
theorem dX8_keep_41 : decode cX8_keep 41 = .ok (.dup, 1) := by decide +kernel
theorem dX8_keep_42 : decode cX8_keep 42 = .ok (.getfield 82, 3) := by decide +kernel
theorem dX8_keep_45 : decode cX8_keep 45 = .ok (.iconst 2, 1) := by decide +kernel
theorem dX8_keep_46 : decode cX8_keep 46 = .ok (.iadd, 1) := by decide +kernel
theorem dX8_keep_47 : decode cX8_keep 47 = .ok (.putfield 82, 3) := by decide +kernel
theorem dX8_keep_50 : decode cX8_keep 50 = .ok (.aload_n 0, 1) := by decide +kernel
theorem dX8_keep_51 : decode cX8_keep 51 = .ok (.aload_n 0, 1) := by decide +kernel
theorem dX8_keep_52 : decode cX8_keep 52 = .ok (.getfield 7, 3) := by decide +kernel
theorem dX8_keep_55 : decode cX8_keep 55 = .ok (.bipush 24, 2) := by decide +kernel
theorem dX8_keep_57 : decode cX8_keep 57 = .ok (.invokevirtual 94, 3) := by decide +kernel
theorem dX8_keep_60 : decode cX8_keep 60 = .ok (.aload_n 0, 1) := by decide +kernel
theorem dX8_keep_61 : decode cX8_keep 61 = .ok (.aload_n 0, 1) := by decide +kernel
theorem dX8_keep_62 : decode cX8_keep 62 = .ok (.getfield 13, 3) := by decide +kernel
theorem dX8_keep_65 : decode cX8_keep 65 = .ok (.bipush 24, 2) := by decide +kernel
theorem dX8_keep_67 : decode cX8_keep 67 = .ok (.invokevirtual 94, 3) := by decide +kernel
theorem dX8_keep_70 : decode cX8_keep 70 = .ok (.aload_n 0, 1) := by decide +kernel
theorem dX8_keep_71 : decode cX8_keep 71 = .ok (.aload_n 0, 1) := by decide +kernel
theorem dX8_keep_72 : decode cX8_keep 72 = .ok (.getfield 16, 3) := by decide +kernel
theorem dX8_keep_75 : decode cX8_keep 75 = .ok (.bipush 24, 2) := by decide +kernel
theorem dX8_keep_77 : decode cX8_keep 77 = .ok (.invokevirtual 94, 3) := by decide +kernel
theorem dX8_keep_80 : decode cX8_keep 80 = .ok (.aload_n 0, 1) := by decide +kernel
theorem dX8_keep_81 : decode cX8_keep 81 = .ok (.aload_n 0, 1) := by decide +kernel
theorem dX8_keep_82 : decode cX8_keep 82 = .ok (.getfield 19, 3) := by decide +kernel
theorem dX8_keep_85 : decode cX8_keep 85 = .ok (.bipush 24, 2) := by decide +kernel
theorem dX8_keep_87 : decode cX8_keep 87 = .ok (.invokevirtual 94, 3) := by decide +kernel
theorem dX8_keep_90 : decode cX8_keep 90 = .ok (.aload_n 0, 1) := by decide +kernel
theorem dX8_keep_91 : decode cX8_keep 91 = .ok (.aload_n 0, 1) := by decide +kernel
theorem dX8_keep_92 : decode cX8_keep 92 = .ok (.getfield 22, 3) := by decide +kernel
theorem dX8_keep_95 : decode cX8_keep 95 = .ok (.bipush 24, 2) := by decide +kernel
theorem dX8_keep_97 : decode cX8_keep 97 = .ok (.invokevirtual 94, 3) := by decide +kernel
theorem dX8_keep_100 : decode cX8_keep 100 = .ok (.aload_n 0, 1) := by decide +kernel
theorem dX8_keep_101 : decode cX8_keep 101 = .ok (.aload_n 0, 1) := by decide +kernel
theorem dX8_keep_102 : decode cX8_keep 102 = .ok (.getfield 25, 3) := by decide +kernel
theorem dX8_keep_105 : decode cX8_keep 105 = .ok (.bipush 24, 2) := by decide +kernel
theorem dX8_keep_107 : decode cX8_keep 107 = .ok (.invokevirtual 94, 3) := by decide +kernel
theorem dX8_keep_110 : decode cX8_keep 110 = .ok (.aload_n 0, 1) := by decide +kernel
theorem dX8_keep_111 : decode cX8_keep 111 = .ok (.aload_n 0, 1) := by decide +kernel
theorem dX8_keep_112 : decode cX8_keep 112 = .ok (.getfield 28, 3) := by decide +kernel
theorem dX8_keep_115 : decode cX8_keep 115 = .ok (.bipush 24, 2) := by decide +kernel
theorem dX8_keep_117 : decode cX8_keep 117 = .ok (.invokevirtual 94, 3) := by decide +kernel
theorem dX8_keep_120 : decode cX8_keep 120 = .ok (.aload_n 0, 1) := by decide +kernel
theorem dX8_keep_121 : decode cX8_keep 121 = .ok (.aload_n 0, 1) := by decide +kernel
theorem dX8_keep_122 : decode cX8_keep 122 = .ok (.getfield 31, 3) := by decide +kernel
theorem dX8_keep_125 : decode cX8_keep 125 = .ok (.bipush 20, 2) := by decide +kernel
theorem dX8_keep_127 : decode cX8_keep 127 = .ok (.invokevirtual 94, 3) := by decide +kernel
theorem dX8_keep_130 : decode cX8_keep 130 = .ok (.aload_n 0, 1) := by decide +kernel
theorem dX8_keep_131 : decode cX8_keep 131 = .ok (.aload_n 0, 1) := by decide +kernel
theorem dX8_keep_132 : decode cX8_keep 132 = .ok (.getfield 34, 3) := by decide +kernel
theorem dX8_keep_135 : decode cX8_keep 135 = .ok (.bipush 20, 2) := by decide +kernel
theorem dX8_keep_137 : decode cX8_keep 137 = .ok (.invokevirtual 94, 3) := by decide +kernel
theorem dX8_keep_140 : decode cX8_keep 140 = .ok (.aload_n 0, 1) := by decide +kernel
theorem dX8_keep_141 : decode cX8_keep 141 = .ok (.aload_n 0, 1) := by decide +kernel
theorem dX8_keep_142 : decode cX8_keep 142 = .ok (.getfield 85, 3) := by decide +kernel
theorem dX8_keep_145 : decode cX8_keep 145 = .ok (.iconst 1, 1) := by decide +kernel
theorem dX8_keep_146 : decode cX8_keep 146 = .ok (.iadd, 1) := by decide +kernel
theorem dX8_keep_147 : decode cX8_keep 147 = .ok (.bipush 8, 2) := by decide +kernel
theorem dX8_keep_149 : decode cX8_keep 149 = .ok (.irem, 1) := by decide +kernel
theorem dX8_keep_150 : decode cX8_keep 150 = .ok (.putfield 85, 3) := by decide +kernel
theorem dX8_keep_153 : decode cX8_keep 153 = .ok (.aload_n 0, 1) := by decide +kernel
theorem dX8_keep_154 : decode cX8_keep 154 = .ok (.aload_n 0, 1) := by decide +kernel
theorem dX8_keep_155 : decode cX8_keep 155 = .ok (.getfield 98, 3) := by decide +kernel
theorem dX8_keep_158 : decode cX8_keep 158 = .ok (.bipush 8, 2) := by decide +kernel
theorem dX8_keep_160 : decode cX8_keep 160 = .ok (.if_icmp .ge 12, 3) := by decide +kernel
theorem dX8_keep_163 : decode cX8_keep 163 = .ok (.aload_n 0, 1) := by decide +kernel
theorem dX8_keep_164 : decode cX8_keep 164 = .ok (.getfield 98, 3) := by decide +kernel
theorem dX8_keep_167 : decode cX8_keep 167 = .ok (.iconst 1, 1) := by decide +kernel
theorem dX8_keep_168 : decode cX8_keep 168 = .ok (.iadd, 1) := by decide +kernel
theorem dX8_keep_169 : decode cX8_keep 169 = .ok (.goto 5, 3) := by decide +kernel
theorem dX8_keep_172 : decode cX8_keep 172 = .ok (.bipush 8, 2) := by decide +kernel
theorem dX8_keep_174 : decode cX8_keep 174 = .ok (.putfield 98, 3) := by decide +kernel
theorem dX8_keep_177 : decode cX8_keep 177 = .ok (.return_, 1) := by decide +kernel
theorem dX8_undo_0 : decode cX8_undo 0 = .ok (.aload_n 0, 1) := by decide +kernel
theorem dX8_undo_1 : decode cX8_undo 1 = .ok (.iconst 0, 1) := by decide +kernel
theorem dX8_undo_2 : decode cX8_undo 2 = .ok (.putfield 78, 3) := by decide +kernel
theorem dX8_undo_5 : decode cX8_undo 5 = .ok (.aload_n 0, 1) := by decide +kernel
theorem dX8_undo_6 : decode cX8_undo 6 = .ok (.getfield 98, 3) := by decide +kernel
theorem dX8_undo_9 : decode cX8_undo 9 = .ok (.ifCond .ne 6, 3) := by decide +kernel
theorem dX8_undo_12 : decode cX8_undo 12 = .ok (.bipush (-4), 2) := by decide +kernel
theorem dX8_undo_14 : decode cX8_undo 14 = .ok (.ireturn, 1) := by decide +kernel
theorem dX8_undo_15 : decode cX8_undo 15 = .ok (.aload_n 0, 1) := by decide +kernel
theorem dX8_undo_16 : decode cX8_undo 16 = .ok (.aload_n 0, 1) := by decide +kernel
theorem dX8_undo_17 : decode cX8_undo 17 = .ok (.getfield 85, 3) := by decide +kernel
theorem dX8_undo_20 : decode cX8_undo 20 = .ok (.bipush 8, 2) := by decide +kernel
theorem dX8_undo_22 : decode cX8_undo 22 = .ok (.iadd, 1) := by decide +kernel
theorem dX8_undo_23 : decode cX8_undo 23 = .ok (.iconst 1, 1) := by decide +kernel
theorem dX8_undo_24 : decode cX8_undo 24 = .ok (.isub, 1) := by decide +kernel
theorem dX8_undo_25 : decode cX8_undo 25 = .ok (.bipush 8, 2) := by decide +kernel
theorem dX8_undo_27 : decode cX8_undo 27 = .ok (.irem, 1) := by decide +kernel
theorem dX8_undo_28 : decode cX8_undo 28 = .ok (.putfield 85, 3) := by decide +kernel
theorem dX8_undo_31 : decode cX8_undo 31 = .ok (.aload_n 0, 1) := by decide +kernel
theorem dX8_undo_32 : decode cX8_undo 32 = .ok (.dup, 1) := by decide +kernel
theorem dX8_undo_33 : decode cX8_undo 33 = .ok (.getfield 98, 3) := by decide +kernel
theorem dX8_undo_36 : decode cX8_undo 36 = .ok (.iconst 1, 1) := by decide +kernel
theorem dX8_undo_37 : decode cX8_undo 37 = .ok (.isub, 1) := by decide +kernel
theorem dX8_undo_38 : decode cX8_undo 38 = .ok (.putfield 98, 3) := by decide +kernel
theorem dX8_undo_41 : decode cX8_undo 41 = .ok (.aload_n 0, 1) := by decide +kernel
theorem dX8_undo_42 : decode cX8_undo 42 = .ok (.sipush 210, 3) := by decide +kernel
theorem dX8_undo_45 : decode cX8_undo 45 = .ok (.aload_n 0, 1) := by decide +kernel
theorem dX8_undo_46 : decode cX8_undo 46 = .ok (.getfield 85, 3) := by decide +kernel
theorem dX8_undo_49 : decode cX8_undo 49 = .ok (.imul, 1) := by decide +kernel
theorem dX8_undo_50 : decode cX8_undo 50 = .ok (.putfield 82, 3) := by decide +kernel
theorem dX8_undo_53 : decode cX8_undo 53 = .ok (.aload_n 0, 1) := by decide +kernel
theorem dX8_undo_54 : decode cX8_undo 54 = .ok (.aload_n 0, 1) := by decide +kernel
theorem dX8_undo_55 : decode cX8_undo 55 = .ok (.getfield 37, 3) := by decide +kernel
theorem dX8_undo_58 : decode cX8_undo 58 = .ok (.aload_n 0, 1) := by decide +kernel
theorem dX8_undo_59 : decode cX8_undo 59 = .ok (.getfield 82, 3) := by decide +kernel
theorem dX8_undo_62 : decode cX8_undo 62 = .ok (.iaload, 1) := by decide +kernel
theorem dX8_undo_63 : decode cX8_undo 63 = .ok (.putfield 88, 3) := by decide +kernel
theorem dX8_undo_66 : decode cX8_undo 66 = .ok (.aload_n 0, 1) := by decide +kernel
theorem dX8_undo_67 : decode cX8_undo 67 = .ok (.aload_n 0, 1) := by decide +kernel
theorem dX8_undo_68 : decode cX8_undo 68 = .ok (.getfield 37, 3) := by decide +kernel
theorem dX8_undo_71 : decode cX8_undo 71 = .ok (.aload_n 0, 1) := by decide +kernel
theorem dX8_undo_72 : decode cX8_undo 72 = .ok (.getfield 82, 3) := by decide +kernel
theorem dX8_undo_75 : decode cX8_undo 75 = .ok (.iconst 1, 1) := by decide +kernel
theorem dX8_undo_76 : decode cX8_undo 76 = .ok (.iadd, 1) := by decide +kernel
theorem dX8_undo_77 : decode cX8_undo 77 = .ok (.iaload, 1) := by decide +kernel
theorem dX8_undo_78 : decode cX8_undo 78 = .ok (.putfield 91, 3) := by decide +kernel
theorem dX8_undo_81 : decode cX8_undo 81 = .ok (.aload_n 0, 1) := by decide +kernel
theorem dX8_undo_82 : decode cX8_undo 82 = .ok (.dup, 1) := by decide +kernel
theorem dX8_undo_83 : decode cX8_undo 83 = .ok (.getfield 82, 3) := by decide +kernel
theorem dX8_undo_86 : decode cX8_undo 86 = .ok (.iconst 2, 1) := by decide +kernel
theorem dX8_undo_87 : decode cX8_undo 87 = .ok (.iadd, 1) := by decide +kernel
theorem dX8_undo_88 : decode cX8_undo 88 = .ok (.putfield 82, 3) := by decide +kernel
theorem dX8_undo_91 : decode cX8_undo 91 = .ok (.aload_n 0, 1) := by decide +kernel
theorem dX8_undo_92 : decode cX8_undo 92 = .ok (.aload_n 0, 1) := by decide +kernel
theorem dX8_undo_93 : decode cX8_undo 93 = .ok (.getfield 7, 3) := by decide +kernel
theorem dX8_undo_96 : decode cX8_undo 96 = .ok (.bipush 24, 2) := by decide +kernel
theorem dX8_undo_98 : decode cX8_undo 98 = .ok (.invokevirtual 101, 3) := by decide +kernel
theorem dX8_undo_101 : decode cX8_undo 101 = .ok (.aload_n 0, 1) := by decide +kernel
theorem dX8_undo_102 : decode cX8_undo 102 = .ok (.aload_n 0, 1) := by decide +kernel
theorem dX8_undo_103 : decode cX8_undo 103 = .ok (.getfield 13, 3) := by decide +kernel
theorem dX8_undo_106 : decode cX8_undo 106 = .ok (.bipush 24, 2) := by decide +kernel
theorem dX8_undo_108 : decode cX8_undo 108 = .ok (.invokevirtual 101, 3) := by decide +kernel
theorem dX8_undo_111 : decode cX8_undo 111 = .ok (.aload_n 0, 1) := by decide +kernel
theorem dX8_undo_112 : decode cX8_undo 112 = .ok (.aload_n 0, 1) := by decide +kernel
theorem dX8_undo_113 : decode cX8_undo 113 = .ok (.getfield 16, 3) := by decide +kernel
theorem dX8_undo_116 : decode cX8_undo 116 = .ok (.bipush 24, 2) := by decide +kernel
theorem dX8_undo_118 : decode cX8_undo 118 = .ok (.invokevirtual 101, 3) := by decide +kernel
theorem dX8_undo_121 : decode cX8_undo 121 = .ok (.aload_n 0, 1) := by decide +kernel
theorem dX8_undo_122 : decode cX8_undo 122 = .ok (.aload_n 0, 1) := by decide +kernel
theorem dX8_undo_123 : decode cX8_undo 123 = .ok (.getfield 19, 3) := by decide +kernel
theorem dX8_undo_126 : decode cX8_undo 126 = .ok (.bipush 24, 2) := by decide +kernel
theorem dX8_undo_128 : decode cX8_undo 128 = .ok (.invokevirtual 101, 3) := by decide +kernel
theorem dX8_undo_131 : decode cX8_undo 131 = .ok (.aload_n 0, 1) := by decide +kernel
theorem dX8_undo_132 : decode cX8_undo 132 = .ok (.aload_n 0, 1) := by decide +kernel
theorem dX8_undo_133 : decode cX8_undo 133 = .ok (.getfield 22, 3) := by decide +kernel
theorem dX8_undo_136 : decode cX8_undo 136 = .ok (.bipush 24, 2) := by decide +kernel
theorem dX8_undo_138 : decode cX8_undo 138 = .ok (.invokevirtual 101, 3) := by decide +kernel
theorem dX8_undo_141 : decode cX8_undo 141 = .ok (.aload_n 0, 1) := by decide +kernel
theorem dX8_undo_142 : decode cX8_undo 142 = .ok (.aload_n 0, 1) := by decide +kernel
theorem dX8_undo_143 : decode cX8_undo 143 = .ok (.getfield 25, 3) := by decide +kernel
theorem dX8_undo_146 : decode cX8_undo 146 = .ok (.bipush 24, 2) := by decide +kernel
theorem dX8_undo_148 : decode cX8_undo 148 = .ok (.invokevirtual 101, 3) := by decide +kernel
theorem dX8_undo_151 : decode cX8_undo 151 = .ok (.aload_n 0, 1) := by decide +kernel
theorem dX8_undo_152 : decode cX8_undo 152 = .ok (.aload_n 0, 1) := by decide +kernel
theorem dX8_undo_153 : decode cX8_undo 153 = .ok (.getfield 28, 3) := by decide +kernel
theorem dX8_undo_156 : decode cX8_undo 156 = .ok (.bipush 24, 2) := by decide +kernel
theorem dX8_undo_158 : decode cX8_undo 158 = .ok (.invokevirtual 101, 3) := by decide +kernel
theorem dX8_undo_161 : decode cX8_undo 161 = .ok (.aload_n 0, 1) := by decide +kernel
theorem dX8_undo_162 : decode cX8_undo 162 = .ok (.aload_n 0, 1) := by decide +kernel
theorem dX8_undo_163 : decode cX8_undo 163 = .ok (.getfield 31, 3) := by decide +kernel
theorem dX8_undo_166 : decode cX8_undo 166 = .ok (.bipush 20, 2) := by decide +kernel
theorem dX8_undo_168 : decode cX8_undo 168 = .ok (.invokevirtual 101, 3) := by decide +kernel
theorem dX8_undo_171 : decode cX8_undo 171 = .ok (.aload_n 0, 1) := by decide +kernel
theorem dX8_undo_172 : decode cX8_undo 172 = .ok (.aload_n 0, 1) := by decide +kernel
theorem dX8_undo_173 : decode cX8_undo 173 = .ok (.getfield 34, 3) := by decide +kernel
theorem dX8_undo_176 : decode cX8_undo 176 = .ok (.bipush 20, 2) := by decide +kernel
theorem dX8_undo_178 : decode cX8_undo 178 = .ok (.invokevirtual 101, 3) := by decide +kernel
theorem dX8_undo_181 : decode cX8_undo 181 = .ok (.aload_n 0, 1) := by decide +kernel
theorem dX8_undo_182 : decode cX8_undo 182 = .ok (.getfield 98, 3) := by decide +kernel
theorem dX8_undo_185 : decode cX8_undo 185 = .ok (.ireturn, 1) := by decide +kernel
theorem dX8_isPlace_0 : decode cX8_isPlace 0 = .ok (.iload_n 0, 1) := by decide +kernel
theorem dX8_isPlace_1 : decode cX8_isPlace 1 = .ok (.iconst 0, 1) := by decide +kernel
theorem dX8_isPlace_2 : decode cX8_isPlace 2 = .ok (.sipush 1000, 3) := by decide +kernel
theorem dX8_isPlace_5 : decode cX8_isPlace 5 = .ok (.invokestatic 104, 3) := by decide +kernel
theorem dX8_isPlace_8 : decode cX8_isPlace 8 = .ok (.ifCond .eq 18, 3) := by decide +kernel
theorem dX8_isPlace_11 : decode cX8_isPlace 11 = .ok (.iload_n 1, 1) := by decide +kernel
theorem dX8_isPlace_12 : decode cX8_isPlace 12 = .ok (.iconst 0, 1) := by decide +kernel
theorem dX8_isPlace_13 : decode cX8_isPlace 13 = .ok (.sipush 1000, 3) := by decide +kernel
theorem dX8_isPlace_16 : decode cX8_isPlace 16 = .ok (.invokestatic 104, 3) := by decide +kernel
theorem dX8_isPlace_19 : decode cX8_isPlace 19 = .ok (.ifCond .eq 7, 3) := by decide +kernel
theorem dX8_isPlace_22 : decode cX8_isPlace 22 = .ok (.iconst 1, 1) := by decide +kernel
theorem dX8_isPlace_23 : decode cX8_isPlace 23 = .ok (.goto 4, 3) := by decide +kernel
theorem dX8_isPlace_26 : decode cX8_isPlace 26 = .ok (.iconst 0, 1) := by decide +kernel
theorem dX8_isPlace_27 : decode cX8_isPlace 27 = .ok (.ireturn, 1) := by decide +kernel
theorem dX8_isName_0 : decode cX8_isName 0 = .ok (.iload_n 1, 1) := by decide +kernel
theorem dX8_isName_1 : decode cX8_isName 1 = .ok (.iconst 0, 1) := by decide +kernel
theorem dX8_isName_2 : decode cX8_isName 2 = .ok (.aload_n 0, 1) := by decide +kernel
theorem dX8_isName_3 : decode cX8_isName 3 = .ok (.getfield 88, 3) := by decide +kernel
theorem dX8_isName_6 : decode cX8_isName 6 = .ok (.iconst 1, 1) := by decide +kernel
theorem dX8_isName_7 : decode cX8_isName 7 = .ok (.isub, 1) := by decide +kernel
theorem dX8_isName_8 : decode cX8_isName 8 = .ok (.invokestatic 104, 3) := by decide +kernel
theorem dX8_isName_11 : decode cX8_isName 11 = .ok (.ireturn, 1) := by decide +kernel
theorem dX8_name_0 : decode cX8_name 0 = .ok (.aload_n 0, 1) := by decide +kernel
theorem dX8_name_1 : decode cX8_name 1 = .ok (.iconst 0, 1) := by decide +kernel
theorem dX8_name_2 : decode cX8_name 2 = .ok (.putfield 78, 3) := by decide +kernel
theorem dX8_name_5 : decode cX8_name 5 = .ok (.iload_n 1, 1) := by decide +kernel
theorem dX8_name_6 : decode cX8_name 6 = .ok (.iconst 0, 1) := by decide +kernel
theorem dX8_name_7 : decode cX8_name 7 = .ok (.iconst 3, 1) := by decide +kernel
theorem dX8_name_8 : decode cX8_name 8 = .ok (.invokestatic 104, 3) := by decide +kernel
theorem dX8_name_11 : decode cX8_name 11 = .ok (.ifCond .eq 11, 3) := by decide +kernel
theorem dX8_name_14 : decode cX8_name 14 = .ok (.iload_n 2, 1) := by decide +kernel
theorem dX8_name_15 : decode cX8_name 15 = .ok (.iload_n 3, 1) := by decide +kernel
theorem dX8_name_16 : decode cX8_name 16 = .ok (.invokestatic 108, 3) := by decide +kernel
theorem dX8_name_19 : decode cX8_name 19 = .ok (.ifCond .ne 6, 3) := by decide +kernel
theorem dX8_name_22 : decode cX8_name 22 = .ok (.bipush (-3), 2) := by decide +kernel
theorem dX8_name_24 : decode cX8_name 24 = .ok (.ireturn, 1) := by decide +kernel
theorem dX8_name_25 : decode cX8_name 25 = .ok (.aload_n 0, 1) := by decide +kernel
theorem dX8_name_26 : decode cX8_name 26 = .ok (.getfield 88, 3) := by decide +kernel
theorem dX8_name_29 : decode cX8_name 29 = .ok (.bipush 24, 2) := by decide +kernel
theorem dX8_name_31 : decode cX8_name 31 = .ok (.if_icmp .ne 6, 3) := by decide +kernel
theorem dX8_name_34 : decode cX8_name 34 = .ok (.bipush (-5), 2) := by decide +kernel
theorem dX8_name_36 : decode cX8_name 36 = .ok (.ireturn, 1) := by decide +kernel
theorem dX8_name_37 : decode cX8_name 37 = .ok (.aload_n 0, 1) := by decide +kernel
theorem dX8_name_38 : decode cX8_name 38 = .ok (.invokevirtual 112, 3) := by decide +kernel
theorem dX8_name_41 : decode cX8_name 41 = .ok (.aload_n 0, 1) := by decide +kernel
theorem dX8_name_42 : decode cX8_name 42 = .ok (.getfield 7, 3) := by decide +kernel
theorem dX8_name_45 : decode cX8_name 45 = .ok (.aload_n 0, 1) := by decide +kernel
theorem dX8_name_46 : decode cX8_name 46 = .ok (.getfield 88, 3) := by decide +kernel
theorem dX8_name_49 : decode cX8_name 49 = .ok (.iload_n 1, 1) := by decide +kernel
theorem dX8_name_50 : decode cX8_name 50 = .ok (.iastore, 1) := by decide +kernel
theorem dX8_name_51 : decode cX8_name 51 = .ok (.aload_n 0, 1) := by decide +kernel
theorem dX8_name_52 : decode cX8_name 52 = .ok (.getfield 13, 3) := by decide +kernel
theorem dX8_name_55 : decode cX8_name 55 = .ok (.aload_n 0, 1) := by decide +kernel
theorem dX8_name_56 : decode cX8_name 56 = .ok (.getfield 88, 3) := by decide +kernel
theorem dX8_name_59 : decode cX8_name 59 = .ok (.iload_n 2, 1) := by decide +kernel
theorem dX8_name_60 : decode cX8_name 60 = .ok (.iastore, 1) := by decide +kernel
theorem dX8_name_61 : decode cX8_name 61 = .ok (.aload_n 0, 1) := by decide +kernel
theorem dX8_name_62 : decode cX8_name 62 = .ok (.getfield 16, 3) := by decide +kernel
theorem dX8_name_65 : decode cX8_name 65 = .ok (.aload_n 0, 1) := by decide +kernel
theorem dX8_name_66 : decode cX8_name 66 = .ok (.getfield 88, 3) := by decide +kernel
theorem dX8_name_69 : decode cX8_name 69 = .ok (.iload_n 3, 1) := by decide +kernel
theorem dX8_name_70 : decode cX8_name 70 = .ok (.iastore, 1) := by decide +kernel
theorem dX8_name_71 : decode cX8_name 71 = .ok (.aload_n 0, 1) := by decide +kernel
theorem dX8_name_72 : decode cX8_name 72 = .ok (.getfield 19, 3) := by decide +kernel
theorem dX8_name_75 : decode cX8_name 75 = .ok (.aload_n 0, 1) := by decide +kernel
theorem dX8_name_76 : decode cX8_name 76 = .ok (.getfield 88, 3) := by decide +kernel
theorem dX8_name_79 : decode cX8_name 79 = .ok (.bipush 20, 2) := by decide +kernel
theorem dX8_name_81 : decode cX8_name 81 = .ok (.iastore, 1) := by decide +kernel
theorem dX8_name_82 : decode cX8_name 82 = .ok (.aload_n 0, 1) := by decide +kernel
theorem dX8_name_83 : decode cX8_name 83 = .ok (.getfield 22, 3) := by decide +kernel
theorem dX8_name_86 : decode cX8_name 86 = .ok (.aload_n 0, 1) := by decide +kernel
theorem dX8_name_87 : decode cX8_name 87 = .ok (.getfield 88, 3) := by decide +kernel
theorem dX8_name_90 : decode cX8_name 90 = .ok (.bipush 8, 2) := by decide +kernel
theorem dX8_name_92 : decode cX8_name 92 = .ok (.iastore, 1) := by decide +kernel
theorem dX8_name_93 : decode cX8_name 93 = .ok (.aload_n 0, 1) := by decide +kernel
theorem dX8_name_94 : decode cX8_name 94 = .ok (.getfield 25, 3) := by decide +kernel
theorem dX8_name_97 : decode cX8_name 97 = .ok (.aload_n 0, 1) := by decide +kernel
theorem dX8_name_98 : decode cX8_name 98 = .ok (.getfield 88, 3) := by decide +kernel
theorem dX8_name_101 : decode cX8_name 101 = .ok (.bipush 100, 2) := by decide +kernel
theorem dX8_name_103 : decode cX8_name 103 = .ok (.iastore, 1) := by decide +kernel
theorem dX8_name_104 : decode cX8_name 104 = .ok (.aload_n 0, 1) := by decide +kernel
theorem dX8_name_105 : decode cX8_name 105 = .ok (.getfield 28, 3) := by decide +kernel
theorem dX8_name_108 : decode cX8_name 108 = .ok (.aload_n 0, 1) := by decide +kernel
theorem dX8_name_109 : decode cX8_name 109 = .ok (.getfield 88, 3) := by decide +kernel
theorem dX8_name_112 : decode cX8_name 112 = .ok (.bipush 16, 2) := by decide +kernel
theorem dX8_name_114 : decode cX8_name 114 = .ok (.iastore, 1) := by decide +kernel
theorem dX8_name_115 : decode cX8_name 115 = .ok (.aload_n 0, 1) := by decide +kernel
theorem dX8_name_116 : decode cX8_name 116 = .ok (.dup, 1) := by decide +kernel
theorem dX8_name_117 : decode cX8_name 117 = .ok (.getfield 88, 3) := by decide +kernel
theorem dX8_name_120 : decode cX8_name 120 = .ok (.iconst 1, 1) := by decide +kernel
theorem dX8_name_121 : decode cX8_name 121 = .ok (.iadd, 1) := by decide +kernel
theorem dX8_name_122 : decode cX8_name 122 = .ok (.putfield 88, 3) := by decide +kernel
theorem dX8_name_125 : decode cX8_name 125 = .ok (.aload_n 0, 1) := by decide +kernel
theorem dX8_name_126 : decode cX8_name 126 = .ok (.getfield 88, 3) := by decide +kernel
theorem dX8_name_129 : decode cX8_name 129 = .ok (.iconst 1, 1) := by decide +kernel
theorem dX8_name_130 : decode cX8_name 130 = .ok (.isub, 1) := by decide +kernel
theorem dX8_name_131 : decode cX8_name 131 = .ok (.ireturn, 1) := by decide +kernel
theorem dX8_dot_0 : decode cX8_dot 0 = .ok (.aload_n 0, 1) := by decide +kernel
theorem dX8_dot_1 : decode cX8_dot 1 = .ok (.iconst 0, 1) := by decide +kernel
theorem dX8_dot_2 : decode cX8_dot 2 = .ok (.putfield 78, 3) := by decide +kernel
theorem dX8_dot_5 : decode cX8_dot 5 = .ok (.iload_n 1, 1) := by decide +kernel
theorem dX8_dot_6 : decode cX8_dot 6 = .ok (.iload_n 2, 1) := by decide +kernel
theorem dX8_dot_7 : decode cX8_dot 7 = .ok (.invokestatic 108, 3) := by decide +kernel
theorem dX8_dot_10 : decode cX8_dot 10 = .ok (.ifCond .ne 6, 3) := by decide +kernel
theorem dX8_dot_13 : decode cX8_dot 13 = .ok (.bipush (-3), 2) := by decide +kernel
theorem dX8_dot_15 : decode cX8_dot 15 = .ok (.ireturn, 1) := by decide +kernel
theorem dX8_dot_16 : decode cX8_dot 16 = .ok (.aload_n 0, 1) := by decide +kernel
theorem dX8_dot_17 : decode cX8_dot 17 = .ok (.getfield 91, 3) := by decide +kernel
theorem dX8_dot_20 : decode cX8_dot 20 = .ok (.bipush 20, 2) := by decide +kernel
theorem dX8_dot_22 : decode cX8_dot 22 = .ok (.if_icmp .ne 6, 3) := by decide +kernel
theorem dX8_dot_25 : decode cX8_dot 25 = .ok (.bipush (-5), 2) := by decide +kernel
theorem dX8_dot_27 : decode cX8_dot 27 = .ok (.ireturn, 1) := by decide +kernel
theorem dX8_dot_28 : decode cX8_dot 28 = .ok (.aload_n 0, 1) := by decide +kernel
theorem dX8_dot_29 : decode cX8_dot 29 = .ok (.invokevirtual 112, 3) := by decide +kernel
theorem dX8_dot_32 : decode cX8_dot 32 = .ok (.aload_n 0, 1) := by decide +kernel
theorem dX8_dot_33 : decode cX8_dot 33 = .ok (.getfield 31, 3) := by decide +kernel
theorem dX8_dot_36 : decode cX8_dot 36 = .ok (.aload_n 0, 1) := by decide +kernel
theorem dX8_dot_37 : decode cX8_dot 37 = .ok (.getfield 91, 3) := by decide +kernel
theorem dX8_dot_40 : decode cX8_dot 40 = .ok (.iload_n 1, 1) := by decide +kernel
theorem dX8_dot_41 : decode cX8_dot 41 = .ok (.iastore, 1) := by decide +kernel
theorem dX8_dot_42 : decode cX8_dot 42 = .ok (.aload_n 0, 1) := by decide +kernel
theorem dX8_dot_43 : decode cX8_dot 43 = .ok (.getfield 34, 3) := by decide +kernel
theorem dX8_dot_46 : decode cX8_dot 46 = .ok (.aload_n 0, 1) := by decide +kernel
theorem dX8_dot_47 : decode cX8_dot 47 = .ok (.getfield 91, 3) := by decide +kernel
theorem dX8_dot_50 : decode cX8_dot 50 = .ok (.iload_n 2, 1) := by decide +kernel
theorem dX8_dot_51 : decode cX8_dot 51 = .ok (.iastore, 1) := by decide +kernel
theorem dX8_dot_52 : decode cX8_dot 52 = .ok (.aload_n 0, 1) := by decide +kernel
theorem dX8_dot_53 : decode cX8_dot 53 = .ok (.dup, 1) := by decide +kernel
theorem dX8_dot_54 : decode cX8_dot 54 = .ok (.getfield 91, 3) := by decide +kernel
theorem dX8_dot_57 : decode cX8_dot 57 = .ok (.iconst 1, 1) := by decide +kernel
theorem dX8_dot_58 : decode cX8_dot 58 = .ok (.iadd, 1) := by decide +kernel
theorem dX8_dot_59 : decode cX8_dot 59 = .ok (.putfield 91, 3) := by decide +kernel
theorem dX8_dot_62 : decode cX8_dot 62 = .ok (.aload_n 0, 1) := by decide +kernel
theorem dX8_dot_63 : decode cX8_dot 63 = .ok (.getfield 91, 3) := by decide +kernel
theorem dX8_dot_66 : decode cX8_dot 66 = .ok (.iconst 1, 1) := by decide +kernel
theorem dX8_dot_67 : decode cX8_dot 67 = .ok (.isub, 1) := by decide +kernel
theorem dX8_dot_68 : decode cX8_dot 68 = .ok (.ireturn, 1) := by decide +kernel
theorem dX8_move_0 : decode cX8_move 0 = .ok (.aload_n 0, 1) := by decide +kernel
theorem dX8_move_1 : decode cX8_move 1 = .ok (.iconst 0, 1) := by decide +kernel
theorem dX8_move_2 : decode cX8_move 2 = .ok (.putfield 78, 3) := by decide +kernel
theorem dX8_move_5 : decode cX8_move 5 = .ok (.aload_n 0, 1) := by decide +kernel
theorem dX8_move_6 : decode cX8_move 6 = .ok (.iload_n 1, 1) := by decide +kernel
theorem dX8_move_7 : decode cX8_move 7 = .ok (.invokevirtual 115, 3) := by decide +kernel
theorem dX8_move_10 : decode cX8_move 10 = .ok (.ifCond .eq 11, 3) := by decide +kernel
theorem dX8_move_13 : decode cX8_move 13 = .ok (.iload_n 2, 1) := by decide +kernel
theorem dX8_move_14 : decode cX8_move 14 = .ok (.iload_n 3, 1) := by decide +kernel
theorem dX8_move_15 : decode cX8_move 15 = .ok (.invokestatic 108, 3) := by decide +kernel
theorem dX8_move_18 : decode cX8_move 18 = .ok (.ifCond .ne 6, 3) := by decide +kernel
theorem dX8_move_21 : decode cX8_move 21 = .ok (.bipush (-3), 2) := by decide +kernel
theorem dX8_move_23 : decode cX8_move 23 = .ok (.ireturn, 1) := by decide +kernel
theorem dX8_move_24 : decode cX8_move 24 = .ok (.aload_n 0, 1) := by decide +kernel
theorem dX8_move_25 : decode cX8_move 25 = .ok (.invokevirtual 112, 3) := by decide +kernel
theorem dX8_move_28 : decode cX8_move 28 = .ok (.aload_n 0, 1) := by decide +kernel
theorem dX8_move_29 : decode cX8_move 29 = .ok (.getfield 13, 3) := by decide +kernel
theorem dX8_move_32 : decode cX8_move 32 = .ok (.iload_n 1, 1) := by decide +kernel
theorem dX8_move_33 : decode cX8_move 33 = .ok (.iload_n 2, 1) := by decide +kernel
theorem dX8_move_34 : decode cX8_move 34 = .ok (.iastore, 1) := by decide +kernel
theorem dX8_move_35 : decode cX8_move 35 = .ok (.aload_n 0, 1) := by decide +kernel
theorem dX8_move_36 : decode cX8_move 36 = .ok (.getfield 16, 3) := by decide +kernel
theorem dX8_move_39 : decode cX8_move 39 = .ok (.iload_n 1, 1) := by decide +kernel
theorem dX8_move_40 : decode cX8_move 40 = .ok (.iload_n 3, 1) := by decide +kernel
theorem dX8_move_41 : decode cX8_move 41 = .ok (.iastore, 1) := by decide +kernel
theorem dX8_move_42 : decode cX8_move 42 = .ok (.iconst 0, 1) := by decide +kernel
theorem dX8_move_43 : decode cX8_move 43 = .ok (.ireturn, 1) := by decide +kernel
theorem dX8_weigh_0 : decode cX8_weigh 0 = .ok (.aload_n 0, 1) := by decide +kernel
theorem dX8_weigh_1 : decode cX8_weigh 1 = .ok (.iconst 0, 1) := by decide +kernel
theorem dX8_weigh_2 : decode cX8_weigh 2 = .ok (.putfield 78, 3) := by decide +kernel
theorem dX8_weigh_5 : decode cX8_weigh 5 = .ok (.aload_n 0, 1) := by decide +kernel
theorem dX8_weigh_6 : decode cX8_weigh 6 = .ok (.iload_n 1, 1) := by decide +kernel
theorem dX8_weigh_7 : decode cX8_weigh 7 = .ok (.invokevirtual 115, 3) := by decide +kernel
theorem dX8_weigh_10 : decode cX8_weigh 10 = .ok (.ifCond .eq 14, 3) := by decide +kernel
theorem dX8_weigh_13 : decode cX8_weigh 13 = .ok (.iload_n 2, 1) := by decide +kernel
theorem dX8_weigh_14 : decode cX8_weigh 14 = .ok (.iconst 1, 1) := by decide +kernel
theorem dX8_weigh_15 : decode cX8_weigh 15 = .ok (.sipush 1000, 3) := by decide +kernel
theorem dX8_weigh_18 : decode cX8_weigh 18 = .ok (.invokestatic 104, 3) := by decide +kernel
theorem dX8_weigh_21 : decode cX8_weigh 21 = .ok (.ifCond .ne 6, 3) := by decide +kernel
theorem dX8_weigh_24 : decode cX8_weigh 24 = .ok (.bipush (-3), 2) := by decide +kernel
theorem dX8_weigh_26 : decode cX8_weigh 26 = .ok (.ireturn, 1) := by decide +kernel
theorem dX8_weigh_27 : decode cX8_weigh 27 = .ok (.aload_n 0, 1) := by decide +kernel
theorem dX8_weigh_28 : decode cX8_weigh 28 = .ok (.invokevirtual 112, 3) := by decide +kernel
theorem dX8_weigh_31 : decode cX8_weigh 31 = .ok (.aload_n 0, 1) := by decide +kernel
theorem dX8_weigh_32 : decode cX8_weigh 32 = .ok (.getfield 25, 3) := by decide +kernel
theorem dX8_weigh_35 : decode cX8_weigh 35 = .ok (.iload_n 1, 1) := by decide +kernel
theorem dX8_weigh_36 : decode cX8_weigh 36 = .ok (.iaload, 1) := by decide +kernel
theorem dX8_weigh_37 : decode cX8_weigh 37 = .ok (.istore_n 3, 1) := by decide +kernel
theorem dX8_weigh_38 : decode cX8_weigh 38 = .ok (.aload_n 0, 1) := by decide +kernel
theorem dX8_weigh_39 : decode cX8_weigh 39 = .ok (.getfield 25, 3) := by decide +kernel
theorem dX8_weigh_42 : decode cX8_weigh 42 = .ok (.iload_n 1, 1) := by decide +kernel
theorem dX8_weigh_43 : decode cX8_weigh 43 = .ok (.iload_n 2, 1) := by decide +kernel
theorem dX8_weigh_44 : decode cX8_weigh 44 = .ok (.iastore, 1) := by decide +kernel
theorem dX8_weigh_45 : decode cX8_weigh 45 = .ok (.iload_n 3, 1) := by decide +kernel
theorem dX8_weigh_46 : decode cX8_weigh 46 = .ok (.ireturn, 1) := by decide +kernel
theorem dX8_size_0 : decode cX8_size 0 = .ok (.aload_n 0, 1) := by decide +kernel
theorem dX8_size_1 : decode cX8_size 1 = .ok (.iconst 0, 1) := by decide +kernel
theorem dX8_size_2 : decode cX8_size 2 = .ok (.putfield 78, 3) := by decide +kernel
theorem dX8_size_5 : decode cX8_size 5 = .ok (.aload_n 0, 1) := by decide +kernel
theorem dX8_size_6 : decode cX8_size 6 = .ok (.iload_n 1, 1) := by decide +kernel
theorem dX8_size_7 : decode cX8_size 7 = .ok (.invokevirtual 115, 3) := by decide +kernel
theorem dX8_size_10 : decode cX8_size 10 = .ok (.ifCond .eq 24, 3) := by decide +kernel
theorem dX8_size_13 : decode cX8_size 13 = .ok (.iload_n 2, 1) := by decide +kernel
theorem dX8_size_14 : decode cX8_size 14 = .ok (.iconst 1, 1) := by decide +kernel
theorem dX8_size_15 : decode cX8_size 15 = .ok (.sipush 300, 3) := by decide +kernel
theorem dX8_size_18 : decode cX8_size 18 = .ok (.invokestatic 104, 3) := by decide +kernel
theorem dX8_size_21 : decode cX8_size 21 = .ok (.ifCond .eq 13, 3) := by decide +kernel
theorem dX8_size_24 : decode cX8_size 24 = .ok (.iload_n 3, 1) := by decide +kernel
theorem dX8_size_25 : decode cX8_size 25 = .ok (.iconst 1, 1) := by decide +kernel
theorem dX8_size_26 : decode cX8_size 26 = .ok (.bipush 80, 2) := by decide +kernel
theorem dX8_size_28 : decode cX8_size 28 = .ok (.invokestatic 104, 3) := by decide +kernel
theorem dX8_size_31 : decode cX8_size 31 = .ok (.ifCond .ne 6, 3) := by decide +kernel
theorem dX8_size_34 : decode cX8_size 34 = .ok (.bipush (-3), 2) := by decide +kernel
theorem dX8_size_36 : decode cX8_size 36 = .ok (.ireturn, 1) := by decide +kernel
theorem dX8_size_37 : decode cX8_size 37 = .ok (.aload_n 0, 1) := by decide +kernel
theorem dX8_size_38 : decode cX8_size 38 = .ok (.invokevirtual 112, 3) := by decide +kernel
theorem dX8_size_41 : decode cX8_size 41 = .ok (.aload_n 0, 1) := by decide +kernel
theorem dX8_size_42 : decode cX8_size 42 = .ok (.getfield 19, 3) := by decide +kernel
theorem dX8_size_45 : decode cX8_size 45 = .ok (.iload_n 1, 1) := by decide +kernel
theorem dX8_size_46 : decode cX8_size 46 = .ok (.iload_n 2, 1) := by decide +kernel
theorem dX8_size_47 : decode cX8_size 47 = .ok (.iastore, 1) := by decide +kernel
theorem dX8_size_48 : decode cX8_size 48 = .ok (.aload_n 0, 1) := by decide +kernel
theorem dX8_size_49 : decode cX8_size 49 = .ok (.getfield 22, 3) := by decide +kernel
theorem dX8_size_52 : decode cX8_size 52 = .ok (.iload_n 1, 1) := by decide +kernel
theorem dX8_size_53 : decode cX8_size 53 = .ok (.iload_n 3, 1) := by decide +kernel
theorem dX8_size_54 : decode cX8_size 54 = .ok (.iastore, 1) := by decide +kernel
theorem dX8_size_55 : decode cX8_size 55 = .ok (.iconst 0, 1) := by decide +kernel
theorem dX8_size_56 : decode cX8_size 56 = .ok (.ireturn, 1) := by decide +kernel
theorem dX8_ways_0 : decode cX8_ways 0 = .ok (.aload_n 0, 1) := by decide +kernel
theorem dX8_ways_1 : decode cX8_ways 1 = .ok (.getfield 7, 3) := by decide +kernel
theorem dX8_ways_4 : decode cX8_ways 4 = .ok (.iload_n 1, 1) := by decide +kernel
theorem dX8_ways_5 : decode cX8_ways 5 = .ok (.iaload, 1) := by decide +kernel
theorem dX8_ways_6 : decode cX8_ways 6 = .ok (.ifCond .ne 8, 3) := by decide +kernel
theorem dX8_ways_9 : decode cX8_ways 9 = .ok (.bipush 8, 2) := by decide +kernel
theorem dX8_ways_11 : decode cX8_ways 11 = .ok (.goto 5, 3) := by decide +kernel
theorem dX8_ways_14 : decode cX8_ways 14 = .ok (.bipush 16, 2) := by decide +kernel
theorem dX8_ways_16 : decode cX8_ways 16 = .ok (.ireturn, 1) := by decide +kernel
theorem dX8_isLed_0 : decode cX8_isLed 0 = .ok (.aload_n 0, 1) := by decide +kernel
theorem dX8_isLed_1 : decode cX8_isLed 1 = .ok (.getfield 7, 3) := by decide +kernel
theorem dX8_isLed_4 : decode cX8_isLed 4 = .ok (.iload_n 1, 1) := by decide +kernel
theorem dX8_isLed_5 : decode cX8_isLed 5 = .ok (.iaload, 1) := by decide +kernel
theorem dX8_isLed_6 : decode cX8_isLed 6 = .ok (.iconst 2, 1) := by decide +kernel
theorem dX8_isLed_7 : decode cX8_isLed 7 = .ok (.if_icmp .lt 13, 3) := by decide +kernel
theorem dX8_isLed_10 : decode cX8_isLed 10 = .ok (.iload_n 2, 1) := by decide +kernel
theorem dX8_isLed_11 : decode cX8_isLed 11 = .ok (.bipush 8, 2) := by decide +kernel
theorem dX8_isLed_13 : decode cX8_isLed 13 = .ok (.if_icmp .lt 7, 3) := by decide +kernel
theorem dX8_isLed_16 : decode cX8_isLed 16 = .ok (.iconst 1, 1) := by decide +kernel
theorem dX8_isLed_17 : decode cX8_isLed 17 = .ok (.goto 4, 3) := by decide +kernel
theorem dX8_isLed_20 : decode cX8_isLed 20 = .ok (.iconst 0, 1) := by decide +kernel
theorem dX8_isLed_21 : decode cX8_isLed 21 = .ok (.ireturn, 1) := by decide +kernel
theorem dX8_box_0 : decode cX8_box 0 = .ok (.aload_n 0, 1) := by decide +kernel
theorem dX8_box_1 : decode cX8_box 1 = .ok (.getfield 13, 3) := by decide +kernel
theorem dX8_box_4 : decode cX8_box 4 = .ok (.iload_n 1, 1) := by decide +kernel
theorem dX8_box_5 : decode cX8_box 5 = .ok (.iaload, 1) := by decide +kernel
theorem dX8_box_6 : decode cX8_box 6 = .ok (.iload_n 3, 1) := by decide +kernel
theorem dX8_box_7 : decode cX8_box 7 = .ok (.ishl, 1) := by decide +kernel
theorem dX8_box_8 : decode cX8_box 8 = .ok (.istore 4, 2) := by decide +kernel
theorem dX8_box_10 : decode cX8_box 10 = .ok (.aload_n 0, 1) := by decide +kernel
theorem dX8_box_11 : decode cX8_box 11 = .ok (.getfield 16, 3) := by decide +kernel
theorem dX8_box_14 : decode cX8_box 14 = .ok (.iload_n 1, 1) := by decide +kernel
theorem dX8_box_15 : decode cX8_box 15 = .ok (.iaload, 1) := by decide +kernel
theorem dX8_box_16 : decode cX8_box 16 = .ok (.iload_n 3, 1) := by decide +kernel
theorem dX8_box_17 : decode cX8_box 17 = .ok (.ishl, 1) := by decide +kernel
theorem dX8_box_18 : decode cX8_box 18 = .ok (.istore 5, 2) := by decide +kernel
theorem dX8_box_20 : decode cX8_box 20 = .ok (.aload_n 0, 1) := by decide +kernel
theorem dX8_box_21 : decode cX8_box 21 = .ok (.getfield 7, 3) := by decide +kernel
theorem dX8_box_24 : decode cX8_box 24 = .ok (.iload_n 1, 1) := by decide +kernel
theorem dX8_box_25 : decode cX8_box 25 = .ok (.iaload, 1) := by decide +kernel
theorem dX8_box_26 : decode cX8_box 26 = .ok (.iconst 1, 1) := by decide +kernel
theorem dX8_box_27 : decode cX8_box 27 = .ok (.if_icmp .ne 13, 3) := by decide +kernel
theorem dX8_box_30 : decode cX8_box 30 = .ok (.iload_n 2, 1) := by decide +kernel
theorem dX8_box_31 : decode cX8_box 31 = .ok (.bipush 8, 2) := by decide +kernel
theorem dX8_box_33 : decode cX8_box 33 = .ok (.if_icmp .lt 7, 3) := by decide +kernel
theorem dX8_box_36 : decode cX8_box 36 = .ok (.iconst 1, 1) := by decide +kernel
theorem dX8_box_37 : decode cX8_box 37 = .ok (.goto 4, 3) := by decide +kernel
theorem dX8_box_40 : decode cX8_box 40 = .ok (.iconst 0, 1) := by decide +kernel
theorem dX8_box_41 : decode cX8_box 41 = .ok (.istore 6, 2) := by decide +kernel
theorem dX8_box_43 : decode cX8_box 43 = .ok (.iload 6, 2) := by decide +kernel
theorem dX8_box_45 : decode cX8_box 45 = .ok (.ifCond .eq 16, 3) := by decide +kernel
theorem dX8_box_48 : decode cX8_box 48 = .ok (.aload_n 0, 1) := by decide +kernel
theorem dX8_box_49 : decode cX8_box 49 = .ok (.getfield 19, 3) := by decide +kernel
theorem dX8_box_52 : decode cX8_box 52 = .ok (.iload_n 1, 1) := by decide +kernel
theorem dX8_box_53 : decode cX8_box 53 = .ok (.iaload, 1) := by decide +kernel
theorem dX8_box_54 : decode cX8_box 54 = .ok (.iconst 1, 1) := by decide +kernel
theorem dX8_box_55 : decode cX8_box 55 = .ok (.iadd, 1) := by decide +kernel
theorem dX8_box_56 : decode cX8_box 56 = .ok (.iconst 2, 1) := by decide +kernel
theorem dX8_box_57 : decode cX8_box 57 = .ok (.idiv, 1) := by decide +kernel
theorem dX8_box_58 : decode cX8_box 58 = .ok (.goto 9, 3) := by decide +kernel
theorem dX8_box_61 : decode cX8_box 61 = .ok (.aload_n 0, 1) := by decide +kernel
theorem dX8_box_62 : decode cX8_box 62 = .ok (.getfield 19, 3) := by decide +kernel
theorem dX8_box_65 : decode cX8_box 65 = .ok (.iload_n 1, 1) := by decide +kernel
theorem dX8_box_66 : decode cX8_box 66 = .ok (.iaload, 1) := by decide +kernel
theorem dX8_box_67 : decode cX8_box 67 = .ok (.istore 7, 2) := by decide +kernel
theorem dX8_box_69 : decode cX8_box 69 = .ok (.iload 6, 2) := by decide +kernel
theorem dX8_box_71 : decode cX8_box 71 = .ok (.ifCond .eq 14, 3) := by decide +kernel
theorem dX8_box_74 : decode cX8_box 74 = .ok (.iconst 2, 1) := by decide +kernel
theorem dX8_box_75 : decode cX8_box 75 = .ok (.aload_n 0, 1) := by decide +kernel
theorem dX8_box_76 : decode cX8_box 76 = .ok (.getfield 22, 3) := by decide +kernel
theorem dX8_box_79 : decode cX8_box 79 = .ok (.iload_n 1, 1) := by decide +kernel
theorem dX8_box_80 : decode cX8_box 80 = .ok (.iaload, 1) := by decide +kernel
theorem dX8_box_81 : decode cX8_box 81 = .ok (.imul, 1) := by decide +kernel
theorem dX8_box_82 : decode cX8_box 82 = .ok (.goto 9, 3) := by decide +kernel
theorem dX8_box_85 : decode cX8_box 85 = .ok (.aload_n 0, 1) := by decide +kernel
theorem dX8_box_86 : decode cX8_box 86 = .ok (.getfield 22, 3) := by decide +kernel
theorem dX8_box_89 : decode cX8_box 89 = .ok (.iload_n 1, 1) := by decide +kernel
theorem dX8_box_90 : decode cX8_box 90 = .ok (.iaload, 1) := by decide +kernel
theorem dX8_box_91 : decode cX8_box 91 = .ok (.istore 8, 2) := by decide +kernel
theorem dX8_box_93 : decode cX8_box 93 = .ok (.aload_n 0, 1) := by decide +kernel
theorem dX8_box_94 : decode cX8_box 94 = .ok (.iload_n 1, 1) := by decide +kernel
theorem dX8_box_95 : decode cX8_box 95 = .ok (.iload_n 2, 1) := by decide +kernel
theorem dX8_box_96 : decode cX8_box 96 = .ok (.invokevirtual 119, 3) := by decide +kernel
theorem dX8_box_99 : decode cX8_box 99 = .ok (.ifCond .eq 8, 3) := by decide +kernel
theorem dX8_box_102 : decode cX8_box 102 = .ok (.bipush 40, 2) := by decide +kernel
theorem dX8_box_104 : decode cX8_box 104 = .ok (.goto 4, 3) := by decide +kernel
theorem dX8_box_107 : decode cX8_box 107 = .ok (.iconst 2, 1) := by decide +kernel
theorem dX8_box_108 : decode cX8_box 108 = .ok (.istore 9, 2) := by decide +kernel
theorem dX8_box_110 : decode cX8_box 110 = .ok (.iload_n 2, 1) := by decide +kernel
theorem dX8_box_111 : decode cX8_box 111 = .ok (.bipush 8, 2) := by decide +kernel
theorem dX8_box_113 : decode cX8_box 113 = .ok (.irem, 1) := by decide +kernel
theorem dX8_box_114 : decode cX8_box 114 = .ok (.istore 10, 2) := by decide +kernel
theorem dX8_box_116 : decode cX8_box 116 = .ok (.iload 10, 2) := by decide +kernel
theorem dX8_box_118 : decode cX8_box 118 = .ok (.ifCond .eq 15, 3) := by decide +kernel
theorem dX8_box_121 : decode cX8_box 121 = .ok (.iload 10, 2) := by decide +kernel
theorem dX8_box_123 : decode cX8_box 123 = .ok (.iconst 3, 1) := by decide +kernel
theorem dX8_box_124 : decode cX8_box 124 = .ok (.if_icmp .eq 9, 3) := by decide +kernel
theorem dX8_box_127 : decode cX8_box 127 = .ok (.iload 10, 2) := by decide +kernel
theorem dX8_box_129 : decode cX8_box 129 = .ok (.iconst 4, 1) := by decide +kernel
theorem dX8_box_130 : decode cX8_box 130 = .ok (.if_icmp .ne 7, 3) := by decide +kernel
theorem dX8_box_133 : decode cX8_box 133 = .ok (.iconst 1, 1) := by decide +kernel
theorem dX8_box_134 : decode cX8_box 134 = .ok (.goto 4, 3) := by decide +kernel
theorem dX8_box_137 : decode cX8_box 137 = .ok (.iconst 0, 1) := by decide +kernel
theorem dX8_box_138 : decode cX8_box 138 = .ok (.istore 11, 2) := by decide +kernel
theorem dX8_box_140 : decode cX8_box 140 = .ok (.iload 10, 2) := by decide +kernel
theorem dX8_box_142 : decode cX8_box 142 = .ok (.bipush 6, 2) := by decide +kernel
theorem dX8_box_144 : decode cX8_box 144 = .ok (.if_icmp .eq 10, 3) := by decide +kernel
theorem dX8_box_147 : decode cX8_box 147 = .ok (.iload 10, 2) := by decide +kernel
theorem dX8_box_149 : decode cX8_box 149 = .ok (.bipush 7, 2) := by decide +kernel
theorem dX8_box_151 : decode cX8_box 151 = .ok (.if_icmp .ne 7, 3) := by decide +kernel
theorem dX8_box_154 : decode cX8_box 154 = .ok (.iconst 1, 1) := by decide +kernel
theorem dX8_box_155 : decode cX8_box 155 = .ok (.goto 4, 3) := by decide +kernel
theorem dX8_box_158 : decode cX8_box 158 = .ok (.iconst 0, 1) := by decide +kernel
theorem dX8_box_159 : decode cX8_box 159 = .ok (.istore 12, 2) := by decide +kernel
theorem dX8_box_161 : decode cX8_box 161 = .ok (.iload 10, 2) := by decide +kernel
theorem dX8_box_163 : decode cX8_box 163 = .ok (.ifCond .eq 16, 3) := by decide +kernel
theorem dX8_box_166 : decode cX8_box 166 = .ok (.iload 10, 2) := by decide +kernel
theorem dX8_box_168 : decode cX8_box 168 = .ok (.iconst 1, 1) := by decide +kernel
theorem dX8_box_169 : decode cX8_box 169 = .ok (.if_icmp .eq 10, 3) := by decide +kernel
theorem dX8_box_172 : decode cX8_box 172 = .ok (.iload 10, 2) := by decide +kernel
theorem dX8_box_174 : decode cX8_box 174 = .ok (.bipush 6, 2) := by decide +kernel
theorem dX8_box_176 : decode cX8_box 176 = .ok (.if_icmp .ne 7, 3) := by decide +kernel
theorem dX8_box_179 : decode cX8_box 179 = .ok (.iconst 1, 1) := by decide +kernel
theorem dX8_box_180 : decode cX8_box 180 = .ok (.goto 4, 3) := by decide +kernel
theorem dX8_box_183 : decode cX8_box 183 = .ok (.iconst 0, 1) := by decide +kernel
theorem dX8_box_184 : decode cX8_box 184 = .ok (.istore 13, 2) := by decide +kernel
theorem dX8_box_186 : decode cX8_box 186 = .ok (.iload 10, 2) := by decide +kernel
theorem dX8_box_188 : decode cX8_box 188 = .ok (.iconst 4, 1) := by decide +kernel
theorem dX8_box_189 : decode cX8_box 189 = .ok (.if_icmp .eq 9, 3) := by decide +kernel
theorem dX8_box_192 : decode cX8_box 192 = .ok (.iload 10, 2) := by decide +kernel
theorem dX8_box_194 : decode cX8_box 194 = .ok (.iconst 5, 1) := by decide +kernel
theorem dX8_box_195 : decode cX8_box 195 = .ok (.if_icmp .ne 7, 3) := by decide +kernel
theorem dX8_box_198 : decode cX8_box 198 = .ok (.iconst 1, 1) := by decide +kernel
theorem dX8_box_199 : decode cX8_box 199 = .ok (.goto 4, 3) := by decide +kernel
theorem dX8_box_202 : decode cX8_box 202 = .ok (.iconst 0, 1) := by decide +kernel
theorem dX8_box_203 : decode cX8_box 203 = .ok (.istore 14, 2) := by decide +kernel
theorem dX8_box_205 : decode cX8_box 205 = .ok (.aload_n 0, 1) := by decide +kernel
theorem dX8_box_206 : decode cX8_box 206 = .ok (.iload 12, 2) := by decide +kernel
theorem dX8_box_208 : decode cX8_box 208 = .ok (.ifCond .eq 13, 3) := by decide +kernel
theorem dX8_box_211 : decode cX8_box 211 = .ok (.iload 4, 2) := by decide +kernel
theorem dX8_box_213 : decode cX8_box 213 = .ok (.iload 7, 2) := by decide +kernel
theorem dX8_box_215 : decode cX8_box 215 = .ok (.iconst 2, 1) := by decide +kernel
theorem dX8_box_216 : decode cX8_box 216 = .ok (.idiv, 1) := by decide +kernel
theorem dX8_box_217 : decode cX8_box 217 = .ok (.isub, 1) := by decide +kernel
theorem dX8_box_218 : decode cX8_box 218 = .ok (.goto 24, 3) := by decide +kernel
theorem dX8_box_221 : decode cX8_box 221 = .ok (.iload 11, 2) := by decide +kernel
theorem dX8_box_223 : decode cX8_box 223 = .ok (.ifCond .eq 11, 3) := by decide +kernel
theorem dX8_box_226 : decode cX8_box 226 = .ok (.iload 4, 2) := by decide +kernel
theorem dX8_box_228 : decode cX8_box 228 = .ok (.iload 9, 2) := by decide +kernel
theorem dX8_box_230 : decode cX8_box 230 = .ok (.iadd, 1) := by decide +kernel
theorem dX8_box_231 : decode cX8_box 231 = .ok (.goto 11, 3) := by decide +kernel
theorem dX8_box_234 : decode cX8_box 234 = .ok (.iload 4, 2) := by decide +kernel
theorem dX8_box_236 : decode cX8_box 236 = .ok (.iload 9, 2) := by decide +kernel
theorem dX8_box_238 : decode cX8_box 238 = .ok (.isub, 1) := by decide +kernel
theorem dX8_box_239 : decode cX8_box 239 = .ok (.iload 7, 2) := by decide +kernel
theorem dX8_box_241 : decode cX8_box 241 = .ok (.isub, 1) := by decide +kernel
theorem dX8_box_242 : decode cX8_box 242 = .ok (.putfield 122, 3) := by decide +kernel
theorem dX8_box_245 : decode cX8_box 245 = .ok (.aload_n 0, 1) := by decide +kernel
theorem dX8_box_246 : decode cX8_box 246 = .ok (.iload 14, 2) := by decide +kernel
theorem dX8_box_248 : decode cX8_box 248 = .ok (.ifCond .eq 13, 3) := by decide +kernel
theorem dX8_box_251 : decode cX8_box 251 = .ok (.iload 5, 2) := by decide +kernel
theorem dX8_box_253 : decode cX8_box 253 = .ok (.iload 8, 2) := by decide +kernel
theorem dX8_box_255 : decode cX8_box 255 = .ok (.iconst 2, 1) := by decide +kernel
theorem dX8_box_256 : decode cX8_box 256 = .ok (.idiv, 1) := by decide +kernel
theorem dX8_box_257 : decode cX8_box 257 = .ok (.isub, 1) := by decide +kernel
theorem dX8_box_258 : decode cX8_box 258 = .ok (.goto 24, 3) := by decide +kernel
theorem dX8_box_261 : decode cX8_box 261 = .ok (.iload 13, 2) := by decide +kernel
theorem dX8_box_263 : decode cX8_box 263 = .ok (.ifCond .eq 14, 3) := by decide +kernel
theorem dX8_box_266 : decode cX8_box 266 = .ok (.iload 5, 2) := by decide +kernel
theorem dX8_box_268 : decode cX8_box 268 = .ok (.iload 9, 2) := by decide +kernel
theorem dX8_box_270 : decode cX8_box 270 = .ok (.isub, 1) := by decide +kernel
theorem dX8_box_271 : decode cX8_box 271 = .ok (.iload 8, 2) := by decide +kernel
theorem dX8_box_273 : decode cX8_box 273 = .ok (.isub, 1) := by decide +kernel
theorem dX8_box_274 : decode cX8_box 274 = .ok (.goto 8, 3) := by decide +kernel
theorem dX8_box_277 : decode cX8_box 277 = .ok (.iload 5, 2) := by decide +kernel
theorem dX8_box_279 : decode cX8_box 279 = .ok (.iload 9, 2) := by decide +kernel
theorem dX8_box_281 : decode cX8_box 281 = .ok (.iadd, 1) := by decide +kernel
theorem dX8_box_282 : decode cX8_box 282 = .ok (.putfield 125, 3) := by decide +kernel
theorem dX8_box_285 : decode cX8_box 285 = .ok (.aload_n 0, 1) := by decide +kernel
theorem dX8_box_286 : decode cX8_box 286 = .ok (.iload 7, 2) := by decide +kernel
theorem dX8_box_288 : decode cX8_box 288 = .ok (.putfield 128, 3) := by decide +kernel
theorem dX8_box_291 : decode cX8_box 291 = .ok (.aload_n 0, 1) := by decide +kernel
theorem dX8_box_292 : decode cX8_box 292 = .ok (.iload 8, 2) := by decide +kernel
theorem dX8_box_294 : decode cX8_box 294 = .ok (.putfield 131, 3) := by decide +kernel
theorem dX8_box_297 : decode cX8_box 297 = .ok (.return_, 1) := by decide +kernel
theorem dX8_priceOf_0 : decode cX8_priceOf 0 = .ok (.iload_n 2, 1) := by decide +kernel
theorem dX8_priceOf_1 : decode cX8_priceOf 1 = .ok (.bipush 8, 2) := by decide +kernel
theorem dX8_priceOf_3 : decode cX8_priceOf 3 = .ok (.if_icmp .ge 9, 3) := by decide +kernel
theorem dX8_priceOf_6 : decode cX8_priceOf 6 = .ok (.iconst 5, 1) := by decide +kernel
theorem dX8_priceOf_7 : decode cX8_priceOf 7 = .ok (.iload_n 2, 1) := by decide +kernel
theorem dX8_priceOf_8 : decode cX8_priceOf 8 = .ok (.imul, 1) := by decide +kernel
theorem dX8_priceOf_9 : decode cX8_priceOf 9 = .ok (.goto 27, 3) := by decide +kernel
theorem dX8_priceOf_12 : decode cX8_priceOf 12 = .ok (.iconst 5, 1) := by decide +kernel
theorem dX8_priceOf_13 : decode cX8_priceOf 13 = .ok (.iload_n 2, 1) := by decide +kernel
theorem dX8_priceOf_14 : decode cX8_priceOf 14 = .ok (.bipush 8, 2) := by decide +kernel
theorem dX8_priceOf_16 : decode cX8_priceOf 16 = .ok (.isub, 1) := by decide +kernel
theorem dX8_priceOf_17 : decode cX8_priceOf 17 = .ok (.imul, 1) := by decide +kernel
theorem dX8_priceOf_18 : decode cX8_priceOf 18 = .ok (.aload_n 0, 1) := by decide +kernel
theorem dX8_priceOf_19 : decode cX8_priceOf 19 = .ok (.getfield 7, 3) := by decide +kernel
theorem dX8_priceOf_22 : decode cX8_priceOf 22 = .ok (.iload_n 1, 1) := by decide +kernel
theorem dX8_priceOf_23 : decode cX8_priceOf 23 = .ok (.iaload, 1) := by decide +kernel
theorem dX8_priceOf_24 : decode cX8_priceOf 24 = .ok (.iconst 1, 1) := by decide +kernel
theorem dX8_priceOf_25 : decode cX8_priceOf 25 = .ok (.if_icmp .ne 8, 3) := by decide +kernel
theorem dX8_priceOf_28 : decode cX8_priceOf 28 = .ok (.bipush 20, 2) := by decide +kernel
theorem dX8_priceOf_30 : decode cX8_priceOf 30 = .ok (.goto 5, 3) := by decide +kernel
theorem dX8_priceOf_33 : decode cX8_priceOf 33 = .ok (.bipush 50, 2) := by decide +kernel
theorem dX8_priceOf_35 : decode cX8_priceOf 35 = .ok (.iadd, 1) := by decide +kernel
theorem dX8_priceOf_36 : decode cX8_priceOf 36 = .ok (.ireturn, 1) := by decide +kernel
theorem dX8_covers_0 : decode cX8_covers 0 = .ok (.iload_n 1, 1) := by decide +kernel
theorem dX8_covers_1 : decode cX8_covers 1 = .ok (.aload_n 0, 1) := by decide +kernel
theorem dX8_covers_2 : decode cX8_covers 2 = .ok (.getfield 122, 3) := by decide +kernel
theorem dX8_covers_5 : decode cX8_covers 5 = .ok (.if_icmp .le 41, 3) := by decide +kernel
theorem dX8_covers_8 : decode cX8_covers 8 = .ok (.iload_n 1, 1) := by decide +kernel
theorem dX8_covers_9 : decode cX8_covers 9 = .ok (.aload_n 0, 1) := by decide +kernel
theorem dX8_covers_10 : decode cX8_covers 10 = .ok (.getfield 122, 3) := by decide +kernel
theorem dX8_covers_13 : decode cX8_covers 13 = .ok (.aload_n 0, 1) := by decide +kernel
theorem dX8_covers_14 : decode cX8_covers 14 = .ok (.getfield 128, 3) := by decide +kernel
theorem dX8_covers_17 : decode cX8_covers 17 = .ok (.iadd, 1) := by decide +kernel
theorem dX8_covers_18 : decode cX8_covers 18 = .ok (.if_icmp .ge 28, 3) := by decide +kernel
theorem dX8_covers_21 : decode cX8_covers 21 = .ok (.iload_n 2, 1) := by decide +kernel
theorem dX8_covers_22 : decode cX8_covers 22 = .ok (.aload_n 0, 1) := by decide +kernel
theorem dX8_covers_23 : decode cX8_covers 23 = .ok (.getfield 125, 3) := by decide +kernel
theorem dX8_covers_26 : decode cX8_covers 26 = .ok (.if_icmp .le 20, 3) := by decide +kernel
theorem dX8_covers_29 : decode cX8_covers 29 = .ok (.iload_n 2, 1) := by decide +kernel
theorem dX8_covers_30 : decode cX8_covers 30 = .ok (.aload_n 0, 1) := by decide +kernel
theorem dX8_covers_31 : decode cX8_covers 31 = .ok (.getfield 125, 3) := by decide +kernel
theorem dX8_covers_34 : decode cX8_covers 34 = .ok (.aload_n 0, 1) := by decide +kernel
theorem dX8_covers_35 : decode cX8_covers 35 = .ok (.getfield 131, 3) := by decide +kernel
theorem dX8_covers_38 : decode cX8_covers 38 = .ok (.iadd, 1) := by decide +kernel
theorem dX8_covers_39 : decode cX8_covers 39 = .ok (.if_icmp .ge 7, 3) := by decide +kernel
theorem dX8_covers_42 : decode cX8_covers 42 = .ok (.iconst 1, 1) := by decide +kernel
theorem dX8_covers_43 : decode cX8_covers 43 = .ok (.goto 4, 3) := by decide +kernel
theorem dX8_covers_46 : decode cX8_covers 46 = .ok (.iconst 0, 1) := by decide +kernel
theorem dX8_covers_47 : decode cX8_covers 47 = .ok (.ireturn, 1) := by decide +kernel
theorem dX8_isOpen_0 : decode cX8_isOpen 0 = .ok (.aload_n 0, 1) := by decide +kernel
theorem dX8_isOpen_1 : decode cX8_isOpen 1 = .ok (.iload_n 1, 1) := by decide +kernel
theorem dX8_isOpen_2 : decode cX8_isOpen 2 = .ok (.iload_n 2, 1) := by decide +kernel
theorem dX8_isOpen_3 : decode cX8_isOpen 3 = .ok (.iload_n 3, 1) := by decide +kernel
theorem dX8_isOpen_4 : decode cX8_isOpen 4 = .ok (.invokevirtual 134, 3) := by decide +kernel
theorem dX8_isOpen_7 : decode cX8_isOpen 7 = .ok (.sipush 1000, 3) := by decide +kernel
theorem dX8_isOpen_10 : decode cX8_isOpen 10 = .ok (.iload_n 3, 1) := by decide +kernel
theorem dX8_isOpen_11 : decode cX8_isOpen 11 = .ok (.ishl, 1) := by decide +kernel
theorem dX8_isOpen_12 : decode cX8_isOpen 12 = .ok (.istore 4, 2) := by decide +kernel
theorem dX8_isOpen_14 : decode cX8_isOpen 14 = .ok (.aload_n 0, 1) := by decide +kernel
theorem dX8_isOpen_15 : decode cX8_isOpen 15 = .ok (.getfield 122, 3) := by decide +kernel
theorem dX8_isOpen_18 : decode cX8_isOpen 18 = .ok (.ifCond .lt 38, 3) := by decide +kernel
theorem dX8_isOpen_21 : decode cX8_isOpen 21 = .ok (.aload_n 0, 1) := by decide +kernel
theorem dX8_isOpen_22 : decode cX8_isOpen 22 = .ok (.getfield 125, 3) := by decide +kernel
theorem dX8_isOpen_25 : decode cX8_isOpen 25 = .ok (.ifCond .lt 31, 3) := by decide +kernel
theorem dX8_isOpen_28 : decode cX8_isOpen 28 = .ok (.aload_n 0, 1) := by decide +kernel
theorem dX8_isOpen_29 : decode cX8_isOpen 29 = .ok (.getfield 122, 3) := by decide +kernel
theorem dX8_isOpen_32 : decode cX8_isOpen 32 = .ok (.aload_n 0, 1) := by decide +kernel
theorem dX8_isOpen_33 : decode cX8_isOpen 33 = .ok (.getfield 128, 3) := by decide +kernel
theorem dX8_isOpen_36 : decode cX8_isOpen 36 = .ok (.iadd, 1) := by decide +kernel
theorem dX8_isOpen_37 : decode cX8_isOpen 37 = .ok (.iload 4, 2) := by decide +kernel
theorem dX8_isOpen_39 : decode cX8_isOpen 39 = .ok (.if_icmp .gt 17, 3) := by decide +kernel
theorem dX8_isOpen_42 : decode cX8_isOpen 42 = .ok (.aload_n 0, 1) := by decide +kernel
theorem dX8_isOpen_43 : decode cX8_isOpen 43 = .ok (.getfield 125, 3) := by decide +kernel
theorem dX8_isOpen_46 : decode cX8_isOpen 46 = .ok (.aload_n 0, 1) := by decide +kernel
theorem dX8_isOpen_47 : decode cX8_isOpen 47 = .ok (.getfield 131, 3) := by decide +kernel
theorem dX8_isOpen_50 : decode cX8_isOpen 50 = .ok (.iadd, 1) := by decide +kernel
theorem dX8_isOpen_51 : decode cX8_isOpen 51 = .ok (.iload 4, 2) := by decide +kernel
theorem dX8_isOpen_53 : decode cX8_isOpen 53 = .ok (.if_icmp .le 5, 3) := by decide +kernel
theorem dX8_isOpen_56 : decode cX8_isOpen 56 = .ok (.iconst 0, 1) := by decide +kernel
theorem dX8_isOpen_57 : decode cX8_isOpen 57 = .ok (.ireturn, 1) := by decide +kernel
theorem dX8_isOpen_58 : decode cX8_isOpen 58 = .ok (.iconst 0, 1) := by decide +kernel
theorem dX8_isOpen_59 : decode cX8_isOpen 59 = .ok (.istore 5, 2) := by decide +kernel
theorem dX8_isOpen_61 : decode cX8_isOpen 61 = .ok (.iload 5, 2) := by decide +kernel
theorem dX8_isOpen_63 : decode cX8_isOpen 63 = .ok (.aload_n 0, 1) := by decide +kernel
theorem dX8_isOpen_64 : decode cX8_isOpen 64 = .ok (.getfield 88, 3) := by decide +kernel
theorem dX8_isOpen_67 : decode cX8_isOpen 67 = .ok (.if_icmp .ge 36, 3) := by decide +kernel
theorem dX8_isOpen_70 : decode cX8_isOpen 70 = .ok (.aload_n 0, 1) := by decide +kernel
theorem dX8_isOpen_71 : decode cX8_isOpen 71 = .ok (.aload_n 0, 1) := by decide +kernel
theorem dX8_isOpen_72 : decode cX8_isOpen 72 = .ok (.getfield 13, 3) := by decide +kernel
theorem dX8_isOpen_75 : decode cX8_isOpen 75 = .ok (.iload 5, 2) := by decide +kernel
theorem dX8_isOpen_77 : decode cX8_isOpen 77 = .ok (.iaload, 1) := by decide +kernel
theorem dX8_isOpen_78 : decode cX8_isOpen 78 = .ok (.iload_n 3, 1) := by decide +kernel
theorem dX8_isOpen_79 : decode cX8_isOpen 79 = .ok (.ishl, 1) := by decide +kernel
theorem dX8_isOpen_80 : decode cX8_isOpen 80 = .ok (.aload_n 0, 1) := by decide +kernel
theorem dX8_isOpen_81 : decode cX8_isOpen 81 = .ok (.getfield 16, 3) := by decide +kernel
theorem dX8_isOpen_84 : decode cX8_isOpen 84 = .ok (.iload 5, 2) := by decide +kernel
theorem dX8_isOpen_86 : decode cX8_isOpen 86 = .ok (.iaload, 1) := by decide +kernel
theorem dX8_isOpen_87 : decode cX8_isOpen 87 = .ok (.iload_n 3, 1) := by decide +kernel
theorem dX8_isOpen_88 : decode cX8_isOpen 88 = .ok (.ishl, 1) := by decide +kernel
theorem dX8_isOpen_89 : decode cX8_isOpen 89 = .ok (.invokevirtual 138, 3) := by decide +kernel
theorem dX8_isOpen_92 : decode cX8_isOpen 92 = .ok (.ifCond .eq 5, 3) := by decide +kernel
theorem dX8_isOpen_95 : decode cX8_isOpen 95 = .ok (.iconst 0, 1) := by decide +kernel
theorem dX8_isOpen_96 : decode cX8_isOpen 96 = .ok (.ireturn, 1) := by decide +kernel
theorem dX8_isOpen_97 : decode cX8_isOpen 97 = .ok (.iinc 5 1, 3) := by decide +kernel
theorem dX8_isOpen_100 : decode cX8_isOpen 100 = .ok (.goto (-39), 3) := by decide +kernel
theorem dX8_isOpen_103 : decode cX8_isOpen 103 = .ok (.iconst 0, 1) := by decide +kernel
theorem dX8_isOpen_104 : decode cX8_isOpen 104 = .ok (.istore 5, 2) := by decide +kernel
theorem dX8_isOpen_106 : decode cX8_isOpen 106 = .ok (.iload 5, 2) := by decide +kernel
theorem dX8_isOpen_108 : decode cX8_isOpen 108 = .ok (.aload_n 0, 1) := by decide +kernel
theorem dX8_isOpen_109 : decode cX8_isOpen 109 = .ok (.getfield 91, 3) := by decide +kernel
theorem dX8_isOpen_112 : decode cX8_isOpen 112 = .ok (.if_icmp .ge 36, 3) := by decide +kernel
theorem dX8_isOpen_115 : decode cX8_isOpen 115 = .ok (.aload_n 0, 1) := by decide +kernel
theorem dX8_isOpen_116 : decode cX8_isOpen 116 = .ok (.aload_n 0, 1) := by decide +kernel
theorem dX8_isOpen_117 : decode cX8_isOpen 117 = .ok (.getfield 31, 3) := by decide +kernel
theorem dX8_isOpen_120 : decode cX8_isOpen 120 = .ok (.iload 5, 2) := by decide +kernel
theorem dX8_isOpen_122 : decode cX8_isOpen 122 = .ok (.iaload, 1) := by decide +kernel
theorem dX8_isOpen_123 : decode cX8_isOpen 123 = .ok (.iload_n 3, 1) := by decide +kernel
theorem dX8_isOpen_124 : decode cX8_isOpen 124 = .ok (.ishl, 1) := by decide +kernel
theorem dX8_isOpen_125 : decode cX8_isOpen 125 = .ok (.aload_n 0, 1) := by decide +kernel
theorem dX8_isOpen_126 : decode cX8_isOpen 126 = .ok (.getfield 34, 3) := by decide +kernel
theorem dX8_isOpen_129 : decode cX8_isOpen 129 = .ok (.iload 5, 2) := by decide +kernel
theorem dX8_isOpen_131 : decode cX8_isOpen 131 = .ok (.iaload, 1) := by decide +kernel
theorem dX8_isOpen_132 : decode cX8_isOpen 132 = .ok (.iload_n 3, 1) := by decide +kernel
theorem dX8_isOpen_133 : decode cX8_isOpen 133 = .ok (.ishl, 1) := by decide +kernel
theorem dX8_isOpen_134 : decode cX8_isOpen 134 = .ok (.invokevirtual 138, 3) := by decide +kernel
theorem dX8_isOpen_137 : decode cX8_isOpen 137 = .ok (.ifCond .eq 5, 3) := by decide +kernel
theorem dX8_isOpen_140 : decode cX8_isOpen 140 = .ok (.iconst 0, 1) := by decide +kernel
theorem dX8_isOpen_141 : decode cX8_isOpen 141 = .ok (.ireturn, 1) := by decide +kernel
theorem dX8_isOpen_142 : decode cX8_isOpen 142 = .ok (.iinc 5 1, 3) := by decide +kernel
theorem dX8_isOpen_145 : decode cX8_isOpen 145 = .ok (.goto (-39), 3) := by decide +kernel
theorem dX8_isOpen_148 : decode cX8_isOpen 148 = .ok (.iconst 1, 1) := by decide +kernel
theorem dX8_isOpen_149 : decode cX8_isOpen 149 = .ok (.ireturn, 1) := by decide +kernel
theorem dX8_take_0 : decode cX8_take 0 = .ok (.aload_n 0, 1) := by decide +kernel
theorem dX8_take_1 : decode cX8_take 1 = .ok (.iload_n 2, 1) := by decide +kernel
theorem dX8_take_2 : decode cX8_take 2 = .ok (.iload_n 3, 1) := by decide +kernel
theorem dX8_take_3 : decode cX8_take 3 = .ok (.iload 4, 2) := by decide +kernel
theorem dX8_take_5 : decode cX8_take 5 = .ok (.invokevirtual 134, 3) := by decide +kernel
theorem dX8_take_8 : decode cX8_take 8 = .ok (.aload_n 1, 1) := by decide +kernel
theorem dX8_take_9 : decode cX8_take 9 = .ok (.iconst 0, 1) := by decide +kernel
theorem dX8_take_10 : decode cX8_take 10 = .ok (.ldc2_w 141, 3) := by decide +kernel
theorem dX8_take_13 : decode cX8_take 13 = .ok (.aload_n 0, 1) := by decide +kernel
theorem dX8_take_14 : decode cX8_take 14 = .ok (.getfield 122, 3) := by decide +kernel
theorem dX8_take_17 : decode cX8_take 17 = .ok (.i2l, 1) := by decide +kernel
theorem dX8_take_18 : decode cX8_take 18 = .ok (.lmul, 1) := by decide +kernel
theorem dX8_take_19 : decode cX8_take 19 = .ok (.lastore, 1) := by decide +kernel
theorem dX8_take_20 : decode cX8_take 20 = .ok (.aload_n 1, 1) := by decide +kernel
theorem dX8_take_21 : decode cX8_take 21 = .ok (.iconst 1, 1) := by decide +kernel
theorem dX8_take_22 : decode cX8_take 22 = .ok (.ldc2_w 141, 3) := by decide +kernel
theorem dX8_take_25 : decode cX8_take 25 = .ok (.aload_n 0, 1) := by decide +kernel
theorem dX8_take_26 : decode cX8_take 26 = .ok (.getfield 125, 3) := by decide +kernel
theorem dX8_take_29 : decode cX8_take 29 = .ok (.i2l, 1) := by decide +kernel
theorem dX8_take_30 : decode cX8_take 30 = .ok (.lmul, 1) := by decide +kernel
theorem dX8_take_31 : decode cX8_take 31 = .ok (.lastore, 1) := by decide +kernel
theorem dX8_take_32 : decode cX8_take 32 = .ok (.aload_n 1, 1) := by decide +kernel
theorem dX8_take_33 : decode cX8_take 33 = .ok (.iconst 2, 1) := by decide +kernel
theorem dX8_take_34 : decode cX8_take 34 = .ok (.ldc2_w 141, 3) := by decide +kernel
theorem dX8_take_37 : decode cX8_take 37 = .ok (.aload_n 0, 1) := by decide +kernel
theorem dX8_take_38 : decode cX8_take 38 = .ok (.getfield 122, 3) := by decide +kernel
theorem dX8_take_41 : decode cX8_take 41 = .ok (.aload_n 0, 1) := by decide +kernel
theorem dX8_take_42 : decode cX8_take 42 = .ok (.getfield 128, 3) := by decide +kernel
theorem dX8_take_45 : decode cX8_take 45 = .ok (.iadd, 1) := by decide +kernel
theorem dX8_take_46 : decode cX8_take 46 = .ok (.i2l, 1) := by decide +kernel
theorem dX8_take_47 : decode cX8_take 47 = .ok (.lmul, 1) := by decide +kernel
theorem dX8_take_48 : decode cX8_take 48 = .ok (.lastore, 1) := by decide +kernel
theorem dX8_take_49 : decode cX8_take 49 = .ok (.aload_n 1, 1) := by decide +kernel
theorem dX8_take_50 : decode cX8_take 50 = .ok (.iconst 3, 1) := by decide +kernel
theorem dX8_take_51 : decode cX8_take 51 = .ok (.ldc2_w 141, 3) := by decide +kernel
theorem dX8_take_54 : decode cX8_take 54 = .ok (.aload_n 0, 1) := by decide +kernel
theorem dX8_take_55 : decode cX8_take 55 = .ok (.getfield 125, 3) := by decide +kernel
theorem dX8_take_58 : decode cX8_take 58 = .ok (.aload_n 0, 1) := by decide +kernel
theorem dX8_take_59 : decode cX8_take 59 = .ok (.getfield 131, 3) := by decide +kernel
theorem dX8_take_62 : decode cX8_take 62 = .ok (.iadd, 1) := by decide +kernel
theorem dX8_take_63 : decode cX8_take 63 = .ok (.i2l, 1) := by decide +kernel
theorem dX8_take_64 : decode cX8_take 64 = .ok (.lmul, 1) := by decide +kernel
theorem dX8_take_65 : decode cX8_take 65 = .ok (.lastore, 1) := by decide +kernel
theorem dX8_take_66 : decode cX8_take 66 = .ok (.aload_n 1, 1) := by decide +kernel
theorem dX8_take_67 : decode cX8_take 67 = .ok (.iconst 4, 1) := by decide +kernel
theorem dX8_take_68 : decode cX8_take 68 = .ok (.ldc2_w 141, 3) := by decide +kernel
theorem dX8_take_71 : decode cX8_take 71 = .ok (.aload_n 0, 1) := by decide +kernel
theorem dX8_take_72 : decode cX8_take 72 = .ok (.getfield 13, 3) := by decide +kernel
theorem dX8_take_75 : decode cX8_take 75 = .ok (.iload_n 2, 1) := by decide +kernel
theorem dX8_take_76 : decode cX8_take 76 = .ok (.iaload, 1) := by decide +kernel
theorem dX8_take_77 : decode cX8_take 77 = .ok (.iload 4, 2) := by decide +kernel
theorem dX8_take_79 : decode cX8_take 79 = .ok (.ishl, 1) := by decide +kernel
theorem dX8_take_80 : decode cX8_take 80 = .ok (.i2l, 1) := by decide +kernel
theorem dX8_take_81 : decode cX8_take 81 = .ok (.lmul, 1) := by decide +kernel
theorem dX8_take_82 : decode cX8_take 82 = .ok (.lastore, 1) := by decide +kernel
theorem dX8_take_83 : decode cX8_take 83 = .ok (.aload_n 1, 1) := by decide +kernel
theorem dX8_take_84 : decode cX8_take 84 = .ok (.iconst 5, 1) := by decide +kernel
theorem dX8_take_85 : decode cX8_take 85 = .ok (.ldc2_w 141, 3) := by decide +kernel
theorem dX8_take_88 : decode cX8_take 88 = .ok (.aload_n 0, 1) := by decide +kernel
theorem dX8_take_89 : decode cX8_take 89 = .ok (.getfield 16, 3) := by decide +kernel
theorem dX8_take_92 : decode cX8_take 92 = .ok (.iload_n 2, 1) := by decide +kernel
theorem dX8_take_93 : decode cX8_take 93 = .ok (.iaload, 1) := by decide +kernel
theorem dX8_take_94 : decode cX8_take 94 = .ok (.iload 4, 2) := by decide +kernel
theorem dX8_take_96 : decode cX8_take 96 = .ok (.ishl, 1) := by decide +kernel
theorem dX8_take_97 : decode cX8_take 97 = .ok (.i2l, 1) := by decide +kernel
theorem dX8_take_98 : decode cX8_take 98 = .ok (.lmul, 1) := by decide +kernel
theorem dX8_take_99 : decode cX8_take 99 = .ok (.lastore, 1) := by decide +kernel
theorem dX8_take_100 : decode cX8_take 100 = .ok (.aload_n 1, 1) := by decide +kernel
theorem dX8_take_101 : decode cX8_take 101 = .ok (.bipush 6, 2) := by decide +kernel
theorem dX8_take_103 : decode cX8_take 103 = .ok (.ldc2_w 141, 3) := by decide +kernel
theorem dX8_take_106 : decode cX8_take 106 = .ok (.aload_n 0, 1) := by decide +kernel
theorem dX8_take_107 : decode cX8_take 107 = .ok (.getfield 122, 3) := by decide +kernel
theorem dX8_take_110 : decode cX8_take 110 = .ok (.i2l, 1) := by decide +kernel
theorem dX8_take_111 : decode cX8_take 111 = .ok (.lmul, 1) := by decide +kernel
theorem dX8_take_112 : decode cX8_take 112 = .ok (.aload_n 0, 1) := by decide +kernel
theorem dX8_take_113 : decode cX8_take 113 = .ok (.getfield 128, 3) := by decide +kernel
theorem dX8_take_116 : decode cX8_take 116 = .ok (.i2l, 1) := by decide +kernel
theorem dX8_take_117 : decode cX8_take 117 = .ok (.ladd, 1) := by decide +kernel
theorem dX8_take_118 : decode cX8_take 118 = .ok (.lastore, 1) := by decide +kernel
theorem dX8_take_119 : decode cX8_take 119 = .ok (.aload_n 1, 1) := by decide +kernel
theorem dX8_take_120 : decode cX8_take 120 = .ok (.bipush 7, 2) := by decide +kernel
theorem dX8_take_122 : decode cX8_take 122 = .ok (.ldc2_w 141, 3) := by decide +kernel
theorem dX8_take_125 : decode cX8_take 125 = .ok (.aload_n 0, 1) := by decide +kernel
theorem dX8_take_126 : decode cX8_take 126 = .ok (.getfield 125, 3) := by decide +kernel
theorem dX8_take_129 : decode cX8_take 129 = .ok (.i2l, 1) := by decide +kernel
theorem dX8_take_130 : decode cX8_take 130 = .ok (.lmul, 1) := by decide +kernel
theorem dX8_take_131 : decode cX8_take 131 = .ok (.aload_n 0, 1) := by decide +kernel
theorem dX8_take_132 : decode cX8_take 132 = .ok (.getfield 131, 3) := by decide +kernel
theorem dX8_take_135 : decode cX8_take 135 = .ok (.i2l, 1) := by decide +kernel
theorem dX8_take_136 : decode cX8_take 136 = .ok (.ladd, 1) := by decide +kernel
theorem dX8_take_137 : decode cX8_take 137 = .ok (.lastore, 1) := by decide +kernel
theorem dX8_take_138 : decode cX8_take 138 = .ok (.return_, 1) := by decide +kernel
theorem dX8_signOf_0 : decode cX8_signOf 0 = .ok (.lload_n 0, 1) := by decide +kernel
theorem dX8_signOf_1 : decode cX8_signOf 1 = .ok (.lconst 0, 1) := by decide +kernel
theorem dX8_signOf_2 : decode cX8_signOf 2 = .ok (.lcmp, 1) := by decide +kernel
theorem dX8_signOf_3 : decode cX8_signOf 3 = .ok (.ifCond .le 7, 3) := by decide +kernel
theorem dX8_signOf_6 : decode cX8_signOf 6 = .ok (.iconst 1, 1) := by decide +kernel
theorem dX8_signOf_7 : decode cX8_signOf 7 = .ok (.goto 14, 3) := by decide +kernel
theorem dX8_signOf_10 : decode cX8_signOf 10 = .ok (.lload_n 0, 1) := by decide +kernel
theorem dX8_signOf_11 : decode cX8_signOf 11 = .ok (.lconst 0, 1) := by decide +kernel
theorem dX8_signOf_12 : decode cX8_signOf 12 = .ok (.lcmp, 1) := by decide +kernel
theorem dX8_signOf_13 : decode cX8_signOf 13 = .ok (.ifCond .ge 7, 3) := by decide +kernel
theorem dX8_signOf_16 : decode cX8_signOf 16 = .ok (.iconst (-1), 1) := by decide +kernel
theorem dX8_signOf_17 : decode cX8_signOf 17 = .ok (.goto 4, 3) := by decide +kernel
theorem dX8_signOf_20 : decode cX8_signOf 20 = .ok (.iconst 0, 1) := by decide +kernel
theorem dX8_signOf_21 : decode cX8_signOf 21 = .ok (.ireturn, 1) := by decide +kernel
theorem dX8_side_0 : decode cX8_side 0 = .ok (.aload_n 0, 1) := by decide +kernel
theorem dX8_side_1 : decode cX8_side 1 = .ok (.iload_n 2, 1) := by decide +kernel
theorem dX8_side_2 : decode cX8_side 2 = .ok (.laload, 1) := by decide +kernel
theorem dX8_side_3 : decode cX8_side 3 = .ok (.aload_n 0, 1) := by decide +kernel
theorem dX8_side_4 : decode cX8_side 4 = .ok (.iload_n 1, 1) := by decide +kernel
theorem dX8_side_5 : decode cX8_side 5 = .ok (.laload, 1) := by decide +kernel
theorem dX8_side_6 : decode cX8_side 6 = .ok (.lsub, 1) := by decide +kernel
theorem dX8_side_7 : decode cX8_side 7 = .ok (.aload_n 3, 1) := by decide +kernel
theorem dX8_side_8 : decode cX8_side 8 = .ok (.iload 4, 2) := by decide +kernel
theorem dX8_side_10 : decode cX8_side 10 = .ok (.iconst 1, 1) := by decide +kernel
theorem dX8_side_11 : decode cX8_side 11 = .ok (.iadd, 1) := by decide +kernel
theorem dX8_side_12 : decode cX8_side 12 = .ok (.laload, 1) := by decide +kernel
theorem dX8_side_13 : decode cX8_side 13 = .ok (.aload_n 0, 1) := by decide +kernel
theorem dX8_side_14 : decode cX8_side 14 = .ok (.iload_n 1, 1) := by decide +kernel
theorem dX8_side_15 : decode cX8_side 15 = .ok (.iconst 1, 1) := by decide +kernel
theorem dX8_side_16 : decode cX8_side 16 = .ok (.iadd, 1) := by decide +kernel
theorem dX8_side_17 : decode cX8_side 17 = .ok (.laload, 1) := by decide +kernel
theorem dX8_side_18 : decode cX8_side 18 = .ok (.lsub, 1) := by decide +kernel
theorem dX8_side_19 : decode cX8_side 19 = .ok (.lmul, 1) := by decide +kernel
theorem dX8_side_20 : decode cX8_side 20 = .ok (.aload_n 0, 1) := by decide +kernel
theorem dX8_side_21 : decode cX8_side 21 = .ok (.iload_n 2, 1) := by decide +kernel
theorem dX8_side_22 : decode cX8_side 22 = .ok (.iconst 1, 1) := by decide +kernel
theorem dX8_side_23 : decode cX8_side 23 = .ok (.iadd, 1) := by decide +kernel
theorem dX8_side_24 : decode cX8_side 24 = .ok (.laload, 1) := by decide +kernel
theorem dX8_side_25 : decode cX8_side 25 = .ok (.aload_n 0, 1) := by decide +kernel
theorem dX8_side_26 : decode cX8_side 26 = .ok (.iload_n 1, 1) := by decide +kernel
theorem dX8_side_27 : decode cX8_side 27 = .ok (.iconst 1, 1) := by decide +kernel
theorem dX8_side_28 : decode cX8_side 28 = .ok (.iadd, 1) := by decide +kernel
theorem dX8_side_29 : decode cX8_side 29 = .ok (.laload, 1) := by decide +kernel
theorem dX8_side_30 : decode cX8_side 30 = .ok (.lsub, 1) := by decide +kernel
theorem dX8_side_31 : decode cX8_side 31 = .ok (.aload_n 3, 1) := by decide +kernel
theorem dX8_side_32 : decode cX8_side 32 = .ok (.iload 4, 2) := by decide +kernel
theorem dX8_side_34 : decode cX8_side 34 = .ok (.laload, 1) := by decide +kernel
theorem dX8_side_35 : decode cX8_side 35 = .ok (.aload_n 0, 1) := by decide +kernel
theorem dX8_side_36 : decode cX8_side 36 = .ok (.iload_n 1, 1) := by decide +kernel
theorem dX8_side_37 : decode cX8_side 37 = .ok (.laload, 1) := by decide +kernel
theorem dX8_side_38 : decode cX8_side 38 = .ok (.lsub, 1) := by decide +kernel
theorem dX8_side_39 : decode cX8_side 39 = .ok (.lmul, 1) := by decide +kernel
theorem dX8_side_40 : decode cX8_side 40 = .ok (.lsub, 1) := by decide +kernel
theorem dX8_side_41 : decode cX8_side 41 = .ok (.invokestatic 143, 3) := by decide +kernel
theorem dX8_side_44 : decode cX8_side 44 = .ok (.ireturn, 1) := by decide +kernel
theorem dX8_isBetween_0 : decode cX8_isBetween 0 = .ok (.lload_n 0, 1) := by decide +kernel
theorem dX8_isBetween_1 : decode cX8_isBetween 1 = .ok (.lload_n 2, 1) := by decide +kernel
theorem dX8_isBetween_2 : decode cX8_isBetween 2 = .ok (.lcmp, 1) := by decide +kernel
theorem dX8_isBetween_3 : decode cX8_isBetween 3 = .ok (.ifCond .lt 10, 3) := by decide +kernel
theorem dX8_isBetween_6 : decode cX8_isBetween 6 = .ok (.lload_n 0, 1) := by decide +kernel
theorem dX8_isBetween_7 : decode cX8_isBetween 7 = .ok (.lload 4, 2) := by decide +kernel
theorem dX8_isBetween_9 : decode cX8_isBetween 9 = .ok (.lcmp, 1) := by decide +kernel
theorem dX8_isBetween_10 : decode cX8_isBetween 10 = .ok (.ifCond .le 16, 3) := by decide +kernel
theorem dX8_isBetween_13 : decode cX8_isBetween 13 = .ok (.lload_n 0, 1) := by decide +kernel
theorem dX8_isBetween_14 : decode cX8_isBetween 14 = .ok (.lload 4, 2) := by decide +kernel
theorem dX8_isBetween_16 : decode cX8_isBetween 16 = .ok (.lcmp, 1) := by decide +kernel
theorem dX8_isBetween_17 : decode cX8_isBetween 17 = .ok (.ifCond .lt 13, 3) := by decide +kernel
theorem dX8_isBetween_20 : decode cX8_isBetween 20 = .ok (.lload_n 0, 1) := by decide +kernel
theorem dX8_isBetween_21 : decode cX8_isBetween 21 = .ok (.lload_n 2, 1) := by decide +kernel
theorem dX8_isBetween_22 : decode cX8_isBetween 22 = .ok (.lcmp, 1) := by decide +kernel
theorem dX8_isBetween_23 : decode cX8_isBetween 23 = .ok (.ifCond .gt 7, 3) := by decide +kernel
theorem dX8_isBetween_26 : decode cX8_isBetween 26 = .ok (.iconst 1, 1) := by decide +kernel
theorem dX8_isBetween_27 : decode cX8_isBetween 27 = .ok (.goto 4, 3) := by decide +kernel
theorem dX8_isBetween_30 : decode cX8_isBetween 30 = .ok (.iconst 0, 1) := by decide +kernel
theorem dX8_isBetween_31 : decode cX8_isBetween 31 = .ok (.ireturn, 1) := by decide +kernel
theorem dX8_isOn_0 : decode cX8_isOn 0 = .ok (.aload_n 1, 1) := by decide +kernel
theorem dX8_isOn_1 : decode cX8_isOn 1 = .ok (.iload_n 2, 1) := by decide +kernel
theorem dX8_isOn_2 : decode cX8_isOn 2 = .ok (.laload, 1) := by decide +kernel
theorem dX8_isOn_3 : decode cX8_isOn 3 = .ok (.aload_n 0, 1) := by decide +kernel
theorem dX8_isOn_4 : decode cX8_isOn 4 = .ok (.iconst 4, 1) := by decide +kernel
theorem dX8_isOn_5 : decode cX8_isOn 5 = .ok (.laload, 1) := by decide +kernel
theorem dX8_isOn_6 : decode cX8_isOn 6 = .ok (.aload_n 0, 1) := by decide +kernel
theorem dX8_isOn_7 : decode cX8_isOn 7 = .ok (.bipush 6, 2) := by decide +kernel
theorem dX8_isOn_9 : decode cX8_isOn 9 = .ok (.laload, 1) := by decide +kernel
theorem dX8_isOn_10 : decode cX8_isOn 10 = .ok (.invokestatic 147, 3) := by decide +kernel
theorem dX8_isOn_13 : decode cX8_isOn 13 = .ok (.ifCond .eq 25, 3) := by decide +kernel
theorem dX8_isOn_16 : decode cX8_isOn 16 = .ok (.aload_n 1, 1) := by decide +kernel
theorem dX8_isOn_17 : decode cX8_isOn 17 = .ok (.iload_n 2, 1) := by decide +kernel
theorem dX8_isOn_18 : decode cX8_isOn 18 = .ok (.iconst 1, 1) := by decide +kernel
theorem dX8_isOn_19 : decode cX8_isOn 19 = .ok (.iadd, 1) := by decide +kernel
theorem dX8_isOn_20 : decode cX8_isOn 20 = .ok (.laload, 1) := by decide +kernel
theorem dX8_isOn_21 : decode cX8_isOn 21 = .ok (.aload_n 0, 1) := by decide +kernel
theorem dX8_isOn_22 : decode cX8_isOn 22 = .ok (.iconst 5, 1) := by decide +kernel
theorem dX8_isOn_23 : decode cX8_isOn 23 = .ok (.laload, 1) := by decide +kernel
theorem dX8_isOn_24 : decode cX8_isOn 24 = .ok (.aload_n 0, 1) := by decide +kernel
theorem dX8_isOn_25 : decode cX8_isOn 25 = .ok (.bipush 7, 2) := by decide +kernel
theorem dX8_isOn_27 : decode cX8_isOn 27 = .ok (.laload, 1) := by decide +kernel
theorem dX8_isOn_28 : decode cX8_isOn 28 = .ok (.invokestatic 147, 3) := by decide +kernel
theorem dX8_isOn_31 : decode cX8_isOn 31 = .ok (.ifCond .eq 7, 3) := by decide +kernel
theorem dX8_isOn_34 : decode cX8_isOn 34 = .ok (.iconst 1, 1) := by decide +kernel
theorem dX8_isOn_35 : decode cX8_isOn 35 = .ok (.goto 4, 3) := by decide +kernel
theorem dX8_isOn_38 : decode cX8_isOn 38 = .ok (.iconst 0, 1) := by decide +kernel
theorem dX8_isOn_39 : decode cX8_isOn 39 = .ok (.ireturn, 1) := by decide +kernel
theorem dX8_linesMeet_0 : decode cX8_linesMeet 0 = .ok (.aload_n 0, 1) := by decide +kernel
theorem dX8_linesMeet_1 : decode cX8_linesMeet 1 = .ok (.getfield 40, 3) := by decide +kernel
theorem dX8_linesMeet_4 : decode cX8_linesMeet 4 = .ok (.iconst 4, 1) := by decide +kernel
theorem dX8_linesMeet_5 : decode cX8_linesMeet 5 = .ok (.bipush 6, 2) := by decide +kernel
theorem dX8_linesMeet_7 : decode cX8_linesMeet 7 = .ok (.aload_n 0, 1) := by decide +kernel
theorem dX8_linesMeet_8 : decode cX8_linesMeet 8 = .ok (.getfield 44, 3) := by decide +kernel
theorem dX8_linesMeet_11 : decode cX8_linesMeet 11 = .ok (.iconst 4, 1) := by decide +kernel
theorem dX8_linesMeet_12 : decode cX8_linesMeet 12 = .ok (.invokestatic 151, 3) := by decide +kernel
theorem dX8_linesMeet_15 : decode cX8_linesMeet 15 = .ok (.istore_n 1, 1) := by decide +kernel
theorem dX8_linesMeet_16 : decode cX8_linesMeet 16 = .ok (.aload_n 0, 1) := by decide +kernel
theorem dX8_linesMeet_17 : decode cX8_linesMeet 17 = .ok (.getfield 40, 3) := by decide +kernel
theorem dX8_linesMeet_20 : decode cX8_linesMeet 20 = .ok (.iconst 4, 1) := by decide +kernel
theorem dX8_linesMeet_21 : decode cX8_linesMeet 21 = .ok (.bipush 6, 2) := by decide +kernel
theorem dX8_linesMeet_23 : decode cX8_linesMeet 23 = .ok (.aload_n 0, 1) := by decide +kernel
theorem dX8_linesMeet_24 : decode cX8_linesMeet 24 = .ok (.getfield 44, 3) := by decide +kernel
theorem dX8_linesMeet_27 : decode cX8_linesMeet 27 = .ok (.bipush 6, 2) := by decide +kernel
theorem dX8_linesMeet_29 : decode cX8_linesMeet 29 = .ok (.invokestatic 151, 3) := by decide +kernel
theorem dX8_linesMeet_32 : decode cX8_linesMeet 32 = .ok (.istore_n 2, 1) := by decide +kernel
theorem dX8_linesMeet_33 : decode cX8_linesMeet 33 = .ok (.aload_n 0, 1) := by decide +kernel
theorem dX8_linesMeet_34 : decode cX8_linesMeet 34 = .ok (.getfield 44, 3) := by decide +kernel
theorem dX8_linesMeet_37 : decode cX8_linesMeet 37 = .ok (.iconst 4, 1) := by decide +kernel
theorem dX8_linesMeet_38 : decode cX8_linesMeet 38 = .ok (.bipush 6, 2) := by decide +kernel
theorem dX8_linesMeet_40 : decode cX8_linesMeet 40 = .ok (.aload_n 0, 1) := by decide +kernel
theorem dX8_linesMeet_41 : decode cX8_linesMeet 41 = .ok (.getfield 40, 3) := by decide +kernel
theorem dX8_linesMeet_44 : decode cX8_linesMeet 44 = .ok (.iconst 4, 1) := by decide +kernel
theorem dX8_linesMeet_45 : decode cX8_linesMeet 45 = .ok (.invokestatic 151, 3) := by decide +kernel
theorem dX8_linesMeet_48 : decode cX8_linesMeet 48 = .ok (.istore_n 3, 1) := by decide +kernel
theorem dX8_linesMeet_49 : decode cX8_linesMeet 49 = .ok (.aload_n 0, 1) := by decide +kernel
theorem dX8_linesMeet_50 : decode cX8_linesMeet 50 = .ok (.getfield 44, 3) := by decide +kernel
theorem dX8_linesMeet_53 : decode cX8_linesMeet 53 = .ok (.iconst 4, 1) := by decide +kernel
theorem dX8_linesMeet_54 : decode cX8_linesMeet 54 = .ok (.bipush 6, 2) := by decide +kernel
theorem dX8_linesMeet_56 : decode cX8_linesMeet 56 = .ok (.aload_n 0, 1) := by decide +kernel
theorem dX8_linesMeet_57 : decode cX8_linesMeet 57 = .ok (.getfield 40, 3) := by decide +kernel
theorem dX8_linesMeet_60 : decode cX8_linesMeet 60 = .ok (.bipush 6, 2) := by decide +kernel
theorem dX8_linesMeet_62 : decode cX8_linesMeet 62 = .ok (.invokestatic 151, 3) := by decide +kernel
theorem dX8_linesMeet_65 : decode cX8_linesMeet 65 = .ok (.istore 4, 2) := by decide +kernel
theorem dX8_linesMeet_67 : decode cX8_linesMeet 67 = .ok (.iload_n 1, 1) := by decide +kernel
theorem dX8_linesMeet_68 : decode cX8_linesMeet 68 = .ok (.iload_n 2, 1) := by decide +kernel
theorem dX8_linesMeet_69 : decode cX8_linesMeet 69 = .ok (.imul, 1) := by decide +kernel
theorem dX8_linesMeet_70 : decode cX8_linesMeet 70 = .ok (.ifCond .ge 12, 3) := by decide +kernel
theorem dX8_linesMeet_73 : decode cX8_linesMeet 73 = .ok (.iload_n 3, 1) := by decide +kernel
theorem dX8_linesMeet_74 : decode cX8_linesMeet 74 = .ok (.iload 4, 2) := by decide +kernel
theorem dX8_linesMeet_76 : decode cX8_linesMeet 76 = .ok (.imul, 1) := by decide +kernel
theorem dX8_linesMeet_77 : decode cX8_linesMeet 77 = .ok (.ifCond .ge 5, 3) := by decide +kernel
theorem dX8_linesMeet_80 : decode cX8_linesMeet 80 = .ok (.iconst 1, 1) := by decide +kernel
theorem dX8_linesMeet_81 : decode cX8_linesMeet 81 = .ok (.ireturn, 1) := by decide +kernel
theorem dX8_linesMeet_82 : decode cX8_linesMeet 82 = .ok (.iload_n 1, 1) := by decide +kernel
theorem dX8_linesMeet_83 : decode cX8_linesMeet 83 = .ok (.ifCond .ne 18, 3) := by decide +kernel
theorem dX8_linesMeet_86 : decode cX8_linesMeet 86 = .ok (.aload_n 0, 1) := by decide +kernel
theorem dX8_linesMeet_87 : decode cX8_linesMeet 87 = .ok (.getfield 40, 3) := by decide +kernel
theorem dX8_linesMeet_90 : decode cX8_linesMeet 90 = .ok (.aload_n 0, 1) := by decide +kernel
theorem dX8_linesMeet_91 : decode cX8_linesMeet 91 = .ok (.getfield 44, 3) := by decide +kernel
theorem dX8_linesMeet_94 : decode cX8_linesMeet 94 = .ok (.iconst 4, 1) := by decide +kernel
theorem dX8_linesMeet_95 : decode cX8_linesMeet 95 = .ok (.invokestatic 155, 3) := by decide +kernel
theorem dX8_linesMeet_98 : decode cX8_linesMeet 98 = .ok (.ifCond .ne 63, 3) := by decide +kernel
theorem dX8_linesMeet_101 : decode cX8_linesMeet 101 = .ok (.iload_n 2, 1) := by decide +kernel
theorem dX8_linesMeet_102 : decode cX8_linesMeet 102 = .ok (.ifCond .ne 19, 3) := by decide +kernel
theorem dX8_linesMeet_105 : decode cX8_linesMeet 105 = .ok (.aload_n 0, 1) := by decide +kernel
theorem dX8_linesMeet_106 : decode cX8_linesMeet 106 = .ok (.getfield 40, 3) := by decide +kernel
theorem dX8_linesMeet_109 : decode cX8_linesMeet 109 = .ok (.aload_n 0, 1) := by decide +kernel
theorem dX8_linesMeet_110 : decode cX8_linesMeet 110 = .ok (.getfield 44, 3) := by decide +kernel
theorem dX8_linesMeet_113 : decode cX8_linesMeet 113 = .ok (.bipush 6, 2) := by decide +kernel
theorem dX8_linesMeet_115 : decode cX8_linesMeet 115 = .ok (.invokestatic 155, 3) := by decide +kernel
theorem dX8_linesMeet_118 : decode cX8_linesMeet 118 = .ok (.ifCond .ne 43, 3) := by decide +kernel
theorem dX8_linesMeet_121 : decode cX8_linesMeet 121 = .ok (.iload_n 3, 1) := by decide +kernel
theorem dX8_linesMeet_122 : decode cX8_linesMeet 122 = .ok (.ifCond .ne 18, 3) := by decide +kernel
theorem dX8_linesMeet_125 : decode cX8_linesMeet 125 = .ok (.aload_n 0, 1) := by decide +kernel
theorem dX8_linesMeet_126 : decode cX8_linesMeet 126 = .ok (.getfield 44, 3) := by decide +kernel
theorem dX8_linesMeet_129 : decode cX8_linesMeet 129 = .ok (.aload_n 0, 1) := by decide +kernel
theorem dX8_linesMeet_130 : decode cX8_linesMeet 130 = .ok (.getfield 40, 3) := by decide +kernel
theorem dX8_linesMeet_133 : decode cX8_linesMeet 133 = .ok (.iconst 4, 1) := by decide +kernel
theorem dX8_linesMeet_134 : decode cX8_linesMeet 134 = .ok (.invokestatic 155, 3) := by decide +kernel
theorem dX8_linesMeet_137 : decode cX8_linesMeet 137 = .ok (.ifCond .ne 24, 3) := by decide +kernel
theorem dX8_linesMeet_140 : decode cX8_linesMeet 140 = .ok (.iload 4, 2) := by decide +kernel
theorem dX8_linesMeet_142 : decode cX8_linesMeet 142 = .ok (.ifCond .ne 23, 3) := by decide +kernel
theorem dX8_linesMeet_145 : decode cX8_linesMeet 145 = .ok (.aload_n 0, 1) := by decide +kernel
theorem dX8_linesMeet_146 : decode cX8_linesMeet 146 = .ok (.getfield 44, 3) := by decide +kernel
theorem dX8_linesMeet_149 : decode cX8_linesMeet 149 = .ok (.aload_n 0, 1) := by decide +kernel
theorem dX8_linesMeet_150 : decode cX8_linesMeet 150 = .ok (.getfield 40, 3) := by decide +kernel
theorem dX8_linesMeet_153 : decode cX8_linesMeet 153 = .ok (.bipush 6, 2) := by decide +kernel
theorem dX8_linesMeet_155 : decode cX8_linesMeet 155 = .ok (.invokestatic 155, 3) := by decide +kernel
theorem dX8_linesMeet_158 : decode cX8_linesMeet 158 = .ok (.ifCond .eq 7, 3) := by decide +kernel
theorem dX8_linesMeet_161 : decode cX8_linesMeet 161 = .ok (.iconst 1, 1) := by decide +kernel
theorem dX8_linesMeet_162 : decode cX8_linesMeet 162 = .ok (.goto 4, 3) := by decide +kernel
theorem dX8_linesMeet_165 : decode cX8_linesMeet 165 = .ok (.iconst 0, 1) := by decide +kernel
theorem dX8_linesMeet_166 : decode cX8_linesMeet 166 = .ok (.ireturn, 1) := by decide +kernel
theorem dX8_cut_0 : decode cX8_cut 0 = .ok (.lload_n 3, 1) := by decide +kernel
theorem dX8_cut_1 : decode cX8_cut 1 = .ok (.lconst 0, 1) := by decide +kernel
theorem dX8_cut_2 : decode cX8_cut 2 = .ok (.lcmp, 1) := by decide +kernel
theorem dX8_cut_3 : decode cX8_cut 3 = .ok (.ifCond .ne 23, 3) := by decide +kernel
theorem dX8_cut_6 : decode cX8_cut 6 = .ok (.lload_n 1, 1) := by decide +kernel
theorem dX8_cut_7 : decode cX8_cut 7 = .ok (.lload 5, 2) := by decide +kernel
theorem dX8_cut_9 : decode cX8_cut 9 = .ok (.lcmp, 1) := by decide +kernel
theorem dX8_cut_10 : decode cX8_cut 10 = .ok (.ifCond .le 14, 3) := by decide +kernel
theorem dX8_cut_13 : decode cX8_cut 13 = .ok (.lload_n 1, 1) := by decide +kernel
theorem dX8_cut_14 : decode cX8_cut 14 = .ok (.lload 7, 2) := by decide +kernel
theorem dX8_cut_16 : decode cX8_cut 16 = .ok (.lcmp, 1) := by decide +kernel
theorem dX8_cut_17 : decode cX8_cut 17 = .ok (.ifCond .ge 7, 3) := by decide +kernel
theorem dX8_cut_20 : decode cX8_cut 20 = .ok (.iconst 1, 1) := by decide +kernel
theorem dX8_cut_21 : decode cX8_cut 21 = .ok (.goto 4, 3) := by decide +kernel
theorem dX8_cut_24 : decode cX8_cut 24 = .ok (.iconst 0, 1) := by decide +kernel
theorem dX8_cut_25 : decode cX8_cut 25 = .ok (.ireturn, 1) := by decide +kernel
theorem dX8_cut_26 : decode cX8_cut 26 = .ok (.lload_n 3, 1) := by decide +kernel
theorem dX8_cut_27 : decode cX8_cut 27 = .ok (.lconst 0, 1) := by decide +kernel
theorem dX8_cut_28 : decode cX8_cut 28 = .ok (.lcmp, 1) := by decide +kernel
theorem dX8_cut_29 : decode cX8_cut 29 = .ok (.ifCond .le 7, 3) := by decide +kernel
theorem dX8_cut_32 : decode cX8_cut 32 = .ok (.lload_n 3, 1) := by decide +kernel
theorem dX8_cut_33 : decode cX8_cut 33 = .ok (.goto 5, 3) := by decide +kernel
theorem dX8_cut_36 : decode cX8_cut 36 = .ok (.lload_n 3, 1) := by decide +kernel
theorem dX8_cut_37 : decode cX8_cut 37 = .ok (.lneg, 1) := by decide +kernel
theorem dX8_cut_38 : decode cX8_cut 38 = .ok (.lstore 9, 2) := by decide +kernel
theorem dX8_cut_40 : decode cX8_cut 40 = .ok (.lload_n 3, 1) := by decide +kernel
theorem dX8_cut_41 : decode cX8_cut 41 = .ok (.lconst 0, 1) := by decide +kernel
theorem dX8_cut_42 : decode cX8_cut 42 = .ok (.lcmp, 1) := by decide +kernel
theorem dX8_cut_43 : decode cX8_cut 43 = .ok (.ifCond .le 10, 3) := by decide +kernel
theorem dX8_cut_46 : decode cX8_cut 46 = .ok (.lload 5, 2) := by decide +kernel
theorem dX8_cut_48 : decode cX8_cut 48 = .ok (.lload_n 1, 1) := by decide +kernel
theorem dX8_cut_49 : decode cX8_cut 49 = .ok (.lsub, 1) := by decide +kernel
theorem dX8_cut_50 : decode cX8_cut 50 = .ok (.goto 7, 3) := by decide +kernel
theorem dX8_cut_53 : decode cX8_cut 53 = .ok (.lload_n 1, 1) := by decide +kernel
theorem dX8_cut_54 : decode cX8_cut 54 = .ok (.lload 7, 2) := by decide +kernel
theorem dX8_cut_56 : decode cX8_cut 56 = .ok (.lsub, 1) := by decide +kernel
theorem dX8_cut_57 : decode cX8_cut 57 = .ok (.lstore 11, 2) := by decide +kernel
theorem dX8_cut_59 : decode cX8_cut 59 = .ok (.lload_n 3, 1) := by decide +kernel
theorem dX8_cut_60 : decode cX8_cut 60 = .ok (.lconst 0, 1) := by decide +kernel
theorem dX8_cut_61 : decode cX8_cut 61 = .ok (.lcmp, 1) := by decide +kernel
theorem dX8_cut_62 : decode cX8_cut 62 = .ok (.ifCond .le 10, 3) := by decide +kernel
theorem dX8_cut_65 : decode cX8_cut 65 = .ok (.lload 7, 2) := by decide +kernel
theorem dX8_cut_67 : decode cX8_cut 67 = .ok (.lload_n 1, 1) := by decide +kernel
theorem dX8_cut_68 : decode cX8_cut 68 = .ok (.lsub, 1) := by decide +kernel
theorem dX8_cut_69 : decode cX8_cut 69 = .ok (.goto 7, 3) := by decide +kernel
theorem dX8_cut_72 : decode cX8_cut 72 = .ok (.lload_n 1, 1) := by decide +kernel
theorem dX8_cut_73 : decode cX8_cut 73 = .ok (.lload 5, 2) := by decide +kernel
theorem dX8_cut_75 : decode cX8_cut 75 = .ok (.lsub, 1) := by decide +kernel
theorem dX8_cut_76 : decode cX8_cut 76 = .ok (.lstore 13, 2) := by decide +kernel
theorem dX8_cut_78 : decode cX8_cut 78 = .ok (.lload 11, 2) := by decide +kernel
theorem dX8_cut_80 : decode cX8_cut 80 = .ok (.aload_n 0, 1) := by decide +kernel
theorem dX8_cut_81 : decode cX8_cut 81 = .ok (.getfield 159, 3) := by decide +kernel
theorem dX8_cut_84 : decode cX8_cut 84 = .ok (.lmul, 1) := by decide +kernel
theorem dX8_cut_85 : decode cX8_cut 85 = .ok (.aload_n 0, 1) := by decide +kernel
theorem dX8_cut_86 : decode cX8_cut 86 = .ok (.getfield 163, 3) := by decide +kernel
theorem dX8_cut_89 : decode cX8_cut 89 = .ok (.lload 9, 2) := by decide +kernel
theorem dX8_cut_91 : decode cX8_cut 91 = .ok (.lmul, 1) := by decide +kernel
theorem dX8_cut_92 : decode cX8_cut 92 = .ok (.lcmp, 1) := by decide +kernel
theorem dX8_cut_93 : decode cX8_cut 93 = .ok (.ifCond .le 15, 3) := by decide +kernel
theorem dX8_cut_96 : decode cX8_cut 96 = .ok (.aload_n 0, 1) := by decide +kernel
theorem dX8_cut_97 : decode cX8_cut 97 = .ok (.lload 11, 2) := by decide +kernel
theorem dX8_cut_99 : decode cX8_cut 99 = .ok (.putfield 163, 3) := by decide +kernel
theorem dX8_cut_102 : decode cX8_cut 102 = .ok (.aload_n 0, 1) := by decide +kernel
theorem dX8_cut_103 : decode cX8_cut 103 = .ok (.lload 9, 2) := by decide +kernel
theorem dX8_cut_105 : decode cX8_cut 105 = .ok (.putfield 159, 3) := by decide +kernel
theorem dX8_cut_108 : decode cX8_cut 108 = .ok (.lload 13, 2) := by decide +kernel
theorem dX8_cut_110 : decode cX8_cut 110 = .ok (.aload_n 0, 1) := by decide +kernel
theorem dX8_cut_111 : decode cX8_cut 111 = .ok (.getfield 166, 3) := by decide +kernel
theorem dX8_cut_114 : decode cX8_cut 114 = .ok (.lmul, 1) := by decide +kernel
theorem dX8_cut_115 : decode cX8_cut 115 = .ok (.aload_n 0, 1) := by decide +kernel
theorem dX8_cut_116 : decode cX8_cut 116 = .ok (.getfield 169, 3) := by decide +kernel
theorem dX8_cut_119 : decode cX8_cut 119 = .ok (.lload 9, 2) := by decide +kernel
theorem dX8_cut_121 : decode cX8_cut 121 = .ok (.lmul, 1) := by decide +kernel
theorem dX8_cut_122 : decode cX8_cut 122 = .ok (.lcmp, 1) := by decide +kernel
theorem dX8_cut_123 : decode cX8_cut 123 = .ok (.ifCond .ge 15, 3) := by decide +kernel
theorem dX8_cut_126 : decode cX8_cut 126 = .ok (.aload_n 0, 1) := by decide +kernel
theorem dX8_cut_127 : decode cX8_cut 127 = .ok (.lload 13, 2) := by decide +kernel
theorem dX8_cut_129 : decode cX8_cut 129 = .ok (.putfield 169, 3) := by decide +kernel
theorem dX8_cut_132 : decode cX8_cut 132 = .ok (.aload_n 0, 1) := by decide +kernel
theorem dX8_cut_133 : decode cX8_cut 133 = .ok (.lload 9, 2) := by decide +kernel
theorem dX8_cut_135 : decode cX8_cut 135 = .ok (.putfield 166, 3) := by decide +kernel
theorem dX8_cut_138 : decode cX8_cut 138 = .ok (.iconst 1, 1) := by decide +kernel
theorem dX8_cut_139 : decode cX8_cut 139 = .ok (.ireturn, 1) := by decide +kernel
theorem dX8_crosses_0 : decode cX8_crosses 0 = .ok (.aload_n 0, 1) := by decide +kernel
theorem dX8_crosses_1 : decode cX8_crosses 1 = .ok (.ldc2_w 172, 3) := by decide +kernel
theorem dX8_crosses_4 : decode cX8_crosses 4 = .ok (.putfield 163, 3) := by decide +kernel
theorem dX8_crosses_7 : decode cX8_crosses 7 = .ok (.aload_n 0, 1) := by decide +kernel
theorem dX8_crosses_8 : decode cX8_crosses 8 = .ok (.lconst 1, 1) := by decide +kernel
theorem dX8_crosses_9 : decode cX8_crosses 9 = .ok (.putfield 159, 3) := by decide +kernel
theorem dX8_crosses_12 : decode cX8_crosses 12 = .ok (.aload_n 0, 1) := by decide +kernel
theorem dX8_crosses_13 : decode cX8_crosses 13 = .ok (.ldc2_w 141, 3) := by decide +kernel
theorem dX8_crosses_16 : decode cX8_crosses 16 = .ok (.putfield 169, 3) := by decide +kernel
theorem dX8_crosses_19 : decode cX8_crosses 19 = .ok (.aload_n 0, 1) := by decide +kernel
theorem dX8_crosses_20 : decode cX8_crosses 20 = .ok (.lconst 1, 1) := by decide +kernel
theorem dX8_crosses_21 : decode cX8_crosses 21 = .ok (.putfield 166, 3) := by decide +kernel
theorem dX8_crosses_24 : decode cX8_crosses 24 = .ok (.aload_n 0, 1) := by decide +kernel
theorem dX8_crosses_25 : decode cX8_crosses 25 = .ok (.aload_n 1, 1) := by decide +kernel
theorem dX8_crosses_26 : decode cX8_crosses 26 = .ok (.iconst 4, 1) := by decide +kernel
theorem dX8_crosses_27 : decode cX8_crosses 27 = .ok (.laload, 1) := by decide +kernel
theorem dX8_crosses_28 : decode cX8_crosses 28 = .ok (.aload_n 1, 1) := by decide +kernel
theorem dX8_crosses_29 : decode cX8_crosses 29 = .ok (.bipush 6, 2) := by decide +kernel
theorem dX8_crosses_31 : decode cX8_crosses 31 = .ok (.laload, 1) := by decide +kernel
theorem dX8_crosses_32 : decode cX8_crosses 32 = .ok (.aload_n 1, 1) := by decide +kernel
theorem dX8_crosses_33 : decode cX8_crosses 33 = .ok (.iconst 4, 1) := by decide +kernel
theorem dX8_crosses_34 : decode cX8_crosses 34 = .ok (.laload, 1) := by decide +kernel
theorem dX8_crosses_35 : decode cX8_crosses 35 = .ok (.lsub, 1) := by decide +kernel
theorem dX8_crosses_36 : decode cX8_crosses 36 = .ok (.aload_n 2, 1) := by decide +kernel
theorem dX8_crosses_37 : decode cX8_crosses 37 = .ok (.iconst 0, 1) := by decide +kernel
theorem dX8_crosses_38 : decode cX8_crosses 38 = .ok (.laload, 1) := by decide +kernel
theorem dX8_crosses_39 : decode cX8_crosses 39 = .ok (.aload_n 2, 1) := by decide +kernel
theorem dX8_crosses_40 : decode cX8_crosses 40 = .ok (.iconst 2, 1) := by decide +kernel
theorem dX8_crosses_41 : decode cX8_crosses 41 = .ok (.laload, 1) := by decide +kernel
theorem dX8_crosses_42 : decode cX8_crosses 42 = .ok (.invokevirtual 174, 3) := by decide +kernel
theorem dX8_crosses_45 : decode cX8_crosses 45 = .ok (.ifCond .eq 31, 3) := by decide +kernel
theorem dX8_crosses_48 : decode cX8_crosses 48 = .ok (.aload_n 0, 1) := by decide +kernel
theorem dX8_crosses_49 : decode cX8_crosses 49 = .ok (.aload_n 1, 1) := by decide +kernel
theorem dX8_crosses_50 : decode cX8_crosses 50 = .ok (.iconst 5, 1) := by decide +kernel
theorem dX8_crosses_51 : decode cX8_crosses 51 = .ok (.laload, 1) := by decide +kernel
theorem dX8_crosses_52 : decode cX8_crosses 52 = .ok (.aload_n 1, 1) := by decide +kernel
theorem dX8_crosses_53 : decode cX8_crosses 53 = .ok (.bipush 7, 2) := by decide +kernel
theorem dX8_crosses_55 : decode cX8_crosses 55 = .ok (.laload, 1) := by decide +kernel
theorem dX8_crosses_56 : decode cX8_crosses 56 = .ok (.aload_n 1, 1) := by decide +kernel
theorem dX8_crosses_57 : decode cX8_crosses 57 = .ok (.iconst 5, 1) := by decide +kernel
theorem dX8_crosses_58 : decode cX8_crosses 58 = .ok (.laload, 1) := by decide +kernel
theorem dX8_crosses_59 : decode cX8_crosses 59 = .ok (.lsub, 1) := by decide +kernel
theorem dX8_crosses_60 : decode cX8_crosses 60 = .ok (.aload_n 2, 1) := by decide +kernel
theorem dX8_crosses_61 : decode cX8_crosses 61 = .ok (.iconst 1, 1) := by decide +kernel
theorem dX8_crosses_62 : decode cX8_crosses 62 = .ok (.laload, 1) := by decide +kernel
theorem dX8_crosses_63 : decode cX8_crosses 63 = .ok (.aload_n 2, 1) := by decide +kernel
theorem dX8_crosses_64 : decode cX8_crosses 64 = .ok (.iconst 3, 1) := by decide +kernel
theorem dX8_crosses_65 : decode cX8_crosses 65 = .ok (.laload, 1) := by decide +kernel
theorem dX8_crosses_66 : decode cX8_crosses 66 = .ok (.invokevirtual 174, 3) := by decide +kernel
theorem dX8_crosses_69 : decode cX8_crosses 69 = .ok (.ifCond .eq 7, 3) := by decide +kernel
theorem dX8_crosses_72 : decode cX8_crosses 72 = .ok (.iconst 1, 1) := by decide +kernel
theorem dX8_crosses_73 : decode cX8_crosses 73 = .ok (.goto 4, 3) := by decide +kernel
theorem dX8_crosses_76 : decode cX8_crosses 76 = .ok (.iconst 0, 1) := by decide +kernel
theorem dX8_crosses_77 : decode cX8_crosses 77 = .ok (.istore_n 3, 1) := by decide +kernel
theorem dX8_crosses_78 : decode cX8_crosses 78 = .ok (.iload_n 3, 1) := by decide +kernel
theorem dX8_crosses_79 : decode cX8_crosses 79 = .ok (.ifCond .eq 50, 3) := by decide +kernel
theorem dX8_crosses_82 : decode cX8_crosses 82 = .ok (.aload_n 0, 1) := by decide +kernel
theorem dX8_crosses_83 : decode cX8_crosses 83 = .ok (.getfield 163, 3) := by decide +kernel
theorem dX8_crosses_86 : decode cX8_crosses 86 = .ok (.aload_n 0, 1) := by decide +kernel
theorem dX8_crosses_87 : decode cX8_crosses 87 = .ok (.getfield 166, 3) := by decide +kernel
theorem dX8_crosses_90 : decode cX8_crosses 90 = .ok (.lmul, 1) := by decide +kernel
theorem dX8_crosses_91 : decode cX8_crosses 91 = .ok (.aload_n 0, 1) := by decide +kernel
theorem dX8_crosses_92 : decode cX8_crosses 92 = .ok (.getfield 169, 3) := by decide +kernel
theorem dX8_crosses_95 : decode cX8_crosses 95 = .ok (.aload_n 0, 1) := by decide +kernel
theorem dX8_crosses_96 : decode cX8_crosses 96 = .ok (.getfield 159, 3) := by decide +kernel
theorem dX8_crosses_99 : decode cX8_crosses 99 = .ok (.lmul, 1) := by decide +kernel
theorem dX8_crosses_100 : decode cX8_crosses 100 = .ok (.lcmp, 1) := by decide +kernel
theorem dX8_crosses_101 : decode cX8_crosses 101 = .ok (.ifCond .ge 28, 3) := by decide +kernel
theorem dX8_crosses_104 : decode cX8_crosses 104 = .ok (.aload_n 0, 1) := by decide +kernel
theorem dX8_crosses_105 : decode cX8_crosses 105 = .ok (.getfield 163, 3) := by decide +kernel
theorem dX8_crosses_108 : decode cX8_crosses 108 = .ok (.aload_n 0, 1) := by decide +kernel
theorem dX8_crosses_109 : decode cX8_crosses 109 = .ok (.getfield 159, 3) := by decide +kernel
theorem dX8_crosses_112 : decode cX8_crosses 112 = .ok (.lcmp, 1) := by decide +kernel
theorem dX8_crosses_113 : decode cX8_crosses 113 = .ok (.ifCond .ge 16, 3) := by decide +kernel
theorem dX8_crosses_116 : decode cX8_crosses 116 = .ok (.aload_n 0, 1) := by decide +kernel
theorem dX8_crosses_117 : decode cX8_crosses 117 = .ok (.getfield 169, 3) := by decide +kernel
theorem dX8_crosses_120 : decode cX8_crosses 120 = .ok (.lconst 0, 1) := by decide +kernel
theorem dX8_crosses_121 : decode cX8_crosses 121 = .ok (.lcmp, 1) := by decide +kernel
theorem dX8_crosses_122 : decode cX8_crosses 122 = .ok (.ifCond .le 7, 3) := by decide +kernel
theorem dX8_crosses_125 : decode cX8_crosses 125 = .ok (.iconst 1, 1) := by decide +kernel
theorem dX8_crosses_126 : decode cX8_crosses 126 = .ok (.goto 4, 3) := by decide +kernel
theorem dX8_crosses_129 : decode cX8_crosses 129 = .ok (.iconst 0, 1) := by decide +kernel
theorem dX8_crosses_130 : decode cX8_crosses 130 = .ok (.ireturn, 1) := by decide +kernel
theorem dX8_doClash_0 : decode cX8_doClash 0 = .ok (.aload_n 0, 1) := by decide +kernel
theorem dX8_doClash_1 : decode cX8_doClash 1 = .ok (.aload_n 0, 1) := by decide +kernel
theorem dX8_doClash_2 : decode cX8_doClash 2 = .ok (.getfield 40, 3) := by decide +kernel
theorem dX8_doClash_5 : decode cX8_doClash 5 = .ok (.iload_n 1, 1) := by decide +kernel
theorem dX8_doClash_6 : decode cX8_doClash 6 = .ok (.iload_n 2, 1) := by decide +kernel
theorem dX8_doClash_7 : decode cX8_doClash 7 = .ok (.iload 5, 2) := by decide +kernel
theorem dX8_doClash_9 : decode cX8_doClash 9 = .ok (.invokevirtual 178, 3) := by decide +kernel
theorem dX8_doClash_12 : decode cX8_doClash 12 = .ok (.aload_n 0, 1) := by decide +kernel
theorem dX8_doClash_13 : decode cX8_doClash 13 = .ok (.aload_n 0, 1) := by decide +kernel
theorem dX8_doClash_14 : decode cX8_doClash 14 = .ok (.getfield 44, 3) := by decide +kernel
theorem dX8_doClash_17 : decode cX8_doClash 17 = .ok (.iload_n 3, 1) := by decide +kernel
theorem dX8_doClash_18 : decode cX8_doClash 18 = .ok (.iload 4, 2) := by decide +kernel
theorem dX8_doClash_20 : decode cX8_doClash 20 = .ok (.iload 5, 2) := by decide +kernel
theorem dX8_doClash_22 : decode cX8_doClash 22 = .ok (.invokevirtual 178, 3) := by decide +kernel
theorem dX8_doClash_25 : decode cX8_doClash 25 = .ok (.aload_n 0, 1) := by decide +kernel
theorem dX8_doClash_26 : decode cX8_doClash 26 = .ok (.getfield 40, 3) := by decide +kernel
theorem dX8_doClash_29 : decode cX8_doClash 29 = .ok (.iconst 0, 1) := by decide +kernel
theorem dX8_doClash_30 : decode cX8_doClash 30 = .ok (.laload, 1) := by decide +kernel
theorem dX8_doClash_31 : decode cX8_doClash 31 = .ok (.aload_n 0, 1) := by decide +kernel
theorem dX8_doClash_32 : decode cX8_doClash 32 = .ok (.getfield 44, 3) := by decide +kernel
theorem dX8_doClash_35 : decode cX8_doClash 35 = .ok (.iconst 2, 1) := by decide +kernel
theorem dX8_doClash_36 : decode cX8_doClash 36 = .ok (.laload, 1) := by decide +kernel
theorem dX8_doClash_37 : decode cX8_doClash 37 = .ok (.lcmp, 1) := by decide +kernel
theorem dX8_doClash_38 : decode cX8_doClash 38 = .ok (.ifCond .ge 53, 3) := by decide +kernel
theorem dX8_doClash_41 : decode cX8_doClash 41 = .ok (.aload_n 0, 1) := by decide +kernel
theorem dX8_doClash_42 : decode cX8_doClash 42 = .ok (.getfield 44, 3) := by decide +kernel
theorem dX8_doClash_45 : decode cX8_doClash 45 = .ok (.iconst 0, 1) := by decide +kernel
theorem dX8_doClash_46 : decode cX8_doClash 46 = .ok (.laload, 1) := by decide +kernel
theorem dX8_doClash_47 : decode cX8_doClash 47 = .ok (.aload_n 0, 1) := by decide +kernel
theorem dX8_doClash_48 : decode cX8_doClash 48 = .ok (.getfield 40, 3) := by decide +kernel
theorem dX8_doClash_51 : decode cX8_doClash 51 = .ok (.iconst 2, 1) := by decide +kernel
theorem dX8_doClash_52 : decode cX8_doClash 52 = .ok (.laload, 1) := by decide +kernel
theorem dX8_doClash_53 : decode cX8_doClash 53 = .ok (.lcmp, 1) := by decide +kernel
theorem dX8_doClash_54 : decode cX8_doClash 54 = .ok (.ifCond .ge 37, 3) := by decide +kernel
theorem dX8_doClash_57 : decode cX8_doClash 57 = .ok (.aload_n 0, 1) := by decide +kernel
theorem dX8_doClash_58 : decode cX8_doClash 58 = .ok (.getfield 40, 3) := by decide +kernel
theorem dX8_doClash_61 : decode cX8_doClash 61 = .ok (.iconst 1, 1) := by decide +kernel
theorem dX8_doClash_62 : decode cX8_doClash 62 = .ok (.laload, 1) := by decide +kernel
theorem dX8_doClash_63 : decode cX8_doClash 63 = .ok (.aload_n 0, 1) := by decide +kernel
theorem dX8_doClash_64 : decode cX8_doClash 64 = .ok (.getfield 44, 3) := by decide +kernel
theorem dX8_doClash_67 : decode cX8_doClash 67 = .ok (.iconst 3, 1) := by decide +kernel
theorem dX8_doClash_68 : decode cX8_doClash 68 = .ok (.laload, 1) := by decide +kernel
theorem dX8_doClash_69 : decode cX8_doClash 69 = .ok (.lcmp, 1) := by decide +kernel
theorem dX8_doClash_70 : decode cX8_doClash 70 = .ok (.ifCond .ge 21, 3) := by decide +kernel
theorem dX8_doClash_73 : decode cX8_doClash 73 = .ok (.aload_n 0, 1) := by decide +kernel
theorem dX8_doClash_74 : decode cX8_doClash 74 = .ok (.getfield 44, 3) := by decide +kernel
theorem dX8_doClash_77 : decode cX8_doClash 77 = .ok (.iconst 1, 1) := by decide +kernel
theorem dX8_doClash_78 : decode cX8_doClash 78 = .ok (.laload, 1) := by decide +kernel
theorem dX8_doClash_79 : decode cX8_doClash 79 = .ok (.aload_n 0, 1) := by decide +kernel
theorem dX8_doClash_80 : decode cX8_doClash 80 = .ok (.getfield 40, 3) := by decide +kernel
theorem dX8_doClash_83 : decode cX8_doClash 83 = .ok (.iconst 3, 1) := by decide +kernel
theorem dX8_doClash_84 : decode cX8_doClash 84 = .ok (.laload, 1) := by decide +kernel
theorem dX8_doClash_85 : decode cX8_doClash 85 = .ok (.lcmp, 1) := by decide +kernel
theorem dX8_doClash_86 : decode cX8_doClash 86 = .ok (.ifCond .ge 5, 3) := by decide +kernel
theorem dX8_doClash_89 : decode cX8_doClash 89 = .ok (.iconst 1, 1) := by decide +kernel
theorem dX8_doClash_90 : decode cX8_doClash 90 = .ok (.ireturn, 1) := by decide +kernel
theorem dX8_doClash_91 : decode cX8_doClash 91 = .ok (.aload_n 0, 1) := by decide +kernel
theorem dX8_doClash_92 : decode cX8_doClash 92 = .ok (.iload_n 1, 1) := by decide +kernel
theorem dX8_doClash_93 : decode cX8_doClash 93 = .ok (.iload_n 2, 1) := by decide +kernel
theorem dX8_doClash_94 : decode cX8_doClash 94 = .ok (.invokevirtual 119, 3) := by decide +kernel
theorem dX8_doClash_97 : decode cX8_doClash 97 = .ok (.istore 6, 2) := by decide +kernel
theorem dX8_doClash_99 : decode cX8_doClash 99 = .ok (.aload_n 0, 1) := by decide +kernel
theorem dX8_doClash_100 : decode cX8_doClash 100 = .ok (.iload_n 3, 1) := by decide +kernel
theorem dX8_doClash_101 : decode cX8_doClash 101 = .ok (.iload 4, 2) := by decide +kernel
theorem dX8_doClash_103 : decode cX8_doClash 103 = .ok (.invokevirtual 119, 3) := by decide +kernel
theorem dX8_doClash_106 : decode cX8_doClash 106 = .ok (.istore 7, 2) := by decide +kernel
theorem dX8_doClash_108 : decode cX8_doClash 108 = .ok (.iload 6, 2) := by decide +kernel
theorem dX8_doClash_110 : decode cX8_doClash 110 = .ok (.ifCond .eq 15, 3) := by decide +kernel
theorem dX8_doClash_113 : decode cX8_doClash 113 = .ok (.iload 7, 2) := by decide +kernel
theorem dX8_doClash_115 : decode cX8_doClash 115 = .ok (.ifCond .eq 10, 3) := by decide +kernel
theorem dX8_doClash_118 : decode cX8_doClash 118 = .ok (.aload_n 0, 1) := by decide +kernel
theorem dX8_doClash_119 : decode cX8_doClash 119 = .ok (.invokevirtual 182, 3) := by decide +kernel
theorem dX8_doClash_122 : decode cX8_doClash 122 = .ok (.ifCond .ne 43, 3) := by decide +kernel
theorem dX8_doClash_125 : decode cX8_doClash 125 = .ok (.iload 6, 2) := by decide +kernel
theorem dX8_doClash_127 : decode cX8_doClash 127 = .ok (.ifCond .eq 18, 3) := by decide +kernel
theorem dX8_doClash_130 : decode cX8_doClash 130 = .ok (.aload_n 0, 1) := by decide +kernel
theorem dX8_doClash_131 : decode cX8_doClash 131 = .ok (.aload_n 0, 1) := by decide +kernel
theorem dX8_doClash_132 : decode cX8_doClash 132 = .ok (.getfield 40, 3) := by decide +kernel
theorem dX8_doClash_135 : decode cX8_doClash 135 = .ok (.aload_n 0, 1) := by decide +kernel
theorem dX8_doClash_136 : decode cX8_doClash 136 = .ok (.getfield 44, 3) := by decide +kernel
theorem dX8_doClash_139 : decode cX8_doClash 139 = .ok (.invokevirtual 186, 3) := by decide +kernel
theorem dX8_doClash_142 : decode cX8_doClash 142 = .ok (.ifCond .ne 23, 3) := by decide +kernel
theorem dX8_doClash_145 : decode cX8_doClash 145 = .ok (.iload 7, 2) := by decide +kernel
theorem dX8_doClash_147 : decode cX8_doClash 147 = .ok (.ifCond .eq 22, 3) := by decide +kernel
theorem dX8_doClash_150 : decode cX8_doClash 150 = .ok (.aload_n 0, 1) := by decide +kernel
theorem dX8_doClash_151 : decode cX8_doClash 151 = .ok (.aload_n 0, 1) := by decide +kernel
theorem dX8_doClash_152 : decode cX8_doClash 152 = .ok (.getfield 44, 3) := by decide +kernel
theorem dX8_doClash_155 : decode cX8_doClash 155 = .ok (.aload_n 0, 1) := by decide +kernel
theorem dX8_doClash_156 : decode cX8_doClash 156 = .ok (.getfield 40, 3) := by decide +kernel
theorem dX8_doClash_159 : decode cX8_doClash 159 = .ok (.invokevirtual 186, 3) := by decide +kernel
theorem dX8_doClash_162 : decode cX8_doClash 162 = .ok (.ifCond .eq 7, 3) := by decide +kernel
theorem dX8_doClash_165 : decode cX8_doClash 165 = .ok (.iconst 1, 1) := by decide +kernel
theorem dX8_doClash_166 : decode cX8_doClash 166 = .ok (.goto 4, 3) := by decide +kernel
theorem dX8_doClash_169 : decode cX8_doClash 169 = .ok (.iconst 0, 1) := by decide +kernel
theorem dX8_doClash_170 : decode cX8_doClash 170 = .ok (.ireturn, 1) := by decide +kernel
theorem dX8_isWay_0 : decode cX8_isWay 0 = .ok (.aload_n 0, 1) := by decide +kernel
theorem dX8_isWay_1 : decode cX8_isWay 1 = .ok (.iload_n 1, 1) := by decide +kernel
theorem dX8_isWay_2 : decode cX8_isWay 2 = .ok (.invokevirtual 115, 3) := by decide +kernel
theorem dX8_isWay_5 : decode cX8_isWay 5 = .ok (.ifCond .eq 22, 3) := by decide +kernel
theorem dX8_isWay_8 : decode cX8_isWay 8 = .ok (.iload_n 2, 1) := by decide +kernel
theorem dX8_isWay_9 : decode cX8_isWay 9 = .ok (.iconst 0, 1) := by decide +kernel
theorem dX8_isWay_10 : decode cX8_isWay 10 = .ok (.aload_n 0, 1) := by decide +kernel
theorem dX8_isWay_11 : decode cX8_isWay 11 = .ok (.iload_n 1, 1) := by decide +kernel
theorem dX8_isWay_12 : decode cX8_isWay 12 = .ok (.invokevirtual 190, 3) := by decide +kernel
theorem dX8_isWay_15 : decode cX8_isWay 15 = .ok (.iconst 1, 1) := by decide +kernel
theorem dX8_isWay_16 : decode cX8_isWay 16 = .ok (.isub, 1) := by decide +kernel
theorem dX8_isWay_17 : decode cX8_isWay 17 = .ok (.invokestatic 104, 3) := by decide +kernel
theorem dX8_isWay_20 : decode cX8_isWay 20 = .ok (.ifCond .eq 7, 3) := by decide +kernel
theorem dX8_isWay_23 : decode cX8_isWay 23 = .ok (.iconst 1, 1) := by decide +kernel
theorem dX8_isWay_24 : decode cX8_isWay 24 = .ok (.goto 4, 3) := by decide +kernel
theorem dX8_isWay_27 : decode cX8_isWay 27 = .ok (.iconst 0, 1) := by decide +kernel
theorem dX8_isWay_28 : decode cX8_isWay 28 = .ok (.ireturn, 1) := by decide +kernel
theorem dX8_way_0 : decode cX8_way 0 = .ok (.aload_n 0, 1) := by decide +kernel
theorem dX8_way_1 : decode cX8_way 1 = .ok (.iconst 0, 1) := by decide +kernel
theorem dX8_way_2 : decode cX8_way 2 = .ok (.putfield 78, 3) := by decide +kernel
theorem dX8_way_5 : decode cX8_way 5 = .ok (.aload_n 0, 1) := by decide +kernel
theorem dX8_way_6 : decode cX8_way 6 = .ok (.iload_n 1, 1) := by decide +kernel
theorem dX8_way_7 : decode cX8_way 7 = .ok (.iload_n 2, 1) := by decide +kernel
theorem dX8_way_8 : decode cX8_way 8 = .ok (.invokevirtual 194, 3) := by decide +kernel
theorem dX8_way_11 : decode cX8_way 11 = .ok (.ifCond .eq 23, 3) := by decide +kernel
theorem dX8_way_14 : decode cX8_way 14 = .ok (.iload_n 3, 1) := by decide +kernel
theorem dX8_way_15 : decode cX8_way 15 = .ok (.iconst 0, 1) := by decide +kernel
theorem dX8_way_16 : decode cX8_way 16 = .ok (.bipush 6, 2) := by decide +kernel
theorem dX8_way_18 : decode cX8_way 18 = .ok (.invokestatic 104, 3) := by decide +kernel
theorem dX8_way_21 : decode cX8_way 21 = .ok (.ifCond .eq 13, 3) := by decide +kernel
theorem dX8_way_24 : decode cX8_way 24 = .ok (.iload 4, 2) := by decide +kernel
theorem dX8_way_26 : decode cX8_way 26 = .ok (.iconst 0, 1) := by decide +kernel
theorem dX8_way_27 : decode cX8_way 27 = .ok (.iconst 5, 1) := by decide +kernel
theorem dX8_way_28 : decode cX8_way 28 = .ok (.invokestatic 104, 3) := by decide +kernel
theorem dX8_way_31 : decode cX8_way 31 = .ok (.ifCond .ne 6, 3) := by decide +kernel
theorem dX8_way_34 : decode cX8_way 34 = .ok (.bipush (-3), 2) := by decide +kernel
theorem dX8_way_36 : decode cX8_way 36 = .ok (.ireturn, 1) := by decide +kernel
theorem dX8_way_37 : decode cX8_way 37 = .ok (.aload_n 0, 1) := by decide +kernel
theorem dX8_way_38 : decode cX8_way 38 = .ok (.iload_n 1, 1) := by decide +kernel
theorem dX8_way_39 : decode cX8_way 39 = .ok (.iload_n 2, 1) := by decide +kernel
theorem dX8_way_40 : decode cX8_way 40 = .ok (.iload_n 3, 1) := by decide +kernel
theorem dX8_way_41 : decode cX8_way 41 = .ok (.invokevirtual 134, 3) := by decide +kernel
theorem dX8_way_44 : decode cX8_way 44 = .ok (.iload 4, 2) := by decide +kernel
theorem dX8_way_46 : decode cX8_way 46 = .ok (.tableswitch 61 0 4 #[34, 39, 44, 49, 54], 34) := by decide +kernel
theorem dX8_way_80 : decode cX8_way 80 = .ok (.aload_n 0, 1) := by decide +kernel
theorem dX8_way_81 : decode cX8_way 81 = .ok (.getfield 122, 3) := by decide +kernel
theorem dX8_way_84 : decode cX8_way 84 = .ok (.ireturn, 1) := by decide +kernel
theorem dX8_way_85 : decode cX8_way 85 = .ok (.aload_n 0, 1) := by decide +kernel
theorem dX8_way_86 : decode cX8_way 86 = .ok (.getfield 125, 3) := by decide +kernel
theorem dX8_way_89 : decode cX8_way 89 = .ok (.ireturn, 1) := by decide +kernel
theorem dX8_way_90 : decode cX8_way 90 = .ok (.aload_n 0, 1) := by decide +kernel
theorem dX8_way_91 : decode cX8_way 91 = .ok (.getfield 128, 3) := by decide +kernel
theorem dX8_way_94 : decode cX8_way 94 = .ok (.ireturn, 1) := by decide +kernel
theorem dX8_way_95 : decode cX8_way 95 = .ok (.aload_n 0, 1) := by decide +kernel
theorem dX8_way_96 : decode cX8_way 96 = .ok (.getfield 131, 3) := by decide +kernel
theorem dX8_way_99 : decode cX8_way 99 = .ok (.ireturn, 1) := by decide +kernel
theorem dX8_way_100 : decode cX8_way 100 = .ok (.aload_n 0, 1) := by decide +kernel
theorem dX8_way_101 : decode cX8_way 101 = .ok (.iload_n 1, 1) := by decide +kernel
theorem dX8_way_102 : decode cX8_way 102 = .ok (.iload_n 2, 1) := by decide +kernel
theorem dX8_way_103 : decode cX8_way 103 = .ok (.invokevirtual 197, 3) := by decide +kernel
theorem dX8_way_106 : decode cX8_way 106 = .ok (.ireturn, 1) := by decide +kernel
theorem dX8_way_107 : decode cX8_way 107 = .ok (.aload_n 0, 1) := by decide +kernel
theorem dX8_way_108 : decode cX8_way 108 = .ok (.iload_n 1, 1) := by decide +kernel
theorem dX8_way_109 : decode cX8_way 109 = .ok (.iload_n 2, 1) := by decide +kernel
theorem dX8_way_110 : decode cX8_way 110 = .ok (.iload_n 3, 1) := by decide +kernel
theorem dX8_way_111 : decode cX8_way 111 = .ok (.invokevirtual 201, 3) := by decide +kernel
theorem dX8_way_114 : decode cX8_way 114 = .ok (.ifCond .eq 7, 3) := by decide +kernel
theorem dX8_way_117 : decode cX8_way 117 = .ok (.iconst 1, 1) := by decide +kernel
theorem dX8_way_118 : decode cX8_way 118 = .ok (.goto 4, 3) := by decide +kernel
theorem dX8_way_121 : decode cX8_way 121 = .ok (.iconst 0, 1) := by decide +kernel
theorem dX8_way_122 : decode cX8_way 122 = .ok (.ireturn, 1) := by decide +kernel
theorem dX8_clash_0 : decode cX8_clash 0 = .ok (.aload_n 0, 1) := by decide +kernel
theorem dX8_clash_1 : decode cX8_clash 1 = .ok (.iconst 0, 1) := by decide +kernel
theorem dX8_clash_2 : decode cX8_clash 2 = .ok (.putfield 78, 3) := by decide +kernel
theorem dX8_clash_5 : decode cX8_clash 5 = .ok (.aload_n 0, 1) := by decide +kernel
theorem dX8_clash_6 : decode cX8_clash 6 = .ok (.iload_n 1, 1) := by decide +kernel
theorem dX8_clash_7 : decode cX8_clash 7 = .ok (.iload_n 2, 1) := by decide +kernel
theorem dX8_clash_8 : decode cX8_clash 8 = .ok (.invokevirtual 194, 3) := by decide +kernel
theorem dX8_clash_11 : decode cX8_clash 11 = .ok (.ifCond .eq 29, 3) := by decide +kernel
theorem dX8_clash_14 : decode cX8_clash 14 = .ok (.aload_n 0, 1) := by decide +kernel
theorem dX8_clash_15 : decode cX8_clash 15 = .ok (.iload_n 3, 1) := by decide +kernel
theorem dX8_clash_16 : decode cX8_clash 16 = .ok (.iload 4, 2) := by decide +kernel
theorem dX8_clash_18 : decode cX8_clash 18 = .ok (.invokevirtual 194, 3) := by decide +kernel
theorem dX8_clash_21 : decode cX8_clash 21 = .ok (.ifCond .eq 19, 3) := by decide +kernel
theorem dX8_clash_24 : decode cX8_clash 24 = .ok (.iload_n 1, 1) := by decide +kernel
theorem dX8_clash_25 : decode cX8_clash 25 = .ok (.iload_n 3, 1) := by decide +kernel
theorem dX8_clash_26 : decode cX8_clash 26 = .ok (.if_icmp .eq 14, 3) := by decide +kernel
theorem dX8_clash_29 : decode cX8_clash 29 = .ok (.iload 5, 2) := by decide +kernel
theorem dX8_clash_31 : decode cX8_clash 31 = .ok (.iconst 0, 1) := by decide +kernel
theorem dX8_clash_32 : decode cX8_clash 32 = .ok (.bipush 6, 2) := by decide +kernel
theorem dX8_clash_34 : decode cX8_clash 34 = .ok (.invokestatic 104, 3) := by decide +kernel
theorem dX8_clash_37 : decode cX8_clash 37 = .ok (.ifCond .ne 6, 3) := by decide +kernel
theorem dX8_clash_40 : decode cX8_clash 40 = .ok (.bipush (-3), 2) := by decide +kernel
theorem dX8_clash_42 : decode cX8_clash 42 = .ok (.ireturn, 1) := by decide +kernel
theorem dX8_clash_43 : decode cX8_clash 43 = .ok (.aload_n 0, 1) := by decide +kernel
theorem dX8_clash_44 : decode cX8_clash 44 = .ok (.iload_n 1, 1) := by decide +kernel
theorem dX8_clash_45 : decode cX8_clash 45 = .ok (.iload_n 2, 1) := by decide +kernel
theorem dX8_clash_46 : decode cX8_clash 46 = .ok (.iload_n 3, 1) := by decide +kernel
theorem dX8_clash_47 : decode cX8_clash 47 = .ok (.iload 4, 2) := by decide +kernel
theorem dX8_clash_49 : decode cX8_clash 49 = .ok (.iload 5, 2) := by decide +kernel
theorem dX8_clash_51 : decode cX8_clash 51 = .ok (.invokevirtual 204, 3) := by decide +kernel
theorem dX8_clash_54 : decode cX8_clash 54 = .ok (.ifCond .eq 7, 3) := by decide +kernel
theorem dX8_clash_57 : decode cX8_clash 57 = .ok (.iconst 1, 1) := by decide +kernel
theorem dX8_clash_58 : decode cX8_clash 58 = .ok (.goto 4, 3) := by decide +kernel
theorem dX8_clash_61 : decode cX8_clash 61 = .ok (.iconst 0, 1) := by decide +kernel
theorem dX8_clash_62 : decode cX8_clash 62 = .ok (.ireturn, 1) := by decide +kernel
theorem dX8_clashes_0 : decode cX8_clashes 0 = .ok (.aload_n 0, 1) := by decide +kernel
theorem dX8_clashes_1 : decode cX8_clashes 1 = .ok (.iconst 0, 1) := by decide +kernel
theorem dX8_clashes_2 : decode cX8_clashes 2 = .ok (.putfield 78, 3) := by decide +kernel
theorem dX8_clashes_5 : decode cX8_clashes 5 = .ok (.aload_n 0, 1) := by decide +kernel
theorem dX8_clashes_6 : decode cX8_clashes 6 = .ok (.iload_n 1, 1) := by decide +kernel
theorem dX8_clashes_7 : decode cX8_clashes 7 = .ok (.iload_n 2, 1) := by decide +kernel
theorem dX8_clashes_8 : decode cX8_clashes 8 = .ok (.invokevirtual 194, 3) := by decide +kernel
theorem dX8_clashes_11 : decode cX8_clashes 11 = .ok (.ifCond .ne 6, 3) := by decide +kernel
theorem dX8_clashes_14 : decode cX8_clashes 14 = .ok (.bipush (-3), 2) := by decide +kernel
theorem dX8_clashes_16 : decode cX8_clashes 16 = .ok (.ireturn, 1) := by decide +kernel
theorem dX8_clashes_17 : decode cX8_clashes 17 = .ok (.iconst 0, 1) := by decide +kernel
theorem dX8_clashes_18 : decode cX8_clashes 18 = .ok (.istore_n 3, 1) := by decide +kernel
theorem dX8_clashes_19 : decode cX8_clashes 19 = .ok (.iconst 0, 1) := by decide +kernel
theorem dX8_clashes_20 : decode cX8_clashes 20 = .ok (.istore 4, 2) := by decide +kernel
theorem dX8_clashes_22 : decode cX8_clashes 22 = .ok (.iload 4, 2) := by decide +kernel
theorem dX8_clashes_24 : decode cX8_clashes 24 = .ok (.aload_n 0, 1) := by decide +kernel
theorem dX8_clashes_25 : decode cX8_clashes 25 = .ok (.getfield 88, 3) := by decide +kernel
theorem dX8_clashes_28 : decode cX8_clashes 28 = .ok (.if_icmp .ge 69, 3) := by decide +kernel
theorem dX8_clashes_31 : decode cX8_clashes 31 = .ok (.iconst 0, 1) := by decide +kernel
theorem dX8_clashes_32 : decode cX8_clashes 32 = .ok (.istore 5, 2) := by decide +kernel
theorem dX8_clashes_34 : decode cX8_clashes 34 = .ok (.iload 5, 2) := by decide +kernel
theorem dX8_clashes_36 : decode cX8_clashes 36 = .ok (.aload_n 0, 1) := by decide +kernel
theorem dX8_clashes_37 : decode cX8_clashes 37 = .ok (.iload 4, 2) := by decide +kernel
theorem dX8_clashes_39 : decode cX8_clashes 39 = .ok (.invokevirtual 190, 3) := by decide +kernel
theorem dX8_clashes_42 : decode cX8_clashes 42 = .ok (.if_icmp .ge 49, 3) := by decide +kernel
theorem dX8_clashes_45 : decode cX8_clashes 45 = .ok (.iload 4, 2) := by decide +kernel
theorem dX8_clashes_47 : decode cX8_clashes 47 = .ok (.iload_n 1, 1) := by decide +kernel
theorem dX8_clashes_48 : decode cX8_clashes 48 = .ok (.if_icmp .eq 43, 3) := by decide +kernel
theorem dX8_clashes_51 : decode cX8_clashes 51 = .ok (.iload_n 3, 1) := by decide +kernel
theorem dX8_clashes_52 : decode cX8_clashes 52 = .ok (.aload_n 0, 1) := by decide +kernel
theorem dX8_clashes_53 : decode cX8_clashes 53 = .ok (.iload 4, 2) := by decide +kernel
theorem dX8_clashes_55 : decode cX8_clashes 55 = .ok (.iload 5, 2) := by decide +kernel
theorem dX8_clashes_57 : decode cX8_clashes 57 = .ok (.iconst 0, 1) := by decide +kernel
theorem dX8_clashes_58 : decode cX8_clashes 58 = .ok (.invokevirtual 201, 3) := by decide +kernel
theorem dX8_clashes_61 : decode cX8_clashes 61 = .ok (.ifCond .eq 21, 3) := by decide +kernel
theorem dX8_clashes_64 : decode cX8_clashes 64 = .ok (.aload_n 0, 1) := by decide +kernel
theorem dX8_clashes_65 : decode cX8_clashes 65 = .ok (.iload_n 1, 1) := by decide +kernel
theorem dX8_clashes_66 : decode cX8_clashes 66 = .ok (.iload_n 2, 1) := by decide +kernel
theorem dX8_clashes_67 : decode cX8_clashes 67 = .ok (.iload 4, 2) := by decide +kernel
theorem dX8_clashes_69 : decode cX8_clashes 69 = .ok (.iload 5, 2) := by decide +kernel
theorem dX8_clashes_71 : decode cX8_clashes 71 = .ok (.iconst 0, 1) := by decide +kernel
theorem dX8_clashes_72 : decode cX8_clashes 72 = .ok (.invokevirtual 204, 3) := by decide +kernel
theorem dX8_clashes_75 : decode cX8_clashes 75 = .ok (.ifCond .eq 7, 3) := by decide +kernel
theorem dX8_clashes_78 : decode cX8_clashes 78 = .ok (.iconst 1, 1) := by decide +kernel
theorem dX8_clashes_79 : decode cX8_clashes 79 = .ok (.goto 4, 3) := by decide +kernel
theorem dX8_clashes_82 : decode cX8_clashes 82 = .ok (.iconst 0, 1) := by decide +kernel
theorem dX8_clashes_83 : decode cX8_clashes 83 = .ok (.iadd, 1) := by decide +kernel
theorem dX8_clashes_84 : decode cX8_clashes 84 = .ok (.istore_n 3, 1) := by decide +kernel
theorem dX8_clashes_85 : decode cX8_clashes 85 = .ok (.iinc 5 1, 3) := by decide +kernel
theorem dX8_clashes_88 : decode cX8_clashes 88 = .ok (.goto (-54), 3) := by decide +kernel
theorem dX8_clashes_91 : decode cX8_clashes 91 = .ok (.iinc 4 1, 3) := by decide +kernel
theorem dX8_clashes_94 : decode cX8_clashes 94 = .ok (.goto (-72), 3) := by decide +kernel
theorem dX8_clashes_97 : decode cX8_clashes 97 = .ok (.iload_n 3, 1) := by decide +kernel
theorem dX8_clashes_98 : decode cX8_clashes 98 = .ok (.ireturn, 1) := by decide +kernel
theorem dX8_findOpen_0 : decode cX8_findOpen 0 = .ok (.iconst 0, 1) := by decide +kernel
theorem dX8_findOpen_1 : decode cX8_findOpen 1 = .ok (.istore_n 1, 1) := by decide +kernel
theorem dX8_findOpen_2 : decode cX8_findOpen 2 = .ok (.iload_n 1, 1) := by decide +kernel
theorem dX8_findOpen_3 : decode cX8_findOpen 3 = .ok (.aload_n 0, 1) := by decide +kernel
theorem dX8_findOpen_4 : decode cX8_findOpen 4 = .ok (.getfield 88, 3) := by decide +kernel
theorem dX8_findOpen_7 : decode cX8_findOpen 7 = .ok (.if_icmp .ge 58, 3) := by decide +kernel
theorem dX8_findOpen_10 : decode cX8_findOpen 10 = .ok (.iconst 0, 1) := by decide +kernel
theorem dX8_findOpen_11 : decode cX8_findOpen 11 = .ok (.istore_n 2, 1) := by decide +kernel
theorem dX8_findOpen_12 : decode cX8_findOpen 12 = .ok (.iload_n 2, 1) := by decide +kernel
theorem dX8_findOpen_13 : decode cX8_findOpen 13 = .ok (.bipush 16, 2) := by decide +kernel
theorem dX8_findOpen_15 : decode cX8_findOpen 15 = .ok (.if_icmp .ge 44, 3) := by decide +kernel
theorem dX8_findOpen_18 : decode cX8_findOpen 18 = .ok (.aload_n 0, 1) := by decide +kernel
theorem dX8_findOpen_19 : decode cX8_findOpen 19 = .ok (.getfield 50, 3) := by decide +kernel
theorem dX8_findOpen_22 : decode cX8_findOpen 22 = .ok (.bipush 16, 2) := by decide +kernel
theorem dX8_findOpen_24 : decode cX8_findOpen 24 = .ok (.iload_n 1, 1) := by decide +kernel
theorem dX8_findOpen_25 : decode cX8_findOpen 25 = .ok (.imul, 1) := by decide +kernel
theorem dX8_findOpen_26 : decode cX8_findOpen 26 = .ok (.iload_n 2, 1) := by decide +kernel
theorem dX8_findOpen_27 : decode cX8_findOpen 27 = .ok (.iadd, 1) := by decide +kernel
theorem dX8_findOpen_28 : decode cX8_findOpen 28 = .ok (.iload_n 2, 1) := by decide +kernel
theorem dX8_findOpen_29 : decode cX8_findOpen 29 = .ok (.aload_n 0, 1) := by decide +kernel
theorem dX8_findOpen_30 : decode cX8_findOpen 30 = .ok (.iload_n 1, 1) := by decide +kernel
theorem dX8_findOpen_31 : decode cX8_findOpen 31 = .ok (.invokevirtual 190, 3) := by decide +kernel
theorem dX8_findOpen_34 : decode cX8_findOpen 34 = .ok (.if_icmp .ge 17, 3) := by decide +kernel
theorem dX8_findOpen_37 : decode cX8_findOpen 37 = .ok (.aload_n 0, 1) := by decide +kernel
theorem dX8_findOpen_38 : decode cX8_findOpen 38 = .ok (.iload_n 1, 1) := by decide +kernel
theorem dX8_findOpen_39 : decode cX8_findOpen 39 = .ok (.iload_n 2, 1) := by decide +kernel
theorem dX8_findOpen_40 : decode cX8_findOpen 40 = .ok (.iconst 0, 1) := by decide +kernel
theorem dX8_findOpen_41 : decode cX8_findOpen 41 = .ok (.invokevirtual 201, 3) := by decide +kernel
theorem dX8_findOpen_44 : decode cX8_findOpen 44 = .ok (.ifCond .eq 7, 3) := by decide +kernel
theorem dX8_findOpen_47 : decode cX8_findOpen 47 = .ok (.iconst 1, 1) := by decide +kernel
theorem dX8_findOpen_48 : decode cX8_findOpen 48 = .ok (.goto 4, 3) := by decide +kernel
theorem dX8_findOpen_51 : decode cX8_findOpen 51 = .ok (.iconst 0, 1) := by decide +kernel
theorem dX8_findOpen_52 : decode cX8_findOpen 52 = .ok (.bastore, 1) := by decide +kernel
theorem dX8_findOpen_53 : decode cX8_findOpen 53 = .ok (.iinc 2 1, 3) := by decide +kernel
theorem dX8_findOpen_56 : decode cX8_findOpen 56 = .ok (.goto (-44), 3) := by decide +kernel
theorem dX8_findOpen_59 : decode cX8_findOpen 59 = .ok (.iinc 1 1, 3) := by decide +kernel
theorem dX8_findOpen_62 : decode cX8_findOpen 62 = .ok (.goto (-60), 3) := by decide +kernel
theorem dX8_findOpen_65 : decode cX8_findOpen 65 = .ok (.return_, 1) := by decide +kernel
theorem dX8_touch_0 : decode cX8_touch 0 = .ok (.iconst 0, 1) := by decide +kernel
theorem dX8_touch_1 : decode cX8_touch 1 = .ok (.istore_n 3, 1) := by decide +kernel
theorem dX8_touch_2 : decode cX8_touch 2 = .ok (.iload_n 3, 1) := by decide +kernel
theorem dX8_touch_3 : decode cX8_touch 3 = .ok (.bipush 16, 2) := by decide +kernel
theorem dX8_touch_5 : decode cX8_touch 5 = .ok (.if_icmp .ge 69, 3) := by decide +kernel
theorem dX8_touch_8 : decode cX8_touch 8 = .ok (.iconst 0, 1) := by decide +kernel
theorem dX8_touch_9 : decode cX8_touch 9 = .ok (.istore 4, 2) := by decide +kernel
theorem dX8_touch_11 : decode cX8_touch 11 = .ok (.iload 4, 2) := by decide +kernel
theorem dX8_touch_13 : decode cX8_touch 13 = .ok (.bipush 16, 2) := by decide +kernel
theorem dX8_touch_15 : decode cX8_touch 15 = .ok (.if_icmp .ge 53, 3) := by decide +kernel
theorem dX8_touch_18 : decode cX8_touch 18 = .ok (.aload_n 0, 1) := by decide +kernel
theorem dX8_touch_19 : decode cX8_touch 19 = .ok (.getfield 50, 3) := by decide +kernel
theorem dX8_touch_22 : decode cX8_touch 22 = .ok (.bipush 16, 2) := by decide +kernel
theorem dX8_touch_24 : decode cX8_touch 24 = .ok (.iload_n 1, 1) := by decide +kernel
theorem dX8_touch_25 : decode cX8_touch 25 = .ok (.imul, 1) := by decide +kernel
theorem dX8_touch_26 : decode cX8_touch 26 = .ok (.iload_n 3, 1) := by decide +kernel
theorem dX8_touch_27 : decode cX8_touch 27 = .ok (.iadd, 1) := by decide +kernel
theorem dX8_touch_28 : decode cX8_touch 28 = .ok (.baload, 1) := by decide +kernel
theorem dX8_touch_29 : decode cX8_touch 29 = .ok (.ifCond .eq 39, 3) := by decide +kernel
theorem dX8_touch_32 : decode cX8_touch 32 = .ok (.aload_n 0, 1) := by decide +kernel
theorem dX8_touch_33 : decode cX8_touch 33 = .ok (.getfield 50, 3) := by decide +kernel
theorem dX8_touch_36 : decode cX8_touch 36 = .ok (.bipush 16, 2) := by decide +kernel
theorem dX8_touch_38 : decode cX8_touch 38 = .ok (.iload_n 2, 1) := by decide +kernel
theorem dX8_touch_39 : decode cX8_touch 39 = .ok (.imul, 1) := by decide +kernel
theorem dX8_touch_40 : decode cX8_touch 40 = .ok (.iload 4, 2) := by decide +kernel
theorem dX8_touch_42 : decode cX8_touch 42 = .ok (.iadd, 1) := by decide +kernel
theorem dX8_touch_43 : decode cX8_touch 43 = .ok (.baload, 1) := by decide +kernel
theorem dX8_touch_44 : decode cX8_touch 44 = .ok (.ifCond .eq 18, 3) := by decide +kernel
theorem dX8_touch_47 : decode cX8_touch 47 = .ok (.aload_n 0, 1) := by decide +kernel
theorem dX8_touch_48 : decode cX8_touch 48 = .ok (.iload_n 1, 1) := by decide +kernel
theorem dX8_touch_49 : decode cX8_touch 49 = .ok (.iload_n 3, 1) := by decide +kernel
theorem dX8_touch_50 : decode cX8_touch 50 = .ok (.iload_n 2, 1) := by decide +kernel
theorem dX8_touch_51 : decode cX8_touch 51 = .ok (.iload 4, 2) := by decide +kernel
theorem dX8_touch_53 : decode cX8_touch 53 = .ok (.iconst 0, 1) := by decide +kernel
theorem dX8_touch_54 : decode cX8_touch 54 = .ok (.invokevirtual 204, 3) := by decide +kernel
theorem dX8_touch_57 : decode cX8_touch 57 = .ok (.ifCond .eq 5, 3) := by decide +kernel
theorem dX8_touch_60 : decode cX8_touch 60 = .ok (.iconst 1, 1) := by decide +kernel
theorem dX8_touch_61 : decode cX8_touch 61 = .ok (.ireturn, 1) := by decide +kernel
theorem dX8_touch_62 : decode cX8_touch 62 = .ok (.iinc 4 1, 3) := by decide +kernel
theorem dX8_touch_65 : decode cX8_touch 65 = .ok (.goto (-54), 3) := by decide +kernel
theorem dX8_touch_68 : decode cX8_touch 68 = .ok (.iinc 3 1, 3) := by decide +kernel
theorem dX8_touch_71 : decode cX8_touch 71 = .ok (.goto (-69), 3) := by decide +kernel
theorem dX8_touch_74 : decode cX8_touch 74 = .ok (.iconst 0, 1) := by decide +kernel
theorem dX8_touch_75 : decode cX8_touch 75 = .ok (.ireturn, 1) := by decide +kernel
theorem dX8_findParts_0 : decode cX8_findParts 0 = .ok (.aload_n 0, 1) := by decide +kernel
theorem dX8_findParts_1 : decode cX8_findParts 1 = .ok (.invokevirtual 208, 3) := by decide +kernel
theorem dX8_findParts_4 : decode cX8_findParts 4 = .ok (.iconst 0, 1) := by decide +kernel
theorem dX8_findParts_5 : decode cX8_findParts 5 = .ok (.istore_n 1, 1) := by decide +kernel
theorem dX8_findParts_6 : decode cX8_findParts 6 = .ok (.iload_n 1, 1) := by decide +kernel
theorem dX8_findParts_7 : decode cX8_findParts 7 = .ok (.aload_n 0, 1) := by decide +kernel
theorem dX8_findParts_8 : decode cX8_findParts 8 = .ok (.getfield 88, 3) := by decide +kernel
theorem dX8_findParts_11 : decode cX8_findParts 11 = .ok (.if_icmp .ge 16, 3) := by decide +kernel
theorem dX8_findParts_14 : decode cX8_findParts 14 = .ok (.aload_n 0, 1) := by decide +kernel
theorem dX8_findParts_15 : decode cX8_findParts 15 = .ok (.getfield 47, 3) := by decide +kernel
theorem dX8_findParts_18 : decode cX8_findParts 18 = .ok (.iload_n 1, 1) := by decide +kernel
theorem dX8_findParts_19 : decode cX8_findParts 19 = .ok (.iload_n 1, 1) := by decide +kernel
theorem dX8_findParts_20 : decode cX8_findParts 20 = .ok (.iastore, 1) := by decide +kernel
theorem dX8_findParts_21 : decode cX8_findParts 21 = .ok (.iinc 1 1, 3) := by decide +kernel
theorem dX8_findParts_24 : decode cX8_findParts 24 = .ok (.goto (-18), 3) := by decide +kernel
theorem dX8_findParts_27 : decode cX8_findParts 27 = .ok (.iconst 0, 1) := by decide +kernel
theorem dX8_findParts_28 : decode cX8_findParts 28 = .ok (.istore_n 1, 1) := by decide +kernel
theorem dX8_findParts_29 : decode cX8_findParts 29 = .ok (.iload_n 1, 1) := by decide +kernel
theorem dX8_findParts_30 : decode cX8_findParts 30 = .ok (.aload_n 0, 1) := by decide +kernel
theorem dX8_findParts_31 : decode cX8_findParts 31 = .ok (.getfield 88, 3) := by decide +kernel
theorem dX8_findParts_34 : decode cX8_findParts 34 = .ok (.if_icmp .ge 157, 3) := by decide +kernel
theorem dX8_findParts_37 : decode cX8_findParts 37 = .ok (.iconst 0, 1) := by decide +kernel
theorem dX8_findParts_38 : decode cX8_findParts 38 = .ok (.istore_n 2, 1) := by decide +kernel
theorem dX8_findParts_39 : decode cX8_findParts 39 = .ok (.iload_n 2, 1) := by decide +kernel
theorem dX8_findParts_40 : decode cX8_findParts 40 = .ok (.iload_n 1, 1) := by decide +kernel
theorem dX8_findParts_41 : decode cX8_findParts 41 = .ok (.if_icmp .ge 144, 3) := by decide +kernel
theorem dX8_findParts_44 : decode cX8_findParts 44 = .ok (.aload_n 0, 1) := by decide +kernel
theorem dX8_findParts_45 : decode cX8_findParts 45 = .ok (.getfield 47, 3) := by decide +kernel
theorem dX8_findParts_48 : decode cX8_findParts 48 = .ok (.iload_n 1, 1) := by decide +kernel
theorem dX8_findParts_49 : decode cX8_findParts 49 = .ok (.iaload, 1) := by decide +kernel
theorem dX8_findParts_50 : decode cX8_findParts 50 = .ok (.aload_n 0, 1) := by decide +kernel
theorem dX8_findParts_51 : decode cX8_findParts 51 = .ok (.getfield 47, 3) := by decide +kernel
theorem dX8_findParts_54 : decode cX8_findParts 54 = .ok (.iload_n 2, 1) := by decide +kernel
theorem dX8_findParts_55 : decode cX8_findParts 55 = .ok (.iaload, 1) := by decide +kernel
theorem dX8_findParts_56 : decode cX8_findParts 56 = .ok (.if_icmp .eq 123, 3) := by decide +kernel
theorem dX8_findParts_59 : decode cX8_findParts 59 = .ok (.aload_n 0, 1) := by decide +kernel
theorem dX8_findParts_60 : decode cX8_findParts 60 = .ok (.iload_n 1, 1) := by decide +kernel
theorem dX8_findParts_61 : decode cX8_findParts 61 = .ok (.iload_n 2, 1) := by decide +kernel
theorem dX8_findParts_62 : decode cX8_findParts 62 = .ok (.invokevirtual 211, 3) := by decide +kernel
theorem dX8_findParts_65 : decode cX8_findParts 65 = .ok (.ifCond .eq 114, 3) := by decide +kernel
theorem dX8_findParts_68 : decode cX8_findParts 68 = .ok (.aload_n 0, 1) := by decide +kernel
theorem dX8_findParts_69 : decode cX8_findParts 69 = .ok (.getfield 47, 3) := by decide +kernel
theorem dX8_findParts_72 : decode cX8_findParts 72 = .ok (.iload_n 1, 1) := by decide +kernel
theorem dX8_findParts_73 : decode cX8_findParts 73 = .ok (.iaload, 1) := by decide +kernel
theorem dX8_findParts_74 : decode cX8_findParts 74 = .ok (.aload_n 0, 1) := by decide +kernel
theorem dX8_findParts_75 : decode cX8_findParts 75 = .ok (.getfield 47, 3) := by decide +kernel
theorem dX8_findParts_78 : decode cX8_findParts 78 = .ok (.iload_n 2, 1) := by decide +kernel
theorem dX8_findParts_79 : decode cX8_findParts 79 = .ok (.iaload, 1) := by decide +kernel
theorem dX8_findParts_80 : decode cX8_findParts 80 = .ok (.if_icmp .le 12, 3) := by decide +kernel
theorem dX8_findParts_83 : decode cX8_findParts 83 = .ok (.aload_n 0, 1) := by decide +kernel
theorem dX8_findParts_84 : decode cX8_findParts 84 = .ok (.getfield 47, 3) := by decide +kernel
theorem dX8_findParts_87 : decode cX8_findParts 87 = .ok (.iload_n 1, 1) := by decide +kernel
theorem dX8_findParts_88 : decode cX8_findParts 88 = .ok (.iaload, 1) := by decide +kernel
theorem dX8_findParts_89 : decode cX8_findParts 89 = .ok (.goto 9, 3) := by decide +kernel
theorem dX8_findParts_92 : decode cX8_findParts 92 = .ok (.aload_n 0, 1) := by decide +kernel
theorem dX8_findParts_93 : decode cX8_findParts 93 = .ok (.getfield 47, 3) := by decide +kernel
theorem dX8_findParts_96 : decode cX8_findParts 96 = .ok (.iload_n 2, 1) := by decide +kernel
theorem dX8_findParts_97 : decode cX8_findParts 97 = .ok (.iaload, 1) := by decide +kernel
theorem dX8_findParts_98 : decode cX8_findParts 98 = .ok (.istore_n 3, 1) := by decide +kernel
theorem dX8_findParts_99 : decode cX8_findParts 99 = .ok (.aload_n 0, 1) := by decide +kernel
theorem dX8_findParts_100 : decode cX8_findParts 100 = .ok (.getfield 47, 3) := by decide +kernel
theorem dX8_findParts_103 : decode cX8_findParts 103 = .ok (.iload_n 1, 1) := by decide +kernel
theorem dX8_findParts_104 : decode cX8_findParts 104 = .ok (.iaload, 1) := by decide +kernel
theorem dX8_findParts_105 : decode cX8_findParts 105 = .ok (.aload_n 0, 1) := by decide +kernel
theorem dX8_findParts_106 : decode cX8_findParts 106 = .ok (.getfield 47, 3) := by decide +kernel
theorem dX8_findParts_109 : decode cX8_findParts 109 = .ok (.iload_n 2, 1) := by decide +kernel
theorem dX8_findParts_110 : decode cX8_findParts 110 = .ok (.iaload, 1) := by decide +kernel
theorem dX8_findParts_111 : decode cX8_findParts 111 = .ok (.if_icmp .le 12, 3) := by decide +kernel
theorem dX8_findParts_114 : decode cX8_findParts 114 = .ok (.aload_n 0, 1) := by decide +kernel
theorem dX8_findParts_115 : decode cX8_findParts 115 = .ok (.getfield 47, 3) := by decide +kernel
theorem dX8_findParts_118 : decode cX8_findParts 118 = .ok (.iload_n 2, 1) := by decide +kernel
theorem dX8_findParts_119 : decode cX8_findParts 119 = .ok (.iaload, 1) := by decide +kernel
theorem dX8_findParts_120 : decode cX8_findParts 120 = .ok (.goto 9, 3) := by decide +kernel
theorem dX8_findParts_123 : decode cX8_findParts 123 = .ok (.aload_n 0, 1) := by decide +kernel
theorem dX8_findParts_124 : decode cX8_findParts 124 = .ok (.getfield 47, 3) := by decide +kernel
theorem dX8_findParts_127 : decode cX8_findParts 127 = .ok (.iload_n 1, 1) := by decide +kernel
theorem dX8_findParts_128 : decode cX8_findParts 128 = .ok (.iaload, 1) := by decide +kernel
theorem dX8_findParts_129 : decode cX8_findParts 129 = .ok (.istore 4, 2) := by decide +kernel
theorem dX8_findParts_131 : decode cX8_findParts 131 = .ok (.iconst 0, 1) := by decide +kernel
theorem dX8_findParts_132 : decode cX8_findParts 132 = .ok (.istore 5, 2) := by decide +kernel
theorem dX8_findParts_134 : decode cX8_findParts 134 = .ok (.iload 5, 2) := by decide +kernel
theorem dX8_findParts_136 : decode cX8_findParts 136 = .ok (.aload_n 0, 1) := by decide +kernel
theorem dX8_findParts_137 : decode cX8_findParts 137 = .ok (.getfield 88, 3) := by decide +kernel
theorem dX8_findParts_140 : decode cX8_findParts 140 = .ok (.if_icmp .ge 39, 3) := by decide +kernel
theorem dX8_findParts_143 : decode cX8_findParts 143 = .ok (.aload_n 0, 1) := by decide +kernel
theorem dX8_findParts_144 : decode cX8_findParts 144 = .ok (.getfield 47, 3) := by decide +kernel
theorem dX8_findParts_147 : decode cX8_findParts 147 = .ok (.iload 5, 2) := by decide +kernel
theorem dX8_findParts_149 : decode cX8_findParts 149 = .ok (.aload_n 0, 1) := by decide +kernel
theorem dX8_findParts_150 : decode cX8_findParts 150 = .ok (.getfield 47, 3) := by decide +kernel
theorem dX8_findParts_153 : decode cX8_findParts 153 = .ok (.iload 5, 2) := by decide +kernel
theorem dX8_findParts_155 : decode cX8_findParts 155 = .ok (.iaload, 1) := by decide +kernel
theorem dX8_findParts_156 : decode cX8_findParts 156 = .ok (.iload_n 3, 1) := by decide +kernel
theorem dX8_findParts_157 : decode cX8_findParts 157 = .ok (.if_icmp .ne 8, 3) := by decide +kernel
theorem dX8_findParts_160 : decode cX8_findParts 160 = .ok (.iload 4, 2) := by decide +kernel
theorem dX8_findParts_162 : decode cX8_findParts 162 = .ok (.goto 10, 3) := by decide +kernel
theorem dX8_findParts_165 : decode cX8_findParts 165 = .ok (.aload_n 0, 1) := by decide +kernel
theorem dX8_findParts_166 : decode cX8_findParts 166 = .ok (.getfield 47, 3) := by decide +kernel
theorem dX8_findParts_169 : decode cX8_findParts 169 = .ok (.iload 5, 2) := by decide +kernel
theorem dX8_findParts_171 : decode cX8_findParts 171 = .ok (.iaload, 1) := by decide +kernel
theorem dX8_findParts_172 : decode cX8_findParts 172 = .ok (.iastore, 1) := by decide +kernel
theorem dX8_findParts_173 : decode cX8_findParts 173 = .ok (.iinc 5 1, 3) := by decide +kernel
theorem dX8_findParts_176 : decode cX8_findParts 176 = .ok (.goto (-42), 3) := by decide +kernel
theorem dX8_findParts_179 : decode cX8_findParts 179 = .ok (.iinc 2 1, 3) := by decide +kernel
theorem dX8_findParts_182 : decode cX8_findParts 182 = .ok (.goto (-143), 3) := by decide +kernel
theorem dX8_findParts_185 : decode cX8_findParts 185 = .ok (.iinc 1 1, 3) := by decide +kernel
theorem dX8_findParts_188 : decode cX8_findParts 188 = .ok (.goto (-159), 3) := by decide +kernel
theorem dX8_findParts_191 : decode cX8_findParts 191 = .ok (.iconst 0, 1) := by decide +kernel
theorem dX8_findParts_192 : decode cX8_findParts 192 = .ok (.istore_n 1, 1) := by decide +kernel
theorem dX8_findParts_193 : decode cX8_findParts 193 = .ok (.iconst 0, 1) := by decide +kernel
theorem dX8_findParts_194 : decode cX8_findParts 194 = .ok (.istore_n 2, 1) := by decide +kernel
theorem dX8_findParts_195 : decode cX8_findParts 195 = .ok (.iload_n 2, 1) := by decide +kernel
theorem dX8_findParts_196 : decode cX8_findParts 196 = .ok (.aload_n 0, 1) := by decide +kernel
theorem dX8_findParts_197 : decode cX8_findParts 197 = .ok (.getfield 88, 3) := by decide +kernel
theorem dX8_findParts_200 : decode cX8_findParts 200 = .ok (.if_icmp .ge 66, 3) := by decide +kernel
theorem dX8_findParts_203 : decode cX8_findParts 203 = .ok (.aload_n 0, 1) := by decide +kernel
theorem dX8_findParts_204 : decode cX8_findParts 204 = .ok (.getfield 47, 3) := by decide +kernel
theorem dX8_findParts_207 : decode cX8_findParts 207 = .ok (.iload_n 2, 1) := by decide +kernel
theorem dX8_findParts_208 : decode cX8_findParts 208 = .ok (.iaload, 1) := by decide +kernel
theorem dX8_findParts_209 : decode cX8_findParts 209 = .ok (.iload_n 2, 1) := by decide +kernel
theorem dX8_findParts_210 : decode cX8_findParts 210 = .ok (.if_icmp .ne 50, 3) := by decide +kernel
theorem dX8_findParts_213 : decode cX8_findParts 213 = .ok (.iload_n 2, 1) := by decide +kernel
theorem dX8_findParts_214 : decode cX8_findParts 214 = .ok (.istore_n 3, 1) := by decide +kernel
theorem dX8_findParts_215 : decode cX8_findParts 215 = .ok (.iload_n 3, 1) := by decide +kernel
theorem dX8_findParts_216 : decode cX8_findParts 216 = .ok (.aload_n 0, 1) := by decide +kernel
theorem dX8_findParts_217 : decode cX8_findParts 217 = .ok (.getfield 88, 3) := by decide +kernel
theorem dX8_findParts_220 : decode cX8_findParts 220 = .ok (.if_icmp .ge 37, 3) := by decide +kernel
theorem dX8_findParts_223 : decode cX8_findParts 223 = .ok (.aload_n 0, 1) := by decide +kernel
theorem dX8_findParts_224 : decode cX8_findParts 224 = .ok (.getfield 47, 3) := by decide +kernel
theorem dX8_findParts_227 : decode cX8_findParts 227 = .ok (.iload_n 3, 1) := by decide +kernel
theorem dX8_findParts_228 : decode cX8_findParts 228 = .ok (.aload_n 0, 1) := by decide +kernel
theorem dX8_findParts_229 : decode cX8_findParts 229 = .ok (.getfield 47, 3) := by decide +kernel
theorem dX8_findParts_232 : decode cX8_findParts 232 = .ok (.iload_n 3, 1) := by decide +kernel
theorem dX8_findParts_233 : decode cX8_findParts 233 = .ok (.iaload, 1) := by decide +kernel
theorem dX8_findParts_234 : decode cX8_findParts 234 = .ok (.iload_n 2, 1) := by decide +kernel
theorem dX8_findParts_235 : decode cX8_findParts 235 = .ok (.if_icmp .ne 9, 3) := by decide +kernel
theorem dX8_findParts_238 : decode cX8_findParts 238 = .ok (.iconst (-1), 1) := by decide +kernel
theorem dX8_findParts_239 : decode cX8_findParts 239 = .ok (.iload_n 1, 1) := by decide +kernel
theorem dX8_findParts_240 : decode cX8_findParts 240 = .ok (.isub, 1) := by decide +kernel
theorem dX8_findParts_241 : decode cX8_findParts 241 = .ok (.goto 9, 3) := by decide +kernel
theorem dX8_findParts_244 : decode cX8_findParts 244 = .ok (.aload_n 0, 1) := by decide +kernel
theorem dX8_findParts_245 : decode cX8_findParts 245 = .ok (.getfield 47, 3) := by decide +kernel
theorem dX8_findParts_248 : decode cX8_findParts 248 = .ok (.iload_n 3, 1) := by decide +kernel
theorem dX8_findParts_249 : decode cX8_findParts 249 = .ok (.iaload, 1) := by decide +kernel
theorem dX8_findParts_250 : decode cX8_findParts 250 = .ok (.iastore, 1) := by decide +kernel
theorem dX8_findParts_251 : decode cX8_findParts 251 = .ok (.iinc 3 1, 3) := by decide +kernel
theorem dX8_findParts_254 : decode cX8_findParts 254 = .ok (.goto (-39), 3) := by decide +kernel
theorem dX8_findParts_257 : decode cX8_findParts 257 = .ok (.iinc 1 1, 3) := by decide +kernel
theorem dX8_findParts_260 : decode cX8_findParts 260 = .ok (.iinc 2 1, 3) := by decide +kernel
theorem dX8_findParts_263 : decode cX8_findParts 263 = .ok (.goto (-68), 3) := by decide +kernel
theorem dX8_findParts_266 : decode cX8_findParts 266 = .ok (.iconst 0, 1) := by decide +kernel
theorem dX8_findParts_267 : decode cX8_findParts 267 = .ok (.istore_n 2, 1) := by decide +kernel
theorem dX8_findParts_268 : decode cX8_findParts 268 = .ok (.iload_n 2, 1) := by decide +kernel
theorem dX8_findParts_269 : decode cX8_findParts 269 = .ok (.aload_n 0, 1) := by decide +kernel
theorem dX8_findParts_270 : decode cX8_findParts 270 = .ok (.getfield 88, 3) := by decide +kernel
theorem dX8_findParts_273 : decode cX8_findParts 273 = .ok (.if_icmp .ge 23, 3) := by decide +kernel
theorem dX8_findParts_276 : decode cX8_findParts 276 = .ok (.aload_n 0, 1) := by decide +kernel
theorem dX8_findParts_277 : decode cX8_findParts 277 = .ok (.getfield 47, 3) := by decide +kernel
theorem dX8_findParts_280 : decode cX8_findParts 280 = .ok (.iload_n 2, 1) := by decide +kernel
theorem dX8_findParts_281 : decode cX8_findParts 281 = .ok (.iconst (-1), 1) := by decide +kernel
theorem dX8_findParts_282 : decode cX8_findParts 282 = .ok (.aload_n 0, 1) := by decide +kernel
theorem dX8_findParts_283 : decode cX8_findParts 283 = .ok (.getfield 47, 3) := by decide +kernel
theorem dX8_findParts_286 : decode cX8_findParts 286 = .ok (.iload_n 2, 1) := by decide +kernel
theorem dX8_findParts_287 : decode cX8_findParts 287 = .ok (.iaload, 1) := by decide +kernel
theorem dX8_findParts_288 : decode cX8_findParts 288 = .ok (.isub, 1) := by decide +kernel
theorem dX8_findParts_289 : decode cX8_findParts 289 = .ok (.iastore, 1) := by decide +kernel
theorem dX8_findParts_290 : decode cX8_findParts 290 = .ok (.iinc 2 1, 3) := by decide +kernel
theorem dX8_findParts_293 : decode cX8_findParts 293 = .ok (.goto (-25), 3) := by decide +kernel
theorem dX8_findParts_296 : decode cX8_findParts 296 = .ok (.iload_n 1, 1) := by decide +kernel
theorem dX8_findParts_297 : decode cX8_findParts 297 = .ok (.ireturn, 1) := by decide +kernel
theorem dX8_parts_0 : decode cX8_parts 0 = .ok (.aload_n 0, 1) := by decide +kernel
theorem dX8_parts_1 : decode cX8_parts 1 = .ok (.iconst 0, 1) := by decide +kernel
theorem dX8_parts_2 : decode cX8_parts 2 = .ok (.putfield 78, 3) := by decide +kernel
theorem dX8_parts_5 : decode cX8_parts 5 = .ok (.aload_n 0, 1) := by decide +kernel
theorem dX8_parts_6 : decode cX8_parts 6 = .ok (.invokevirtual 214, 3) := by decide +kernel
theorem dX8_parts_9 : decode cX8_parts 9 = .ok (.ireturn, 1) := by decide +kernel
theorem dX8_most_0 : decode cX8_most 0 = .ok (.aload_n 0, 1) := by decide +kernel
theorem dX8_most_1 : decode cX8_most 1 = .ok (.invokevirtual 214, 3) := by decide +kernel
theorem dX8_most_4 : decode cX8_most 4 = .ok (.istore_n 1, 1) := by decide +kernel
theorem dX8_most_5 : decode cX8_most 5 = .ok (.iconst 0, 1) := by decide +kernel
theorem dX8_most_6 : decode cX8_most 6 = .ok (.istore_n 2, 1) := by decide +kernel
theorem dX8_most_7 : decode cX8_most 7 = .ok (.iconst 0, 1) := by decide +kernel
theorem dX8_most_8 : decode cX8_most 8 = .ok (.istore_n 3, 1) := by decide +kernel
theorem dX8_most_9 : decode cX8_most 9 = .ok (.iload_n 3, 1) := by decide +kernel
theorem dX8_most_10 : decode cX8_most 10 = .ok (.iload_n 1, 1) := by decide +kernel
theorem dX8_most_11 : decode cX8_most 11 = .ok (.if_icmp .ge 64, 3) := by decide +kernel
theorem dX8_most_14 : decode cX8_most 14 = .ok (.iconst 0, 1) := by decide +kernel
theorem dX8_most_15 : decode cX8_most 15 = .ok (.istore 4, 2) := by decide +kernel
theorem dX8_most_17 : decode cX8_most 17 = .ok (.iconst 0, 1) := by decide +kernel
theorem dX8_most_18 : decode cX8_most 18 = .ok (.istore 5, 2) := by decide +kernel
theorem dX8_most_20 : decode cX8_most 20 = .ok (.iload 5, 2) := by decide +kernel
theorem dX8_most_22 : decode cX8_most 22 = .ok (.aload_n 0, 1) := by decide +kernel
theorem dX8_most_23 : decode cX8_most 23 = .ok (.getfield 88, 3) := by decide +kernel
theorem dX8_most_26 : decode cX8_most 26 = .ok (.if_icmp .ge 30, 3) := by decide +kernel
theorem dX8_most_29 : decode cX8_most 29 = .ok (.iload 4, 2) := by decide +kernel
theorem dX8_most_31 : decode cX8_most 31 = .ok (.aload_n 0, 1) := by decide +kernel
theorem dX8_most_32 : decode cX8_most 32 = .ok (.getfield 47, 3) := by decide +kernel
theorem dX8_most_35 : decode cX8_most 35 = .ok (.iload 5, 2) := by decide +kernel
theorem dX8_most_37 : decode cX8_most 37 = .ok (.iaload, 1) := by decide +kernel
theorem dX8_most_38 : decode cX8_most 38 = .ok (.iload_n 3, 1) := by decide +kernel
theorem dX8_most_39 : decode cX8_most 39 = .ok (.if_icmp .ne 7, 3) := by decide +kernel
theorem dX8_most_42 : decode cX8_most 42 = .ok (.iconst 1, 1) := by decide +kernel
theorem dX8_most_43 : decode cX8_most 43 = .ok (.goto 4, 3) := by decide +kernel
theorem dX8_most_46 : decode cX8_most 46 = .ok (.iconst 0, 1) := by decide +kernel
theorem dX8_most_47 : decode cX8_most 47 = .ok (.iadd, 1) := by decide +kernel
theorem dX8_most_48 : decode cX8_most 48 = .ok (.istore 4, 2) := by decide +kernel
theorem dX8_most_50 : decode cX8_most 50 = .ok (.iinc 5 1, 3) := by decide +kernel
theorem dX8_most_53 : decode cX8_most 53 = .ok (.goto (-33), 3) := by decide +kernel
theorem dX8_most_56 : decode cX8_most 56 = .ok (.iload 4, 2) := by decide +kernel
theorem dX8_most_58 : decode cX8_most 58 = .ok (.iload_n 2, 1) := by decide +kernel
theorem dX8_most_59 : decode cX8_most 59 = .ok (.if_icmp .le 8, 3) := by decide +kernel
theorem dX8_most_62 : decode cX8_most 62 = .ok (.iload 4, 2) := by decide +kernel
theorem dX8_most_64 : decode cX8_most 64 = .ok (.goto 4, 3) := by decide +kernel
theorem dX8_most_67 : decode cX8_most 67 = .ok (.iload_n 2, 1) := by decide +kernel
theorem dX8_most_68 : decode cX8_most 68 = .ok (.istore_n 2, 1) := by decide +kernel
theorem dX8_most_69 : decode cX8_most 69 = .ok (.iinc 3 1, 3) := by decide +kernel
theorem dX8_most_72 : decode cX8_most 72 = .ok (.goto (-63), 3) := by decide +kernel
theorem dX8_most_75 : decode cX8_most 75 = .ok (.iload_n 2, 1) := by decide +kernel
theorem dX8_most_76 : decode cX8_most 76 = .ok (.ireturn, 1) := by decide +kernel
theorem dX8_about_0 : decode cX8_about 0 = .ok (.aload_n 0, 1) := by decide +kernel
theorem dX8_about_1 : decode cX8_about 1 = .ok (.iconst 0, 1) := by decide +kernel
theorem dX8_about_2 : decode cX8_about 2 = .ok (.putfield 78, 3) := by decide +kernel
theorem dX8_about_5 : decode cX8_about 5 = .ok (.aload_n 0, 1) := by decide +kernel
theorem dX8_about_6 : decode cX8_about 6 = .ok (.iload_n 1, 1) := by decide +kernel
theorem dX8_about_7 : decode cX8_about 7 = .ok (.invokevirtual 115, 3) := by decide +kernel
theorem dX8_about_10 : decode cX8_about 10 = .ok (.ifCond .eq 13, 3) := by decide +kernel
theorem dX8_about_13 : decode cX8_about 13 = .ok (.iload_n 2, 1) := by decide +kernel
theorem dX8_about_14 : decode cX8_about 14 = .ok (.iconst 0, 1) := by decide +kernel
theorem dX8_about_15 : decode cX8_about 15 = .ok (.bipush 8, 2) := by decide +kernel
theorem dX8_about_17 : decode cX8_about 17 = .ok (.invokestatic 104, 3) := by decide +kernel
theorem dX8_about_20 : decode cX8_about 20 = .ok (.ifCond .ne 6, 3) := by decide +kernel
theorem dX8_about_23 : decode cX8_about 23 = .ok (.bipush (-3), 2) := by decide +kernel
theorem dX8_about_25 : decode cX8_about 25 = .ok (.ireturn, 1) := by decide +kernel
theorem dX8_about_26 : decode cX8_about 26 = .ok (.iconst 0, 1) := by decide +kernel
theorem dX8_about_27 : decode cX8_about 27 = .ok (.istore_n 3, 1) := by decide +kernel
theorem dX8_about_28 : decode cX8_about 28 = .ok (.iload_n 2, 1) := by decide +kernel
theorem dX8_about_29 : decode cX8_about 29 = .ok (.tableswitch 135 0 7 #[47, 54, 61, 68, 75, 82, 89, 95], 47) := by decide +kernel
theorem dX8_about_76 : decode cX8_about 76 = .ok (.aload_n 0, 1) := by decide +kernel
theorem dX8_about_77 : decode cX8_about 77 = .ok (.getfield 7, 3) := by decide +kernel
theorem dX8_about_80 : decode cX8_about 80 = .ok (.iload_n 1, 1) := by decide +kernel
theorem dX8_about_81 : decode cX8_about 81 = .ok (.iaload, 1) := by decide +kernel
theorem dX8_about_82 : decode cX8_about 82 = .ok (.ireturn, 1) := by decide +kernel
theorem dX8_about_83 : decode cX8_about 83 = .ok (.aload_n 0, 1) := by decide +kernel
theorem dX8_about_84 : decode cX8_about 84 = .ok (.getfield 13, 3) := by decide +kernel
theorem dX8_about_87 : decode cX8_about 87 = .ok (.iload_n 1, 1) := by decide +kernel
theorem dX8_about_88 : decode cX8_about 88 = .ok (.iaload, 1) := by decide +kernel
theorem dX8_about_89 : decode cX8_about 89 = .ok (.ireturn, 1) := by decide +kernel
theorem dX8_about_90 : decode cX8_about 90 = .ok (.aload_n 0, 1) := by decide +kernel
theorem dX8_about_91 : decode cX8_about 91 = .ok (.getfield 16, 3) := by decide +kernel
theorem dX8_about_94 : decode cX8_about 94 = .ok (.iload_n 1, 1) := by decide +kernel
theorem dX8_about_95 : decode cX8_about 95 = .ok (.iaload, 1) := by decide +kernel
theorem dX8_about_96 : decode cX8_about 96 = .ok (.ireturn, 1) := by decide +kernel
theorem dX8_about_97 : decode cX8_about 97 = .ok (.aload_n 0, 1) := by decide +kernel
theorem dX8_about_98 : decode cX8_about 98 = .ok (.getfield 19, 3) := by decide +kernel
theorem dX8_about_101 : decode cX8_about 101 = .ok (.iload_n 1, 1) := by decide +kernel
theorem dX8_about_102 : decode cX8_about 102 = .ok (.iaload, 1) := by decide +kernel
theorem dX8_about_103 : decode cX8_about 103 = .ok (.ireturn, 1) := by decide +kernel
theorem dX8_about_104 : decode cX8_about 104 = .ok (.aload_n 0, 1) := by decide +kernel
theorem dX8_about_105 : decode cX8_about 105 = .ok (.getfield 22, 3) := by decide +kernel
theorem dX8_about_108 : decode cX8_about 108 = .ok (.iload_n 1, 1) := by decide +kernel
theorem dX8_about_109 : decode cX8_about 109 = .ok (.iaload, 1) := by decide +kernel
theorem dX8_about_110 : decode cX8_about 110 = .ok (.ireturn, 1) := by decide +kernel
theorem dX8_about_111 : decode cX8_about 111 = .ok (.aload_n 0, 1) := by decide +kernel
theorem dX8_about_112 : decode cX8_about 112 = .ok (.getfield 25, 3) := by decide +kernel
theorem dX8_about_115 : decode cX8_about 115 = .ok (.iload_n 1, 1) := by decide +kernel
theorem dX8_about_116 : decode cX8_about 116 = .ok (.iaload, 1) := by decide +kernel
theorem dX8_about_117 : decode cX8_about 117 = .ok (.ireturn, 1) := by decide +kernel
theorem dX8_about_118 : decode cX8_about 118 = .ok (.aload_n 0, 1) := by decide +kernel
theorem dX8_about_119 : decode cX8_about 119 = .ok (.iload_n 1, 1) := by decide +kernel
theorem dX8_about_120 : decode cX8_about 120 = .ok (.invokevirtual 190, 3) := by decide +kernel
theorem dX8_about_123 : decode cX8_about 123 = .ok (.ireturn, 1) := by decide +kernel
theorem dX8_about_124 : decode cX8_about 124 = .ok (.iconst 0, 1) := by decide +kernel
theorem dX8_about_125 : decode cX8_about 125 = .ok (.istore 4, 2) := by decide +kernel
theorem dX8_about_127 : decode cX8_about 127 = .ok (.iload 4, 2) := by decide +kernel
theorem dX8_about_129 : decode cX8_about 129 = .ok (.aload_n 0, 1) := by decide +kernel
theorem dX8_about_130 : decode cX8_about 130 = .ok (.iload_n 1, 1) := by decide +kernel
theorem dX8_about_131 : decode cX8_about 131 = .ok (.invokevirtual 190, 3) := by decide +kernel
theorem dX8_about_134 : decode cX8_about 134 = .ok (.if_icmp .ge 28, 3) := by decide +kernel
theorem dX8_about_137 : decode cX8_about 137 = .ok (.iload_n 3, 1) := by decide +kernel
theorem dX8_about_138 : decode cX8_about 138 = .ok (.aload_n 0, 1) := by decide +kernel
theorem dX8_about_139 : decode cX8_about 139 = .ok (.iload_n 1, 1) := by decide +kernel
theorem dX8_about_140 : decode cX8_about 140 = .ok (.iload 4, 2) := by decide +kernel
theorem dX8_about_142 : decode cX8_about 142 = .ok (.iconst 0, 1) := by decide +kernel
theorem dX8_about_143 : decode cX8_about 143 = .ok (.invokevirtual 201, 3) := by decide +kernel
theorem dX8_about_146 : decode cX8_about 146 = .ok (.ifCond .eq 7, 3) := by decide +kernel
theorem dX8_about_149 : decode cX8_about 149 = .ok (.iconst 1, 1) := by decide +kernel
theorem dX8_about_150 : decode cX8_about 150 = .ok (.goto 4, 3) := by decide +kernel
theorem dX8_about_153 : decode cX8_about 153 = .ok (.iconst 0, 1) := by decide +kernel
theorem dX8_about_154 : decode cX8_about 154 = .ok (.iadd, 1) := by decide +kernel
theorem dX8_about_155 : decode cX8_about 155 = .ok (.istore_n 3, 1) := by decide +kernel
theorem dX8_about_156 : decode cX8_about 156 = .ok (.iinc 4 1, 3) := by decide +kernel
theorem dX8_about_159 : decode cX8_about 159 = .ok (.goto (-32), 3) := by decide +kernel
theorem dX8_about_162 : decode cX8_about 162 = .ok (.iload_n 3, 1) := by decide +kernel
theorem dX8_about_163 : decode cX8_about 163 = .ok (.ireturn, 1) := by decide +kernel
theorem dX8_about_164 : decode cX8_about 164 = .ok (.aload_n 0, 1) := by decide +kernel
theorem dX8_about_165 : decode cX8_about 165 = .ok (.invokevirtual 214, 3) := by decide +kernel
theorem dX8_about_168 : decode cX8_about 168 = .ok (.istore_n 3, 1) := by decide +kernel
theorem dX8_about_169 : decode cX8_about 169 = .ok (.aload_n 0, 1) := by decide +kernel
theorem dX8_about_170 : decode cX8_about 170 = .ok (.getfield 47, 3) := by decide +kernel
theorem dX8_about_173 : decode cX8_about 173 = .ok (.iload_n 1, 1) := by decide +kernel
theorem dX8_about_174 : decode cX8_about 174 = .ok (.iaload, 1) := by decide +kernel
theorem dX8_about_175 : decode cX8_about 175 = .ok (.ireturn, 1) := by decide +kernel
theorem dX8_isOf_0 : decode cX8_isOf 0 = .ok (.aload_n 0, 1) := by decide +kernel
theorem dX8_isOf_1 : decode cX8_isOf 1 = .ok (.iconst 0, 1) := by decide +kernel
theorem dX8_isOf_2 : decode cX8_isOf 2 = .ok (.putfield 78, 3) := by decide +kernel
theorem dX8_isOf_5 : decode cX8_isOf 5 = .ok (.aload_n 0, 1) := by decide +kernel
theorem dX8_isOf_6 : decode cX8_isOf 6 = .ok (.iload_n 1, 1) := by decide +kernel
theorem dX8_isOf_7 : decode cX8_isOf 7 = .ok (.invokevirtual 115, 3) := by decide +kernel
theorem dX8_isOf_10 : decode cX8_isOf 10 = .ok (.ifCond .eq 12, 3) := by decide +kernel
theorem dX8_isOf_13 : decode cX8_isOf 13 = .ok (.iload_n 2, 1) := by decide +kernel
theorem dX8_isOf_14 : decode cX8_isOf 14 = .ok (.iconst 0, 1) := by decide +kernel
theorem dX8_isOf_15 : decode cX8_isOf 15 = .ok (.iconst 3, 1) := by decide +kernel
theorem dX8_isOf_16 : decode cX8_isOf 16 = .ok (.invokestatic 104, 3) := by decide +kernel
theorem dX8_isOf_19 : decode cX8_isOf 19 = .ok (.ifCond .ne 6, 3) := by decide +kernel
theorem dX8_isOf_22 : decode cX8_isOf 22 = .ok (.bipush (-3), 2) := by decide +kernel
theorem dX8_isOf_24 : decode cX8_isOf 24 = .ok (.ireturn, 1) := by decide +kernel
theorem dX8_isOf_25 : decode cX8_isOf 25 = .ok (.iload_n 2, 1) := by decide +kernel
theorem dX8_isOf_26 : decode cX8_isOf 26 = .ok (.ifCond .eq 28, 3) := by decide +kernel
theorem dX8_isOf_29 : decode cX8_isOf 29 = .ok (.aload_n 0, 1) := by decide +kernel
theorem dX8_isOf_30 : decode cX8_isOf 30 = .ok (.getfield 7, 3) := by decide +kernel
theorem dX8_isOf_33 : decode cX8_isOf 33 = .ok (.iload_n 1, 1) := by decide +kernel
theorem dX8_isOf_34 : decode cX8_isOf 34 = .ok (.iaload, 1) := by decide +kernel
theorem dX8_isOf_35 : decode cX8_isOf 35 = .ok (.iload_n 2, 1) := by decide +kernel
theorem dX8_isOf_36 : decode cX8_isOf 36 = .ok (.if_icmp .eq 18, 3) := by decide +kernel
theorem dX8_isOf_39 : decode cX8_isOf 39 = .ok (.iload_n 2, 1) := by decide +kernel
theorem dX8_isOf_40 : decode cX8_isOf 40 = .ok (.iconst 2, 1) := by decide +kernel
theorem dX8_isOf_41 : decode cX8_isOf 41 = .ok (.if_icmp .ne 17, 3) := by decide +kernel
theorem dX8_isOf_44 : decode cX8_isOf 44 = .ok (.aload_n 0, 1) := by decide +kernel
theorem dX8_isOf_45 : decode cX8_isOf 45 = .ok (.getfield 7, 3) := by decide +kernel
theorem dX8_isOf_48 : decode cX8_isOf 48 = .ok (.iload_n 1, 1) := by decide +kernel
theorem dX8_isOf_49 : decode cX8_isOf 49 = .ok (.iaload, 1) := by decide +kernel
theorem dX8_isOf_50 : decode cX8_isOf 50 = .ok (.iconst 3, 1) := by decide +kernel
theorem dX8_isOf_51 : decode cX8_isOf 51 = .ok (.if_icmp .ne 7, 3) := by decide +kernel
theorem dX8_isOf_54 : decode cX8_isOf 54 = .ok (.iconst 1, 1) := by decide +kernel
theorem dX8_isOf_55 : decode cX8_isOf 55 = .ok (.goto 4, 3) := by decide +kernel
theorem dX8_isOf_58 : decode cX8_isOf 58 = .ok (.iconst 0, 1) := by decide +kernel
theorem dX8_isOf_59 : decode cX8_isOf 59 = .ok (.ireturn, 1) := by decide +kernel
theorem dX8_set_0 : decode cX8_set 0 = .ok (.aload_n 0, 1) := by decide +kernel
theorem dX8_set_1 : decode cX8_set 1 = .ok (.iconst 0, 1) := by decide +kernel
theorem dX8_set_2 : decode cX8_set 2 = .ok (.putfield 78, 3) := by decide +kernel
theorem dX8_set_5 : decode cX8_set 5 = .ok (.aload_n 0, 1) := by decide +kernel
theorem dX8_set_6 : decode cX8_set 6 = .ok (.iload_n 1, 1) := by decide +kernel
theorem dX8_set_7 : decode cX8_set 7 = .ok (.iload_n 2, 1) := by decide +kernel
theorem dX8_set_8 : decode cX8_set 8 = .ok (.invokevirtual 194, 3) := by decide +kernel
theorem dX8_set_11 : decode cX8_set 11 = .ok (.ifCond .ne 6, 3) := by decide +kernel
theorem dX8_set_14 : decode cX8_set 14 = .ok (.bipush (-3), 2) := by decide +kernel
theorem dX8_set_16 : decode cX8_set 16 = .ok (.ireturn, 1) := by decide +kernel
theorem dX8_set_17 : decode cX8_set 17 = .ok (.aload_n 0, 1) := by decide +kernel
theorem dX8_set_18 : decode cX8_set 18 = .ok (.invokevirtual 112, 3) := by decide +kernel
theorem dX8_set_21 : decode cX8_set 21 = .ok (.aload_n 0, 1) := by decide +kernel
theorem dX8_set_22 : decode cX8_set 22 = .ok (.getfield 28, 3) := by decide +kernel
theorem dX8_set_25 : decode cX8_set 25 = .ok (.iload_n 1, 1) := by decide +kernel
theorem dX8_set_26 : decode cX8_set 26 = .ok (.iaload, 1) := by decide +kernel
theorem dX8_set_27 : decode cX8_set 27 = .ok (.istore_n 3, 1) := by decide +kernel
theorem dX8_set_28 : decode cX8_set 28 = .ok (.aload_n 0, 1) := by decide +kernel
theorem dX8_set_29 : decode cX8_set 29 = .ok (.getfield 28, 3) := by decide +kernel
theorem dX8_set_32 : decode cX8_set 32 = .ok (.iload_n 1, 1) := by decide +kernel
theorem dX8_set_33 : decode cX8_set 33 = .ok (.iload_n 2, 1) := by decide +kernel
theorem dX8_set_34 : decode cX8_set 34 = .ok (.iastore, 1) := by decide +kernel
theorem dX8_set_35 : decode cX8_set 35 = .ok (.iload_n 3, 1) := by decide +kernel
theorem dX8_set_36 : decode cX8_set 36 = .ok (.bipush 16, 2) := by decide +kernel
theorem dX8_set_38 : decode cX8_set 38 = .ok (.if_icmp .ne 7, 3) := by decide +kernel
theorem dX8_set_41 : decode cX8_set 41 = .ok (.iconst (-1), 1) := by decide +kernel
theorem dX8_set_42 : decode cX8_set 42 = .ok (.goto 4, 3) := by decide +kernel
theorem dX8_set_45 : decode cX8_set 45 = .ok (.iload_n 3, 1) := by decide +kernel
theorem dX8_set_46 : decode cX8_set 46 = .ok (.ireturn, 1) := by decide +kernel
theorem dX8_free_0 : decode cX8_free 0 = .ok (.aload_n 0, 1) := by decide +kernel
theorem dX8_free_1 : decode cX8_free 1 = .ok (.iconst 0, 1) := by decide +kernel
theorem dX8_free_2 : decode cX8_free 2 = .ok (.putfield 78, 3) := by decide +kernel
theorem dX8_free_5 : decode cX8_free 5 = .ok (.aload_n 0, 1) := by decide +kernel
theorem dX8_free_6 : decode cX8_free 6 = .ok (.iload_n 1, 1) := by decide +kernel
theorem dX8_free_7 : decode cX8_free 7 = .ok (.invokevirtual 115, 3) := by decide +kernel
theorem dX8_free_10 : decode cX8_free 10 = .ok (.ifCond .ne 6, 3) := by decide +kernel
theorem dX8_free_13 : decode cX8_free 13 = .ok (.bipush (-3), 2) := by decide +kernel
theorem dX8_free_15 : decode cX8_free 15 = .ok (.ireturn, 1) := by decide +kernel
theorem dX8_free_16 : decode cX8_free 16 = .ok (.aload_n 0, 1) := by decide +kernel
theorem dX8_free_17 : decode cX8_free 17 = .ok (.getfield 28, 3) := by decide +kernel
theorem dX8_free_20 : decode cX8_free 20 = .ok (.iload_n 1, 1) := by decide +kernel
theorem dX8_free_21 : decode cX8_free 21 = .ok (.iaload, 1) := by decide +kernel
theorem dX8_free_22 : decode cX8_free 22 = .ok (.bipush 16, 2) := by decide +kernel
theorem dX8_free_24 : decode cX8_free 24 = .ok (.if_icmp .ne 6, 3) := by decide +kernel
theorem dX8_free_27 : decode cX8_free 27 = .ok (.bipush (-4), 2) := by decide +kernel
theorem dX8_free_29 : decode cX8_free 29 = .ok (.ireturn, 1) := by decide +kernel
theorem dX8_free_30 : decode cX8_free 30 = .ok (.aload_n 0, 1) := by decide +kernel
theorem dX8_free_31 : decode cX8_free 31 = .ok (.invokevirtual 112, 3) := by decide +kernel
theorem dX8_free_34 : decode cX8_free 34 = .ok (.aload_n 0, 1) := by decide +kernel
theorem dX8_free_35 : decode cX8_free 35 = .ok (.getfield 28, 3) := by decide +kernel
theorem dX8_free_38 : decode cX8_free 38 = .ok (.iload_n 1, 1) := by decide +kernel
theorem dX8_free_39 : decode cX8_free 39 = .ok (.iaload, 1) := by decide +kernel
theorem dX8_free_40 : decode cX8_free 40 = .ok (.istore_n 2, 1) := by decide +kernel
theorem dX8_free_41 : decode cX8_free 41 = .ok (.aload_n 0, 1) := by decide +kernel
theorem dX8_free_42 : decode cX8_free 42 = .ok (.getfield 28, 3) := by decide +kernel
theorem dX8_free_45 : decode cX8_free 45 = .ok (.iload_n 1, 1) := by decide +kernel
theorem dX8_free_46 : decode cX8_free 46 = .ok (.bipush 16, 2) := by decide +kernel
theorem dX8_free_48 : decode cX8_free 48 = .ok (.iastore, 1) := by decide +kernel
theorem dX8_free_49 : decode cX8_free 49 = .ok (.iload_n 2, 1) := by decide +kernel
theorem dX8_free_50 : decode cX8_free 50 = .ok (.ireturn, 1) := by decide +kernel
theorem dX8_chosen_0 : decode cX8_chosen 0 = .ok (.aload_n 0, 1) := by decide +kernel
theorem dX8_chosen_1 : decode cX8_chosen 1 = .ok (.iconst 0, 1) := by decide +kernel
theorem dX8_chosen_2 : decode cX8_chosen 2 = .ok (.putfield 78, 3) := by decide +kernel
theorem dX8_chosen_5 : decode cX8_chosen 5 = .ok (.aload_n 0, 1) := by decide +kernel
theorem dX8_chosen_6 : decode cX8_chosen 6 = .ok (.iload_n 1, 1) := by decide +kernel
theorem dX8_chosen_7 : decode cX8_chosen 7 = .ok (.invokevirtual 115, 3) := by decide +kernel
theorem dX8_chosen_10 : decode cX8_chosen 10 = .ok (.ifCond .ne 8, 3) := by decide +kernel
theorem dX8_chosen_13 : decode cX8_chosen 13 = .ok (.bipush (-3), 2) := by decide +kernel
theorem dX8_chosen_15 : decode cX8_chosen 15 = .ok (.goto 24, 3) := by decide +kernel
theorem dX8_chosen_18 : decode cX8_chosen 18 = .ok (.aload_n 0, 1) := by decide +kernel
theorem dX8_chosen_19 : decode cX8_chosen 19 = .ok (.getfield 28, 3) := by decide +kernel
theorem dX8_chosen_22 : decode cX8_chosen 22 = .ok (.iload_n 1, 1) := by decide +kernel
theorem dX8_chosen_23 : decode cX8_chosen 23 = .ok (.iaload, 1) := by decide +kernel
theorem dX8_chosen_24 : decode cX8_chosen 24 = .ok (.bipush 16, 2) := by decide +kernel
theorem dX8_chosen_26 : decode cX8_chosen 26 = .ok (.if_icmp .ne 7, 3) := by decide +kernel
theorem dX8_chosen_29 : decode cX8_chosen 29 = .ok (.iconst (-1), 1) := by decide +kernel
theorem dX8_chosen_30 : decode cX8_chosen 30 = .ok (.goto 9, 3) := by decide +kernel
theorem dX8_chosen_33 : decode cX8_chosen 33 = .ok (.aload_n 0, 1) := by decide +kernel
theorem dX8_chosen_34 : decode cX8_chosen 34 = .ok (.getfield 28, 3) := by decide +kernel
theorem dX8_chosen_37 : decode cX8_chosen 37 = .ok (.iload_n 1, 1) := by decide +kernel
theorem dX8_chosen_38 : decode cX8_chosen 38 = .ok (.iaload, 1) := by decide +kernel
theorem dX8_chosen_39 : decode cX8_chosen 39 = .ok (.ireturn, 1) := by decide +kernel
theorem dX8_clashInHand_0 : decode cX8_clashInHand 0 = .ok (.iconst 0, 1) := by decide +kernel
theorem dX8_clashInHand_1 : decode cX8_clashInHand 1 = .ok (.istore_n 3, 1) := by decide +kernel
theorem dX8_clashInHand_2 : decode cX8_clashInHand 2 = .ok (.iload_n 3, 1) := by decide +kernel
theorem dX8_clashInHand_3 : decode cX8_clashInHand 3 = .ok (.aload_n 0, 1) := by decide +kernel
theorem dX8_clashInHand_4 : decode cX8_clashInHand 4 = .ok (.getfield 88, 3) := by decide +kernel
theorem dX8_clashInHand_7 : decode cX8_clashInHand 7 = .ok (.if_icmp .ge 44, 3) := by decide +kernel
theorem dX8_clashInHand_10 : decode cX8_clashInHand 10 = .ok (.iload_n 3, 1) := by decide +kernel
theorem dX8_clashInHand_11 : decode cX8_clashInHand 11 = .ok (.iload_n 1, 1) := by decide +kernel
theorem dX8_clashInHand_12 : decode cX8_clashInHand 12 = .ok (.if_icmp .eq 33, 3) := by decide +kernel
theorem dX8_clashInHand_15 : decode cX8_clashInHand 15 = .ok (.aload_n 0, 1) := by decide +kernel
theorem dX8_clashInHand_16 : decode cX8_clashInHand 16 = .ok (.getfield 28, 3) := by decide +kernel
theorem dX8_clashInHand_19 : decode cX8_clashInHand 19 = .ok (.iload_n 3, 1) := by decide +kernel
theorem dX8_clashInHand_20 : decode cX8_clashInHand 20 = .ok (.iaload, 1) := by decide +kernel
theorem dX8_clashInHand_21 : decode cX8_clashInHand 21 = .ok (.bipush 16, 2) := by decide +kernel
theorem dX8_clashInHand_23 : decode cX8_clashInHand 23 = .ok (.if_icmp .eq 22, 3) := by decide +kernel
theorem dX8_clashInHand_26 : decode cX8_clashInHand 26 = .ok (.aload_n 0, 1) := by decide +kernel
theorem dX8_clashInHand_27 : decode cX8_clashInHand 27 = .ok (.iload_n 1, 1) := by decide +kernel
theorem dX8_clashInHand_28 : decode cX8_clashInHand 28 = .ok (.iload_n 2, 1) := by decide +kernel
theorem dX8_clashInHand_29 : decode cX8_clashInHand 29 = .ok (.iload_n 3, 1) := by decide +kernel
theorem dX8_clashInHand_30 : decode cX8_clashInHand 30 = .ok (.aload_n 0, 1) := by decide +kernel
theorem dX8_clashInHand_31 : decode cX8_clashInHand 31 = .ok (.getfield 28, 3) := by decide +kernel
theorem dX8_clashInHand_34 : decode cX8_clashInHand 34 = .ok (.iload_n 3, 1) := by decide +kernel
theorem dX8_clashInHand_35 : decode cX8_clashInHand 35 = .ok (.iaload, 1) := by decide +kernel
theorem dX8_clashInHand_36 : decode cX8_clashInHand 36 = .ok (.iconst 0, 1) := by decide +kernel
theorem dX8_clashInHand_37 : decode cX8_clashInHand 37 = .ok (.invokevirtual 204, 3) := by decide +kernel
theorem dX8_clashInHand_40 : decode cX8_clashInHand 40 = .ok (.ifCond .eq 5, 3) := by decide +kernel
theorem dX8_clashInHand_43 : decode cX8_clashInHand 43 = .ok (.iload_n 3, 1) := by decide +kernel
theorem dX8_clashInHand_44 : decode cX8_clashInHand 44 = .ok (.ireturn, 1) := by decide +kernel
theorem dX8_clashInHand_45 : decode cX8_clashInHand 45 = .ok (.iinc 3 1, 3) := by decide +kernel
theorem dX8_clashInHand_48 : decode cX8_clashInHand 48 = .ok (.goto (-46), 3) := by decide +kernel
theorem dX8_clashInHand_51 : decode cX8_clashInHand 51 = .ok (.iconst (-1), 1) := by decide +kernel
theorem dX8_clashInHand_52 : decode cX8_clashInHand 52 = .ok (.ireturn, 1) := by decide +kernel
theorem dX8_check_0 : decode cX8_check 0 = .ok (.aload_n 0, 1) := by decide +kernel
theorem dX8_check_1 : decode cX8_check 1 = .ok (.iconst 0, 1) := by decide +kernel
theorem dX8_check_2 : decode cX8_check 2 = .ok (.putfield 78, 3) := by decide +kernel
theorem dX8_check_5 : decode cX8_check 5 = .ok (.iconst 0, 1) := by decide +kernel
theorem dX8_check_6 : decode cX8_check 6 = .ok (.istore_n 1, 1) := by decide +kernel
theorem dX8_check_7 : decode cX8_check 7 = .ok (.iload_n 1, 1) := by decide +kernel
theorem dX8_check_8 : decode cX8_check 8 = .ok (.aload_n 0, 1) := by decide +kernel
theorem dX8_check_9 : decode cX8_check 9 = .ok (.getfield 88, 3) := by decide +kernel
theorem dX8_check_12 : decode cX8_check 12 = .ok (.if_icmp .ge 40, 3) := by decide +kernel
theorem dX8_check_15 : decode cX8_check 15 = .ok (.aload_n 0, 1) := by decide +kernel
theorem dX8_check_16 : decode cX8_check 16 = .ok (.getfield 28, 3) := by decide +kernel
theorem dX8_check_19 : decode cX8_check 19 = .ok (.iload_n 1, 1) := by decide +kernel
theorem dX8_check_20 : decode cX8_check 20 = .ok (.iaload, 1) := by decide +kernel
theorem dX8_check_21 : decode cX8_check 21 = .ok (.bipush 16, 2) := by decide +kernel
theorem dX8_check_23 : decode cX8_check 23 = .ok (.if_icmp .eq 23, 3) := by decide +kernel
theorem dX8_check_26 : decode cX8_check 26 = .ok (.aload_n 0, 1) := by decide +kernel
theorem dX8_check_27 : decode cX8_check 27 = .ok (.iload_n 1, 1) := by decide +kernel
theorem dX8_check_28 : decode cX8_check 28 = .ok (.aload_n 0, 1) := by decide +kernel
theorem dX8_check_29 : decode cX8_check 29 = .ok (.getfield 28, 3) := by decide +kernel
theorem dX8_check_32 : decode cX8_check 32 = .ok (.iload_n 1, 1) := by decide +kernel
theorem dX8_check_33 : decode cX8_check 33 = .ok (.iaload, 1) := by decide +kernel
theorem dX8_check_34 : decode cX8_check 34 = .ok (.iconst 0, 1) := by decide +kernel
theorem dX8_check_35 : decode cX8_check 35 = .ok (.invokevirtual 201, 3) := by decide +kernel
theorem dX8_check_38 : decode cX8_check 38 = .ok (.ifCond .ne 8, 3) := by decide +kernel
theorem dX8_check_41 : decode cX8_check 41 = .ok (.bipush 100, 2) := by decide +kernel
theorem dX8_check_43 : decode cX8_check 43 = .ok (.iload_n 1, 1) := by decide +kernel
theorem dX8_check_44 : decode cX8_check 44 = .ok (.iadd, 1) := by decide +kernel
theorem dX8_check_45 : decode cX8_check 45 = .ok (.ireturn, 1) := by decide +kernel
theorem dX8_check_46 : decode cX8_check 46 = .ok (.iinc 1 1, 3) := by decide +kernel
theorem dX8_check_49 : decode cX8_check 49 = .ok (.goto (-42), 3) := by decide +kernel
theorem dX8_check_52 : decode cX8_check 52 = .ok (.iconst 0, 1) := by decide +kernel
theorem dX8_check_53 : decode cX8_check 53 = .ok (.istore_n 1, 1) := by decide +kernel
theorem dX8_check_54 : decode cX8_check 54 = .ok (.iload_n 1, 1) := by decide +kernel
theorem dX8_check_55 : decode cX8_check 55 = .ok (.aload_n 0, 1) := by decide +kernel
theorem dX8_check_56 : decode cX8_check 56 = .ok (.getfield 88, 3) := by decide +kernel
theorem dX8_check_59 : decode cX8_check 59 = .ok (.if_icmp .ge 41, 3) := by decide +kernel
theorem dX8_check_62 : decode cX8_check 62 = .ok (.aload_n 0, 1) := by decide +kernel
theorem dX8_check_63 : decode cX8_check 63 = .ok (.getfield 28, 3) := by decide +kernel
theorem dX8_check_66 : decode cX8_check 66 = .ok (.iload_n 1, 1) := by decide +kernel
theorem dX8_check_67 : decode cX8_check 67 = .ok (.iaload, 1) := by decide +kernel
theorem dX8_check_68 : decode cX8_check 68 = .ok (.bipush 16, 2) := by decide +kernel
theorem dX8_check_70 : decode cX8_check 70 = .ok (.if_icmp .eq 24, 3) := by decide +kernel
theorem dX8_check_73 : decode cX8_check 73 = .ok (.aload_n 0, 1) := by decide +kernel
theorem dX8_check_74 : decode cX8_check 74 = .ok (.iload_n 1, 1) := by decide +kernel
theorem dX8_check_75 : decode cX8_check 75 = .ok (.aload_n 0, 1) := by decide +kernel
theorem dX8_check_76 : decode cX8_check 76 = .ok (.getfield 28, 3) := by decide +kernel
theorem dX8_check_79 : decode cX8_check 79 = .ok (.iload_n 1, 1) := by decide +kernel
theorem dX8_check_80 : decode cX8_check 80 = .ok (.iaload, 1) := by decide +kernel
theorem dX8_check_81 : decode cX8_check 81 = .ok (.invokevirtual 218, 3) := by decide +kernel
theorem dX8_check_84 : decode cX8_check 84 = .ok (.iconst (-1), 1) := by decide +kernel
theorem dX8_check_85 : decode cX8_check 85 = .ok (.if_icmp .eq 9, 3) := by decide +kernel
theorem dX8_check_88 : decode cX8_check 88 = .ok (.sipush 200, 3) := by decide +kernel
theorem dX8_check_91 : decode cX8_check 91 = .ok (.iload_n 1, 1) := by decide +kernel
theorem dX8_check_92 : decode cX8_check 92 = .ok (.iadd, 1) := by decide +kernel
theorem dX8_check_93 : decode cX8_check 93 = .ok (.ireturn, 1) := by decide +kernel
theorem dX8_check_94 : decode cX8_check 94 = .ok (.iinc 1 1, 3) := by decide +kernel
theorem dX8_check_97 : decode cX8_check 97 = .ok (.goto (-43), 3) := by decide +kernel
theorem dX8_check_100 : decode cX8_check 100 = .ok (.iconst 0, 1) := by decide +kernel
theorem dX8_check_101 : decode cX8_check 101 = .ok (.istore_n 1, 1) := by decide +kernel
theorem dX8_check_102 : decode cX8_check 102 = .ok (.iload_n 1, 1) := by decide +kernel
theorem dX8_check_103 : decode cX8_check 103 = .ok (.aload_n 0, 1) := by decide +kernel
theorem dX8_check_104 : decode cX8_check 104 = .ok (.getfield 88, 3) := by decide +kernel
theorem dX8_check_107 : decode cX8_check 107 = .ok (.if_icmp .ge 36, 3) := by decide +kernel
theorem dX8_check_110 : decode cX8_check 110 = .ok (.aload_n 0, 1) := by decide +kernel
theorem dX8_check_111 : decode cX8_check 111 = .ok (.getfield 28, 3) := by decide +kernel
theorem dX8_check_114 : decode cX8_check 114 = .ok (.iload_n 1, 1) := by decide +kernel
theorem dX8_check_115 : decode cX8_check 115 = .ok (.iaload, 1) := by decide +kernel
theorem dX8_check_116 : decode cX8_check 116 = .ok (.bipush 16, 2) := by decide +kernel
theorem dX8_check_118 : decode cX8_check 118 = .ok (.if_icmp .ne 19, 3) := by decide +kernel
theorem dX8_check_121 : decode cX8_check 121 = .ok (.aload_n 0, 1) := by decide +kernel
theorem dX8_check_122 : decode cX8_check 122 = .ok (.getfield 7, 3) := by decide +kernel
theorem dX8_check_125 : decode cX8_check 125 = .ok (.iload_n 1, 1) := by decide +kernel
theorem dX8_check_126 : decode cX8_check 126 = .ok (.iaload, 1) := by decide +kernel
theorem dX8_check_127 : decode cX8_check 127 = .ok (.iconst 3, 1) := by decide +kernel
theorem dX8_check_128 : decode cX8_check 128 = .ok (.if_icmp .ne 9, 3) := by decide +kernel
theorem dX8_check_131 : decode cX8_check 131 = .ok (.sipush 300, 3) := by decide +kernel
theorem dX8_check_134 : decode cX8_check 134 = .ok (.iload_n 1, 1) := by decide +kernel
theorem dX8_check_135 : decode cX8_check 135 = .ok (.iadd, 1) := by decide +kernel
theorem dX8_check_136 : decode cX8_check 136 = .ok (.ireturn, 1) := by decide +kernel
theorem dX8_check_137 : decode cX8_check 137 = .ok (.iinc 1 1, 3) := by decide +kernel
theorem dX8_check_140 : decode cX8_check 140 = .ok (.goto (-38), 3) := by decide +kernel
theorem dX8_check_143 : decode cX8_check 143 = .ok (.iconst 0, 1) := by decide +kernel
theorem dX8_check_144 : decode cX8_check 144 = .ok (.ireturn, 1) := by decide +kernel
theorem dX8_worthOf_0 : decode cX8_worthOf 0 = .ok (.iload_n 2, 1) := by decide +kernel
theorem dX8_worthOf_1 : decode cX8_worthOf 1 = .ok (.bipush 16, 2) := by decide +kernel
theorem dX8_worthOf_3 : decode cX8_worthOf 3 = .ok (.if_icmp .ne 7, 3) := by decide +kernel
theorem dX8_worthOf_6 : decode cX8_worthOf 6 = .ok (.iconst 0, 1) := by decide +kernel
theorem dX8_worthOf_7 : decode cX8_worthOf 7 = .ok (.goto 20, 3) := by decide +kernel
theorem dX8_worthOf_10 : decode cX8_worthOf 10 = .ok (.aload_n 0, 1) := by decide +kernel
theorem dX8_worthOf_11 : decode cX8_worthOf 11 = .ok (.getfield 25, 3) := by decide +kernel
theorem dX8_worthOf_14 : decode cX8_worthOf 14 = .ok (.iload_n 1, 1) := by decide +kernel
theorem dX8_worthOf_15 : decode cX8_worthOf 15 = .ok (.iaload, 1) := by decide +kernel
theorem dX8_worthOf_16 : decode cX8_worthOf 16 = .ok (.sipush 200, 3) := by decide +kernel
theorem dX8_worthOf_19 : decode cX8_worthOf 19 = .ok (.aload_n 0, 1) := by decide +kernel
theorem dX8_worthOf_20 : decode cX8_worthOf 20 = .ok (.iload_n 1, 1) := by decide +kernel
theorem dX8_worthOf_21 : decode cX8_worthOf 21 = .ok (.iload_n 2, 1) := by decide +kernel
theorem dX8_worthOf_22 : decode cX8_worthOf 22 = .ok (.invokevirtual 197, 3) := by decide +kernel
theorem dX8_worthOf_25 : decode cX8_worthOf 25 = .ok (.isub, 1) := by decide +kernel
theorem dX8_worthOf_26 : decode cX8_worthOf 26 = .ok (.imul, 1) := by decide +kernel
theorem dX8_worthOf_27 : decode cX8_worthOf 27 = .ok (.ireturn, 1) := by decide +kernel
theorem dX8_worthInHand_0 : decode cX8_worthInHand 0 = .ok (.iconst 0, 1) := by decide +kernel
theorem dX8_worthInHand_1 : decode cX8_worthInHand 1 = .ok (.istore_n 1, 1) := by decide +kernel
theorem dX8_worthInHand_2 : decode cX8_worthInHand 2 = .ok (.iconst 0, 1) := by decide +kernel
theorem dX8_worthInHand_3 : decode cX8_worthInHand 3 = .ok (.istore_n 2, 1) := by decide +kernel
theorem dX8_worthInHand_4 : decode cX8_worthInHand 4 = .ok (.iload_n 2, 1) := by decide +kernel
theorem dX8_worthInHand_5 : decode cX8_worthInHand 5 = .ok (.aload_n 0, 1) := by decide +kernel
theorem dX8_worthInHand_6 : decode cX8_worthInHand 6 = .ok (.getfield 88, 3) := by decide +kernel
theorem dX8_worthInHand_9 : decode cX8_worthInHand 9 = .ok (.if_icmp .ge 23, 3) := by decide +kernel
theorem dX8_worthInHand_12 : decode cX8_worthInHand 12 = .ok (.iload_n 1, 1) := by decide +kernel
theorem dX8_worthInHand_13 : decode cX8_worthInHand 13 = .ok (.aload_n 0, 1) := by decide +kernel
theorem dX8_worthInHand_14 : decode cX8_worthInHand 14 = .ok (.iload_n 2, 1) := by decide +kernel
theorem dX8_worthInHand_15 : decode cX8_worthInHand 15 = .ok (.aload_n 0, 1) := by decide +kernel
theorem dX8_worthInHand_16 : decode cX8_worthInHand 16 = .ok (.getfield 28, 3) := by decide +kernel
theorem dX8_worthInHand_19 : decode cX8_worthInHand 19 = .ok (.iload_n 2, 1) := by decide +kernel
theorem dX8_worthInHand_20 : decode cX8_worthInHand 20 = .ok (.iaload, 1) := by decide +kernel
theorem dX8_worthInHand_21 : decode cX8_worthInHand 21 = .ok (.invokevirtual 221, 3) := by decide +kernel
theorem dX8_worthInHand_24 : decode cX8_worthInHand 24 = .ok (.iadd, 1) := by decide +kernel
theorem dX8_worthInHand_25 : decode cX8_worthInHand 25 = .ok (.istore_n 1, 1) := by decide +kernel
theorem dX8_worthInHand_26 : decode cX8_worthInHand 26 = .ok (.iinc 2 1, 3) := by decide +kernel
theorem dX8_worthInHand_29 : decode cX8_worthInHand 29 = .ok (.goto (-25), 3) := by decide +kernel
theorem dX8_worthInHand_32 : decode cX8_worthInHand 32 = .ok (.iload_n 1, 1) := by decide +kernel
theorem dX8_worthInHand_33 : decode cX8_worthInHand 33 = .ok (.ireturn, 1) := by decide +kernel
theorem dX8_worth_0 : decode cX8_worth 0 = .ok (.aload_n 0, 1) := by decide +kernel
theorem dX8_worth_1 : decode cX8_worth 1 = .ok (.iconst 0, 1) := by decide +kernel
theorem dX8_worth_2 : decode cX8_worth 2 = .ok (.putfield 78, 3) := by decide +kernel
theorem dX8_worth_5 : decode cX8_worth 5 = .ok (.aload_n 0, 1) := by decide +kernel
theorem dX8_worth_6 : decode cX8_worth 6 = .ok (.invokevirtual 224, 3) := by decide +kernel
theorem dX8_worth_9 : decode cX8_worth 9 = .ok (.ireturn, 1) := by decide +kernel
theorem dX8_fits_0 : decode cX8_fits 0 = .ok (.iconst 0, 1) := by decide +kernel
theorem dX8_fits_1 : decode cX8_fits 1 = .ok (.istore_n 3, 1) := by decide +kernel
theorem dX8_fits_2 : decode cX8_fits 2 = .ok (.iload_n 3, 1) := by decide +kernel
theorem dX8_fits_3 : decode cX8_fits 3 = .ok (.iload_n 1, 1) := by decide +kernel
theorem dX8_fits_4 : decode cX8_fits 4 = .ok (.if_icmp .ge 49, 3) := by decide +kernel
theorem dX8_fits_7 : decode cX8_fits 7 = .ok (.aload_n 0, 1) := by decide +kernel
theorem dX8_fits_8 : decode cX8_fits 8 = .ok (.getfield 57, 3) := by decide +kernel
theorem dX8_fits_11 : decode cX8_fits 11 = .ok (.iload_n 3, 1) := by decide +kernel
theorem dX8_fits_12 : decode cX8_fits 12 = .ok (.iaload, 1) := by decide +kernel
theorem dX8_fits_13 : decode cX8_fits 13 = .ok (.bipush 16, 2) := by decide +kernel
theorem dX8_fits_15 : decode cX8_fits 15 = .ok (.if_icmp .eq 32, 3) := by decide +kernel
theorem dX8_fits_18 : decode cX8_fits 18 = .ok (.aload_n 0, 1) := by decide +kernel
theorem dX8_fits_19 : decode cX8_fits 19 = .ok (.aload_n 0, 1) := by decide +kernel
theorem dX8_fits_20 : decode cX8_fits 20 = .ok (.getfield 54, 3) := by decide +kernel
theorem dX8_fits_23 : decode cX8_fits 23 = .ok (.iload_n 1, 1) := by decide +kernel
theorem dX8_fits_24 : decode cX8_fits 24 = .ok (.iaload, 1) := by decide +kernel
theorem dX8_fits_25 : decode cX8_fits 25 = .ok (.iload_n 2, 1) := by decide +kernel
theorem dX8_fits_26 : decode cX8_fits 26 = .ok (.aload_n 0, 1) := by decide +kernel
theorem dX8_fits_27 : decode cX8_fits 27 = .ok (.getfield 54, 3) := by decide +kernel
theorem dX8_fits_30 : decode cX8_fits 30 = .ok (.iload_n 3, 1) := by decide +kernel
theorem dX8_fits_31 : decode cX8_fits 31 = .ok (.iaload, 1) := by decide +kernel
theorem dX8_fits_32 : decode cX8_fits 32 = .ok (.aload_n 0, 1) := by decide +kernel
theorem dX8_fits_33 : decode cX8_fits 33 = .ok (.getfield 57, 3) := by decide +kernel
theorem dX8_fits_36 : decode cX8_fits 36 = .ok (.iload_n 3, 1) := by decide +kernel
theorem dX8_fits_37 : decode cX8_fits 37 = .ok (.iaload, 1) := by decide +kernel
theorem dX8_fits_38 : decode cX8_fits 38 = .ok (.iconst 0, 1) := by decide +kernel
theorem dX8_fits_39 : decode cX8_fits 39 = .ok (.invokevirtual 204, 3) := by decide +kernel
theorem dX8_fits_42 : decode cX8_fits 42 = .ok (.ifCond .eq 5, 3) := by decide +kernel
theorem dX8_fits_45 : decode cX8_fits 45 = .ok (.iconst 0, 1) := by decide +kernel
theorem dX8_fits_46 : decode cX8_fits 46 = .ok (.ireturn, 1) := by decide +kernel
theorem dX8_fits_47 : decode cX8_fits 47 = .ok (.iinc 3 1, 3) := by decide +kernel
theorem dX8_fits_50 : decode cX8_fits 50 = .ok (.goto (-48), 3) := by decide +kernel
theorem dX8_fits_53 : decode cX8_fits 53 = .ok (.iconst 1, 1) := by decide +kernel
theorem dX8_fits_54 : decode cX8_fits 54 = .ok (.ireturn, 1) := by decide +kernel
theorem dX8_tryFrom_0 : decode cX8_tryFrom 0 = .ok (.iload_n 1, 1) := by decide +kernel
theorem dX8_tryFrom_1 : decode cX8_tryFrom 1 = .ok (.aload_n 0, 1) := by decide +kernel
theorem dX8_tryFrom_2 : decode cX8_tryFrom 2 = .ok (.getfield 227, 3) := by decide +kernel
theorem dX8_tryFrom_5 : decode cX8_tryFrom 5 = .ok (.if_icmp .ne 45, 3) := by decide +kernel
theorem dX8_tryFrom_8 : decode cX8_tryFrom 8 = .ok (.iload_n 2, 1) := by decide +kernel
theorem dX8_tryFrom_9 : decode cX8_tryFrom 9 = .ok (.aload_n 0, 1) := by decide +kernel
theorem dX8_tryFrom_10 : decode cX8_tryFrom 10 = .ok (.getfield 230, 3) := by decide +kernel
theorem dX8_tryFrom_13 : decode cX8_tryFrom 13 = .ok (.if_icmp .le 36, 3) := by decide +kernel
theorem dX8_tryFrom_16 : decode cX8_tryFrom 16 = .ok (.aload_n 0, 1) := by decide +kernel
theorem dX8_tryFrom_17 : decode cX8_tryFrom 17 = .ok (.iload_n 2, 1) := by decide +kernel
theorem dX8_tryFrom_18 : decode cX8_tryFrom 18 = .ok (.putfield 230, 3) := by decide +kernel
theorem dX8_tryFrom_21 : decode cX8_tryFrom 21 = .ok (.iconst 0, 1) := by decide +kernel
theorem dX8_tryFrom_22 : decode cX8_tryFrom 22 = .ok (.istore_n 3, 1) := by decide +kernel
theorem dX8_tryFrom_23 : decode cX8_tryFrom 23 = .ok (.iload_n 3, 1) := by decide +kernel
theorem dX8_tryFrom_24 : decode cX8_tryFrom 24 = .ok (.aload_n 0, 1) := by decide +kernel
theorem dX8_tryFrom_25 : decode cX8_tryFrom 25 = .ok (.getfield 227, 3) := by decide +kernel
theorem dX8_tryFrom_28 : decode cX8_tryFrom 28 = .ok (.if_icmp .ge 21, 3) := by decide +kernel
theorem dX8_tryFrom_31 : decode cX8_tryFrom 31 = .ok (.aload_n 0, 1) := by decide +kernel
theorem dX8_tryFrom_32 : decode cX8_tryFrom 32 = .ok (.getfield 60, 3) := by decide +kernel
theorem dX8_tryFrom_35 : decode cX8_tryFrom 35 = .ok (.iload_n 3, 1) := by decide +kernel
theorem dX8_tryFrom_36 : decode cX8_tryFrom 36 = .ok (.aload_n 0, 1) := by decide +kernel
theorem dX8_tryFrom_37 : decode cX8_tryFrom 37 = .ok (.getfield 57, 3) := by decide +kernel
theorem dX8_tryFrom_40 : decode cX8_tryFrom 40 = .ok (.iload_n 3, 1) := by decide +kernel
theorem dX8_tryFrom_41 : decode cX8_tryFrom 41 = .ok (.iaload, 1) := by decide +kernel
theorem dX8_tryFrom_42 : decode cX8_tryFrom 42 = .ok (.iastore, 1) := by decide +kernel
theorem dX8_tryFrom_43 : decode cX8_tryFrom 43 = .ok (.iinc 3 1, 3) := by decide +kernel
theorem dX8_tryFrom_46 : decode cX8_tryFrom 46 = .ok (.goto (-23), 3) := by decide +kernel
theorem dX8_tryFrom_49 : decode cX8_tryFrom 49 = .ok (.return_, 1) := by decide +kernel
theorem dX8_tryFrom_50 : decode cX8_tryFrom 50 = .ok (.iload_n 2, 1) := by decide +kernel
theorem dX8_tryFrom_51 : decode cX8_tryFrom 51 = .ok (.aload_n 0, 1) := by decide +kernel
theorem dX8_tryFrom_52 : decode cX8_tryFrom 52 = .ok (.getfield 63, 3) := by decide +kernel
theorem dX8_tryFrom_55 : decode cX8_tryFrom 55 = .ok (.iload_n 1, 1) := by decide +kernel
theorem dX8_tryFrom_56 : decode cX8_tryFrom 56 = .ok (.iaload, 1) := by decide +kernel
theorem dX8_tryFrom_57 : decode cX8_tryFrom 57 = .ok (.iadd, 1) := by decide +kernel
theorem dX8_tryFrom_58 : decode cX8_tryFrom 58 = .ok (.aload_n 0, 1) := by decide +kernel
theorem dX8_tryFrom_59 : decode cX8_tryFrom 59 = .ok (.getfield 230, 3) := by decide +kernel
theorem dX8_tryFrom_62 : decode cX8_tryFrom 62 = .ok (.if_icmp .gt 4, 3) := by decide +kernel
theorem dX8_tryFrom_65 : decode cX8_tryFrom 65 = .ok (.return_, 1) := by decide +kernel
theorem dX8_tryFrom_66 : decode cX8_tryFrom 66 = .ok (.aload_n 0, 1) := by decide +kernel
theorem dX8_tryFrom_67 : decode cX8_tryFrom 67 = .ok (.getfield 54, 3) := by decide +kernel
theorem dX8_tryFrom_70 : decode cX8_tryFrom 70 = .ok (.iload_n 1, 1) := by decide +kernel
theorem dX8_tryFrom_71 : decode cX8_tryFrom 71 = .ok (.iaload, 1) := by decide +kernel
theorem dX8_tryFrom_72 : decode cX8_tryFrom 72 = .ok (.istore_n 3, 1) := by decide +kernel
theorem dX8_tryFrom_73 : decode cX8_tryFrom 73 = .ok (.iconst 0, 1) := by decide +kernel
theorem dX8_tryFrom_74 : decode cX8_tryFrom 74 = .ok (.istore 4, 2) := by decide +kernel
theorem dX8_tryFrom_76 : decode cX8_tryFrom 76 = .ok (.iload 4, 2) := by decide +kernel
theorem dX8_tryFrom_78 : decode cX8_tryFrom 78 = .ok (.bipush 16, 2) := by decide +kernel
theorem dX8_tryFrom_80 : decode cX8_tryFrom 80 = .ok (.if_icmp .ge 58, 3) := by decide +kernel
theorem dX8_tryFrom_83 : decode cX8_tryFrom 83 = .ok (.aload_n 0, 1) := by decide +kernel
theorem dX8_tryFrom_84 : decode cX8_tryFrom 84 = .ok (.getfield 50, 3) := by decide +kernel
theorem dX8_tryFrom_87 : decode cX8_tryFrom 87 = .ok (.bipush 16, 2) := by decide +kernel
theorem dX8_tryFrom_89 : decode cX8_tryFrom 89 = .ok (.iload_n 3, 1) := by decide +kernel
theorem dX8_tryFrom_90 : decode cX8_tryFrom 90 = .ok (.imul, 1) := by decide +kernel
theorem dX8_tryFrom_91 : decode cX8_tryFrom 91 = .ok (.iload 4, 2) := by decide +kernel
theorem dX8_tryFrom_93 : decode cX8_tryFrom 93 = .ok (.iadd, 1) := by decide +kernel
theorem dX8_tryFrom_94 : decode cX8_tryFrom 94 = .ok (.baload, 1) := by decide +kernel
theorem dX8_tryFrom_95 : decode cX8_tryFrom 95 = .ok (.ifCond .eq 37, 3) := by decide +kernel
theorem dX8_tryFrom_98 : decode cX8_tryFrom 98 = .ok (.aload_n 0, 1) := by decide +kernel
theorem dX8_tryFrom_99 : decode cX8_tryFrom 99 = .ok (.iload_n 1, 1) := by decide +kernel
theorem dX8_tryFrom_100 : decode cX8_tryFrom 100 = .ok (.iload 4, 2) := by decide +kernel
theorem dX8_tryFrom_102 : decode cX8_tryFrom 102 = .ok (.invokevirtual 233, 3) := by decide +kernel
theorem dX8_tryFrom_105 : decode cX8_tryFrom 105 = .ok (.ifCond .eq 27, 3) := by decide +kernel
theorem dX8_tryFrom_108 : decode cX8_tryFrom 108 = .ok (.aload_n 0, 1) := by decide +kernel
theorem dX8_tryFrom_109 : decode cX8_tryFrom 109 = .ok (.getfield 57, 3) := by decide +kernel
theorem dX8_tryFrom_112 : decode cX8_tryFrom 112 = .ok (.iload_n 1, 1) := by decide +kernel
theorem dX8_tryFrom_113 : decode cX8_tryFrom 113 = .ok (.iload 4, 2) := by decide +kernel
theorem dX8_tryFrom_115 : decode cX8_tryFrom 115 = .ok (.iastore, 1) := by decide +kernel
theorem dX8_tryFrom_116 : decode cX8_tryFrom 116 = .ok (.aload_n 0, 1) := by decide +kernel
theorem dX8_tryFrom_117 : decode cX8_tryFrom 117 = .ok (.iload_n 1, 1) := by decide +kernel
theorem dX8_tryFrom_118 : decode cX8_tryFrom 118 = .ok (.iconst 1, 1) := by decide +kernel
theorem dX8_tryFrom_119 : decode cX8_tryFrom 119 = .ok (.iadd, 1) := by decide +kernel
theorem dX8_tryFrom_120 : decode cX8_tryFrom 120 = .ok (.iload_n 2, 1) := by decide +kernel
theorem dX8_tryFrom_121 : decode cX8_tryFrom 121 = .ok (.aload_n 0, 1) := by decide +kernel
theorem dX8_tryFrom_122 : decode cX8_tryFrom 122 = .ok (.iload_n 3, 1) := by decide +kernel
theorem dX8_tryFrom_123 : decode cX8_tryFrom 123 = .ok (.iload 4, 2) := by decide +kernel
theorem dX8_tryFrom_125 : decode cX8_tryFrom 125 = .ok (.invokevirtual 221, 3) := by decide +kernel
theorem dX8_tryFrom_128 : decode cX8_tryFrom 128 = .ok (.iadd, 1) := by decide +kernel
theorem dX8_tryFrom_129 : decode cX8_tryFrom 129 = .ok (.invokevirtual 236, 3) := by decide +kernel
theorem dX8_tryFrom_132 : decode cX8_tryFrom 132 = .ok (.iinc 4 1, 3) := by decide +kernel
theorem dX8_tryFrom_135 : decode cX8_tryFrom 135 = .ok (.goto (-59), 3) := by decide +kernel
theorem dX8_tryFrom_138 : decode cX8_tryFrom 138 = .ok (.aload_n 0, 1) := by decide +kernel
theorem dX8_tryFrom_139 : decode cX8_tryFrom 139 = .ok (.getfield 7, 3) := by decide +kernel
theorem dX8_tryFrom_142 : decode cX8_tryFrom 142 = .ok (.iload_n 3, 1) := by decide +kernel
theorem dX8_tryFrom_143 : decode cX8_tryFrom 143 = .ok (.iaload, 1) := by decide +kernel
theorem dX8_tryFrom_144 : decode cX8_tryFrom 144 = .ok (.iconst 3, 1) := by decide +kernel
theorem dX8_tryFrom_145 : decode cX8_tryFrom 145 = .ok (.if_icmp .eq 19, 3) := by decide +kernel
theorem dX8_tryFrom_148 : decode cX8_tryFrom 148 = .ok (.aload_n 0, 1) := by decide +kernel
theorem dX8_tryFrom_149 : decode cX8_tryFrom 149 = .ok (.getfield 57, 3) := by decide +kernel
theorem dX8_tryFrom_152 : decode cX8_tryFrom 152 = .ok (.iload_n 1, 1) := by decide +kernel
theorem dX8_tryFrom_153 : decode cX8_tryFrom 153 = .ok (.bipush 16, 2) := by decide +kernel
theorem dX8_tryFrom_155 : decode cX8_tryFrom 155 = .ok (.iastore, 1) := by decide +kernel
theorem dX8_tryFrom_156 : decode cX8_tryFrom 156 = .ok (.aload_n 0, 1) := by decide +kernel
theorem dX8_tryFrom_157 : decode cX8_tryFrom 157 = .ok (.iload_n 1, 1) := by decide +kernel
theorem dX8_tryFrom_158 : decode cX8_tryFrom 158 = .ok (.iconst 1, 1) := by decide +kernel
theorem dX8_tryFrom_159 : decode cX8_tryFrom 159 = .ok (.iadd, 1) := by decide +kernel
theorem dX8_tryFrom_160 : decode cX8_tryFrom 160 = .ok (.iload_n 2, 1) := by decide +kernel
theorem dX8_tryFrom_161 : decode cX8_tryFrom 161 = .ok (.invokevirtual 236, 3) := by decide +kernel
theorem dX8_tryFrom_164 : decode cX8_tryFrom 164 = .ok (.return_, 1) := by decide +kernel
theorem dX8_bestOf_0 : decode cX8_bestOf 0 = .ok (.aload_n 0, 1) := by decide +kernel
theorem dX8_bestOf_1 : decode cX8_bestOf 1 = .ok (.iconst 0, 1) := by decide +kernel
theorem dX8_bestOf_2 : decode cX8_bestOf 2 = .ok (.putfield 227, 3) := by decide +kernel
theorem dX8_bestOf_5 : decode cX8_bestOf 5 = .ok (.iconst 0, 1) := by decide +kernel
theorem dX8_bestOf_6 : decode cX8_bestOf 6 = .ok (.istore_n 2, 1) := by decide +kernel
theorem dX8_bestOf_7 : decode cX8_bestOf 7 = .ok (.iload_n 2, 1) := by decide +kernel
theorem dX8_bestOf_8 : decode cX8_bestOf 8 = .ok (.aload_n 0, 1) := by decide +kernel
theorem dX8_bestOf_9 : decode cX8_bestOf 9 = .ok (.getfield 88, 3) := by decide +kernel
theorem dX8_bestOf_12 : decode cX8_bestOf 12 = .ok (.if_icmp .ge 39, 3) := by decide +kernel
theorem dX8_bestOf_15 : decode cX8_bestOf 15 = .ok (.aload_n 0, 1) := by decide +kernel
theorem dX8_bestOf_16 : decode cX8_bestOf 16 = .ok (.getfield 47, 3) := by decide +kernel
theorem dX8_bestOf_19 : decode cX8_bestOf 19 = .ok (.iload_n 2, 1) := by decide +kernel
theorem dX8_bestOf_20 : decode cX8_bestOf 20 = .ok (.iaload, 1) := by decide +kernel
theorem dX8_bestOf_21 : decode cX8_bestOf 21 = .ok (.iload_n 1, 1) := by decide +kernel
theorem dX8_bestOf_22 : decode cX8_bestOf 22 = .ok (.if_icmp .ne 23, 3) := by decide +kernel
theorem dX8_bestOf_25 : decode cX8_bestOf 25 = .ok (.aload_n 0, 1) := by decide +kernel
theorem dX8_bestOf_26 : decode cX8_bestOf 26 = .ok (.getfield 54, 3) := by decide +kernel
theorem dX8_bestOf_29 : decode cX8_bestOf 29 = .ok (.aload_n 0, 1) := by decide +kernel
theorem dX8_bestOf_30 : decode cX8_bestOf 30 = .ok (.getfield 227, 3) := by decide +kernel
theorem dX8_bestOf_33 : decode cX8_bestOf 33 = .ok (.iload_n 2, 1) := by decide +kernel
theorem dX8_bestOf_34 : decode cX8_bestOf 34 = .ok (.iastore, 1) := by decide +kernel
theorem dX8_bestOf_35 : decode cX8_bestOf 35 = .ok (.aload_n 0, 1) := by decide +kernel
theorem dX8_bestOf_36 : decode cX8_bestOf 36 = .ok (.dup, 1) := by decide +kernel
theorem dX8_bestOf_37 : decode cX8_bestOf 37 = .ok (.getfield 227, 3) := by decide +kernel
theorem dX8_bestOf_40 : decode cX8_bestOf 40 = .ok (.iconst 1, 1) := by decide +kernel
theorem dX8_bestOf_41 : decode cX8_bestOf 41 = .ok (.iadd, 1) := by decide +kernel
theorem dX8_bestOf_42 : decode cX8_bestOf 42 = .ok (.putfield 227, 3) := by decide +kernel
theorem dX8_bestOf_45 : decode cX8_bestOf 45 = .ok (.iinc 2 1, 3) := by decide +kernel
theorem dX8_bestOf_48 : decode cX8_bestOf 48 = .ok (.goto (-41), 3) := by decide +kernel
theorem dX8_bestOf_51 : decode cX8_bestOf 51 = .ok (.aload_n 0, 1) := by decide +kernel
theorem dX8_bestOf_52 : decode cX8_bestOf 52 = .ok (.getfield 63, 3) := by decide +kernel
theorem dX8_bestOf_55 : decode cX8_bestOf 55 = .ok (.aload_n 0, 1) := by decide +kernel
theorem dX8_bestOf_56 : decode cX8_bestOf 56 = .ok (.getfield 227, 3) := by decide +kernel
theorem dX8_bestOf_59 : decode cX8_bestOf 59 = .ok (.iconst 0, 1) := by decide +kernel
theorem dX8_bestOf_60 : decode cX8_bestOf 60 = .ok (.iastore, 1) := by decide +kernel
theorem dX8_bestOf_61 : decode cX8_bestOf 61 = .ok (.aload_n 0, 1) := by decide +kernel
theorem dX8_bestOf_62 : decode cX8_bestOf 62 = .ok (.getfield 227, 3) := by decide +kernel
theorem dX8_bestOf_65 : decode cX8_bestOf 65 = .ok (.iconst 1, 1) := by decide +kernel
theorem dX8_bestOf_66 : decode cX8_bestOf 66 = .ok (.isub, 1) := by decide +kernel
theorem dX8_bestOf_67 : decode cX8_bestOf 67 = .ok (.istore_n 2, 1) := by decide +kernel
theorem dX8_bestOf_68 : decode cX8_bestOf 68 = .ok (.iload_n 2, 1) := by decide +kernel
theorem dX8_bestOf_69 : decode cX8_bestOf 69 = .ok (.ifCond .lt 94, 3) := by decide +kernel
theorem dX8_bestOf_72 : decode cX8_bestOf 72 = .ok (.iconst 0, 1) := by decide +kernel
theorem dX8_bestOf_73 : decode cX8_bestOf 73 = .ok (.istore_n 3, 1) := by decide +kernel
theorem dX8_bestOf_74 : decode cX8_bestOf 74 = .ok (.iconst 0, 1) := by decide +kernel
theorem dX8_bestOf_75 : decode cX8_bestOf 75 = .ok (.istore 4, 2) := by decide +kernel
theorem dX8_bestOf_77 : decode cX8_bestOf 77 = .ok (.iload 4, 2) := by decide +kernel
theorem dX8_bestOf_79 : decode cX8_bestOf 79 = .ok (.bipush 16, 2) := by decide +kernel
theorem dX8_bestOf_81 : decode cX8_bestOf 81 = .ok (.if_icmp .ge 60, 3) := by decide +kernel
theorem dX8_bestOf_84 : decode cX8_bestOf 84 = .ok (.aload_n 0, 1) := by decide +kernel
theorem dX8_bestOf_85 : decode cX8_bestOf 85 = .ok (.getfield 50, 3) := by decide +kernel
theorem dX8_bestOf_88 : decode cX8_bestOf 88 = .ok (.bipush 16, 2) := by decide +kernel
theorem dX8_bestOf_90 : decode cX8_bestOf 90 = .ok (.aload_n 0, 1) := by decide +kernel
theorem dX8_bestOf_91 : decode cX8_bestOf 91 = .ok (.getfield 54, 3) := by decide +kernel
theorem dX8_bestOf_94 : decode cX8_bestOf 94 = .ok (.iload_n 2, 1) := by decide +kernel
theorem dX8_bestOf_95 : decode cX8_bestOf 95 = .ok (.iaload, 1) := by decide +kernel
theorem dX8_bestOf_96 : decode cX8_bestOf 96 = .ok (.imul, 1) := by decide +kernel
theorem dX8_bestOf_97 : decode cX8_bestOf 97 = .ok (.iload 4, 2) := by decide +kernel
theorem dX8_bestOf_99 : decode cX8_bestOf 99 = .ok (.iadd, 1) := by decide +kernel
theorem dX8_bestOf_100 : decode cX8_bestOf 100 = .ok (.baload, 1) := by decide +kernel
theorem dX8_bestOf_101 : decode cX8_bestOf 101 = .ok (.ifCond .eq 18, 3) := by decide +kernel
theorem dX8_bestOf_104 : decode cX8_bestOf 104 = .ok (.aload_n 0, 1) := by decide +kernel
theorem dX8_bestOf_105 : decode cX8_bestOf 105 = .ok (.aload_n 0, 1) := by decide +kernel
theorem dX8_bestOf_106 : decode cX8_bestOf 106 = .ok (.getfield 54, 3) := by decide +kernel
theorem dX8_bestOf_109 : decode cX8_bestOf 109 = .ok (.iload_n 2, 1) := by decide +kernel
theorem dX8_bestOf_110 : decode cX8_bestOf 110 = .ok (.iaload, 1) := by decide +kernel
theorem dX8_bestOf_111 : decode cX8_bestOf 111 = .ok (.iload 4, 2) := by decide +kernel
theorem dX8_bestOf_113 : decode cX8_bestOf 113 = .ok (.invokevirtual 221, 3) := by decide +kernel
theorem dX8_bestOf_116 : decode cX8_bestOf 116 = .ok (.goto 4, 3) := by decide +kernel
theorem dX8_bestOf_119 : decode cX8_bestOf 119 = .ok (.iconst 0, 1) := by decide +kernel
theorem dX8_bestOf_120 : decode cX8_bestOf 120 = .ok (.istore 5, 2) := by decide +kernel
theorem dX8_bestOf_122 : decode cX8_bestOf 122 = .ok (.iload 5, 2) := by decide +kernel
theorem dX8_bestOf_124 : decode cX8_bestOf 124 = .ok (.iload_n 3, 1) := by decide +kernel
theorem dX8_bestOf_125 : decode cX8_bestOf 125 = .ok (.if_icmp .le 8, 3) := by decide +kernel
theorem dX8_bestOf_128 : decode cX8_bestOf 128 = .ok (.iload 5, 2) := by decide +kernel
theorem dX8_bestOf_130 : decode cX8_bestOf 130 = .ok (.goto 4, 3) := by decide +kernel
theorem dX8_bestOf_133 : decode cX8_bestOf 133 = .ok (.iload_n 3, 1) := by decide +kernel
theorem dX8_bestOf_134 : decode cX8_bestOf 134 = .ok (.istore_n 3, 1) := by decide +kernel
theorem dX8_bestOf_135 : decode cX8_bestOf 135 = .ok (.iinc 4 1, 3) := by decide +kernel
theorem dX8_bestOf_138 : decode cX8_bestOf 138 = .ok (.goto (-61), 3) := by decide +kernel
theorem dX8_bestOf_141 : decode cX8_bestOf 141 = .ok (.aload_n 0, 1) := by decide +kernel
theorem dX8_bestOf_142 : decode cX8_bestOf 142 = .ok (.getfield 63, 3) := by decide +kernel
theorem dX8_bestOf_145 : decode cX8_bestOf 145 = .ok (.iload_n 2, 1) := by decide +kernel
theorem dX8_bestOf_146 : decode cX8_bestOf 146 = .ok (.aload_n 0, 1) := by decide +kernel
theorem dX8_bestOf_147 : decode cX8_bestOf 147 = .ok (.getfield 63, 3) := by decide +kernel
theorem dX8_bestOf_150 : decode cX8_bestOf 150 = .ok (.iload_n 2, 1) := by decide +kernel
theorem dX8_bestOf_151 : decode cX8_bestOf 151 = .ok (.iconst 1, 1) := by decide +kernel
theorem dX8_bestOf_152 : decode cX8_bestOf 152 = .ok (.iadd, 1) := by decide +kernel
theorem dX8_bestOf_153 : decode cX8_bestOf 153 = .ok (.iaload, 1) := by decide +kernel
theorem dX8_bestOf_154 : decode cX8_bestOf 154 = .ok (.iload_n 3, 1) := by decide +kernel
theorem dX8_bestOf_155 : decode cX8_bestOf 155 = .ok (.iadd, 1) := by decide +kernel
theorem dX8_bestOf_156 : decode cX8_bestOf 156 = .ok (.iastore, 1) := by decide +kernel
theorem dX8_bestOf_157 : decode cX8_bestOf 157 = .ok (.iinc 2 (-1), 3) := by decide +kernel
theorem dX8_bestOf_160 : decode cX8_bestOf 160 = .ok (.goto (-92), 3) := by decide +kernel
theorem dX8_bestOf_163 : decode cX8_bestOf 163 = .ok (.aload_n 0, 1) := by decide +kernel
theorem dX8_bestOf_164 : decode cX8_bestOf 164 = .ok (.iconst (-1), 1) := by decide +kernel
theorem dX8_bestOf_165 : decode cX8_bestOf 165 = .ok (.putfield 230, 3) := by decide +kernel
theorem dX8_bestOf_168 : decode cX8_bestOf 168 = .ok (.aload_n 0, 1) := by decide +kernel
theorem dX8_bestOf_169 : decode cX8_bestOf 169 = .ok (.iconst 0, 1) := by decide +kernel
theorem dX8_bestOf_170 : decode cX8_bestOf 170 = .ok (.iconst 0, 1) := by decide +kernel
theorem dX8_bestOf_171 : decode cX8_bestOf 171 = .ok (.invokevirtual 236, 3) := by decide +kernel
theorem dX8_bestOf_174 : decode cX8_bestOf 174 = .ok (.aload_n 0, 1) := by decide +kernel
theorem dX8_bestOf_175 : decode cX8_bestOf 175 = .ok (.getfield 230, 3) := by decide +kernel
theorem dX8_bestOf_178 : decode cX8_bestOf 178 = .ok (.ifCond .lt 7, 3) := by decide +kernel
theorem dX8_bestOf_181 : decode cX8_bestOf 181 = .ok (.iconst 1, 1) := by decide +kernel
theorem dX8_bestOf_182 : decode cX8_bestOf 182 = .ok (.goto 4, 3) := by decide +kernel
theorem dX8_bestOf_185 : decode cX8_bestOf 185 = .ok (.iconst 0, 1) := by decide +kernel
theorem dX8_bestOf_186 : decode cX8_bestOf 186 = .ok (.ireturn, 1) := by decide +kernel
theorem dX8_best_0 : decode cX8_best 0 = .ok (.aload_n 0, 1) := by decide +kernel
theorem dX8_best_1 : decode cX8_best 1 = .ok (.iconst 0, 1) := by decide +kernel
theorem dX8_best_2 : decode cX8_best 2 = .ok (.putfield 78, 3) := by decide +kernel
theorem dX8_best_5 : decode cX8_best 5 = .ok (.aload_n 0, 1) := by decide +kernel
theorem dX8_best_6 : decode cX8_best 6 = .ok (.invokevirtual 240, 3) := by decide +kernel
theorem dX8_best_9 : decode cX8_best 9 = .ok (.bipush 7, 2) := by decide +kernel
theorem dX8_best_11 : decode cX8_best 11 = .ok (.if_icmp .le 6, 3) := by decide +kernel
theorem dX8_best_14 : decode cX8_best 14 = .ok (.bipush (-6), 2) := by decide +kernel
theorem dX8_best_16 : decode cX8_best 16 = .ok (.ireturn, 1) := by decide +kernel
theorem dX8_best_17 : decode cX8_best 17 = .ok (.aload_n 0, 1) := by decide +kernel
theorem dX8_best_18 : decode cX8_best 18 = .ok (.invokevirtual 214, 3) := by decide +kernel
theorem dX8_best_21 : decode cX8_best 21 = .ok (.istore_n 1, 1) := by decide +kernel
theorem dX8_best_22 : decode cX8_best 22 = .ok (.iconst 0, 1) := by decide +kernel
theorem dX8_best_23 : decode cX8_best 23 = .ok (.istore_n 2, 1) := by decide +kernel
theorem dX8_best_24 : decode cX8_best 24 = .ok (.iload_n 2, 1) := by decide +kernel
theorem dX8_best_25 : decode cX8_best 25 = .ok (.iload_n 1, 1) := by decide +kernel
theorem dX8_best_26 : decode cX8_best 26 = .ok (.if_icmp .ge 53, 3) := by decide +kernel
theorem dX8_best_29 : decode cX8_best 29 = .ok (.aload_n 0, 1) := by decide +kernel
theorem dX8_best_30 : decode cX8_best 30 = .ok (.iload_n 2, 1) := by decide +kernel
theorem dX8_best_31 : decode cX8_best 31 = .ok (.invokevirtual 243, 3) := by decide +kernel
theorem dX8_best_34 : decode cX8_best 34 = .ok (.ifCond .ne 6, 3) := by decide +kernel
theorem dX8_best_37 : decode cX8_best 37 = .ok (.bipush (-4), 2) := by decide +kernel
theorem dX8_best_39 : decode cX8_best 39 = .ok (.ireturn, 1) := by decide +kernel
theorem dX8_best_40 : decode cX8_best 40 = .ok (.iconst 0, 1) := by decide +kernel
theorem dX8_best_41 : decode cX8_best 41 = .ok (.istore_n 3, 1) := by decide +kernel
theorem dX8_best_42 : decode cX8_best 42 = .ok (.iload_n 3, 1) := by decide +kernel
theorem dX8_best_43 : decode cX8_best 43 = .ok (.aload_n 0, 1) := by decide +kernel
theorem dX8_best_44 : decode cX8_best 44 = .ok (.getfield 227, 3) := by decide +kernel
theorem dX8_best_47 : decode cX8_best 47 = .ok (.if_icmp .ge 26, 3) := by decide +kernel
theorem dX8_best_50 : decode cX8_best 50 = .ok (.aload_n 0, 1) := by decide +kernel
theorem dX8_best_51 : decode cX8_best 51 = .ok (.getfield 66, 3) := by decide +kernel
theorem dX8_best_54 : decode cX8_best 54 = .ok (.aload_n 0, 1) := by decide +kernel
theorem dX8_best_55 : decode cX8_best 55 = .ok (.getfield 54, 3) := by decide +kernel
theorem dX8_best_58 : decode cX8_best 58 = .ok (.iload_n 3, 1) := by decide +kernel
theorem dX8_best_59 : decode cX8_best 59 = .ok (.iaload, 1) := by decide +kernel
theorem dX8_best_60 : decode cX8_best 60 = .ok (.aload_n 0, 1) := by decide +kernel
theorem dX8_best_61 : decode cX8_best 61 = .ok (.getfield 60, 3) := by decide +kernel
theorem dX8_best_64 : decode cX8_best 64 = .ok (.iload_n 3, 1) := by decide +kernel
theorem dX8_best_65 : decode cX8_best 65 = .ok (.iaload, 1) := by decide +kernel
theorem dX8_best_66 : decode cX8_best 66 = .ok (.iastore, 1) := by decide +kernel
theorem dX8_best_67 : decode cX8_best 67 = .ok (.iinc 3 1, 3) := by decide +kernel
theorem dX8_best_70 : decode cX8_best 70 = .ok (.goto (-28), 3) := by decide +kernel
theorem dX8_best_73 : decode cX8_best 73 = .ok (.iinc 2 1, 3) := by decide +kernel
theorem dX8_best_76 : decode cX8_best 76 = .ok (.goto (-52), 3) := by decide +kernel
theorem dX8_best_79 : decode cX8_best 79 = .ok (.aload_n 0, 1) := by decide +kernel
theorem dX8_best_80 : decode cX8_best 80 = .ok (.invokevirtual 112, 3) := by decide +kernel
theorem dX8_best_83 : decode cX8_best 83 = .ok (.iconst 0, 1) := by decide +kernel
theorem dX8_best_84 : decode cX8_best 84 = .ok (.istore_n 2, 1) := by decide +kernel
theorem dX8_best_85 : decode cX8_best 85 = .ok (.iload_n 2, 1) := by decide +kernel
theorem dX8_best_86 : decode cX8_best 86 = .ok (.aload_n 0, 1) := by decide +kernel
theorem dX8_best_87 : decode cX8_best 87 = .ok (.getfield 88, 3) := by decide +kernel
theorem dX8_best_90 : decode cX8_best 90 = .ok (.if_icmp .ge 21, 3) := by decide +kernel
theorem dX8_best_93 : decode cX8_best 93 = .ok (.aload_n 0, 1) := by decide +kernel
theorem dX8_best_94 : decode cX8_best 94 = .ok (.getfield 28, 3) := by decide +kernel
theorem dX8_best_97 : decode cX8_best 97 = .ok (.iload_n 2, 1) := by decide +kernel
theorem dX8_best_98 : decode cX8_best 98 = .ok (.aload_n 0, 1) := by decide +kernel
theorem dX8_best_99 : decode cX8_best 99 = .ok (.getfield 66, 3) := by decide +kernel
theorem dX8_best_102 : decode cX8_best 102 = .ok (.iload_n 2, 1) := by decide +kernel
theorem dX8_best_103 : decode cX8_best 103 = .ok (.iaload, 1) := by decide +kernel
theorem dX8_best_104 : decode cX8_best 104 = .ok (.iastore, 1) := by decide +kernel
theorem dX8_best_105 : decode cX8_best 105 = .ok (.iinc 2 1, 3) := by decide +kernel
theorem dX8_best_108 : decode cX8_best 108 = .ok (.goto (-23), 3) := by decide +kernel
theorem dX8_best_111 : decode cX8_best 111 = .ok (.aload_n 0, 1) := by decide +kernel
theorem dX8_best_112 : decode cX8_best 112 = .ok (.invokevirtual 224, 3) := by decide +kernel
theorem dX8_best_115 : decode cX8_best 115 = .ok (.ireturn, 1) := by decide +kernel
theorem dX8_isAhead_0 : decode cX8_isAhead 0 = .ok (.aload_n 0, 1) := by decide +kernel
theorem dX8_isAhead_1 : decode cX8_isAhead 1 = .ok (.getfield 7, 3) := by decide +kernel
theorem dX8_isAhead_4 : decode cX8_isAhead 4 = .ok (.iload_n 1, 1) := by decide +kernel
theorem dX8_isAhead_5 : decode cX8_isAhead 5 = .ok (.iaload, 1) := by decide +kernel
theorem dX8_isAhead_6 : decode cX8_isAhead 6 = .ok (.iconst 3, 1) := by decide +kernel
theorem dX8_isAhead_7 : decode cX8_isAhead 7 = .ok (.if_icmp .ne 7, 3) := by decide +kernel
theorem dX8_isAhead_10 : decode cX8_isAhead 10 = .ok (.iconst 1, 1) := by decide +kernel
theorem dX8_isAhead_11 : decode cX8_isAhead 11 = .ok (.goto 4, 3) := by decide +kernel
theorem dX8_isAhead_14 : decode cX8_isAhead 14 = .ok (.iconst 0, 1) := by decide +kernel
theorem dX8_isAhead_15 : decode cX8_isAhead 15 = .ok (.istore_n 3, 1) := by decide +kernel
theorem dX8_isAhead_16 : decode cX8_isAhead 16 = .ok (.iload_n 3, 1) := by decide +kernel
theorem dX8_isAhead_17 : decode cX8_isAhead 17 = .ok (.aload_n 0, 1) := by decide +kernel
theorem dX8_isAhead_18 : decode cX8_isAhead 18 = .ok (.getfield 7, 3) := by decide +kernel
theorem dX8_isAhead_21 : decode cX8_isAhead 21 = .ok (.iload_n 2, 1) := by decide +kernel
theorem dX8_isAhead_22 : decode cX8_isAhead 22 = .ok (.iaload, 1) := by decide +kernel
theorem dX8_isAhead_23 : decode cX8_isAhead 23 = .ok (.iconst 3, 1) := by decide +kernel
theorem dX8_isAhead_24 : decode cX8_isAhead 24 = .ok (.if_icmp .ne 7, 3) := by decide +kernel
theorem dX8_isAhead_27 : decode cX8_isAhead 27 = .ok (.iconst 1, 1) := by decide +kernel
theorem dX8_isAhead_28 : decode cX8_isAhead 28 = .ok (.goto 4, 3) := by decide +kernel
theorem dX8_isAhead_31 : decode cX8_isAhead 31 = .ok (.iconst 0, 1) := by decide +kernel
theorem dX8_isAhead_32 : decode cX8_isAhead 32 = .ok (.if_icmp .eq 5, 3) := by decide +kernel
theorem dX8_isAhead_35 : decode cX8_isAhead 35 = .ok (.iload_n 3, 1) := by decide +kernel
theorem dX8_isAhead_36 : decode cX8_isAhead 36 = .ok (.ireturn, 1) := by decide +kernel
theorem dX8_isAhead_37 : decode cX8_isAhead 37 = .ok (.aload_n 0, 1) := by decide +kernel
theorem dX8_isAhead_38 : decode cX8_isAhead 38 = .ok (.getfield 25, 3) := by decide +kernel
theorem dX8_isAhead_41 : decode cX8_isAhead 41 = .ok (.iload_n 1, 1) := by decide +kernel
theorem dX8_isAhead_42 : decode cX8_isAhead 42 = .ok (.iaload, 1) := by decide +kernel
theorem dX8_isAhead_43 : decode cX8_isAhead 43 = .ok (.aload_n 0, 1) := by decide +kernel
theorem dX8_isAhead_44 : decode cX8_isAhead 44 = .ok (.getfield 25, 3) := by decide +kernel
theorem dX8_isAhead_47 : decode cX8_isAhead 47 = .ok (.iload_n 2, 1) := by decide +kernel
theorem dX8_isAhead_48 : decode cX8_isAhead 48 = .ok (.iaload, 1) := by decide +kernel
theorem dX8_isAhead_49 : decode cX8_isAhead 49 = .ok (.if_icmp .eq 26, 3) := by decide +kernel
theorem dX8_isAhead_52 : decode cX8_isAhead 52 = .ok (.aload_n 0, 1) := by decide +kernel
theorem dX8_isAhead_53 : decode cX8_isAhead 53 = .ok (.getfield 25, 3) := by decide +kernel
theorem dX8_isAhead_56 : decode cX8_isAhead 56 = .ok (.iload_n 1, 1) := by decide +kernel
theorem dX8_isAhead_57 : decode cX8_isAhead 57 = .ok (.iaload, 1) := by decide +kernel
theorem dX8_isAhead_58 : decode cX8_isAhead 58 = .ok (.aload_n 0, 1) := by decide +kernel
theorem dX8_isAhead_59 : decode cX8_isAhead 59 = .ok (.getfield 25, 3) := by decide +kernel
theorem dX8_isAhead_62 : decode cX8_isAhead 62 = .ok (.iload_n 2, 1) := by decide +kernel
theorem dX8_isAhead_63 : decode cX8_isAhead 63 = .ok (.iaload, 1) := by decide +kernel
theorem dX8_isAhead_64 : decode cX8_isAhead 64 = .ok (.if_icmp .le 7, 3) := by decide +kernel
theorem dX8_isAhead_67 : decode cX8_isAhead 67 = .ok (.iconst 1, 1) := by decide +kernel
theorem dX8_isAhead_68 : decode cX8_isAhead 68 = .ok (.goto 17, 3) := by decide +kernel
theorem dX8_isAhead_71 : decode cX8_isAhead 71 = .ok (.iconst 0, 1) := by decide +kernel
theorem dX8_isAhead_72 : decode cX8_isAhead 72 = .ok (.goto 13, 3) := by decide +kernel
theorem dX8_isAhead_75 : decode cX8_isAhead 75 = .ok (.iload_n 1, 1) := by decide +kernel
theorem dX8_isAhead_76 : decode cX8_isAhead 76 = .ok (.iload_n 2, 1) := by decide +kernel
theorem dX8_isAhead_77 : decode cX8_isAhead 77 = .ok (.if_icmp .ge 7, 3) := by decide +kernel
theorem dX8_isAhead_80 : decode cX8_isAhead 80 = .ok (.iconst 1, 1) := by decide +kernel
theorem dX8_isAhead_81 : decode cX8_isAhead 81 = .ok (.goto 4, 3) := by decide +kernel
theorem dX8_isAhead_84 : decode cX8_isAhead 84 = .ok (.iconst 0, 1) := by decide +kernel
theorem dX8_isAhead_85 : decode cX8_isAhead 85 = .ok (.ireturn, 1) := by decide +kernel
theorem dX8_findOrder_0 : decode cX8_findOrder 0 = .ok (.iconst 0, 1) := by decide +kernel
theorem dX8_findOrder_1 : decode cX8_findOrder 1 = .ok (.istore_n 1, 1) := by decide +kernel
theorem dX8_findOrder_2 : decode cX8_findOrder 2 = .ok (.iload_n 1, 1) := by decide +kernel
theorem dX8_findOrder_3 : decode cX8_findOrder 3 = .ok (.aload_n 0, 1) := by decide +kernel
theorem dX8_findOrder_4 : decode cX8_findOrder 4 = .ok (.getfield 88, 3) := by decide +kernel
theorem dX8_findOrder_7 : decode cX8_findOrder 7 = .ok (.if_icmp .ge 58, 3) := by decide +kernel
theorem dX8_findOrder_10 : decode cX8_findOrder 10 = .ok (.iload_n 1, 1) := by decide +kernel
theorem dX8_findOrder_11 : decode cX8_findOrder 11 = .ok (.istore_n 2, 1) := by decide +kernel
theorem dX8_findOrder_12 : decode cX8_findOrder 12 = .ok (.iload_n 2, 1) := by decide +kernel
theorem dX8_findOrder_13 : decode cX8_findOrder 13 = .ok (.ifCond .le 39, 3) := by decide +kernel
theorem dX8_findOrder_16 : decode cX8_findOrder 16 = .ok (.aload_n 0, 1) := by decide +kernel
theorem dX8_findOrder_17 : decode cX8_findOrder 17 = .ok (.iload_n 1, 1) := by decide +kernel
theorem dX8_findOrder_18 : decode cX8_findOrder 18 = .ok (.aload_n 0, 1) := by decide +kernel
theorem dX8_findOrder_19 : decode cX8_findOrder 19 = .ok (.getfield 69, 3) := by decide +kernel
theorem dX8_findOrder_22 : decode cX8_findOrder 22 = .ok (.iload_n 2, 1) := by decide +kernel
theorem dX8_findOrder_23 : decode cX8_findOrder 23 = .ok (.iconst 1, 1) := by decide +kernel
theorem dX8_findOrder_24 : decode cX8_findOrder 24 = .ok (.isub, 1) := by decide +kernel
theorem dX8_findOrder_25 : decode cX8_findOrder 25 = .ok (.iaload, 1) := by decide +kernel
theorem dX8_findOrder_26 : decode cX8_findOrder 26 = .ok (.invokevirtual 246, 3) := by decide +kernel
theorem dX8_findOrder_29 : decode cX8_findOrder 29 = .ok (.ifCond .eq 23, 3) := by decide +kernel
theorem dX8_findOrder_32 : decode cX8_findOrder 32 = .ok (.aload_n 0, 1) := by decide +kernel
theorem dX8_findOrder_33 : decode cX8_findOrder 33 = .ok (.getfield 69, 3) := by decide +kernel
theorem dX8_findOrder_36 : decode cX8_findOrder 36 = .ok (.iload_n 2, 1) := by decide +kernel
theorem dX8_findOrder_37 : decode cX8_findOrder 37 = .ok (.aload_n 0, 1) := by decide +kernel
theorem dX8_findOrder_38 : decode cX8_findOrder 38 = .ok (.getfield 69, 3) := by decide +kernel
theorem dX8_findOrder_41 : decode cX8_findOrder 41 = .ok (.iload_n 2, 1) := by decide +kernel
theorem dX8_findOrder_42 : decode cX8_findOrder 42 = .ok (.iconst 1, 1) := by decide +kernel
theorem dX8_findOrder_43 : decode cX8_findOrder 43 = .ok (.isub, 1) := by decide +kernel
theorem dX8_findOrder_44 : decode cX8_findOrder 44 = .ok (.iaload, 1) := by decide +kernel
theorem dX8_findOrder_45 : decode cX8_findOrder 45 = .ok (.iastore, 1) := by decide +kernel
theorem dX8_findOrder_46 : decode cX8_findOrder 46 = .ok (.iinc 2 (-1), 3) := by decide +kernel
theorem dX8_findOrder_49 : decode cX8_findOrder 49 = .ok (.goto (-37), 3) := by decide +kernel
theorem dX8_findOrder_52 : decode cX8_findOrder 52 = .ok (.aload_n 0, 1) := by decide +kernel
theorem dX8_findOrder_53 : decode cX8_findOrder 53 = .ok (.getfield 69, 3) := by decide +kernel
theorem dX8_findOrder_56 : decode cX8_findOrder 56 = .ok (.iload_n 2, 1) := by decide +kernel
theorem dX8_findOrder_57 : decode cX8_findOrder 57 = .ok (.iload_n 1, 1) := by decide +kernel
theorem dX8_findOrder_58 : decode cX8_findOrder 58 = .ok (.iastore, 1) := by decide +kernel
theorem dX8_findOrder_59 : decode cX8_findOrder 59 = .ok (.iinc 1 1, 3) := by decide +kernel
theorem dX8_findOrder_62 : decode cX8_findOrder 62 = .ok (.goto (-60), 3) := by decide +kernel
theorem dX8_findOrder_65 : decode cX8_findOrder 65 = .ok (.return_, 1) := by decide +kernel
theorem dX8_quick_0 : decode cX8_quick 0 = .ok (.aload_n 0, 1) := by decide +kernel
theorem dX8_quick_1 : decode cX8_quick 1 = .ok (.iconst 0, 1) := by decide +kernel
theorem dX8_quick_2 : decode cX8_quick 2 = .ok (.putfield 78, 3) := by decide +kernel
theorem dX8_quick_5 : decode cX8_quick 5 = .ok (.aload_n 0, 1) := by decide +kernel
theorem dX8_quick_6 : decode cX8_quick 6 = .ok (.invokevirtual 112, 3) := by decide +kernel
theorem dX8_quick_9 : decode cX8_quick 9 = .ok (.aload_n 0, 1) := by decide +kernel
theorem dX8_quick_10 : decode cX8_quick 10 = .ok (.invokevirtual 249, 3) := by decide +kernel
theorem dX8_quick_13 : decode cX8_quick 13 = .ok (.iconst 0, 1) := by decide +kernel
theorem dX8_quick_14 : decode cX8_quick 14 = .ok (.istore_n 1, 1) := by decide +kernel
theorem dX8_quick_15 : decode cX8_quick 15 = .ok (.iconst 0, 1) := by decide +kernel
theorem dX8_quick_16 : decode cX8_quick 16 = .ok (.istore_n 2, 1) := by decide +kernel
theorem dX8_quick_17 : decode cX8_quick 17 = .ok (.iload_n 2, 1) := by decide +kernel
theorem dX8_quick_18 : decode cX8_quick 18 = .ok (.aload_n 0, 1) := by decide +kernel
theorem dX8_quick_19 : decode cX8_quick 19 = .ok (.getfield 88, 3) := by decide +kernel
theorem dX8_quick_22 : decode cX8_quick 22 = .ok (.if_icmp .ge 17, 3) := by decide +kernel
theorem dX8_quick_25 : decode cX8_quick 25 = .ok (.aload_n 0, 1) := by decide +kernel
theorem dX8_quick_26 : decode cX8_quick 26 = .ok (.getfield 28, 3) := by decide +kernel
theorem dX8_quick_29 : decode cX8_quick 29 = .ok (.iload_n 2, 1) := by decide +kernel
theorem dX8_quick_30 : decode cX8_quick 30 = .ok (.bipush 16, 2) := by decide +kernel
theorem dX8_quick_32 : decode cX8_quick 32 = .ok (.iastore, 1) := by decide +kernel
theorem dX8_quick_33 : decode cX8_quick 33 = .ok (.iinc 2 1, 3) := by decide +kernel
theorem dX8_quick_36 : decode cX8_quick 36 = .ok (.goto (-19), 3) := by decide +kernel
theorem dX8_quick_39 : decode cX8_quick 39 = .ok (.iconst 0, 1) := by decide +kernel
theorem dX8_quick_40 : decode cX8_quick 40 = .ok (.istore_n 2, 1) := by decide +kernel
theorem dX8_quick_41 : decode cX8_quick 41 = .ok (.iload_n 2, 1) := by decide +kernel
theorem dX8_quick_42 : decode cX8_quick 42 = .ok (.aload_n 0, 1) := by decide +kernel
theorem dX8_quick_43 : decode cX8_quick 43 = .ok (.getfield 88, 3) := by decide +kernel
theorem dX8_quick_46 : decode cX8_quick 46 = .ok (.if_icmp .ge 129, 3) := by decide +kernel
theorem dX8_quick_49 : decode cX8_quick 49 = .ok (.aload_n 0, 1) := by decide +kernel
theorem dX8_quick_50 : decode cX8_quick 50 = .ok (.getfield 69, 3) := by decide +kernel
theorem dX8_quick_53 : decode cX8_quick 53 = .ok (.iload_n 2, 1) := by decide +kernel
theorem dX8_quick_54 : decode cX8_quick 54 = .ok (.iaload, 1) := by decide +kernel
theorem dX8_quick_55 : decode cX8_quick 55 = .ok (.istore_n 3, 1) := by decide +kernel
theorem dX8_quick_56 : decode cX8_quick 56 = .ok (.bipush 16, 2) := by decide +kernel
theorem dX8_quick_58 : decode cX8_quick 58 = .ok (.istore 4, 2) := by decide +kernel
theorem dX8_quick_60 : decode cX8_quick 60 = .ok (.iconst 0, 1) := by decide +kernel
theorem dX8_quick_61 : decode cX8_quick 61 = .ok (.istore 5, 2) := by decide +kernel
theorem dX8_quick_63 : decode cX8_quick 63 = .ok (.iload 5, 2) := by decide +kernel
theorem dX8_quick_65 : decode cX8_quick 65 = .ok (.aload_n 0, 1) := by decide +kernel
theorem dX8_quick_66 : decode cX8_quick 66 = .ok (.iload_n 3, 1) := by decide +kernel
theorem dX8_quick_67 : decode cX8_quick 67 = .ok (.invokevirtual 190, 3) := by decide +kernel
theorem dX8_quick_70 : decode cX8_quick 70 = .ok (.if_icmp .ge 76, 3) := by decide +kernel
theorem dX8_quick_73 : decode cX8_quick 73 = .ok (.iload 4, 2) := by decide +kernel
theorem dX8_quick_75 : decode cX8_quick 75 = .ok (.bipush 16, 2) := by decide +kernel
theorem dX8_quick_77 : decode cX8_quick 77 = .ok (.if_icmp .eq 20, 3) := by decide +kernel
theorem dX8_quick_80 : decode cX8_quick 80 = .ok (.aload_n 0, 1) := by decide +kernel
theorem dX8_quick_81 : decode cX8_quick 81 = .ok (.iload_n 3, 1) := by decide +kernel
theorem dX8_quick_82 : decode cX8_quick 82 = .ok (.iload 5, 2) := by decide +kernel
theorem dX8_quick_84 : decode cX8_quick 84 = .ok (.invokevirtual 197, 3) := by decide +kernel
theorem dX8_quick_87 : decode cX8_quick 87 = .ok (.aload_n 0, 1) := by decide +kernel
theorem dX8_quick_88 : decode cX8_quick 88 = .ok (.iload_n 3, 1) := by decide +kernel
theorem dX8_quick_89 : decode cX8_quick 89 = .ok (.iload 4, 2) := by decide +kernel
theorem dX8_quick_91 : decode cX8_quick 91 = .ok (.invokevirtual 197, 3) := by decide +kernel
theorem dX8_quick_94 : decode cX8_quick 94 = .ok (.if_icmp .ge 7, 3) := by decide +kernel
theorem dX8_quick_97 : decode cX8_quick 97 = .ok (.iconst 1, 1) := by decide +kernel
theorem dX8_quick_98 : decode cX8_quick 98 = .ok (.goto 4, 3) := by decide +kernel
theorem dX8_quick_101 : decode cX8_quick 101 = .ok (.iconst 0, 1) := by decide +kernel
theorem dX8_quick_102 : decode cX8_quick 102 = .ok (.istore 6, 2) := by decide +kernel
theorem dX8_quick_104 : decode cX8_quick 104 = .ok (.iload 6, 2) := by decide +kernel
theorem dX8_quick_106 : decode cX8_quick 106 = .ok (.ifCond .eq 30, 3) := by decide +kernel
theorem dX8_quick_109 : decode cX8_quick 109 = .ok (.aload_n 0, 1) := by decide +kernel
theorem dX8_quick_110 : decode cX8_quick 110 = .ok (.iload_n 3, 1) := by decide +kernel
theorem dX8_quick_111 : decode cX8_quick 111 = .ok (.iload 5, 2) := by decide +kernel
theorem dX8_quick_113 : decode cX8_quick 113 = .ok (.iconst 0, 1) := by decide +kernel
theorem dX8_quick_114 : decode cX8_quick 114 = .ok (.invokevirtual 201, 3) := by decide +kernel
theorem dX8_quick_117 : decode cX8_quick 117 = .ok (.ifCond .eq 19, 3) := by decide +kernel
theorem dX8_quick_120 : decode cX8_quick 120 = .ok (.aload_n 0, 1) := by decide +kernel
theorem dX8_quick_121 : decode cX8_quick 121 = .ok (.iload_n 3, 1) := by decide +kernel
theorem dX8_quick_122 : decode cX8_quick 122 = .ok (.iload 5, 2) := by decide +kernel
theorem dX8_quick_124 : decode cX8_quick 124 = .ok (.invokevirtual 218, 3) := by decide +kernel
theorem dX8_quick_127 : decode cX8_quick 127 = .ok (.iconst (-1), 1) := by decide +kernel
theorem dX8_quick_128 : decode cX8_quick 128 = .ok (.if_icmp .ne 8, 3) := by decide +kernel
theorem dX8_quick_131 : decode cX8_quick 131 = .ok (.iload 5, 2) := by decide +kernel
theorem dX8_quick_133 : decode cX8_quick 133 = .ok (.goto 5, 3) := by decide +kernel
theorem dX8_quick_136 : decode cX8_quick 136 = .ok (.iload 4, 2) := by decide +kernel
theorem dX8_quick_138 : decode cX8_quick 138 = .ok (.istore 4, 2) := by decide +kernel
theorem dX8_quick_140 : decode cX8_quick 140 = .ok (.iinc 5 1, 3) := by decide +kernel
theorem dX8_quick_143 : decode cX8_quick 143 = .ok (.goto (-80), 3) := by decide +kernel
theorem dX8_quick_146 : decode cX8_quick 146 = .ok (.aload_n 0, 1) := by decide +kernel
theorem dX8_quick_147 : decode cX8_quick 147 = .ok (.getfield 28, 3) := by decide +kernel
theorem dX8_quick_150 : decode cX8_quick 150 = .ok (.iload_n 3, 1) := by decide +kernel
theorem dX8_quick_151 : decode cX8_quick 151 = .ok (.iload 4, 2) := by decide +kernel
theorem dX8_quick_153 : decode cX8_quick 153 = .ok (.iastore, 1) := by decide +kernel
theorem dX8_quick_154 : decode cX8_quick 154 = .ok (.iload_n 1, 1) := by decide +kernel
theorem dX8_quick_155 : decode cX8_quick 155 = .ok (.iload 4, 2) := by decide +kernel
theorem dX8_quick_157 : decode cX8_quick 157 = .ok (.bipush 16, 2) := by decide +kernel
theorem dX8_quick_159 : decode cX8_quick 159 = .ok (.if_icmp .ne 7, 3) := by decide +kernel
theorem dX8_quick_162 : decode cX8_quick 162 = .ok (.iconst 1, 1) := by decide +kernel
theorem dX8_quick_163 : decode cX8_quick 163 = .ok (.goto 4, 3) := by decide +kernel
theorem dX8_quick_166 : decode cX8_quick 166 = .ok (.iconst 0, 1) := by decide +kernel
theorem dX8_quick_167 : decode cX8_quick 167 = .ok (.iadd, 1) := by decide +kernel
theorem dX8_quick_168 : decode cX8_quick 168 = .ok (.istore_n 1, 1) := by decide +kernel
theorem dX8_quick_169 : decode cX8_quick 169 = .ok (.iinc 2 1, 3) := by decide +kernel
theorem dX8_quick_172 : decode cX8_quick 172 = .ok (.goto (-131), 3) := by decide +kernel
theorem dX8_quick_175 : decode cX8_quick 175 = .ok (.iload_n 1, 1) := by decide +kernel
theorem dX8_quick_176 : decode cX8_quick 176 = .ok (.ireturn, 1) := by decide +kernel
theorem dX8_why_0 : decode cX8_why 0 = .ok (.aload_n 0, 1) := by decide +kernel
theorem dX8_why_1 : decode cX8_why 1 = .ok (.iconst 0, 1) := by decide +kernel
theorem dX8_why_2 : decode cX8_why 2 = .ok (.putfield 78, 3) := by decide +kernel
theorem dX8_why_5 : decode cX8_why 5 = .ok (.aload_n 0, 1) := by decide +kernel
theorem dX8_why_6 : decode cX8_why 6 = .ok (.iload_n 1, 1) := by decide +kernel
theorem dX8_why_7 : decode cX8_why 7 = .ok (.iload_n 2, 1) := by decide +kernel
theorem dX8_why_8 : decode cX8_why 8 = .ok (.invokevirtual 194, 3) := by decide +kernel
theorem dX8_why_11 : decode cX8_why 11 = .ok (.ifCond .ne 6, 3) := by decide +kernel
theorem dX8_why_14 : decode cX8_why 14 = .ok (.bipush (-3), 2) := by decide +kernel
theorem dX8_why_16 : decode cX8_why 16 = .ok (.ireturn, 1) := by decide +kernel
theorem dX8_why_17 : decode cX8_why 17 = .ok (.aload_n 0, 1) := by decide +kernel
theorem dX8_why_18 : decode cX8_why 18 = .ok (.getfield 28, 3) := by decide +kernel
theorem dX8_why_21 : decode cX8_why 21 = .ok (.iload_n 1, 1) := by decide +kernel
theorem dX8_why_22 : decode cX8_why 22 = .ok (.iaload, 1) := by decide +kernel
theorem dX8_why_23 : decode cX8_why 23 = .ok (.bipush 16, 2) := by decide +kernel
theorem dX8_why_25 : decode cX8_why 25 = .ok (.if_icmp .eq 6, 3) := by decide +kernel
theorem dX8_why_28 : decode cX8_why 28 = .ok (.bipush (-4), 2) := by decide +kernel
theorem dX8_why_30 : decode cX8_why 30 = .ok (.ireturn, 1) := by decide +kernel
theorem dX8_why_31 : decode cX8_why 31 = .ok (.aload_n 0, 1) := by decide +kernel
theorem dX8_why_32 : decode cX8_why 32 = .ok (.iload_n 1, 1) := by decide +kernel
theorem dX8_why_33 : decode cX8_why 33 = .ok (.iload_n 2, 1) := by decide +kernel
theorem dX8_why_34 : decode cX8_why 34 = .ok (.invokevirtual 218, 3) := by decide +kernel
theorem dX8_why_37 : decode cX8_why 37 = .ok (.ireturn, 1) := by decide +kernel
theorem dX8_slack_0 : decode cX8_slack 0 = .ok (.aload_n 0, 1) := by decide +kernel
theorem dX8_slack_1 : decode cX8_slack 1 = .ok (.iconst 0, 1) := by decide +kernel
theorem dX8_slack_2 : decode cX8_slack 2 = .ok (.putfield 78, 3) := by decide +kernel
theorem dX8_slack_5 : decode cX8_slack 5 = .ok (.iconst 0, 1) := by decide +kernel
theorem dX8_slack_6 : decode cX8_slack 6 = .ok (.istore_n 1, 1) := by decide +kernel
theorem dX8_slack_7 : decode cX8_slack 7 = .ok (.iconst 0, 1) := by decide +kernel
theorem dX8_slack_8 : decode cX8_slack 8 = .ok (.istore_n 2, 1) := by decide +kernel
theorem dX8_slack_9 : decode cX8_slack 9 = .ok (.iload_n 2, 1) := by decide +kernel
theorem dX8_slack_10 : decode cX8_slack 10 = .ok (.aload_n 0, 1) := by decide +kernel
theorem dX8_slack_11 : decode cX8_slack 11 = .ok (.getfield 88, 3) := by decide +kernel
theorem dX8_slack_14 : decode cX8_slack 14 = .ok (.if_icmp .ge 106, 3) := by decide +kernel
theorem dX8_slack_17 : decode cX8_slack 17 = .ok (.iconst 0, 1) := by decide +kernel
theorem dX8_slack_18 : decode cX8_slack 18 = .ok (.istore_n 3, 1) := by decide +kernel
theorem dX8_slack_19 : decode cX8_slack 19 = .ok (.iconst 0, 1) := by decide +kernel
theorem dX8_slack_20 : decode cX8_slack 20 = .ok (.istore 4, 2) := by decide +kernel
theorem dX8_slack_22 : decode cX8_slack 22 = .ok (.iload 4, 2) := by decide +kernel
theorem dX8_slack_24 : decode cX8_slack 24 = .ok (.aload_n 0, 1) := by decide +kernel
theorem dX8_slack_25 : decode cX8_slack 25 = .ok (.iload_n 2, 1) := by decide +kernel
theorem dX8_slack_26 : decode cX8_slack 26 = .ok (.invokevirtual 190, 3) := by decide +kernel
theorem dX8_slack_29 : decode cX8_slack 29 = .ok (.if_icmp .ge 73, 3) := by decide +kernel
theorem dX8_slack_32 : decode cX8_slack 32 = .ok (.aload_n 0, 1) := by decide +kernel
theorem dX8_slack_33 : decode cX8_slack 33 = .ok (.getfield 28, 3) := by decide +kernel
theorem dX8_slack_36 : decode cX8_slack 36 = .ok (.iload_n 2, 1) := by decide +kernel
theorem dX8_slack_37 : decode cX8_slack 37 = .ok (.iaload, 1) := by decide +kernel
theorem dX8_slack_38 : decode cX8_slack 38 = .ok (.bipush 16, 2) := by decide +kernel
theorem dX8_slack_40 : decode cX8_slack 40 = .ok (.if_icmp .eq 62, 3) := by decide +kernel
theorem dX8_slack_43 : decode cX8_slack 43 = .ok (.iload_n 3, 1) := by decide +kernel
theorem dX8_slack_44 : decode cX8_slack 44 = .ok (.ifCond .ne 46, 3) := by decide +kernel
theorem dX8_slack_47 : decode cX8_slack 47 = .ok (.aload_n 0, 1) := by decide +kernel
theorem dX8_slack_48 : decode cX8_slack 48 = .ok (.iload_n 2, 1) := by decide +kernel
theorem dX8_slack_49 : decode cX8_slack 49 = .ok (.iload 4, 2) := by decide +kernel
theorem dX8_slack_51 : decode cX8_slack 51 = .ok (.invokevirtual 197, 3) := by decide +kernel
theorem dX8_slack_54 : decode cX8_slack 54 = .ok (.aload_n 0, 1) := by decide +kernel
theorem dX8_slack_55 : decode cX8_slack 55 = .ok (.iload_n 2, 1) := by decide +kernel
theorem dX8_slack_56 : decode cX8_slack 56 = .ok (.aload_n 0, 1) := by decide +kernel
theorem dX8_slack_57 : decode cX8_slack 57 = .ok (.getfield 28, 3) := by decide +kernel
theorem dX8_slack_60 : decode cX8_slack 60 = .ok (.iload_n 2, 1) := by decide +kernel
theorem dX8_slack_61 : decode cX8_slack 61 = .ok (.iaload, 1) := by decide +kernel
theorem dX8_slack_62 : decode cX8_slack 62 = .ok (.invokevirtual 197, 3) := by decide +kernel
theorem dX8_slack_65 : decode cX8_slack 65 = .ok (.if_icmp .ge 29, 3) := by decide +kernel
theorem dX8_slack_68 : decode cX8_slack 68 = .ok (.aload_n 0, 1) := by decide +kernel
theorem dX8_slack_69 : decode cX8_slack 69 = .ok (.iload_n 2, 1) := by decide +kernel
theorem dX8_slack_70 : decode cX8_slack 70 = .ok (.iload 4, 2) := by decide +kernel
theorem dX8_slack_72 : decode cX8_slack 72 = .ok (.iconst 0, 1) := by decide +kernel
theorem dX8_slack_73 : decode cX8_slack 73 = .ok (.invokevirtual 201, 3) := by decide +kernel
theorem dX8_slack_76 : decode cX8_slack 76 = .ok (.ifCond .eq 18, 3) := by decide +kernel
theorem dX8_slack_79 : decode cX8_slack 79 = .ok (.aload_n 0, 1) := by decide +kernel
theorem dX8_slack_80 : decode cX8_slack 80 = .ok (.iload_n 2, 1) := by decide +kernel
theorem dX8_slack_81 : decode cX8_slack 81 = .ok (.iload 4, 2) := by decide +kernel
theorem dX8_slack_83 : decode cX8_slack 83 = .ok (.invokevirtual 218, 3) := by decide +kernel
theorem dX8_slack_86 : decode cX8_slack 86 = .ok (.iconst (-1), 1) := by decide +kernel
theorem dX8_slack_87 : decode cX8_slack 87 = .ok (.if_icmp .ne 7, 3) := by decide +kernel
theorem dX8_slack_90 : decode cX8_slack 90 = .ok (.iconst 1, 1) := by decide +kernel
theorem dX8_slack_91 : decode cX8_slack 91 = .ok (.goto 4, 3) := by decide +kernel
theorem dX8_slack_94 : decode cX8_slack 94 = .ok (.iconst 0, 1) := by decide +kernel
theorem dX8_slack_95 : decode cX8_slack 95 = .ok (.istore_n 3, 1) := by decide +kernel
theorem dX8_slack_96 : decode cX8_slack 96 = .ok (.iinc 4 1, 3) := by decide +kernel
theorem dX8_slack_99 : decode cX8_slack 99 = .ok (.goto (-77), 3) := by decide +kernel
theorem dX8_slack_102 : decode cX8_slack 102 = .ok (.iload_n 1, 1) := by decide +kernel
theorem dX8_slack_103 : decode cX8_slack 103 = .ok (.iload_n 3, 1) := by decide +kernel
theorem dX8_slack_104 : decode cX8_slack 104 = .ok (.ifCond .eq 7, 3) := by decide +kernel
theorem dX8_slack_107 : decode cX8_slack 107 = .ok (.iconst 1, 1) := by decide +kernel
theorem dX8_slack_108 : decode cX8_slack 108 = .ok (.goto 4, 3) := by decide +kernel
theorem dX8_slack_111 : decode cX8_slack 111 = .ok (.iconst 0, 1) := by decide +kernel
theorem dX8_slack_112 : decode cX8_slack 112 = .ok (.iadd, 1) := by decide +kernel
theorem dX8_slack_113 : decode cX8_slack 113 = .ok (.istore_n 1, 1) := by decide +kernel
theorem dX8_slack_114 : decode cX8_slack 114 = .ok (.iinc 2 1, 3) := by decide +kernel
theorem dX8_slack_117 : decode cX8_slack 117 = .ok (.goto (-108), 3) := by decide +kernel
theorem dX8_slack_120 : decode cX8_slack 120 = .ok (.iload_n 1, 1) := by decide +kernel
theorem dX8_slack_121 : decode cX8_slack 121 = .ok (.ireturn, 1) := by decide +kernel
theorem dX8_isSteady_0 : decode cX8_isSteady 0 = .ok (.aload_n 0, 1) := by decide +kernel
theorem dX8_isSteady_1 : decode cX8_isSteady 1 = .ok (.getfield 69, 3) := by decide +kernel
theorem dX8_isSteady_4 : decode cX8_isSteady 4 = .ok (.iload_n 1, 1) := by decide +kernel
theorem dX8_isSteady_5 : decode cX8_isSteady 5 = .ok (.iaload, 1) := by decide +kernel
theorem dX8_isSteady_6 : decode cX8_isSteady 6 = .ok (.istore 4, 2) := by decide +kernel
theorem dX8_isSteady_8 : decode cX8_isSteady 8 = .ok (.iload_n 3, 1) := by decide +kernel
theorem dX8_isSteady_9 : decode cX8_isSteady 9 = .ok (.istore 5, 2) := by decide +kernel
theorem dX8_isSteady_11 : decode cX8_isSteady 11 = .ok (.iload 5, 2) := by decide +kernel
theorem dX8_isSteady_13 : decode cX8_isSteady 13 = .ok (.bipush 6, 2) := by decide +kernel
theorem dX8_isSteady_15 : decode cX8_isSteady 15 = .ok (.if_icmp .gt 82, 3) := by decide +kernel
theorem dX8_isSteady_18 : decode cX8_isSteady 18 = .ok (.aload_n 0, 1) := by decide +kernel
theorem dX8_isSteady_19 : decode cX8_isSteady 19 = .ok (.iload 4, 2) := by decide +kernel
theorem dX8_isSteady_21 : decode cX8_isSteady 21 = .ok (.iload_n 2, 1) := by decide +kernel
theorem dX8_isSteady_22 : decode cX8_isSteady 22 = .ok (.iload 5, 2) := by decide +kernel
theorem dX8_isSteady_24 : decode cX8_isSteady 24 = .ok (.invokevirtual 201, 3) := by decide +kernel
theorem dX8_isSteady_27 : decode cX8_isSteady 27 = .ok (.ifCond .ne 5, 3) := by decide +kernel
theorem dX8_isSteady_30 : decode cX8_isSteady 30 = .ok (.iconst 0, 1) := by decide +kernel
theorem dX8_isSteady_31 : decode cX8_isSteady 31 = .ok (.ireturn, 1) := by decide +kernel
theorem dX8_isSteady_32 : decode cX8_isSteady 32 = .ok (.iconst 0, 1) := by decide +kernel
theorem dX8_isSteady_33 : decode cX8_isSteady 33 = .ok (.istore 6, 2) := by decide +kernel
theorem dX8_isSteady_35 : decode cX8_isSteady 35 = .ok (.iload 6, 2) := by decide +kernel
theorem dX8_isSteady_37 : decode cX8_isSteady 37 = .ok (.iload_n 1, 1) := by decide +kernel
theorem dX8_isSteady_38 : decode cX8_isSteady 38 = .ok (.if_icmp .ge 53, 3) := by decide +kernel
theorem dX8_isSteady_41 : decode cX8_isSteady 41 = .ok (.aload_n 0, 1) := by decide +kernel
theorem dX8_isSteady_42 : decode cX8_isSteady 42 = .ok (.getfield 69, 3) := by decide +kernel
theorem dX8_isSteady_45 : decode cX8_isSteady 45 = .ok (.iload 6, 2) := by decide +kernel
theorem dX8_isSteady_47 : decode cX8_isSteady 47 = .ok (.iaload, 1) := by decide +kernel
theorem dX8_isSteady_48 : decode cX8_isSteady 48 = .ok (.istore 7, 2) := by decide +kernel
theorem dX8_isSteady_50 : decode cX8_isSteady 50 = .ok (.aload_n 0, 1) := by decide +kernel
theorem dX8_isSteady_51 : decode cX8_isSteady 51 = .ok (.getfield 72, 3) := by decide +kernel
theorem dX8_isSteady_54 : decode cX8_isSteady 54 = .ok (.iload 7, 2) := by decide +kernel
theorem dX8_isSteady_56 : decode cX8_isSteady 56 = .ok (.iaload, 1) := by decide +kernel
theorem dX8_isSteady_57 : decode cX8_isSteady 57 = .ok (.iload 5, 2) := by decide +kernel
theorem dX8_isSteady_59 : decode cX8_isSteady 59 = .ok (.if_icmp .gt 26, 3) := by decide +kernel
theorem dX8_isSteady_62 : decode cX8_isSteady 62 = .ok (.aload_n 0, 1) := by decide +kernel
theorem dX8_isSteady_63 : decode cX8_isSteady 63 = .ok (.iload 4, 2) := by decide +kernel
theorem dX8_isSteady_65 : decode cX8_isSteady 65 = .ok (.iload_n 2, 1) := by decide +kernel
theorem dX8_isSteady_66 : decode cX8_isSteady 66 = .ok (.iload 7, 2) := by decide +kernel
theorem dX8_isSteady_68 : decode cX8_isSteady 68 = .ok (.aload_n 0, 1) := by decide +kernel
theorem dX8_isSteady_69 : decode cX8_isSteady 69 = .ok (.getfield 75, 3) := by decide +kernel
theorem dX8_isSteady_72 : decode cX8_isSteady 72 = .ok (.iload 7, 2) := by decide +kernel
theorem dX8_isSteady_74 : decode cX8_isSteady 74 = .ok (.iaload, 1) := by decide +kernel
theorem dX8_isSteady_75 : decode cX8_isSteady 75 = .ok (.iload 5, 2) := by decide +kernel
theorem dX8_isSteady_77 : decode cX8_isSteady 77 = .ok (.invokevirtual 204, 3) := by decide +kernel
theorem dX8_isSteady_80 : decode cX8_isSteady 80 = .ok (.ifCond .eq 5, 3) := by decide +kernel
theorem dX8_isSteady_83 : decode cX8_isSteady 83 = .ok (.iconst 0, 1) := by decide +kernel
theorem dX8_isSteady_84 : decode cX8_isSteady 84 = .ok (.ireturn, 1) := by decide +kernel
theorem dX8_isSteady_85 : decode cX8_isSteady 85 = .ok (.iinc 6 1, 3) := by decide +kernel
theorem dX8_isSteady_88 : decode cX8_isSteady 88 = .ok (.goto (-53), 3) := by decide +kernel
theorem dX8_isSteady_91 : decode cX8_isSteady 91 = .ok (.iinc 5 1, 3) := by decide +kernel
theorem dX8_isSteady_94 : decode cX8_isSteady 94 = .ok (.goto (-83), 3) := by decide +kernel
theorem dX8_isSteady_97 : decode cX8_isSteady 97 = .ok (.iconst 1, 1) := by decide +kernel
theorem dX8_isSteady_98 : decode cX8_isSteady 98 = .ok (.ireturn, 1) := by decide +kernel
theorem dX8_findSteady_0 : decode cX8_findSteady 0 = .ok (.aload_n 0, 1) := by decide +kernel
theorem dX8_findSteady_1 : decode cX8_findSteady 1 = .ok (.invokevirtual 249, 3) := by decide +kernel
theorem dX8_findSteady_4 : decode cX8_findSteady 4 = .ok (.iconst 0, 1) := by decide +kernel
theorem dX8_findSteady_5 : decode cX8_findSteady 5 = .ok (.istore_n 1, 1) := by decide +kernel
theorem dX8_findSteady_6 : decode cX8_findSteady 6 = .ok (.iload_n 1, 1) := by decide +kernel
theorem dX8_findSteady_7 : decode cX8_findSteady 7 = .ok (.aload_n 0, 1) := by decide +kernel
theorem dX8_findSteady_8 : decode cX8_findSteady 8 = .ok (.getfield 88, 3) := by decide +kernel
theorem dX8_findSteady_11 : decode cX8_findSteady 11 = .ok (.if_icmp .ge 104, 3) := by decide +kernel
theorem dX8_findSteady_14 : decode cX8_findSteady 14 = .ok (.aload_n 0, 1) := by decide +kernel
theorem dX8_findSteady_15 : decode cX8_findSteady 15 = .ok (.getfield 69, 3) := by decide +kernel
theorem dX8_findSteady_18 : decode cX8_findSteady 18 = .ok (.iload_n 1, 1) := by decide +kernel
theorem dX8_findSteady_19 : decode cX8_findSteady 19 = .ok (.iaload, 1) := by decide +kernel
theorem dX8_findSteady_20 : decode cX8_findSteady 20 = .ok (.istore_n 2, 1) := by decide +kernel
theorem dX8_findSteady_21 : decode cX8_findSteady 21 = .ok (.bipush 7, 2) := by decide +kernel
theorem dX8_findSteady_23 : decode cX8_findSteady 23 = .ok (.istore_n 3, 1) := by decide +kernel
theorem dX8_findSteady_24 : decode cX8_findSteady 24 = .ok (.bipush 16, 2) := by decide +kernel
theorem dX8_findSteady_26 : decode cX8_findSteady 26 = .ok (.istore 4, 2) := by decide +kernel
theorem dX8_findSteady_28 : decode cX8_findSteady 28 = .ok (.iconst 0, 1) := by decide +kernel
theorem dX8_findSteady_29 : decode cX8_findSteady 29 = .ok (.istore 5, 2) := by decide +kernel
theorem dX8_findSteady_31 : decode cX8_findSteady 31 = .ok (.iload 5, 2) := by decide +kernel
theorem dX8_findSteady_33 : decode cX8_findSteady 33 = .ok (.bipush 6, 2) := by decide +kernel
theorem dX8_findSteady_35 : decode cX8_findSteady 35 = .ok (.if_icmp .gt 59, 3) := by decide +kernel
theorem dX8_findSteady_38 : decode cX8_findSteady 38 = .ok (.iload_n 3, 1) := by decide +kernel
theorem dX8_findSteady_39 : decode cX8_findSteady 39 = .ok (.bipush 7, 2) := by decide +kernel
theorem dX8_findSteady_41 : decode cX8_findSteady 41 = .ok (.if_icmp .ne 53, 3) := by decide +kernel
theorem dX8_findSteady_44 : decode cX8_findSteady 44 = .ok (.iconst 0, 1) := by decide +kernel
theorem dX8_findSteady_45 : decode cX8_findSteady 45 = .ok (.istore 6, 2) := by decide +kernel
theorem dX8_findSteady_47 : decode cX8_findSteady 47 = .ok (.iload 6, 2) := by decide +kernel
theorem dX8_findSteady_49 : decode cX8_findSteady 49 = .ok (.aload_n 0, 1) := by decide +kernel
theorem dX8_findSteady_50 : decode cX8_findSteady 50 = .ok (.iload_n 2, 1) := by decide +kernel
theorem dX8_findSteady_51 : decode cX8_findSteady 51 = .ok (.invokevirtual 190, 3) := by decide +kernel
theorem dX8_findSteady_54 : decode cX8_findSteady 54 = .ok (.if_icmp .ge 34, 3) := by decide +kernel
theorem dX8_findSteady_57 : decode cX8_findSteady 57 = .ok (.iload_n 3, 1) := by decide +kernel
theorem dX8_findSteady_58 : decode cX8_findSteady 58 = .ok (.bipush 7, 2) := by decide +kernel
theorem dX8_findSteady_60 : decode cX8_findSteady 60 = .ok (.if_icmp .ne 28, 3) := by decide +kernel
theorem dX8_findSteady_63 : decode cX8_findSteady 63 = .ok (.aload_n 0, 1) := by decide +kernel
theorem dX8_findSteady_64 : decode cX8_findSteady 64 = .ok (.iload_n 1, 1) := by decide +kernel
theorem dX8_findSteady_65 : decode cX8_findSteady 65 = .ok (.iload 6, 2) := by decide +kernel
theorem dX8_findSteady_67 : decode cX8_findSteady 67 = .ok (.iload 5, 2) := by decide +kernel
theorem dX8_findSteady_69 : decode cX8_findSteady 69 = .ok (.invokevirtual 252, 3) := by decide +kernel
theorem dX8_findSteady_72 : decode cX8_findSteady 72 = .ok (.ifCond .eq 10, 3) := by decide +kernel
theorem dX8_findSteady_75 : decode cX8_findSteady 75 = .ok (.iload 5, 2) := by decide +kernel
theorem dX8_findSteady_77 : decode cX8_findSteady 77 = .ok (.istore_n 3, 1) := by decide +kernel
theorem dX8_findSteady_78 : decode cX8_findSteady 78 = .ok (.iload 6, 2) := by decide +kernel
theorem dX8_findSteady_80 : decode cX8_findSteady 80 = .ok (.istore 4, 2) := by decide +kernel
theorem dX8_findSteady_82 : decode cX8_findSteady 82 = .ok (.iinc 6 1, 3) := by decide +kernel
theorem dX8_findSteady_85 : decode cX8_findSteady 85 = .ok (.goto (-38), 3) := by decide +kernel
theorem dX8_findSteady_88 : decode cX8_findSteady 88 = .ok (.iinc 5 1, 3) := by decide +kernel
theorem dX8_findSteady_91 : decode cX8_findSteady 91 = .ok (.goto (-60), 3) := by decide +kernel
theorem dX8_findSteady_94 : decode cX8_findSteady 94 = .ok (.aload_n 0, 1) := by decide +kernel
theorem dX8_findSteady_95 : decode cX8_findSteady 95 = .ok (.getfield 72, 3) := by decide +kernel
theorem dX8_findSteady_98 : decode cX8_findSteady 98 = .ok (.iload_n 2, 1) := by decide +kernel
theorem dX8_findSteady_99 : decode cX8_findSteady 99 = .ok (.iload_n 3, 1) := by decide +kernel
theorem dX8_findSteady_100 : decode cX8_findSteady 100 = .ok (.iastore, 1) := by decide +kernel
theorem dX8_findSteady_101 : decode cX8_findSteady 101 = .ok (.aload_n 0, 1) := by decide +kernel
theorem dX8_findSteady_102 : decode cX8_findSteady 102 = .ok (.getfield 75, 3) := by decide +kernel
theorem dX8_findSteady_105 : decode cX8_findSteady 105 = .ok (.iload_n 2, 1) := by decide +kernel
theorem dX8_findSteady_106 : decode cX8_findSteady 106 = .ok (.iload 4, 2) := by decide +kernel
theorem dX8_findSteady_108 : decode cX8_findSteady 108 = .ok (.iastore, 1) := by decide +kernel
theorem dX8_findSteady_109 : decode cX8_findSteady 109 = .ok (.iinc 1 1, 3) := by decide +kernel
theorem dX8_findSteady_112 : decode cX8_findSteady 112 = .ok (.goto (-106), 3) := by decide +kernel
theorem dX8_findSteady_115 : decode cX8_findSteady 115 = .ok (.return_, 1) := by decide +kernel
theorem dX8_steady_0 : decode cX8_steady 0 = .ok (.aload_n 0, 1) := by decide +kernel
theorem dX8_steady_1 : decode cX8_steady 1 = .ok (.iconst 0, 1) := by decide +kernel
theorem dX8_steady_2 : decode cX8_steady 2 = .ok (.putfield 78, 3) := by decide +kernel
theorem dX8_steady_5 : decode cX8_steady 5 = .ok (.aload_n 0, 1) := by decide +kernel
theorem dX8_steady_6 : decode cX8_steady 6 = .ok (.iload_n 1, 1) := by decide +kernel
theorem dX8_steady_7 : decode cX8_steady 7 = .ok (.invokevirtual 115, 3) := by decide +kernel
theorem dX8_steady_10 : decode cX8_steady 10 = .ok (.ifCond .eq 12, 3) := by decide +kernel
theorem dX8_steady_13 : decode cX8_steady 13 = .ok (.iload_n 2, 1) := by decide +kernel
theorem dX8_steady_14 : decode cX8_steady 14 = .ok (.iconst 0, 1) := by decide +kernel
theorem dX8_steady_15 : decode cX8_steady 15 = .ok (.iconst 1, 1) := by decide +kernel
theorem dX8_steady_16 : decode cX8_steady 16 = .ok (.invokestatic 104, 3) := by decide +kernel
theorem dX8_steady_19 : decode cX8_steady 19 = .ok (.ifCond .ne 6, 3) := by decide +kernel
theorem dX8_steady_22 : decode cX8_steady 22 = .ok (.bipush (-3), 2) := by decide +kernel
theorem dX8_steady_24 : decode cX8_steady 24 = .ok (.ireturn, 1) := by decide +kernel
theorem dX8_steady_25 : decode cX8_steady 25 = .ok (.aload_n 0, 1) := by decide +kernel
theorem dX8_steady_26 : decode cX8_steady 26 = .ok (.invokevirtual 255, 3) := by decide +kernel
theorem dX8_steady_29 : decode cX8_steady 29 = .ok (.aload_n 0, 1) := by decide +kernel
theorem dX8_steady_30 : decode cX8_steady 30 = .ok (.getfield 72, 3) := by decide +kernel
theorem dX8_steady_33 : decode cX8_steady 33 = .ok (.iload_n 1, 1) := by decide +kernel
theorem dX8_steady_34 : decode cX8_steady 34 = .ok (.iaload, 1) := by decide +kernel
theorem dX8_steady_35 : decode cX8_steady 35 = .ok (.bipush 7, 2) := by decide +kernel
theorem dX8_steady_37 : decode cX8_steady 37 = .ok (.if_icmp .ne 7, 3) := by decide +kernel
theorem dX8_steady_40 : decode cX8_steady 40 = .ok (.iconst (-1), 1) := by decide +kernel
theorem dX8_steady_41 : decode cX8_steady 41 = .ok (.goto 22, 3) := by decide +kernel
theorem dX8_steady_44 : decode cX8_steady 44 = .ok (.iload_n 2, 1) := by decide +kernel
theorem dX8_steady_45 : decode cX8_steady 45 = .ok (.ifCond .ne 12, 3) := by decide +kernel
theorem dX8_steady_48 : decode cX8_steady 48 = .ok (.aload_n 0, 1) := by decide +kernel
theorem dX8_steady_49 : decode cX8_steady 49 = .ok (.getfield 72, 3) := by decide +kernel
theorem dX8_steady_52 : decode cX8_steady 52 = .ok (.iload_n 1, 1) := by decide +kernel
theorem dX8_steady_53 : decode cX8_steady 53 = .ok (.iaload, 1) := by decide +kernel
theorem dX8_steady_54 : decode cX8_steady 54 = .ok (.goto 9, 3) := by decide +kernel
theorem dX8_steady_57 : decode cX8_steady 57 = .ok (.aload_n 0, 1) := by decide +kernel
theorem dX8_steady_58 : decode cX8_steady 58 = .ok (.getfield 75, 3) := by decide +kernel
theorem dX8_steady_61 : decode cX8_steady 61 = .ok (.iload_n 1, 1) := by decide +kernel
theorem dX8_steady_62 : decode cX8_steady 62 = .ok (.iaload, 1) := by decide +kernel
theorem dX8_steady_63 : decode cX8_steady 63 = .ok (.ireturn, 1) := by decide +kernel
theorem dX8_there_0 : decode cX8_there 0 = .ok (.aload_n 0, 1) := by decide +kernel
theorem dX8_there_1 : decode cX8_there 1 = .ok (.iconst 0, 1) := by decide +kernel
theorem dX8_there_2 : decode cX8_there 2 = .ok (.putfield 78, 3) := by decide +kernel
theorem dX8_there_5 : decode cX8_there 5 = .ok (.iload_n 1, 1) := by decide +kernel
theorem dX8_there_6 : decode cX8_there 6 = .ok (.iconst 0, 1) := by decide +kernel
theorem dX8_there_7 : decode cX8_there 7 = .ok (.bipush 6, 2) := by decide +kernel
theorem dX8_there_9 : decode cX8_there 9 = .ok (.invokestatic 104, 3) := by decide +kernel
theorem dX8_there_12 : decode cX8_there 12 = .ok (.ifCond .ne 6, 3) := by decide +kernel
theorem dX8_there_15 : decode cX8_there 15 = .ok (.bipush (-3), 2) := by decide +kernel
theorem dX8_there_17 : decode cX8_there 17 = .ok (.ireturn, 1) := by decide +kernel
theorem dX8_there_18 : decode cX8_there 18 = .ok (.aload_n 0, 1) := by decide +kernel
theorem dX8_there_19 : decode cX8_there 19 = .ok (.invokevirtual 255, 3) := by decide +kernel
theorem dX8_there_22 : decode cX8_there 22 = .ok (.iconst 0, 1) := by decide +kernel
theorem dX8_there_23 : decode cX8_there 23 = .ok (.istore_n 2, 1) := by decide +kernel
theorem dX8_there_24 : decode cX8_there 24 = .ok (.iconst 0, 1) := by decide +kernel
theorem dX8_there_25 : decode cX8_there 25 = .ok (.istore_n 3, 1) := by decide +kernel
theorem dX8_there_26 : decode cX8_there 26 = .ok (.iload_n 3, 1) := by decide +kernel
theorem dX8_there_27 : decode cX8_there 27 = .ok (.aload_n 0, 1) := by decide +kernel
theorem dX8_there_28 : decode cX8_there 28 = .ok (.getfield 88, 3) := by decide +kernel
theorem dX8_there_31 : decode cX8_there 31 = .ok (.if_icmp .ge 27, 3) := by decide +kernel
theorem dX8_there_34 : decode cX8_there 34 = .ok (.iload_n 2, 1) := by decide +kernel
theorem dX8_there_35 : decode cX8_there 35 = .ok (.aload_n 0, 1) := by decide +kernel
theorem dX8_there_36 : decode cX8_there 36 = .ok (.getfield 72, 3) := by decide +kernel
theorem dX8_there_39 : decode cX8_there 39 = .ok (.iload_n 3, 1) := by decide +kernel
theorem dX8_there_40 : decode cX8_there 40 = .ok (.iaload, 1) := by decide +kernel
theorem dX8_there_41 : decode cX8_there 41 = .ok (.iload_n 1, 1) := by decide +kernel
theorem dX8_there_42 : decode cX8_there 42 = .ok (.if_icmp .gt 7, 3) := by decide +kernel
theorem dX8_there_45 : decode cX8_there 45 = .ok (.iconst 1, 1) := by decide +kernel
theorem dX8_there_46 : decode cX8_there 46 = .ok (.goto 4, 3) := by decide +kernel
theorem dX8_there_49 : decode cX8_there 49 = .ok (.iconst 0, 1) := by decide +kernel
theorem dX8_there_50 : decode cX8_there 50 = .ok (.iadd, 1) := by decide +kernel
theorem dX8_there_51 : decode cX8_there 51 = .ok (.istore_n 2, 1) := by decide +kernel
theorem dX8_there_52 : decode cX8_there 52 = .ok (.iinc 3 1, 3) := by decide +kernel
theorem dX8_there_55 : decode cX8_there 55 = .ok (.goto (-29), 3) := by decide +kernel
theorem dX8_there_58 : decode cX8_there 58 = .ok (.iload_n 2, 1) := by decide +kernel
theorem dX8_there_59 : decode cX8_there 59 = .ok (.ireturn, 1) := by decide +kernel
theorem dX8_at_0 : decode cX8_at 0 = .ok (.aload_n 0, 1) := by decide +kernel
theorem dX8_at_1 : decode cX8_at 1 = .ok (.iconst 0, 1) := by decide +kernel
theorem dX8_at_2 : decode cX8_at 2 = .ok (.putfield 78, 3) := by decide +kernel
theorem dX8_at_5 : decode cX8_at 5 = .ok (.iload_n 1, 1) := by decide +kernel
theorem dX8_at_6 : decode cX8_at 6 = .ok (.iload_n 2, 1) := by decide +kernel
theorem dX8_at_7 : decode cX8_at 7 = .ok (.invokestatic 108, 3) := by decide +kernel
theorem dX8_at_10 : decode cX8_at 10 = .ok (.ifCond .ne 6, 3) := by decide +kernel
theorem dX8_at_13 : decode cX8_at 13 = .ok (.bipush (-3), 2) := by decide +kernel
theorem dX8_at_15 : decode cX8_at 15 = .ok (.ireturn, 1) := by decide +kernel
theorem dX8_at_16 : decode cX8_at 16 = .ok (.iconst 0, 1) := by decide +kernel
theorem dX8_at_17 : decode cX8_at 17 = .ok (.istore_n 3, 1) := by decide +kernel
theorem dX8_at_18 : decode cX8_at 18 = .ok (.iload_n 3, 1) := by decide +kernel
theorem dX8_at_19 : decode cX8_at 19 = .ok (.aload_n 0, 1) := by decide +kernel
theorem dX8_at_20 : decode cX8_at 20 = .ok (.getfield 88, 3) := by decide +kernel
theorem dX8_at_23 : decode cX8_at 23 = .ok (.if_icmp .ge 43, 3) := by decide +kernel
theorem dX8_at_26 : decode cX8_at 26 = .ok (.aload_n 0, 1) := by decide +kernel
theorem dX8_at_27 : decode cX8_at 27 = .ok (.getfield 28, 3) := by decide +kernel
theorem dX8_at_30 : decode cX8_at 30 = .ok (.iload_n 3, 1) := by decide +kernel
theorem dX8_at_31 : decode cX8_at 31 = .ok (.iaload, 1) := by decide +kernel
theorem dX8_at_32 : decode cX8_at 32 = .ok (.bipush 16, 2) := by decide +kernel
theorem dX8_at_34 : decode cX8_at 34 = .ok (.if_icmp .eq 26, 3) := by decide +kernel
theorem dX8_at_37 : decode cX8_at 37 = .ok (.aload_n 0, 1) := by decide +kernel
theorem dX8_at_38 : decode cX8_at 38 = .ok (.iload_n 3, 1) := by decide +kernel
theorem dX8_at_39 : decode cX8_at 39 = .ok (.aload_n 0, 1) := by decide +kernel
theorem dX8_at_40 : decode cX8_at 40 = .ok (.getfield 28, 3) := by decide +kernel
theorem dX8_at_43 : decode cX8_at 43 = .ok (.iload_n 3, 1) := by decide +kernel
theorem dX8_at_44 : decode cX8_at 44 = .ok (.iaload, 1) := by decide +kernel
theorem dX8_at_45 : decode cX8_at 45 = .ok (.iconst 0, 1) := by decide +kernel
theorem dX8_at_46 : decode cX8_at 46 = .ok (.invokevirtual 134, 3) := by decide +kernel
theorem dX8_at_49 : decode cX8_at 49 = .ok (.aload_n 0, 1) := by decide +kernel
theorem dX8_at_50 : decode cX8_at 50 = .ok (.iload_n 1, 1) := by decide +kernel
theorem dX8_at_51 : decode cX8_at 51 = .ok (.iload_n 2, 1) := by decide +kernel
theorem dX8_at_52 : decode cX8_at 52 = .ok (.invokevirtual 138, 3) := by decide +kernel
theorem dX8_at_55 : decode cX8_at 55 = .ok (.ifCond .eq 5, 3) := by decide +kernel
theorem dX8_at_58 : decode cX8_at 58 = .ok (.iload_n 3, 1) := by decide +kernel
theorem dX8_at_59 : decode cX8_at 59 = .ok (.ireturn, 1) := by decide +kernel
theorem dX8_at_60 : decode cX8_at 60 = .ok (.iinc 3 1, 3) := by decide +kernel
theorem dX8_at_63 : decode cX8_at 63 = .ok (.goto (-45), 3) := by decide +kernel
theorem dX8_at_66 : decode cX8_at 66 = .ok (.iconst (-1), 1) := by decide +kernel
theorem dX8_at_67 : decode cX8_at 67 = .ok (.ireturn, 1) := by decide +kernel
theorem dX8_find_0 : decode cX8_find 0 = .ok (.aload_n 0, 1) := by decide +kernel
theorem dX8_find_1 : decode cX8_find 1 = .ok (.iconst 0, 1) := by decide +kernel
theorem dX8_find_2 : decode cX8_find 2 = .ok (.putfield 78, 3) := by decide +kernel
theorem dX8_find_5 : decode cX8_find 5 = .ok (.iload_n 1, 1) := by decide +kernel
theorem dX8_find_6 : decode cX8_find 6 = .ok (.iload_n 2, 1) := by decide +kernel
theorem dX8_find_7 : decode cX8_find 7 = .ok (.invokestatic 108, 3) := by decide +kernel
theorem dX8_find_10 : decode cX8_find 10 = .ok (.ifCond .eq 31, 3) := by decide +kernel
theorem dX8_find_13 : decode cX8_find 13 = .ok (.iload_n 3, 1) := by decide +kernel
theorem dX8_find_14 : decode cX8_find 14 = .ok (.iconst 1, 1) := by decide +kernel
theorem dX8_find_15 : decode cX8_find 15 = .ok (.sipush 1000, 3) := by decide +kernel
theorem dX8_find_18 : decode cX8_find 18 = .ok (.invokestatic 104, 3) := by decide +kernel
theorem dX8_find_21 : decode cX8_find 21 = .ok (.ifCond .eq 20, 3) := by decide +kernel
theorem dX8_find_24 : decode cX8_find 24 = .ok (.iload 4, 2) := by decide +kernel
theorem dX8_find_26 : decode cX8_find 26 = .ok (.iconst 1, 1) := by decide +kernel
theorem dX8_find_27 : decode cX8_find 27 = .ok (.sipush 1000, 3) := by decide +kernel
theorem dX8_find_30 : decode cX8_find 30 = .ok (.invokestatic 104, 3) := by decide +kernel
theorem dX8_find_33 : decode cX8_find 33 = .ok (.ifCond .eq 8, 3) := by decide +kernel
theorem dX8_find_36 : decode cX8_find 36 = .ok (.iload 5, 2) := by decide +kernel
theorem dX8_find_38 : decode cX8_find 38 = .ok (.ifCond .ge 6, 3) := by decide +kernel
theorem dX8_find_41 : decode cX8_find 41 = .ok (.bipush (-3), 2) := by decide +kernel
theorem dX8_find_43 : decode cX8_find 43 = .ok (.ireturn, 1) := by decide +kernel
theorem dX8_find_44 : decode cX8_find 44 = .ok (.iload 5, 2) := by decide +kernel
theorem dX8_find_46 : decode cX8_find 46 = .ok (.istore 6, 2) := by decide +kernel
theorem dX8_find_48 : decode cX8_find 48 = .ok (.iconst 0, 1) := by decide +kernel
theorem dX8_find_49 : decode cX8_find 49 = .ok (.istore 7, 2) := by decide +kernel
theorem dX8_find_51 : decode cX8_find 51 = .ok (.iload 7, 2) := by decide +kernel
theorem dX8_find_53 : decode cX8_find 53 = .ok (.aload_n 0, 1) := by decide +kernel
theorem dX8_find_54 : decode cX8_find 54 = .ok (.getfield 88, 3) := by decide +kernel
theorem dX8_find_57 : decode cX8_find 57 = .ok (.if_icmp .ge 93, 3) := by decide +kernel
theorem dX8_find_60 : decode cX8_find 60 = .ok (.aload_n 0, 1) := by decide +kernel
theorem dX8_find_61 : decode cX8_find 61 = .ok (.getfield 28, 3) := by decide +kernel
theorem dX8_find_64 : decode cX8_find 64 = .ok (.iload 7, 2) := by decide +kernel
theorem dX8_find_66 : decode cX8_find 66 = .ok (.iaload, 1) := by decide +kernel
theorem dX8_find_67 : decode cX8_find 67 = .ok (.bipush 16, 2) := by decide +kernel
theorem dX8_find_69 : decode cX8_find 69 = .ok (.if_icmp .eq 75, 3) := by decide +kernel
theorem dX8_find_72 : decode cX8_find 72 = .ok (.aload_n 0, 1) := by decide +kernel
theorem dX8_find_73 : decode cX8_find 73 = .ok (.iload 7, 2) := by decide +kernel
theorem dX8_find_75 : decode cX8_find 75 = .ok (.aload_n 0, 1) := by decide +kernel
theorem dX8_find_76 : decode cX8_find 76 = .ok (.getfield 28, 3) := by decide +kernel
theorem dX8_find_79 : decode cX8_find 79 = .ok (.iload 7, 2) := by decide +kernel
theorem dX8_find_81 : decode cX8_find 81 = .ok (.iaload, 1) := by decide +kernel
theorem dX8_find_82 : decode cX8_find 82 = .ok (.iconst 0, 1) := by decide +kernel
theorem dX8_find_83 : decode cX8_find 83 = .ok (.invokevirtual 134, 3) := by decide +kernel
theorem dX8_find_86 : decode cX8_find 86 = .ok (.aload_n 0, 1) := by decide +kernel
theorem dX8_find_87 : decode cX8_find 87 = .ok (.getfield 122, 3) := by decide +kernel
theorem dX8_find_90 : decode cX8_find 90 = .ok (.iload_n 1, 1) := by decide +kernel
theorem dX8_find_91 : decode cX8_find 91 = .ok (.iload_n 3, 1) := by decide +kernel
theorem dX8_find_92 : decode cX8_find 92 = .ok (.iadd, 1) := by decide +kernel
theorem dX8_find_93 : decode cX8_find 93 = .ok (.if_icmp .ge 51, 3) := by decide +kernel
theorem dX8_find_96 : decode cX8_find 96 = .ok (.iload_n 1, 1) := by decide +kernel
theorem dX8_find_97 : decode cX8_find 97 = .ok (.aload_n 0, 1) := by decide +kernel
theorem dX8_find_98 : decode cX8_find 98 = .ok (.getfield 122, 3) := by decide +kernel
theorem dX8_find_101 : decode cX8_find 101 = .ok (.aload_n 0, 1) := by decide +kernel
theorem dX8_find_102 : decode cX8_find 102 = .ok (.getfield 128, 3) := by decide +kernel
theorem dX8_find_105 : decode cX8_find 105 = .ok (.iadd, 1) := by decide +kernel
theorem dX8_find_106 : decode cX8_find 106 = .ok (.if_icmp .ge 38, 3) := by decide +kernel
theorem dX8_find_109 : decode cX8_find 109 = .ok (.aload_n 0, 1) := by decide +kernel
theorem dX8_find_110 : decode cX8_find 110 = .ok (.getfield 125, 3) := by decide +kernel
theorem dX8_find_113 : decode cX8_find 113 = .ok (.iload_n 2, 1) := by decide +kernel
theorem dX8_find_114 : decode cX8_find 114 = .ok (.iload 4, 2) := by decide +kernel
theorem dX8_find_116 : decode cX8_find 116 = .ok (.iadd, 1) := by decide +kernel
theorem dX8_find_117 : decode cX8_find 117 = .ok (.if_icmp .ge 27, 3) := by decide +kernel
theorem dX8_find_120 : decode cX8_find 120 = .ok (.iload_n 2, 1) := by decide +kernel
theorem dX8_find_121 : decode cX8_find 121 = .ok (.aload_n 0, 1) := by decide +kernel
theorem dX8_find_122 : decode cX8_find 122 = .ok (.getfield 125, 3) := by decide +kernel
theorem dX8_find_125 : decode cX8_find 125 = .ok (.aload_n 0, 1) := by decide +kernel
theorem dX8_find_126 : decode cX8_find 126 = .ok (.getfield 131, 3) := by decide +kernel
theorem dX8_find_129 : decode cX8_find 129 = .ok (.iadd, 1) := by decide +kernel
theorem dX8_find_130 : decode cX8_find 130 = .ok (.if_icmp .ge 14, 3) := by decide +kernel
theorem dX8_find_133 : decode cX8_find 133 = .ok (.iload 6, 2) := by decide +kernel
theorem dX8_find_135 : decode cX8_find 135 = .ok (.ifCond .ne 6, 3) := by decide +kernel
theorem dX8_find_138 : decode cX8_find 138 = .ok (.iload 7, 2) := by decide +kernel
theorem dX8_find_140 : decode cX8_find 140 = .ok (.ireturn, 1) := by decide +kernel
theorem dX8_find_141 : decode cX8_find 141 = .ok (.iinc 6 (-1), 3) := by decide +kernel
theorem dX8_find_144 : decode cX8_find 144 = .ok (.iinc 7 1, 3) := by decide +kernel
theorem dX8_find_147 : decode cX8_find 147 = .ok (.goto (-96), 3) := by decide +kernel
theorem dX8_find_150 : decode cX8_find 150 = .ok (.iconst (-1), 1) := by decide +kernel
theorem dX8_find_151 : decode cX8_find 151 = .ok (.ireturn, 1) := by decide +kernel
theorem dX8_count_0 : decode cX8_count 0 = .ok (.aload_n 0, 1) := by decide +kernel
theorem dX8_count_1 : decode cX8_count 1 = .ok (.iconst 0, 1) := by decide +kernel
theorem dX8_count_2 : decode cX8_count 2 = .ok (.putfield 78, 3) := by decide +kernel
theorem dX8_count_5 : decode cX8_count 5 = .ok (.iconst 0, 1) := by decide +kernel
theorem dX8_count_6 : decode cX8_count 6 = .ok (.istore_n 2, 1) := by decide +kernel
theorem dX8_count_7 : decode cX8_count 7 = .ok (.iload_n 1, 1) := by decide +kernel
theorem dX8_count_8 : decode cX8_count 8 = .ok (.tableswitch 133 0 5 #[40, 45, 50, 87, 92, 128], 40) := by decide +kernel
theorem dX8_count_48 : decode cX8_count 48 = .ok (.aload_n 0, 1) := by decide +kernel
theorem dX8_count_49 : decode cX8_count 49 = .ok (.getfield 88, 3) := by decide +kernel
theorem dX8_count_52 : decode cX8_count 52 = .ok (.ireturn, 1) := by decide +kernel
theorem dX8_count_53 : decode cX8_count 53 = .ok (.aload_n 0, 1) := by decide +kernel
theorem dX8_count_54 : decode cX8_count 54 = .ok (.getfield 91, 3) := by decide +kernel
theorem dX8_count_57 : decode cX8_count 57 = .ok (.ireturn, 1) := by decide +kernel
theorem dX8_count_58 : decode cX8_count 58 = .ok (.iconst 0, 1) := by decide +kernel
theorem dX8_count_59 : decode cX8_count 59 = .ok (.istore_n 3, 1) := by decide +kernel
theorem dX8_count_60 : decode cX8_count 60 = .ok (.iload_n 3, 1) := by decide +kernel
theorem dX8_count_61 : decode cX8_count 61 = .ok (.aload_n 0, 1) := by decide +kernel
theorem dX8_count_62 : decode cX8_count 62 = .ok (.getfield 88, 3) := by decide +kernel
theorem dX8_count_65 : decode cX8_count 65 = .ok (.if_icmp .ge 28, 3) := by decide +kernel
theorem dX8_count_68 : decode cX8_count 68 = .ok (.iload_n 2, 1) := by decide +kernel
theorem dX8_count_69 : decode cX8_count 69 = .ok (.aload_n 0, 1) := by decide +kernel
theorem dX8_count_70 : decode cX8_count 70 = .ok (.getfield 28, 3) := by decide +kernel
theorem dX8_count_73 : decode cX8_count 73 = .ok (.iload_n 3, 1) := by decide +kernel
theorem dX8_count_74 : decode cX8_count 74 = .ok (.iaload, 1) := by decide +kernel
theorem dX8_count_75 : decode cX8_count 75 = .ok (.bipush 16, 2) := by decide +kernel
theorem dX8_count_77 : decode cX8_count 77 = .ok (.if_icmp .ne 7, 3) := by decide +kernel
theorem dX8_count_80 : decode cX8_count 80 = .ok (.iconst 1, 1) := by decide +kernel
theorem dX8_count_81 : decode cX8_count 81 = .ok (.goto 4, 3) := by decide +kernel
theorem dX8_count_84 : decode cX8_count 84 = .ok (.iconst 0, 1) := by decide +kernel
theorem dX8_count_85 : decode cX8_count 85 = .ok (.iadd, 1) := by decide +kernel
theorem dX8_count_86 : decode cX8_count 86 = .ok (.istore_n 2, 1) := by decide +kernel
theorem dX8_count_87 : decode cX8_count 87 = .ok (.iinc 3 1, 3) := by decide +kernel
theorem dX8_count_90 : decode cX8_count 90 = .ok (.goto (-30), 3) := by decide +kernel
theorem dX8_count_93 : decode cX8_count 93 = .ok (.iload_n 2, 1) := by decide +kernel
theorem dX8_count_94 : decode cX8_count 94 = .ok (.ireturn, 1) := by decide +kernel
theorem dX8_count_95 : decode cX8_count 95 = .ok (.aload_n 0, 1) := by decide +kernel
theorem dX8_count_96 : decode cX8_count 96 = .ok (.getfield 98, 3) := by decide +kernel
theorem dX8_count_99 : decode cX8_count 99 = .ok (.ireturn, 1) := by decide +kernel
theorem dX8_count_100 : decode cX8_count 100 = .ok (.iconst 0, 1) := by decide +kernel
theorem dX8_count_101 : decode cX8_count 101 = .ok (.istore_n 3, 1) := by decide +kernel
theorem dX8_count_102 : decode cX8_count 102 = .ok (.iload_n 3, 1) := by decide +kernel
theorem dX8_count_103 : decode cX8_count 103 = .ok (.aload_n 0, 1) := by decide +kernel
theorem dX8_count_104 : decode cX8_count 104 = .ok (.getfield 88, 3) := by decide +kernel
theorem dX8_count_107 : decode cX8_count 107 = .ok (.if_icmp .ge 27, 3) := by decide +kernel
theorem dX8_count_110 : decode cX8_count 110 = .ok (.iload_n 2, 1) := by decide +kernel
theorem dX8_count_111 : decode cX8_count 111 = .ok (.aload_n 0, 1) := by decide +kernel
theorem dX8_count_112 : decode cX8_count 112 = .ok (.getfield 7, 3) := by decide +kernel
theorem dX8_count_115 : decode cX8_count 115 = .ok (.iload_n 3, 1) := by decide +kernel
theorem dX8_count_116 : decode cX8_count 116 = .ok (.iaload, 1) := by decide +kernel
theorem dX8_count_117 : decode cX8_count 117 = .ok (.iconst 3, 1) := by decide +kernel
theorem dX8_count_118 : decode cX8_count 118 = .ok (.if_icmp .ne 7, 3) := by decide +kernel
theorem dX8_count_121 : decode cX8_count 121 = .ok (.iconst 1, 1) := by decide +kernel
theorem dX8_count_122 : decode cX8_count 122 = .ok (.goto 4, 3) := by decide +kernel
theorem dX8_count_125 : decode cX8_count 125 = .ok (.iconst 0, 1) := by decide +kernel
theorem dX8_count_126 : decode cX8_count 126 = .ok (.iadd, 1) := by decide +kernel
theorem dX8_count_127 : decode cX8_count 127 = .ok (.istore_n 2, 1) := by decide +kernel
theorem dX8_count_128 : decode cX8_count 128 = .ok (.iinc 3 1, 3) := by decide +kernel
theorem dX8_count_131 : decode cX8_count 131 = .ok (.goto (-29), 3) := by decide +kernel
theorem dX8_count_134 : decode cX8_count 134 = .ok (.iload_n 2, 1) := by decide +kernel
theorem dX8_count_135 : decode cX8_count 135 = .ok (.ireturn, 1) := by decide +kernel
theorem dX8_count_136 : decode cX8_count 136 = .ok (.aload_n 0, 1) := by decide +kernel
theorem dX8_count_137 : decode cX8_count 137 = .ok (.invokevirtual 240, 3) := by decide +kernel
theorem dX8_count_140 : decode cX8_count 140 = .ok (.ireturn, 1) := by decide +kernel
theorem dX8_count_141 : decode cX8_count 141 = .ok (.bipush (-3), 2) := by decide +kernel
theorem dX8_count_143 : decode cX8_count 143 = .ok (.ireturn, 1) := by decide +kernel
