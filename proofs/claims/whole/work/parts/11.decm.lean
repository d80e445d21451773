theorem dX10_thrown_0 : decode cX10_thrown 0 = .ok (.aload_n 0, 1) := by decide +kernel
theorem dX10_thrown_1 : decode cX10_thrown 1 = .ok (.getfield 60, 3) := by decide +kernel
theorem dX10_thrown_4 : decode cX10_thrown 4 = .ok (.ireturn, 1) := by decide +kernel
theorem dX10_goesWell_0 : decode cX10_goesWell 0 = .ok (.aload_n 0, 1) := by decide +kernel
theorem dX10_goesWell_1 : decode cX10_goesWell 1 = .ok (.iload_n 1, 1) := by decide +kernel
theorem dX10_goesWell_2 : decode cX10_goesWell 2 = .ok (.putfield 60, 3) := by decide +kernel
theorem dX10_goesWell_5 : decode cX10_goesWell 5 = .ok (.iload_n 1, 1) := by decide +kernel
theorem dX10_goesWell_6 : decode cX10_goesWell 6 = .ok (.ifCond .ne 7, 3) := by decide +kernel
theorem dX10_goesWell_9 : decode cX10_goesWell 9 = .ok (.iconst 1, 1) := by decide +kernel
theorem dX10_goesWell_10 : decode cX10_goesWell 10 = .ok (.goto 4, 3) := by decide +kernel
theorem dX10_goesWell_13 : decode cX10_goesWell 13 = .ok (.iconst 0, 1) := by decide +kernel
theorem dX10_goesWell_14 : decode cX10_goesWell 14 = .ok (.ireturn, 1) := by decide +kernel
theorem dX10_in_0 : decode cX10_in 0 = .ok (.lload_n 0, 1) := by decide +kernel
theorem dX10_in_1 : decode cX10_in 1 = .ok (.lload_n 2, 1) := by decide +kernel
theorem dX10_in_2 : decode cX10_in 2 = .ok (.lcmp, 1) := by decide +kernel
theorem dX10_in_3 : decode cX10_in 3 = .ok (.ifCond .lt 14, 3) := by decide +kernel
theorem dX10_in_6 : decode cX10_in 6 = .ok (.lload_n 0, 1) := by decide +kernel
theorem dX10_in_7 : decode cX10_in 7 = .ok (.lload 4, 2) := by decide +kernel
theorem dX10_in_9 : decode cX10_in 9 = .ok (.lcmp, 1) := by decide +kernel
theorem dX10_in_10 : decode cX10_in 10 = .ok (.ifCond .gt 7, 3) := by decide +kernel
theorem dX10_in_13 : decode cX10_in 13 = .ok (.iconst 1, 1) := by decide +kernel
theorem dX10_in_14 : decode cX10_in 14 = .ok (.goto 4, 3) := by decide +kernel
theorem dX10_in_17 : decode cX10_in 17 = .ok (.iconst 0, 1) := by decide +kernel
theorem dX10_in_18 : decode cX10_in 18 = .ok (.ireturn, 1) := by decide +kernel
theorem dX10_isPage_0 : decode cX10_isPage 0 = .ok (.iload_n 0, 1) := by decide +kernel
theorem dX10_isPage_1 : decode cX10_isPage 1 = .ok (.i2l, 1) := by decide +kernel
theorem dX10_isPage_2 : decode cX10_isPage 2 = .ok (.lconst 0, 1) := by decide +kernel
theorem dX10_isPage_3 : decode cX10_isPage 3 = .ok (.ldc2_w 63, 3) := by decide +kernel
theorem dX10_isPage_6 : decode cX10_isPage 6 = .ok (.invokestatic 65, 3) := by decide +kernel
theorem dX10_isPage_9 : decode cX10_isPage 9 = .ok (.ireturn, 1) := by decide +kernel
theorem dX10_empty_0 : decode cX10_empty 0 = .ok (.aload_n 0, 1) := by decide +kernel
theorem dX10_empty_1 : decode cX10_empty 1 = .ok (.iconst 0, 1) := by decide +kernel
theorem dX10_empty_2 : decode cX10_empty 2 = .ok (.putfield 69, 3) := by decide +kernel
theorem dX10_empty_5 : decode cX10_empty 5 = .ok (.aload_n 0, 1) := by decide +kernel
theorem dX10_empty_6 : decode cX10_empty 6 = .ok (.iconst 0, 1) := by decide +kernel
theorem dX10_empty_7 : decode cX10_empty 7 = .ok (.putfield 72, 3) := by decide +kernel
theorem dX10_empty_10 : decode cX10_empty 10 = .ok (.aload_n 0, 1) := by decide +kernel
theorem dX10_empty_11 : decode cX10_empty 11 = .ok (.iconst 0, 1) := by decide +kernel
theorem dX10_empty_12 : decode cX10_empty 12 = .ok (.putfield 75, 3) := by decide +kernel
theorem dX10_empty_15 : decode cX10_empty 15 = .ok (.aload_n 0, 1) := by decide +kernel
theorem dX10_empty_16 : decode cX10_empty 16 = .ok (.iconst 0, 1) := by decide +kernel
theorem dX10_empty_17 : decode cX10_empty 17 = .ok (.putfield 78, 3) := by decide +kernel
theorem dX10_empty_20 : decode cX10_empty 20 = .ok (.aload_n 0, 1) := by decide +kernel
theorem dX10_empty_21 : decode cX10_empty 21 = .ok (.iconst 0, 1) := by decide +kernel
theorem dX10_empty_22 : decode cX10_empty 22 = .ok (.putfield 81, 3) := by decide +kernel
theorem dX10_empty_25 : decode cX10_empty 25 = .ok (.aload_n 0, 1) := by decide +kernel
theorem dX10_empty_26 : decode cX10_empty 26 = .ok (.iconst 0, 1) := by decide +kernel
theorem dX10_empty_27 : decode cX10_empty 27 = .ok (.putfield 84, 3) := by decide +kernel
theorem dX10_empty_30 : decode cX10_empty 30 = .ok (.aload_n 0, 1) := by decide +kernel
theorem dX10_empty_31 : decode cX10_empty 31 = .ok (.iconst 0, 1) := by decide +kernel
theorem dX10_empty_32 : decode cX10_empty 32 = .ok (.putfield 87, 3) := by decide +kernel
theorem dX10_empty_35 : decode cX10_empty 35 = .ok (.iconst 0, 1) := by decide +kernel
theorem dX10_empty_36 : decode cX10_empty 36 = .ok (.istore_n 1, 1) := by decide +kernel
theorem dX10_empty_37 : decode cX10_empty 37 = .ok (.iload_n 1, 1) := by decide +kernel
theorem dX10_empty_38 : decode cX10_empty 38 = .ok (.iconst 4, 1) := by decide +kernel
theorem dX10_empty_39 : decode cX10_empty 39 = .ok (.if_icmp .ge 16, 3) := by decide +kernel
theorem dX10_empty_42 : decode cX10_empty 42 = .ok (.aload_n 0, 1) := by decide +kernel
theorem dX10_empty_43 : decode cX10_empty 43 = .ok (.getfield 20, 3) := by decide +kernel
theorem dX10_empty_46 : decode cX10_empty 46 = .ok (.iload_n 1, 1) := by decide +kernel
theorem dX10_empty_47 : decode cX10_empty 47 = .ok (.iconst 0, 1) := by decide +kernel
theorem dX10_empty_48 : decode cX10_empty 48 = .ok (.iastore, 1) := by decide +kernel
theorem dX10_empty_49 : decode cX10_empty 49 = .ok (.iinc 1 1, 3) := by decide +kernel
theorem dX10_empty_52 : decode cX10_empty 52 = .ok (.goto (-15), 3) := by decide +kernel
theorem dX10_empty_55 : decode cX10_empty 55 = .ok (.iconst 0, 1) := by decide +kernel
theorem dX10_empty_56 : decode cX10_empty 56 = .ok (.istore_n 1, 1) := by decide +kernel
theorem dX10_empty_57 : decode cX10_empty 57 = .ok (.iload_n 1, 1) := by decide +kernel
theorem dX10_empty_58 : decode cX10_empty 58 = .ok (.bipush 16, 2) := by decide +kernel
theorem dX10_empty_60 : decode cX10_empty 60 = .ok (.if_icmp .ge 23, 3) := by decide +kernel
theorem dX10_empty_63 : decode cX10_empty 63 = .ok (.aload_n 0, 1) := by decide +kernel
theorem dX10_empty_64 : decode cX10_empty 64 = .ok (.getfield 42, 3) := by decide +kernel
theorem dX10_empty_67 : decode cX10_empty 67 = .ok (.iload_n 1, 1) := by decide +kernel
theorem dX10_empty_68 : decode cX10_empty 68 = .ok (.iconst (-1), 1) := by decide +kernel
theorem dX10_empty_69 : decode cX10_empty 69 = .ok (.iastore, 1) := by decide +kernel
theorem dX10_empty_70 : decode cX10_empty 70 = .ok (.aload_n 0, 1) := by decide +kernel
theorem dX10_empty_71 : decode cX10_empty 71 = .ok (.getfield 45, 3) := by decide +kernel
theorem dX10_empty_74 : decode cX10_empty 74 = .ok (.iload_n 1, 1) := by decide +kernel
theorem dX10_empty_75 : decode cX10_empty 75 = .ok (.iconst 0, 1) := by decide +kernel
theorem dX10_empty_76 : decode cX10_empty 76 = .ok (.bastore, 1) := by decide +kernel
theorem dX10_empty_77 : decode cX10_empty 77 = .ok (.iinc 1 1, 3) := by decide +kernel
theorem dX10_empty_80 : decode cX10_empty 80 = .ok (.goto (-23), 3) := by decide +kernel
theorem dX10_empty_83 : decode cX10_empty 83 = .ok (.iconst 0, 1) := by decide +kernel
theorem dX10_empty_84 : decode cX10_empty 84 = .ok (.istore_n 1, 1) := by decide +kernel
theorem dX10_empty_85 : decode cX10_empty 85 = .ok (.iload_n 1, 1) := by decide +kernel
theorem dX10_empty_86 : decode cX10_empty 86 = .ok (.bipush 64, 2) := by decide +kernel
theorem dX10_empty_88 : decode cX10_empty 88 = .ok (.if_icmp .ge 58, 3) := by decide +kernel
theorem dX10_empty_91 : decode cX10_empty 91 = .ok (.aload_n 0, 1) := by decide +kernel
theorem dX10_empty_92 : decode cX10_empty 92 = .ok (.getfield 23, 3) := by decide +kernel
theorem dX10_empty_95 : decode cX10_empty 95 = .ok (.iload_n 1, 1) := by decide +kernel
theorem dX10_empty_96 : decode cX10_empty 96 = .ok (.iconst 0, 1) := by decide +kernel
theorem dX10_empty_97 : decode cX10_empty 97 = .ok (.iastore, 1) := by decide +kernel
theorem dX10_empty_98 : decode cX10_empty 98 = .ok (.aload_n 0, 1) := by decide +kernel
theorem dX10_empty_99 : decode cX10_empty 99 = .ok (.getfield 26, 3) := by decide +kernel
theorem dX10_empty_102 : decode cX10_empty 102 = .ok (.iload_n 1, 1) := by decide +kernel
theorem dX10_empty_103 : decode cX10_empty 103 = .ok (.iconst 0, 1) := by decide +kernel
theorem dX10_empty_104 : decode cX10_empty 104 = .ok (.iastore, 1) := by decide +kernel
theorem dX10_empty_105 : decode cX10_empty 105 = .ok (.aload_n 0, 1) := by decide +kernel
theorem dX10_empty_106 : decode cX10_empty 106 = .ok (.getfield 29, 3) := by decide +kernel
theorem dX10_empty_109 : decode cX10_empty 109 = .ok (.iload_n 1, 1) := by decide +kernel
theorem dX10_empty_110 : decode cX10_empty 110 = .ok (.iconst 0, 1) := by decide +kernel
theorem dX10_empty_111 : decode cX10_empty 111 = .ok (.bastore, 1) := by decide +kernel
theorem dX10_empty_112 : decode cX10_empty 112 = .ok (.aload_n 0, 1) := by decide +kernel
theorem dX10_empty_113 : decode cX10_empty 113 = .ok (.getfield 33, 3) := by decide +kernel
theorem dX10_empty_116 : decode cX10_empty 116 = .ok (.iload_n 1, 1) := by decide +kernel
theorem dX10_empty_117 : decode cX10_empty 117 = .ok (.iconst (-1), 1) := by decide +kernel
theorem dX10_empty_118 : decode cX10_empty 118 = .ok (.iastore, 1) := by decide +kernel
theorem dX10_empty_119 : decode cX10_empty 119 = .ok (.aload_n 0, 1) := by decide +kernel
theorem dX10_empty_120 : decode cX10_empty 120 = .ok (.getfield 36, 3) := by decide +kernel
theorem dX10_empty_123 : decode cX10_empty 123 = .ok (.iload_n 1, 1) := by decide +kernel
theorem dX10_empty_124 : decode cX10_empty 124 = .ok (.iconst (-1), 1) := by decide +kernel
theorem dX10_empty_125 : decode cX10_empty 125 = .ok (.iastore, 1) := by decide +kernel
theorem dX10_empty_126 : decode cX10_empty 126 = .ok (.aload_n 0, 1) := by decide +kernel
theorem dX10_empty_127 : decode cX10_empty 127 = .ok (.getfield 48, 3) := by decide +kernel
theorem dX10_empty_130 : decode cX10_empty 130 = .ok (.iload_n 1, 1) := by decide +kernel
theorem dX10_empty_131 : decode cX10_empty 131 = .ok (.iconst 0, 1) := by decide +kernel
theorem dX10_empty_132 : decode cX10_empty 132 = .ok (.iastore, 1) := by decide +kernel
theorem dX10_empty_133 : decode cX10_empty 133 = .ok (.aload_n 0, 1) := by decide +kernel
theorem dX10_empty_134 : decode cX10_empty 134 = .ok (.getfield 51, 3) := by decide +kernel
theorem dX10_empty_137 : decode cX10_empty 137 = .ok (.iload_n 1, 1) := by decide +kernel
theorem dX10_empty_138 : decode cX10_empty 138 = .ok (.iconst 0, 1) := by decide +kernel
theorem dX10_empty_139 : decode cX10_empty 139 = .ok (.iastore, 1) := by decide +kernel
theorem dX10_empty_140 : decode cX10_empty 140 = .ok (.iinc 1 1, 3) := by decide +kernel
theorem dX10_empty_143 : decode cX10_empty 143 = .ok (.goto (-58), 3) := by decide +kernel
theorem dX10_empty_146 : decode cX10_empty 146 = .ok (.iconst 0, 1) := by decide +kernel
theorem dX10_empty_147 : decode cX10_empty 147 = .ok (.istore_n 1, 1) := by decide +kernel
theorem dX10_empty_148 : decode cX10_empty 148 = .ok (.iload_n 1, 1) := by decide +kernel
theorem dX10_empty_149 : decode cX10_empty 149 = .ok (.sipush 400, 3) := by decide +kernel
theorem dX10_empty_152 : decode cX10_empty 152 = .ok (.if_icmp .gt 16, 3) := by decide +kernel
theorem dX10_empty_155 : decode cX10_empty 155 = .ok (.aload_n 0, 1) := by decide +kernel
theorem dX10_empty_156 : decode cX10_empty 156 = .ok (.getfield 39, 3) := by decide +kernel
theorem dX10_empty_159 : decode cX10_empty 159 = .ok (.iload_n 1, 1) := by decide +kernel
theorem dX10_empty_160 : decode cX10_empty 160 = .ok (.iconst 0, 1) := by decide +kernel
theorem dX10_empty_161 : decode cX10_empty 161 = .ok (.iastore, 1) := by decide +kernel
theorem dX10_empty_162 : decode cX10_empty 162 = .ok (.iinc 1 1, 3) := by decide +kernel
theorem dX10_empty_165 : decode cX10_empty 165 = .ok (.goto (-17), 3) := by decide +kernel
theorem dX10_empty_168 : decode cX10_empty 168 = .ok (.return_, 1) := by decide +kernel
theorem dX10_begin_0 : decode cX10_begin 0 = .ok (.aload_n 0, 1) := by decide +kernel
theorem dX10_begin_1 : decode cX10_begin 1 = .ok (.iload_n 1, 1) := by decide +kernel
theorem dX10_begin_2 : decode cX10_begin 2 = .ok (.i2l, 1) := by decide +kernel
theorem dX10_begin_3 : decode cX10_begin 3 = .ok (.lconst 1, 1) := by decide +kernel
theorem dX10_begin_4 : decode cX10_begin 4 = .ok (.ldc2_w 90, 3) := by decide +kernel
theorem dX10_begin_7 : decode cX10_begin 7 = .ok (.invokestatic 65, 3) := by decide +kernel
theorem dX10_begin_10 : decode cX10_begin 10 = .ok (.ifCond .eq 19, 3) := by decide +kernel
theorem dX10_begin_13 : decode cX10_begin 13 = .ok (.iload_n 2, 1) := by decide +kernel
theorem dX10_begin_14 : decode cX10_begin 14 = .ok (.i2l, 1) := by decide +kernel
theorem dX10_begin_15 : decode cX10_begin 15 = .ok (.lconst 1, 1) := by decide +kernel
theorem dX10_begin_16 : decode cX10_begin 16 = .ok (.ldc2_w 92, 3) := by decide +kernel
theorem dX10_begin_19 : decode cX10_begin 19 = .ok (.invokestatic 65, 3) := by decide +kernel
theorem dX10_begin_22 : decode cX10_begin 22 = .ok (.ifCond .eq 7, 3) := by decide +kernel
theorem dX10_begin_25 : decode cX10_begin 25 = .ok (.iconst 0, 1) := by decide +kernel
theorem dX10_begin_26 : decode cX10_begin 26 = .ok (.goto 4, 3) := by decide +kernel
theorem dX10_begin_29 : decode cX10_begin 29 = .ok (.iconst 1, 1) := by decide +kernel
theorem dX10_begin_30 : decode cX10_begin 30 = .ok (.invokevirtual 94, 3) := by decide +kernel
theorem dX10_begin_33 : decode cX10_begin 33 = .ok (.ifCond .eq 17, 3) := by decide +kernel
theorem dX10_begin_36 : decode cX10_begin 36 = .ok (.aload_n 0, 1) := by decide +kernel
theorem dX10_begin_37 : decode cX10_begin 37 = .ok (.iload_n 1, 1) := by decide +kernel
theorem dX10_begin_38 : decode cX10_begin 38 = .ok (.putfield 7, 3) := by decide +kernel
theorem dX10_begin_41 : decode cX10_begin 41 = .ok (.aload_n 0, 1) := by decide +kernel
theorem dX10_begin_42 : decode cX10_begin 42 = .ok (.iload_n 2, 1) := by decide +kernel
theorem dX10_begin_43 : decode cX10_begin 43 = .ok (.putfield 13, 3) := by decide +kernel
theorem dX10_begin_46 : decode cX10_begin 46 = .ok (.aload_n 0, 1) := by decide +kernel
theorem dX10_begin_47 : decode cX10_begin 47 = .ok (.invokevirtual 57, 3) := by decide +kernel
theorem dX10_begin_50 : decode cX10_begin 50 = .ok (.return_, 1) := by decide +kernel
theorem dX10_heldRecent_0 : decode cX10_heldRecent 0 = .ok (.iconst 0, 1) := by decide +kernel
theorem dX10_heldRecent_1 : decode cX10_heldRecent 1 = .ok (.istore_n 1, 1) := by decide +kernel
theorem dX10_heldRecent_2 : decode cX10_heldRecent 2 = .ok (.iconst 0, 1) := by decide +kernel
theorem dX10_heldRecent_3 : decode cX10_heldRecent 3 = .ok (.istore_n 2, 1) := by decide +kernel
theorem dX10_heldRecent_4 : decode cX10_heldRecent 4 = .ok (.iload_n 2, 1) := by decide +kernel
theorem dX10_heldRecent_5 : decode cX10_heldRecent 5 = .ok (.bipush 64, 2) := by decide +kernel
theorem dX10_heldRecent_7 : decode cX10_heldRecent 7 = .ok (.if_icmp .ge 26, 3) := by decide +kernel
theorem dX10_heldRecent_10 : decode cX10_heldRecent 10 = .ok (.iload_n 1, 1) := by decide +kernel
theorem dX10_heldRecent_11 : decode cX10_heldRecent 11 = .ok (.aload_n 0, 1) := by decide +kernel
theorem dX10_heldRecent_12 : decode cX10_heldRecent 12 = .ok (.getfield 23, 3) := by decide +kernel
theorem dX10_heldRecent_15 : decode cX10_heldRecent 15 = .ok (.iload_n 2, 1) := by decide +kernel
theorem dX10_heldRecent_16 : decode cX10_heldRecent 16 = .ok (.iaload, 1) := by decide +kernel
theorem dX10_heldRecent_17 : decode cX10_heldRecent 17 = .ok (.ifCond .le 7, 3) := by decide +kernel
theorem dX10_heldRecent_20 : decode cX10_heldRecent 20 = .ok (.iconst 1, 1) := by decide +kernel
theorem dX10_heldRecent_21 : decode cX10_heldRecent 21 = .ok (.goto 4, 3) := by decide +kernel
theorem dX10_heldRecent_24 : decode cX10_heldRecent 24 = .ok (.iconst 0, 1) := by decide +kernel
theorem dX10_heldRecent_25 : decode cX10_heldRecent 25 = .ok (.iadd, 1) := by decide +kernel
theorem dX10_heldRecent_26 : decode cX10_heldRecent 26 = .ok (.istore_n 1, 1) := by decide +kernel
theorem dX10_heldRecent_27 : decode cX10_heldRecent 27 = .ok (.iinc 2 1, 3) := by decide +kernel
theorem dX10_heldRecent_30 : decode cX10_heldRecent 30 = .ok (.goto (-26), 3) := by decide +kernel
theorem dX10_heldRecent_33 : decode cX10_heldRecent 33 = .ok (.iload_n 1, 1) := by decide +kernel
theorem dX10_heldRecent_34 : decode cX10_heldRecent 34 = .ok (.ireturn, 1) := by decide +kernel
theorem dX10_oldestRecent_0 : decode cX10_oldestRecent 0 = .ok (.iconst (-1), 1) := by decide +kernel
theorem dX10_oldestRecent_1 : decode cX10_oldestRecent 1 = .ok (.istore_n 1, 1) := by decide +kernel
theorem dX10_oldestRecent_2 : decode cX10_oldestRecent 2 = .ok (.iconst 0, 1) := by decide +kernel
theorem dX10_oldestRecent_3 : decode cX10_oldestRecent 3 = .ok (.istore_n 2, 1) := by decide +kernel
theorem dX10_oldestRecent_4 : decode cX10_oldestRecent 4 = .ok (.iload_n 2, 1) := by decide +kernel
theorem dX10_oldestRecent_5 : decode cX10_oldestRecent 5 = .ok (.bipush 64, 2) := by decide +kernel
theorem dX10_oldestRecent_7 : decode cX10_oldestRecent 7 = .ok (.if_icmp .ge 44, 3) := by decide +kernel
theorem dX10_oldestRecent_10 : decode cX10_oldestRecent 10 = .ok (.aload_n 0, 1) := by decide +kernel
theorem dX10_oldestRecent_11 : decode cX10_oldestRecent 11 = .ok (.getfield 23, 3) := by decide +kernel
theorem dX10_oldestRecent_14 : decode cX10_oldestRecent 14 = .ok (.iload_n 2, 1) := by decide +kernel
theorem dX10_oldestRecent_15 : decode cX10_oldestRecent 15 = .ok (.iaload, 1) := by decide +kernel
theorem dX10_oldestRecent_16 : decode cX10_oldestRecent 16 = .ok (.ifCond .le 27, 3) := by decide +kernel
theorem dX10_oldestRecent_19 : decode cX10_oldestRecent 19 = .ok (.iload_n 1, 1) := by decide +kernel
theorem dX10_oldestRecent_20 : decode cX10_oldestRecent 20 = .ok (.iconst (-1), 1) := by decide +kernel
theorem dX10_oldestRecent_21 : decode cX10_oldestRecent 21 = .ok (.if_icmp .eq 18, 3) := by decide +kernel
theorem dX10_oldestRecent_24 : decode cX10_oldestRecent 24 = .ok (.aload_n 0, 1) := by decide +kernel
theorem dX10_oldestRecent_25 : decode cX10_oldestRecent 25 = .ok (.getfield 23, 3) := by decide +kernel
theorem dX10_oldestRecent_28 : decode cX10_oldestRecent 28 = .ok (.iload_n 2, 1) := by decide +kernel
theorem dX10_oldestRecent_29 : decode cX10_oldestRecent 29 = .ok (.iaload, 1) := by decide +kernel
theorem dX10_oldestRecent_30 : decode cX10_oldestRecent 30 = .ok (.aload_n 0, 1) := by decide +kernel
theorem dX10_oldestRecent_31 : decode cX10_oldestRecent 31 = .ok (.getfield 23, 3) := by decide +kernel
theorem dX10_oldestRecent_34 : decode cX10_oldestRecent 34 = .ok (.iload_n 1, 1) := by decide +kernel
theorem dX10_oldestRecent_35 : decode cX10_oldestRecent 35 = .ok (.iaload, 1) := by decide +kernel
theorem dX10_oldestRecent_36 : decode cX10_oldestRecent 36 = .ok (.if_icmp .ge 7, 3) := by decide +kernel
theorem dX10_oldestRecent_39 : decode cX10_oldestRecent 39 = .ok (.iload_n 2, 1) := by decide +kernel
theorem dX10_oldestRecent_40 : decode cX10_oldestRecent 40 = .ok (.goto 4, 3) := by decide +kernel
theorem dX10_oldestRecent_43 : decode cX10_oldestRecent 43 = .ok (.iload_n 1, 1) := by decide +kernel
theorem dX10_oldestRecent_44 : decode cX10_oldestRecent 44 = .ok (.istore_n 1, 1) := by decide +kernel
theorem dX10_oldestRecent_45 : decode cX10_oldestRecent 45 = .ok (.iinc 2 1, 3) := by decide +kernel
theorem dX10_oldestRecent_48 : decode cX10_oldestRecent 48 = .ok (.goto (-44), 3) := by decide +kernel
theorem dX10_oldestRecent_51 : decode cX10_oldestRecent 51 = .ok (.iload_n 1, 1) := by decide +kernel
theorem dX10_oldestRecent_52 : decode cX10_oldestRecent 52 = .ok (.ireturn, 1) := by decide +kernel
theorem dX10_touchRecent_0 : decode cX10_touchRecent 0 = .ok (.aload_n 0, 1) := by decide +kernel
theorem dX10_touchRecent_1 : decode cX10_touchRecent 1 = .ok (.getfield 23, 3) := by decide +kernel
theorem dX10_touchRecent_4 : decode cX10_touchRecent 4 = .ok (.iload_n 1, 1) := by decide +kernel
theorem dX10_touchRecent_5 : decode cX10_touchRecent 5 = .ok (.iaload, 1) := by decide +kernel
theorem dX10_touchRecent_6 : decode cX10_touchRecent 6 = .ok (.ifCond .ne 7, 3) := by decide +kernel
theorem dX10_touchRecent_9 : decode cX10_touchRecent 9 = .ok (.iconst 1, 1) := by decide +kernel
theorem dX10_touchRecent_10 : decode cX10_touchRecent 10 = .ok (.goto 4, 3) := by decide +kernel
theorem dX10_touchRecent_13 : decode cX10_touchRecent 13 = .ok (.iconst 0, 1) := by decide +kernel
theorem dX10_touchRecent_14 : decode cX10_touchRecent 14 = .ok (.istore_n 2, 1) := by decide +kernel
theorem dX10_touchRecent_15 : decode cX10_touchRecent 15 = .ok (.iload_n 2, 1) := by decide +kernel
theorem dX10_touchRecent_16 : decode cX10_touchRecent 16 = .ok (.ifCond .eq 45, 3) := by decide +kernel
theorem dX10_touchRecent_19 : decode cX10_touchRecent 19 = .ok (.aload_n 0, 1) := by decide +kernel
theorem dX10_touchRecent_20 : decode cX10_touchRecent 20 = .ok (.getfield 33, 3) := by decide +kernel
theorem dX10_touchRecent_23 : decode cX10_touchRecent 23 = .ok (.iload_n 1, 1) := by decide +kernel
theorem dX10_touchRecent_24 : decode cX10_touchRecent 24 = .ok (.iaload, 1) := by decide +kernel
theorem dX10_touchRecent_25 : decode cX10_touchRecent 25 = .ok (.iconst (-1), 1) := by decide +kernel
theorem dX10_touchRecent_26 : decode cX10_touchRecent 26 = .ok (.if_icmp .eq 35, 3) := by decide +kernel
theorem dX10_touchRecent_29 : decode cX10_touchRecent 29 = .ok (.aload_n 0, 1) := by decide +kernel
theorem dX10_touchRecent_30 : decode cX10_touchRecent 30 = .ok (.getfield 36, 3) := by decide +kernel
theorem dX10_touchRecent_33 : decode cX10_touchRecent 33 = .ok (.iload_n 1, 1) := by decide +kernel
theorem dX10_touchRecent_34 : decode cX10_touchRecent 34 = .ok (.aload_n 0, 1) := by decide +kernel
theorem dX10_touchRecent_35 : decode cX10_touchRecent 35 = .ok (.getfield 81, 3) := by decide +kernel
theorem dX10_touchRecent_38 : decode cX10_touchRecent 38 = .ok (.aload_n 0, 1) := by decide +kernel
theorem dX10_touchRecent_39 : decode cX10_touchRecent 39 = .ok (.getfield 33, 3) := by decide +kernel
theorem dX10_touchRecent_42 : decode cX10_touchRecent 42 = .ok (.iload_n 1, 1) := by decide +kernel
theorem dX10_touchRecent_43 : decode cX10_touchRecent 43 = .ok (.iaload, 1) := by decide +kernel
theorem dX10_touchRecent_44 : decode cX10_touchRecent 44 = .ok (.isub, 1) := by decide +kernel
theorem dX10_touchRecent_45 : decode cX10_touchRecent 45 = .ok (.iastore, 1) := by decide +kernel
theorem dX10_touchRecent_46 : decode cX10_touchRecent 46 = .ok (.aload_n 0, 1) := by decide +kernel
theorem dX10_touchRecent_47 : decode cX10_touchRecent 47 = .ok (.getfield 39, 3) := by decide +kernel
theorem dX10_touchRecent_50 : decode cX10_touchRecent 50 = .ok (.aload_n 0, 1) := by decide +kernel
theorem dX10_touchRecent_51 : decode cX10_touchRecent 51 = .ok (.getfield 36, 3) := by decide +kernel
theorem dX10_touchRecent_54 : decode cX10_touchRecent 54 = .ok (.iload_n 1, 1) := by decide +kernel
theorem dX10_touchRecent_55 : decode cX10_touchRecent 55 = .ok (.iaload, 1) := by decide +kernel
theorem dX10_touchRecent_56 : decode cX10_touchRecent 56 = .ok (.dup2, 1) := by decide +kernel
theorem dX10_touchRecent_57 : decode cX10_touchRecent 57 = .ok (.iaload, 1) := by decide +kernel
theorem dX10_touchRecent_58 : decode cX10_touchRecent 58 = .ok (.iconst 1, 1) := by decide +kernel
theorem dX10_touchRecent_59 : decode cX10_touchRecent 59 = .ok (.iadd, 1) := by decide +kernel
theorem dX10_touchRecent_60 : decode cX10_touchRecent 60 = .ok (.iastore, 1) := by decide +kernel
theorem dX10_touchRecent_61 : decode cX10_touchRecent 61 = .ok (.iload_n 2, 1) := by decide +kernel
theorem dX10_touchRecent_62 : decode cX10_touchRecent 62 = .ok (.ifCond .eq 46, 3) := by decide +kernel
theorem dX10_touchRecent_65 : decode cX10_touchRecent 65 = .ok (.aload_n 0, 1) := by decide +kernel
theorem dX10_touchRecent_66 : decode cX10_touchRecent 66 = .ok (.invokevirtual 98, 3) := by decide +kernel
theorem dX10_touchRecent_69 : decode cX10_touchRecent 69 = .ok (.aload_n 0, 1) := by decide +kernel
theorem dX10_touchRecent_70 : decode cX10_touchRecent 70 = .ok (.getfield 7, 3) := by decide +kernel
theorem dX10_touchRecent_73 : decode cX10_touchRecent 73 = .ok (.if_icmp .ne 35, 3) := by decide +kernel
theorem dX10_touchRecent_76 : decode cX10_touchRecent 76 = .ok (.aload_n 0, 1) := by decide +kernel
theorem dX10_touchRecent_77 : decode cX10_touchRecent 77 = .ok (.invokevirtual 102, 3) := by decide +kernel
theorem dX10_touchRecent_80 : decode cX10_touchRecent 80 = .ok (.istore_n 3, 1) := by decide +kernel
theorem dX10_touchRecent_81 : decode cX10_touchRecent 81 = .ok (.aload_n 0, 1) := by decide +kernel
theorem dX10_touchRecent_82 : decode cX10_touchRecent 82 = .ok (.getfield 23, 3) := by decide +kernel
theorem dX10_touchRecent_85 : decode cX10_touchRecent 85 = .ok (.iload_n 3, 1) := by decide +kernel
theorem dX10_touchRecent_86 : decode cX10_touchRecent 86 = .ok (.iconst 0, 1) := by decide +kernel
theorem dX10_touchRecent_87 : decode cX10_touchRecent 87 = .ok (.iastore, 1) := by decide +kernel
theorem dX10_touchRecent_88 : decode cX10_touchRecent 88 = .ok (.aload_n 0, 1) := by decide +kernel
theorem dX10_touchRecent_89 : decode cX10_touchRecent 89 = .ok (.dup, 1) := by decide +kernel
theorem dX10_touchRecent_90 : decode cX10_touchRecent 90 = .ok (.getfield 81, 3) := by decide +kernel
theorem dX10_touchRecent_93 : decode cX10_touchRecent 93 = .ok (.iconst 1, 1) := by decide +kernel
theorem dX10_touchRecent_94 : decode cX10_touchRecent 94 = .ok (.iadd, 1) := by decide +kernel
theorem dX10_touchRecent_95 : decode cX10_touchRecent 95 = .ok (.putfield 81, 3) := by decide +kernel
theorem dX10_touchRecent_98 : decode cX10_touchRecent 98 = .ok (.aload_n 0, 1) := by decide +kernel
theorem dX10_touchRecent_99 : decode cX10_touchRecent 99 = .ok (.getfield 33, 3) := by decide +kernel
theorem dX10_touchRecent_102 : decode cX10_touchRecent 102 = .ok (.iload_n 3, 1) := by decide +kernel
theorem dX10_touchRecent_103 : decode cX10_touchRecent 103 = .ok (.aload_n 0, 1) := by decide +kernel
theorem dX10_touchRecent_104 : decode cX10_touchRecent 104 = .ok (.getfield 81, 3) := by decide +kernel
theorem dX10_touchRecent_107 : decode cX10_touchRecent 107 = .ok (.iastore, 1) := by decide +kernel
theorem dX10_touchRecent_108 : decode cX10_touchRecent 108 = .ok (.aload_n 0, 1) := by decide +kernel
theorem dX10_touchRecent_109 : decode cX10_touchRecent 109 = .ok (.getfield 23, 3) := by decide +kernel
theorem dX10_touchRecent_112 : decode cX10_touchRecent 112 = .ok (.iload_n 1, 1) := by decide +kernel
theorem dX10_touchRecent_113 : decode cX10_touchRecent 113 = .ok (.aload_n 0, 1) := by decide +kernel
theorem dX10_touchRecent_114 : decode cX10_touchRecent 114 = .ok (.getfield 72, 3) := by decide +kernel
theorem dX10_touchRecent_117 : decode cX10_touchRecent 117 = .ok (.iastore, 1) := by decide +kernel
theorem dX10_touchRecent_118 : decode cX10_touchRecent 118 = .ok (.iload_n 2, 1) := by decide +kernel
theorem dX10_touchRecent_119 : decode cX10_touchRecent 119 = .ok (.ireturn, 1) := by decide +kernel
theorem dX10_frameOf_0 : decode cX10_frameOf 0 = .ok (.iconst (-1), 1) := by decide +kernel
theorem dX10_frameOf_1 : decode cX10_frameOf 1 = .ok (.istore_n 2, 1) := by decide +kernel
theorem dX10_frameOf_2 : decode cX10_frameOf 2 = .ok (.iconst 0, 1) := by decide +kernel
theorem dX10_frameOf_3 : decode cX10_frameOf 3 = .ok (.istore_n 3, 1) := by decide +kernel
theorem dX10_frameOf_4 : decode cX10_frameOf 4 = .ok (.iload_n 3, 1) := by decide +kernel
theorem dX10_frameOf_5 : decode cX10_frameOf 5 = .ok (.aload_n 0, 1) := by decide +kernel
theorem dX10_frameOf_6 : decode cX10_frameOf 6 = .ok (.getfield 7, 3) := by decide +kernel
theorem dX10_frameOf_9 : decode cX10_frameOf 9 = .ok (.if_icmp .ge 25, 3) := by decide +kernel
theorem dX10_frameOf_12 : decode cX10_frameOf 12 = .ok (.aload_n 0, 1) := by decide +kernel
theorem dX10_frameOf_13 : decode cX10_frameOf 13 = .ok (.getfield 42, 3) := by decide +kernel
theorem dX10_frameOf_16 : decode cX10_frameOf 16 = .ok (.iload_n 3, 1) := by decide +kernel
theorem dX10_frameOf_17 : decode cX10_frameOf 17 = .ok (.iaload, 1) := by decide +kernel
theorem dX10_frameOf_18 : decode cX10_frameOf 18 = .ok (.iload_n 1, 1) := by decide +kernel
theorem dX10_frameOf_19 : decode cX10_frameOf 19 = .ok (.if_icmp .ne 7, 3) := by decide +kernel
theorem dX10_frameOf_22 : decode cX10_frameOf 22 = .ok (.iload_n 3, 1) := by decide +kernel
theorem dX10_frameOf_23 : decode cX10_frameOf 23 = .ok (.goto 4, 3) := by decide +kernel
theorem dX10_frameOf_26 : decode cX10_frameOf 26 = .ok (.iload_n 2, 1) := by decide +kernel
theorem dX10_frameOf_27 : decode cX10_frameOf 27 = .ok (.istore_n 2, 1) := by decide +kernel
theorem dX10_frameOf_28 : decode cX10_frameOf 28 = .ok (.iinc 3 1, 3) := by decide +kernel
theorem dX10_frameOf_31 : decode cX10_frameOf 31 = .ok (.goto (-27), 3) := by decide +kernel
theorem dX10_frameOf_34 : decode cX10_frameOf 34 = .ok (.iload_n 2, 1) := by decide +kernel
theorem dX10_frameOf_35 : decode cX10_frameOf 35 = .ok (.ireturn, 1) := by decide +kernel
theorem dX10_touchClock_0 : decode cX10_touchClock 0 = .ok (.aload_n 0, 1) := by decide +kernel
theorem dX10_touchClock_1 : decode cX10_touchClock 1 = .ok (.iload_n 1, 1) := by decide +kernel
theorem dX10_touchClock_2 : decode cX10_touchClock 2 = .ok (.invokevirtual 105, 3) := by decide +kernel
theorem dX10_touchClock_5 : decode cX10_touchClock 5 = .ok (.istore_n 2, 1) := by decide +kernel
theorem dX10_touchClock_6 : decode cX10_touchClock 6 = .ok (.iload_n 2, 1) := by decide +kernel
theorem dX10_touchClock_7 : decode cX10_touchClock 7 = .ok (.iconst (-1), 1) := by decide +kernel
theorem dX10_touchClock_8 : decode cX10_touchClock 8 = .ok (.if_icmp .eq 12, 3) := by decide +kernel
theorem dX10_touchClock_11 : decode cX10_touchClock 11 = .ok (.aload_n 0, 1) := by decide +kernel
theorem dX10_touchClock_12 : decode cX10_touchClock 12 = .ok (.getfield 45, 3) := by decide +kernel
theorem dX10_touchClock_15 : decode cX10_touchClock 15 = .ok (.iload_n 2, 1) := by decide +kernel
theorem dX10_touchClock_16 : decode cX10_touchClock 16 = .ok (.iconst 1, 1) := by decide +kernel
theorem dX10_touchClock_17 : decode cX10_touchClock 17 = .ok (.bastore, 1) := by decide +kernel
theorem dX10_touchClock_18 : decode cX10_touchClock 18 = .ok (.iconst 0, 1) := by decide +kernel
theorem dX10_touchClock_19 : decode cX10_touchClock 19 = .ok (.ireturn, 1) := by decide +kernel
theorem dX10_touchClock_20 : decode cX10_touchClock 20 = .ok (.iconst 0, 1) := by decide +kernel
theorem dX10_touchClock_21 : decode cX10_touchClock 21 = .ok (.istore_n 3, 1) := by decide +kernel
theorem dX10_touchClock_22 : decode cX10_touchClock 22 = .ok (.iload_n 3, 1) := by decide +kernel
theorem dX10_touchClock_23 : decode cX10_touchClock 23 = .ok (.aload_n 0, 1) := by decide +kernel
theorem dX10_touchClock_24 : decode cX10_touchClock 24 = .ok (.getfield 7, 3) := by decide +kernel
theorem dX10_touchClock_27 : decode cX10_touchClock 27 = .ok (.if_icmp .ge 19, 3) := by decide +kernel
theorem dX10_touchClock_30 : decode cX10_touchClock 30 = .ok (.aload_n 0, 1) := by decide +kernel
theorem dX10_touchClock_31 : decode cX10_touchClock 31 = .ok (.getfield 42, 3) := by decide +kernel
theorem dX10_touchClock_34 : decode cX10_touchClock 34 = .ok (.iload_n 3, 1) := by decide +kernel
theorem dX10_touchClock_35 : decode cX10_touchClock 35 = .ok (.iaload, 1) := by decide +kernel
theorem dX10_touchClock_36 : decode cX10_touchClock 36 = .ok (.iconst (-1), 1) := by decide +kernel
theorem dX10_touchClock_37 : decode cX10_touchClock 37 = .ok (.if_icmp .eq 9, 3) := by decide +kernel
theorem dX10_touchClock_40 : decode cX10_touchClock 40 = .ok (.iinc 3 1, 3) := by decide +kernel
theorem dX10_touchClock_43 : decode cX10_touchClock 43 = .ok (.goto (-21), 3) := by decide +kernel
theorem dX10_touchClock_46 : decode cX10_touchClock 46 = .ok (.iload_n 3, 1) := by decide +kernel
theorem dX10_touchClock_47 : decode cX10_touchClock 47 = .ok (.aload_n 0, 1) := by decide +kernel
theorem dX10_touchClock_48 : decode cX10_touchClock 48 = .ok (.getfield 7, 3) := by decide +kernel
theorem dX10_touchClock_51 : decode cX10_touchClock 51 = .ok (.if_icmp .ge 19, 3) := by decide +kernel
theorem dX10_touchClock_54 : decode cX10_touchClock 54 = .ok (.aload_n 0, 1) := by decide +kernel
theorem dX10_touchClock_55 : decode cX10_touchClock 55 = .ok (.getfield 42, 3) := by decide +kernel
theorem dX10_touchClock_58 : decode cX10_touchClock 58 = .ok (.iload_n 3, 1) := by decide +kernel
theorem dX10_touchClock_59 : decode cX10_touchClock 59 = .ok (.iload_n 1, 1) := by decide +kernel
theorem dX10_touchClock_60 : decode cX10_touchClock 60 = .ok (.iastore, 1) := by decide +kernel
theorem dX10_touchClock_61 : decode cX10_touchClock 61 = .ok (.aload_n 0, 1) := by decide +kernel
theorem dX10_touchClock_62 : decode cX10_touchClock 62 = .ok (.getfield 45, 3) := by decide +kernel
theorem dX10_touchClock_65 : decode cX10_touchClock 65 = .ok (.iload_n 3, 1) := by decide +kernel
theorem dX10_touchClock_66 : decode cX10_touchClock 66 = .ok (.iconst 1, 1) := by decide +kernel
theorem dX10_touchClock_67 : decode cX10_touchClock 67 = .ok (.bastore, 1) := by decide +kernel
theorem dX10_touchClock_68 : decode cX10_touchClock 68 = .ok (.iconst 1, 1) := by decide +kernel
theorem dX10_touchClock_69 : decode cX10_touchClock 69 = .ok (.ireturn, 1) := by decide +kernel
theorem dX10_touchClock_70 : decode cX10_touchClock 70 = .ok (.aload_n 0, 1) := by decide +kernel
theorem dX10_touchClock_71 : decode cX10_touchClock 71 = .ok (.getfield 45, 3) := by decide +kernel
theorem dX10_touchClock_74 : decode cX10_touchClock 74 = .ok (.aload_n 0, 1) := by decide +kernel
theorem dX10_touchClock_75 : decode cX10_touchClock 75 = .ok (.getfield 84, 3) := by decide +kernel
theorem dX10_touchClock_78 : decode cX10_touchClock 78 = .ok (.baload, 1) := by decide +kernel
theorem dX10_touchClock_79 : decode cX10_touchClock 79 = .ok (.ifCond .eq 31, 3) := by decide +kernel
theorem dX10_touchClock_82 : decode cX10_touchClock 82 = .ok (.aload_n 0, 1) := by decide +kernel
theorem dX10_touchClock_83 : decode cX10_touchClock 83 = .ok (.getfield 45, 3) := by decide +kernel
theorem dX10_touchClock_86 : decode cX10_touchClock 86 = .ok (.aload_n 0, 1) := by decide +kernel
theorem dX10_touchClock_87 : decode cX10_touchClock 87 = .ok (.getfield 84, 3) := by decide +kernel
theorem dX10_touchClock_90 : decode cX10_touchClock 90 = .ok (.iconst 0, 1) := by decide +kernel
theorem dX10_touchClock_91 : decode cX10_touchClock 91 = .ok (.bastore, 1) := by decide +kernel
theorem dX10_touchClock_92 : decode cX10_touchClock 92 = .ok (.aload_n 0, 1) := by decide +kernel
theorem dX10_touchClock_93 : decode cX10_touchClock 93 = .ok (.aload_n 0, 1) := by decide +kernel
theorem dX10_touchClock_94 : decode cX10_touchClock 94 = .ok (.getfield 84, 3) := by decide +kernel
theorem dX10_touchClock_97 : decode cX10_touchClock 97 = .ok (.iconst 1, 1) := by decide +kernel
theorem dX10_touchClock_98 : decode cX10_touchClock 98 = .ok (.iadd, 1) := by decide +kernel
theorem dX10_touchClock_99 : decode cX10_touchClock 99 = .ok (.aload_n 0, 1) := by decide +kernel
theorem dX10_touchClock_100 : decode cX10_touchClock 100 = .ok (.getfield 7, 3) := by decide +kernel
theorem dX10_touchClock_103 : decode cX10_touchClock 103 = .ok (.irem, 1) := by decide +kernel
theorem dX10_touchClock_104 : decode cX10_touchClock 104 = .ok (.putfield 84, 3) := by decide +kernel
theorem dX10_touchClock_107 : decode cX10_touchClock 107 = .ok (.goto (-37), 3) := by decide +kernel
theorem dX10_touchClock_110 : decode cX10_touchClock 110 = .ok (.aload_n 0, 1) := by decide +kernel
theorem dX10_touchClock_111 : decode cX10_touchClock 111 = .ok (.getfield 42, 3) := by decide +kernel
theorem dX10_touchClock_114 : decode cX10_touchClock 114 = .ok (.aload_n 0, 1) := by decide +kernel
theorem dX10_touchClock_115 : decode cX10_touchClock 115 = .ok (.getfield 84, 3) := by decide +kernel
theorem dX10_touchClock_118 : decode cX10_touchClock 118 = .ok (.iload_n 1, 1) := by decide +kernel
theorem dX10_touchClock_119 : decode cX10_touchClock 119 = .ok (.iastore, 1) := by decide +kernel
theorem dX10_touchClock_120 : decode cX10_touchClock 120 = .ok (.aload_n 0, 1) := by decide +kernel
theorem dX10_touchClock_121 : decode cX10_touchClock 121 = .ok (.getfield 45, 3) := by decide +kernel
theorem dX10_touchClock_124 : decode cX10_touchClock 124 = .ok (.aload_n 0, 1) := by decide +kernel
theorem dX10_touchClock_125 : decode cX10_touchClock 125 = .ok (.getfield 84, 3) := by decide +kernel
theorem dX10_touchClock_128 : decode cX10_touchClock 128 = .ok (.iconst 1, 1) := by decide +kernel
theorem dX10_touchClock_129 : decode cX10_touchClock 129 = .ok (.bastore, 1) := by decide +kernel
theorem dX10_touchClock_130 : decode cX10_touchClock 130 = .ok (.aload_n 0, 1) := by decide +kernel
theorem dX10_touchClock_131 : decode cX10_touchClock 131 = .ok (.aload_n 0, 1) := by decide +kernel
theorem dX10_touchClock_132 : decode cX10_touchClock 132 = .ok (.getfield 84, 3) := by decide +kernel
theorem dX10_touchClock_135 : decode cX10_touchClock 135 = .ok (.iconst 1, 1) := by decide +kernel
theorem dX10_touchClock_136 : decode cX10_touchClock 136 = .ok (.iadd, 1) := by decide +kernel
theorem dX10_touchClock_137 : decode cX10_touchClock 137 = .ok (.aload_n 0, 1) := by decide +kernel
theorem dX10_touchClock_138 : decode cX10_touchClock 138 = .ok (.getfield 7, 3) := by decide +kernel
theorem dX10_touchClock_141 : decode cX10_touchClock 141 = .ok (.irem, 1) := by decide +kernel
theorem dX10_touchClock_142 : decode cX10_touchClock 142 = .ok (.putfield 84, 3) := by decide +kernel
theorem dX10_touchClock_145 : decode cX10_touchClock 145 = .ok (.iconst 1, 1) := by decide +kernel
theorem dX10_touchClock_146 : decode cX10_touchClock 146 = .ok (.ireturn, 1) := by decide +kernel
theorem dX10_sizeOf_0 : decode cX10_sizeOf 0 = .ok (.iconst 0, 1) := by decide +kernel
theorem dX10_sizeOf_1 : decode cX10_sizeOf 1 = .ok (.istore_n 2, 1) := by decide +kernel
theorem dX10_sizeOf_2 : decode cX10_sizeOf 2 = .ok (.iconst 0, 1) := by decide +kernel
theorem dX10_sizeOf_3 : decode cX10_sizeOf 3 = .ok (.istore_n 3, 1) := by decide +kernel
theorem dX10_sizeOf_4 : decode cX10_sizeOf 4 = .ok (.iload_n 3, 1) := by decide +kernel
theorem dX10_sizeOf_5 : decode cX10_sizeOf 5 = .ok (.bipush 64, 2) := by decide +kernel
theorem dX10_sizeOf_7 : decode cX10_sizeOf 7 = .ok (.if_icmp .ge 27, 3) := by decide +kernel
theorem dX10_sizeOf_10 : decode cX10_sizeOf 10 = .ok (.iload_n 2, 1) := by decide +kernel
theorem dX10_sizeOf_11 : decode cX10_sizeOf 11 = .ok (.aload_n 0, 1) := by decide +kernel
theorem dX10_sizeOf_12 : decode cX10_sizeOf 12 = .ok (.getfield 48, 3) := by decide +kernel
theorem dX10_sizeOf_15 : decode cX10_sizeOf 15 = .ok (.iload_n 3, 1) := by decide +kernel
theorem dX10_sizeOf_16 : decode cX10_sizeOf 16 = .ok (.iaload, 1) := by decide +kernel
theorem dX10_sizeOf_17 : decode cX10_sizeOf 17 = .ok (.iload_n 1, 1) := by decide +kernel
theorem dX10_sizeOf_18 : decode cX10_sizeOf 18 = .ok (.if_icmp .ne 7, 3) := by decide +kernel
theorem dX10_sizeOf_21 : decode cX10_sizeOf 21 = .ok (.iconst 1, 1) := by decide +kernel
theorem dX10_sizeOf_22 : decode cX10_sizeOf 22 = .ok (.goto 4, 3) := by decide +kernel
theorem dX10_sizeOf_25 : decode cX10_sizeOf 25 = .ok (.iconst 0, 1) := by decide +kernel
theorem dX10_sizeOf_26 : decode cX10_sizeOf 26 = .ok (.iadd, 1) := by decide +kernel
theorem dX10_sizeOf_27 : decode cX10_sizeOf 27 = .ok (.istore_n 2, 1) := by decide +kernel
theorem dX10_sizeOf_28 : decode cX10_sizeOf 28 = .ok (.iinc 3 1, 3) := by decide +kernel
theorem dX10_sizeOf_31 : decode cX10_sizeOf 31 = .ok (.goto (-27), 3) := by decide +kernel
theorem dX10_sizeOf_34 : decode cX10_sizeOf 34 = .ok (.iload_n 2, 1) := by decide +kernel
theorem dX10_sizeOf_35 : decode cX10_sizeOf 35 = .ok (.ireturn, 1) := by decide +kernel
theorem dX10_oldestOf_0 : decode cX10_oldestOf 0 = .ok (.iconst (-1), 1) := by decide +kernel
theorem dX10_oldestOf_1 : decode cX10_oldestOf 1 = .ok (.istore_n 2, 1) := by decide +kernel
theorem dX10_oldestOf_2 : decode cX10_oldestOf 2 = .ok (.iconst 0, 1) := by decide +kernel
theorem dX10_oldestOf_3 : decode cX10_oldestOf 3 = .ok (.istore_n 3, 1) := by decide +kernel
theorem dX10_oldestOf_4 : decode cX10_oldestOf 4 = .ok (.iload_n 3, 1) := by decide +kernel
theorem dX10_oldestOf_5 : decode cX10_oldestOf 5 = .ok (.bipush 64, 2) := by decide +kernel
theorem dX10_oldestOf_7 : decode cX10_oldestOf 7 = .ok (.if_icmp .ge 45, 3) := by decide +kernel
theorem dX10_oldestOf_10 : decode cX10_oldestOf 10 = .ok (.aload_n 0, 1) := by decide +kernel
theorem dX10_oldestOf_11 : decode cX10_oldestOf 11 = .ok (.getfield 48, 3) := by decide +kernel
theorem dX10_oldestOf_14 : decode cX10_oldestOf 14 = .ok (.iload_n 3, 1) := by decide +kernel
theorem dX10_oldestOf_15 : decode cX10_oldestOf 15 = .ok (.iaload, 1) := by decide +kernel
theorem dX10_oldestOf_16 : decode cX10_oldestOf 16 = .ok (.iload_n 1, 1) := by decide +kernel
theorem dX10_oldestOf_17 : decode cX10_oldestOf 17 = .ok (.if_icmp .ne 27, 3) := by decide +kernel
theorem dX10_oldestOf_20 : decode cX10_oldestOf 20 = .ok (.iload_n 2, 1) := by decide +kernel
theorem dX10_oldestOf_21 : decode cX10_oldestOf 21 = .ok (.iconst (-1), 1) := by decide +kernel
theorem dX10_oldestOf_22 : decode cX10_oldestOf 22 = .ok (.if_icmp .eq 18, 3) := by decide +kernel
theorem dX10_oldestOf_25 : decode cX10_oldestOf 25 = .ok (.aload_n 0, 1) := by decide +kernel
theorem dX10_oldestOf_26 : decode cX10_oldestOf 26 = .ok (.getfield 51, 3) := by decide +kernel
theorem dX10_oldestOf_29 : decode cX10_oldestOf 29 = .ok (.iload_n 3, 1) := by decide +kernel
theorem dX10_oldestOf_30 : decode cX10_oldestOf 30 = .ok (.iaload, 1) := by decide +kernel
theorem dX10_oldestOf_31 : decode cX10_oldestOf 31 = .ok (.aload_n 0, 1) := by decide +kernel
theorem dX10_oldestOf_32 : decode cX10_oldestOf 32 = .ok (.getfield 51, 3) := by decide +kernel
theorem dX10_oldestOf_35 : decode cX10_oldestOf 35 = .ok (.iload_n 2, 1) := by decide +kernel
theorem dX10_oldestOf_36 : decode cX10_oldestOf 36 = .ok (.iaload, 1) := by decide +kernel
theorem dX10_oldestOf_37 : decode cX10_oldestOf 37 = .ok (.if_icmp .ge 7, 3) := by decide +kernel
theorem dX10_oldestOf_40 : decode cX10_oldestOf 40 = .ok (.iload_n 3, 1) := by decide +kernel
theorem dX10_oldestOf_41 : decode cX10_oldestOf 41 = .ok (.goto 4, 3) := by decide +kernel
theorem dX10_oldestOf_44 : decode cX10_oldestOf 44 = .ok (.iload_n 2, 1) := by decide +kernel
theorem dX10_oldestOf_45 : decode cX10_oldestOf 45 = .ok (.istore_n 2, 1) := by decide +kernel
theorem dX10_oldestOf_46 : decode cX10_oldestOf 46 = .ok (.iinc 3 1, 3) := by decide +kernel
theorem dX10_oldestOf_49 : decode cX10_oldestOf 49 = .ok (.goto (-45), 3) := by decide +kernel
theorem dX10_oldestOf_52 : decode cX10_oldestOf 52 = .ok (.iload_n 2, 1) := by decide +kernel
theorem dX10_oldestOf_53 : decode cX10_oldestOf 53 = .ok (.ireturn, 1) := by decide +kernel
theorem dX10_put_0 : decode cX10_put 0 = .ok (.aload_n 0, 1) := by decide +kernel
theorem dX10_put_1 : decode cX10_put 1 = .ok (.dup, 1) := by decide +kernel
theorem dX10_put_2 : decode cX10_put 2 = .ok (.getfield 72, 3) := by decide +kernel
theorem dX10_put_5 : decode cX10_put 5 = .ok (.iconst 1, 1) := by decide +kernel
theorem dX10_put_6 : decode cX10_put 6 = .ok (.iadd, 1) := by decide +kernel
theorem dX10_put_7 : decode cX10_put 7 = .ok (.putfield 72, 3) := by decide +kernel
theorem dX10_put_10 : decode cX10_put 10 = .ok (.aload_n 0, 1) := by decide +kernel
theorem dX10_put_11 : decode cX10_put 11 = .ok (.getfield 48, 3) := by decide +kernel
theorem dX10_put_14 : decode cX10_put 14 = .ok (.iload_n 1, 1) := by decide +kernel
theorem dX10_put_15 : decode cX10_put 15 = .ok (.iload_n 2, 1) := by decide +kernel
theorem dX10_put_16 : decode cX10_put 16 = .ok (.iastore, 1) := by decide +kernel
theorem dX10_put_17 : decode cX10_put 17 = .ok (.aload_n 0, 1) := by decide +kernel
theorem dX10_put_18 : decode cX10_put 18 = .ok (.getfield 51, 3) := by decide +kernel
theorem dX10_put_21 : decode cX10_put 21 = .ok (.iload_n 1, 1) := by decide +kernel
theorem dX10_put_22 : decode cX10_put 22 = .ok (.aload_n 0, 1) := by decide +kernel
theorem dX10_put_23 : decode cX10_put 23 = .ok (.getfield 72, 3) := by decide +kernel
theorem dX10_put_26 : decode cX10_put 26 = .ok (.iastore, 1) := by decide +kernel
theorem dX10_put_27 : decode cX10_put 27 = .ok (.return_, 1) := by decide +kernel
theorem dX10_replaced_0 : decode cX10_replaced 0 = .ok (.aload_n 0, 1) := by decide +kernel
theorem dX10_replaced_1 : decode cX10_replaced 1 = .ok (.iconst 1, 1) := by decide +kernel
theorem dX10_replaced_2 : decode cX10_replaced 2 = .ok (.invokevirtual 109, 3) := by decide +kernel
theorem dX10_replaced_5 : decode cX10_replaced 5 = .ok (.istore_n 2, 1) := by decide +kernel
theorem dX10_replaced_6 : decode cX10_replaced 6 = .ok (.iload_n 2, 1) := by decide +kernel
theorem dX10_replaced_7 : decode cX10_replaced 7 = .ok (.ifCond .le 27, 3) := by decide +kernel
theorem dX10_replaced_10 : decode cX10_replaced 10 = .ok (.iload_n 2, 1) := by decide +kernel
theorem dX10_replaced_11 : decode cX10_replaced 11 = .ok (.aload_n 0, 1) := by decide +kernel
theorem dX10_replaced_12 : decode cX10_replaced 12 = .ok (.getfield 87, 3) := by decide +kernel
theorem dX10_replaced_15 : decode cX10_replaced 15 = .ok (.if_icmp .gt 15, 3) := by decide +kernel
theorem dX10_replaced_18 : decode cX10_replaced 18 = .ok (.iload_n 2, 1) := by decide +kernel
theorem dX10_replaced_19 : decode cX10_replaced 19 = .ok (.aload_n 0, 1) := by decide +kernel
theorem dX10_replaced_20 : decode cX10_replaced 20 = .ok (.getfield 87, 3) := by decide +kernel
theorem dX10_replaced_23 : decode cX10_replaced 23 = .ok (.if_icmp .ne 11, 3) := by decide +kernel
theorem dX10_replaced_26 : decode cX10_replaced 26 = .ok (.iload_n 1, 1) := by decide +kernel
theorem dX10_replaced_27 : decode cX10_replaced 27 = .ok (.ifCond .eq 7, 3) := by decide +kernel
theorem dX10_replaced_30 : decode cX10_replaced 30 = .ok (.iconst 1, 1) := by decide +kernel
theorem dX10_replaced_31 : decode cX10_replaced 31 = .ok (.goto 4, 3) := by decide +kernel
theorem dX10_replaced_34 : decode cX10_replaced 34 = .ok (.iconst 2, 1) := by decide +kernel
theorem dX10_replaced_35 : decode cX10_replaced 35 = .ok (.ireturn, 1) := by decide +kernel
theorem dX10_replace_0 : decode cX10_replace 0 = .ok (.aload_n 0, 1) := by decide +kernel
theorem dX10_replace_1 : decode cX10_replace 1 = .ok (.iload_n 1, 1) := by decide +kernel
theorem dX10_replace_2 : decode cX10_replace 2 = .ok (.invokevirtual 112, 3) := by decide +kernel
theorem dX10_replace_5 : decode cX10_replace 5 = .ok (.istore_n 2, 1) := by decide +kernel
theorem dX10_replace_6 : decode cX10_replace 6 = .ok (.aload_n 0, 1) := by decide +kernel
theorem dX10_replace_7 : decode cX10_replace 7 = .ok (.aload_n 0, 1) := by decide +kernel
theorem dX10_replace_8 : decode cX10_replace 8 = .ok (.iload_n 2, 1) := by decide +kernel
theorem dX10_replace_9 : decode cX10_replace 9 = .ok (.invokevirtual 116, 3) := by decide +kernel
theorem dX10_replace_12 : decode cX10_replace 12 = .ok (.iload_n 2, 1) := by decide +kernel
theorem dX10_replace_13 : decode cX10_replace 13 = .ok (.iconst 2, 1) := by decide +kernel
theorem dX10_replace_14 : decode cX10_replace 14 = .ok (.iadd, 1) := by decide +kernel
theorem dX10_replace_15 : decode cX10_replace 15 = .ok (.invokevirtual 119, 3) := by decide +kernel
theorem dX10_replace_18 : decode cX10_replace 18 = .ok (.return_, 1) := by decide +kernel
theorem dX10_touchAdaptive_0 : decode cX10_touchAdaptive 0 = .ok (.aload_n 0, 1) := by decide +kernel
theorem dX10_touchAdaptive_1 : decode cX10_touchAdaptive 1 = .ok (.getfield 48, 3) := by decide +kernel
theorem dX10_touchAdaptive_4 : decode cX10_touchAdaptive 4 = .ok (.iload_n 1, 1) := by decide +kernel
theorem dX10_touchAdaptive_5 : decode cX10_touchAdaptive 5 = .ok (.iaload, 1) := by decide +kernel
theorem dX10_touchAdaptive_6 : decode cX10_touchAdaptive 6 = .ok (.istore_n 2, 1) := by decide +kernel
theorem dX10_touchAdaptive_7 : decode cX10_touchAdaptive 7 = .ok (.aload_n 0, 1) := by decide +kernel
theorem dX10_touchAdaptive_8 : decode cX10_touchAdaptive 8 = .ok (.iconst 1, 1) := by decide +kernel
theorem dX10_touchAdaptive_9 : decode cX10_touchAdaptive 9 = .ok (.invokevirtual 109, 3) := by decide +kernel
theorem dX10_touchAdaptive_12 : decode cX10_touchAdaptive 12 = .ok (.aload_n 0, 1) := by decide +kernel
theorem dX10_touchAdaptive_13 : decode cX10_touchAdaptive 13 = .ok (.iconst 3, 1) := by decide +kernel
theorem dX10_touchAdaptive_14 : decode cX10_touchAdaptive 14 = .ok (.invokevirtual 109, 3) := by decide +kernel
theorem dX10_touchAdaptive_17 : decode cX10_touchAdaptive 17 = .ok (.iadd, 1) := by decide +kernel
theorem dX10_touchAdaptive_18 : decode cX10_touchAdaptive 18 = .ok (.istore_n 3, 1) := by decide +kernel
theorem dX10_touchAdaptive_19 : decode cX10_touchAdaptive 19 = .ok (.iload_n 3, 1) := by decide +kernel
theorem dX10_touchAdaptive_20 : decode cX10_touchAdaptive 20 = .ok (.aload_n 0, 1) := by decide +kernel
theorem dX10_touchAdaptive_21 : decode cX10_touchAdaptive 21 = .ok (.iconst 2, 1) := by decide +kernel
theorem dX10_touchAdaptive_22 : decode cX10_touchAdaptive 22 = .ok (.invokevirtual 109, 3) := by decide +kernel
theorem dX10_touchAdaptive_25 : decode cX10_touchAdaptive 25 = .ok (.iadd, 1) := by decide +kernel
theorem dX10_touchAdaptive_26 : decode cX10_touchAdaptive 26 = .ok (.aload_n 0, 1) := by decide +kernel
theorem dX10_touchAdaptive_27 : decode cX10_touchAdaptive 27 = .ok (.iconst 4, 1) := by decide +kernel
theorem dX10_touchAdaptive_28 : decode cX10_touchAdaptive 28 = .ok (.invokevirtual 109, 3) := by decide +kernel
theorem dX10_touchAdaptive_31 : decode cX10_touchAdaptive 31 = .ok (.iadd, 1) := by decide +kernel
theorem dX10_touchAdaptive_32 : decode cX10_touchAdaptive 32 = .ok (.istore 4, 2) := by decide +kernel
theorem dX10_touchAdaptive_34 : decode cX10_touchAdaptive 34 = .ok (.iload_n 2, 1) := by decide +kernel
theorem dX10_touchAdaptive_35 : decode cX10_touchAdaptive 35 = .ok (.iconst 3, 1) := by decide +kernel
theorem dX10_touchAdaptive_36 : decode cX10_touchAdaptive 36 = .ok (.if_icmp .ne 71, 3) := by decide +kernel
theorem dX10_touchAdaptive_39 : decode cX10_touchAdaptive 39 = .ok (.aload_n 0, 1) := by decide +kernel
theorem dX10_touchAdaptive_40 : decode cX10_touchAdaptive 40 = .ok (.iconst 4, 1) := by decide +kernel
theorem dX10_touchAdaptive_41 : decode cX10_touchAdaptive 41 = .ok (.invokevirtual 109, 3) := by decide +kernel
theorem dX10_touchAdaptive_44 : decode cX10_touchAdaptive 44 = .ok (.aload_n 0, 1) := by decide +kernel
theorem dX10_touchAdaptive_45 : decode cX10_touchAdaptive 45 = .ok (.iconst 3, 1) := by decide +kernel
theorem dX10_touchAdaptive_46 : decode cX10_touchAdaptive 46 = .ok (.invokevirtual 109, 3) := by decide +kernel
theorem dX10_touchAdaptive_49 : decode cX10_touchAdaptive 49 = .ok (.idiv, 1) := by decide +kernel
theorem dX10_touchAdaptive_50 : decode cX10_touchAdaptive 50 = .ok (.istore 5, 2) := by decide +kernel
theorem dX10_touchAdaptive_52 : decode cX10_touchAdaptive 52 = .ok (.aload_n 0, 1) := by decide +kernel
theorem dX10_touchAdaptive_53 : decode cX10_touchAdaptive 53 = .ok (.dup, 1) := by decide +kernel
theorem dX10_touchAdaptive_54 : decode cX10_touchAdaptive 54 = .ok (.getfield 87, 3) := by decide +kernel
theorem dX10_touchAdaptive_57 : decode cX10_touchAdaptive 57 = .ok (.iload 5, 2) := by decide +kernel
theorem dX10_touchAdaptive_59 : decode cX10_touchAdaptive 59 = .ok (.iconst 1, 1) := by decide +kernel
theorem dX10_touchAdaptive_60 : decode cX10_touchAdaptive 60 = .ok (.if_icmp .ge 7, 3) := by decide +kernel
theorem dX10_touchAdaptive_63 : decode cX10_touchAdaptive 63 = .ok (.iconst 1, 1) := by decide +kernel
theorem dX10_touchAdaptive_64 : decode cX10_touchAdaptive 64 = .ok (.goto 5, 3) := by decide +kernel
theorem dX10_touchAdaptive_67 : decode cX10_touchAdaptive 67 = .ok (.iload 5, 2) := by decide +kernel
theorem dX10_touchAdaptive_69 : decode cX10_touchAdaptive 69 = .ok (.iadd, 1) := by decide +kernel
theorem dX10_touchAdaptive_70 : decode cX10_touchAdaptive 70 = .ok (.putfield 87, 3) := by decide +kernel
theorem dX10_touchAdaptive_73 : decode cX10_touchAdaptive 73 = .ok (.aload_n 0, 1) := by decide +kernel
theorem dX10_touchAdaptive_74 : decode cX10_touchAdaptive 74 = .ok (.aload_n 0, 1) := by decide +kernel
theorem dX10_touchAdaptive_75 : decode cX10_touchAdaptive 75 = .ok (.getfield 87, 3) := by decide +kernel
theorem dX10_touchAdaptive_78 : decode cX10_touchAdaptive 78 = .ok (.aload_n 0, 1) := by decide +kernel
theorem dX10_touchAdaptive_79 : decode cX10_touchAdaptive 79 = .ok (.getfield 7, 3) := by decide +kernel
theorem dX10_touchAdaptive_82 : decode cX10_touchAdaptive 82 = .ok (.if_icmp .le 10, 3) := by decide +kernel
theorem dX10_touchAdaptive_85 : decode cX10_touchAdaptive 85 = .ok (.aload_n 0, 1) := by decide +kernel
theorem dX10_touchAdaptive_86 : decode cX10_touchAdaptive 86 = .ok (.getfield 7, 3) := by decide +kernel
theorem dX10_touchAdaptive_89 : decode cX10_touchAdaptive 89 = .ok (.goto 7, 3) := by decide +kernel
theorem dX10_touchAdaptive_92 : decode cX10_touchAdaptive 92 = .ok (.aload_n 0, 1) := by decide +kernel
theorem dX10_touchAdaptive_93 : decode cX10_touchAdaptive 93 = .ok (.getfield 87, 3) := by decide +kernel
theorem dX10_touchAdaptive_96 : decode cX10_touchAdaptive 96 = .ok (.putfield 87, 3) := by decide +kernel
theorem dX10_touchAdaptive_99 : decode cX10_touchAdaptive 99 = .ok (.aload_n 0, 1) := by decide +kernel
theorem dX10_touchAdaptive_100 : decode cX10_touchAdaptive 100 = .ok (.iconst 0, 1) := by decide +kernel
theorem dX10_touchAdaptive_101 : decode cX10_touchAdaptive 101 = .ok (.invokevirtual 123, 3) := by decide +kernel
theorem dX10_touchAdaptive_104 : decode cX10_touchAdaptive 104 = .ok (.goto 173, 3) := by decide +kernel
theorem dX10_touchAdaptive_107 : decode cX10_touchAdaptive 107 = .ok (.iload_n 2, 1) := by decide +kernel
theorem dX10_touchAdaptive_108 : decode cX10_touchAdaptive 108 = .ok (.iconst 4, 1) := by decide +kernel
theorem dX10_touchAdaptive_109 : decode cX10_touchAdaptive 109 = .ok (.if_icmp .ne 64, 3) := by decide +kernel
theorem dX10_touchAdaptive_112 : decode cX10_touchAdaptive 112 = .ok (.aload_n 0, 1) := by decide +kernel
theorem dX10_touchAdaptive_113 : decode cX10_touchAdaptive 113 = .ok (.iconst 3, 1) := by decide +kernel
theorem dX10_touchAdaptive_114 : decode cX10_touchAdaptive 114 = .ok (.invokevirtual 109, 3) := by decide +kernel
theorem dX10_touchAdaptive_117 : decode cX10_touchAdaptive 117 = .ok (.aload_n 0, 1) := by decide +kernel
theorem dX10_touchAdaptive_118 : decode cX10_touchAdaptive 118 = .ok (.iconst 4, 1) := by decide +kernel
theorem dX10_touchAdaptive_119 : decode cX10_touchAdaptive 119 = .ok (.invokevirtual 109, 3) := by decide +kernel
theorem dX10_touchAdaptive_122 : decode cX10_touchAdaptive 122 = .ok (.idiv, 1) := by decide +kernel
theorem dX10_touchAdaptive_123 : decode cX10_touchAdaptive 123 = .ok (.istore 5, 2) := by decide +kernel
theorem dX10_touchAdaptive_125 : decode cX10_touchAdaptive 125 = .ok (.aload_n 0, 1) := by decide +kernel
theorem dX10_touchAdaptive_126 : decode cX10_touchAdaptive 126 = .ok (.dup, 1) := by decide +kernel
theorem dX10_touchAdaptive_127 : decode cX10_touchAdaptive 127 = .ok (.getfield 87, 3) := by decide +kernel
theorem dX10_touchAdaptive_130 : decode cX10_touchAdaptive 130 = .ok (.iload 5, 2) := by decide +kernel
theorem dX10_touchAdaptive_132 : decode cX10_touchAdaptive 132 = .ok (.iconst 1, 1) := by decide +kernel
theorem dX10_touchAdaptive_133 : decode cX10_touchAdaptive 133 = .ok (.if_icmp .ge 7, 3) := by decide +kernel
theorem dX10_touchAdaptive_136 : decode cX10_touchAdaptive 136 = .ok (.iconst 1, 1) := by decide +kernel
theorem dX10_touchAdaptive_137 : decode cX10_touchAdaptive 137 = .ok (.goto 5, 3) := by decide +kernel
theorem dX10_touchAdaptive_140 : decode cX10_touchAdaptive 140 = .ok (.iload 5, 2) := by decide +kernel
theorem dX10_touchAdaptive_142 : decode cX10_touchAdaptive 142 = .ok (.isub, 1) := by decide +kernel
theorem dX10_touchAdaptive_143 : decode cX10_touchAdaptive 143 = .ok (.putfield 87, 3) := by decide +kernel
theorem dX10_touchAdaptive_146 : decode cX10_touchAdaptive 146 = .ok (.aload_n 0, 1) := by decide +kernel
theorem dX10_touchAdaptive_147 : decode cX10_touchAdaptive 147 = .ok (.aload_n 0, 1) := by decide +kernel
theorem dX10_touchAdaptive_148 : decode cX10_touchAdaptive 148 = .ok (.getfield 87, 3) := by decide +kernel
theorem dX10_touchAdaptive_151 : decode cX10_touchAdaptive 151 = .ok (.ifCond .ge 7, 3) := by decide +kernel
theorem dX10_touchAdaptive_154 : decode cX10_touchAdaptive 154 = .ok (.iconst 0, 1) := by decide +kernel
theorem dX10_touchAdaptive_155 : decode cX10_touchAdaptive 155 = .ok (.goto 7, 3) := by decide +kernel
theorem dX10_touchAdaptive_158 : decode cX10_touchAdaptive 158 = .ok (.aload_n 0, 1) := by decide +kernel
theorem dX10_touchAdaptive_159 : decode cX10_touchAdaptive 159 = .ok (.getfield 87, 3) := by decide +kernel
theorem dX10_touchAdaptive_162 : decode cX10_touchAdaptive 162 = .ok (.putfield 87, 3) := by decide +kernel
theorem dX10_touchAdaptive_165 : decode cX10_touchAdaptive 165 = .ok (.aload_n 0, 1) := by decide +kernel
theorem dX10_touchAdaptive_166 : decode cX10_touchAdaptive 166 = .ok (.iconst 1, 1) := by decide +kernel
theorem dX10_touchAdaptive_167 : decode cX10_touchAdaptive 167 = .ok (.invokevirtual 123, 3) := by decide +kernel
theorem dX10_touchAdaptive_170 : decode cX10_touchAdaptive 170 = .ok (.goto 107, 3) := by decide +kernel
theorem dX10_touchAdaptive_173 : decode cX10_touchAdaptive 173 = .ok (.iload_n 2, 1) := by decide +kernel
theorem dX10_touchAdaptive_174 : decode cX10_touchAdaptive 174 = .ok (.ifCond .ne 63, 3) := by decide +kernel
theorem dX10_touchAdaptive_177 : decode cX10_touchAdaptive 177 = .ok (.iload_n 3, 1) := by decide +kernel
theorem dX10_touchAdaptive_178 : decode cX10_touchAdaptive 178 = .ok (.aload_n 0, 1) := by decide +kernel
theorem dX10_touchAdaptive_179 : decode cX10_touchAdaptive 179 = .ok (.getfield 7, 3) := by decide +kernel
theorem dX10_touchAdaptive_182 : decode cX10_touchAdaptive 182 = .ok (.if_icmp .ne 55, 3) := by decide +kernel
theorem dX10_touchAdaptive_185 : decode cX10_touchAdaptive 185 = .ok (.aload_n 0, 1) := by decide +kernel
theorem dX10_touchAdaptive_186 : decode cX10_touchAdaptive 186 = .ok (.iconst 1, 1) := by decide +kernel
theorem dX10_touchAdaptive_187 : decode cX10_touchAdaptive 187 = .ok (.invokevirtual 109, 3) := by decide +kernel
theorem dX10_touchAdaptive_190 : decode cX10_touchAdaptive 190 = .ok (.aload_n 0, 1) := by decide +kernel
theorem dX10_touchAdaptive_191 : decode cX10_touchAdaptive 191 = .ok (.getfield 7, 3) := by decide +kernel
theorem dX10_touchAdaptive_194 : decode cX10_touchAdaptive 194 = .ok (.if_icmp .ne 7, 3) := by decide +kernel
theorem dX10_touchAdaptive_197 : decode cX10_touchAdaptive 197 = .ok (.iconst 1, 1) := by decide +kernel
theorem dX10_touchAdaptive_198 : decode cX10_touchAdaptive 198 = .ok (.goto 4, 3) := by decide +kernel
theorem dX10_touchAdaptive_201 : decode cX10_touchAdaptive 201 = .ok (.iconst 0, 1) := by decide +kernel
theorem dX10_touchAdaptive_202 : decode cX10_touchAdaptive 202 = .ok (.istore 5, 2) := by decide +kernel
theorem dX10_touchAdaptive_204 : decode cX10_touchAdaptive 204 = .ok (.aload_n 0, 1) := by decide +kernel
theorem dX10_touchAdaptive_205 : decode cX10_touchAdaptive 205 = .ok (.getfield 48, 3) := by decide +kernel
theorem dX10_touchAdaptive_208 : decode cX10_touchAdaptive 208 = .ok (.aload_n 0, 1) := by decide +kernel
theorem dX10_touchAdaptive_209 : decode cX10_touchAdaptive 209 = .ok (.iload 5, 2) := by decide +kernel
theorem dX10_touchAdaptive_211 : decode cX10_touchAdaptive 211 = .ok (.ifCond .eq 7, 3) := by decide +kernel
theorem dX10_touchAdaptive_214 : decode cX10_touchAdaptive 214 = .ok (.iconst 1, 1) := by decide +kernel
theorem dX10_touchAdaptive_215 : decode cX10_touchAdaptive 215 = .ok (.goto 4, 3) := by decide +kernel
theorem dX10_touchAdaptive_218 : decode cX10_touchAdaptive 218 = .ok (.iconst 3, 1) := by decide +kernel
theorem dX10_touchAdaptive_219 : decode cX10_touchAdaptive 219 = .ok (.invokevirtual 116, 3) := by decide +kernel
theorem dX10_touchAdaptive_222 : decode cX10_touchAdaptive 222 = .ok (.iconst 0, 1) := by decide +kernel
theorem dX10_touchAdaptive_223 : decode cX10_touchAdaptive 223 = .ok (.iastore, 1) := by decide +kernel
theorem dX10_touchAdaptive_224 : decode cX10_touchAdaptive 224 = .ok (.iload 5, 2) := by decide +kernel
theorem dX10_touchAdaptive_226 : decode cX10_touchAdaptive 226 = .ok (.ifCond .ne 8, 3) := by decide +kernel
theorem dX10_touchAdaptive_229 : decode cX10_touchAdaptive 229 = .ok (.aload_n 0, 1) := by decide +kernel
theorem dX10_touchAdaptive_230 : decode cX10_touchAdaptive 230 = .ok (.iconst 0, 1) := by decide +kernel
theorem dX10_touchAdaptive_231 : decode cX10_touchAdaptive 231 = .ok (.invokevirtual 123, 3) := by decide +kernel
theorem dX10_touchAdaptive_234 : decode cX10_touchAdaptive 234 = .ok (.goto 43, 3) := by decide +kernel
theorem dX10_touchAdaptive_237 : decode cX10_touchAdaptive 237 = .ok (.iload_n 2, 1) := by decide +kernel
theorem dX10_touchAdaptive_238 : decode cX10_touchAdaptive 238 = .ok (.ifCond .ne 39, 3) := by decide +kernel
theorem dX10_touchAdaptive_241 : decode cX10_touchAdaptive 241 = .ok (.iload 4, 2) := by decide +kernel
theorem dX10_touchAdaptive_243 : decode cX10_touchAdaptive 243 = .ok (.aload_n 0, 1) := by decide +kernel
theorem dX10_touchAdaptive_244 : decode cX10_touchAdaptive 244 = .ok (.getfield 7, 3) := by decide +kernel
theorem dX10_touchAdaptive_247 : decode cX10_touchAdaptive 247 = .ok (.if_icmp .lt 30, 3) := by decide +kernel
theorem dX10_touchAdaptive_250 : decode cX10_touchAdaptive 250 = .ok (.iload 4, 2) := by decide +kernel
theorem dX10_touchAdaptive_252 : decode cX10_touchAdaptive 252 = .ok (.iconst 2, 1) := by decide +kernel
theorem dX10_touchAdaptive_253 : decode cX10_touchAdaptive 253 = .ok (.aload_n 0, 1) := by decide +kernel
theorem dX10_touchAdaptive_254 : decode cX10_touchAdaptive 254 = .ok (.getfield 7, 3) := by decide +kernel
theorem dX10_touchAdaptive_257 : decode cX10_touchAdaptive 257 = .ok (.imul, 1) := by decide +kernel
theorem dX10_touchAdaptive_258 : decode cX10_touchAdaptive 258 = .ok (.if_icmp .ne 14, 3) := by decide +kernel
theorem dX10_touchAdaptive_261 : decode cX10_touchAdaptive 261 = .ok (.aload_n 0, 1) := by decide +kernel
theorem dX10_touchAdaptive_262 : decode cX10_touchAdaptive 262 = .ok (.getfield 48, 3) := by decide +kernel
theorem dX10_touchAdaptive_265 : decode cX10_touchAdaptive 265 = .ok (.aload_n 0, 1) := by decide +kernel
theorem dX10_touchAdaptive_266 : decode cX10_touchAdaptive 266 = .ok (.iconst 4, 1) := by decide +kernel
theorem dX10_touchAdaptive_267 : decode cX10_touchAdaptive 267 = .ok (.invokevirtual 116, 3) := by decide +kernel
theorem dX10_touchAdaptive_270 : decode cX10_touchAdaptive 270 = .ok (.iconst 0, 1) := by decide +kernel
theorem dX10_touchAdaptive_271 : decode cX10_touchAdaptive 271 = .ok (.iastore, 1) := by decide +kernel
theorem dX10_touchAdaptive_272 : decode cX10_touchAdaptive 272 = .ok (.aload_n 0, 1) := by decide +kernel
theorem dX10_touchAdaptive_273 : decode cX10_touchAdaptive 273 = .ok (.iconst 0, 1) := by decide +kernel
theorem dX10_touchAdaptive_274 : decode cX10_touchAdaptive 274 = .ok (.invokevirtual 123, 3) := by decide +kernel
theorem dX10_touchAdaptive_277 : decode cX10_touchAdaptive 277 = .ok (.aload_n 0, 1) := by decide +kernel
theorem dX10_touchAdaptive_278 : decode cX10_touchAdaptive 278 = .ok (.iload_n 1, 1) := by decide +kernel
theorem dX10_touchAdaptive_279 : decode cX10_touchAdaptive 279 = .ok (.iload_n 2, 1) := by decide +kernel
theorem dX10_touchAdaptive_280 : decode cX10_touchAdaptive 280 = .ok (.ifCond .ne 7, 3) := by decide +kernel
theorem dX10_touchAdaptive_283 : decode cX10_touchAdaptive 283 = .ok (.iconst 1, 1) := by decide +kernel
theorem dX10_touchAdaptive_284 : decode cX10_touchAdaptive 284 = .ok (.goto 4, 3) := by decide +kernel
theorem dX10_touchAdaptive_287 : decode cX10_touchAdaptive 287 = .ok (.iconst 2, 1) := by decide +kernel
theorem dX10_touchAdaptive_288 : decode cX10_touchAdaptive 288 = .ok (.invokevirtual 119, 3) := by decide +kernel
theorem dX10_touchAdaptive_291 : decode cX10_touchAdaptive 291 = .ok (.iload_n 2, 1) := by decide +kernel
theorem dX10_touchAdaptive_292 : decode cX10_touchAdaptive 292 = .ok (.ifCond .eq 8, 3) := by decide +kernel
theorem dX10_touchAdaptive_295 : decode cX10_touchAdaptive 295 = .ok (.iload_n 2, 1) := by decide +kernel
theorem dX10_touchAdaptive_296 : decode cX10_touchAdaptive 296 = .ok (.iconst 2, 1) := by decide +kernel
theorem dX10_touchAdaptive_297 : decode cX10_touchAdaptive 297 = .ok (.if_icmp .le 7, 3) := by decide +kernel
theorem dX10_touchAdaptive_300 : decode cX10_touchAdaptive 300 = .ok (.iconst 1, 1) := by decide +kernel
theorem dX10_touchAdaptive_301 : decode cX10_touchAdaptive 301 = .ok (.goto 4, 3) := by decide +kernel
theorem dX10_touchAdaptive_304 : decode cX10_touchAdaptive 304 = .ok (.iconst 0, 1) := by decide +kernel
theorem dX10_touchAdaptive_305 : decode cX10_touchAdaptive 305 = .ok (.ireturn, 1) := by decide +kernel
theorem dX10_heldStrided_0 : decode cX10_heldStrided 0 = .ok (.iconst 0, 1) := by decide +kernel
theorem dX10_heldStrided_1 : decode cX10_heldStrided 1 = .ok (.istore_n 1, 1) := by decide +kernel
theorem dX10_heldStrided_2 : decode cX10_heldStrided 2 = .ok (.iconst 0, 1) := by decide +kernel
theorem dX10_heldStrided_3 : decode cX10_heldStrided 3 = .ok (.istore_n 2, 1) := by decide +kernel
theorem dX10_heldStrided_4 : decode cX10_heldStrided 4 = .ok (.iload_n 2, 1) := by decide +kernel
theorem dX10_heldStrided_5 : decode cX10_heldStrided 5 = .ok (.bipush 64, 2) := by decide +kernel
theorem dX10_heldStrided_7 : decode cX10_heldStrided 7 = .ok (.if_icmp .ge 26, 3) := by decide +kernel
theorem dX10_heldStrided_10 : decode cX10_heldStrided 10 = .ok (.iload_n 1, 1) := by decide +kernel
theorem dX10_heldStrided_11 : decode cX10_heldStrided 11 = .ok (.aload_n 0, 1) := by decide +kernel
theorem dX10_heldStrided_12 : decode cX10_heldStrided 12 = .ok (.getfield 26, 3) := by decide +kernel
theorem dX10_heldStrided_15 : decode cX10_heldStrided 15 = .ok (.iload_n 2, 1) := by decide +kernel
theorem dX10_heldStrided_16 : decode cX10_heldStrided 16 = .ok (.iaload, 1) := by decide +kernel
theorem dX10_heldStrided_17 : decode cX10_heldStrided 17 = .ok (.ifCond .le 7, 3) := by decide +kernel
theorem dX10_heldStrided_20 : decode cX10_heldStrided 20 = .ok (.iconst 1, 1) := by decide +kernel
theorem dX10_heldStrided_21 : decode cX10_heldStrided 21 = .ok (.goto 4, 3) := by decide +kernel
theorem dX10_heldStrided_24 : decode cX10_heldStrided 24 = .ok (.iconst 0, 1) := by decide +kernel
theorem dX10_heldStrided_25 : decode cX10_heldStrided 25 = .ok (.iadd, 1) := by decide +kernel
theorem dX10_heldStrided_26 : decode cX10_heldStrided 26 = .ok (.istore_n 1, 1) := by decide +kernel
theorem dX10_heldStrided_27 : decode cX10_heldStrided 27 = .ok (.iinc 2 1, 3) := by decide +kernel
theorem dX10_heldStrided_30 : decode cX10_heldStrided 30 = .ok (.goto (-26), 3) := by decide +kernel
theorem dX10_heldStrided_33 : decode cX10_heldStrided 33 = .ok (.iload_n 1, 1) := by decide +kernel
theorem dX10_heldStrided_34 : decode cX10_heldStrided 34 = .ok (.ireturn, 1) := by decide +kernel
theorem dX10_oldestStrided_0 : decode cX10_oldestStrided 0 = .ok (.iconst (-1), 1) := by decide +kernel
theorem dX10_oldestStrided_1 : decode cX10_oldestStrided 1 = .ok (.istore_n 1, 1) := by decide +kernel
theorem dX10_oldestStrided_2 : decode cX10_oldestStrided 2 = .ok (.iconst 0, 1) := by decide +kernel
theorem dX10_oldestStrided_3 : decode cX10_oldestStrided 3 = .ok (.istore_n 2, 1) := by decide +kernel
theorem dX10_oldestStrided_4 : decode cX10_oldestStrided 4 = .ok (.iload_n 2, 1) := by decide +kernel
theorem dX10_oldestStrided_5 : decode cX10_oldestStrided 5 = .ok (.bipush 64, 2) := by decide +kernel
theorem dX10_oldestStrided_7 : decode cX10_oldestStrided 7 = .ok (.if_icmp .ge 44, 3) := by decide +kernel
theorem dX10_oldestStrided_10 : decode cX10_oldestStrided 10 = .ok (.aload_n 0, 1) := by decide +kernel
theorem dX10_oldestStrided_11 : decode cX10_oldestStrided 11 = .ok (.getfield 26, 3) := by decide +kernel
theorem dX10_oldestStrided_14 : decode cX10_oldestStrided 14 = .ok (.iload_n 2, 1) := by decide +kernel
theorem dX10_oldestStrided_15 : decode cX10_oldestStrided 15 = .ok (.iaload, 1) := by decide +kernel
theorem dX10_oldestStrided_16 : decode cX10_oldestStrided 16 = .ok (.ifCond .le 27, 3) := by decide +kernel
theorem dX10_oldestStrided_19 : decode cX10_oldestStrided 19 = .ok (.iload_n 1, 1) := by decide +kernel
theorem dX10_oldestStrided_20 : decode cX10_oldestStrided 20 = .ok (.iconst (-1), 1) := by decide +kernel
theorem dX10_oldestStrided_21 : decode cX10_oldestStrided 21 = .ok (.if_icmp .eq 18, 3) := by decide +kernel
theorem dX10_oldestStrided_24 : decode cX10_oldestStrided 24 = .ok (.aload_n 0, 1) := by decide +kernel
theorem dX10_oldestStrided_25 : decode cX10_oldestStrided 25 = .ok (.getfield 26, 3) := by decide +kernel
theorem dX10_oldestStrided_28 : decode cX10_oldestStrided 28 = .ok (.iload_n 2, 1) := by decide +kernel
theorem dX10_oldestStrided_29 : decode cX10_oldestStrided 29 = .ok (.iaload, 1) := by decide +kernel
theorem dX10_oldestStrided_30 : decode cX10_oldestStrided 30 = .ok (.aload_n 0, 1) := by decide +kernel
theorem dX10_oldestStrided_31 : decode cX10_oldestStrided 31 = .ok (.getfield 26, 3) := by decide +kernel
theorem dX10_oldestStrided_34 : decode cX10_oldestStrided 34 = .ok (.iload_n 1, 1) := by decide +kernel
theorem dX10_oldestStrided_35 : decode cX10_oldestStrided 35 = .ok (.iaload, 1) := by decide +kernel
theorem dX10_oldestStrided_36 : decode cX10_oldestStrided 36 = .ok (.if_icmp .ge 7, 3) := by decide +kernel
theorem dX10_oldestStrided_39 : decode cX10_oldestStrided 39 = .ok (.iload_n 2, 1) := by decide +kernel
theorem dX10_oldestStrided_40 : decode cX10_oldestStrided 40 = .ok (.goto 4, 3) := by decide +kernel
theorem dX10_oldestStrided_43 : decode cX10_oldestStrided 43 = .ok (.iload_n 1, 1) := by decide +kernel
theorem dX10_oldestStrided_44 : decode cX10_oldestStrided 44 = .ok (.istore_n 1, 1) := by decide +kernel
theorem dX10_oldestStrided_45 : decode cX10_oldestStrided 45 = .ok (.iinc 2 1, 3) := by decide +kernel
theorem dX10_oldestStrided_48 : decode cX10_oldestStrided 48 = .ok (.goto (-44), 3) := by decide +kernel
theorem dX10_oldestStrided_51 : decode cX10_oldestStrided 51 = .ok (.iload_n 1, 1) := by decide +kernel
theorem dX10_oldestStrided_52 : decode cX10_oldestStrided 52 = .ok (.ireturn, 1) := by decide +kernel
theorem dX10_holdStrided_0 : decode cX10_holdStrided 0 = .ok (.aload_n 0, 1) := by decide +kernel
theorem dX10_holdStrided_1 : decode cX10_holdStrided 1 = .ok (.getfield 26, 3) := by decide +kernel
theorem dX10_holdStrided_4 : decode cX10_holdStrided 4 = .ok (.iload_n 1, 1) := by decide +kernel
theorem dX10_holdStrided_5 : decode cX10_holdStrided 5 = .ok (.iaload, 1) := by decide +kernel
theorem dX10_holdStrided_6 : decode cX10_holdStrided 6 = .ok (.ifCond .ne 33, 3) := by decide +kernel
theorem dX10_holdStrided_9 : decode cX10_holdStrided 9 = .ok (.aload_n 0, 1) := by decide +kernel
theorem dX10_holdStrided_10 : decode cX10_holdStrided 10 = .ok (.invokevirtual 127, 3) := by decide +kernel
theorem dX10_holdStrided_13 : decode cX10_holdStrided 13 = .ok (.aload_n 0, 1) := by decide +kernel
theorem dX10_holdStrided_14 : decode cX10_holdStrided 14 = .ok (.getfield 7, 3) := by decide +kernel
theorem dX10_holdStrided_17 : decode cX10_holdStrided 17 = .ok (.if_icmp .ne 22, 3) := by decide +kernel
theorem dX10_holdStrided_20 : decode cX10_holdStrided 20 = .ok (.aload_n 0, 1) := by decide +kernel
theorem dX10_holdStrided_21 : decode cX10_holdStrided 21 = .ok (.invokevirtual 130, 3) := by decide +kernel
theorem dX10_holdStrided_24 : decode cX10_holdStrided 24 = .ok (.istore_n 2, 1) := by decide +kernel
theorem dX10_holdStrided_25 : decode cX10_holdStrided 25 = .ok (.aload_n 0, 1) := by decide +kernel
theorem dX10_holdStrided_26 : decode cX10_holdStrided 26 = .ok (.getfield 26, 3) := by decide +kernel
theorem dX10_holdStrided_29 : decode cX10_holdStrided 29 = .ok (.iload_n 2, 1) := by decide +kernel
theorem dX10_holdStrided_30 : decode cX10_holdStrided 30 = .ok (.iconst 0, 1) := by decide +kernel
theorem dX10_holdStrided_31 : decode cX10_holdStrided 31 = .ok (.iastore, 1) := by decide +kernel
theorem dX10_holdStrided_32 : decode cX10_holdStrided 32 = .ok (.aload_n 0, 1) := by decide +kernel
theorem dX10_holdStrided_33 : decode cX10_holdStrided 33 = .ok (.getfield 29, 3) := by decide +kernel
theorem dX10_holdStrided_36 : decode cX10_holdStrided 36 = .ok (.iload_n 2, 1) := by decide +kernel
theorem dX10_holdStrided_37 : decode cX10_holdStrided 37 = .ok (.iconst 0, 1) := by decide +kernel
theorem dX10_holdStrided_38 : decode cX10_holdStrided 38 = .ok (.bastore, 1) := by decide +kernel
theorem dX10_holdStrided_39 : decode cX10_holdStrided 39 = .ok (.aload_n 0, 1) := by decide +kernel
theorem dX10_holdStrided_40 : decode cX10_holdStrided 40 = .ok (.dup, 1) := by decide +kernel
theorem dX10_holdStrided_41 : decode cX10_holdStrided 41 = .ok (.getfield 72, 3) := by decide +kernel
theorem dX10_holdStrided_44 : decode cX10_holdStrided 44 = .ok (.iconst 1, 1) := by decide +kernel
theorem dX10_holdStrided_45 : decode cX10_holdStrided 45 = .ok (.iadd, 1) := by decide +kernel
theorem dX10_holdStrided_46 : decode cX10_holdStrided 46 = .ok (.putfield 72, 3) := by decide +kernel
theorem dX10_holdStrided_49 : decode cX10_holdStrided 49 = .ok (.aload_n 0, 1) := by decide +kernel
theorem dX10_holdStrided_50 : decode cX10_holdStrided 50 = .ok (.getfield 26, 3) := by decide +kernel
theorem dX10_holdStrided_53 : decode cX10_holdStrided 53 = .ok (.iload_n 1, 1) := by decide +kernel
theorem dX10_holdStrided_54 : decode cX10_holdStrided 54 = .ok (.aload_n 0, 1) := by decide +kernel
theorem dX10_holdStrided_55 : decode cX10_holdStrided 55 = .ok (.getfield 72, 3) := by decide +kernel
theorem dX10_holdStrided_58 : decode cX10_holdStrided 58 = .ok (.iastore, 1) := by decide +kernel
theorem dX10_holdStrided_59 : decode cX10_holdStrided 59 = .ok (.return_, 1) := by decide +kernel
theorem dX10_touchStrided_0 : decode cX10_touchStrided 0 = .ok (.aload_n 0, 1) := by decide +kernel
theorem dX10_touchStrided_1 : decode cX10_touchStrided 1 = .ok (.getfield 26, 3) := by decide +kernel
theorem dX10_touchStrided_4 : decode cX10_touchStrided 4 = .ok (.iload_n 1, 1) := by decide +kernel
theorem dX10_touchStrided_5 : decode cX10_touchStrided 5 = .ok (.iaload, 1) := by decide +kernel
theorem dX10_touchStrided_6 : decode cX10_touchStrided 6 = .ok (.ifCond .ne 7, 3) := by decide +kernel
theorem dX10_touchStrided_9 : decode cX10_touchStrided 9 = .ok (.iconst 1, 1) := by decide +kernel
theorem dX10_touchStrided_10 : decode cX10_touchStrided 10 = .ok (.goto 4, 3) := by decide +kernel
theorem dX10_touchStrided_13 : decode cX10_touchStrided 13 = .ok (.iconst 0, 1) := by decide +kernel
theorem dX10_touchStrided_14 : decode cX10_touchStrided 14 = .ok (.istore_n 2, 1) := by decide +kernel
theorem dX10_touchStrided_15 : decode cX10_touchStrided 15 = .ok (.aload_n 0, 1) := by decide +kernel
theorem dX10_touchStrided_16 : decode cX10_touchStrided 16 = .ok (.dup, 1) := by decide +kernel
theorem dX10_touchStrided_17 : decode cX10_touchStrided 17 = .ok (.getfield 78, 3) := by decide +kernel
theorem dX10_touchStrided_20 : decode cX10_touchStrided 20 = .ok (.aload_n 0, 1) := by decide +kernel
theorem dX10_touchStrided_21 : decode cX10_touchStrided 21 = .ok (.getfield 29, 3) := by decide +kernel
theorem dX10_touchStrided_24 : decode cX10_touchStrided 24 = .ok (.iload_n 1, 1) := by decide +kernel
theorem dX10_touchStrided_25 : decode cX10_touchStrided 25 = .ok (.baload, 1) := by decide +kernel
theorem dX10_touchStrided_26 : decode cX10_touchStrided 26 = .ok (.ifCond .eq 7, 3) := by decide +kernel
theorem dX10_touchStrided_29 : decode cX10_touchStrided 29 = .ok (.iconst 1, 1) := by decide +kernel
theorem dX10_touchStrided_30 : decode cX10_touchStrided 30 = .ok (.goto 4, 3) := by decide +kernel
theorem dX10_touchStrided_33 : decode cX10_touchStrided 33 = .ok (.iconst 0, 1) := by decide +kernel
theorem dX10_touchStrided_34 : decode cX10_touchStrided 34 = .ok (.iadd, 1) := by decide +kernel
theorem dX10_touchStrided_35 : decode cX10_touchStrided 35 = .ok (.putfield 78, 3) := by decide +kernel
theorem dX10_touchStrided_38 : decode cX10_touchStrided 38 = .ok (.aload_n 0, 1) := by decide +kernel
theorem dX10_touchStrided_39 : decode cX10_touchStrided 39 = .ok (.getfield 29, 3) := by decide +kernel
theorem dX10_touchStrided_42 : decode cX10_touchStrided 42 = .ok (.iload_n 1, 1) := by decide +kernel
theorem dX10_touchStrided_43 : decode cX10_touchStrided 43 = .ok (.iconst 0, 1) := by decide +kernel
theorem dX10_touchStrided_44 : decode cX10_touchStrided 44 = .ok (.bastore, 1) := by decide +kernel
theorem dX10_touchStrided_45 : decode cX10_touchStrided 45 = .ok (.aload_n 0, 1) := by decide +kernel
theorem dX10_touchStrided_46 : decode cX10_touchStrided 46 = .ok (.iload_n 1, 1) := by decide +kernel
theorem dX10_touchStrided_47 : decode cX10_touchStrided 47 = .ok (.invokevirtual 133, 3) := by decide +kernel
theorem dX10_touchStrided_50 : decode cX10_touchStrided 50 = .ok (.aload_n 0, 1) := by decide +kernel
theorem dX10_touchStrided_51 : decode cX10_touchStrided 51 = .ok (.getfield 69, 3) := by decide +kernel
theorem dX10_touchStrided_54 : decode cX10_touchStrided 54 = .ok (.iconst 3, 1) := by decide +kernel
theorem dX10_touchStrided_55 : decode cX10_touchStrided 55 = .ok (.if_icmp .lt 114, 3) := by decide +kernel
theorem dX10_touchStrided_58 : decode cX10_touchStrided 58 = .ok (.iload_n 1, 1) := by decide +kernel
theorem dX10_touchStrided_59 : decode cX10_touchStrided 59 = .ok (.aload_n 0, 1) := by decide +kernel
theorem dX10_touchStrided_60 : decode cX10_touchStrided 60 = .ok (.getfield 16, 3) := by decide +kernel
theorem dX10_touchStrided_63 : decode cX10_touchStrided 63 = .ok (.aload_n 0, 1) := by decide +kernel
theorem dX10_touchStrided_64 : decode cX10_touchStrided 64 = .ok (.getfield 69, 3) := by decide +kernel
theorem dX10_touchStrided_67 : decode cX10_touchStrided 67 = .ok (.iconst 2, 1) := by decide +kernel
theorem dX10_touchStrided_68 : decode cX10_touchStrided 68 = .ok (.isub, 1) := by decide +kernel
theorem dX10_touchStrided_69 : decode cX10_touchStrided 69 = .ok (.iaload, 1) := by decide +kernel
theorem dX10_touchStrided_70 : decode cX10_touchStrided 70 = .ok (.isub, 1) := by decide +kernel
theorem dX10_touchStrided_71 : decode cX10_touchStrided 71 = .ok (.istore_n 3, 1) := by decide +kernel
theorem dX10_touchStrided_72 : decode cX10_touchStrided 72 = .ok (.iload_n 3, 1) := by decide +kernel
theorem dX10_touchStrided_73 : decode cX10_touchStrided 73 = .ok (.ifCond .eq 34, 3) := by decide +kernel
theorem dX10_touchStrided_76 : decode cX10_touchStrided 76 = .ok (.aload_n 0, 1) := by decide +kernel
theorem dX10_touchStrided_77 : decode cX10_touchStrided 77 = .ok (.getfield 16, 3) := by decide +kernel
theorem dX10_touchStrided_80 : decode cX10_touchStrided 80 = .ok (.aload_n 0, 1) := by decide +kernel
theorem dX10_touchStrided_81 : decode cX10_touchStrided 81 = .ok (.getfield 69, 3) := by decide +kernel
theorem dX10_touchStrided_84 : decode cX10_touchStrided 84 = .ok (.iconst 2, 1) := by decide +kernel
theorem dX10_touchStrided_85 : decode cX10_touchStrided 85 = .ok (.isub, 1) := by decide +kernel
theorem dX10_touchStrided_86 : decode cX10_touchStrided 86 = .ok (.iaload, 1) := by decide +kernel
theorem dX10_touchStrided_87 : decode cX10_touchStrided 87 = .ok (.aload_n 0, 1) := by decide +kernel
theorem dX10_touchStrided_88 : decode cX10_touchStrided 88 = .ok (.getfield 16, 3) := by decide +kernel
theorem dX10_touchStrided_91 : decode cX10_touchStrided 91 = .ok (.aload_n 0, 1) := by decide +kernel
theorem dX10_touchStrided_92 : decode cX10_touchStrided 92 = .ok (.getfield 69, 3) := by decide +kernel
theorem dX10_touchStrided_95 : decode cX10_touchStrided 95 = .ok (.iconst 3, 1) := by decide +kernel
theorem dX10_touchStrided_96 : decode cX10_touchStrided 96 = .ok (.isub, 1) := by decide +kernel
theorem dX10_touchStrided_97 : decode cX10_touchStrided 97 = .ok (.iaload, 1) := by decide +kernel
theorem dX10_touchStrided_98 : decode cX10_touchStrided 98 = .ok (.isub, 1) := by decide +kernel
theorem dX10_touchStrided_99 : decode cX10_touchStrided 99 = .ok (.iload_n 3, 1) := by decide +kernel
theorem dX10_touchStrided_100 : decode cX10_touchStrided 100 = .ok (.if_icmp .ne 7, 3) := by decide +kernel
theorem dX10_touchStrided_103 : decode cX10_touchStrided 103 = .ok (.iconst 1, 1) := by decide +kernel
theorem dX10_touchStrided_104 : decode cX10_touchStrided 104 = .ok (.goto 4, 3) := by decide +kernel
theorem dX10_touchStrided_107 : decode cX10_touchStrided 107 = .ok (.iconst 0, 1) := by decide +kernel
theorem dX10_touchStrided_108 : decode cX10_touchStrided 108 = .ok (.istore 4, 2) := by decide +kernel
theorem dX10_touchStrided_110 : decode cX10_touchStrided 110 = .ok (.iload 4, 2) := by decide +kernel
theorem dX10_touchStrided_112 : decode cX10_touchStrided 112 = .ok (.ifCond .eq 57, 3) := by decide +kernel
theorem dX10_touchStrided_115 : decode cX10_touchStrided 115 = .ok (.iload_n 1, 1) := by decide +kernel
theorem dX10_touchStrided_116 : decode cX10_touchStrided 116 = .ok (.iload_n 3, 1) := by decide +kernel
theorem dX10_touchStrided_117 : decode cX10_touchStrided 117 = .ok (.iadd, 1) := by decide +kernel
theorem dX10_touchStrided_118 : decode cX10_touchStrided 118 = .ok (.invokestatic 137, 3) := by decide +kernel
theorem dX10_touchStrided_121 : decode cX10_touchStrided 121 = .ok (.ifCond .eq 48, 3) := by decide +kernel
theorem dX10_touchStrided_124 : decode cX10_touchStrided 124 = .ok (.aload_n 0, 1) := by decide +kernel
theorem dX10_touchStrided_125 : decode cX10_touchStrided 125 = .ok (.getfield 26, 3) := by decide +kernel
theorem dX10_touchStrided_128 : decode cX10_touchStrided 128 = .ok (.iload_n 1, 1) := by decide +kernel
theorem dX10_touchStrided_129 : decode cX10_touchStrided 129 = .ok (.iload_n 3, 1) := by decide +kernel
theorem dX10_touchStrided_130 : decode cX10_touchStrided 130 = .ok (.iadd, 1) := by decide +kernel
theorem dX10_touchStrided_131 : decode cX10_touchStrided 131 = .ok (.iaload, 1) := by decide +kernel
theorem dX10_touchStrided_132 : decode cX10_touchStrided 132 = .ok (.ifCond .ne 37, 3) := by decide +kernel
theorem dX10_touchStrided_135 : decode cX10_touchStrided 135 = .ok (.aload_n 0, 1) := by decide +kernel
theorem dX10_touchStrided_136 : decode cX10_touchStrided 136 = .ok (.getfield 7, 3) := by decide +kernel
theorem dX10_touchStrided_139 : decode cX10_touchStrided 139 = .ok (.iconst 2, 1) := by decide +kernel
theorem dX10_touchStrided_140 : decode cX10_touchStrided 140 = .ok (.if_icmp .lt 29, 3) := by decide +kernel
theorem dX10_touchStrided_143 : decode cX10_touchStrided 143 = .ok (.aload_n 0, 1) := by decide +kernel
theorem dX10_touchStrided_144 : decode cX10_touchStrided 144 = .ok (.iload_n 1, 1) := by decide +kernel
theorem dX10_touchStrided_145 : decode cX10_touchStrided 145 = .ok (.iload_n 3, 1) := by decide +kernel
theorem dX10_touchStrided_146 : decode cX10_touchStrided 146 = .ok (.iadd, 1) := by decide +kernel
theorem dX10_touchStrided_147 : decode cX10_touchStrided 147 = .ok (.invokevirtual 133, 3) := by decide +kernel
theorem dX10_touchStrided_150 : decode cX10_touchStrided 150 = .ok (.aload_n 0, 1) := by decide +kernel
theorem dX10_touchStrided_151 : decode cX10_touchStrided 151 = .ok (.getfield 29, 3) := by decide +kernel
theorem dX10_touchStrided_154 : decode cX10_touchStrided 154 = .ok (.iload_n 1, 1) := by decide +kernel
theorem dX10_touchStrided_155 : decode cX10_touchStrided 155 = .ok (.iload_n 3, 1) := by decide +kernel
theorem dX10_touchStrided_156 : decode cX10_touchStrided 156 = .ok (.iadd, 1) := by decide +kernel
theorem dX10_touchStrided_157 : decode cX10_touchStrided 157 = .ok (.iconst 1, 1) := by decide +kernel
theorem dX10_touchStrided_158 : decode cX10_touchStrided 158 = .ok (.bastore, 1) := by decide +kernel
theorem dX10_touchStrided_159 : decode cX10_touchStrided 159 = .ok (.aload_n 0, 1) := by decide +kernel
theorem dX10_touchStrided_160 : decode cX10_touchStrided 160 = .ok (.dup, 1) := by decide +kernel
theorem dX10_touchStrided_161 : decode cX10_touchStrided 161 = .ok (.getfield 75, 3) := by decide +kernel
theorem dX10_touchStrided_164 : decode cX10_touchStrided 164 = .ok (.iconst 1, 1) := by decide +kernel
theorem dX10_touchStrided_165 : decode cX10_touchStrided 165 = .ok (.iadd, 1) := by decide +kernel
theorem dX10_touchStrided_166 : decode cX10_touchStrided 166 = .ok (.putfield 75, 3) := by decide +kernel
theorem dX10_touchStrided_169 : decode cX10_touchStrided 169 = .ok (.iload_n 2, 1) := by decide +kernel
theorem dX10_touchStrided_170 : decode cX10_touchStrided 170 = .ok (.ireturn, 1) := by decide +kernel
theorem dX10_touchAll_0 : decode cX10_touchAll 0 = .ok (.aload_n 0, 1) := by decide +kernel
theorem dX10_touchAll_1 : decode cX10_touchAll 1 = .ok (.getfield 16, 3) := by decide +kernel
theorem dX10_touchAll_4 : decode cX10_touchAll 4 = .ok (.aload_n 0, 1) := by decide +kernel
theorem dX10_touchAll_5 : decode cX10_touchAll 5 = .ok (.getfield 69, 3) := by decide +kernel
theorem dX10_touchAll_8 : decode cX10_touchAll 8 = .ok (.iload_n 1, 1) := by decide +kernel
theorem dX10_touchAll_9 : decode cX10_touchAll 9 = .ok (.iastore, 1) := by decide +kernel
theorem dX10_touchAll_10 : decode cX10_touchAll 10 = .ok (.aload_n 0, 1) := by decide +kernel
theorem dX10_touchAll_11 : decode cX10_touchAll 11 = .ok (.dup, 1) := by decide +kernel
theorem dX10_touchAll_12 : decode cX10_touchAll 12 = .ok (.getfield 69, 3) := by decide +kernel
theorem dX10_touchAll_15 : decode cX10_touchAll 15 = .ok (.iconst 1, 1) := by decide +kernel
theorem dX10_touchAll_16 : decode cX10_touchAll 16 = .ok (.iadd, 1) := by decide +kernel
theorem dX10_touchAll_17 : decode cX10_touchAll 17 = .ok (.putfield 69, 3) := by decide +kernel
theorem dX10_touchAll_20 : decode cX10_touchAll 20 = .ok (.aload_n 0, 1) := by decide +kernel
theorem dX10_touchAll_21 : decode cX10_touchAll 21 = .ok (.dup, 1) := by decide +kernel
theorem dX10_touchAll_22 : decode cX10_touchAll 22 = .ok (.getfield 72, 3) := by decide +kernel
theorem dX10_touchAll_25 : decode cX10_touchAll 25 = .ok (.iconst 1, 1) := by decide +kernel
theorem dX10_touchAll_26 : decode cX10_touchAll 26 = .ok (.iadd, 1) := by decide +kernel
theorem dX10_touchAll_27 : decode cX10_touchAll 27 = .ok (.putfield 72, 3) := by decide +kernel
theorem dX10_touchAll_30 : decode cX10_touchAll 30 = .ok (.aload_n 0, 1) := by decide +kernel
theorem dX10_touchAll_31 : decode cX10_touchAll 31 = .ok (.iload_n 1, 1) := by decide +kernel
theorem dX10_touchAll_32 : decode cX10_touchAll 32 = .ok (.invokevirtual 140, 3) := by decide +kernel
theorem dX10_touchAll_35 : decode cX10_touchAll 35 = .ok (.ifCond .eq 7, 3) := by decide +kernel
theorem dX10_touchAll_38 : decode cX10_touchAll 38 = .ok (.iconst 1, 1) := by decide +kernel
theorem dX10_touchAll_39 : decode cX10_touchAll 39 = .ok (.goto 4, 3) := by decide +kernel
theorem dX10_touchAll_42 : decode cX10_touchAll 42 = .ok (.iconst 0, 1) := by decide +kernel
theorem dX10_touchAll_43 : decode cX10_touchAll 43 = .ok (.istore_n 2, 1) := by decide +kernel
theorem dX10_touchAll_44 : decode cX10_touchAll 44 = .ok (.iload_n 2, 1) := by decide +kernel
theorem dX10_touchAll_45 : decode cX10_touchAll 45 = .ok (.aload_n 0, 1) := by decide +kernel
theorem dX10_touchAll_46 : decode cX10_touchAll 46 = .ok (.iload_n 1, 1) := by decide +kernel
theorem dX10_touchAll_47 : decode cX10_touchAll 47 = .ok (.invokevirtual 143, 3) := by decide +kernel
theorem dX10_touchAll_50 : decode cX10_touchAll 50 = .ok (.ifCond .eq 7, 3) := by decide +kernel
theorem dX10_touchAll_53 : decode cX10_touchAll 53 = .ok (.iconst 2, 1) := by decide +kernel
theorem dX10_touchAll_54 : decode cX10_touchAll 54 = .ok (.goto 4, 3) := by decide +kernel
theorem dX10_touchAll_57 : decode cX10_touchAll 57 = .ok (.iconst 0, 1) := by decide +kernel
theorem dX10_touchAll_58 : decode cX10_touchAll 58 = .ok (.iadd, 1) := by decide +kernel
theorem dX10_touchAll_59 : decode cX10_touchAll 59 = .ok (.istore_n 2, 1) := by decide +kernel
theorem dX10_touchAll_60 : decode cX10_touchAll 60 = .ok (.iload_n 2, 1) := by decide +kernel
theorem dX10_touchAll_61 : decode cX10_touchAll 61 = .ok (.aload_n 0, 1) := by decide +kernel
theorem dX10_touchAll_62 : decode cX10_touchAll 62 = .ok (.iload_n 1, 1) := by decide +kernel
theorem dX10_touchAll_63 : decode cX10_touchAll 63 = .ok (.invokevirtual 146, 3) := by decide +kernel
theorem dX10_touchAll_66 : decode cX10_touchAll 66 = .ok (.ifCond .eq 7, 3) := by decide +kernel
theorem dX10_touchAll_69 : decode cX10_touchAll 69 = .ok (.iconst 4, 1) := by decide +kernel
theorem dX10_touchAll_70 : decode cX10_touchAll 70 = .ok (.goto 4, 3) := by decide +kernel
theorem dX10_touchAll_73 : decode cX10_touchAll 73 = .ok (.iconst 0, 1) := by decide +kernel
theorem dX10_touchAll_74 : decode cX10_touchAll 74 = .ok (.iadd, 1) := by decide +kernel
theorem dX10_touchAll_75 : decode cX10_touchAll 75 = .ok (.istore_n 2, 1) := by decide +kernel
theorem dX10_touchAll_76 : decode cX10_touchAll 76 = .ok (.iload_n 2, 1) := by decide +kernel
theorem dX10_touchAll_77 : decode cX10_touchAll 77 = .ok (.aload_n 0, 1) := by decide +kernel
theorem dX10_touchAll_78 : decode cX10_touchAll 78 = .ok (.iload_n 1, 1) := by decide +kernel
theorem dX10_touchAll_79 : decode cX10_touchAll 79 = .ok (.invokevirtual 149, 3) := by decide +kernel
theorem dX10_touchAll_82 : decode cX10_touchAll 82 = .ok (.ifCond .eq 8, 3) := by decide +kernel
theorem dX10_touchAll_85 : decode cX10_touchAll 85 = .ok (.bipush 8, 2) := by decide +kernel
theorem dX10_touchAll_87 : decode cX10_touchAll 87 = .ok (.goto 4, 3) := by decide +kernel
theorem dX10_touchAll_90 : decode cX10_touchAll 90 = .ok (.iconst 0, 1) := by decide +kernel
theorem dX10_touchAll_91 : decode cX10_touchAll 91 = .ok (.iadd, 1) := by decide +kernel
theorem dX10_touchAll_92 : decode cX10_touchAll 92 = .ok (.istore_n 2, 1) := by decide +kernel
theorem dX10_touchAll_93 : decode cX10_touchAll 93 = .ok (.iconst 0, 1) := by decide +kernel
theorem dX10_touchAll_94 : decode cX10_touchAll 94 = .ok (.istore_n 3, 1) := by decide +kernel
theorem dX10_touchAll_95 : decode cX10_touchAll 95 = .ok (.iload_n 3, 1) := by decide +kernel
theorem dX10_touchAll_96 : decode cX10_touchAll 96 = .ok (.iconst 4, 1) := by decide +kernel
theorem dX10_touchAll_97 : decode cX10_touchAll 97 = .ok (.if_icmp .ge 23, 3) := by decide +kernel
theorem dX10_touchAll_100 : decode cX10_touchAll 100 = .ok (.aload_n 0, 1) := by decide +kernel
theorem dX10_touchAll_101 : decode cX10_touchAll 101 = .ok (.getfield 20, 3) := by decide +kernel
theorem dX10_touchAll_104 : decode cX10_touchAll 104 = .ok (.iload_n 3, 1) := by decide +kernel
theorem dX10_touchAll_105 : decode cX10_touchAll 105 = .ok (.dup2, 1) := by decide +kernel
theorem dX10_touchAll_106 : decode cX10_touchAll 106 = .ok (.iaload, 1) := by decide +kernel
theorem dX10_touchAll_107 : decode cX10_touchAll 107 = .ok (.iload_n 2, 1) := by decide +kernel
theorem dX10_touchAll_108 : decode cX10_touchAll 108 = .ok (.iload_n 3, 1) := by decide +kernel
theorem dX10_touchAll_109 : decode cX10_touchAll 109 = .ok (.ishr, 1) := by decide +kernel
theorem dX10_touchAll_110 : decode cX10_touchAll 110 = .ok (.iconst 1, 1) := by decide +kernel
theorem dX10_touchAll_111 : decode cX10_touchAll 111 = .ok (.iand, 1) := by decide +kernel
theorem dX10_touchAll_112 : decode cX10_touchAll 112 = .ok (.iadd, 1) := by decide +kernel
theorem dX10_touchAll_113 : decode cX10_touchAll 113 = .ok (.iastore, 1) := by decide +kernel
theorem dX10_touchAll_114 : decode cX10_touchAll 114 = .ok (.iinc 3 1, 3) := by decide +kernel
theorem dX10_touchAll_117 : decode cX10_touchAll 117 = .ok (.goto (-22), 3) := by decide +kernel
theorem dX10_touchAll_120 : decode cX10_touchAll 120 = .ok (.iload_n 2, 1) := by decide +kernel
theorem dX10_touchAll_121 : decode cX10_touchAll 121 = .ok (.ireturn, 1) := by decide +kernel
theorem dX10_touch_0 : decode cX10_touch 0 = .ok (.aload_n 0, 1) := by decide +kernel
theorem dX10_touch_1 : decode cX10_touch 1 = .ok (.iload_n 1, 1) := by decide +kernel
theorem dX10_touch_2 : decode cX10_touch 2 = .ok (.invokestatic 137, 3) := by decide +kernel
theorem dX10_touch_5 : decode cX10_touch 5 = .ok (.ifCond .ne 7, 3) := by decide +kernel
theorem dX10_touch_8 : decode cX10_touch 8 = .ok (.iconst 1, 1) := by decide +kernel
theorem dX10_touch_9 : decode cX10_touch 9 = .ok (.goto 18, 3) := by decide +kernel
theorem dX10_touch_12 : decode cX10_touch 12 = .ok (.aload_n 0, 1) := by decide +kernel
theorem dX10_touch_13 : decode cX10_touch 13 = .ok (.getfield 69, 3) := by decide +kernel
theorem dX10_touch_16 : decode cX10_touch 16 = .ok (.sipush 400, 3) := by decide +kernel
theorem dX10_touch_19 : decode cX10_touch 19 = .ok (.if_icmp .ne 7, 3) := by decide +kernel
theorem dX10_touch_22 : decode cX10_touch 22 = .ok (.iconst 2, 1) := by decide +kernel
theorem dX10_touch_23 : decode cX10_touch 23 = .ok (.goto 4, 3) := by decide +kernel
theorem dX10_touch_26 : decode cX10_touch 26 = .ok (.iconst 0, 1) := by decide +kernel
theorem dX10_touch_27 : decode cX10_touch 27 = .ok (.invokevirtual 94, 3) := by decide +kernel
theorem dX10_touch_30 : decode cX10_touch 30 = .ok (.ifCond .eq 11, 3) := by decide +kernel
theorem dX10_touch_33 : decode cX10_touch 33 = .ok (.aload_n 0, 1) := by decide +kernel
theorem dX10_touch_34 : decode cX10_touch 34 = .ok (.iload_n 1, 1) := by decide +kernel
theorem dX10_touch_35 : decode cX10_touch 35 = .ok (.invokevirtual 152, 3) := by decide +kernel
theorem dX10_touch_38 : decode cX10_touch 38 = .ok (.goto 4, 3) := by decide +kernel
theorem dX10_touch_41 : decode cX10_touch 41 = .ok (.iconst 0, 1) := by decide +kernel
theorem dX10_touch_42 : decode cX10_touch 42 = .ok (.ireturn, 1) := by decide +kernel
theorem dX10_isRun_0 : decode cX10_isRun 0 = .ok (.iload_n 1, 1) := by decide +kernel
theorem dX10_isRun_1 : decode cX10_isRun 1 = .ok (.i2l, 1) := by decide +kernel
theorem dX10_isRun_2 : decode cX10_isRun 2 = .ok (.ldc2_w 155, 3) := by decide +kernel
theorem dX10_isRun_5 : decode cX10_isRun 5 = .ok (.ldc2_w 63, 3) := by decide +kernel
theorem dX10_isRun_8 : decode cX10_isRun 8 = .ok (.invokestatic 65, 3) := by decide +kernel
theorem dX10_isRun_11 : decode cX10_isRun 11 = .ok (.ifCond .eq 46, 3) := by decide +kernel
theorem dX10_isRun_14 : decode cX10_isRun 14 = .ok (.iload_n 2, 1) := by decide +kernel
theorem dX10_isRun_15 : decode cX10_isRun 15 = .ok (.i2l, 1) := by decide +kernel
theorem dX10_isRun_16 : decode cX10_isRun 16 = .ok (.lconst 1, 1) := by decide +kernel
theorem dX10_isRun_17 : decode cX10_isRun 17 = .ok (.ldc2_w 157, 3) := by decide +kernel
theorem dX10_isRun_20 : decode cX10_isRun 20 = .ok (.invokestatic 65, 3) := by decide +kernel
theorem dX10_isRun_23 : decode cX10_isRun 23 = .ok (.ifCond .eq 34, 3) := by decide +kernel
theorem dX10_isRun_26 : decode cX10_isRun 26 = .ok (.iload_n 0, 1) := by decide +kernel
theorem dX10_isRun_27 : decode cX10_isRun 27 = .ok (.invokestatic 137, 3) := by decide +kernel
theorem dX10_isRun_30 : decode cX10_isRun 30 = .ok (.ifCond .eq 27, 3) := by decide +kernel
theorem dX10_isRun_33 : decode cX10_isRun 33 = .ok (.iload_n 0, 1) := by decide +kernel
theorem dX10_isRun_34 : decode cX10_isRun 34 = .ok (.i2l, 1) := by decide +kernel
theorem dX10_isRun_35 : decode cX10_isRun 35 = .ok (.iload_n 2, 1) := by decide +kernel
theorem dX10_isRun_36 : decode cX10_isRun 36 = .ok (.i2l, 1) := by decide +kernel
theorem dX10_isRun_37 : decode cX10_isRun 37 = .ok (.lconst 1, 1) := by decide +kernel
theorem dX10_isRun_38 : decode cX10_isRun 38 = .ok (.lsub, 1) := by decide +kernel
theorem dX10_isRun_39 : decode cX10_isRun 39 = .ok (.iload_n 1, 1) := by decide +kernel
theorem dX10_isRun_40 : decode cX10_isRun 40 = .ok (.i2l, 1) := by decide +kernel
theorem dX10_isRun_41 : decode cX10_isRun 41 = .ok (.lmul, 1) := by decide +kernel
theorem dX10_isRun_42 : decode cX10_isRun 42 = .ok (.ladd, 1) := by decide +kernel
theorem dX10_isRun_43 : decode cX10_isRun 43 = .ok (.lconst 0, 1) := by decide +kernel
theorem dX10_isRun_44 : decode cX10_isRun 44 = .ok (.ldc2_w 63, 3) := by decide +kernel
theorem dX10_isRun_47 : decode cX10_isRun 47 = .ok (.invokestatic 65, 3) := by decide +kernel
theorem dX10_isRun_50 : decode cX10_isRun 50 = .ok (.ifCond .eq 7, 3) := by decide +kernel
theorem dX10_isRun_53 : decode cX10_isRun 53 = .ok (.iconst 1, 1) := by decide +kernel
theorem dX10_isRun_54 : decode cX10_isRun 54 = .ok (.goto 4, 3) := by decide +kernel
theorem dX10_isRun_57 : decode cX10_isRun 57 = .ok (.iconst 0, 1) := by decide +kernel
theorem dX10_isRun_58 : decode cX10_isRun 58 = .ok (.ireturn, 1) := by decide +kernel
theorem dX10_touchRun_0 : decode cX10_touchRun 0 = .ok (.aload_n 0, 1) := by decide +kernel
theorem dX10_touchRun_1 : decode cX10_touchRun 1 = .ok (.iload_n 1, 1) := by decide +kernel
theorem dX10_touchRun_2 : decode cX10_touchRun 2 = .ok (.iload_n 2, 1) := by decide +kernel
theorem dX10_touchRun_3 : decode cX10_touchRun 3 = .ok (.iload_n 3, 1) := by decide +kernel
theorem dX10_touchRun_4 : decode cX10_touchRun 4 = .ok (.invokestatic 159, 3) := by decide +kernel
theorem dX10_touchRun_7 : decode cX10_touchRun 7 = .ok (.ifCond .ne 7, 3) := by decide +kernel
theorem dX10_touchRun_10 : decode cX10_touchRun 10 = .ok (.iconst 1, 1) := by decide +kernel
theorem dX10_touchRun_11 : decode cX10_touchRun 11 = .ok (.goto 20, 3) := by decide +kernel
theorem dX10_touchRun_14 : decode cX10_touchRun 14 = .ok (.aload_n 0, 1) := by decide +kernel
theorem dX10_touchRun_15 : decode cX10_touchRun 15 = .ok (.getfield 69, 3) := by decide +kernel
theorem dX10_touchRun_18 : decode cX10_touchRun 18 = .ok (.iload_n 3, 1) := by decide +kernel
theorem dX10_touchRun_19 : decode cX10_touchRun 19 = .ok (.iadd, 1) := by decide +kernel
theorem dX10_touchRun_20 : decode cX10_touchRun 20 = .ok (.sipush 400, 3) := by decide +kernel
theorem dX10_touchRun_23 : decode cX10_touchRun 23 = .ok (.if_icmp .le 7, 3) := by decide +kernel
theorem dX10_touchRun_26 : decode cX10_touchRun 26 = .ok (.iconst 2, 1) := by decide +kernel
theorem dX10_touchRun_27 : decode cX10_touchRun 27 = .ok (.goto 4, 3) := by decide +kernel
theorem dX10_touchRun_30 : decode cX10_touchRun 30 = .ok (.iconst 0, 1) := by decide +kernel
theorem dX10_touchRun_31 : decode cX10_touchRun 31 = .ok (.invokevirtual 94, 3) := by decide +kernel
theorem dX10_touchRun_34 : decode cX10_touchRun 34 = .ok (.ifCond .ne 5, 3) := by decide +kernel
theorem dX10_touchRun_37 : decode cX10_touchRun 37 = .ok (.iconst 0, 1) := by decide +kernel
theorem dX10_touchRun_38 : decode cX10_touchRun 38 = .ok (.ireturn, 1) := by decide +kernel
theorem dX10_touchRun_39 : decode cX10_touchRun 39 = .ok (.aload_n 0, 1) := by decide +kernel
theorem dX10_touchRun_40 : decode cX10_touchRun 40 = .ok (.getfield 20, 3) := by decide +kernel
theorem dX10_touchRun_43 : decode cX10_touchRun 43 = .ok (.iconst 0, 1) := by decide +kernel
theorem dX10_touchRun_44 : decode cX10_touchRun 44 = .ok (.iaload, 1) := by decide +kernel
theorem dX10_touchRun_45 : decode cX10_touchRun 45 = .ok (.istore 4, 2) := by decide +kernel
theorem dX10_touchRun_47 : decode cX10_touchRun 47 = .ok (.iconst 0, 1) := by decide +kernel
theorem dX10_touchRun_48 : decode cX10_touchRun 48 = .ok (.istore 5, 2) := by decide +kernel
theorem dX10_touchRun_50 : decode cX10_touchRun 50 = .ok (.iload 5, 2) := by decide +kernel
theorem dX10_touchRun_52 : decode cX10_touchRun 52 = .ok (.iload_n 3, 1) := by decide +kernel
theorem dX10_touchRun_53 : decode cX10_touchRun 53 = .ok (.if_icmp .ge 21, 3) := by decide +kernel
theorem dX10_touchRun_56 : decode cX10_touchRun 56 = .ok (.aload_n 0, 1) := by decide +kernel
theorem dX10_touchRun_57 : decode cX10_touchRun 57 = .ok (.iload_n 1, 1) := by decide +kernel
theorem dX10_touchRun_58 : decode cX10_touchRun 58 = .ok (.iload 5, 2) := by decide +kernel
theorem dX10_touchRun_60 : decode cX10_touchRun 60 = .ok (.iload_n 2, 1) := by decide +kernel
theorem dX10_touchRun_61 : decode cX10_touchRun 61 = .ok (.imul, 1) := by decide +kernel
theorem dX10_touchRun_62 : decode cX10_touchRun 62 = .ok (.iadd, 1) := by decide +kernel
theorem dX10_touchRun_63 : decode cX10_touchRun 63 = .ok (.invokevirtual 152, 3) := by decide +kernel
theorem dX10_touchRun_66 : decode cX10_touchRun 66 = .ok (.istore 6, 2) := by decide +kernel
theorem dX10_touchRun_68 : decode cX10_touchRun 68 = .ok (.iinc 5 1, 3) := by decide +kernel
theorem dX10_touchRun_71 : decode cX10_touchRun 71 = .ok (.goto (-21), 3) := by decide +kernel
theorem dX10_touchRun_74 : decode cX10_touchRun 74 = .ok (.aload_n 0, 1) := by decide +kernel
theorem dX10_touchRun_75 : decode cX10_touchRun 75 = .ok (.getfield 20, 3) := by decide +kernel
theorem dX10_touchRun_78 : decode cX10_touchRun 78 = .ok (.iconst 0, 1) := by decide +kernel
theorem dX10_touchRun_79 : decode cX10_touchRun 79 = .ok (.iaload, 1) := by decide +kernel
theorem dX10_touchRun_80 : decode cX10_touchRun 80 = .ok (.iload 4, 2) := by decide +kernel
theorem dX10_touchRun_82 : decode cX10_touchRun 82 = .ok (.isub, 1) := by decide +kernel
theorem dX10_touchRun_83 : decode cX10_touchRun 83 = .ok (.ireturn, 1) := by decide +kernel
theorem dX10_touches_0 : decode cX10_touches 0 = .ok (.aload_n 0, 1) := by decide +kernel
theorem dX10_touches_1 : decode cX10_touches 1 = .ok (.iconst 0, 1) := by decide +kernel
theorem dX10_touches_2 : decode cX10_touches 2 = .ok (.putfield 60, 3) := by decide +kernel
theorem dX10_touches_5 : decode cX10_touches 5 = .ok (.aload_n 0, 1) := by decide +kernel
theorem dX10_touches_6 : decode cX10_touches 6 = .ok (.getfield 69, 3) := by decide +kernel
theorem dX10_touches_9 : decode cX10_touches 9 = .ok (.ireturn, 1) := by decide +kernel
theorem dX10_pageOf_0 : decode cX10_pageOf 0 = .ok (.aload_n 0, 1) := by decide +kernel
theorem dX10_pageOf_1 : decode cX10_pageOf 1 = .ok (.iload_n 1, 1) := by decide +kernel
theorem dX10_pageOf_2 : decode cX10_pageOf 2 = .ok (.i2l, 1) := by decide +kernel
theorem dX10_pageOf_3 : decode cX10_pageOf 3 = .ok (.lconst 0, 1) := by decide +kernel
theorem dX10_pageOf_4 : decode cX10_pageOf 4 = .ok (.aload_n 0, 1) := by decide +kernel
theorem dX10_pageOf_5 : decode cX10_pageOf 5 = .ok (.getfield 69, 3) := by decide +kernel
theorem dX10_pageOf_8 : decode cX10_pageOf 8 = .ok (.iconst 1, 1) := by decide +kernel
theorem dX10_pageOf_9 : decode cX10_pageOf 9 = .ok (.isub, 1) := by decide +kernel
theorem dX10_pageOf_10 : decode cX10_pageOf 10 = .ok (.i2l, 1) := by decide +kernel
theorem dX10_pageOf_11 : decode cX10_pageOf 11 = .ok (.invokestatic 65, 3) := by decide +kernel
theorem dX10_pageOf_14 : decode cX10_pageOf 14 = .ok (.ifCond .eq 7, 3) := by decide +kernel
theorem dX10_pageOf_17 : decode cX10_pageOf 17 = .ok (.iconst 0, 1) := by decide +kernel
theorem dX10_pageOf_18 : decode cX10_pageOf 18 = .ok (.goto 4, 3) := by decide +kernel
theorem dX10_pageOf_21 : decode cX10_pageOf 21 = .ok (.iconst 1, 1) := by decide +kernel
theorem dX10_pageOf_22 : decode cX10_pageOf 22 = .ok (.invokevirtual 94, 3) := by decide +kernel
theorem dX10_pageOf_25 : decode cX10_pageOf 25 = .ok (.ifCond .eq 12, 3) := by decide +kernel
theorem dX10_pageOf_28 : decode cX10_pageOf 28 = .ok (.aload_n 0, 1) := by decide +kernel
theorem dX10_pageOf_29 : decode cX10_pageOf 29 = .ok (.getfield 16, 3) := by decide +kernel
theorem dX10_pageOf_32 : decode cX10_pageOf 32 = .ok (.iload_n 1, 1) := by decide +kernel
theorem dX10_pageOf_33 : decode cX10_pageOf 33 = .ok (.iaload, 1) := by decide +kernel
theorem dX10_pageOf_34 : decode cX10_pageOf 34 = .ok (.goto 4, 3) := by decide +kernel
theorem dX10_pageOf_37 : decode cX10_pageOf 37 = .ok (.iconst 0, 1) := by decide +kernel
theorem dX10_pageOf_38 : decode cX10_pageOf 38 = .ok (.ireturn, 1) := by decide +kernel
theorem dX10_isPolicy_0 : decode cX10_isPolicy 0 = .ok (.iload_n 0, 1) := by decide +kernel
theorem dX10_isPolicy_1 : decode cX10_isPolicy 1 = .ok (.i2l, 1) := by decide +kernel
theorem dX10_isPolicy_2 : decode cX10_isPolicy 2 = .ok (.lconst 0, 1) := by decide +kernel
theorem dX10_isPolicy_3 : decode cX10_isPolicy 3 = .ok (.ldc2_w 163, 3) := by decide +kernel
theorem dX10_isPolicy_6 : decode cX10_isPolicy 6 = .ok (.invokestatic 65, 3) := by decide +kernel
theorem dX10_isPolicy_9 : decode cX10_isPolicy 9 = .ok (.ireturn, 1) := by decide +kernel
theorem dX10_faults_0 : decode cX10_faults 0 = .ok (.aload_n 0, 1) := by decide +kernel
theorem dX10_faults_1 : decode cX10_faults 1 = .ok (.iload_n 1, 1) := by decide +kernel
theorem dX10_faults_2 : decode cX10_faults 2 = .ok (.invokestatic 165, 3) := by decide +kernel
theorem dX10_faults_5 : decode cX10_faults 5 = .ok (.ifCond .eq 7, 3) := by decide +kernel
theorem dX10_faults_8 : decode cX10_faults 8 = .ok (.iconst 0, 1) := by decide +kernel
theorem dX10_faults_9 : decode cX10_faults 9 = .ok (.goto 4, 3) := by decide +kernel
theorem dX10_faults_12 : decode cX10_faults 12 = .ok (.iconst 1, 1) := by decide +kernel
theorem dX10_faults_13 : decode cX10_faults 13 = .ok (.invokevirtual 94, 3) := by decide +kernel
theorem dX10_faults_16 : decode cX10_faults 16 = .ok (.ifCond .eq 12, 3) := by decide +kernel
theorem dX10_faults_19 : decode cX10_faults 19 = .ok (.aload_n 0, 1) := by decide +kernel
theorem dX10_faults_20 : decode cX10_faults 20 = .ok (.getfield 20, 3) := by decide +kernel
theorem dX10_faults_23 : decode cX10_faults 23 = .ok (.iload_n 1, 1) := by decide +kernel
theorem dX10_faults_24 : decode cX10_faults 24 = .ok (.iaload, 1) := by decide +kernel
theorem dX10_faults_25 : decode cX10_faults 25 = .ok (.goto 4, 3) := by decide +kernel
theorem dX10_faults_28 : decode cX10_faults 28 = .ok (.iconst 0, 1) := by decide +kernel
theorem dX10_faults_29 : decode cX10_faults 29 = .ok (.ireturn, 1) := by decide +kernel
theorem dX10_doesHold_0 : decode cX10_doesHold 0 = .ok (.iload_n 1, 1) := by decide +kernel
theorem dX10_doesHold_1 : decode cX10_doesHold 1 = .ok (.ifCond .ne 18, 3) := by decide +kernel
theorem dX10_doesHold_4 : decode cX10_doesHold 4 = .ok (.aload_n 0, 1) := by decide +kernel
theorem dX10_doesHold_5 : decode cX10_doesHold 5 = .ok (.getfield 23, 3) := by decide +kernel
theorem dX10_doesHold_8 : decode cX10_doesHold 8 = .ok (.iload_n 2, 1) := by decide +kernel
theorem dX10_doesHold_9 : decode cX10_doesHold 9 = .ok (.iaload, 1) := by decide +kernel
theorem dX10_doesHold_10 : decode cX10_doesHold 10 = .ok (.ifCond .le 7, 3) := by decide +kernel
theorem dX10_doesHold_13 : decode cX10_doesHold 13 = .ok (.iconst 1, 1) := by decide +kernel
theorem dX10_doesHold_14 : decode cX10_doesHold 14 = .ok (.goto 4, 3) := by decide +kernel
theorem dX10_doesHold_17 : decode cX10_doesHold 17 = .ok (.iconst 0, 1) := by decide +kernel
theorem dX10_doesHold_18 : decode cX10_doesHold 18 = .ok (.ireturn, 1) := by decide +kernel
theorem dX10_doesHold_19 : decode cX10_doesHold 19 = .ok (.iload_n 1, 1) := by decide +kernel
theorem dX10_doesHold_20 : decode cX10_doesHold 20 = .ok (.iconst 1, 1) := by decide +kernel
theorem dX10_doesHold_21 : decode cX10_doesHold 21 = .ok (.if_icmp .ne 18, 3) := by decide +kernel
theorem dX10_doesHold_24 : decode cX10_doesHold 24 = .ok (.aload_n 0, 1) := by decide +kernel
theorem dX10_doesHold_25 : decode cX10_doesHold 25 = .ok (.iload_n 2, 1) := by decide +kernel
theorem dX10_doesHold_26 : decode cX10_doesHold 26 = .ok (.invokevirtual 105, 3) := by decide +kernel
theorem dX10_doesHold_29 : decode cX10_doesHold 29 = .ok (.iconst (-1), 1) := by decide +kernel
theorem dX10_doesHold_30 : decode cX10_doesHold 30 = .ok (.if_icmp .eq 7, 3) := by decide +kernel
theorem dX10_doesHold_33 : decode cX10_doesHold 33 = .ok (.iconst 1, 1) := by decide +kernel
theorem dX10_doesHold_34 : decode cX10_doesHold 34 = .ok (.goto 4, 3) := by decide +kernel
theorem dX10_doesHold_37 : decode cX10_doesHold 37 = .ok (.iconst 0, 1) := by decide +kernel
theorem dX10_doesHold_38 : decode cX10_doesHold 38 = .ok (.ireturn, 1) := by decide +kernel
theorem dX10_doesHold_39 : decode cX10_doesHold 39 = .ok (.iload_n 1, 1) := by decide +kernel
theorem dX10_doesHold_40 : decode cX10_doesHold 40 = .ok (.iconst 2, 1) := by decide +kernel
theorem dX10_doesHold_41 : decode cX10_doesHold 41 = .ok (.if_icmp .ne 31, 3) := by decide +kernel
theorem dX10_doesHold_44 : decode cX10_doesHold 44 = .ok (.aload_n 0, 1) := by decide +kernel
theorem dX10_doesHold_45 : decode cX10_doesHold 45 = .ok (.getfield 48, 3) := by decide +kernel
theorem dX10_doesHold_48 : decode cX10_doesHold 48 = .ok (.iload_n 2, 1) := by decide +kernel
theorem dX10_doesHold_49 : decode cX10_doesHold 49 = .ok (.iaload, 1) := by decide +kernel
theorem dX10_doesHold_50 : decode cX10_doesHold 50 = .ok (.iconst 1, 1) := by decide +kernel
theorem dX10_doesHold_51 : decode cX10_doesHold 51 = .ok (.if_icmp .eq 13, 3) := by decide +kernel
theorem dX10_doesHold_54 : decode cX10_doesHold 54 = .ok (.aload_n 0, 1) := by decide +kernel
theorem dX10_doesHold_55 : decode cX10_doesHold 55 = .ok (.getfield 48, 3) := by decide +kernel
theorem dX10_doesHold_58 : decode cX10_doesHold 58 = .ok (.iload_n 2, 1) := by decide +kernel
theorem dX10_doesHold_59 : decode cX10_doesHold 59 = .ok (.iaload, 1) := by decide +kernel
theorem dX10_doesHold_60 : decode cX10_doesHold 60 = .ok (.iconst 2, 1) := by decide +kernel
theorem dX10_doesHold_61 : decode cX10_doesHold 61 = .ok (.if_icmp .ne 7, 3) := by decide +kernel
theorem dX10_doesHold_64 : decode cX10_doesHold 64 = .ok (.iconst 1, 1) := by decide +kernel
theorem dX10_doesHold_65 : decode cX10_doesHold 65 = .ok (.goto 21, 3) := by decide +kernel
theorem dX10_doesHold_68 : decode cX10_doesHold 68 = .ok (.iconst 0, 1) := by decide +kernel
theorem dX10_doesHold_69 : decode cX10_doesHold 69 = .ok (.goto 17, 3) := by decide +kernel
theorem dX10_doesHold_72 : decode cX10_doesHold 72 = .ok (.aload_n 0, 1) := by decide +kernel
theorem dX10_doesHold_73 : decode cX10_doesHold 73 = .ok (.getfield 26, 3) := by decide +kernel
theorem dX10_doesHold_76 : decode cX10_doesHold 76 = .ok (.iload_n 2, 1) := by decide +kernel
theorem dX10_doesHold_77 : decode cX10_doesHold 77 = .ok (.iaload, 1) := by decide +kernel
theorem dX10_doesHold_78 : decode cX10_doesHold 78 = .ok (.ifCond .le 7, 3) := by decide +kernel
theorem dX10_doesHold_81 : decode cX10_doesHold 81 = .ok (.iconst 1, 1) := by decide +kernel
theorem dX10_doesHold_82 : decode cX10_doesHold 82 = .ok (.goto 4, 3) := by decide +kernel
theorem dX10_doesHold_85 : decode cX10_doesHold 85 = .ok (.iconst 0, 1) := by decide +kernel
theorem dX10_doesHold_86 : decode cX10_doesHold 86 = .ok (.ireturn, 1) := by decide +kernel
theorem dX10_holds_0 : decode cX10_holds 0 = .ok (.aload_n 0, 1) := by decide +kernel
theorem dX10_holds_1 : decode cX10_holds 1 = .ok (.iload_n 1, 1) := by decide +kernel
theorem dX10_holds_2 : decode cX10_holds 2 = .ok (.invokestatic 165, 3) := by decide +kernel
theorem dX10_holds_5 : decode cX10_holds 5 = .ok (.ifCond .eq 14, 3) := by decide +kernel
theorem dX10_holds_8 : decode cX10_holds 8 = .ok (.iload_n 2, 1) := by decide +kernel
theorem dX10_holds_9 : decode cX10_holds 9 = .ok (.invokestatic 137, 3) := by decide +kernel
theorem dX10_holds_12 : decode cX10_holds 12 = .ok (.ifCond .eq 7, 3) := by decide +kernel
theorem dX10_holds_15 : decode cX10_holds 15 = .ok (.iconst 0, 1) := by decide +kernel
theorem dX10_holds_16 : decode cX10_holds 16 = .ok (.goto 4, 3) := by decide +kernel
theorem dX10_holds_19 : decode cX10_holds 19 = .ok (.iconst 1, 1) := by decide +kernel
theorem dX10_holds_20 : decode cX10_holds 20 = .ok (.invokevirtual 94, 3) := by decide +kernel
theorem dX10_holds_23 : decode cX10_holds 23 = .ok (.ifCond .eq 16, 3) := by decide +kernel
theorem dX10_holds_26 : decode cX10_holds 26 = .ok (.aload_n 0, 1) := by decide +kernel
theorem dX10_holds_27 : decode cX10_holds 27 = .ok (.iload_n 1, 1) := by decide +kernel
theorem dX10_holds_28 : decode cX10_holds 28 = .ok (.iload_n 2, 1) := by decide +kernel
theorem dX10_holds_29 : decode cX10_holds 29 = .ok (.invokevirtual 168, 3) := by decide +kernel
theorem dX10_holds_32 : decode cX10_holds 32 = .ok (.ifCond .eq 7, 3) := by decide +kernel
theorem dX10_holds_35 : decode cX10_holds 35 = .ok (.iconst 1, 1) := by decide +kernel
theorem dX10_holds_36 : decode cX10_holds 36 = .ok (.goto 4, 3) := by decide +kernel
theorem dX10_holds_39 : decode cX10_holds 39 = .ok (.iconst 0, 1) := by decide +kernel
theorem dX10_holds_40 : decode cX10_holds 40 = .ok (.ireturn, 1) := by decide +kernel
theorem dX10_heldBy_0 : decode cX10_heldBy 0 = .ok (.iconst 0, 1) := by decide +kernel
theorem dX10_heldBy_1 : decode cX10_heldBy 1 = .ok (.istore_n 2, 1) := by decide +kernel
theorem dX10_heldBy_2 : decode cX10_heldBy 2 = .ok (.iconst 0, 1) := by decide +kernel
theorem dX10_heldBy_3 : decode cX10_heldBy 3 = .ok (.istore_n 3, 1) := by decide +kernel
theorem dX10_heldBy_4 : decode cX10_heldBy 4 = .ok (.iload_n 3, 1) := by decide +kernel
theorem dX10_heldBy_5 : decode cX10_heldBy 5 = .ok (.bipush 64, 2) := by decide +kernel
theorem dX10_heldBy_7 : decode cX10_heldBy 7 = .ok (.if_icmp .ge 26, 3) := by decide +kernel
theorem dX10_heldBy_10 : decode cX10_heldBy 10 = .ok (.iload_n 2, 1) := by decide +kernel
theorem dX10_heldBy_11 : decode cX10_heldBy 11 = .ok (.aload_n 0, 1) := by decide +kernel
theorem dX10_heldBy_12 : decode cX10_heldBy 12 = .ok (.iload_n 1, 1) := by decide +kernel
theorem dX10_heldBy_13 : decode cX10_heldBy 13 = .ok (.iload_n 3, 1) := by decide +kernel
theorem dX10_heldBy_14 : decode cX10_heldBy 14 = .ok (.invokevirtual 168, 3) := by decide +kernel
theorem dX10_heldBy_17 : decode cX10_heldBy 17 = .ok (.ifCond .eq 7, 3) := by decide +kernel
theorem dX10_heldBy_20 : decode cX10_heldBy 20 = .ok (.iconst 1, 1) := by decide +kernel
theorem dX10_heldBy_21 : decode cX10_heldBy 21 = .ok (.goto 4, 3) := by decide +kernel
theorem dX10_heldBy_24 : decode cX10_heldBy 24 = .ok (.iconst 0, 1) := by decide +kernel
theorem dX10_heldBy_25 : decode cX10_heldBy 25 = .ok (.iadd, 1) := by decide +kernel
theorem dX10_heldBy_26 : decode cX10_heldBy 26 = .ok (.istore_n 2, 1) := by decide +kernel
theorem dX10_heldBy_27 : decode cX10_heldBy 27 = .ok (.iinc 3 1, 3) := by decide +kernel
theorem dX10_heldBy_30 : decode cX10_heldBy 30 = .ok (.goto (-26), 3) := by decide +kernel
theorem dX10_heldBy_33 : decode cX10_heldBy 33 = .ok (.iload_n 2, 1) := by decide +kernel
theorem dX10_heldBy_34 : decode cX10_heldBy 34 = .ok (.ireturn, 1) := by decide +kernel
theorem dX10_held_0 : decode cX10_held 0 = .ok (.aload_n 0, 1) := by decide +kernel
theorem dX10_held_1 : decode cX10_held 1 = .ok (.iload_n 1, 1) := by decide +kernel
theorem dX10_held_2 : decode cX10_held 2 = .ok (.invokestatic 165, 3) := by decide +kernel
theorem dX10_held_5 : decode cX10_held 5 = .ok (.ifCond .eq 7, 3) := by decide +kernel
theorem dX10_held_8 : decode cX10_held 8 = .ok (.iconst 0, 1) := by decide +kernel
theorem dX10_held_9 : decode cX10_held 9 = .ok (.goto 4, 3) := by decide +kernel
theorem dX10_held_12 : decode cX10_held 12 = .ok (.iconst 1, 1) := by decide +kernel
theorem dX10_held_13 : decode cX10_held 13 = .ok (.invokevirtual 94, 3) := by decide +kernel
theorem dX10_held_16 : decode cX10_held 16 = .ok (.ifCond .eq 11, 3) := by decide +kernel
theorem dX10_held_19 : decode cX10_held 19 = .ok (.aload_n 0, 1) := by decide +kernel
theorem dX10_held_20 : decode cX10_held 20 = .ok (.iload_n 1, 1) := by decide +kernel
theorem dX10_held_21 : decode cX10_held 21 = .ok (.invokevirtual 172, 3) := by decide +kernel
theorem dX10_held_24 : decode cX10_held 24 = .ok (.goto 4, 3) := by decide +kernel
theorem dX10_held_27 : decode cX10_held 27 = .ok (.iconst 0, 1) := by decide +kernel
theorem dX10_held_28 : decode cX10_held 28 = .ok (.ireturn, 1) := by decide +kernel
theorem dX10_frameNext_0 : decode cX10_frameNext 0 = .ok (.iconst 0, 1) := by decide +kernel
theorem dX10_frameNext_1 : decode cX10_frameNext 1 = .ok (.istore_n 1, 1) := by decide +kernel
theorem dX10_frameNext_2 : decode cX10_frameNext 2 = .ok (.iload_n 1, 1) := by decide +kernel
theorem dX10_frameNext_3 : decode cX10_frameNext 3 = .ok (.aload_n 0, 1) := by decide +kernel
theorem dX10_frameNext_4 : decode cX10_frameNext 4 = .ok (.getfield 7, 3) := by decide +kernel
theorem dX10_frameNext_7 : decode cX10_frameNext 7 = .ok (.if_icmp .ge 40, 3) := by decide +kernel
theorem dX10_frameNext_10 : decode cX10_frameNext 10 = .ok (.aload_n 0, 1) := by decide +kernel
theorem dX10_frameNext_11 : decode cX10_frameNext 11 = .ok (.getfield 45, 3) := by decide +kernel
theorem dX10_frameNext_14 : decode cX10_frameNext 14 = .ok (.aload_n 0, 1) := by decide +kernel
theorem dX10_frameNext_15 : decode cX10_frameNext 15 = .ok (.getfield 84, 3) := by decide +kernel
theorem dX10_frameNext_18 : decode cX10_frameNext 18 = .ok (.iload_n 1, 1) := by decide +kernel
theorem dX10_frameNext_19 : decode cX10_frameNext 19 = .ok (.iadd, 1) := by decide +kernel
theorem dX10_frameNext_20 : decode cX10_frameNext 20 = .ok (.aload_n 0, 1) := by decide +kernel
theorem dX10_frameNext_21 : decode cX10_frameNext 21 = .ok (.getfield 7, 3) := by decide +kernel
theorem dX10_frameNext_24 : decode cX10_frameNext 24 = .ok (.irem, 1) := by decide +kernel
theorem dX10_frameNext_25 : decode cX10_frameNext 25 = .ok (.baload, 1) := by decide +kernel
theorem dX10_frameNext_26 : decode cX10_frameNext 26 = .ok (.ifCond .ne 15, 3) := by decide +kernel
theorem dX10_frameNext_29 : decode cX10_frameNext 29 = .ok (.aload_n 0, 1) := by decide +kernel
theorem dX10_frameNext_30 : decode cX10_frameNext 30 = .ok (.getfield 84, 3) := by decide +kernel
theorem dX10_frameNext_33 : decode cX10_frameNext 33 = .ok (.iload_n 1, 1) := by decide +kernel
theorem dX10_frameNext_34 : decode cX10_frameNext 34 = .ok (.iadd, 1) := by decide +kernel
theorem dX10_frameNext_35 : decode cX10_frameNext 35 = .ok (.aload_n 0, 1) := by decide +kernel
theorem dX10_frameNext_36 : decode cX10_frameNext 36 = .ok (.getfield 7, 3) := by decide +kernel
theorem dX10_frameNext_39 : decode cX10_frameNext 39 = .ok (.irem, 1) := by decide +kernel
theorem dX10_frameNext_40 : decode cX10_frameNext 40 = .ok (.ireturn, 1) := by decide +kernel
theorem dX10_frameNext_41 : decode cX10_frameNext 41 = .ok (.iinc 1 1, 3) := by decide +kernel
theorem dX10_frameNext_44 : decode cX10_frameNext 44 = .ok (.goto (-42), 3) := by decide +kernel
theorem dX10_frameNext_47 : decode cX10_frameNext 47 = .ok (.aload_n 0, 1) := by decide +kernel
theorem dX10_frameNext_48 : decode cX10_frameNext 48 = .ok (.getfield 84, 3) := by decide +kernel
theorem dX10_frameNext_51 : decode cX10_frameNext 51 = .ok (.ireturn, 1) := by decide +kernel
theorem dX10_victimOf_0 : decode cX10_victimOf 0 = .ok (.iload_n 1, 1) := by decide +kernel
theorem dX10_victimOf_1 : decode cX10_victimOf 1 = .ok (.ifCond .ne 8, 3) := by decide +kernel
theorem dX10_victimOf_4 : decode cX10_victimOf 4 = .ok (.aload_n 0, 1) := by decide +kernel
theorem dX10_victimOf_5 : decode cX10_victimOf 5 = .ok (.invokevirtual 102, 3) := by decide +kernel
theorem dX10_victimOf_8 : decode cX10_victimOf 8 = .ok (.ireturn, 1) := by decide +kernel
theorem dX10_victimOf_9 : decode cX10_victimOf 9 = .ok (.iload_n 1, 1) := by decide +kernel
theorem dX10_victimOf_10 : decode cX10_victimOf 10 = .ok (.iconst 1, 1) := by decide +kernel
theorem dX10_victimOf_11 : decode cX10_victimOf 11 = .ok (.if_icmp .ne 13, 3) := by decide +kernel
theorem dX10_victimOf_14 : decode cX10_victimOf 14 = .ok (.aload_n 0, 1) := by decide +kernel
theorem dX10_victimOf_15 : decode cX10_victimOf 15 = .ok (.getfield 42, 3) := by decide +kernel
theorem dX10_victimOf_18 : decode cX10_victimOf 18 = .ok (.aload_n 0, 1) := by decide +kernel
theorem dX10_victimOf_19 : decode cX10_victimOf 19 = .ok (.invokevirtual 175, 3) := by decide +kernel
theorem dX10_victimOf_22 : decode cX10_victimOf 22 = .ok (.iaload, 1) := by decide +kernel
theorem dX10_victimOf_23 : decode cX10_victimOf 23 = .ok (.ireturn, 1) := by decide +kernel
theorem dX10_victimOf_24 : decode cX10_victimOf 24 = .ok (.iload_n 1, 1) := by decide +kernel
theorem dX10_victimOf_25 : decode cX10_victimOf 25 = .ok (.iconst 2, 1) := by decide +kernel
theorem dX10_victimOf_26 : decode cX10_victimOf 26 = .ok (.if_icmp .ne 29, 3) := by decide +kernel
theorem dX10_victimOf_29 : decode cX10_victimOf 29 = .ok (.aload_n 0, 1) := by decide +kernel
theorem dX10_victimOf_30 : decode cX10_victimOf 30 = .ok (.aload_n 0, 1) := by decide +kernel
theorem dX10_victimOf_31 : decode cX10_victimOf 31 = .ok (.iconst 1, 1) := by decide +kernel
theorem dX10_victimOf_32 : decode cX10_victimOf 32 = .ok (.invokevirtual 109, 3) := by decide +kernel
theorem dX10_victimOf_35 : decode cX10_victimOf 35 = .ok (.aload_n 0, 1) := by decide +kernel
theorem dX10_victimOf_36 : decode cX10_victimOf 36 = .ok (.getfield 7, 3) := by decide +kernel
theorem dX10_victimOf_39 : decode cX10_victimOf 39 = .ok (.if_icmp .ne 7, 3) := by decide +kernel
theorem dX10_victimOf_42 : decode cX10_victimOf 42 = .ok (.iconst 1, 1) := by decide +kernel
theorem dX10_victimOf_43 : decode cX10_victimOf 43 = .ok (.goto 8, 3) := by decide +kernel
theorem dX10_victimOf_46 : decode cX10_victimOf 46 = .ok (.aload_n 0, 1) := by decide +kernel
theorem dX10_victimOf_47 : decode cX10_victimOf 47 = .ok (.iconst 0, 1) := by decide +kernel
theorem dX10_victimOf_48 : decode cX10_victimOf 48 = .ok (.invokevirtual 112, 3) := by decide +kernel
theorem dX10_victimOf_51 : decode cX10_victimOf 51 = .ok (.invokevirtual 116, 3) := by decide +kernel
theorem dX10_victimOf_54 : decode cX10_victimOf 54 = .ok (.ireturn, 1) := by decide +kernel
theorem dX10_victimOf_55 : decode cX10_victimOf 55 = .ok (.aload_n 0, 1) := by decide +kernel
theorem dX10_victimOf_56 : decode cX10_victimOf 56 = .ok (.invokevirtual 130, 3) := by decide +kernel
theorem dX10_victimOf_59 : decode cX10_victimOf 59 = .ok (.ireturn, 1) := by decide +kernel
theorem dX10_victim_0 : decode cX10_victim 0 = .ok (.aload_n 0, 1) := by decide +kernel
theorem dX10_victim_1 : decode cX10_victim 1 = .ok (.iload_n 1, 1) := by decide +kernel
theorem dX10_victim_2 : decode cX10_victim 2 = .ok (.invokestatic 165, 3) := by decide +kernel
theorem dX10_victim_5 : decode cX10_victim 5 = .ok (.ifCond .ne 7, 3) := by decide +kernel
theorem dX10_victim_8 : decode cX10_victim 8 = .ok (.iconst 1, 1) := by decide +kernel
theorem dX10_victim_9 : decode cX10_victim 9 = .ok (.goto 20, 3) := by decide +kernel
theorem dX10_victim_12 : decode cX10_victim 12 = .ok (.aload_n 0, 1) := by decide +kernel
theorem dX10_victim_13 : decode cX10_victim 13 = .ok (.iload_n 1, 1) := by decide +kernel
theorem dX10_victim_14 : decode cX10_victim 14 = .ok (.invokevirtual 172, 3) := by decide +kernel
theorem dX10_victim_17 : decode cX10_victim 17 = .ok (.aload_n 0, 1) := by decide +kernel
theorem dX10_victim_18 : decode cX10_victim 18 = .ok (.getfield 7, 3) := by decide +kernel
theorem dX10_victim_21 : decode cX10_victim 21 = .ok (.if_icmp .ge 7, 3) := by decide +kernel
theorem dX10_victim_24 : decode cX10_victim 24 = .ok (.iconst 2, 1) := by decide +kernel
theorem dX10_victim_25 : decode cX10_victim 25 = .ok (.goto 4, 3) := by decide +kernel
theorem dX10_victim_28 : decode cX10_victim 28 = .ok (.iconst 0, 1) := by decide +kernel
theorem dX10_victim_29 : decode cX10_victim 29 = .ok (.invokevirtual 94, 3) := by decide +kernel
theorem dX10_victim_32 : decode cX10_victim 32 = .ok (.ifCond .eq 11, 3) := by decide +kernel
theorem dX10_victim_35 : decode cX10_victim 35 = .ok (.aload_n 0, 1) := by decide +kernel
theorem dX10_victim_36 : decode cX10_victim 36 = .ok (.iload_n 1, 1) := by decide +kernel
theorem dX10_victim_37 : decode cX10_victim 37 = .ok (.invokevirtual 178, 3) := by decide +kernel
theorem dX10_victim_40 : decode cX10_victim 40 = .ok (.goto 4, 3) := by decide +kernel
theorem dX10_victim_43 : decode cX10_victim 43 = .ok (.iconst 0, 1) := by decide +kernel
theorem dX10_victim_44 : decode cX10_victim 44 = .ok (.ireturn, 1) := by decide +kernel
theorem dX10_hand_0 : decode cX10_hand 0 = .ok (.aload_n 0, 1) := by decide +kernel
theorem dX10_hand_1 : decode cX10_hand 1 = .ok (.iconst 0, 1) := by decide +kernel
theorem dX10_hand_2 : decode cX10_hand 2 = .ok (.putfield 60, 3) := by decide +kernel
theorem dX10_hand_5 : decode cX10_hand 5 = .ok (.aload_n 0, 1) := by decide +kernel
theorem dX10_hand_6 : decode cX10_hand 6 = .ok (.getfield 84, 3) := by decide +kernel
theorem dX10_hand_9 : decode cX10_hand 9 = .ok (.ireturn, 1) := by decide +kernel
theorem dX10_isReferenced_0 : decode cX10_isReferenced 0 = .ok (.aload_n 0, 1) := by decide +kernel
theorem dX10_isReferenced_1 : decode cX10_isReferenced 1 = .ok (.iload_n 1, 1) := by decide +kernel
theorem dX10_isReferenced_2 : decode cX10_isReferenced 2 = .ok (.invokestatic 137, 3) := by decide +kernel
theorem dX10_isReferenced_5 : decode cX10_isReferenced 5 = .ok (.ifCond .eq 7, 3) := by decide +kernel
theorem dX10_isReferenced_8 : decode cX10_isReferenced 8 = .ok (.iconst 0, 1) := by decide +kernel
theorem dX10_isReferenced_9 : decode cX10_isReferenced 9 = .ok (.goto 4, 3) := by decide +kernel
theorem dX10_isReferenced_12 : decode cX10_isReferenced 12 = .ok (.iconst 1, 1) := by decide +kernel
theorem dX10_isReferenced_13 : decode cX10_isReferenced 13 = .ok (.invokevirtual 94, 3) := by decide +kernel
theorem dX10_isReferenced_16 : decode cX10_isReferenced 16 = .ok (.ifCond .eq 29, 3) := by decide +kernel
theorem dX10_isReferenced_19 : decode cX10_isReferenced 19 = .ok (.aload_n 0, 1) := by decide +kernel
theorem dX10_isReferenced_20 : decode cX10_isReferenced 20 = .ok (.iload_n 1, 1) := by decide +kernel
theorem dX10_isReferenced_21 : decode cX10_isReferenced 21 = .ok (.invokevirtual 105, 3) := by decide +kernel
theorem dX10_isReferenced_24 : decode cX10_isReferenced 24 = .ok (.iconst (-1), 1) := by decide +kernel
theorem dX10_isReferenced_25 : decode cX10_isReferenced 25 = .ok (.if_icmp .eq 20, 3) := by decide +kernel
theorem dX10_isReferenced_28 : decode cX10_isReferenced 28 = .ok (.aload_n 0, 1) := by decide +kernel
theorem dX10_isReferenced_29 : decode cX10_isReferenced 29 = .ok (.getfield 45, 3) := by decide +kernel
theorem dX10_isReferenced_32 : decode cX10_isReferenced 32 = .ok (.aload_n 0, 1) := by decide +kernel
theorem dX10_isReferenced_33 : decode cX10_isReferenced 33 = .ok (.iload_n 1, 1) := by decide +kernel
theorem dX10_isReferenced_34 : decode cX10_isReferenced 34 = .ok (.invokevirtual 105, 3) := by decide +kernel
theorem dX10_isReferenced_37 : decode cX10_isReferenced 37 = .ok (.baload, 1) := by decide +kernel
theorem dX10_isReferenced_38 : decode cX10_isReferenced 38 = .ok (.ifCond .eq 7, 3) := by decide +kernel
theorem dX10_isReferenced_41 : decode cX10_isReferenced 41 = .ok (.iconst 1, 1) := by decide +kernel
theorem dX10_isReferenced_42 : decode cX10_isReferenced 42 = .ok (.goto 4, 3) := by decide +kernel
theorem dX10_isReferenced_45 : decode cX10_isReferenced 45 = .ok (.iconst 0, 1) := by decide +kernel
theorem dX10_isReferenced_46 : decode cX10_isReferenced 46 = .ok (.ireturn, 1) := by decide +kernel
theorem dX10_listOf_0 : decode cX10_listOf 0 = .ok (.aload_n 0, 1) := by decide +kernel
theorem dX10_listOf_1 : decode cX10_listOf 1 = .ok (.iload_n 1, 1) := by decide +kernel
theorem dX10_listOf_2 : decode cX10_listOf 2 = .ok (.invokestatic 137, 3) := by decide +kernel
theorem dX10_listOf_5 : decode cX10_listOf 5 = .ok (.ifCond .eq 7, 3) := by decide +kernel
theorem dX10_listOf_8 : decode cX10_listOf 8 = .ok (.iconst 0, 1) := by decide +kernel
theorem dX10_listOf_9 : decode cX10_listOf 9 = .ok (.goto 4, 3) := by decide +kernel
theorem dX10_listOf_12 : decode cX10_listOf 12 = .ok (.iconst 1, 1) := by decide +kernel
theorem dX10_listOf_13 : decode cX10_listOf 13 = .ok (.invokevirtual 94, 3) := by decide +kernel
theorem dX10_listOf_16 : decode cX10_listOf 16 = .ok (.ifCond .eq 12, 3) := by decide +kernel
theorem dX10_listOf_19 : decode cX10_listOf 19 = .ok (.aload_n 0, 1) := by decide +kernel
theorem dX10_listOf_20 : decode cX10_listOf 20 = .ok (.getfield 48, 3) := by decide +kernel
theorem dX10_listOf_23 : decode cX10_listOf 23 = .ok (.iload_n 1, 1) := by decide +kernel
theorem dX10_listOf_24 : decode cX10_listOf 24 = .ok (.iaload, 1) := by decide +kernel
theorem dX10_listOf_25 : decode cX10_listOf 25 = .ok (.goto 4, 3) := by decide +kernel
theorem dX10_listOf_28 : decode cX10_listOf 28 = .ok (.iconst 0, 1) := by decide +kernel
theorem dX10_listOf_29 : decode cX10_listOf 29 = .ok (.ireturn, 1) := by decide +kernel
theorem dX10_listSize_0 : decode cX10_listSize 0 = .ok (.aload_n 0, 1) := by decide +kernel
theorem dX10_listSize_1 : decode cX10_listSize 1 = .ok (.iload_n 1, 1) := by decide +kernel
theorem dX10_listSize_2 : decode cX10_listSize 2 = .ok (.i2l, 1) := by decide +kernel
theorem dX10_listSize_3 : decode cX10_listSize 3 = .ok (.lconst 1, 1) := by decide +kernel
theorem dX10_listSize_4 : decode cX10_listSize 4 = .ok (.ldc2_w 181, 3) := by decide +kernel
theorem dX10_listSize_7 : decode cX10_listSize 7 = .ok (.invokestatic 65, 3) := by decide +kernel
theorem dX10_listSize_10 : decode cX10_listSize 10 = .ok (.ifCond .eq 7, 3) := by decide +kernel
theorem dX10_listSize_13 : decode cX10_listSize 13 = .ok (.iconst 0, 1) := by decide +kernel
theorem dX10_listSize_14 : decode cX10_listSize 14 = .ok (.goto 4, 3) := by decide +kernel
theorem dX10_listSize_17 : decode cX10_listSize 17 = .ok (.iconst 1, 1) := by decide +kernel
theorem dX10_listSize_18 : decode cX10_listSize 18 = .ok (.invokevirtual 94, 3) := by decide +kernel
theorem dX10_listSize_21 : decode cX10_listSize 21 = .ok (.ifCond .eq 11, 3) := by decide +kernel
theorem dX10_listSize_24 : decode cX10_listSize 24 = .ok (.aload_n 0, 1) := by decide +kernel
theorem dX10_listSize_25 : decode cX10_listSize 25 = .ok (.iload_n 1, 1) := by decide +kernel
theorem dX10_listSize_26 : decode cX10_listSize 26 = .ok (.invokevirtual 109, 3) := by decide +kernel
theorem dX10_listSize_29 : decode cX10_listSize 29 = .ok (.goto 4, 3) := by decide +kernel
theorem dX10_listSize_32 : decode cX10_listSize 32 = .ok (.iconst 0, 1) := by decide +kernel
theorem dX10_listSize_33 : decode cX10_listSize 33 = .ok (.ireturn, 1) := by decide +kernel
theorem dX10_target_0 : decode cX10_target 0 = .ok (.aload_n 0, 1) := by decide +kernel
theorem dX10_target_1 : decode cX10_target 1 = .ok (.iconst 0, 1) := by decide +kernel
theorem dX10_target_2 : decode cX10_target 2 = .ok (.putfield 60, 3) := by decide +kernel
theorem dX10_target_5 : decode cX10_target 5 = .ok (.aload_n 0, 1) := by decide +kernel
theorem dX10_target_6 : decode cX10_target 6 = .ok (.getfield 87, 3) := by decide +kernel
theorem dX10_target_9 : decode cX10_target 9 = .ok (.ireturn, 1) := by decide +kernel
theorem dX10_prefetches_0 : decode cX10_prefetches 0 = .ok (.aload_n 0, 1) := by decide +kernel
theorem dX10_prefetches_1 : decode cX10_prefetches 1 = .ok (.iconst 0, 1) := by decide +kernel
theorem dX10_prefetches_2 : decode cX10_prefetches 2 = .ok (.putfield 60, 3) := by decide +kernel
theorem dX10_prefetches_5 : decode cX10_prefetches 5 = .ok (.aload_n 0, 1) := by decide +kernel
theorem dX10_prefetches_6 : decode cX10_prefetches 6 = .ok (.getfield 75, 3) := by decide +kernel
theorem dX10_prefetches_9 : decode cX10_prefetches 9 = .ok (.ireturn, 1) := by decide +kernel
theorem dX10_usefulPrefetches_0 : decode cX10_usefulPrefetches 0 = .ok (.aload_n 0, 1) := by decide +kernel
theorem dX10_usefulPrefetches_1 : decode cX10_usefulPrefetches 1 = .ok (.iconst 0, 1) := by decide +kernel
theorem dX10_usefulPrefetches_2 : decode cX10_usefulPrefetches 2 = .ok (.putfield 60, 3) := by decide +kernel
theorem dX10_usefulPrefetches_5 : decode cX10_usefulPrefetches 5 = .ok (.aload_n 0, 1) := by decide +kernel
theorem dX10_usefulPrefetches_6 : decode cX10_usefulPrefetches 6 = .ok (.getfield 78, 3) := by decide +kernel
theorem dX10_usefulPrefetches_9 : decode cX10_usefulPrefetches 9 = .ok (.ireturn, 1) := by decide +kernel
theorem dX10_refaults_0 : decode cX10_refaults 0 = .ok (.aload_n 0, 1) := by decide +kernel
theorem dX10_refaults_1 : decode cX10_refaults 1 = .ok (.iload_n 1, 1) := by decide +kernel
theorem dX10_refaults_2 : decode cX10_refaults 2 = .ok (.i2l, 1) := by decide +kernel
theorem dX10_refaults_3 : decode cX10_refaults 3 = .ok (.lconst 0, 1) := by decide +kernel
theorem dX10_refaults_4 : decode cX10_refaults 4 = .ok (.ldc2_w 183, 3) := by decide +kernel
theorem dX10_refaults_7 : decode cX10_refaults 7 = .ok (.invokestatic 65, 3) := by decide +kernel
theorem dX10_refaults_10 : decode cX10_refaults 10 = .ok (.ifCond .eq 7, 3) := by decide +kernel
theorem dX10_refaults_13 : decode cX10_refaults 13 = .ok (.iconst 0, 1) := by decide +kernel
theorem dX10_refaults_14 : decode cX10_refaults 14 = .ok (.goto 4, 3) := by decide +kernel
theorem dX10_refaults_17 : decode cX10_refaults 17 = .ok (.iconst 1, 1) := by decide +kernel
theorem dX10_refaults_18 : decode cX10_refaults 18 = .ok (.invokevirtual 94, 3) := by decide +kernel
theorem dX10_refaults_21 : decode cX10_refaults 21 = .ok (.ifCond .ne 5, 3) := by decide +kernel
theorem dX10_refaults_24 : decode cX10_refaults 24 = .ok (.iconst 0, 1) := by decide +kernel
theorem dX10_refaults_25 : decode cX10_refaults 25 = .ok (.ireturn, 1) := by decide +kernel
theorem dX10_refaults_26 : decode cX10_refaults 26 = .ok (.iconst 0, 1) := by decide +kernel
theorem dX10_refaults_27 : decode cX10_refaults 27 = .ok (.istore_n 2, 1) := by decide +kernel
theorem dX10_refaults_28 : decode cX10_refaults 28 = .ok (.iconst 0, 1) := by decide +kernel
theorem dX10_refaults_29 : decode cX10_refaults 29 = .ok (.istore_n 3, 1) := by decide +kernel
theorem dX10_refaults_30 : decode cX10_refaults 30 = .ok (.iload_n 3, 1) := by decide +kernel
theorem dX10_refaults_31 : decode cX10_refaults 31 = .ok (.iload_n 1, 1) := by decide +kernel
theorem dX10_refaults_32 : decode cX10_refaults 32 = .ok (.if_icmp .gt 18, 3) := by decide +kernel
theorem dX10_refaults_35 : decode cX10_refaults 35 = .ok (.iload_n 2, 1) := by decide +kernel
theorem dX10_refaults_36 : decode cX10_refaults 36 = .ok (.aload_n 0, 1) := by decide +kernel
theorem dX10_refaults_37 : decode cX10_refaults 37 = .ok (.getfield 39, 3) := by decide +kernel
theorem dX10_refaults_40 : decode cX10_refaults 40 = .ok (.iload_n 3, 1) := by decide +kernel
theorem dX10_refaults_41 : decode cX10_refaults 41 = .ok (.iaload, 1) := by decide +kernel
theorem dX10_refaults_42 : decode cX10_refaults 42 = .ok (.iadd, 1) := by decide +kernel
theorem dX10_refaults_43 : decode cX10_refaults 43 = .ok (.istore_n 2, 1) := by decide +kernel
theorem dX10_refaults_44 : decode cX10_refaults 44 = .ok (.iinc 3 1, 3) := by decide +kernel
theorem dX10_refaults_47 : decode cX10_refaults 47 = .ok (.goto (-17), 3) := by decide +kernel
theorem dX10_refaults_50 : decode cX10_refaults 50 = .ok (.iload_n 2, 1) := by decide +kernel
theorem dX10_refaults_51 : decode cX10_refaults 51 = .ok (.ireturn, 1) := by decide +kernel
theorem dX10_refaultDistance_0 : decode cX10_refaultDistance 0 = .ok (.aload_n 0, 1) := by decide +kernel
theorem dX10_refaultDistance_1 : decode cX10_refaultDistance 1 = .ok (.iload_n 1, 1) := by decide +kernel
theorem dX10_refaultDistance_2 : decode cX10_refaultDistance 2 = .ok (.invokestatic 137, 3) := by decide +kernel
theorem dX10_refaultDistance_5 : decode cX10_refaultDistance 5 = .ok (.ifCond .ne 7, 3) := by decide +kernel
theorem dX10_refaultDistance_8 : decode cX10_refaultDistance 8 = .ok (.iconst 1, 1) := by decide +kernel
theorem dX10_refaultDistance_9 : decode cX10_refaultDistance 9 = .ok (.goto 18, 3) := by decide +kernel
theorem dX10_refaultDistance_12 : decode cX10_refaultDistance 12 = .ok (.aload_n 0, 1) := by decide +kernel
theorem dX10_refaultDistance_13 : decode cX10_refaultDistance 13 = .ok (.getfield 36, 3) := by decide +kernel
theorem dX10_refaultDistance_16 : decode cX10_refaultDistance 16 = .ok (.iload_n 1, 1) := by decide +kernel
theorem dX10_refaultDistance_17 : decode cX10_refaultDistance 17 = .ok (.iaload, 1) := by decide +kernel
theorem dX10_refaultDistance_18 : decode cX10_refaultDistance 18 = .ok (.iconst (-1), 1) := by decide +kernel
theorem dX10_refaultDistance_19 : decode cX10_refaultDistance 19 = .ok (.if_icmp .ne 7, 3) := by decide +kernel
theorem dX10_refaultDistance_22 : decode cX10_refaultDistance 22 = .ok (.iconst 2, 1) := by decide +kernel
theorem dX10_refaultDistance_23 : decode cX10_refaultDistance 23 = .ok (.goto 4, 3) := by decide +kernel
theorem dX10_refaultDistance_26 : decode cX10_refaultDistance 26 = .ok (.iconst 0, 1) := by decide +kernel
theorem dX10_refaultDistance_27 : decode cX10_refaultDistance 27 = .ok (.invokevirtual 94, 3) := by decide +kernel
theorem dX10_refaultDistance_30 : decode cX10_refaultDistance 30 = .ok (.ifCond .eq 12, 3) := by decide +kernel
theorem dX10_refaultDistance_33 : decode cX10_refaultDistance 33 = .ok (.aload_n 0, 1) := by decide +kernel
theorem dX10_refaultDistance_34 : decode cX10_refaultDistance 34 = .ok (.getfield 36, 3) := by decide +kernel
theorem dX10_refaultDistance_37 : decode cX10_refaultDistance 37 = .ok (.iload_n 1, 1) := by decide +kernel
theorem dX10_refaultDistance_38 : decode cX10_refaultDistance 38 = .ok (.iaload, 1) := by decide +kernel
theorem dX10_refaultDistance_39 : decode cX10_refaultDistance 39 = .ok (.goto 4, 3) := by decide +kernel
theorem dX10_refaultDistance_42 : decode cX10_refaultDistance 42 = .ok (.iconst 0, 1) := by decide +kernel
theorem dX10_refaultDistance_43 : decode cX10_refaultDistance 43 = .ok (.ireturn, 1) := by decide +kernel
theorem dX10_setOf_0 : decode cX10_setOf 0 = .ok (.iload_n 1, 1) := by decide +kernel
theorem dX10_setOf_1 : decode cX10_setOf 1 = .ok (.aload_n 0, 1) := by decide +kernel
theorem dX10_setOf_2 : decode cX10_setOf 2 = .ok (.getfield 13, 3) := by decide +kernel
theorem dX10_setOf_5 : decode cX10_setOf 5 = .ok (.isub, 1) := by decide +kernel
theorem dX10_setOf_6 : decode cX10_setOf 6 = .ok (.iconst 1, 1) := by decide +kernel
theorem dX10_setOf_7 : decode cX10_setOf 7 = .ok (.iadd, 1) := by decide +kernel
theorem dX10_setOf_8 : decode cX10_setOf 8 = .ok (.ifCond .ge 7, 3) := by decide +kernel
theorem dX10_setOf_11 : decode cX10_setOf 11 = .ok (.iconst 0, 1) := by decide +kernel
theorem dX10_setOf_12 : decode cX10_setOf 12 = .ok (.goto 11, 3) := by decide +kernel
theorem dX10_setOf_15 : decode cX10_setOf 15 = .ok (.iload_n 1, 1) := by decide +kernel
theorem dX10_setOf_16 : decode cX10_setOf 16 = .ok (.aload_n 0, 1) := by decide +kernel
theorem dX10_setOf_17 : decode cX10_setOf 17 = .ok (.getfield 13, 3) := by decide +kernel
theorem dX10_setOf_20 : decode cX10_setOf 20 = .ok (.isub, 1) := by decide +kernel
theorem dX10_setOf_21 : decode cX10_setOf 21 = .ok (.iconst 1, 1) := by decide +kernel
theorem dX10_setOf_22 : decode cX10_setOf 22 = .ok (.iadd, 1) := by decide +kernel
theorem dX10_setOf_23 : decode cX10_setOf 23 = .ok (.istore_n 2, 1) := by decide +kernel
theorem dX10_setOf_24 : decode cX10_setOf 24 = .ok (.iconst 0, 1) := by decide +kernel
theorem dX10_setOf_25 : decode cX10_setOf 25 = .ok (.istore_n 3, 1) := by decide +kernel
theorem dX10_setOf_26 : decode cX10_setOf 26 = .ok (.iload_n 2, 1) := by decide +kernel
theorem dX10_setOf_27 : decode cX10_setOf 27 = .ok (.istore 4, 2) := by decide +kernel
theorem dX10_setOf_29 : decode cX10_setOf 29 = .ok (.iload 4, 2) := by decide +kernel
theorem dX10_setOf_31 : decode cX10_setOf 31 = .ok (.iload_n 1, 1) := by decide +kernel
theorem dX10_setOf_32 : decode cX10_setOf 32 = .ok (.if_icmp .gt 70, 3) := by decide +kernel
theorem dX10_setOf_35 : decode cX10_setOf 35 = .ok (.iconst 1, 1) := by decide +kernel
theorem dX10_setOf_36 : decode cX10_setOf 36 = .ok (.istore 5, 2) := by decide +kernel
theorem dX10_setOf_38 : decode cX10_setOf 38 = .ok (.iload_n 2, 1) := by decide +kernel
theorem dX10_setOf_39 : decode cX10_setOf 39 = .ok (.istore 6, 2) := by decide +kernel
theorem dX10_setOf_41 : decode cX10_setOf 41 = .ok (.iload 6, 2) := by decide +kernel
theorem dX10_setOf_43 : decode cX10_setOf 43 = .ok (.iload 4, 2) := by decide +kernel
theorem dX10_setOf_45 : decode cX10_setOf 45 = .ok (.if_icmp .ge 38, 3) := by decide +kernel
theorem dX10_setOf_48 : decode cX10_setOf 48 = .ok (.iload 5, 2) := by decide +kernel
theorem dX10_setOf_50 : decode cX10_setOf 50 = .ok (.ifCond .eq 24, 3) := by decide +kernel
theorem dX10_setOf_53 : decode cX10_setOf 53 = .ok (.aload_n 0, 1) := by decide +kernel
theorem dX10_setOf_54 : decode cX10_setOf 54 = .ok (.getfield 16, 3) := by decide +kernel
theorem dX10_setOf_57 : decode cX10_setOf 57 = .ok (.iload 6, 2) := by decide +kernel
theorem dX10_setOf_59 : decode cX10_setOf 59 = .ok (.iaload, 1) := by decide +kernel
theorem dX10_setOf_60 : decode cX10_setOf 60 = .ok (.aload_n 0, 1) := by decide +kernel
theorem dX10_setOf_61 : decode cX10_setOf 61 = .ok (.getfield 16, 3) := by decide +kernel
theorem dX10_setOf_64 : decode cX10_setOf 64 = .ok (.iload 4, 2) := by decide +kernel
theorem dX10_setOf_66 : decode cX10_setOf 66 = .ok (.iaload, 1) := by decide +kernel
theorem dX10_setOf_67 : decode cX10_setOf 67 = .ok (.if_icmp .eq 7, 3) := by decide +kernel
theorem dX10_setOf_70 : decode cX10_setOf 70 = .ok (.iconst 1, 1) := by decide +kernel
theorem dX10_setOf_71 : decode cX10_setOf 71 = .ok (.goto 4, 3) := by decide +kernel
theorem dX10_setOf_74 : decode cX10_setOf 74 = .ok (.iconst 0, 1) := by decide +kernel
theorem dX10_setOf_75 : decode cX10_setOf 75 = .ok (.istore 5, 2) := by decide +kernel
theorem dX10_setOf_77 : decode cX10_setOf 77 = .ok (.iinc 6 1, 3) := by decide +kernel
theorem dX10_setOf_80 : decode cX10_setOf 80 = .ok (.goto (-39), 3) := by decide +kernel
theorem dX10_setOf_83 : decode cX10_setOf 83 = .ok (.iload_n 3, 1) := by decide +kernel
theorem dX10_setOf_84 : decode cX10_setOf 84 = .ok (.iload 5, 2) := by decide +kernel
theorem dX10_setOf_86 : decode cX10_setOf 86 = .ok (.ifCond .eq 7, 3) := by decide +kernel
theorem dX10_setOf_89 : decode cX10_setOf 89 = .ok (.iconst 1, 1) := by decide +kernel
theorem dX10_setOf_90 : decode cX10_setOf 90 = .ok (.goto 4, 3) := by decide +kernel
theorem dX10_setOf_93 : decode cX10_setOf 93 = .ok (.iconst 0, 1) := by decide +kernel
theorem dX10_setOf_94 : decode cX10_setOf 94 = .ok (.iadd, 1) := by decide +kernel
theorem dX10_setOf_95 : decode cX10_setOf 95 = .ok (.istore_n 3, 1) := by decide +kernel
theorem dX10_setOf_96 : decode cX10_setOf 96 = .ok (.iinc 4 1, 3) := by decide +kernel
theorem dX10_setOf_99 : decode cX10_setOf 99 = .ok (.goto (-70), 3) := by decide +kernel
theorem dX10_setOf_102 : decode cX10_setOf 102 = .ok (.iload_n 3, 1) := by decide +kernel
theorem dX10_setOf_103 : decode cX10_setOf 103 = .ok (.ireturn, 1) := by decide +kernel
theorem dX10_workingSet_0 : decode cX10_workingSet 0 = .ok (.aload_n 0, 1) := by decide +kernel
theorem dX10_workingSet_1 : decode cX10_workingSet 1 = .ok (.iload_n 1, 1) := by decide +kernel
theorem dX10_workingSet_2 : decode cX10_workingSet 2 = .ok (.i2l, 1) := by decide +kernel
theorem dX10_workingSet_3 : decode cX10_workingSet 3 = .ok (.lconst 0, 1) := by decide +kernel
theorem dX10_workingSet_4 : decode cX10_workingSet 4 = .ok (.aload_n 0, 1) := by decide +kernel
theorem dX10_workingSet_5 : decode cX10_workingSet 5 = .ok (.getfield 69, 3) := by decide +kernel
theorem dX10_workingSet_8 : decode cX10_workingSet 8 = .ok (.iconst 1, 1) := by decide +kernel
theorem dX10_workingSet_9 : decode cX10_workingSet 9 = .ok (.isub, 1) := by decide +kernel
theorem dX10_workingSet_10 : decode cX10_workingSet 10 = .ok (.i2l, 1) := by decide +kernel
theorem dX10_workingSet_11 : decode cX10_workingSet 11 = .ok (.invokestatic 65, 3) := by decide +kernel
theorem dX10_workingSet_14 : decode cX10_workingSet 14 = .ok (.ifCond .eq 7, 3) := by decide +kernel
theorem dX10_workingSet_17 : decode cX10_workingSet 17 = .ok (.iconst 0, 1) := by decide +kernel
theorem dX10_workingSet_18 : decode cX10_workingSet 18 = .ok (.goto 4, 3) := by decide +kernel
theorem dX10_workingSet_21 : decode cX10_workingSet 21 = .ok (.iconst 1, 1) := by decide +kernel
theorem dX10_workingSet_22 : decode cX10_workingSet 22 = .ok (.invokevirtual 94, 3) := by decide +kernel
theorem dX10_workingSet_25 : decode cX10_workingSet 25 = .ok (.ifCond .eq 11, 3) := by decide +kernel
theorem dX10_workingSet_28 : decode cX10_workingSet 28 = .ok (.aload_n 0, 1) := by decide +kernel
theorem dX10_workingSet_29 : decode cX10_workingSet 29 = .ok (.iload_n 1, 1) := by decide +kernel
theorem dX10_workingSet_30 : decode cX10_workingSet 30 = .ok (.invokevirtual 185, 3) := by decide +kernel
theorem dX10_workingSet_33 : decode cX10_workingSet 33 = .ok (.goto 4, 3) := by decide +kernel
theorem dX10_workingSet_36 : decode cX10_workingSet 36 = .ok (.iconst 0, 1) := by decide +kernel
theorem dX10_workingSet_37 : decode cX10_workingSet 37 = .ok (.ireturn, 1) := by decide +kernel
theorem dX10_averageWorkingSet_0 : decode cX10_averageWorkingSet 0 = .ok (.aload_n 0, 1) := by decide +kernel
theorem dX10_averageWorkingSet_1 : decode cX10_averageWorkingSet 1 = .ok (.aload_n 0, 1) := by decide +kernel
theorem dX10_averageWorkingSet_2 : decode cX10_averageWorkingSet 2 = .ok (.getfield 69, 3) := by decide +kernel
theorem dX10_averageWorkingSet_5 : decode cX10_averageWorkingSet 5 = .ok (.ifCond .ne 7, 3) := by decide +kernel
theorem dX10_averageWorkingSet_8 : decode cX10_averageWorkingSet 8 = .ok (.iconst 1, 1) := by decide +kernel
theorem dX10_averageWorkingSet_9 : decode cX10_averageWorkingSet 9 = .ok (.goto 4, 3) := by decide +kernel
theorem dX10_averageWorkingSet_12 : decode cX10_averageWorkingSet 12 = .ok (.iconst 0, 1) := by decide +kernel
theorem dX10_averageWorkingSet_13 : decode cX10_averageWorkingSet 13 = .ok (.invokevirtual 94, 3) := by decide +kernel
theorem dX10_averageWorkingSet_16 : decode cX10_averageWorkingSet 16 = .ok (.ifCond .ne 5, 3) := by decide +kernel
theorem dX10_averageWorkingSet_19 : decode cX10_averageWorkingSet 19 = .ok (.fconst 0, 1) := by decide +kernel
theorem dX10_averageWorkingSet_20 : decode cX10_averageWorkingSet 20 = .ok (.freturn, 1) := by decide +kernel
theorem dX10_averageWorkingSet_21 : decode cX10_averageWorkingSet 21 = .ok (.iconst 0, 1) := by decide +kernel
theorem dX10_averageWorkingSet_22 : decode cX10_averageWorkingSet 22 = .ok (.istore_n 1, 1) := by decide +kernel
theorem dX10_averageWorkingSet_23 : decode cX10_averageWorkingSet 23 = .ok (.iconst 0, 1) := by decide +kernel
theorem dX10_averageWorkingSet_24 : decode cX10_averageWorkingSet 24 = .ok (.istore_n 2, 1) := by decide +kernel
theorem dX10_averageWorkingSet_25 : decode cX10_averageWorkingSet 25 = .ok (.iload_n 2, 1) := by decide +kernel
theorem dX10_averageWorkingSet_26 : decode cX10_averageWorkingSet 26 = .ok (.aload_n 0, 1) := by decide +kernel
theorem dX10_averageWorkingSet_27 : decode cX10_averageWorkingSet 27 = .ok (.getfield 69, 3) := by decide +kernel
theorem dX10_averageWorkingSet_30 : decode cX10_averageWorkingSet 30 = .ok (.if_icmp .ge 17, 3) := by decide +kernel
theorem dX10_averageWorkingSet_33 : decode cX10_averageWorkingSet 33 = .ok (.iload_n 1, 1) := by decide +kernel
theorem dX10_averageWorkingSet_34 : decode cX10_averageWorkingSet 34 = .ok (.aload_n 0, 1) := by decide +kernel
theorem dX10_averageWorkingSet_35 : decode cX10_averageWorkingSet 35 = .ok (.iload_n 2, 1) := by decide +kernel
theorem dX10_averageWorkingSet_36 : decode cX10_averageWorkingSet 36 = .ok (.invokevirtual 185, 3) := by decide +kernel
theorem dX10_averageWorkingSet_39 : decode cX10_averageWorkingSet 39 = .ok (.iadd, 1) := by decide +kernel
theorem dX10_averageWorkingSet_40 : decode cX10_averageWorkingSet 40 = .ok (.istore_n 1, 1) := by decide +kernel
theorem dX10_averageWorkingSet_41 : decode cX10_averageWorkingSet 41 = .ok (.iinc 2 1, 3) := by decide +kernel
theorem dX10_averageWorkingSet_44 : decode cX10_averageWorkingSet 44 = .ok (.goto (-19), 3) := by decide +kernel
theorem dX10_averageWorkingSet_47 : decode cX10_averageWorkingSet 47 = .ok (.iload_n 1, 1) := by decide +kernel
theorem dX10_averageWorkingSet_48 : decode cX10_averageWorkingSet 48 = .ok (.i2f, 1) := by decide +kernel
theorem dX10_averageWorkingSet_49 : decode cX10_averageWorkingSet 49 = .ok (.aload_n 0, 1) := by decide +kernel
theorem dX10_averageWorkingSet_50 : decode cX10_averageWorkingSet 50 = .ok (.getfield 69, 3) := by decide +kernel
theorem dX10_averageWorkingSet_53 : decode cX10_averageWorkingSet 53 = .ok (.i2f, 1) := by decide +kernel
theorem dX10_averageWorkingSet_54 : decode cX10_averageWorkingSet 54 = .ok (.fdiv, 1) := by decide +kernel
theorem dX10_averageWorkingSet_55 : decode cX10_averageWorkingSet 55 = .ok (.freturn, 1) := by decide +kernel
theorem dX10_depthOf_0 : decode cX10_depthOf 0 = .ok (.iconst 0, 1) := by decide +kernel
theorem dX10_depthOf_1 : decode cX10_depthOf 1 = .ok (.istore_n 2, 1) := by decide +kernel
theorem dX10_depthOf_2 : decode cX10_depthOf 2 = .ok (.iload_n 2, 1) := by decide +kernel
theorem dX10_depthOf_3 : decode cX10_depthOf 3 = .ok (.bipush 64, 2) := by decide +kernel
theorem dX10_depthOf_5 : decode cX10_depthOf 5 = .ok (.if_icmp .ge 16, 3) := by decide +kernel
theorem dX10_depthOf_8 : decode cX10_depthOf 8 = .ok (.aload_n 0, 1) := by decide +kernel
theorem dX10_depthOf_9 : decode cX10_depthOf 9 = .ok (.getfield 54, 3) := by decide +kernel
theorem dX10_depthOf_12 : decode cX10_depthOf 12 = .ok (.iload_n 2, 1) := by decide +kernel
theorem dX10_depthOf_13 : decode cX10_depthOf 13 = .ok (.iconst 0, 1) := by decide +kernel
theorem dX10_depthOf_14 : decode cX10_depthOf 14 = .ok (.iastore, 1) := by decide +kernel
theorem dX10_depthOf_15 : decode cX10_depthOf 15 = .ok (.iinc 2 1, 3) := by decide +kernel
theorem dX10_depthOf_18 : decode cX10_depthOf 18 = .ok (.goto (-16), 3) := by decide +kernel
theorem dX10_depthOf_21 : decode cX10_depthOf 21 = .ok (.iconst 1, 1) := by decide +kernel
theorem dX10_depthOf_22 : decode cX10_depthOf 22 = .ok (.istore_n 2, 1) := by decide +kernel
theorem dX10_depthOf_23 : decode cX10_depthOf 23 = .ok (.iload_n 1, 1) := by decide +kernel
theorem dX10_depthOf_24 : decode cX10_depthOf 24 = .ok (.iconst 1, 1) := by decide +kernel
theorem dX10_depthOf_25 : decode cX10_depthOf 25 = .ok (.isub, 1) := by decide +kernel
theorem dX10_depthOf_26 : decode cX10_depthOf 26 = .ok (.istore_n 3, 1) := by decide +kernel
theorem dX10_depthOf_27 : decode cX10_depthOf 27 = .ok (.iload_n 3, 1) := by decide +kernel
theorem dX10_depthOf_28 : decode cX10_depthOf 28 = .ok (.ifCond .lt 58, 3) := by decide +kernel
theorem dX10_depthOf_31 : decode cX10_depthOf 31 = .ok (.aload_n 0, 1) := by decide +kernel
theorem dX10_depthOf_32 : decode cX10_depthOf 32 = .ok (.getfield 16, 3) := by decide +kernel
theorem dX10_depthOf_35 : decode cX10_depthOf 35 = .ok (.iload_n 3, 1) := by decide +kernel
theorem dX10_depthOf_36 : decode cX10_depthOf 36 = .ok (.iaload, 1) := by decide +kernel
theorem dX10_depthOf_37 : decode cX10_depthOf 37 = .ok (.aload_n 0, 1) := by decide +kernel
theorem dX10_depthOf_38 : decode cX10_depthOf 38 = .ok (.getfield 16, 3) := by decide +kernel
theorem dX10_depthOf_41 : decode cX10_depthOf 41 = .ok (.iload_n 1, 1) := by decide +kernel
theorem dX10_depthOf_42 : decode cX10_depthOf 42 = .ok (.iaload, 1) := by decide +kernel
theorem dX10_depthOf_43 : decode cX10_depthOf 43 = .ok (.if_icmp .eq 43, 3) := by decide +kernel
theorem dX10_depthOf_46 : decode cX10_depthOf 46 = .ok (.iload_n 2, 1) := by decide +kernel
theorem dX10_depthOf_47 : decode cX10_depthOf 47 = .ok (.aload_n 0, 1) := by decide +kernel
theorem dX10_depthOf_48 : decode cX10_depthOf 48 = .ok (.getfield 54, 3) := by decide +kernel
theorem dX10_depthOf_51 : decode cX10_depthOf 51 = .ok (.aload_n 0, 1) := by decide +kernel
theorem dX10_depthOf_52 : decode cX10_depthOf 52 = .ok (.getfield 16, 3) := by decide +kernel
theorem dX10_depthOf_55 : decode cX10_depthOf 55 = .ok (.iload_n 3, 1) := by decide +kernel
theorem dX10_depthOf_56 : decode cX10_depthOf 56 = .ok (.iaload, 1) := by decide +kernel
theorem dX10_depthOf_57 : decode cX10_depthOf 57 = .ok (.iaload, 1) := by decide +kernel
theorem dX10_depthOf_58 : decode cX10_depthOf 58 = .ok (.ifCond .ne 7, 3) := by decide +kernel
theorem dX10_depthOf_61 : decode cX10_depthOf 61 = .ok (.iconst 1, 1) := by decide +kernel
theorem dX10_depthOf_62 : decode cX10_depthOf 62 = .ok (.goto 4, 3) := by decide +kernel
theorem dX10_depthOf_65 : decode cX10_depthOf 65 = .ok (.iconst 0, 1) := by decide +kernel
theorem dX10_depthOf_66 : decode cX10_depthOf 66 = .ok (.iadd, 1) := by decide +kernel
theorem dX10_depthOf_67 : decode cX10_depthOf 67 = .ok (.istore_n 2, 1) := by decide +kernel
theorem dX10_depthOf_68 : decode cX10_depthOf 68 = .ok (.aload_n 0, 1) := by decide +kernel
theorem dX10_depthOf_69 : decode cX10_depthOf 69 = .ok (.getfield 54, 3) := by decide +kernel
theorem dX10_depthOf_72 : decode cX10_depthOf 72 = .ok (.aload_n 0, 1) := by decide +kernel
theorem dX10_depthOf_73 : decode cX10_depthOf 73 = .ok (.getfield 16, 3) := by decide +kernel
theorem dX10_depthOf_76 : decode cX10_depthOf 76 = .ok (.iload_n 3, 1) := by decide +kernel
theorem dX10_depthOf_77 : decode cX10_depthOf 77 = .ok (.iaload, 1) := by decide +kernel
theorem dX10_depthOf_78 : decode cX10_depthOf 78 = .ok (.iconst 1, 1) := by decide +kernel
theorem dX10_depthOf_79 : decode cX10_depthOf 79 = .ok (.iastore, 1) := by decide +kernel
theorem dX10_depthOf_80 : decode cX10_depthOf 80 = .ok (.iinc 3 (-1), 3) := by decide +kernel
theorem dX10_depthOf_83 : decode cX10_depthOf 83 = .ok (.goto (-56), 3) := by decide +kernel
theorem dX10_depthOf_86 : decode cX10_depthOf 86 = .ok (.iload_n 3, 1) := by decide +kernel
theorem dX10_depthOf_87 : decode cX10_depthOf 87 = .ok (.ifCond .ge 8, 3) := by decide +kernel
theorem dX10_depthOf_90 : decode cX10_depthOf 90 = .ok (.bipush 65, 2) := by decide +kernel
theorem dX10_depthOf_92 : decode cX10_depthOf 92 = .ok (.goto 4, 3) := by decide +kernel
theorem dX10_depthOf_95 : decode cX10_depthOf 95 = .ok (.iload_n 2, 1) := by decide +kernel
theorem dX10_depthOf_96 : decode cX10_depthOf 96 = .ok (.ireturn, 1) := by decide +kernel
theorem dX10_faultsWith_0 : decode cX10_faultsWith 0 = .ok (.aload_n 0, 1) := by decide +kernel
theorem dX10_faultsWith_1 : decode cX10_faultsWith 1 = .ok (.iload_n 1, 1) := by decide +kernel
theorem dX10_faultsWith_2 : decode cX10_faultsWith 2 = .ok (.i2l, 1) := by decide +kernel
theorem dX10_faultsWith_3 : decode cX10_faultsWith 3 = .ok (.lconst 1, 1) := by decide +kernel
theorem dX10_faultsWith_4 : decode cX10_faultsWith 4 = .ok (.ldc2_w 90, 3) := by decide +kernel
theorem dX10_faultsWith_7 : decode cX10_faultsWith 7 = .ok (.invokestatic 65, 3) := by decide +kernel
theorem dX10_faultsWith_10 : decode cX10_faultsWith 10 = .ok (.ifCond .eq 7, 3) := by decide +kernel
theorem dX10_faultsWith_13 : decode cX10_faultsWith 13 = .ok (.iconst 0, 1) := by decide +kernel
theorem dX10_faultsWith_14 : decode cX10_faultsWith 14 = .ok (.goto 4, 3) := by decide +kernel
theorem dX10_faultsWith_17 : decode cX10_faultsWith 17 = .ok (.iconst 1, 1) := by decide +kernel
theorem dX10_faultsWith_18 : decode cX10_faultsWith 18 = .ok (.invokevirtual 94, 3) := by decide +kernel
theorem dX10_faultsWith_21 : decode cX10_faultsWith 21 = .ok (.ifCond .ne 5, 3) := by decide +kernel
theorem dX10_faultsWith_24 : decode cX10_faultsWith 24 = .ok (.iconst 0, 1) := by decide +kernel
theorem dX10_faultsWith_25 : decode cX10_faultsWith 25 = .ok (.ireturn, 1) := by decide +kernel
theorem dX10_faultsWith_26 : decode cX10_faultsWith 26 = .ok (.iconst 0, 1) := by decide +kernel
theorem dX10_faultsWith_27 : decode cX10_faultsWith 27 = .ok (.istore_n 2, 1) := by decide +kernel
theorem dX10_faultsWith_28 : decode cX10_faultsWith 28 = .ok (.iconst 0, 1) := by decide +kernel
theorem dX10_faultsWith_29 : decode cX10_faultsWith 29 = .ok (.istore_n 3, 1) := by decide +kernel
theorem dX10_faultsWith_30 : decode cX10_faultsWith 30 = .ok (.iload_n 3, 1) := by decide +kernel
theorem dX10_faultsWith_31 : decode cX10_faultsWith 31 = .ok (.aload_n 0, 1) := by decide +kernel
theorem dX10_faultsWith_32 : decode cX10_faultsWith 32 = .ok (.getfield 69, 3) := by decide +kernel
theorem dX10_faultsWith_35 : decode cX10_faultsWith 35 = .ok (.if_icmp .ge 26, 3) := by decide +kernel
theorem dX10_faultsWith_38 : decode cX10_faultsWith 38 = .ok (.iload_n 2, 1) := by decide +kernel
theorem dX10_faultsWith_39 : decode cX10_faultsWith 39 = .ok (.aload_n 0, 1) := by decide +kernel
theorem dX10_faultsWith_40 : decode cX10_faultsWith 40 = .ok (.iload_n 3, 1) := by decide +kernel
theorem dX10_faultsWith_41 : decode cX10_faultsWith 41 = .ok (.invokevirtual 188, 3) := by decide +kernel
theorem dX10_faultsWith_44 : decode cX10_faultsWith 44 = .ok (.iload_n 1, 1) := by decide +kernel
theorem dX10_faultsWith_45 : decode cX10_faultsWith 45 = .ok (.if_icmp .le 7, 3) := by decide +kernel
theorem dX10_faultsWith_48 : decode cX10_faultsWith 48 = .ok (.iconst 1, 1) := by decide +kernel
theorem dX10_faultsWith_49 : decode cX10_faultsWith 49 = .ok (.goto 4, 3) := by decide +kernel
theorem dX10_faultsWith_52 : decode cX10_faultsWith 52 = .ok (.iconst 0, 1) := by decide +kernel
theorem dX10_faultsWith_53 : decode cX10_faultsWith 53 = .ok (.iadd, 1) := by decide +kernel
theorem dX10_faultsWith_54 : decode cX10_faultsWith 54 = .ok (.istore_n 2, 1) := by decide +kernel
theorem dX10_faultsWith_55 : decode cX10_faultsWith 55 = .ok (.iinc 3 1, 3) := by decide +kernel
theorem dX10_faultsWith_58 : decode cX10_faultsWith 58 = .ok (.goto (-28), 3) := by decide +kernel
theorem dX10_faultsWith_61 : decode cX10_faultsWith 61 = .ok (.iload_n 2, 1) := by decide +kernel
theorem dX10_faultsWith_62 : decode cX10_faultsWith 62 = .ok (.ireturn, 1) := by decide +kernel
theorem dX10_nextOf_0 : decode cX10_nextOf 0 = .ok (.iload_n 2, 1) := by decide +kernel
theorem dX10_nextOf_1 : decode cX10_nextOf 1 = .ok (.istore_n 3, 1) := by decide +kernel
theorem dX10_nextOf_2 : decode cX10_nextOf 2 = .ok (.iload_n 3, 1) := by decide +kernel
theorem dX10_nextOf_3 : decode cX10_nextOf 3 = .ok (.aload_n 0, 1) := by decide +kernel
theorem dX10_nextOf_4 : decode cX10_nextOf 4 = .ok (.getfield 69, 3) := by decide +kernel
theorem dX10_nextOf_7 : decode cX10_nextOf 7 = .ok (.if_icmp .ge 19, 3) := by decide +kernel
theorem dX10_nextOf_10 : decode cX10_nextOf 10 = .ok (.aload_n 0, 1) := by decide +kernel
theorem dX10_nextOf_11 : decode cX10_nextOf 11 = .ok (.getfield 16, 3) := by decide +kernel
theorem dX10_nextOf_14 : decode cX10_nextOf 14 = .ok (.iload_n 3, 1) := by decide +kernel
theorem dX10_nextOf_15 : decode cX10_nextOf 15 = .ok (.iaload, 1) := by decide +kernel
theorem dX10_nextOf_16 : decode cX10_nextOf 16 = .ok (.iload_n 1, 1) := by decide +kernel
theorem dX10_nextOf_17 : decode cX10_nextOf 17 = .ok (.if_icmp .eq 9, 3) := by decide +kernel
theorem dX10_nextOf_20 : decode cX10_nextOf 20 = .ok (.iinc 3 1, 3) := by decide +kernel
theorem dX10_nextOf_23 : decode cX10_nextOf 23 = .ok (.goto (-21), 3) := by decide +kernel
theorem dX10_nextOf_26 : decode cX10_nextOf 26 = .ok (.iload_n 3, 1) := by decide +kernel
theorem dX10_nextOf_27 : decode cX10_nextOf 27 = .ok (.ireturn, 1) := by decide +kernel
theorem dX10_bestOf_0 : decode cX10_bestOf 0 = .ok (.iconst 0, 1) := by decide +kernel
theorem dX10_bestOf_1 : decode cX10_bestOf 1 = .ok (.istore_n 2, 1) := by decide +kernel
theorem dX10_bestOf_2 : decode cX10_bestOf 2 = .ok (.iconst 0, 1) := by decide +kernel
theorem dX10_bestOf_3 : decode cX10_bestOf 3 = .ok (.istore_n 3, 1) := by decide +kernel
theorem dX10_bestOf_4 : decode cX10_bestOf 4 = .ok (.iconst 0, 1) := by decide +kernel
theorem dX10_bestOf_5 : decode cX10_bestOf 5 = .ok (.istore 4, 2) := by decide +kernel
theorem dX10_bestOf_7 : decode cX10_bestOf 7 = .ok (.iload 4, 2) := by decide +kernel
theorem dX10_bestOf_9 : decode cX10_bestOf 9 = .ok (.bipush 64, 2) := by decide +kernel
theorem dX10_bestOf_11 : decode cX10_bestOf 11 = .ok (.if_icmp .ge 17, 3) := by decide +kernel
theorem dX10_bestOf_14 : decode cX10_bestOf 14 = .ok (.aload_n 0, 1) := by decide +kernel
theorem dX10_bestOf_15 : decode cX10_bestOf 15 = .ok (.getfield 54, 3) := by decide +kernel
theorem dX10_bestOf_18 : decode cX10_bestOf 18 = .ok (.iload 4, 2) := by decide +kernel
theorem dX10_bestOf_20 : decode cX10_bestOf 20 = .ok (.iconst 0, 1) := by decide +kernel
theorem dX10_bestOf_21 : decode cX10_bestOf 21 = .ok (.iastore, 1) := by decide +kernel
theorem dX10_bestOf_22 : decode cX10_bestOf 22 = .ok (.iinc 4 1, 3) := by decide +kernel
theorem dX10_bestOf_25 : decode cX10_bestOf 25 = .ok (.goto (-18), 3) := by decide +kernel
theorem dX10_bestOf_28 : decode cX10_bestOf 28 = .ok (.iconst 0, 1) := by decide +kernel
theorem dX10_bestOf_29 : decode cX10_bestOf 29 = .ok (.istore 4, 2) := by decide +kernel
theorem dX10_bestOf_31 : decode cX10_bestOf 31 = .ok (.iload 4, 2) := by decide +kernel
theorem dX10_bestOf_33 : decode cX10_bestOf 33 = .ok (.aload_n 0, 1) := by decide +kernel
theorem dX10_bestOf_34 : decode cX10_bestOf 34 = .ok (.getfield 69, 3) := by decide +kernel
theorem dX10_bestOf_37 : decode cX10_bestOf 37 = .ok (.if_icmp .ge 128, 3) := by decide +kernel
theorem dX10_bestOf_40 : decode cX10_bestOf 40 = .ok (.aload_n 0, 1) := by decide +kernel
theorem dX10_bestOf_41 : decode cX10_bestOf 41 = .ok (.getfield 54, 3) := by decide +kernel
theorem dX10_bestOf_44 : decode cX10_bestOf 44 = .ok (.aload_n 0, 1) := by decide +kernel
theorem dX10_bestOf_45 : decode cX10_bestOf 45 = .ok (.getfield 16, 3) := by decide +kernel
theorem dX10_bestOf_48 : decode cX10_bestOf 48 = .ok (.iload 4, 2) := by decide +kernel
theorem dX10_bestOf_50 : decode cX10_bestOf 50 = .ok (.iaload, 1) := by decide +kernel
theorem dX10_bestOf_51 : decode cX10_bestOf 51 = .ok (.iaload, 1) := by decide +kernel
theorem dX10_bestOf_52 : decode cX10_bestOf 52 = .ok (.ifCond .ne 107, 3) := by decide +kernel
theorem dX10_bestOf_55 : decode cX10_bestOf 55 = .ok (.iinc 2 1, 3) := by decide +kernel
theorem dX10_bestOf_58 : decode cX10_bestOf 58 = .ok (.iinc 3 1, 3) := by decide +kernel
theorem dX10_bestOf_61 : decode cX10_bestOf 61 = .ok (.iconst (-1), 1) := by decide +kernel
theorem dX10_bestOf_62 : decode cX10_bestOf 62 = .ok (.istore 5, 2) := by decide +kernel
theorem dX10_bestOf_64 : decode cX10_bestOf 64 = .ok (.iconst 0, 1) := by decide +kernel
theorem dX10_bestOf_65 : decode cX10_bestOf 65 = .ok (.istore 6, 2) := by decide +kernel
theorem dX10_bestOf_67 : decode cX10_bestOf 67 = .ok (.iload 6, 2) := by decide +kernel
theorem dX10_bestOf_69 : decode cX10_bestOf 69 = .ok (.bipush 64, 2) := by decide +kernel
theorem dX10_bestOf_71 : decode cX10_bestOf 71 = .ok (.if_icmp .ge 58, 3) := by decide +kernel
theorem dX10_bestOf_74 : decode cX10_bestOf 74 = .ok (.iload_n 3, 1) := by decide +kernel
theorem dX10_bestOf_75 : decode cX10_bestOf 75 = .ok (.iload_n 1, 1) := by decide +kernel
theorem dX10_bestOf_76 : decode cX10_bestOf 76 = .ok (.if_icmp .le 53, 3) := by decide +kernel
theorem dX10_bestOf_79 : decode cX10_bestOf 79 = .ok (.aload_n 0, 1) := by decide +kernel
theorem dX10_bestOf_80 : decode cX10_bestOf 80 = .ok (.getfield 54, 3) := by decide +kernel
theorem dX10_bestOf_83 : decode cX10_bestOf 83 = .ok (.iload 6, 2) := by decide +kernel
theorem dX10_bestOf_85 : decode cX10_bestOf 85 = .ok (.iaload, 1) := by decide +kernel
theorem dX10_bestOf_86 : decode cX10_bestOf 86 = .ok (.ifCond .le 33, 3) := by decide +kernel
theorem dX10_bestOf_89 : decode cX10_bestOf 89 = .ok (.iload 5, 2) := by decide +kernel
theorem dX10_bestOf_91 : decode cX10_bestOf 91 = .ok (.iconst (-1), 1) := by decide +kernel
theorem dX10_bestOf_92 : decode cX10_bestOf 92 = .ok (.if_icmp .eq 22, 3) := by decide +kernel
theorem dX10_bestOf_95 : decode cX10_bestOf 95 = .ok (.aload_n 0, 1) := by decide +kernel
theorem dX10_bestOf_96 : decode cX10_bestOf 96 = .ok (.iload 6, 2) := by decide +kernel
theorem dX10_bestOf_98 : decode cX10_bestOf 98 = .ok (.iload 4, 2) := by decide +kernel
theorem dX10_bestOf_100 : decode cX10_bestOf 100 = .ok (.invokevirtual 191, 3) := by decide +kernel
theorem dX10_bestOf_103 : decode cX10_bestOf 103 = .ok (.aload_n 0, 1) := by decide +kernel
theorem dX10_bestOf_104 : decode cX10_bestOf 104 = .ok (.iload 5, 2) := by decide +kernel
theorem dX10_bestOf_106 : decode cX10_bestOf 106 = .ok (.iload 4, 2) := by decide +kernel
theorem dX10_bestOf_108 : decode cX10_bestOf 108 = .ok (.invokevirtual 191, 3) := by decide +kernel
theorem dX10_bestOf_111 : decode cX10_bestOf 111 = .ok (.if_icmp .le 8, 3) := by decide +kernel
theorem dX10_bestOf_114 : decode cX10_bestOf 114 = .ok (.iload 6, 2) := by decide +kernel
theorem dX10_bestOf_116 : decode cX10_bestOf 116 = .ok (.goto 5, 3) := by decide +kernel
theorem dX10_bestOf_119 : decode cX10_bestOf 119 = .ok (.iload 5, 2) := by decide +kernel
theorem dX10_bestOf_121 : decode cX10_bestOf 121 = .ok (.istore 5, 2) := by decide +kernel
theorem dX10_bestOf_123 : decode cX10_bestOf 123 = .ok (.iinc 6 1, 3) := by decide +kernel
theorem dX10_bestOf_126 : decode cX10_bestOf 126 = .ok (.goto (-59), 3) := by decide +kernel
theorem dX10_bestOf_129 : decode cX10_bestOf 129 = .ok (.iload 5, 2) := by decide +kernel
theorem dX10_bestOf_131 : decode cX10_bestOf 131 = .ok (.iconst (-1), 1) := by decide +kernel
theorem dX10_bestOf_132 : decode cX10_bestOf 132 = .ok (.if_icmp .eq 14, 3) := by decide +kernel
theorem dX10_bestOf_135 : decode cX10_bestOf 135 = .ok (.aload_n 0, 1) := by decide +kernel
theorem dX10_bestOf_136 : decode cX10_bestOf 136 = .ok (.getfield 54, 3) := by decide +kernel
theorem dX10_bestOf_139 : decode cX10_bestOf 139 = .ok (.iload 5, 2) := by decide +kernel
theorem dX10_bestOf_141 : decode cX10_bestOf 141 = .ok (.iconst 0, 1) := by decide +kernel
theorem dX10_bestOf_142 : decode cX10_bestOf 142 = .ok (.iastore, 1) := by decide +kernel
theorem dX10_bestOf_143 : decode cX10_bestOf 143 = .ok (.iinc 3 (-1), 3) := by decide +kernel
theorem dX10_bestOf_146 : decode cX10_bestOf 146 = .ok (.aload_n 0, 1) := by decide +kernel
theorem dX10_bestOf_147 : decode cX10_bestOf 147 = .ok (.getfield 54, 3) := by decide +kernel
theorem dX10_bestOf_150 : decode cX10_bestOf 150 = .ok (.aload_n 0, 1) := by decide +kernel
theorem dX10_bestOf_151 : decode cX10_bestOf 151 = .ok (.getfield 16, 3) := by decide +kernel
theorem dX10_bestOf_154 : decode cX10_bestOf 154 = .ok (.iload 4, 2) := by decide +kernel
theorem dX10_bestOf_156 : decode cX10_bestOf 156 = .ok (.iaload, 1) := by decide +kernel
theorem dX10_bestOf_157 : decode cX10_bestOf 157 = .ok (.iconst 1, 1) := by decide +kernel
theorem dX10_bestOf_158 : decode cX10_bestOf 158 = .ok (.iastore, 1) := by decide +kernel
theorem dX10_bestOf_159 : decode cX10_bestOf 159 = .ok (.iinc 4 1, 3) := by decide +kernel
theorem dX10_bestOf_162 : decode cX10_bestOf 162 = .ok (.goto (-131), 3) := by decide +kernel
theorem dX10_bestOf_165 : decode cX10_bestOf 165 = .ok (.iload_n 2, 1) := by decide +kernel
theorem dX10_bestOf_166 : decode cX10_bestOf 166 = .ok (.ireturn, 1) := by decide +kernel
theorem dX10_bestFaults_0 : decode cX10_bestFaults 0 = .ok (.aload_n 0, 1) := by decide +kernel
theorem dX10_bestFaults_1 : decode cX10_bestFaults 1 = .ok (.iload_n 1, 1) := by decide +kernel
theorem dX10_bestFaults_2 : decode cX10_bestFaults 2 = .ok (.i2l, 1) := by decide +kernel
theorem dX10_bestFaults_3 : decode cX10_bestFaults 3 = .ok (.lconst 1, 1) := by decide +kernel
theorem dX10_bestFaults_4 : decode cX10_bestFaults 4 = .ok (.ldc2_w 90, 3) := by decide +kernel
theorem dX10_bestFaults_7 : decode cX10_bestFaults 7 = .ok (.invokestatic 65, 3) := by decide +kernel
theorem dX10_bestFaults_10 : decode cX10_bestFaults 10 = .ok (.ifCond .eq 7, 3) := by decide +kernel
theorem dX10_bestFaults_13 : decode cX10_bestFaults 13 = .ok (.iconst 0, 1) := by decide +kernel
theorem dX10_bestFaults_14 : decode cX10_bestFaults 14 = .ok (.goto 4, 3) := by decide +kernel
theorem dX10_bestFaults_17 : decode cX10_bestFaults 17 = .ok (.iconst 1, 1) := by decide +kernel
theorem dX10_bestFaults_18 : decode cX10_bestFaults 18 = .ok (.invokevirtual 94, 3) := by decide +kernel
theorem dX10_bestFaults_21 : decode cX10_bestFaults 21 = .ok (.ifCond .eq 11, 3) := by decide +kernel
theorem dX10_bestFaults_24 : decode cX10_bestFaults 24 = .ok (.aload_n 0, 1) := by decide +kernel
theorem dX10_bestFaults_25 : decode cX10_bestFaults 25 = .ok (.iload_n 1, 1) := by decide +kernel
theorem dX10_bestFaults_26 : decode cX10_bestFaults 26 = .ok (.invokevirtual 195, 3) := by decide +kernel
theorem dX10_bestFaults_29 : decode cX10_bestFaults 29 = .ok (.goto 4, 3) := by decide +kernel
theorem dX10_bestFaults_32 : decode cX10_bestFaults 32 = .ok (.iconst 0, 1) := by decide +kernel
theorem dX10_bestFaults_33 : decode cX10_bestFaults 33 = .ok (.ireturn, 1) := by decide +kernel
theorem dX10_ratio_0 : decode cX10_ratio 0 = .ok (.aload_n 0, 1) := by decide +kernel
theorem dX10_ratio_1 : decode cX10_ratio 1 = .ok (.iload_n 1, 1) := by decide +kernel
theorem dX10_ratio_2 : decode cX10_ratio 2 = .ok (.invokestatic 165, 3) := by decide +kernel
theorem dX10_ratio_5 : decode cX10_ratio 5 = .ok (.ifCond .ne 7, 3) := by decide +kernel
theorem dX10_ratio_8 : decode cX10_ratio 8 = .ok (.iconst 1, 1) := by decide +kernel
theorem dX10_ratio_9 : decode cX10_ratio 9 = .ok (.goto 15, 3) := by decide +kernel
theorem dX10_ratio_12 : decode cX10_ratio 12 = .ok (.aload_n 0, 1) := by decide +kernel
theorem dX10_ratio_13 : decode cX10_ratio 13 = .ok (.getfield 69, 3) := by decide +kernel
theorem dX10_ratio_16 : decode cX10_ratio 16 = .ok (.ifCond .ne 7, 3) := by decide +kernel
theorem dX10_ratio_19 : decode cX10_ratio 19 = .ok (.iconst 2, 1) := by decide +kernel
theorem dX10_ratio_20 : decode cX10_ratio 20 = .ok (.goto 4, 3) := by decide +kernel
theorem dX10_ratio_23 : decode cX10_ratio 23 = .ok (.iconst 0, 1) := by decide +kernel
theorem dX10_ratio_24 : decode cX10_ratio 24 = .ok (.invokevirtual 94, 3) := by decide +kernel
theorem dX10_ratio_27 : decode cX10_ratio 27 = .ok (.ifCond .eq 23, 3) := by decide +kernel
theorem dX10_ratio_30 : decode cX10_ratio 30 = .ok (.aload_n 0, 1) := by decide +kernel
theorem dX10_ratio_31 : decode cX10_ratio 31 = .ok (.getfield 20, 3) := by decide +kernel
theorem dX10_ratio_34 : decode cX10_ratio 34 = .ok (.iload_n 1, 1) := by decide +kernel
theorem dX10_ratio_35 : decode cX10_ratio 35 = .ok (.iaload, 1) := by decide +kernel
theorem dX10_ratio_36 : decode cX10_ratio 36 = .ok (.i2f, 1) := by decide +kernel
theorem dX10_ratio_37 : decode cX10_ratio 37 = .ok (.aload_n 0, 1) := by decide +kernel
theorem dX10_ratio_38 : decode cX10_ratio 38 = .ok (.aload_n 0, 1) := by decide +kernel
theorem dX10_ratio_39 : decode cX10_ratio 39 = .ok (.getfield 7, 3) := by decide +kernel
theorem dX10_ratio_42 : decode cX10_ratio 42 = .ok (.invokevirtual 195, 3) := by decide +kernel
theorem dX10_ratio_45 : decode cX10_ratio 45 = .ok (.i2f, 1) := by decide +kernel
theorem dX10_ratio_46 : decode cX10_ratio 46 = .ok (.fdiv, 1) := by decide +kernel
theorem dX10_ratio_47 : decode cX10_ratio 47 = .ok (.goto 4, 3) := by decide +kernel
theorem dX10_ratio_50 : decode cX10_ratio 50 = .ok (.fconst 0, 1) := by decide +kernel
theorem dX10_ratio_51 : decode cX10_ratio 51 = .ok (.freturn, 1) := by decide +kernel
