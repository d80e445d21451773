theorem dX5_empty_0 : decode cX5_empty 0 = .ok (.aload_n 0, 1) := by decide +kernel
theorem dX5_empty_1 : decode cX5_empty 1 = .ok (.iconst 0, 1) := by decide +kernel
theorem dX5_empty_2 : decode cX5_empty 2 = .ok (.putfield 15, 3) := by decide +kernel
theorem dX5_empty_5 : decode cX5_empty 5 = .ok (.return_, 1) := by decide +kernel
theorem dJ7_fill_53178_0 : decode cJ7_fill_53178 0 = .ok (.iconst 0, 1) := by decide +kernel
theorem dJ7_fill_53178_1 : decode cJ7_fill_53178 1 = .ok (.istore_n 2, 1) := by decide +kernel
theorem dJ7_fill_53178_2 : decode cJ7_fill_53178 2 = .ok (.aload_n 0, 1) := by decide +kernel
theorem dJ7_fill_53178_3 : decode cJ7_fill_53178 3 = .ok (.arraylength, 1) := by decide +kernel
theorem dJ7_fill_53178_4 : decode cJ7_fill_53178 4 = .ok (.istore_n 3, 1) := by decide +kernel
theorem dJ7_fill_53178_5 : decode cJ7_fill_53178 5 = .ok (.iload_n 2, 1) := by decide +kernel
theorem dJ7_fill_53178_6 : decode cJ7_fill_53178 6 = .ok (.iload_n 3, 1) := by decide +kernel
theorem dJ7_fill_53178_7 : decode cJ7_fill_53178 7 = .ok (.if_icmp .ge 13, 3) := by decide +kernel
theorem dJ7_fill_53178_10 : decode cJ7_fill_53178 10 = .ok (.aload_n 0, 1) := by decide +kernel
theorem dJ7_fill_53178_11 : decode cJ7_fill_53178 11 = .ok (.iload_n 2, 1) := by decide +kernel
theorem dJ7_fill_53178_12 : decode cJ7_fill_53178 12 = .ok (.iload_n 1, 1) := by decide +kernel
theorem dJ7_fill_53178_13 : decode cJ7_fill_53178 13 = .ok (.iastore, 1) := by decide +kernel
theorem dJ7_fill_53178_14 : decode cJ7_fill_53178 14 = .ok (.iinc 2 1, 3) := by decide +kernel
theorem dJ7_fill_53178_17 : decode cJ7_fill_53178 17 = .ok (.goto (-12), 3) := by decide +kernel
theorem dJ7_fill_53178_20 : decode cJ7_fill_53178 20 = .ok (.return_, 1) := by decide +kernel
theorem dX9_isPage_0 : decode cX9_isPage 0 = .ok (.iload_n 0, 1) := by decide +kernel
theorem dX9_isPage_1 : decode cX9_isPage 1 = .ok (.ifCond .lt 13, 3) := by decide +kernel
theorem dX9_isPage_4 : decode cX9_isPage 4 = .ok (.iload_n 0, 1) := by decide +kernel
theorem dX9_isPage_5 : decode cX9_isPage 5 = .ok (.bipush 64, 2) := by decide +kernel
theorem dX9_isPage_7 : decode cX9_isPage 7 = .ok (.if_icmp .ge 7, 3) := by decide +kernel
theorem dX9_isPage_10 : decode cX9_isPage 10 = .ok (.iconst 1, 1) := by decide +kernel
theorem dX9_isPage_11 : decode cX9_isPage 11 = .ok (.goto 4, 3) := by decide +kernel
theorem dX9_isPage_14 : decode cX9_isPage 14 = .ok (.iconst 0, 1) := by decide +kernel
theorem dX9_isPage_15 : decode cX9_isPage 15 = .ok (.ireturn, 1) := by decide +kernel
theorem dX5_contains_0 : decode cX5_contains 0 = .ok (.iconst 0, 1) := by decide +kernel
theorem dX5_contains_1 : decode cX5_contains 1 = .ok (.istore_n 2, 1) := by decide +kernel
theorem dX5_contains_2 : decode cX5_contains 2 = .ok (.iload_n 2, 1) := by decide +kernel
theorem dX5_contains_3 : decode cX5_contains 3 = .ok (.aload_n 0, 1) := by decide +kernel
theorem dX5_contains_4 : decode cX5_contains 4 = .ok (.getfield 15, 3) := by decide +kernel
theorem dX5_contains_7 : decode cX5_contains 7 = .ok (.if_icmp .ge 21, 3) := by decide +kernel
theorem dX5_contains_10 : decode cX5_contains 10 = .ok (.aload_n 0, 1) := by decide +kernel
theorem dX5_contains_11 : decode cX5_contains 11 = .ok (.getfield 9, 3) := by decide +kernel
theorem dX5_contains_14 : decode cX5_contains 14 = .ok (.iload_n 2, 1) := by decide +kernel
theorem dX5_contains_15 : decode cX5_contains 15 = .ok (.iaload, 1) := by decide +kernel
theorem dX5_contains_16 : decode cX5_contains 16 = .ok (.iload_n 1, 1) := by decide +kernel
theorem dX5_contains_17 : decode cX5_contains 17 = .ok (.if_icmp .ne 5, 3) := by decide +kernel
theorem dX5_contains_20 : decode cX5_contains 20 = .ok (.iconst 1, 1) := by decide +kernel
theorem dX5_contains_21 : decode cX5_contains 21 = .ok (.ireturn, 1) := by decide +kernel
theorem dX5_contains_22 : decode cX5_contains 22 = .ok (.iinc 2 1, 3) := by decide +kernel
theorem dX5_contains_25 : decode cX5_contains 25 = .ok (.goto (-23), 3) := by decide +kernel
theorem dX5_contains_28 : decode cX5_contains 28 = .ok (.iconst 0, 1) := by decide +kernel
theorem dX5_contains_29 : decode cX5_contains 29 = .ok (.ireturn, 1) := by decide +kernel
theorem dX5_drop_0 : decode cX5_drop 0 = .ok (.iconst 0, 1) := by decide +kernel
theorem dX5_drop_1 : decode cX5_drop 1 = .ok (.istore_n 2, 1) := by decide +kernel
theorem dX5_drop_2 : decode cX5_drop 2 = .ok (.iconst 0, 1) := by decide +kernel
theorem dX5_drop_3 : decode cX5_drop 3 = .ok (.istore_n 3, 1) := by decide +kernel
theorem dX5_drop_4 : decode cX5_drop 4 = .ok (.iload_n 3, 1) := by decide +kernel
theorem dX5_drop_5 : decode cX5_drop 5 = .ok (.aload_n 0, 1) := by decide +kernel
theorem dX5_drop_6 : decode cX5_drop 6 = .ok (.getfield 15, 3) := by decide +kernel
theorem dX5_drop_9 : decode cX5_drop 9 = .ok (.if_icmp .ge 34, 3) := by decide +kernel
theorem dX5_drop_12 : decode cX5_drop 12 = .ok (.aload_n 0, 1) := by decide +kernel
theorem dX5_drop_13 : decode cX5_drop 13 = .ok (.getfield 9, 3) := by decide +kernel
theorem dX5_drop_16 : decode cX5_drop 16 = .ok (.iload_n 3, 1) := by decide +kernel
theorem dX5_drop_17 : decode cX5_drop 17 = .ok (.iaload, 1) := by decide +kernel
theorem dX5_drop_18 : decode cX5_drop 18 = .ok (.iload_n 1, 1) := by decide +kernel
theorem dX5_drop_19 : decode cX5_drop 19 = .ok (.if_icmp .eq 18, 3) := by decide +kernel
theorem dX5_drop_22 : decode cX5_drop 22 = .ok (.aload_n 0, 1) := by decide +kernel
theorem dX5_drop_23 : decode cX5_drop 23 = .ok (.getfield 9, 3) := by decide +kernel
theorem dX5_drop_26 : decode cX5_drop 26 = .ok (.iload_n 2, 1) := by decide +kernel
theorem dX5_drop_27 : decode cX5_drop 27 = .ok (.aload_n 0, 1) := by decide +kernel
theorem dX5_drop_28 : decode cX5_drop 28 = .ok (.getfield 9, 3) := by decide +kernel
theorem dX5_drop_31 : decode cX5_drop 31 = .ok (.iload_n 3, 1) := by decide +kernel
theorem dX5_drop_32 : decode cX5_drop 32 = .ok (.iaload, 1) := by decide +kernel
theorem dX5_drop_33 : decode cX5_drop 33 = .ok (.iastore, 1) := by decide +kernel
theorem dX5_drop_34 : decode cX5_drop 34 = .ok (.iinc 2 1, 3) := by decide +kernel
theorem dX5_drop_37 : decode cX5_drop 37 = .ok (.iinc 3 1, 3) := by decide +kernel
theorem dX5_drop_40 : decode cX5_drop 40 = .ok (.goto (-36), 3) := by decide +kernel
theorem dX5_drop_43 : decode cX5_drop 43 = .ok (.aload_n 0, 1) := by decide +kernel
theorem dX5_drop_44 : decode cX5_drop 44 = .ok (.iload_n 2, 1) := by decide +kernel
theorem dX5_drop_45 : decode cX5_drop 45 = .ok (.putfield 15, 3) := by decide +kernel
theorem dX5_drop_48 : decode cX5_drop 48 = .ok (.return_, 1) := by decide +kernel
theorem dX5_addMostRecent_0 : decode cX5_addMostRecent 0 = .ok (.aload_n 0, 1) := by decide +kernel
theorem dX5_addMostRecent_1 : decode cX5_addMostRecent 1 = .ok (.getfield 15, 3) := by decide +kernel
theorem dX5_addMostRecent_4 : decode cX5_addMostRecent 4 = .ok (.bipush 64, 2) := by decide +kernel
theorem dX5_addMostRecent_6 : decode cX5_addMostRecent 6 = .ok (.if_icmp .ge 23, 3) := by decide +kernel
theorem dX5_addMostRecent_9 : decode cX5_addMostRecent 9 = .ok (.aload_n 0, 1) := by decide +kernel
theorem dX5_addMostRecent_10 : decode cX5_addMostRecent 10 = .ok (.getfield 9, 3) := by decide +kernel
theorem dX5_addMostRecent_13 : decode cX5_addMostRecent 13 = .ok (.aload_n 0, 1) := by decide +kernel
theorem dX5_addMostRecent_14 : decode cX5_addMostRecent 14 = .ok (.getfield 15, 3) := by decide +kernel
theorem dX5_addMostRecent_17 : decode cX5_addMostRecent 17 = .ok (.iload_n 1, 1) := by decide +kernel
theorem dX5_addMostRecent_18 : decode cX5_addMostRecent 18 = .ok (.iastore, 1) := by decide +kernel
theorem dX5_addMostRecent_19 : decode cX5_addMostRecent 19 = .ok (.aload_n 0, 1) := by decide +kernel
theorem dX5_addMostRecent_20 : decode cX5_addMostRecent 20 = .ok (.dup, 1) := by decide +kernel
theorem dX5_addMostRecent_21 : decode cX5_addMostRecent 21 = .ok (.getfield 15, 3) := by decide +kernel
theorem dX5_addMostRecent_24 : decode cX5_addMostRecent 24 = .ok (.iconst 1, 1) := by decide +kernel
theorem dX5_addMostRecent_25 : decode cX5_addMostRecent 25 = .ok (.iadd, 1) := by decide +kernel
theorem dX5_addMostRecent_26 : decode cX5_addMostRecent 26 = .ok (.putfield 15, 3) := by decide +kernel
theorem dX5_addMostRecent_29 : decode cX5_addMostRecent 29 = .ok (.return_, 1) := by decide +kernel
theorem dX5_leastRecent_0 : decode cX5_leastRecent 0 = .ok (.aload_n 0, 1) := by decide +kernel
theorem dX5_leastRecent_1 : decode cX5_leastRecent 1 = .ok (.getfield 15, 3) := by decide +kernel
theorem dX5_leastRecent_4 : decode cX5_leastRecent 4 = .ok (.ifCond .le 12, 3) := by decide +kernel
theorem dX5_leastRecent_7 : decode cX5_leastRecent 7 = .ok (.aload_n 0, 1) := by decide +kernel
theorem dX5_leastRecent_8 : decode cX5_leastRecent 8 = .ok (.getfield 9, 3) := by decide +kernel
theorem dX5_leastRecent_11 : decode cX5_leastRecent 11 = .ok (.iconst 0, 1) := by decide +kernel
theorem dX5_leastRecent_12 : decode cX5_leastRecent 12 = .ok (.iaload, 1) := by decide +kernel
theorem dX5_leastRecent_13 : decode cX5_leastRecent 13 = .ok (.goto 4, 3) := by decide +kernel
theorem dX5_leastRecent_16 : decode cX5_leastRecent 16 = .ok (.iconst (-1), 1) := by decide +kernel
theorem dX5_leastRecent_17 : decode cX5_leastRecent 17 = .ok (.ireturn, 1) := by decide +kernel
theorem dX5_dropLeastRecent_0 : decode cX5_dropLeastRecent 0 = .ok (.aload_n 0, 1) := by decide +kernel
theorem dX5_dropLeastRecent_1 : decode cX5_dropLeastRecent 1 = .ok (.invokevirtual 19, 3) := by decide +kernel
theorem dX5_dropLeastRecent_4 : decode cX5_dropLeastRecent 4 = .ok (.istore_n 1, 1) := by decide +kernel
theorem dX5_dropLeastRecent_5 : decode cX5_dropLeastRecent 5 = .ok (.aload_n 0, 1) := by decide +kernel
theorem dX5_dropLeastRecent_6 : decode cX5_dropLeastRecent 6 = .ok (.iload_n 1, 1) := by decide +kernel
theorem dX5_dropLeastRecent_7 : decode cX5_dropLeastRecent 7 = .ok (.invokevirtual 23, 3) := by decide +kernel
theorem dX5_dropLeastRecent_10 : decode cX5_dropLeastRecent 10 = .ok (.iload_n 1, 1) := by decide +kernel
theorem dX5_dropLeastRecent_11 : decode cX5_dropLeastRecent 11 = .ok (.ireturn, 1) := by decide +kernel
theorem dX4_startWith_0 : decode cX4_startWith 0 = .ok (.aload_n 0, 1) := by decide +kernel
theorem dX4_startWith_1 : decode cX4_startWith 1 = .ok (.iload_n 1, 1) := by decide +kernel
theorem dX4_startWith_2 : decode cX4_startWith 2 = .ok (.putfield 24, 3) := by decide +kernel
theorem dX4_startWith_5 : decode cX4_startWith 5 = .ok (.aload_n 0, 1) := by decide +kernel
theorem dX4_startWith_6 : decode cX4_startWith 6 = .ok (.iconst 0, 1) := by decide +kernel
theorem dX4_startWith_7 : decode cX4_startWith 7 = .ok (.putfield 28, 3) := by decide +kernel
theorem dX4_startWith_10 : decode cX4_startWith 10 = .ok (.aload_n 0, 1) := by decide +kernel
theorem dX4_startWith_11 : decode cX4_startWith 11 = .ok (.iconst 0, 1) := by decide +kernel
theorem dX4_startWith_12 : decode cX4_startWith 12 = .ok (.putfield 31, 3) := by decide +kernel
theorem dX4_startWith_15 : decode cX4_startWith 15 = .ok (.aload_n 0, 1) := by decide +kernel
theorem dX4_startWith_16 : decode cX4_startWith 16 = .ok (.getfield 18, 3) := by decide +kernel
theorem dX4_startWith_19 : decode cX4_startWith 19 = .ok (.iconst (-1), 1) := by decide +kernel
theorem dX4_startWith_20 : decode cX4_startWith 20 = .ok (.invokestatic 34, 3) := by decide +kernel
theorem dX4_startWith_23 : decode cX4_startWith 23 = .ok (.aload_n 0, 1) := by decide +kernel
theorem dX4_startWith_24 : decode cX4_startWith 24 = .ok (.getfield 21, 3) := by decide +kernel
theorem dX4_startWith_27 : decode cX4_startWith 27 = .ok (.iconst 0, 1) := by decide +kernel
theorem dX4_startWith_28 : decode cX4_startWith 28 = .ok (.invokestatic 34, 3) := by decide +kernel
theorem dX4_startWith_31 : decode cX4_startWith 31 = .ok (.return_, 1) := by decide +kernel
theorem dX4_pagesTouchedSince_0 : decode cX4_pagesTouchedSince 0 = .ok (.iconst 0, 1) := by decide +kernel
theorem dX4_pagesTouchedSince_1 : decode cX4_pagesTouchedSince 1 = .ok (.istore_n 2, 1) := by decide +kernel
theorem dX4_pagesTouchedSince_2 : decode cX4_pagesTouchedSince 2 = .ok (.iconst 0, 1) := by decide +kernel
theorem dX4_pagesTouchedSince_3 : decode cX4_pagesTouchedSince 3 = .ok (.istore_n 3, 1) := by decide +kernel
theorem dX4_pagesTouchedSince_4 : decode cX4_pagesTouchedSince 4 = .ok (.iload_n 3, 1) := by decide +kernel
theorem dX4_pagesTouchedSince_5 : decode cX4_pagesTouchedSince 5 = .ok (.bipush 64, 2) := by decide +kernel
theorem dX4_pagesTouchedSince_7 : decode cX4_pagesTouchedSince 7 = .ok (.if_icmp .ge 22, 3) := by decide +kernel
theorem dX4_pagesTouchedSince_10 : decode cX4_pagesTouchedSince 10 = .ok (.aload_n 0, 1) := by decide +kernel
theorem dX4_pagesTouchedSince_11 : decode cX4_pagesTouchedSince 11 = .ok (.getfield 18, 3) := by decide +kernel
theorem dX4_pagesTouchedSince_14 : decode cX4_pagesTouchedSince 14 = .ok (.iload_n 3, 1) := by decide +kernel
theorem dX4_pagesTouchedSince_15 : decode cX4_pagesTouchedSince 15 = .ok (.iaload, 1) := by decide +kernel
theorem dX4_pagesTouchedSince_16 : decode cX4_pagesTouchedSince 16 = .ok (.iload_n 1, 1) := by decide +kernel
theorem dX4_pagesTouchedSince_17 : decode cX4_pagesTouchedSince 17 = .ok (.if_icmp .lt 6, 3) := by decide +kernel
theorem dX4_pagesTouchedSince_20 : decode cX4_pagesTouchedSince 20 = .ok (.iinc 2 1, 3) := by decide +kernel
theorem dX4_pagesTouchedSince_23 : decode cX4_pagesTouchedSince 23 = .ok (.iinc 3 1, 3) := by decide +kernel
theorem dX4_pagesTouchedSince_26 : decode cX4_pagesTouchedSince 26 = .ok (.goto (-22), 3) := by decide +kernel
theorem dX4_pagesTouchedSince_29 : decode cX4_pagesTouchedSince 29 = .ok (.iload_n 2, 1) := by decide +kernel
theorem dX4_pagesTouchedSince_30 : decode cX4_pagesTouchedSince 30 = .ok (.ireturn, 1) := by decide +kernel
theorem dX4_noteDepth_0 : decode cX4_noteDepth 0 = .ok (.aload_n 0, 1) := by decide +kernel
theorem dX4_noteDepth_1 : decode cX4_noteDepth 1 = .ok (.getfield 18, 3) := by decide +kernel
theorem dX4_noteDepth_4 : decode cX4_noteDepth 4 = .ok (.iload_n 1, 1) := by decide +kernel
theorem dX4_noteDepth_5 : decode cX4_noteDepth 5 = .ok (.iaload, 1) := by decide +kernel
theorem dX4_noteDepth_6 : decode cX4_noteDepth 6 = .ok (.iconst (-1), 1) := by decide +kernel
theorem dX4_noteDepth_7 : decode cX4_noteDepth 7 = .ok (.if_icmp .ne 4, 3) := by decide +kernel
theorem dX4_noteDepth_10 : decode cX4_noteDepth 10 = .ok (.return_, 1) := by decide +kernel
theorem dX4_noteDepth_11 : decode cX4_noteDepth 11 = .ok (.aload_n 0, 1) := by decide +kernel
theorem dX4_noteDepth_12 : decode cX4_noteDepth 12 = .ok (.aload_n 0, 1) := by decide +kernel
theorem dX4_noteDepth_13 : decode cX4_noteDepth 13 = .ok (.getfield 18, 3) := by decide +kernel
theorem dX4_noteDepth_16 : decode cX4_noteDepth 16 = .ok (.iload_n 1, 1) := by decide +kernel
theorem dX4_noteDepth_17 : decode cX4_noteDepth 17 = .ok (.iaload, 1) := by decide +kernel
theorem dX4_noteDepth_18 : decode cX4_noteDepth 18 = .ok (.iconst 1, 1) := by decide +kernel
theorem dX4_noteDepth_19 : decode cX4_noteDepth 19 = .ok (.iadd, 1) := by decide +kernel
theorem dX4_noteDepth_20 : decode cX4_noteDepth 20 = .ok (.invokevirtual 50, 3) := by decide +kernel
theorem dX4_noteDepth_23 : decode cX4_noteDepth 23 = .ok (.istore_n 2, 1) := by decide +kernel
theorem dX4_noteDepth_24 : decode cX4_noteDepth 24 = .ok (.iload_n 2, 1) := by decide +kernel
theorem dX4_noteDepth_25 : decode cX4_noteDepth 25 = .ok (.bipush 64, 2) := by decide +kernel
theorem dX4_noteDepth_27 : decode cX4_noteDepth 27 = .ok (.if_icmp .ge 13, 3) := by decide +kernel
theorem dX4_noteDepth_30 : decode cX4_noteDepth 30 = .ok (.aload_n 0, 1) := by decide +kernel
theorem dX4_noteDepth_31 : decode cX4_noteDepth 31 = .ok (.getfield 21, 3) := by decide +kernel
theorem dX4_noteDepth_34 : decode cX4_noteDepth 34 = .ok (.iload_n 2, 1) := by decide +kernel
theorem dX4_noteDepth_35 : decode cX4_noteDepth 35 = .ok (.dup2, 1) := by decide +kernel
theorem dX4_noteDepth_36 : decode cX4_noteDepth 36 = .ok (.iaload, 1) := by decide +kernel
theorem dX4_noteDepth_37 : decode cX4_noteDepth 37 = .ok (.iconst 1, 1) := by decide +kernel
theorem dX4_noteDepth_38 : decode cX4_noteDepth 38 = .ok (.iadd, 1) := by decide +kernel
theorem dX4_noteDepth_39 : decode cX4_noteDepth 39 = .ok (.iastore, 1) := by decide +kernel
theorem dX4_noteDepth_40 : decode cX4_noteDepth 40 = .ok (.return_, 1) := by decide +kernel
theorem dX4_record_0 : decode cX4_record 0 = .ok (.aload_n 0, 1) := by decide +kernel
theorem dX4_record_1 : decode cX4_record 1 = .ok (.getfield 28, 3) := by decide +kernel
theorem dX4_record_4 : decode cX4_record 4 = .ok (.sipush 400, 3) := by decide +kernel
theorem dX4_record_7 : decode cX4_record 7 = .ok (.if_icmp .lt 4, 3) := by decide +kernel
theorem dX4_record_10 : decode cX4_record 10 = .ok (.return_, 1) := by decide +kernel
theorem dX4_record_11 : decode cX4_record 11 = .ok (.aload_n 0, 1) := by decide +kernel
theorem dX4_record_12 : decode cX4_record 12 = .ok (.iload_n 1, 1) := by decide +kernel
theorem dX4_record_13 : decode cX4_record 13 = .ok (.invokevirtual 40, 3) := by decide +kernel
theorem dX4_record_16 : decode cX4_record 16 = .ok (.aload_n 0, 1) := by decide +kernel
theorem dX4_record_17 : decode cX4_record 17 = .ok (.getfield 18, 3) := by decide +kernel
theorem dX4_record_20 : decode cX4_record 20 = .ok (.iload_n 1, 1) := by decide +kernel
theorem dX4_record_21 : decode cX4_record 21 = .ok (.aload_n 0, 1) := by decide +kernel
theorem dX4_record_22 : decode cX4_record 22 = .ok (.getfield 28, 3) := by decide +kernel
theorem dX4_record_25 : decode cX4_record 25 = .ok (.iastore, 1) := by decide +kernel
theorem dX4_record_26 : decode cX4_record 26 = .ok (.aload_n 0, 1) := by decide +kernel
theorem dX4_record_27 : decode cX4_record 27 = .ok (.getfield 9, 3) := by decide +kernel
theorem dX4_record_30 : decode cX4_record 30 = .ok (.aload_n 0, 1) := by decide +kernel
theorem dX4_record_31 : decode cX4_record 31 = .ok (.getfield 28, 3) := by decide +kernel
theorem dX4_record_34 : decode cX4_record 34 = .ok (.iload_n 1, 1) := by decide +kernel
theorem dX4_record_35 : decode cX4_record 35 = .ok (.iastore, 1) := by decide +kernel
theorem dX4_record_36 : decode cX4_record 36 = .ok (.aload_n 0, 1) := by decide +kernel
theorem dX4_record_37 : decode cX4_record 37 = .ok (.getfield 15, 3) := by decide +kernel
theorem dX4_record_40 : decode cX4_record 40 = .ok (.aload_n 0, 1) := by decide +kernel
theorem dX4_record_41 : decode cX4_record 41 = .ok (.getfield 28, 3) := by decide +kernel
theorem dX4_record_44 : decode cX4_record 44 = .ok (.aload_n 0, 1) := by decide +kernel
theorem dX4_record_45 : decode cX4_record 45 = .ok (.iconst 0, 1) := by decide +kernel
theorem dX4_record_46 : decode cX4_record 46 = .ok (.aload_n 0, 1) := by decide +kernel
theorem dX4_record_47 : decode cX4_record 47 = .ok (.getfield 28, 3) := by decide +kernel
theorem dX4_record_50 : decode cX4_record 50 = .ok (.aload_n 0, 1) := by decide +kernel
theorem dX4_record_51 : decode cX4_record 51 = .ok (.getfield 24, 3) := by decide +kernel
theorem dX4_record_54 : decode cX4_record 54 = .ok (.isub, 1) := by decide +kernel
theorem dX4_record_55 : decode cX4_record 55 = .ok (.iconst 1, 1) := by decide +kernel
theorem dX4_record_56 : decode cX4_record 56 = .ok (.iadd, 1) := by decide +kernel
theorem dX4_record_57 : decode cX4_record 57 = .ok (.invokestatic 44, 3) := by decide +kernel
theorem dX4_record_60 : decode cX4_record 60 = .ok (.invokevirtual 50, 3) := by decide +kernel
theorem dX4_record_63 : decode cX4_record 63 = .ok (.iastore, 1) := by decide +kernel
theorem dX4_record_64 : decode cX4_record 64 = .ok (.aload_n 0, 1) := by decide +kernel
theorem dX4_record_65 : decode cX4_record 65 = .ok (.dup, 1) := by decide +kernel
theorem dX4_record_66 : decode cX4_record 66 = .ok (.getfield 31, 3) := by decide +kernel
theorem dX4_record_69 : decode cX4_record 69 = .ok (.aload_n 0, 1) := by decide +kernel
theorem dX4_record_70 : decode cX4_record 70 = .ok (.getfield 15, 3) := by decide +kernel
theorem dX4_record_73 : decode cX4_record 73 = .ok (.aload_n 0, 1) := by decide +kernel
theorem dX4_record_74 : decode cX4_record 74 = .ok (.getfield 28, 3) := by decide +kernel
theorem dX4_record_77 : decode cX4_record 77 = .ok (.iaload, 1) := by decide +kernel
theorem dX4_record_78 : decode cX4_record 78 = .ok (.iadd, 1) := by decide +kernel
theorem dX4_record_79 : decode cX4_record 79 = .ok (.putfield 31, 3) := by decide +kernel
theorem dX4_record_82 : decode cX4_record 82 = .ok (.aload_n 0, 1) := by decide +kernel
theorem dX4_record_83 : decode cX4_record 83 = .ok (.dup, 1) := by decide +kernel
theorem dX4_record_84 : decode cX4_record 84 = .ok (.getfield 28, 3) := by decide +kernel
theorem dX4_record_87 : decode cX4_record 87 = .ok (.iconst 1, 1) := by decide +kernel
theorem dX4_record_88 : decode cX4_record 88 = .ok (.iadd, 1) := by decide +kernel
theorem dX4_record_89 : decode cX4_record 89 = .ok (.putfield 28, 3) := by decide +kernel
theorem dX4_record_92 : decode cX4_record 92 = .ok (.return_, 1) := by decide +kernel
theorem dX4_faultsOfRecency_0 : decode cX4_faultsOfRecency 0 = .ok (.iconst 0, 1) := by decide +kernel
theorem dX4_faultsOfRecency_1 : decode cX4_faultsOfRecency 1 = .ok (.istore_n 2, 1) := by decide +kernel
theorem dX4_faultsOfRecency_2 : decode cX4_faultsOfRecency 2 = .ok (.iconst 0, 1) := by decide +kernel
theorem dX4_faultsOfRecency_3 : decode cX4_faultsOfRecency 3 = .ok (.istore_n 3, 1) := by decide +kernel
theorem dX4_faultsOfRecency_4 : decode cX4_faultsOfRecency 4 = .ok (.iload_n 3, 1) := by decide +kernel
theorem dX4_faultsOfRecency_5 : decode cX4_faultsOfRecency 5 = .ok (.iload_n 1, 1) := by decide +kernel
theorem dX4_faultsOfRecency_6 : decode cX4_faultsOfRecency 6 = .ok (.if_icmp .ge 24, 3) := by decide +kernel
theorem dX4_faultsOfRecency_9 : decode cX4_faultsOfRecency 9 = .ok (.iload_n 3, 1) := by decide +kernel
theorem dX4_faultsOfRecency_10 : decode cX4_faultsOfRecency 10 = .ok (.bipush 64, 2) := by decide +kernel
theorem dX4_faultsOfRecency_12 : decode cX4_faultsOfRecency 12 = .ok (.if_icmp .ge 18, 3) := by decide +kernel
theorem dX4_faultsOfRecency_15 : decode cX4_faultsOfRecency 15 = .ok (.iload_n 2, 1) := by decide +kernel
theorem dX4_faultsOfRecency_16 : decode cX4_faultsOfRecency 16 = .ok (.aload_n 0, 1) := by decide +kernel
theorem dX4_faultsOfRecency_17 : decode cX4_faultsOfRecency 17 = .ok (.getfield 21, 3) := by decide +kernel
theorem dX4_faultsOfRecency_20 : decode cX4_faultsOfRecency 20 = .ok (.iload_n 3, 1) := by decide +kernel
theorem dX4_faultsOfRecency_21 : decode cX4_faultsOfRecency 21 = .ok (.iaload, 1) := by decide +kernel
theorem dX4_faultsOfRecency_22 : decode cX4_faultsOfRecency 22 = .ok (.iadd, 1) := by decide +kernel
theorem dX4_faultsOfRecency_23 : decode cX4_faultsOfRecency 23 = .ok (.istore_n 2, 1) := by decide +kernel
theorem dX4_faultsOfRecency_24 : decode cX4_faultsOfRecency 24 = .ok (.iinc 3 1, 3) := by decide +kernel
theorem dX4_faultsOfRecency_27 : decode cX4_faultsOfRecency 27 = .ok (.goto (-23), 3) := by decide +kernel
theorem dX4_faultsOfRecency_30 : decode cX4_faultsOfRecency 30 = .ok (.aload_n 0, 1) := by decide +kernel
theorem dX4_faultsOfRecency_31 : decode cX4_faultsOfRecency 31 = .ok (.getfield 28, 3) := by decide +kernel
theorem dX4_faultsOfRecency_34 : decode cX4_faultsOfRecency 34 = .ok (.iload_n 2, 1) := by decide +kernel
theorem dX4_faultsOfRecency_35 : decode cX4_faultsOfRecency 35 = .ok (.isub, 1) := by decide +kernel
theorem dX4_faultsOfRecency_36 : decode cX4_faultsOfRecency 36 = .ok (.ireturn, 1) := by decide +kernel
theorem dX3_findNextTouches_0 : decode cX3_findNextTouches 0 = .ok (.aload_n 0, 1) := by decide +kernel
theorem dX3_findNextTouches_1 : decode cX3_findNextTouches 1 = .ok (.getfield 15, 3) := by decide +kernel
theorem dX3_findNextTouches_4 : decode cX3_findNextTouches 4 = .ok (.sipush 400, 3) := by decide +kernel
theorem dX3_findNextTouches_7 : decode cX3_findNextTouches 7 = .ok (.invokestatic 44, 3) := by decide +kernel
theorem dX3_findNextTouches_10 : decode cX3_findNextTouches 10 = .ok (.aload_n 1, 1) := by decide +kernel
theorem dX3_findNextTouches_11 : decode cX3_findNextTouches 11 = .ok (.getfield 25, 3) := by decide +kernel
theorem dX3_findNextTouches_14 : decode cX3_findNextTouches 14 = .ok (.iconst 1, 1) := by decide +kernel
theorem dX3_findNextTouches_15 : decode cX3_findNextTouches 15 = .ok (.isub, 1) := by decide +kernel
theorem dX3_findNextTouches_16 : decode cX3_findNextTouches 16 = .ok (.istore_n 2, 1) := by decide +kernel
theorem dX3_findNextTouches_17 : decode cX3_findNextTouches 17 = .ok (.iload_n 2, 1) := by decide +kernel
theorem dX3_findNextTouches_18 : decode cX3_findNextTouches 18 = .ok (.ifCond .lt 35, 3) := by decide +kernel
theorem dX3_findNextTouches_21 : decode cX3_findNextTouches 21 = .ok (.aload_n 1, 1) := by decide +kernel
theorem dX3_findNextTouches_22 : decode cX3_findNextTouches 22 = .ok (.getfield 50, 3) := by decide +kernel
theorem dX3_findNextTouches_25 : decode cX3_findNextTouches 25 = .ok (.iload_n 2, 1) := by decide +kernel
theorem dX3_findNextTouches_26 : decode cX3_findNextTouches 26 = .ok (.iaload, 1) := by decide +kernel
theorem dX3_findNextTouches_27 : decode cX3_findNextTouches 27 = .ok (.istore_n 3, 1) := by decide +kernel
theorem dX3_findNextTouches_28 : decode cX3_findNextTouches 28 = .ok (.aload_n 0, 1) := by decide +kernel
theorem dX3_findNextTouches_29 : decode cX3_findNextTouches 29 = .ok (.getfield 9, 3) := by decide +kernel
theorem dX3_findNextTouches_32 : decode cX3_findNextTouches 32 = .ok (.iload_n 2, 1) := by decide +kernel
theorem dX3_findNextTouches_33 : decode cX3_findNextTouches 33 = .ok (.aload_n 0, 1) := by decide +kernel
theorem dX3_findNextTouches_34 : decode cX3_findNextTouches 34 = .ok (.getfield 15, 3) := by decide +kernel
theorem dX3_findNextTouches_37 : decode cX3_findNextTouches 37 = .ok (.iload_n 3, 1) := by decide +kernel
theorem dX3_findNextTouches_38 : decode cX3_findNextTouches 38 = .ok (.iaload, 1) := by decide +kernel
theorem dX3_findNextTouches_39 : decode cX3_findNextTouches 39 = .ok (.iastore, 1) := by decide +kernel
theorem dX3_findNextTouches_40 : decode cX3_findNextTouches 40 = .ok (.aload_n 0, 1) := by decide +kernel
theorem dX3_findNextTouches_41 : decode cX3_findNextTouches 41 = .ok (.getfield 15, 3) := by decide +kernel
theorem dX3_findNextTouches_44 : decode cX3_findNextTouches 44 = .ok (.iload_n 3, 1) := by decide +kernel
theorem dX3_findNextTouches_45 : decode cX3_findNextTouches 45 = .ok (.iload_n 2, 1) := by decide +kernel
theorem dX3_findNextTouches_46 : decode cX3_findNextTouches 46 = .ok (.iastore, 1) := by decide +kernel
theorem dX3_findNextTouches_47 : decode cX3_findNextTouches 47 = .ok (.iinc 2 (-1), 3) := by decide +kernel
theorem dX3_findNextTouches_50 : decode cX3_findNextTouches 50 = .ok (.goto (-33), 3) := by decide +kernel
theorem dX3_findNextTouches_53 : decode cX3_findNextTouches 53 = .ok (.return_, 1) := by decide +kernel
theorem dX3_frameWaitingFor_0 : decode cX3_frameWaitingFor 0 = .ok (.iconst 0, 1) := by decide +kernel
theorem dX3_frameWaitingFor_1 : decode cX3_frameWaitingFor 1 = .ok (.istore_n 3, 1) := by decide +kernel
theorem dX3_frameWaitingFor_2 : decode cX3_frameWaitingFor 2 = .ok (.iload_n 3, 1) := by decide +kernel
theorem dX3_frameWaitingFor_3 : decode cX3_frameWaitingFor 3 = .ok (.iload_n 2, 1) := by decide +kernel
theorem dX3_frameWaitingFor_4 : decode cX3_frameWaitingFor 4 = .ok (.if_icmp .ge 21, 3) := by decide +kernel
theorem dX3_frameWaitingFor_7 : decode cX3_frameWaitingFor 7 = .ok (.aload_n 0, 1) := by decide +kernel
theorem dX3_frameWaitingFor_8 : decode cX3_frameWaitingFor 8 = .ok (.getfield 18, 3) := by decide +kernel
theorem dX3_frameWaitingFor_11 : decode cX3_frameWaitingFor 11 = .ok (.iload_n 3, 1) := by decide +kernel
theorem dX3_frameWaitingFor_12 : decode cX3_frameWaitingFor 12 = .ok (.iaload, 1) := by decide +kernel
theorem dX3_frameWaitingFor_13 : decode cX3_frameWaitingFor 13 = .ok (.iload_n 1, 1) := by decide +kernel
theorem dX3_frameWaitingFor_14 : decode cX3_frameWaitingFor 14 = .ok (.if_icmp .ne 5, 3) := by decide +kernel
theorem dX3_frameWaitingFor_17 : decode cX3_frameWaitingFor 17 = .ok (.iload_n 3, 1) := by decide +kernel
theorem dX3_frameWaitingFor_18 : decode cX3_frameWaitingFor 18 = .ok (.ireturn, 1) := by decide +kernel
theorem dX3_frameWaitingFor_19 : decode cX3_frameWaitingFor 19 = .ok (.iinc 3 1, 3) := by decide +kernel
theorem dX3_frameWaitingFor_22 : decode cX3_frameWaitingFor 22 = .ok (.goto (-20), 3) := by decide +kernel
theorem dX3_frameWaitingFor_25 : decode cX3_frameWaitingFor 25 = .ok (.iconst (-1), 1) := by decide +kernel
theorem dX3_frameWaitingFor_26 : decode cX3_frameWaitingFor 26 = .ok (.ireturn, 1) := by decide +kernel
theorem dX3_farthest_0 : decode cX3_farthest 0 = .ok (.iconst 0, 1) := by decide +kernel
theorem dX3_farthest_1 : decode cX3_farthest 1 = .ok (.istore_n 2, 1) := by decide +kernel
theorem dX3_farthest_2 : decode cX3_farthest 2 = .ok (.iconst 1, 1) := by decide +kernel
theorem dX3_farthest_3 : decode cX3_farthest 3 = .ok (.istore_n 3, 1) := by decide +kernel
theorem dX3_farthest_4 : decode cX3_farthest 4 = .ok (.iload_n 3, 1) := by decide +kernel
theorem dX3_farthest_5 : decode cX3_farthest 5 = .ok (.iload_n 1, 1) := by decide +kernel
theorem dX3_farthest_6 : decode cX3_farthest 6 = .ok (.if_icmp .ge 26, 3) := by decide +kernel
theorem dX3_farthest_9 : decode cX3_farthest 9 = .ok (.aload_n 0, 1) := by decide +kernel
theorem dX3_farthest_10 : decode cX3_farthest 10 = .ok (.getfield 18, 3) := by decide +kernel
theorem dX3_farthest_13 : decode cX3_farthest 13 = .ok (.iload_n 3, 1) := by decide +kernel
theorem dX3_farthest_14 : decode cX3_farthest 14 = .ok (.iaload, 1) := by decide +kernel
theorem dX3_farthest_15 : decode cX3_farthest 15 = .ok (.aload_n 0, 1) := by decide +kernel
theorem dX3_farthest_16 : decode cX3_farthest 16 = .ok (.getfield 18, 3) := by decide +kernel
theorem dX3_farthest_19 : decode cX3_farthest 19 = .ok (.iload_n 2, 1) := by decide +kernel
theorem dX3_farthest_20 : decode cX3_farthest 20 = .ok (.iaload, 1) := by decide +kernel
theorem dX3_farthest_21 : decode cX3_farthest 21 = .ok (.if_icmp .le 5, 3) := by decide +kernel
theorem dX3_farthest_24 : decode cX3_farthest 24 = .ok (.iload_n 3, 1) := by decide +kernel
theorem dX3_farthest_25 : decode cX3_farthest 25 = .ok (.istore_n 2, 1) := by decide +kernel
theorem dX3_farthest_26 : decode cX3_farthest 26 = .ok (.iinc 3 1, 3) := by decide +kernel
theorem dX3_farthest_29 : decode cX3_farthest 29 = .ok (.goto (-25), 3) := by decide +kernel
theorem dX3_farthest_32 : decode cX3_farthest 32 = .ok (.iload_n 2, 1) := by decide +kernel
theorem dX3_farthest_33 : decode cX3_farthest 33 = .ok (.ireturn, 1) := by decide +kernel
theorem dX3_fewestFaults_0 : decode cX3_fewestFaults 0 = .ok (.aload_n 0, 1) := by decide +kernel
theorem dX3_fewestFaults_1 : decode cX3_fewestFaults 1 = .ok (.aload_n 1, 1) := by decide +kernel
theorem dX3_fewestFaults_2 : decode cX3_fewestFaults 2 = .ok (.invokevirtual 21, 3) := by decide +kernel
theorem dX3_fewestFaults_5 : decode cX3_fewestFaults 5 = .ok (.iconst 0, 1) := by decide +kernel
theorem dX3_fewestFaults_6 : decode cX3_fewestFaults 6 = .ok (.istore_n 3, 1) := by decide +kernel
theorem dX3_fewestFaults_7 : decode cX3_fewestFaults 7 = .ok (.iconst 0, 1) := by decide +kernel
theorem dX3_fewestFaults_8 : decode cX3_fewestFaults 8 = .ok (.istore 4, 2) := by decide +kernel
theorem dX3_fewestFaults_10 : decode cX3_fewestFaults 10 = .ok (.iconst 0, 1) := by decide +kernel
theorem dX3_fewestFaults_11 : decode cX3_fewestFaults 11 = .ok (.istore 5, 2) := by decide +kernel
theorem dX3_fewestFaults_13 : decode cX3_fewestFaults 13 = .ok (.iload 5, 2) := by decide +kernel
theorem dX3_fewestFaults_15 : decode cX3_fewestFaults 15 = .ok (.aload_n 1, 1) := by decide +kernel
theorem dX3_fewestFaults_16 : decode cX3_fewestFaults 16 = .ok (.getfield 25, 3) := by decide +kernel
theorem dX3_fewestFaults_19 : decode cX3_fewestFaults 19 = .ok (.if_icmp .ge 66, 3) := by decide +kernel
theorem dX3_fewestFaults_22 : decode cX3_fewestFaults 22 = .ok (.aload_n 0, 1) := by decide +kernel
theorem dX3_fewestFaults_23 : decode cX3_fewestFaults 23 = .ok (.iload 5, 2) := by decide +kernel
theorem dX3_fewestFaults_25 : decode cX3_fewestFaults 25 = .ok (.iload_n 3, 1) := by decide +kernel
theorem dX3_fewestFaults_26 : decode cX3_fewestFaults 26 = .ok (.invokevirtual 31, 3) := by decide +kernel
theorem dX3_fewestFaults_29 : decode cX3_fewestFaults 29 = .ok (.istore 6, 2) := by decide +kernel
theorem dX3_fewestFaults_31 : decode cX3_fewestFaults 31 = .ok (.iload 6, 2) := by decide +kernel
theorem dX3_fewestFaults_33 : decode cX3_fewestFaults 33 = .ok (.iconst (-1), 1) := by decide +kernel
theorem dX3_fewestFaults_34 : decode cX3_fewestFaults 34 = .ok (.if_icmp .ne 31, 3) := by decide +kernel
theorem dX3_fewestFaults_37 : decode cX3_fewestFaults 37 = .ok (.iinc 4 1, 3) := by decide +kernel
theorem dX3_fewestFaults_40 : decode cX3_fewestFaults 40 = .ok (.iload_n 3, 1) := by decide +kernel
theorem dX3_fewestFaults_41 : decode cX3_fewestFaults 41 = .ok (.iload_n 2, 1) := by decide +kernel
theorem dX3_fewestFaults_42 : decode cX3_fewestFaults 42 = .ok (.if_icmp .ge 7, 3) := by decide +kernel
theorem dX3_fewestFaults_45 : decode cX3_fewestFaults 45 = .ok (.iload_n 3, 1) := by decide +kernel
theorem dX3_fewestFaults_46 : decode cX3_fewestFaults 46 = .ok (.goto 8, 3) := by decide +kernel
theorem dX3_fewestFaults_49 : decode cX3_fewestFaults 49 = .ok (.aload_n 0, 1) := by decide +kernel
theorem dX3_fewestFaults_50 : decode cX3_fewestFaults 50 = .ok (.iload_n 3, 1) := by decide +kernel
theorem dX3_fewestFaults_51 : decode cX3_fewestFaults 51 = .ok (.invokevirtual 35, 3) := by decide +kernel
theorem dX3_fewestFaults_54 : decode cX3_fewestFaults 54 = .ok (.istore 6, 2) := by decide +kernel
theorem dX3_fewestFaults_56 : decode cX3_fewestFaults 56 = .ok (.iload_n 3, 1) := by decide +kernel
theorem dX3_fewestFaults_57 : decode cX3_fewestFaults 57 = .ok (.iload 6, 2) := by decide +kernel
theorem dX3_fewestFaults_59 : decode cX3_fewestFaults 59 = .ok (.iconst 1, 1) := by decide +kernel
theorem dX3_fewestFaults_60 : decode cX3_fewestFaults 60 = .ok (.iadd, 1) := by decide +kernel
theorem dX3_fewestFaults_61 : decode cX3_fewestFaults 61 = .ok (.invokestatic 39, 3) := by decide +kernel
theorem dX3_fewestFaults_64 : decode cX3_fewestFaults 64 = .ok (.istore_n 3, 1) := by decide +kernel
theorem dX3_fewestFaults_65 : decode cX3_fewestFaults 65 = .ok (.aload_n 0, 1) := by decide +kernel
theorem dX3_fewestFaults_66 : decode cX3_fewestFaults 66 = .ok (.getfield 18, 3) := by decide +kernel
theorem dX3_fewestFaults_69 : decode cX3_fewestFaults 69 = .ok (.iload 6, 2) := by decide +kernel
theorem dX3_fewestFaults_71 : decode cX3_fewestFaults 71 = .ok (.aload_n 0, 1) := by decide +kernel
theorem dX3_fewestFaults_72 : decode cX3_fewestFaults 72 = .ok (.getfield 9, 3) := by decide +kernel
theorem dX3_fewestFaults_75 : decode cX3_fewestFaults 75 = .ok (.iload 5, 2) := by decide +kernel
theorem dX3_fewestFaults_77 : decode cX3_fewestFaults 77 = .ok (.iaload, 1) := by decide +kernel
theorem dX3_fewestFaults_78 : decode cX3_fewestFaults 78 = .ok (.iastore, 1) := by decide +kernel
theorem dX3_fewestFaults_79 : decode cX3_fewestFaults 79 = .ok (.iinc 5 1, 3) := by decide +kernel
theorem dX3_fewestFaults_82 : decode cX3_fewestFaults 82 = .ok (.goto (-69), 3) := by decide +kernel
theorem dX3_fewestFaults_85 : decode cX3_fewestFaults 85 = .ok (.iload 4, 2) := by decide +kernel
theorem dX3_fewestFaults_87 : decode cX3_fewestFaults 87 = .ok (.ireturn, 1) := by decide +kernel
theorem dX7_forgetAll_0 : decode cX7_forgetAll 0 = .ok (.aload_n 0, 1) := by decide +kernel
theorem dX7_forgetAll_1 : decode cX7_forgetAll 1 = .ok (.getfield 25, 3) := by decide +kernel
theorem dX7_forgetAll_4 : decode cX7_forgetAll 4 = .ok (.invokevirtual 29, 3) := by decide +kernel
theorem dX7_forgetAll_7 : decode cX7_forgetAll 7 = .ok (.aload_n 0, 1) := by decide +kernel
theorem dX7_forgetAll_8 : decode cX7_forgetAll 8 = .ok (.getfield 9, 3) := by decide +kernel
theorem dX7_forgetAll_11 : decode cX7_forgetAll 11 = .ok (.iconst (-1), 1) := by decide +kernel
theorem dX7_forgetAll_12 : decode cX7_forgetAll 12 = .ok (.invokestatic 34, 3) := by decide +kernel
theorem dX7_forgetAll_15 : decode cX7_forgetAll 15 = .ok (.aload_n 0, 1) := by decide +kernel
theorem dX7_forgetAll_16 : decode cX7_forgetAll 16 = .ok (.getfield 15, 3) := by decide +kernel
theorem dX7_forgetAll_19 : decode cX7_forgetAll 19 = .ok (.iconst (-1), 1) := by decide +kernel
theorem dX7_forgetAll_20 : decode cX7_forgetAll 20 = .ok (.invokestatic 34, 3) := by decide +kernel
theorem dX7_forgetAll_23 : decode cX7_forgetAll 23 = .ok (.aload_n 0, 1) := by decide +kernel
theorem dX7_forgetAll_24 : decode cX7_forgetAll 24 = .ok (.getfield 18, 3) := by decide +kernel
theorem dX7_forgetAll_27 : decode cX7_forgetAll 27 = .ok (.iconst 0, 1) := by decide +kernel
theorem dX7_forgetAll_28 : decode cX7_forgetAll 28 = .ok (.invokestatic 34, 3) := by decide +kernel
theorem dX7_forgetAll_31 : decode cX7_forgetAll 31 = .ok (.aload_n 0, 1) := by decide +kernel
theorem dX7_forgetAll_32 : decode cX7_forgetAll 32 = .ok (.iconst 0, 1) := by decide +kernel
theorem dX7_forgetAll_33 : decode cX7_forgetAll 33 = .ok (.putfield 21, 3) := by decide +kernel
theorem dX7_forgetAll_36 : decode cX7_forgetAll 36 = .ok (.return_, 1) := by decide +kernel
theorem dX6_startWith_0 : decode cX6_startWith 0 = .ok (.aload_n 0, 1) := by decide +kernel
theorem dX6_startWith_1 : decode cX6_startWith 1 = .ok (.iload_n 1, 1) := by decide +kernel
theorem dX6_startWith_2 : decode cX6_startWith 2 = .ok (.putfield 9, 3) := by decide +kernel
theorem dX6_startWith_5 : decode cX6_startWith 5 = .ok (.aload_n 0, 1) := by decide +kernel
theorem dX6_startWith_6 : decode cX6_startWith 6 = .ok (.iconst 0, 1) := by decide +kernel
theorem dX6_startWith_7 : decode cX6_startWith 7 = .ok (.putfield 15, 3) := by decide +kernel
theorem dX6_startWith_10 : decode cX6_startWith 10 = .ok (.aload_n 0, 1) := by decide +kernel
theorem dX6_startWith_11 : decode cX6_startWith 11 = .ok (.invokevirtual 18, 3) := by decide +kernel
theorem dX6_startWith_14 : decode cX6_startWith 14 = .ok (.return_, 1) := by decide +kernel
theorem dX1_keeps_0 : decode cX1_keeps 0 = .ok (.aload_n 0, 1) := by decide +kernel
theorem dX1_keeps_1 : decode cX1_keeps 1 = .ok (.getfield 12, 3) := by decide +kernel
theorem dX1_keeps_4 : decode cX1_keeps 4 = .ok (.iload_n 1, 1) := by decide +kernel
theorem dX1_keeps_5 : decode cX1_keeps 5 = .ok (.invokevirtual 18, 3) := by decide +kernel
theorem dX1_keeps_8 : decode cX1_keeps 8 = .ok (.ireturn, 1) := by decide +kernel
theorem dX1_renew_0 : decode cX1_renew 0 = .ok (.aload_n 0, 1) := by decide +kernel
theorem dX1_renew_1 : decode cX1_renew 1 = .ok (.getfield 12, 3) := by decide +kernel
theorem dX1_renew_4 : decode cX1_renew 4 = .ok (.iload_n 1, 1) := by decide +kernel
theorem dX1_renew_5 : decode cX1_renew 5 = .ok (.invokevirtual 33, 3) := by decide +kernel
theorem dX1_renew_8 : decode cX1_renew 8 = .ok (.aload_n 0, 1) := by decide +kernel
theorem dX1_renew_9 : decode cX1_renew 9 = .ok (.getfield 12, 3) := by decide +kernel
theorem dX1_renew_12 : decode cX1_renew 12 = .ok (.iload_n 1, 1) := by decide +kernel
theorem dX1_renew_13 : decode cX1_renew 13 = .ok (.invokevirtual 37, 3) := by decide +kernel
theorem dX1_renew_16 : decode cX1_renew 16 = .ok (.return_, 1) := by decide +kernel
theorem dX7_touchKept_0 : decode cX7_touchKept 0 = .ok (.aload_n 0, 1) := by decide +kernel
theorem dX7_touchKept_1 : decode cX7_touchKept 1 = .ok (.iload_n 1, 1) := by decide +kernel
theorem dX7_touchKept_2 : decode cX7_touchKept 2 = .ok (.invokevirtual 40, 3) := by decide +kernel
theorem dX7_touchKept_5 : decode cX7_touchKept 5 = .ok (.return_, 1) := by decide +kernel
theorem dX7_noteRefault_0 : decode cX7_noteRefault 0 = .ok (.aload_n 0, 1) := by decide +kernel
theorem dX7_noteRefault_1 : decode cX7_noteRefault 1 = .ok (.getfield 9, 3) := by decide +kernel
theorem dX7_noteRefault_4 : decode cX7_noteRefault 4 = .ok (.iload_n 1, 1) := by decide +kernel
theorem dX7_noteRefault_5 : decode cX7_noteRefault 5 = .ok (.iaload, 1) := by decide +kernel
theorem dX7_noteRefault_6 : decode cX7_noteRefault 6 = .ok (.iconst (-1), 1) := by decide +kernel
theorem dX7_noteRefault_7 : decode cX7_noteRefault 7 = .ok (.if_icmp .ne 4, 3) := by decide +kernel
theorem dX7_noteRefault_10 : decode cX7_noteRefault 10 = .ok (.return_, 1) := by decide +kernel
theorem dX7_noteRefault_11 : decode cX7_noteRefault 11 = .ok (.aload_n 0, 1) := by decide +kernel
theorem dX7_noteRefault_12 : decode cX7_noteRefault 12 = .ok (.getfield 21, 3) := by decide +kernel
theorem dX7_noteRefault_15 : decode cX7_noteRefault 15 = .ok (.aload_n 0, 1) := by decide +kernel
theorem dX7_noteRefault_16 : decode cX7_noteRefault 16 = .ok (.getfield 9, 3) := by decide +kernel
theorem dX7_noteRefault_19 : decode cX7_noteRefault 19 = .ok (.iload_n 1, 1) := by decide +kernel
theorem dX7_noteRefault_20 : decode cX7_noteRefault 20 = .ok (.iaload, 1) := by decide +kernel
theorem dX7_noteRefault_21 : decode cX7_noteRefault 21 = .ok (.isub, 1) := by decide +kernel
theorem dX7_noteRefault_22 : decode cX7_noteRefault 22 = .ok (.iconst 1, 1) := by decide +kernel
theorem dX7_noteRefault_23 : decode cX7_noteRefault 23 = .ok (.isub, 1) := by decide +kernel
theorem dX7_noteRefault_24 : decode cX7_noteRefault 24 = .ok (.istore_n 2, 1) := by decide +kernel
theorem dX7_noteRefault_25 : decode cX7_noteRefault 25 = .ok (.aload_n 0, 1) := by decide +kernel
theorem dX7_noteRefault_26 : decode cX7_noteRefault 26 = .ok (.getfield 15, 3) := by decide +kernel
theorem dX7_noteRefault_29 : decode cX7_noteRefault 29 = .ok (.iload_n 1, 1) := by decide +kernel
theorem dX7_noteRefault_30 : decode cX7_noteRefault 30 = .ok (.iload_n 2, 1) := by decide +kernel
theorem dX7_noteRefault_31 : decode cX7_noteRefault 31 = .ok (.iastore, 1) := by decide +kernel
theorem dX7_noteRefault_32 : decode cX7_noteRefault 32 = .ok (.iload_n 2, 1) := by decide +kernel
theorem dX7_noteRefault_33 : decode cX7_noteRefault 33 = .ok (.ifCond .lt 20, 3) := by decide +kernel
theorem dX7_noteRefault_36 : decode cX7_noteRefault 36 = .ok (.iload_n 2, 1) := by decide +kernel
theorem dX7_noteRefault_37 : decode cX7_noteRefault 37 = .ok (.sipush 400, 3) := by decide +kernel
theorem dX7_noteRefault_40 : decode cX7_noteRefault 40 = .ok (.if_icmp .gt 13, 3) := by decide +kernel
theorem dX7_noteRefault_43 : decode cX7_noteRefault 43 = .ok (.aload_n 0, 1) := by decide +kernel
theorem dX7_noteRefault_44 : decode cX7_noteRefault 44 = .ok (.getfield 18, 3) := by decide +kernel
theorem dX7_noteRefault_47 : decode cX7_noteRefault 47 = .ok (.iload_n 2, 1) := by decide +kernel
theorem dX7_noteRefault_48 : decode cX7_noteRefault 48 = .ok (.dup2, 1) := by decide +kernel
theorem dX7_noteRefault_49 : decode cX7_noteRefault 49 = .ok (.iaload, 1) := by decide +kernel
theorem dX7_noteRefault_50 : decode cX7_noteRefault 50 = .ok (.iconst 1, 1) := by decide +kernel
theorem dX7_noteRefault_51 : decode cX7_noteRefault 51 = .ok (.iadd, 1) := by decide +kernel
theorem dX7_noteRefault_52 : decode cX7_noteRefault 52 = .ok (.iastore, 1) := by decide +kernel
theorem dX7_noteRefault_53 : decode cX7_noteRefault 53 = .ok (.return_, 1) := by decide +kernel
theorem dX1_nextVictim_0 : decode cX1_nextVictim 0 = .ok (.aload_n 0, 1) := by decide +kernel
theorem dX1_nextVictim_1 : decode cX1_nextVictim 1 = .ok (.getfield 12, 3) := by decide +kernel
theorem dX1_nextVictim_4 : decode cX1_nextVictim 4 = .ok (.getfield 22, 3) := by decide +kernel
theorem dX1_nextVictim_7 : decode cX1_nextVictim 7 = .ok (.aload_n 0, 1) := by decide +kernel
theorem dX1_nextVictim_8 : decode cX1_nextVictim 8 = .ok (.getfield 26, 3) := by decide +kernel
theorem dX1_nextVictim_11 : decode cX1_nextVictim 11 = .ok (.if_icmp .ge 7, 3) := by decide +kernel
theorem dX1_nextVictim_14 : decode cX1_nextVictim 14 = .ok (.iconst (-1), 1) := by decide +kernel
theorem dX1_nextVictim_15 : decode cX1_nextVictim 15 = .ok (.goto 10, 3) := by decide +kernel
theorem dX1_nextVictim_18 : decode cX1_nextVictim 18 = .ok (.aload_n 0, 1) := by decide +kernel
theorem dX1_nextVictim_19 : decode cX1_nextVictim 19 = .ok (.getfield 12, 3) := by decide +kernel
theorem dX1_nextVictim_22 : decode cX1_nextVictim 22 = .ok (.invokevirtual 29, 3) := by decide +kernel
theorem dX1_nextVictim_25 : decode cX1_nextVictim 25 = .ok (.ireturn, 1) := by decide +kernel
theorem dX1_exchange_0 : decode cX1_exchange 0 = .ok (.aload_n 0, 1) := by decide +kernel
theorem dX1_exchange_1 : decode cX1_exchange 1 = .ok (.invokevirtual 40, 3) := by decide +kernel
theorem dX1_exchange_4 : decode cX1_exchange 4 = .ok (.istore_n 2, 1) := by decide +kernel
theorem dX1_exchange_5 : decode cX1_exchange 5 = .ok (.aload_n 0, 1) := by decide +kernel
theorem dX1_exchange_6 : decode cX1_exchange 6 = .ok (.getfield 12, 3) := by decide +kernel
theorem dX1_exchange_9 : decode cX1_exchange 9 = .ok (.iload_n 2, 1) := by decide +kernel
theorem dX1_exchange_10 : decode cX1_exchange 10 = .ok (.invokevirtual 33, 3) := by decide +kernel
theorem dX1_exchange_13 : decode cX1_exchange 13 = .ok (.aload_n 0, 1) := by decide +kernel
theorem dX1_exchange_14 : decode cX1_exchange 14 = .ok (.getfield 12, 3) := by decide +kernel
theorem dX1_exchange_17 : decode cX1_exchange 17 = .ok (.iload_n 1, 1) := by decide +kernel
theorem dX1_exchange_18 : decode cX1_exchange 18 = .ok (.invokevirtual 37, 3) := by decide +kernel
theorem dX1_exchange_21 : decode cX1_exchange 21 = .ok (.iload_n 2, 1) := by decide +kernel
theorem dX1_exchange_22 : decode cX1_exchange 22 = .ok (.ireturn, 1) := by decide +kernel
theorem dX7_bringIn_0 : decode cX7_bringIn 0 = .ok (.aload_n 0, 1) := by decide +kernel
theorem dX7_bringIn_1 : decode cX7_bringIn 1 = .ok (.iload_n 1, 1) := by decide +kernel
theorem dX7_bringIn_2 : decode cX7_bringIn 2 = .ok (.invokevirtual 44, 3) := by decide +kernel
theorem dX7_bringIn_5 : decode cX7_bringIn 5 = .ok (.aload_n 0, 1) := by decide +kernel
theorem dX7_bringIn_6 : decode cX7_bringIn 6 = .ok (.iload_n 1, 1) := by decide +kernel
theorem dX7_bringIn_7 : decode cX7_bringIn 7 = .ok (.invokevirtual 47, 3) := by decide +kernel
theorem dX7_bringIn_10 : decode cX7_bringIn 10 = .ok (.istore_n 2, 1) := by decide +kernel
theorem dX7_bringIn_11 : decode cX7_bringIn 11 = .ok (.iload_n 2, 1) := by decide +kernel
theorem dX7_bringIn_12 : decode cX7_bringIn 12 = .ok (.invokestatic 51, 3) := by decide +kernel
theorem dX7_bringIn_15 : decode cX7_bringIn 15 = .ok (.ifCond .eq 23, 3) := by decide +kernel
theorem dX7_bringIn_18 : decode cX7_bringIn 18 = .ok (.aload_n 0, 1) := by decide +kernel
theorem dX7_bringIn_19 : decode cX7_bringIn 19 = .ok (.getfield 9, 3) := by decide +kernel
theorem dX7_bringIn_22 : decode cX7_bringIn 22 = .ok (.iload_n 2, 1) := by decide +kernel
theorem dX7_bringIn_23 : decode cX7_bringIn 23 = .ok (.aload_n 0, 1) := by decide +kernel
theorem dX7_bringIn_24 : decode cX7_bringIn 24 = .ok (.getfield 21, 3) := by decide +kernel
theorem dX7_bringIn_27 : decode cX7_bringIn 27 = .ok (.iastore, 1) := by decide +kernel
theorem dX7_bringIn_28 : decode cX7_bringIn 28 = .ok (.aload_n 0, 1) := by decide +kernel
theorem dX7_bringIn_29 : decode cX7_bringIn 29 = .ok (.dup, 1) := by decide +kernel
theorem dX7_bringIn_30 : decode cX7_bringIn 30 = .ok (.getfield 21, 3) := by decide +kernel
theorem dX7_bringIn_33 : decode cX7_bringIn 33 = .ok (.iconst 1, 1) := by decide +kernel
theorem dX7_bringIn_34 : decode cX7_bringIn 34 = .ok (.iadd, 1) := by decide +kernel
theorem dX7_bringIn_35 : decode cX7_bringIn 35 = .ok (.putfield 21, 3) := by decide +kernel
theorem dX7_bringIn_38 : decode cX7_bringIn 38 = .ok (.return_, 1) := by decide +kernel
theorem dX6_afterTouch_0 : decode cX6_afterTouch 0 = .ok (.return_, 1) := by decide +kernel
theorem dX6_see_0 : decode cX6_see 0 = .ok (.aload_n 0, 1) := by decide +kernel
theorem dX6_see_1 : decode cX6_see 1 = .ok (.iload_n 1, 1) := by decide +kernel
theorem dX6_see_2 : decode cX6_see 2 = .ok (.invokevirtual 21, 3) := by decide +kernel
theorem dX6_see_5 : decode cX6_see 5 = .ok (.ifCond .ne 7, 3) := by decide +kernel
theorem dX6_see_8 : decode cX6_see 8 = .ok (.iconst 1, 1) := by decide +kernel
theorem dX6_see_9 : decode cX6_see 9 = .ok (.goto 4, 3) := by decide +kernel
theorem dX6_see_12 : decode cX6_see 12 = .ok (.iconst 0, 1) := by decide +kernel
theorem dX6_see_13 : decode cX6_see 13 = .ok (.istore_n 2, 1) := by decide +kernel
theorem dX6_see_14 : decode cX6_see 14 = .ok (.iload_n 2, 1) := by decide +kernel
theorem dX6_see_15 : decode cX6_see 15 = .ok (.ifCond .eq 21, 3) := by decide +kernel
theorem dX6_see_18 : decode cX6_see 18 = .ok (.aload_n 0, 1) := by decide +kernel
theorem dX6_see_19 : decode cX6_see 19 = .ok (.dup, 1) := by decide +kernel
theorem dX6_see_20 : decode cX6_see 20 = .ok (.getfield 15, 3) := by decide +kernel
theorem dX6_see_23 : decode cX6_see 23 = .ok (.iconst 1, 1) := by decide +kernel
theorem dX6_see_24 : decode cX6_see 24 = .ok (.iadd, 1) := by decide +kernel
theorem dX6_see_25 : decode cX6_see 25 = .ok (.putfield 15, 3) := by decide +kernel
theorem dX6_see_28 : decode cX6_see 28 = .ok (.aload_n 0, 1) := by decide +kernel
theorem dX6_see_29 : decode cX6_see 29 = .ok (.iload_n 1, 1) := by decide +kernel
theorem dX6_see_30 : decode cX6_see 30 = .ok (.invokevirtual 25, 3) := by decide +kernel
theorem dX6_see_33 : decode cX6_see 33 = .ok (.goto 8, 3) := by decide +kernel
theorem dX6_see_36 : decode cX6_see 36 = .ok (.aload_n 0, 1) := by decide +kernel
theorem dX6_see_37 : decode cX6_see 37 = .ok (.iload_n 1, 1) := by decide +kernel
theorem dX6_see_38 : decode cX6_see 38 = .ok (.invokevirtual 29, 3) := by decide +kernel
theorem dX6_see_41 : decode cX6_see 41 = .ok (.aload_n 0, 1) := by decide +kernel
theorem dX6_see_42 : decode cX6_see 42 = .ok (.iload_n 1, 1) := by decide +kernel
theorem dX6_see_43 : decode cX6_see 43 = .ok (.invokevirtual 32, 3) := by decide +kernel
theorem dX6_see_46 : decode cX6_see 46 = .ok (.iload_n 2, 1) := by decide +kernel
theorem dX6_see_47 : decode cX6_see 47 = .ok (.ireturn, 1) := by decide +kernel
theorem dX1_keptCount_0 : decode cX1_keptCount 0 = .ok (.aload_n 0, 1) := by decide +kernel
theorem dX1_keptCount_1 : decode cX1_keptCount 1 = .ok (.getfield 12, 3) := by decide +kernel
theorem dX1_keptCount_4 : decode cX1_keptCount 4 = .ok (.getfield 22, 3) := by decide +kernel
theorem dX1_keptCount_7 : decode cX1_keptCount 7 = .ok (.ireturn, 1) := by decide +kernel
theorem dX7_refaultsUpTo_0 : decode cX7_refaultsUpTo 0 = .ok (.iconst 0, 1) := by decide +kernel
theorem dX7_refaultsUpTo_1 : decode cX7_refaultsUpTo 1 = .ok (.istore_n 2, 1) := by decide +kernel
theorem dX7_refaultsUpTo_2 : decode cX7_refaultsUpTo 2 = .ok (.iconst 0, 1) := by decide +kernel
theorem dX7_refaultsUpTo_3 : decode cX7_refaultsUpTo 3 = .ok (.istore_n 3, 1) := by decide +kernel
theorem dX7_refaultsUpTo_4 : decode cX7_refaultsUpTo 4 = .ok (.iload_n 3, 1) := by decide +kernel
theorem dX7_refaultsUpTo_5 : decode cX7_refaultsUpTo 5 = .ok (.iload_n 1, 1) := by decide +kernel
theorem dX7_refaultsUpTo_6 : decode cX7_refaultsUpTo 6 = .ok (.if_icmp .gt 18, 3) := by decide +kernel
theorem dX7_refaultsUpTo_9 : decode cX7_refaultsUpTo 9 = .ok (.iload_n 2, 1) := by decide +kernel
theorem dX7_refaultsUpTo_10 : decode cX7_refaultsUpTo 10 = .ok (.aload_n 0, 1) := by decide +kernel
theorem dX7_refaultsUpTo_11 : decode cX7_refaultsUpTo 11 = .ok (.getfield 18, 3) := by decide +kernel
theorem dX7_refaultsUpTo_14 : decode cX7_refaultsUpTo 14 = .ok (.iload_n 3, 1) := by decide +kernel
theorem dX7_refaultsUpTo_15 : decode cX7_refaultsUpTo 15 = .ok (.iaload, 1) := by decide +kernel
theorem dX7_refaultsUpTo_16 : decode cX7_refaultsUpTo 16 = .ok (.iadd, 1) := by decide +kernel
theorem dX7_refaultsUpTo_17 : decode cX7_refaultsUpTo 17 = .ok (.istore_n 2, 1) := by decide +kernel
theorem dX7_refaultsUpTo_18 : decode cX7_refaultsUpTo 18 = .ok (.iinc 3 1, 3) := by decide +kernel
theorem dX7_refaultsUpTo_21 : decode cX7_refaultsUpTo 21 = .ok (.goto (-17), 3) := by decide +kernel
theorem dX7_refaultsUpTo_24 : decode cX7_refaultsUpTo 24 = .ok (.iload_n 2, 1) := by decide +kernel
theorem dX7_refaultsUpTo_25 : decode cX7_refaultsUpTo 25 = .ok (.ireturn, 1) := by decide +kernel
theorem dX2_forgetAll_0 : decode cX2_forgetAll 0 = .ok (.aload_n 0, 1) := by decide +kernel
theorem dX2_forgetAll_1 : decode cX2_forgetAll 1 = .ok (.iconst 0, 1) := by decide +kernel
theorem dX2_forgetAll_2 : decode cX2_forgetAll 2 = .ok (.putfield 19, 3) := by decide +kernel
theorem dX2_forgetAll_5 : decode cX2_forgetAll 5 = .ok (.aload_n 0, 1) := by decide +kernel
theorem dX2_forgetAll_6 : decode cX2_forgetAll 6 = .ok (.iconst 0, 1) := by decide +kernel
theorem dX2_forgetAll_7 : decode cX2_forgetAll 7 = .ok (.putfield 23, 3) := by decide +kernel
theorem dX2_forgetAll_10 : decode cX2_forgetAll 10 = .ok (.return_, 1) := by decide +kernel
theorem dX2_frameOf_0 : decode cX2_frameOf 0 = .ok (.iconst 0, 1) := by decide +kernel
theorem dX2_frameOf_1 : decode cX2_frameOf 1 = .ok (.istore_n 2, 1) := by decide +kernel
theorem dX2_frameOf_2 : decode cX2_frameOf 2 = .ok (.iload_n 2, 1) := by decide +kernel
theorem dX2_frameOf_3 : decode cX2_frameOf 3 = .ok (.aload_n 0, 1) := by decide +kernel
theorem dX2_frameOf_4 : decode cX2_frameOf 4 = .ok (.getfield 19, 3) := by decide +kernel
theorem dX2_frameOf_7 : decode cX2_frameOf 7 = .ok (.if_icmp .ge 21, 3) := by decide +kernel
theorem dX2_frameOf_10 : decode cX2_frameOf 10 = .ok (.aload_n 0, 1) := by decide +kernel
theorem dX2_frameOf_11 : decode cX2_frameOf 11 = .ok (.getfield 9, 3) := by decide +kernel
theorem dX2_frameOf_14 : decode cX2_frameOf 14 = .ok (.iload_n 2, 1) := by decide +kernel
theorem dX2_frameOf_15 : decode cX2_frameOf 15 = .ok (.iaload, 1) := by decide +kernel
theorem dX2_frameOf_16 : decode cX2_frameOf 16 = .ok (.iload_n 1, 1) := by decide +kernel
theorem dX2_frameOf_17 : decode cX2_frameOf 17 = .ok (.if_icmp .ne 5, 3) := by decide +kernel
theorem dX2_frameOf_20 : decode cX2_frameOf 20 = .ok (.iload_n 2, 1) := by decide +kernel
theorem dX2_frameOf_21 : decode cX2_frameOf 21 = .ok (.ireturn, 1) := by decide +kernel
theorem dX2_frameOf_22 : decode cX2_frameOf 22 = .ok (.iinc 2 1, 3) := by decide +kernel
theorem dX2_frameOf_25 : decode cX2_frameOf 25 = .ok (.goto (-23), 3) := by decide +kernel
theorem dX2_frameOf_28 : decode cX2_frameOf 28 = .ok (.iconst (-1), 1) := by decide +kernel
theorem dX2_frameOf_29 : decode cX2_frameOf 29 = .ok (.ireturn, 1) := by decide +kernel
theorem dX2_keeps_0 : decode cX2_keeps 0 = .ok (.aload_n 0, 1) := by decide +kernel
theorem dX2_keeps_1 : decode cX2_keeps 1 = .ok (.iload_n 1, 1) := by decide +kernel
theorem dX2_keeps_2 : decode cX2_keeps 2 = .ok (.invokevirtual 26, 3) := by decide +kernel
theorem dX2_keeps_5 : decode cX2_keeps 5 = .ok (.iconst (-1), 1) := by decide +kernel
theorem dX2_keeps_6 : decode cX2_keeps 6 = .ok (.if_icmp .eq 7, 3) := by decide +kernel
theorem dX2_keeps_9 : decode cX2_keeps 9 = .ok (.iconst 1, 1) := by decide +kernel
theorem dX2_keeps_10 : decode cX2_keeps 10 = .ok (.goto 4, 3) := by decide +kernel
theorem dX2_keeps_13 : decode cX2_keeps 13 = .ok (.iconst 0, 1) := by decide +kernel
theorem dX2_keeps_14 : decode cX2_keeps 14 = .ok (.ireturn, 1) := by decide +kernel
theorem dX2_touchKept_0 : decode cX2_touchKept 0 = .ok (.aload_n 0, 1) := by decide +kernel
theorem dX2_touchKept_1 : decode cX2_touchKept 1 = .ok (.iload_n 1, 1) := by decide +kernel
theorem dX2_touchKept_2 : decode cX2_touchKept 2 = .ok (.invokevirtual 26, 3) := by decide +kernel
theorem dX2_touchKept_5 : decode cX2_touchKept 5 = .ok (.istore_n 2, 1) := by decide +kernel
theorem dX2_touchKept_6 : decode cX2_touchKept 6 = .ok (.iload_n 2, 1) := by decide +kernel
theorem dX2_touchKept_7 : decode cX2_touchKept 7 = .ok (.iconst (-1), 1) := by decide +kernel
theorem dX2_touchKept_8 : decode cX2_touchKept 8 = .ok (.if_icmp .eq 10, 3) := by decide +kernel
theorem dX2_touchKept_11 : decode cX2_touchKept 11 = .ok (.aload_n 0, 1) := by decide +kernel
theorem dX2_touchKept_12 : decode cX2_touchKept 12 = .ok (.getfield 15, 3) := by decide +kernel
theorem dX2_touchKept_15 : decode cX2_touchKept 15 = .ok (.iload_n 2, 1) := by decide +kernel
theorem dX2_touchKept_16 : decode cX2_touchKept 16 = .ok (.iconst 1, 1) := by decide +kernel
theorem dX2_touchKept_17 : decode cX2_touchKept 17 = .ok (.bastore, 1) := by decide +kernel
theorem dX2_touchKept_18 : decode cX2_touchKept 18 = .ok (.return_, 1) := by decide +kernel
theorem dX2_frameAfter_0 : decode cX2_frameAfter 0 = .ok (.iload_n 1, 1) := by decide +kernel
theorem dX2_frameAfter_1 : decode cX2_frameAfter 1 = .ok (.iconst 1, 1) := by decide +kernel
theorem dX2_frameAfter_2 : decode cX2_frameAfter 2 = .ok (.iadd, 1) := by decide +kernel
theorem dX2_frameAfter_3 : decode cX2_frameAfter 3 = .ok (.aload_n 0, 1) := by decide +kernel
theorem dX2_frameAfter_4 : decode cX2_frameAfter 4 = .ok (.getfield 30, 3) := by decide +kernel
theorem dX2_frameAfter_7 : decode cX2_frameAfter 7 = .ok (.if_icmp .ge 9, 3) := by decide +kernel
theorem dX2_frameAfter_10 : decode cX2_frameAfter 10 = .ok (.iload_n 1, 1) := by decide +kernel
theorem dX2_frameAfter_11 : decode cX2_frameAfter 11 = .ok (.iconst 1, 1) := by decide +kernel
theorem dX2_frameAfter_12 : decode cX2_frameAfter 12 = .ok (.iadd, 1) := by decide +kernel
theorem dX2_frameAfter_13 : decode cX2_frameAfter 13 = .ok (.goto 4, 3) := by decide +kernel
theorem dX2_frameAfter_16 : decode cX2_frameAfter 16 = .ok (.iconst 0, 1) := by decide +kernel
theorem dX2_frameAfter_17 : decode cX2_frameAfter 17 = .ok (.ireturn, 1) := by decide +kernel
theorem dX2_clearBitsAtHand_0 : decode cX2_clearBitsAtHand 0 = .ok (.iconst 0, 1) := by decide +kernel
theorem dX2_clearBitsAtHand_1 : decode cX2_clearBitsAtHand 1 = .ok (.istore_n 1, 1) := by decide +kernel
theorem dX2_clearBitsAtHand_2 : decode cX2_clearBitsAtHand 2 = .ok (.iload_n 1, 1) := by decide +kernel
theorem dX2_clearBitsAtHand_3 : decode cX2_clearBitsAtHand 3 = .ok (.aload_n 0, 1) := by decide +kernel
theorem dX2_clearBitsAtHand_4 : decode cX2_clearBitsAtHand 4 = .ok (.getfield 30, 3) := by decide +kernel
theorem dX2_clearBitsAtHand_7 : decode cX2_clearBitsAtHand 7 = .ok (.if_icmp .ge 43, 3) := by decide +kernel
theorem dX2_clearBitsAtHand_10 : decode cX2_clearBitsAtHand 10 = .ok (.aload_n 0, 1) := by decide +kernel
theorem dX2_clearBitsAtHand_11 : decode cX2_clearBitsAtHand 11 = .ok (.getfield 15, 3) := by decide +kernel
theorem dX2_clearBitsAtHand_14 : decode cX2_clearBitsAtHand 14 = .ok (.aload_n 0, 1) := by decide +kernel
theorem dX2_clearBitsAtHand_15 : decode cX2_clearBitsAtHand 15 = .ok (.getfield 23, 3) := by decide +kernel
theorem dX2_clearBitsAtHand_18 : decode cX2_clearBitsAtHand 18 = .ok (.baload, 1) := by decide +kernel
theorem dX2_clearBitsAtHand_19 : decode cX2_clearBitsAtHand 19 = .ok (.ifCond .eq 31, 3) := by decide +kernel
theorem dX2_clearBitsAtHand_22 : decode cX2_clearBitsAtHand 22 = .ok (.aload_n 0, 1) := by decide +kernel
theorem dX2_clearBitsAtHand_23 : decode cX2_clearBitsAtHand 23 = .ok (.getfield 15, 3) := by decide +kernel
theorem dX2_clearBitsAtHand_26 : decode cX2_clearBitsAtHand 26 = .ok (.aload_n 0, 1) := by decide +kernel
theorem dX2_clearBitsAtHand_27 : decode cX2_clearBitsAtHand 27 = .ok (.getfield 23, 3) := by decide +kernel
theorem dX2_clearBitsAtHand_30 : decode cX2_clearBitsAtHand 30 = .ok (.iconst 0, 1) := by decide +kernel
theorem dX2_clearBitsAtHand_31 : decode cX2_clearBitsAtHand 31 = .ok (.bastore, 1) := by decide +kernel
theorem dX2_clearBitsAtHand_32 : decode cX2_clearBitsAtHand 32 = .ok (.aload_n 0, 1) := by decide +kernel
theorem dX2_clearBitsAtHand_33 : decode cX2_clearBitsAtHand 33 = .ok (.aload_n 0, 1) := by decide +kernel
theorem dX2_clearBitsAtHand_34 : decode cX2_clearBitsAtHand 34 = .ok (.aload_n 0, 1) := by decide +kernel
theorem dX2_clearBitsAtHand_35 : decode cX2_clearBitsAtHand 35 = .ok (.getfield 23, 3) := by decide +kernel
theorem dX2_clearBitsAtHand_38 : decode cX2_clearBitsAtHand 38 = .ok (.invokevirtual 40, 3) := by decide +kernel
theorem dX2_clearBitsAtHand_41 : decode cX2_clearBitsAtHand 41 = .ok (.putfield 23, 3) := by decide +kernel
theorem dX2_clearBitsAtHand_44 : decode cX2_clearBitsAtHand 44 = .ok (.iinc 1 1, 3) := by decide +kernel
theorem dX2_clearBitsAtHand_47 : decode cX2_clearBitsAtHand 47 = .ok (.goto (-45), 3) := by decide +kernel
theorem dX2_clearBitsAtHand_50 : decode cX2_clearBitsAtHand 50 = .ok (.return_, 1) := by decide +kernel
theorem dX2_put_0 : decode cX2_put 0 = .ok (.aload_n 0, 1) := by decide +kernel
theorem dX2_put_1 : decode cX2_put 1 = .ok (.getfield 9, 3) := by decide +kernel
theorem dX2_put_4 : decode cX2_put 4 = .ok (.iload_n 2, 1) := by decide +kernel
theorem dX2_put_5 : decode cX2_put 5 = .ok (.iload_n 1, 1) := by decide +kernel
theorem dX2_put_6 : decode cX2_put 6 = .ok (.iastore, 1) := by decide +kernel
theorem dX2_put_7 : decode cX2_put 7 = .ok (.aload_n 0, 1) := by decide +kernel
theorem dX2_put_8 : decode cX2_put 8 = .ok (.getfield 15, 3) := by decide +kernel
theorem dX2_put_11 : decode cX2_put 11 = .ok (.iload_n 2, 1) := by decide +kernel
theorem dX2_put_12 : decode cX2_put 12 = .ok (.iconst 1, 1) := by decide +kernel
theorem dX2_put_13 : decode cX2_put 13 = .ok (.bastore, 1) := by decide +kernel
theorem dX2_put_14 : decode cX2_put 14 = .ok (.return_, 1) := by decide +kernel
theorem dX2_bringIn_0 : decode cX2_bringIn 0 = .ok (.aload_n 0, 1) := by decide +kernel
theorem dX2_bringIn_1 : decode cX2_bringIn 1 = .ok (.getfield 19, 3) := by decide +kernel
theorem dX2_bringIn_4 : decode cX2_bringIn 4 = .ok (.aload_n 0, 1) := by decide +kernel
theorem dX2_bringIn_5 : decode cX2_bringIn 5 = .ok (.getfield 30, 3) := by decide +kernel
theorem dX2_bringIn_8 : decode cX2_bringIn 8 = .ok (.if_icmp .ge 25, 3) := by decide +kernel
theorem dX2_bringIn_11 : decode cX2_bringIn 11 = .ok (.aload_n 0, 1) := by decide +kernel
theorem dX2_bringIn_12 : decode cX2_bringIn 12 = .ok (.iload_n 1, 1) := by decide +kernel
theorem dX2_bringIn_13 : decode cX2_bringIn 13 = .ok (.aload_n 0, 1) := by decide +kernel
theorem dX2_bringIn_14 : decode cX2_bringIn 14 = .ok (.getfield 19, 3) := by decide +kernel
theorem dX2_bringIn_17 : decode cX2_bringIn 17 = .ok (.invokevirtual 33, 3) := by decide +kernel
theorem dX2_bringIn_20 : decode cX2_bringIn 20 = .ok (.aload_n 0, 1) := by decide +kernel
theorem dX2_bringIn_21 : decode cX2_bringIn 21 = .ok (.dup, 1) := by decide +kernel
theorem dX2_bringIn_22 : decode cX2_bringIn 22 = .ok (.getfield 19, 3) := by decide +kernel
theorem dX2_bringIn_25 : decode cX2_bringIn 25 = .ok (.iconst 1, 1) := by decide +kernel
theorem dX2_bringIn_26 : decode cX2_bringIn 26 = .ok (.iadd, 1) := by decide +kernel
theorem dX2_bringIn_27 : decode cX2_bringIn 27 = .ok (.putfield 19, 3) := by decide +kernel
theorem dX2_bringIn_30 : decode cX2_bringIn 30 = .ok (.goto 28, 3) := by decide +kernel
theorem dX2_bringIn_33 : decode cX2_bringIn 33 = .ok (.aload_n 0, 1) := by decide +kernel
theorem dX2_bringIn_34 : decode cX2_bringIn 34 = .ok (.invokevirtual 37, 3) := by decide +kernel
theorem dX2_bringIn_37 : decode cX2_bringIn 37 = .ok (.aload_n 0, 1) := by decide +kernel
theorem dX2_bringIn_38 : decode cX2_bringIn 38 = .ok (.iload_n 1, 1) := by decide +kernel
theorem dX2_bringIn_39 : decode cX2_bringIn 39 = .ok (.aload_n 0, 1) := by decide +kernel
theorem dX2_bringIn_40 : decode cX2_bringIn 40 = .ok (.getfield 23, 3) := by decide +kernel
theorem dX2_bringIn_43 : decode cX2_bringIn 43 = .ok (.invokevirtual 33, 3) := by decide +kernel
theorem dX2_bringIn_46 : decode cX2_bringIn 46 = .ok (.aload_n 0, 1) := by decide +kernel
theorem dX2_bringIn_47 : decode cX2_bringIn 47 = .ok (.aload_n 0, 1) := by decide +kernel
theorem dX2_bringIn_48 : decode cX2_bringIn 48 = .ok (.aload_n 0, 1) := by decide +kernel
theorem dX2_bringIn_49 : decode cX2_bringIn 49 = .ok (.getfield 23, 3) := by decide +kernel
theorem dX2_bringIn_52 : decode cX2_bringIn 52 = .ok (.invokevirtual 40, 3) := by decide +kernel
theorem dX2_bringIn_55 : decode cX2_bringIn 55 = .ok (.putfield 23, 3) := by decide +kernel
theorem dX2_bringIn_58 : decode cX2_bringIn 58 = .ok (.return_, 1) := by decide +kernel
theorem dX2_keptCount_0 : decode cX2_keptCount 0 = .ok (.aload_n 0, 1) := by decide +kernel
theorem dX2_keptCount_1 : decode cX2_keptCount 1 = .ok (.getfield 19, 3) := by decide +kernel
theorem dX2_keptCount_4 : decode cX2_keptCount 4 = .ok (.ireturn, 1) := by decide +kernel
theorem dX2_nextVictim_0 : decode cX2_nextVictim 0 = .ok (.aload_n 0, 1) := by decide +kernel
theorem dX2_nextVictim_1 : decode cX2_nextVictim 1 = .ok (.getfield 19, 3) := by decide +kernel
theorem dX2_nextVictim_4 : decode cX2_nextVictim 4 = .ok (.aload_n 0, 1) := by decide +kernel
theorem dX2_nextVictim_5 : decode cX2_nextVictim 5 = .ok (.getfield 30, 3) := by decide +kernel
theorem dX2_nextVictim_8 : decode cX2_nextVictim 8 = .ok (.if_icmp .ge 5, 3) := by decide +kernel
theorem dX2_nextVictim_11 : decode cX2_nextVictim 11 = .ok (.iconst (-1), 1) := by decide +kernel
theorem dX2_nextVictim_12 : decode cX2_nextVictim 12 = .ok (.ireturn, 1) := by decide +kernel
theorem dX2_nextVictim_13 : decode cX2_nextVictim 13 = .ok (.aload_n 0, 1) := by decide +kernel
theorem dX2_nextVictim_14 : decode cX2_nextVictim 14 = .ok (.getfield 23, 3) := by decide +kernel
theorem dX2_nextVictim_17 : decode cX2_nextVictim 17 = .ok (.istore_n 1, 1) := by decide +kernel
theorem dX2_nextVictim_18 : decode cX2_nextVictim 18 = .ok (.iconst 0, 1) := by decide +kernel
theorem dX2_nextVictim_19 : decode cX2_nextVictim 19 = .ok (.istore_n 2, 1) := by decide +kernel
theorem dX2_nextVictim_20 : decode cX2_nextVictim 20 = .ok (.iload_n 2, 1) := by decide +kernel
theorem dX2_nextVictim_21 : decode cX2_nextVictim 21 = .ok (.aload_n 0, 1) := by decide +kernel
theorem dX2_nextVictim_22 : decode cX2_nextVictim 22 = .ok (.getfield 30, 3) := by decide +kernel
theorem dX2_nextVictim_25 : decode cX2_nextVictim 25 = .ok (.if_icmp .ge 24, 3) := by decide +kernel
theorem dX2_nextVictim_28 : decode cX2_nextVictim 28 = .ok (.aload_n 0, 1) := by decide +kernel
theorem dX2_nextVictim_29 : decode cX2_nextVictim 29 = .ok (.getfield 15, 3) := by decide +kernel
theorem dX2_nextVictim_32 : decode cX2_nextVictim 32 = .ok (.iload_n 1, 1) := by decide +kernel
theorem dX2_nextVictim_33 : decode cX2_nextVictim 33 = .ok (.baload, 1) := by decide +kernel
theorem dX2_nextVictim_34 : decode cX2_nextVictim 34 = .ok (.ifCond .eq 15, 3) := by decide +kernel
theorem dX2_nextVictim_37 : decode cX2_nextVictim 37 = .ok (.aload_n 0, 1) := by decide +kernel
theorem dX2_nextVictim_38 : decode cX2_nextVictim 38 = .ok (.iload_n 1, 1) := by decide +kernel
theorem dX2_nextVictim_39 : decode cX2_nextVictim 39 = .ok (.invokevirtual 40, 3) := by decide +kernel
theorem dX2_nextVictim_42 : decode cX2_nextVictim 42 = .ok (.istore_n 1, 1) := by decide +kernel
theorem dX2_nextVictim_43 : decode cX2_nextVictim 43 = .ok (.iinc 2 1, 3) := by decide +kernel
theorem dX2_nextVictim_46 : decode cX2_nextVictim 46 = .ok (.goto (-26), 3) := by decide +kernel
theorem dX2_nextVictim_49 : decode cX2_nextVictim 49 = .ok (.aload_n 0, 1) := by decide +kernel
theorem dX2_nextVictim_50 : decode cX2_nextVictim 50 = .ok (.getfield 9, 3) := by decide +kernel
theorem dX2_nextVictim_53 : decode cX2_nextVictim 53 = .ok (.iload_n 1, 1) := by decide +kernel
theorem dX2_nextVictim_54 : decode cX2_nextVictim 54 = .ok (.iaload, 1) := by decide +kernel
theorem dX2_nextVictim_55 : decode cX2_nextVictim 55 = .ok (.ireturn, 1) := by decide +kernel
theorem dX2_hasBitSet_0 : decode cX2_hasBitSet 0 = .ok (.aload_n 0, 1) := by decide +kernel
theorem dX2_hasBitSet_1 : decode cX2_hasBitSet 1 = .ok (.iload_n 1, 1) := by decide +kernel
theorem dX2_hasBitSet_2 : decode cX2_hasBitSet 2 = .ok (.invokevirtual 26, 3) := by decide +kernel
theorem dX2_hasBitSet_5 : decode cX2_hasBitSet 5 = .ok (.istore_n 2, 1) := by decide +kernel
theorem dX2_hasBitSet_6 : decode cX2_hasBitSet 6 = .ok (.iload_n 2, 1) := by decide +kernel
theorem dX2_hasBitSet_7 : decode cX2_hasBitSet 7 = .ok (.iconst (-1), 1) := by decide +kernel
theorem dX2_hasBitSet_8 : decode cX2_hasBitSet 8 = .ok (.if_icmp .eq 16, 3) := by decide +kernel
theorem dX2_hasBitSet_11 : decode cX2_hasBitSet 11 = .ok (.aload_n 0, 1) := by decide +kernel
theorem dX2_hasBitSet_12 : decode cX2_hasBitSet 12 = .ok (.getfield 15, 3) := by decide +kernel
theorem dX2_hasBitSet_15 : decode cX2_hasBitSet 15 = .ok (.iload_n 2, 1) := by decide +kernel
theorem dX2_hasBitSet_16 : decode cX2_hasBitSet 16 = .ok (.baload, 1) := by decide +kernel
theorem dX2_hasBitSet_17 : decode cX2_hasBitSet 17 = .ok (.ifCond .eq 7, 3) := by decide +kernel
theorem dX2_hasBitSet_20 : decode cX2_hasBitSet 20 = .ok (.iconst 1, 1) := by decide +kernel
theorem dX2_hasBitSet_21 : decode cX2_hasBitSet 21 = .ok (.goto 4, 3) := by decide +kernel
theorem dX2_hasBitSet_24 : decode cX2_hasBitSet 24 = .ok (.iconst 0, 1) := by decide +kernel
theorem dX2_hasBitSet_25 : decode cX2_hasBitSet 25 = .ok (.ireturn, 1) := by decide +kernel
theorem dX0_forgetAll_0 : decode cX0_forgetAll 0 = .ok (.aload_n 0, 1) := by decide +kernel
theorem dX0_forgetAll_1 : decode cX0_forgetAll 1 = .ok (.getfield 12, 3) := by decide +kernel
theorem dX0_forgetAll_4 : decode cX0_forgetAll 4 = .ok (.invokevirtual 31, 3) := by decide +kernel
theorem dX0_forgetAll_7 : decode cX0_forgetAll 7 = .ok (.aload_n 0, 1) := by decide +kernel
theorem dX0_forgetAll_8 : decode cX0_forgetAll 8 = .ok (.getfield 18, 3) := by decide +kernel
theorem dX0_forgetAll_11 : decode cX0_forgetAll 11 = .ok (.invokevirtual 31, 3) := by decide +kernel
theorem dX0_forgetAll_14 : decode cX0_forgetAll 14 = .ok (.aload_n 0, 1) := by decide +kernel
theorem dX0_forgetAll_15 : decode cX0_forgetAll 15 = .ok (.getfield 21, 3) := by decide +kernel
theorem dX0_forgetAll_18 : decode cX0_forgetAll 18 = .ok (.invokevirtual 31, 3) := by decide +kernel
theorem dX0_forgetAll_21 : decode cX0_forgetAll 21 = .ok (.aload_n 0, 1) := by decide +kernel
theorem dX0_forgetAll_22 : decode cX0_forgetAll 22 = .ok (.getfield 24, 3) := by decide +kernel
theorem dX0_forgetAll_25 : decode cX0_forgetAll 25 = .ok (.invokevirtual 31, 3) := by decide +kernel
theorem dX0_forgetAll_28 : decode cX0_forgetAll 28 = .ok (.aload_n 0, 1) := by decide +kernel
theorem dX0_forgetAll_29 : decode cX0_forgetAll 29 = .ok (.iconst 0, 1) := by decide +kernel
theorem dX0_forgetAll_30 : decode cX0_forgetAll 30 = .ok (.putfield 27, 3) := by decide +kernel
theorem dX0_forgetAll_33 : decode cX0_forgetAll 33 = .ok (.return_, 1) := by decide +kernel
theorem dX0_keeps_0 : decode cX0_keeps 0 = .ok (.aload_n 0, 1) := by decide +kernel
theorem dX0_keeps_1 : decode cX0_keeps 1 = .ok (.getfield 12, 3) := by decide +kernel
theorem dX0_keeps_4 : decode cX0_keeps 4 = .ok (.iload_n 1, 1) := by decide +kernel
theorem dX0_keeps_5 : decode cX0_keeps 5 = .ok (.invokevirtual 41, 3) := by decide +kernel
theorem dX0_keeps_8 : decode cX0_keeps 8 = .ok (.ifCond .ne 14, 3) := by decide +kernel
theorem dX0_keeps_11 : decode cX0_keeps 11 = .ok (.aload_n 0, 1) := by decide +kernel
theorem dX0_keeps_12 : decode cX0_keeps 12 = .ok (.getfield 18, 3) := by decide +kernel
theorem dX0_keeps_15 : decode cX0_keeps 15 = .ok (.iload_n 1, 1) := by decide +kernel
theorem dX0_keeps_16 : decode cX0_keeps 16 = .ok (.invokevirtual 41, 3) := by decide +kernel
theorem dX0_keeps_19 : decode cX0_keeps 19 = .ok (.ifCond .eq 7, 3) := by decide +kernel
theorem dX0_keeps_22 : decode cX0_keeps 22 = .ok (.iconst 1, 1) := by decide +kernel
theorem dX0_keeps_23 : decode cX0_keeps 23 = .ok (.goto 4, 3) := by decide +kernel
theorem dX0_keeps_26 : decode cX0_keeps 26 = .ok (.iconst 0, 1) := by decide +kernel
theorem dX0_keeps_27 : decode cX0_keeps 27 = .ok (.ireturn, 1) := by decide +kernel
theorem dX0_touchKept_0 : decode cX0_touchKept 0 = .ok (.aload_n 0, 1) := by decide +kernel
theorem dX0_touchKept_1 : decode cX0_touchKept 1 = .ok (.getfield 12, 3) := by decide +kernel
theorem dX0_touchKept_4 : decode cX0_touchKept 4 = .ok (.iload_n 1, 1) := by decide +kernel
theorem dX0_touchKept_5 : decode cX0_touchKept 5 = .ok (.invokevirtual 34, 3) := by decide +kernel
theorem dX0_touchKept_8 : decode cX0_touchKept 8 = .ok (.aload_n 0, 1) := by decide +kernel
theorem dX0_touchKept_9 : decode cX0_touchKept 9 = .ok (.getfield 18, 3) := by decide +kernel
theorem dX0_touchKept_12 : decode cX0_touchKept 12 = .ok (.iload_n 1, 1) := by decide +kernel
theorem dX0_touchKept_13 : decode cX0_touchKept 13 = .ok (.invokevirtual 34, 3) := by decide +kernel
theorem dX0_touchKept_16 : decode cX0_touchKept 16 = .ok (.aload_n 0, 1) := by decide +kernel
theorem dX0_touchKept_17 : decode cX0_touchKept 17 = .ok (.getfield 18, 3) := by decide +kernel
theorem dX0_touchKept_20 : decode cX0_touchKept 20 = .ok (.iload_n 1, 1) := by decide +kernel
theorem dX0_touchKept_21 : decode cX0_touchKept 21 = .ok (.invokevirtual 38, 3) := by decide +kernel
theorem dX0_touchKept_24 : decode cX0_touchKept 24 = .ok (.return_, 1) := by decide +kernel
theorem dX0_sizeOfAll_0 : decode cX0_sizeOfAll 0 = .ok (.aload_n 0, 1) := by decide +kernel
theorem dX0_sizeOfAll_1 : decode cX0_sizeOfAll 1 = .ok (.getfield 12, 3) := by decide +kernel
theorem dX0_sizeOfAll_4 : decode cX0_sizeOfAll 4 = .ok (.getfield 48, 3) := by decide +kernel
theorem dX0_sizeOfAll_7 : decode cX0_sizeOfAll 7 = .ok (.aload_n 0, 1) := by decide +kernel
theorem dX0_sizeOfAll_8 : decode cX0_sizeOfAll 8 = .ok (.getfield 18, 3) := by decide +kernel
theorem dX0_sizeOfAll_11 : decode cX0_sizeOfAll 11 = .ok (.getfield 48, 3) := by decide +kernel
theorem dX0_sizeOfAll_14 : decode cX0_sizeOfAll 14 = .ok (.iadd, 1) := by decide +kernel
theorem dX0_sizeOfAll_15 : decode cX0_sizeOfAll 15 = .ok (.aload_n 0, 1) := by decide +kernel
theorem dX0_sizeOfAll_16 : decode cX0_sizeOfAll 16 = .ok (.getfield 21, 3) := by decide +kernel
theorem dX0_sizeOfAll_19 : decode cX0_sizeOfAll 19 = .ok (.getfield 48, 3) := by decide +kernel
theorem dX0_sizeOfAll_22 : decode cX0_sizeOfAll 22 = .ok (.iadd, 1) := by decide +kernel
theorem dX0_sizeOfAll_23 : decode cX0_sizeOfAll 23 = .ok (.aload_n 0, 1) := by decide +kernel
theorem dX0_sizeOfAll_24 : decode cX0_sizeOfAll 24 = .ok (.getfield 24, 3) := by decide +kernel
theorem dX0_sizeOfAll_27 : decode cX0_sizeOfAll 27 = .ok (.getfield 48, 3) := by decide +kernel
theorem dX0_sizeOfAll_30 : decode cX0_sizeOfAll 30 = .ok (.iadd, 1) := by decide +kernel
theorem dX0_sizeOfAll_31 : decode cX0_sizeOfAll 31 = .ok (.ireturn, 1) := by decide +kernel
theorem dX0_replacesFromT1_0 : decode cX0_replacesFromT1 0 = .ok (.aload_n 0, 1) := by decide +kernel
theorem dX0_replacesFromT1_1 : decode cX0_replacesFromT1 1 = .ok (.getfield 12, 3) := by decide +kernel
theorem dX0_replacesFromT1_4 : decode cX0_replacesFromT1 4 = .ok (.getfield 48, 3) := by decide +kernel
theorem dX0_replacesFromT1_7 : decode cX0_replacesFromT1 7 = .ok (.ifCond .ne 5, 3) := by decide +kernel
theorem dX0_replacesFromT1_10 : decode cX0_replacesFromT1 10 = .ok (.iconst 0, 1) := by decide +kernel
theorem dX0_replacesFromT1_11 : decode cX0_replacesFromT1 11 = .ok (.ireturn, 1) := by decide +kernel
theorem dX0_replacesFromT1_12 : decode cX0_replacesFromT1 12 = .ok (.aload_n 0, 1) := by decide +kernel
theorem dX0_replacesFromT1_13 : decode cX0_replacesFromT1 13 = .ok (.getfield 12, 3) := by decide +kernel
theorem dX0_replacesFromT1_16 : decode cX0_replacesFromT1 16 = .ok (.getfield 48, 3) := by decide +kernel
theorem dX0_replacesFromT1_19 : decode cX0_replacesFromT1 19 = .ok (.aload_n 0, 1) := by decide +kernel
theorem dX0_replacesFromT1_20 : decode cX0_replacesFromT1 20 = .ok (.getfield 27, 3) := by decide +kernel
theorem dX0_replacesFromT1_23 : decode cX0_replacesFromT1 23 = .ok (.if_icmp .gt 21, 3) := by decide +kernel
theorem dX0_replacesFromT1_26 : decode cX0_replacesFromT1 26 = .ok (.aload_n 0, 1) := by decide +kernel
theorem dX0_replacesFromT1_27 : decode cX0_replacesFromT1 27 = .ok (.getfield 12, 3) := by decide +kernel
theorem dX0_replacesFromT1_30 : decode cX0_replacesFromT1 30 = .ok (.getfield 48, 3) := by decide +kernel
theorem dX0_replacesFromT1_33 : decode cX0_replacesFromT1 33 = .ok (.aload_n 0, 1) := by decide +kernel
theorem dX0_replacesFromT1_34 : decode cX0_replacesFromT1 34 = .ok (.getfield 27, 3) := by decide +kernel
theorem dX0_replacesFromT1_37 : decode cX0_replacesFromT1 37 = .ok (.if_icmp .ne 11, 3) := by decide +kernel
theorem dX0_replacesFromT1_40 : decode cX0_replacesFromT1 40 = .ok (.iload_n 1, 1) := by decide +kernel
theorem dX0_replacesFromT1_41 : decode cX0_replacesFromT1 41 = .ok (.ifCond .eq 7, 3) := by decide +kernel
theorem dX0_replacesFromT1_44 : decode cX0_replacesFromT1 44 = .ok (.iconst 1, 1) := by decide +kernel
theorem dX0_replacesFromT1_45 : decode cX0_replacesFromT1 45 = .ok (.goto 4, 3) := by decide +kernel
theorem dX0_replacesFromT1_48 : decode cX0_replacesFromT1 48 = .ok (.iconst 0, 1) := by decide +kernel
theorem dX0_replacesFromT1_49 : decode cX0_replacesFromT1 49 = .ok (.ireturn, 1) := by decide +kernel
theorem dX0_replace_0 : decode cX0_replace 0 = .ok (.aload_n 0, 1) := by decide +kernel
theorem dX0_replace_1 : decode cX0_replace 1 = .ok (.iload_n 1, 1) := by decide +kernel
theorem dX0_replace_2 : decode cX0_replace 2 = .ok (.invokevirtual 77, 3) := by decide +kernel
theorem dX0_replace_5 : decode cX0_replace 5 = .ok (.ifCond .eq 20, 3) := by decide +kernel
theorem dX0_replace_8 : decode cX0_replace 8 = .ok (.aload_n 0, 1) := by decide +kernel
theorem dX0_replace_9 : decode cX0_replace 9 = .ok (.getfield 21, 3) := by decide +kernel
theorem dX0_replace_12 : decode cX0_replace 12 = .ok (.aload_n 0, 1) := by decide +kernel
theorem dX0_replace_13 : decode cX0_replace 13 = .ok (.getfield 12, 3) := by decide +kernel
theorem dX0_replace_16 : decode cX0_replace 16 = .ok (.invokevirtual 81, 3) := by decide +kernel
theorem dX0_replace_19 : decode cX0_replace 19 = .ok (.invokevirtual 38, 3) := by decide +kernel
theorem dX0_replace_22 : decode cX0_replace 22 = .ok (.goto 27, 3) := by decide +kernel
theorem dX0_replace_25 : decode cX0_replace 25 = .ok (.aload_n 0, 1) := by decide +kernel
theorem dX0_replace_26 : decode cX0_replace 26 = .ok (.getfield 18, 3) := by decide +kernel
theorem dX0_replace_29 : decode cX0_replace 29 = .ok (.getfield 48, 3) := by decide +kernel
theorem dX0_replace_32 : decode cX0_replace 32 = .ok (.ifCond .le 17, 3) := by decide +kernel
theorem dX0_replace_35 : decode cX0_replace 35 = .ok (.aload_n 0, 1) := by decide +kernel
theorem dX0_replace_36 : decode cX0_replace 36 = .ok (.getfield 24, 3) := by decide +kernel
theorem dX0_replace_39 : decode cX0_replace 39 = .ok (.aload_n 0, 1) := by decide +kernel
theorem dX0_replace_40 : decode cX0_replace 40 = .ok (.getfield 18, 3) := by decide +kernel
theorem dX0_replace_43 : decode cX0_replace 43 = .ok (.invokevirtual 81, 3) := by decide +kernel
theorem dX0_replace_46 : decode cX0_replace 46 = .ok (.invokevirtual 38, 3) := by decide +kernel
theorem dX0_replace_49 : decode cX0_replace 49 = .ok (.return_, 1) := by decide +kernel
theorem dX0_makeRoomForUnknown_0 : decode cX0_makeRoomForUnknown 0 = .ok (.aload_n 0, 1) := by decide +kernel
theorem dX0_makeRoomForUnknown_1 : decode cX0_makeRoomForUnknown 1 = .ok (.getfield 12, 3) := by decide +kernel
theorem dX0_makeRoomForUnknown_4 : decode cX0_makeRoomForUnknown 4 = .ok (.getfield 48, 3) := by decide +kernel
theorem dX0_makeRoomForUnknown_7 : decode cX0_makeRoomForUnknown 7 = .ok (.aload_n 0, 1) := by decide +kernel
theorem dX0_makeRoomForUnknown_8 : decode cX0_makeRoomForUnknown 8 = .ok (.getfield 45, 3) := by decide +kernel
theorem dX0_makeRoomForUnknown_11 : decode cX0_makeRoomForUnknown 11 = .ok (.if_icmp .lt 14, 3) := by decide +kernel
theorem dX0_makeRoomForUnknown_14 : decode cX0_makeRoomForUnknown 14 = .ok (.aload_n 0, 1) := by decide +kernel
theorem dX0_makeRoomForUnknown_15 : decode cX0_makeRoomForUnknown 15 = .ok (.getfield 12, 3) := by decide +kernel
theorem dX0_makeRoomForUnknown_18 : decode cX0_makeRoomForUnknown 18 = .ok (.invokevirtual 81, 3) := by decide +kernel
theorem dX0_makeRoomForUnknown_21 : decode cX0_makeRoomForUnknown 21 = .ok (.pop, 1) := by decide +kernel
theorem dX0_makeRoomForUnknown_22 : decode cX0_makeRoomForUnknown 22 = .ok (.goto 78, 3) := by decide +kernel
theorem dX0_makeRoomForUnknown_25 : decode cX0_makeRoomForUnknown 25 = .ok (.aload_n 0, 1) := by decide +kernel
theorem dX0_makeRoomForUnknown_26 : decode cX0_makeRoomForUnknown 26 = .ok (.getfield 12, 3) := by decide +kernel
theorem dX0_makeRoomForUnknown_29 : decode cX0_makeRoomForUnknown 29 = .ok (.getfield 48, 3) := by decide +kernel
theorem dX0_makeRoomForUnknown_32 : decode cX0_makeRoomForUnknown 32 = .ok (.aload_n 0, 1) := by decide +kernel
theorem dX0_makeRoomForUnknown_33 : decode cX0_makeRoomForUnknown 33 = .ok (.getfield 21, 3) := by decide +kernel
theorem dX0_makeRoomForUnknown_36 : decode cX0_makeRoomForUnknown 36 = .ok (.getfield 48, 3) := by decide +kernel
theorem dX0_makeRoomForUnknown_39 : decode cX0_makeRoomForUnknown 39 = .ok (.iadd, 1) := by decide +kernel
theorem dX0_makeRoomForUnknown_40 : decode cX0_makeRoomForUnknown 40 = .ok (.aload_n 0, 1) := by decide +kernel
theorem dX0_makeRoomForUnknown_41 : decode cX0_makeRoomForUnknown 41 = .ok (.getfield 45, 3) := by decide +kernel
theorem dX0_makeRoomForUnknown_44 : decode cX0_makeRoomForUnknown 44 = .ok (.if_icmp .lt 19, 3) := by decide +kernel
theorem dX0_makeRoomForUnknown_47 : decode cX0_makeRoomForUnknown 47 = .ok (.aload_n 0, 1) := by decide +kernel
theorem dX0_makeRoomForUnknown_48 : decode cX0_makeRoomForUnknown 48 = .ok (.getfield 21, 3) := by decide +kernel
theorem dX0_makeRoomForUnknown_51 : decode cX0_makeRoomForUnknown 51 = .ok (.invokevirtual 81, 3) := by decide +kernel
theorem dX0_makeRoomForUnknown_54 : decode cX0_makeRoomForUnknown 54 = .ok (.pop, 1) := by decide +kernel
theorem dX0_makeRoomForUnknown_55 : decode cX0_makeRoomForUnknown 55 = .ok (.aload_n 0, 1) := by decide +kernel
theorem dX0_makeRoomForUnknown_56 : decode cX0_makeRoomForUnknown 56 = .ok (.iconst 0, 1) := by decide +kernel
theorem dX0_makeRoomForUnknown_57 : decode cX0_makeRoomForUnknown 57 = .ok (.invokevirtual 60, 3) := by decide +kernel
theorem dX0_makeRoomForUnknown_60 : decode cX0_makeRoomForUnknown 60 = .ok (.goto 40, 3) := by decide +kernel
theorem dX0_makeRoomForUnknown_63 : decode cX0_makeRoomForUnknown 63 = .ok (.aload_n 0, 1) := by decide +kernel
theorem dX0_makeRoomForUnknown_64 : decode cX0_makeRoomForUnknown 64 = .ok (.invokevirtual 74, 3) := by decide +kernel
theorem dX0_makeRoomForUnknown_67 : decode cX0_makeRoomForUnknown 67 = .ok (.aload_n 0, 1) := by decide +kernel
theorem dX0_makeRoomForUnknown_68 : decode cX0_makeRoomForUnknown 68 = .ok (.getfield 45, 3) := by decide +kernel
theorem dX0_makeRoomForUnknown_71 : decode cX0_makeRoomForUnknown 71 = .ok (.if_icmp .lt 29, 3) := by decide +kernel
theorem dX0_makeRoomForUnknown_74 : decode cX0_makeRoomForUnknown 74 = .ok (.aload_n 0, 1) := by decide +kernel
theorem dX0_makeRoomForUnknown_75 : decode cX0_makeRoomForUnknown 75 = .ok (.invokevirtual 74, 3) := by decide +kernel
theorem dX0_makeRoomForUnknown_78 : decode cX0_makeRoomForUnknown 78 = .ok (.iconst 2, 1) := by decide +kernel
theorem dX0_makeRoomForUnknown_79 : decode cX0_makeRoomForUnknown 79 = .ok (.aload_n 0, 1) := by decide +kernel
theorem dX0_makeRoomForUnknown_80 : decode cX0_makeRoomForUnknown 80 = .ok (.getfield 45, 3) := by decide +kernel
theorem dX0_makeRoomForUnknown_83 : decode cX0_makeRoomForUnknown 83 = .ok (.imul, 1) := by decide +kernel
theorem dX0_makeRoomForUnknown_84 : decode cX0_makeRoomForUnknown 84 = .ok (.if_icmp .lt 11, 3) := by decide +kernel
theorem dX0_makeRoomForUnknown_87 : decode cX0_makeRoomForUnknown 87 = .ok (.aload_n 0, 1) := by decide +kernel
theorem dX0_makeRoomForUnknown_88 : decode cX0_makeRoomForUnknown 88 = .ok (.getfield 24, 3) := by decide +kernel
theorem dX0_makeRoomForUnknown_91 : decode cX0_makeRoomForUnknown 91 = .ok (.invokevirtual 81, 3) := by decide +kernel
theorem dX0_makeRoomForUnknown_94 : decode cX0_makeRoomForUnknown 94 = .ok (.pop, 1) := by decide +kernel
theorem dX0_makeRoomForUnknown_95 : decode cX0_makeRoomForUnknown 95 = .ok (.aload_n 0, 1) := by decide +kernel
theorem dX0_makeRoomForUnknown_96 : decode cX0_makeRoomForUnknown 96 = .ok (.iconst 0, 1) := by decide +kernel
theorem dX0_makeRoomForUnknown_97 : decode cX0_makeRoomForUnknown 97 = .ok (.invokevirtual 60, 3) := by decide +kernel
theorem dX0_makeRoomForUnknown_100 : decode cX0_makeRoomForUnknown 100 = .ok (.return_, 1) := by decide +kernel
theorem dX0_shift_0 : decode cX0_shift 0 = .ok (.iload_n 1, 1) := by decide +kernel
theorem dX0_shift_1 : decode cX0_shift 1 = .ok (.ifCond .le 13, 3) := by decide +kernel
theorem dX0_shift_4 : decode cX0_shift 4 = .ok (.iconst 1, 1) := by decide +kernel
theorem dX0_shift_5 : decode cX0_shift 5 = .ok (.iload_n 0, 1) := by decide +kernel
theorem dX0_shift_6 : decode cX0_shift 6 = .ok (.iload_n 1, 1) := by decide +kernel
theorem dX0_shift_7 : decode cX0_shift 7 = .ok (.idiv, 1) := by decide +kernel
theorem dX0_shift_8 : decode cX0_shift 8 = .ok (.invokestatic 64, 3) := by decide +kernel
theorem dX0_shift_11 : decode cX0_shift 11 = .ok (.goto 4, 3) := by decide +kernel
theorem dX0_shift_14 : decode cX0_shift 14 = .ok (.iconst 1, 1) := by decide +kernel
theorem dX0_shift_15 : decode cX0_shift 15 = .ok (.ireturn, 1) := by decide +kernel
theorem dX0_bringIn_0 : decode cX0_bringIn 0 = .ok (.aload_n 0, 1) := by decide +kernel
theorem dX0_bringIn_1 : decode cX0_bringIn 1 = .ok (.getfield 21, 3) := by decide +kernel
theorem dX0_bringIn_4 : decode cX0_bringIn 4 = .ok (.iload_n 1, 1) := by decide +kernel
theorem dX0_bringIn_5 : decode cX0_bringIn 5 = .ok (.invokevirtual 41, 3) := by decide +kernel
theorem dX0_bringIn_8 : decode cX0_bringIn 8 = .ok (.ifCond .eq 60, 3) := by decide +kernel
theorem dX0_bringIn_11 : decode cX0_bringIn 11 = .ok (.aload_n 0, 1) := by decide +kernel
theorem dX0_bringIn_12 : decode cX0_bringIn 12 = .ok (.aload_n 0, 1) := by decide +kernel
theorem dX0_bringIn_13 : decode cX0_bringIn 13 = .ok (.getfield 45, 3) := by decide +kernel
theorem dX0_bringIn_16 : decode cX0_bringIn 16 = .ok (.aload_n 0, 1) := by decide +kernel
theorem dX0_bringIn_17 : decode cX0_bringIn 17 = .ok (.getfield 27, 3) := by decide +kernel
theorem dX0_bringIn_20 : decode cX0_bringIn 20 = .ok (.aload_n 0, 1) := by decide +kernel
theorem dX0_bringIn_21 : decode cX0_bringIn 21 = .ok (.getfield 24, 3) := by decide +kernel
theorem dX0_bringIn_24 : decode cX0_bringIn 24 = .ok (.getfield 48, 3) := by decide +kernel
theorem dX0_bringIn_27 : decode cX0_bringIn 27 = .ok (.aload_n 0, 1) := by decide +kernel
theorem dX0_bringIn_28 : decode cX0_bringIn 28 = .ok (.getfield 21, 3) := by decide +kernel
theorem dX0_bringIn_31 : decode cX0_bringIn 31 = .ok (.getfield 48, 3) := by decide +kernel
theorem dX0_bringIn_34 : decode cX0_bringIn 34 = .ok (.invokestatic 51, 3) := by decide +kernel
theorem dX0_bringIn_37 : decode cX0_bringIn 37 = .ok (.iadd, 1) := by decide +kernel
theorem dX0_bringIn_38 : decode cX0_bringIn 38 = .ok (.invokestatic 55, 3) := by decide +kernel
theorem dX0_bringIn_41 : decode cX0_bringIn 41 = .ok (.putfield 27, 3) := by decide +kernel
theorem dX0_bringIn_44 : decode cX0_bringIn 44 = .ok (.aload_n 0, 1) := by decide +kernel
theorem dX0_bringIn_45 : decode cX0_bringIn 45 = .ok (.iconst 0, 1) := by decide +kernel
theorem dX0_bringIn_46 : decode cX0_bringIn 46 = .ok (.invokevirtual 60, 3) := by decide +kernel
theorem dX0_bringIn_49 : decode cX0_bringIn 49 = .ok (.aload_n 0, 1) := by decide +kernel
theorem dX0_bringIn_50 : decode cX0_bringIn 50 = .ok (.getfield 21, 3) := by decide +kernel
theorem dX0_bringIn_53 : decode cX0_bringIn 53 = .ok (.iload_n 1, 1) := by decide +kernel
theorem dX0_bringIn_54 : decode cX0_bringIn 54 = .ok (.invokevirtual 34, 3) := by decide +kernel
theorem dX0_bringIn_57 : decode cX0_bringIn 57 = .ok (.aload_n 0, 1) := by decide +kernel
theorem dX0_bringIn_58 : decode cX0_bringIn 58 = .ok (.getfield 18, 3) := by decide +kernel
theorem dX0_bringIn_61 : decode cX0_bringIn 61 = .ok (.iload_n 1, 1) := by decide +kernel
theorem dX0_bringIn_62 : decode cX0_bringIn 62 = .ok (.invokevirtual 38, 3) := by decide +kernel
theorem dX0_bringIn_65 : decode cX0_bringIn 65 = .ok (.goto 80, 3) := by decide +kernel
theorem dX0_bringIn_68 : decode cX0_bringIn 68 = .ok (.aload_n 0, 1) := by decide +kernel
theorem dX0_bringIn_69 : decode cX0_bringIn 69 = .ok (.getfield 24, 3) := by decide +kernel
theorem dX0_bringIn_72 : decode cX0_bringIn 72 = .ok (.iload_n 1, 1) := by decide +kernel
theorem dX0_bringIn_73 : decode cX0_bringIn 73 = .ok (.invokevirtual 41, 3) := by decide +kernel
theorem dX0_bringIn_76 : decode cX0_bringIn 76 = .ok (.ifCond .eq 57, 3) := by decide +kernel
theorem dX0_bringIn_79 : decode cX0_bringIn 79 = .ok (.aload_n 0, 1) := by decide +kernel
theorem dX0_bringIn_80 : decode cX0_bringIn 80 = .ok (.iconst 0, 1) := by decide +kernel
theorem dX0_bringIn_81 : decode cX0_bringIn 81 = .ok (.aload_n 0, 1) := by decide +kernel
theorem dX0_bringIn_82 : decode cX0_bringIn 82 = .ok (.getfield 27, 3) := by decide +kernel
theorem dX0_bringIn_85 : decode cX0_bringIn 85 = .ok (.aload_n 0, 1) := by decide +kernel
theorem dX0_bringIn_86 : decode cX0_bringIn 86 = .ok (.getfield 21, 3) := by decide +kernel
theorem dX0_bringIn_89 : decode cX0_bringIn 89 = .ok (.getfield 48, 3) := by decide +kernel
theorem dX0_bringIn_92 : decode cX0_bringIn 92 = .ok (.aload_n 0, 1) := by decide +kernel
theorem dX0_bringIn_93 : decode cX0_bringIn 93 = .ok (.getfield 24, 3) := by decide +kernel
theorem dX0_bringIn_96 : decode cX0_bringIn 96 = .ok (.getfield 48, 3) := by decide +kernel
theorem dX0_bringIn_99 : decode cX0_bringIn 99 = .ok (.invokestatic 51, 3) := by decide +kernel
theorem dX0_bringIn_102 : decode cX0_bringIn 102 = .ok (.isub, 1) := by decide +kernel
theorem dX0_bringIn_103 : decode cX0_bringIn 103 = .ok (.invokestatic 64, 3) := by decide +kernel
theorem dX0_bringIn_106 : decode cX0_bringIn 106 = .ok (.putfield 27, 3) := by decide +kernel
theorem dX0_bringIn_109 : decode cX0_bringIn 109 = .ok (.aload_n 0, 1) := by decide +kernel
theorem dX0_bringIn_110 : decode cX0_bringIn 110 = .ok (.iconst 1, 1) := by decide +kernel
theorem dX0_bringIn_111 : decode cX0_bringIn 111 = .ok (.invokevirtual 60, 3) := by decide +kernel
theorem dX0_bringIn_114 : decode cX0_bringIn 114 = .ok (.aload_n 0, 1) := by decide +kernel
theorem dX0_bringIn_115 : decode cX0_bringIn 115 = .ok (.getfield 24, 3) := by decide +kernel
theorem dX0_bringIn_118 : decode cX0_bringIn 118 = .ok (.iload_n 1, 1) := by decide +kernel
theorem dX0_bringIn_119 : decode cX0_bringIn 119 = .ok (.invokevirtual 34, 3) := by decide +kernel
theorem dX0_bringIn_122 : decode cX0_bringIn 122 = .ok (.aload_n 0, 1) := by decide +kernel
theorem dX0_bringIn_123 : decode cX0_bringIn 123 = .ok (.getfield 18, 3) := by decide +kernel
theorem dX0_bringIn_126 : decode cX0_bringIn 126 = .ok (.iload_n 1, 1) := by decide +kernel
theorem dX0_bringIn_127 : decode cX0_bringIn 127 = .ok (.invokevirtual 38, 3) := by decide +kernel
theorem dX0_bringIn_130 : decode cX0_bringIn 130 = .ok (.goto 15, 3) := by decide +kernel
theorem dX0_bringIn_133 : decode cX0_bringIn 133 = .ok (.aload_n 0, 1) := by decide +kernel
theorem dX0_bringIn_134 : decode cX0_bringIn 134 = .ok (.invokevirtual 67, 3) := by decide +kernel
theorem dX0_bringIn_137 : decode cX0_bringIn 137 = .ok (.aload_n 0, 1) := by decide +kernel
theorem dX0_bringIn_138 : decode cX0_bringIn 138 = .ok (.getfield 12, 3) := by decide +kernel
theorem dX0_bringIn_141 : decode cX0_bringIn 141 = .ok (.iload_n 1, 1) := by decide +kernel
theorem dX0_bringIn_142 : decode cX0_bringIn 142 = .ok (.invokevirtual 38, 3) := by decide +kernel
theorem dX0_bringIn_145 : decode cX0_bringIn 145 = .ok (.return_, 1) := by decide +kernel
theorem dX0_keptCount_0 : decode cX0_keptCount 0 = .ok (.aload_n 0, 1) := by decide +kernel
theorem dX0_keptCount_1 : decode cX0_keptCount 1 = .ok (.getfield 12, 3) := by decide +kernel
theorem dX0_keptCount_4 : decode cX0_keptCount 4 = .ok (.getfield 48, 3) := by decide +kernel
theorem dX0_keptCount_7 : decode cX0_keptCount 7 = .ok (.aload_n 0, 1) := by decide +kernel
theorem dX0_keptCount_8 : decode cX0_keptCount 8 = .ok (.getfield 18, 3) := by decide +kernel
theorem dX0_keptCount_11 : decode cX0_keptCount 11 = .ok (.getfield 48, 3) := by decide +kernel
theorem dX0_keptCount_14 : decode cX0_keptCount 14 = .ok (.iadd, 1) := by decide +kernel
theorem dX0_keptCount_15 : decode cX0_keptCount 15 = .ok (.ireturn, 1) := by decide +kernel
theorem dX0_nextVictim_0 : decode cX0_nextVictim 0 = .ok (.aload_n 0, 1) := by decide +kernel
theorem dX0_nextVictim_1 : decode cX0_nextVictim 1 = .ok (.getfield 12, 3) := by decide +kernel
theorem dX0_nextVictim_4 : decode cX0_nextVictim 4 = .ok (.getfield 48, 3) := by decide +kernel
theorem dX0_nextVictim_7 : decode cX0_nextVictim 7 = .ok (.aload_n 0, 1) := by decide +kernel
theorem dX0_nextVictim_8 : decode cX0_nextVictim 8 = .ok (.getfield 45, 3) := by decide +kernel
theorem dX0_nextVictim_11 : decode cX0_nextVictim 11 = .ok (.if_icmp .lt 11, 3) := by decide +kernel
theorem dX0_nextVictim_14 : decode cX0_nextVictim 14 = .ok (.aload_n 0, 1) := by decide +kernel
theorem dX0_nextVictim_15 : decode cX0_nextVictim 15 = .ok (.getfield 12, 3) := by decide +kernel
theorem dX0_nextVictim_18 : decode cX0_nextVictim 18 = .ok (.invokevirtual 70, 3) := by decide +kernel
theorem dX0_nextVictim_21 : decode cX0_nextVictim 21 = .ok (.ireturn, 1) := by decide +kernel
theorem dX0_nextVictim_22 : decode cX0_nextVictim 22 = .ok (.aload_n 0, 1) := by decide +kernel
theorem dX0_nextVictim_23 : decode cX0_nextVictim 23 = .ok (.invokevirtual 74, 3) := by decide +kernel
theorem dX0_nextVictim_26 : decode cX0_nextVictim 26 = .ok (.aload_n 0, 1) := by decide +kernel
theorem dX0_nextVictim_27 : decode cX0_nextVictim 27 = .ok (.getfield 45, 3) := by decide +kernel
theorem dX0_nextVictim_30 : decode cX0_nextVictim 30 = .ok (.if_icmp .ge 5, 3) := by decide +kernel
theorem dX0_nextVictim_33 : decode cX0_nextVictim 33 = .ok (.iconst (-1), 1) := by decide +kernel
theorem dX0_nextVictim_34 : decode cX0_nextVictim 34 = .ok (.ireturn, 1) := by decide +kernel
theorem dX0_nextVictim_35 : decode cX0_nextVictim 35 = .ok (.aload_n 0, 1) := by decide +kernel
theorem dX0_nextVictim_36 : decode cX0_nextVictim 36 = .ok (.iconst 0, 1) := by decide +kernel
theorem dX0_nextVictim_37 : decode cX0_nextVictim 37 = .ok (.invokevirtual 77, 3) := by decide +kernel
theorem dX0_nextVictim_40 : decode cX0_nextVictim 40 = .ok (.ifCond .eq 13, 3) := by decide +kernel
theorem dX0_nextVictim_43 : decode cX0_nextVictim 43 = .ok (.aload_n 0, 1) := by decide +kernel
theorem dX0_nextVictim_44 : decode cX0_nextVictim 44 = .ok (.getfield 12, 3) := by decide +kernel
theorem dX0_nextVictim_47 : decode cX0_nextVictim 47 = .ok (.invokevirtual 70, 3) := by decide +kernel
theorem dX0_nextVictim_50 : decode cX0_nextVictim 50 = .ok (.goto 10, 3) := by decide +kernel
theorem dX0_nextVictim_53 : decode cX0_nextVictim 53 = .ok (.aload_n 0, 1) := by decide +kernel
theorem dX0_nextVictim_54 : decode cX0_nextVictim 54 = .ok (.getfield 18, 3) := by decide +kernel
theorem dX0_nextVictim_57 : decode cX0_nextVictim 57 = .ok (.invokevirtual 70, 3) := by decide +kernel
theorem dX0_nextVictim_60 : decode cX0_nextVictim 60 = .ok (.ireturn, 1) := by decide +kernel
theorem dX0_numberOfListWith_0 : decode cX0_numberOfListWith 0 = .ok (.aload_n 0, 1) := by decide +kernel
theorem dX0_numberOfListWith_1 : decode cX0_numberOfListWith 1 = .ok (.getfield 12, 3) := by decide +kernel
theorem dX0_numberOfListWith_4 : decode cX0_numberOfListWith 4 = .ok (.iload_n 1, 1) := by decide +kernel
theorem dX0_numberOfListWith_5 : decode cX0_numberOfListWith 5 = .ok (.invokevirtual 41, 3) := by decide +kernel
theorem dX0_numberOfListWith_8 : decode cX0_numberOfListWith 8 = .ok (.ifCond .eq 5, 3) := by decide +kernel
theorem dX0_numberOfListWith_11 : decode cX0_numberOfListWith 11 = .ok (.iconst 1, 1) := by decide +kernel
theorem dX0_numberOfListWith_12 : decode cX0_numberOfListWith 12 = .ok (.ireturn, 1) := by decide +kernel
theorem dX0_numberOfListWith_13 : decode cX0_numberOfListWith 13 = .ok (.aload_n 0, 1) := by decide +kernel
theorem dX0_numberOfListWith_14 : decode cX0_numberOfListWith 14 = .ok (.getfield 18, 3) := by decide +kernel
theorem dX0_numberOfListWith_17 : decode cX0_numberOfListWith 17 = .ok (.iload_n 1, 1) := by decide +kernel
theorem dX0_numberOfListWith_18 : decode cX0_numberOfListWith 18 = .ok (.invokevirtual 41, 3) := by decide +kernel
theorem dX0_numberOfListWith_21 : decode cX0_numberOfListWith 21 = .ok (.ifCond .eq 5, 3) := by decide +kernel
theorem dX0_numberOfListWith_24 : decode cX0_numberOfListWith 24 = .ok (.iconst 2, 1) := by decide +kernel
theorem dX0_numberOfListWith_25 : decode cX0_numberOfListWith 25 = .ok (.ireturn, 1) := by decide +kernel
theorem dX0_numberOfListWith_26 : decode cX0_numberOfListWith 26 = .ok (.aload_n 0, 1) := by decide +kernel
theorem dX0_numberOfListWith_27 : decode cX0_numberOfListWith 27 = .ok (.getfield 21, 3) := by decide +kernel
theorem dX0_numberOfListWith_30 : decode cX0_numberOfListWith 30 = .ok (.iload_n 1, 1) := by decide +kernel
theorem dX0_numberOfListWith_31 : decode cX0_numberOfListWith 31 = .ok (.invokevirtual 41, 3) := by decide +kernel
theorem dX0_numberOfListWith_34 : decode cX0_numberOfListWith 34 = .ok (.ifCond .eq 5, 3) := by decide +kernel
theorem dX0_numberOfListWith_37 : decode cX0_numberOfListWith 37 = .ok (.iconst 3, 1) := by decide +kernel
theorem dX0_numberOfListWith_38 : decode cX0_numberOfListWith 38 = .ok (.ireturn, 1) := by decide +kernel
theorem dX0_numberOfListWith_39 : decode cX0_numberOfListWith 39 = .ok (.aload_n 0, 1) := by decide +kernel
theorem dX0_numberOfListWith_40 : decode cX0_numberOfListWith 40 = .ok (.getfield 24, 3) := by decide +kernel
theorem dX0_numberOfListWith_43 : decode cX0_numberOfListWith 43 = .ok (.iload_n 1, 1) := by decide +kernel
theorem dX0_numberOfListWith_44 : decode cX0_numberOfListWith 44 = .ok (.invokevirtual 41, 3) := by decide +kernel
theorem dX0_numberOfListWith_47 : decode cX0_numberOfListWith 47 = .ok (.ifCond .eq 7, 3) := by decide +kernel
theorem dX0_numberOfListWith_50 : decode cX0_numberOfListWith 50 = .ok (.iconst 4, 1) := by decide +kernel
theorem dX0_numberOfListWith_51 : decode cX0_numberOfListWith 51 = .ok (.goto 4, 3) := by decide +kernel
theorem dX0_numberOfListWith_54 : decode cX0_numberOfListWith 54 = .ok (.iconst 0, 1) := by decide +kernel
theorem dX0_numberOfListWith_55 : decode cX0_numberOfListWith 55 = .ok (.ireturn, 1) := by decide +kernel
theorem dX8_forgetAll_0 : decode cX8_forgetAll 0 = .ok (.aload_n 0, 1) := by decide +kernel
theorem dX8_forgetAll_1 : decode cX8_forgetAll 1 = .ok (.getfield 34, 3) := by decide +kernel
theorem dX8_forgetAll_4 : decode cX8_forgetAll 4 = .ok (.invokevirtual 38, 3) := by decide +kernel
theorem dX8_forgetAll_7 : decode cX8_forgetAll 7 = .ok (.iconst 0, 1) := by decide +kernel
theorem dX8_forgetAll_8 : decode cX8_forgetAll 8 = .ok (.istore_n 1, 1) := by decide +kernel
theorem dX8_forgetAll_9 : decode cX8_forgetAll 9 = .ok (.iload_n 1, 1) := by decide +kernel
theorem dX8_forgetAll_10 : decode cX8_forgetAll 10 = .ok (.bipush 64, 2) := by decide +kernel
theorem dX8_forgetAll_12 : decode cX8_forgetAll 12 = .ok (.if_icmp .ge 16, 3) := by decide +kernel
theorem dX8_forgetAll_15 : decode cX8_forgetAll 15 = .ok (.aload_n 0, 1) := by decide +kernel
theorem dX8_forgetAll_16 : decode cX8_forgetAll 16 = .ok (.getfield 9, 3) := by decide +kernel
theorem dX8_forgetAll_19 : decode cX8_forgetAll 19 = .ok (.iload_n 1, 1) := by decide +kernel
theorem dX8_forgetAll_20 : decode cX8_forgetAll 20 = .ok (.iconst 0, 1) := by decide +kernel
theorem dX8_forgetAll_21 : decode cX8_forgetAll 21 = .ok (.bastore, 1) := by decide +kernel
theorem dX8_forgetAll_22 : decode cX8_forgetAll 22 = .ok (.iinc 1 1, 3) := by decide +kernel
theorem dX8_forgetAll_25 : decode cX8_forgetAll 25 = .ok (.goto (-16), 3) := by decide +kernel
theorem dX8_forgetAll_28 : decode cX8_forgetAll 28 = .ok (.aload_n 0, 1) := by decide +kernel
theorem dX8_forgetAll_29 : decode cX8_forgetAll 29 = .ok (.iconst 0, 1) := by decide +kernel
theorem dX8_forgetAll_30 : decode cX8_forgetAll 30 = .ok (.putfield 15, 3) := by decide +kernel
theorem dX8_forgetAll_33 : decode cX8_forgetAll 33 = .ok (.aload_n 0, 1) := by decide +kernel
theorem dX8_forgetAll_34 : decode cX8_forgetAll 34 = .ok (.iconst 0, 1) := by decide +kernel
theorem dX8_forgetAll_35 : decode cX8_forgetAll 35 = .ok (.putfield 19, 3) := by decide +kernel
theorem dX8_forgetAll_38 : decode cX8_forgetAll 38 = .ok (.aload_n 0, 1) := by decide +kernel
theorem dX8_forgetAll_39 : decode cX8_forgetAll 39 = .ok (.iconst 0, 1) := by decide +kernel
theorem dX8_forgetAll_40 : decode cX8_forgetAll 40 = .ok (.putfield 22, 3) := by decide +kernel
theorem dX8_forgetAll_43 : decode cX8_forgetAll 43 = .ok (.return_, 1) := by decide +kernel
theorem dX8_touchKept_0 : decode cX8_touchKept 0 = .ok (.aload_n 0, 1) := by decide +kernel
theorem dX8_touchKept_1 : decode cX8_touchKept 1 = .ok (.getfield 9, 3) := by decide +kernel
theorem dX8_touchKept_4 : decode cX8_touchKept 4 = .ok (.iload_n 1, 1) := by decide +kernel
theorem dX8_touchKept_5 : decode cX8_touchKept 5 = .ok (.baload, 1) := by decide +kernel
theorem dX8_touchKept_6 : decode cX8_touchKept 6 = .ok (.ifCond .eq 20, 3) := by decide +kernel
theorem dX8_touchKept_9 : decode cX8_touchKept 9 = .ok (.aload_n 0, 1) := by decide +kernel
theorem dX8_touchKept_10 : decode cX8_touchKept 10 = .ok (.getfield 9, 3) := by decide +kernel
theorem dX8_touchKept_13 : decode cX8_touchKept 13 = .ok (.iload_n 1, 1) := by decide +kernel
theorem dX8_touchKept_14 : decode cX8_touchKept 14 = .ok (.iconst 0, 1) := by decide +kernel
theorem dX8_touchKept_15 : decode cX8_touchKept 15 = .ok (.bastore, 1) := by decide +kernel
theorem dX8_touchKept_16 : decode cX8_touchKept 16 = .ok (.aload_n 0, 1) := by decide +kernel
theorem dX8_touchKept_17 : decode cX8_touchKept 17 = .ok (.dup, 1) := by decide +kernel
theorem dX8_touchKept_18 : decode cX8_touchKept 18 = .ok (.getfield 19, 3) := by decide +kernel
theorem dX8_touchKept_21 : decode cX8_touchKept 21 = .ok (.iconst 1, 1) := by decide +kernel
theorem dX8_touchKept_22 : decode cX8_touchKept 22 = .ok (.iadd, 1) := by decide +kernel
theorem dX8_touchKept_23 : decode cX8_touchKept 23 = .ok (.putfield 19, 3) := by decide +kernel
theorem dX8_touchKept_26 : decode cX8_touchKept 26 = .ok (.aload_n 0, 1) := by decide +kernel
theorem dX8_touchKept_27 : decode cX8_touchKept 27 = .ok (.iload_n 1, 1) := by decide +kernel
theorem dX8_touchKept_28 : decode cX8_touchKept 28 = .ok (.invokevirtual 43, 3) := by decide +kernel
theorem dX8_touchKept_31 : decode cX8_touchKept 31 = .ok (.return_, 1) := by decide +kernel
theorem dX8_bringIn_0 : decode cX8_bringIn 0 = .ok (.aload_n 0, 1) := by decide +kernel
theorem dX8_bringIn_1 : decode cX8_bringIn 1 = .ok (.iload_n 1, 1) := by decide +kernel
theorem dX8_bringIn_2 : decode cX8_bringIn 2 = .ok (.invokevirtual 47, 3) := by decide +kernel
theorem dX8_bringIn_5 : decode cX8_bringIn 5 = .ok (.istore_n 2, 1) := by decide +kernel
theorem dX8_bringIn_6 : decode cX8_bringIn 6 = .ok (.iload_n 2, 1) := by decide +kernel
theorem dX8_bringIn_7 : decode cX8_bringIn 7 = .ok (.invokestatic 51, 3) := by decide +kernel
theorem dX8_bringIn_10 : decode cX8_bringIn 10 = .ok (.ifCond .eq 10, 3) := by decide +kernel
theorem dX8_bringIn_13 : decode cX8_bringIn 13 = .ok (.aload_n 0, 1) := by decide +kernel
theorem dX8_bringIn_14 : decode cX8_bringIn 14 = .ok (.getfield 9, 3) := by decide +kernel
theorem dX8_bringIn_17 : decode cX8_bringIn 17 = .ok (.iload_n 2, 1) := by decide +kernel
theorem dX8_bringIn_18 : decode cX8_bringIn 18 = .ok (.iconst 0, 1) := by decide +kernel
theorem dX8_bringIn_19 : decode cX8_bringIn 19 = .ok (.bastore, 1) := by decide +kernel
theorem dX8_bringIn_20 : decode cX8_bringIn 20 = .ok (.return_, 1) := by decide +kernel
theorem dX8_pageAhead_0 : decode cX8_pageAhead 0 = .ok (.aload_n 0, 1) := by decide +kernel
theorem dX8_pageAhead_1 : decode cX8_pageAhead 1 = .ok (.getfield 25, 3) := by decide +kernel
theorem dX8_pageAhead_4 : decode cX8_pageAhead 4 = .ok (.aload_n 0, 1) := by decide +kernel
theorem dX8_pageAhead_5 : decode cX8_pageAhead 5 = .ok (.getfield 28, 3) := by decide +kernel
theorem dX8_pageAhead_8 : decode cX8_pageAhead 8 = .ok (.isub, 1) := by decide +kernel
theorem dX8_pageAhead_9 : decode cX8_pageAhead 9 = .ok (.istore_n 1, 1) := by decide +kernel
theorem dX8_pageAhead_10 : decode cX8_pageAhead 10 = .ok (.aload_n 0, 1) := by decide +kernel
theorem dX8_pageAhead_11 : decode cX8_pageAhead 11 = .ok (.getfield 22, 3) := by decide +kernel
theorem dX8_pageAhead_14 : decode cX8_pageAhead 14 = .ok (.iconst 3, 1) := by decide +kernel
theorem dX8_pageAhead_15 : decode cX8_pageAhead 15 = .ok (.if_icmp .lt 20, 3) := by decide +kernel
theorem dX8_pageAhead_18 : decode cX8_pageAhead 18 = .ok (.iload_n 1, 1) := by decide +kernel
theorem dX8_pageAhead_19 : decode cX8_pageAhead 19 = .ok (.aload_n 0, 1) := by decide +kernel
theorem dX8_pageAhead_20 : decode cX8_pageAhead 20 = .ok (.getfield 28, 3) := by decide +kernel
theorem dX8_pageAhead_23 : decode cX8_pageAhead 23 = .ok (.aload_n 0, 1) := by decide +kernel
theorem dX8_pageAhead_24 : decode cX8_pageAhead 24 = .ok (.getfield 31, 3) := by decide +kernel
theorem dX8_pageAhead_27 : decode cX8_pageAhead 27 = .ok (.isub, 1) := by decide +kernel
theorem dX8_pageAhead_28 : decode cX8_pageAhead 28 = .ok (.if_icmp .ne 7, 3) := by decide +kernel
theorem dX8_pageAhead_31 : decode cX8_pageAhead 31 = .ok (.iconst 1, 1) := by decide +kernel
theorem dX8_pageAhead_32 : decode cX8_pageAhead 32 = .ok (.goto 4, 3) := by decide +kernel
theorem dX8_pageAhead_35 : decode cX8_pageAhead 35 = .ok (.iconst 0, 1) := by decide +kernel
theorem dX8_pageAhead_36 : decode cX8_pageAhead 36 = .ok (.istore_n 2, 1) := by decide +kernel
theorem dX8_pageAhead_37 : decode cX8_pageAhead 37 = .ok (.iload_n 2, 1) := by decide +kernel
theorem dX8_pageAhead_38 : decode cX8_pageAhead 38 = .ok (.ifCond .eq 16, 3) := by decide +kernel
theorem dX8_pageAhead_41 : decode cX8_pageAhead 41 = .ok (.iload_n 1, 1) := by decide +kernel
theorem dX8_pageAhead_42 : decode cX8_pageAhead 42 = .ok (.ifCond .eq 12, 3) := by decide +kernel
theorem dX8_pageAhead_45 : decode cX8_pageAhead 45 = .ok (.aload_n 0, 1) := by decide +kernel
theorem dX8_pageAhead_46 : decode cX8_pageAhead 46 = .ok (.getfield 25, 3) := by decide +kernel
theorem dX8_pageAhead_49 : decode cX8_pageAhead 49 = .ok (.iload_n 1, 1) := by decide +kernel
theorem dX8_pageAhead_50 : decode cX8_pageAhead 50 = .ok (.iadd, 1) := by decide +kernel
theorem dX8_pageAhead_51 : decode cX8_pageAhead 51 = .ok (.goto 4, 3) := by decide +kernel
theorem dX8_pageAhead_54 : decode cX8_pageAhead 54 = .ok (.iconst (-1), 1) := by decide +kernel
theorem dX8_pageAhead_55 : decode cX8_pageAhead 55 = .ok (.ireturn, 1) := by decide +kernel
theorem dX8_afterTouch_0 : decode cX8_afterTouch 0 = .ok (.aload_n 0, 1) := by decide +kernel
theorem dX8_afterTouch_1 : decode cX8_afterTouch 1 = .ok (.aload_n 0, 1) := by decide +kernel
theorem dX8_afterTouch_2 : decode cX8_afterTouch 2 = .ok (.getfield 28, 3) := by decide +kernel
theorem dX8_afterTouch_5 : decode cX8_afterTouch 5 = .ok (.putfield 31, 3) := by decide +kernel
theorem dX8_afterTouch_8 : decode cX8_afterTouch 8 = .ok (.aload_n 0, 1) := by decide +kernel
theorem dX8_afterTouch_9 : decode cX8_afterTouch 9 = .ok (.aload_n 0, 1) := by decide +kernel
theorem dX8_afterTouch_10 : decode cX8_afterTouch 10 = .ok (.getfield 25, 3) := by decide +kernel
theorem dX8_afterTouch_13 : decode cX8_afterTouch 13 = .ok (.putfield 28, 3) := by decide +kernel
theorem dX8_afterTouch_16 : decode cX8_afterTouch 16 = .ok (.aload_n 0, 1) := by decide +kernel
theorem dX8_afterTouch_17 : decode cX8_afterTouch 17 = .ok (.iload_n 1, 1) := by decide +kernel
theorem dX8_afterTouch_18 : decode cX8_afterTouch 18 = .ok (.putfield 25, 3) := by decide +kernel
theorem dX8_afterTouch_21 : decode cX8_afterTouch 21 = .ok (.aload_n 0, 1) := by decide +kernel
theorem dX8_afterTouch_22 : decode cX8_afterTouch 22 = .ok (.dup, 1) := by decide +kernel
theorem dX8_afterTouch_23 : decode cX8_afterTouch 23 = .ok (.getfield 22, 3) := by decide +kernel
theorem dX8_afterTouch_26 : decode cX8_afterTouch 26 = .ok (.iconst 1, 1) := by decide +kernel
theorem dX8_afterTouch_27 : decode cX8_afterTouch 27 = .ok (.iadd, 1) := by decide +kernel
theorem dX8_afterTouch_28 : decode cX8_afterTouch 28 = .ok (.putfield 22, 3) := by decide +kernel
theorem dX8_afterTouch_31 : decode cX8_afterTouch 31 = .ok (.aload_n 0, 1) := by decide +kernel
theorem dX8_afterTouch_32 : decode cX8_afterTouch 32 = .ok (.invokevirtual 55, 3) := by decide +kernel
theorem dX8_afterTouch_35 : decode cX8_afterTouch 35 = .ok (.istore_n 2, 1) := by decide +kernel
theorem dX8_afterTouch_36 : decode cX8_afterTouch 36 = .ok (.iload_n 2, 1) := by decide +kernel
theorem dX8_afterTouch_37 : decode cX8_afterTouch 37 = .ok (.invokestatic 51, 3) := by decide +kernel
theorem dX8_afterTouch_40 : decode cX8_afterTouch 40 = .ok (.ifCond .eq 41, 3) := by decide +kernel
theorem dX8_afterTouch_43 : decode cX8_afterTouch 43 = .ok (.aload_n 0, 1) := by decide +kernel
theorem dX8_afterTouch_44 : decode cX8_afterTouch 44 = .ok (.iload_n 2, 1) := by decide +kernel
theorem dX8_afterTouch_45 : decode cX8_afterTouch 45 = .ok (.invokevirtual 59, 3) := by decide +kernel
theorem dX8_afterTouch_48 : decode cX8_afterTouch 48 = .ok (.ifCond .ne 33, 3) := by decide +kernel
theorem dX8_afterTouch_51 : decode cX8_afterTouch 51 = .ok (.aload_n 0, 1) := by decide +kernel
theorem dX8_afterTouch_52 : decode cX8_afterTouch 52 = .ok (.getfield 62, 3) := by decide +kernel
theorem dX8_afterTouch_55 : decode cX8_afterTouch 55 = .ok (.iconst 2, 1) := by decide +kernel
theorem dX8_afterTouch_56 : decode cX8_afterTouch 56 = .ok (.if_icmp .lt 25, 3) := by decide +kernel
theorem dX8_afterTouch_59 : decode cX8_afterTouch 59 = .ok (.aload_n 0, 1) := by decide +kernel
theorem dX8_afterTouch_60 : decode cX8_afterTouch 60 = .ok (.iload_n 2, 1) := by decide +kernel
theorem dX8_afterTouch_61 : decode cX8_afterTouch 61 = .ok (.invokevirtual 65, 3) := by decide +kernel
theorem dX8_afterTouch_64 : decode cX8_afterTouch 64 = .ok (.aload_n 0, 1) := by decide +kernel
theorem dX8_afterTouch_65 : decode cX8_afterTouch 65 = .ok (.getfield 9, 3) := by decide +kernel
theorem dX8_afterTouch_68 : decode cX8_afterTouch 68 = .ok (.iload_n 2, 1) := by decide +kernel
theorem dX8_afterTouch_69 : decode cX8_afterTouch 69 = .ok (.iconst 1, 1) := by decide +kernel
theorem dX8_afterTouch_70 : decode cX8_afterTouch 70 = .ok (.bastore, 1) := by decide +kernel
theorem dX8_afterTouch_71 : decode cX8_afterTouch 71 = .ok (.aload_n 0, 1) := by decide +kernel
theorem dX8_afterTouch_72 : decode cX8_afterTouch 72 = .ok (.dup, 1) := by decide +kernel
theorem dX8_afterTouch_73 : decode cX8_afterTouch 73 = .ok (.getfield 15, 3) := by decide +kernel
theorem dX8_afterTouch_76 : decode cX8_afterTouch 76 = .ok (.iconst 1, 1) := by decide +kernel
theorem dX8_afterTouch_77 : decode cX8_afterTouch 77 = .ok (.iadd, 1) := by decide +kernel
theorem dX8_afterTouch_78 : decode cX8_afterTouch 78 = .ok (.putfield 15, 3) := by decide +kernel
theorem dX8_afterTouch_81 : decode cX8_afterTouch 81 = .ok (.return_, 1) := by decide +kernel
theorem dX9_checkFrames_0 : decode cX9_checkFrames 0 = .ok (.iload_n 0, 1) := by decide +kernel
theorem dX9_checkFrames_1 : decode cX9_checkFrames 1 = .ok (.iconst 1, 1) := by decide +kernel
theorem dX9_checkFrames_2 : decode cX9_checkFrames 2 = .ok (.if_icmp .lt 9, 3) := by decide +kernel
theorem dX9_checkFrames_5 : decode cX9_checkFrames 5 = .ok (.iload_n 0, 1) := by decide +kernel
theorem dX9_checkFrames_6 : decode cX9_checkFrames 6 = .ok (.bipush 16, 2) := by decide +kernel
theorem dX9_checkFrames_8 : decode cX9_checkFrames 8 = .ok (.if_icmp .le 13, 3) := by decide +kernel
theorem dX9_checkFrames_11 : decode cX9_checkFrames 11 = .ok (.new 59, 3) := by decide +kernel
theorem dX9_checkFrames_14 : decode cX9_checkFrames 14 = .ok (.dup, 1) := by decide +kernel
theorem dX9_checkFrames_15 : decode cX9_checkFrames 15 = .ok (.ldc 206, 2) := by decide +kernel
theorem dX9_checkFrames_17 : decode cX9_checkFrames 17 = .ok (.invokespecial 63, 3) := by decide +kernel
theorem dX9_checkFrames_20 : decode cX9_checkFrames 20 = .ok (.athrow, 1) := by decide +kernel
theorem dX9_checkFrames_21 : decode cX9_checkFrames 21 = .ok (.return_, 1) := by decide +kernel
theorem dX9_restart_0 : decode cX9_restart 0 = .ok (.aload_n 0, 1) := by decide +kernel
theorem dX9_restart_1 : decode cX9_restart 1 = .ok (.iload_n 1, 1) := by decide +kernel
theorem dX9_restart_2 : decode cX9_restart 2 = .ok (.putfield 165, 3) := by decide +kernel
theorem dX9_restart_5 : decode cX9_restart 5 = .ok (.aload_n 0, 1) := by decide +kernel
theorem dX9_restart_6 : decode cX9_restart 6 = .ok (.getfield 10, 3) := by decide +kernel
theorem dX9_restart_9 : decode cX9_restart 9 = .ok (.iload_n 1, 1) := by decide +kernel
theorem dX9_restart_10 : decode cX9_restart 10 = .ok (.invokevirtual 168, 3) := by decide +kernel
theorem dX9_restart_13 : decode cX9_restart 13 = .ok (.aload_n 0, 1) := by decide +kernel
theorem dX9_restart_14 : decode cX9_restart 14 = .ok (.getfield 19, 3) := by decide +kernel
theorem dX9_restart_17 : decode cX9_restart 17 = .ok (.iload_n 1, 1) := by decide +kernel
theorem dX9_restart_18 : decode cX9_restart 18 = .ok (.invokevirtual 171, 3) := by decide +kernel
theorem dX9_restart_21 : decode cX9_restart 21 = .ok (.aload_n 0, 1) := by decide +kernel
theorem dX9_restart_22 : decode cX9_restart 22 = .ok (.getfield 26, 3) := by decide +kernel
theorem dX9_restart_25 : decode cX9_restart 25 = .ok (.iload_n 1, 1) := by decide +kernel
theorem dX9_restart_26 : decode cX9_restart 26 = .ok (.invokevirtual 172, 3) := by decide +kernel
theorem dX9_restart_29 : decode cX9_restart 29 = .ok (.aload_n 0, 1) := by decide +kernel
theorem dX9_restart_30 : decode cX9_restart 30 = .ok (.getfield 33, 3) := by decide +kernel
theorem dX9_restart_33 : decode cX9_restart 33 = .ok (.iload_n 1, 1) := by decide +kernel
theorem dX9_restart_34 : decode cX9_restart 34 = .ok (.invokevirtual 173, 3) := by decide +kernel
theorem dX9_restart_37 : decode cX9_restart 37 = .ok (.aload_n 0, 1) := by decide +kernel
theorem dX9_restart_38 : decode cX9_restart 38 = .ok (.getfield 40, 3) := by decide +kernel
theorem dX9_restart_41 : decode cX9_restart 41 = .ok (.iload_n 2, 1) := by decide +kernel
theorem dX9_restart_42 : decode cX9_restart 42 = .ok (.invokevirtual 174, 3) := by decide +kernel
theorem dX9_restart_45 : decode cX9_restart 45 = .ok (.return_, 1) := by decide +kernel
theorem dX9_begin_0 : decode cX9_begin 0 = .ok (.iload_n 1, 1) := by decide +kernel
theorem dX9_begin_1 : decode cX9_begin 1 = .ok (.invokestatic 55, 3) := by decide +kernel
theorem dX9_begin_4 : decode cX9_begin 4 = .ok (.iload_n 2, 1) := by decide +kernel
theorem dX9_begin_5 : decode cX9_begin 5 = .ok (.iconst 1, 1) := by decide +kernel
theorem dX9_begin_6 : decode cX9_begin 6 = .ok (.if_icmp .lt 9, 3) := by decide +kernel
theorem dX9_begin_9 : decode cX9_begin 9 = .ok (.iload_n 2, 1) := by decide +kernel
theorem dX9_begin_10 : decode cX9_begin 10 = .ok (.bipush 100, 2) := by decide +kernel
theorem dX9_begin_12 : decode cX9_begin 12 = .ok (.if_icmp .le 13, 3) := by decide +kernel
theorem dX9_begin_15 : decode cX9_begin 15 = .ok (.new 59, 3) := by decide +kernel
theorem dX9_begin_18 : decode cX9_begin 18 = .ok (.dup, 1) := by decide +kernel
theorem dX9_begin_19 : decode cX9_begin 19 = .ok (.ldc 61, 2) := by decide +kernel
theorem dX9_begin_21 : decode cX9_begin 21 = .ok (.invokespecial 63, 3) := by decide +kernel
theorem dX9_begin_24 : decode cX9_begin 24 = .ok (.athrow, 1) := by decide +kernel
theorem dX9_begin_25 : decode cX9_begin 25 = .ok (.aload_n 0, 1) := by decide +kernel
theorem dX9_begin_26 : decode cX9_begin 26 = .ok (.iload_n 1, 1) := by decide +kernel
theorem dX9_begin_27 : decode cX9_begin 27 = .ok (.iload_n 2, 1) := by decide +kernel
theorem dX9_begin_28 : decode cX9_begin 28 = .ok (.invokevirtual 51, 3) := by decide +kernel
theorem dX9_begin_31 : decode cX9_begin 31 = .ok (.return_, 1) := by decide +kernel
theorem dX9_checkPage_0 : decode cX9_checkPage 0 = .ok (.iload_n 0, 1) := by decide +kernel
theorem dX9_checkPage_1 : decode cX9_checkPage 1 = .ok (.invokestatic 201, 3) := by decide +kernel
theorem dX9_checkPage_4 : decode cX9_checkPage 4 = .ok (.ifCond .ne 13, 3) := by decide +kernel
theorem dX9_checkPage_7 : decode cX9_checkPage 7 = .ok (.new 59, 3) := by decide +kernel
theorem dX9_checkPage_10 : decode cX9_checkPage 10 = .ok (.dup, 1) := by decide +kernel
theorem dX9_checkPage_11 : decode cX9_checkPage 11 = .ok (.ldc 204, 2) := by decide +kernel
theorem dX9_checkPage_13 : decode cX9_checkPage 13 = .ok (.invokespecial 63, 3) := by decide +kernel
theorem dX9_checkPage_16 : decode cX9_checkPage 16 = .ok (.athrow, 1) := by decide +kernel
theorem dX9_checkPage_17 : decode cX9_checkPage 17 = .ok (.return_, 1) := by decide +kernel
theorem dX9_checkRoomFor_0 : decode cX9_checkRoomFor 0 = .ok (.aload_n 0, 1) := by decide +kernel
theorem dX9_checkRoomFor_1 : decode cX9_checkRoomFor 1 = .ok (.getfield 40, 3) := by decide +kernel
theorem dX9_checkRoomFor_4 : decode cX9_checkRoomFor 4 = .ok (.getfield 82, 3) := by decide +kernel
theorem dX9_checkRoomFor_7 : decode cX9_checkRoomFor 7 = .ok (.iload_n 1, 1) := by decide +kernel
theorem dX9_checkRoomFor_8 : decode cX9_checkRoomFor 8 = .ok (.iadd, 1) := by decide +kernel
theorem dX9_checkRoomFor_9 : decode cX9_checkRoomFor 9 = .ok (.sipush 400, 3) := by decide +kernel
theorem dX9_checkRoomFor_12 : decode cX9_checkRoomFor 12 = .ok (.if_icmp .le 13, 3) := by decide +kernel
theorem dX9_checkRoomFor_15 : decode cX9_checkRoomFor 15 = .ok (.new 208, 3) := by decide +kernel
theorem dX9_checkRoomFor_18 : decode cX9_checkRoomFor 18 = .ok (.dup, 1) := by decide +kernel
theorem dX9_checkRoomFor_19 : decode cX9_checkRoomFor 19 = .ok (.ldc 210, 2) := by decide +kernel
theorem dX9_checkRoomFor_21 : decode cX9_checkRoomFor 21 = .ok (.invokespecial 212, 3) := by decide +kernel
theorem dX9_checkRoomFor_24 : decode cX9_checkRoomFor 24 = .ok (.athrow, 1) := by decide +kernel
theorem dX9_checkRoomFor_25 : decode cX9_checkRoomFor 25 = .ok (.return_, 1) := by decide +kernel
theorem dX9_showToAll_0 : decode cX9_showToAll 0 = .ok (.aload_n 0, 1) := by decide +kernel
theorem dX9_showToAll_1 : decode cX9_showToAll 1 = .ok (.getfield 40, 3) := by decide +kernel
theorem dX9_showToAll_4 : decode cX9_showToAll 4 = .ok (.iload_n 1, 1) := by decide +kernel
theorem dX9_showToAll_5 : decode cX9_showToAll 5 = .ok (.invokevirtual 175, 3) := by decide +kernel
theorem dX9_showToAll_8 : decode cX9_showToAll 8 = .ok (.aload_n 0, 1) := by decide +kernel
theorem dX9_showToAll_9 : decode cX9_showToAll 9 = .ok (.getfield 10, 3) := by decide +kernel
theorem dX9_showToAll_12 : decode cX9_showToAll 12 = .ok (.iload_n 1, 1) := by decide +kernel
theorem dX9_showToAll_13 : decode cX9_showToAll 13 = .ok (.invokevirtual 178, 3) := by decide +kernel
theorem dX9_showToAll_16 : decode cX9_showToAll 16 = .ok (.ifCond .eq 7, 3) := by decide +kernel
theorem dX9_showToAll_19 : decode cX9_showToAll 19 = .ok (.iconst 1, 1) := by decide +kernel
theorem dX9_showToAll_20 : decode cX9_showToAll 20 = .ok (.goto 4, 3) := by decide +kernel
theorem dX9_showToAll_23 : decode cX9_showToAll 23 = .ok (.iconst 0, 1) := by decide +kernel
theorem dX9_showToAll_24 : decode cX9_showToAll 24 = .ok (.istore_n 2, 1) := by decide +kernel
theorem dX9_showToAll_25 : decode cX9_showToAll 25 = .ok (.iload_n 2, 1) := by decide +kernel
theorem dX9_showToAll_26 : decode cX9_showToAll 26 = .ok (.aload_n 0, 1) := by decide +kernel
theorem dX9_showToAll_27 : decode cX9_showToAll 27 = .ok (.getfield 19, 3) := by decide +kernel
theorem dX9_showToAll_30 : decode cX9_showToAll 30 = .ok (.iload_n 1, 1) := by decide +kernel
theorem dX9_showToAll_31 : decode cX9_showToAll 31 = .ok (.invokevirtual 181, 3) := by decide +kernel
theorem dX9_showToAll_34 : decode cX9_showToAll 34 = .ok (.ifCond .eq 7, 3) := by decide +kernel
theorem dX9_showToAll_37 : decode cX9_showToAll 37 = .ok (.iconst 2, 1) := by decide +kernel
theorem dX9_showToAll_38 : decode cX9_showToAll 38 = .ok (.goto 4, 3) := by decide +kernel
theorem dX9_showToAll_41 : decode cX9_showToAll 41 = .ok (.iconst 0, 1) := by decide +kernel
theorem dX9_showToAll_42 : decode cX9_showToAll 42 = .ok (.iadd, 1) := by decide +kernel
theorem dX9_showToAll_43 : decode cX9_showToAll 43 = .ok (.istore_n 2, 1) := by decide +kernel
theorem dX9_showToAll_44 : decode cX9_showToAll 44 = .ok (.iload_n 2, 1) := by decide +kernel
theorem dX9_showToAll_45 : decode cX9_showToAll 45 = .ok (.aload_n 0, 1) := by decide +kernel
theorem dX9_showToAll_46 : decode cX9_showToAll 46 = .ok (.getfield 26, 3) := by decide +kernel
theorem dX9_showToAll_49 : decode cX9_showToAll 49 = .ok (.iload_n 1, 1) := by decide +kernel
theorem dX9_showToAll_50 : decode cX9_showToAll 50 = .ok (.invokevirtual 182, 3) := by decide +kernel
theorem dX9_showToAll_53 : decode cX9_showToAll 53 = .ok (.ifCond .eq 7, 3) := by decide +kernel
theorem dX9_showToAll_56 : decode cX9_showToAll 56 = .ok (.iconst 4, 1) := by decide +kernel
theorem dX9_showToAll_57 : decode cX9_showToAll 57 = .ok (.goto 4, 3) := by decide +kernel
theorem dX9_showToAll_60 : decode cX9_showToAll 60 = .ok (.iconst 0, 1) := by decide +kernel
theorem dX9_showToAll_61 : decode cX9_showToAll 61 = .ok (.iadd, 1) := by decide +kernel
theorem dX9_showToAll_62 : decode cX9_showToAll 62 = .ok (.istore_n 2, 1) := by decide +kernel
theorem dX9_showToAll_63 : decode cX9_showToAll 63 = .ok (.iload_n 2, 1) := by decide +kernel
theorem dX9_showToAll_64 : decode cX9_showToAll 64 = .ok (.aload_n 0, 1) := by decide +kernel
theorem dX9_showToAll_65 : decode cX9_showToAll 65 = .ok (.getfield 33, 3) := by decide +kernel
theorem dX9_showToAll_68 : decode cX9_showToAll 68 = .ok (.iload_n 1, 1) := by decide +kernel
theorem dX9_showToAll_69 : decode cX9_showToAll 69 = .ok (.invokevirtual 183, 3) := by decide +kernel
theorem dX9_showToAll_72 : decode cX9_showToAll 72 = .ok (.ifCond .eq 8, 3) := by decide +kernel
theorem dX9_showToAll_75 : decode cX9_showToAll 75 = .ok (.bipush 8, 2) := by decide +kernel
theorem dX9_showToAll_77 : decode cX9_showToAll 77 = .ok (.goto 4, 3) := by decide +kernel
theorem dX9_showToAll_80 : decode cX9_showToAll 80 = .ok (.iconst 0, 1) := by decide +kernel
theorem dX9_showToAll_81 : decode cX9_showToAll 81 = .ok (.iadd, 1) := by decide +kernel
theorem dX9_showToAll_82 : decode cX9_showToAll 82 = .ok (.istore_n 2, 1) := by decide +kernel
theorem dX9_showToAll_83 : decode cX9_showToAll 83 = .ok (.iload_n 2, 1) := by decide +kernel
theorem dX9_showToAll_84 : decode cX9_showToAll 84 = .ok (.ireturn, 1) := by decide +kernel
theorem dX9_touch_0 : decode cX9_touch 0 = .ok (.iload_n 1, 1) := by decide +kernel
theorem dX9_touch_1 : decode cX9_touch 1 = .ok (.invokestatic 66, 3) := by decide +kernel
theorem dX9_touch_4 : decode cX9_touch 4 = .ok (.aload_n 0, 1) := by decide +kernel
theorem dX9_touch_5 : decode cX9_touch 5 = .ok (.iconst 1, 1) := by decide +kernel
theorem dX9_touch_6 : decode cX9_touch 6 = .ok (.invokevirtual 69, 3) := by decide +kernel
theorem dX9_touch_9 : decode cX9_touch 9 = .ok (.aload_n 0, 1) := by decide +kernel
theorem dX9_touch_10 : decode cX9_touch 10 = .ok (.iload_n 1, 1) := by decide +kernel
theorem dX9_touch_11 : decode cX9_touch 11 = .ok (.invokevirtual 72, 3) := by decide +kernel
theorem dX9_touch_14 : decode cX9_touch 14 = .ok (.ireturn, 1) := by decide +kernel
theorem dX9_touchRun_0 : decode cX9_touchRun 0 = .ok (.iload_n 2, 1) := by decide +kernel
theorem dX9_touchRun_1 : decode cX9_touchRun 1 = .ok (.bipush (-63), 2) := by decide +kernel
theorem dX9_touchRun_3 : decode cX9_touchRun 3 = .ok (.if_icmp .lt 20, 3) := by decide +kernel
theorem dX9_touchRun_6 : decode cX9_touchRun 6 = .ok (.iload_n 2, 1) := by decide +kernel
theorem dX9_touchRun_7 : decode cX9_touchRun 7 = .ok (.bipush 63, 2) := by decide +kernel
theorem dX9_touchRun_9 : decode cX9_touchRun 9 = .ok (.if_icmp .gt 14, 3) := by decide +kernel
theorem dX9_touchRun_12 : decode cX9_touchRun 12 = .ok (.iload_n 3, 1) := by decide +kernel
theorem dX9_touchRun_13 : decode cX9_touchRun 13 = .ok (.iconst 1, 1) := by decide +kernel
theorem dX9_touchRun_14 : decode cX9_touchRun 14 = .ok (.if_icmp .lt 9, 3) := by decide +kernel
theorem dX9_touchRun_17 : decode cX9_touchRun 17 = .ok (.iload_n 3, 1) := by decide +kernel
theorem dX9_touchRun_18 : decode cX9_touchRun 18 = .ok (.bipush 64, 2) := by decide +kernel
theorem dX9_touchRun_20 : decode cX9_touchRun 20 = .ok (.if_icmp .le 13, 3) := by decide +kernel
theorem dX9_touchRun_23 : decode cX9_touchRun 23 = .ok (.new 59, 3) := by decide +kernel
theorem dX9_touchRun_26 : decode cX9_touchRun 26 = .ok (.dup, 1) := by decide +kernel
theorem dX9_touchRun_27 : decode cX9_touchRun 27 = .ok (.ldc 76, 2) := by decide +kernel
theorem dX9_touchRun_29 : decode cX9_touchRun 29 = .ok (.invokespecial 63, 3) := by decide +kernel
theorem dX9_touchRun_32 : decode cX9_touchRun 32 = .ok (.athrow, 1) := by decide +kernel
theorem dX9_touchRun_33 : decode cX9_touchRun 33 = .ok (.iload_n 1, 1) := by decide +kernel
theorem dX9_touchRun_34 : decode cX9_touchRun 34 = .ok (.invokestatic 66, 3) := by decide +kernel
theorem dX9_touchRun_37 : decode cX9_touchRun 37 = .ok (.iload_n 1, 1) := by decide +kernel
theorem dX9_touchRun_38 : decode cX9_touchRun 38 = .ok (.iload_n 2, 1) := by decide +kernel
theorem dX9_touchRun_39 : decode cX9_touchRun 39 = .ok (.iload_n 3, 1) := by decide +kernel
theorem dX9_touchRun_40 : decode cX9_touchRun 40 = .ok (.iconst 1, 1) := by decide +kernel
theorem dX9_touchRun_41 : decode cX9_touchRun 41 = .ok (.isub, 1) := by decide +kernel
theorem dX9_touchRun_42 : decode cX9_touchRun 42 = .ok (.imul, 1) := by decide +kernel
theorem dX9_touchRun_43 : decode cX9_touchRun 43 = .ok (.iadd, 1) := by decide +kernel
theorem dX9_touchRun_44 : decode cX9_touchRun 44 = .ok (.invokestatic 66, 3) := by decide +kernel
theorem dX9_touchRun_47 : decode cX9_touchRun 47 = .ok (.aload_n 0, 1) := by decide +kernel
theorem dX9_touchRun_48 : decode cX9_touchRun 48 = .ok (.iload_n 3, 1) := by decide +kernel
theorem dX9_touchRun_49 : decode cX9_touchRun 49 = .ok (.invokevirtual 69, 3) := by decide +kernel
theorem dX9_touchRun_52 : decode cX9_touchRun 52 = .ok (.aload_n 0, 1) := by decide +kernel
theorem dX9_touchRun_53 : decode cX9_touchRun 53 = .ok (.getfield 10, 3) := by decide +kernel
theorem dX9_touchRun_56 : decode cX9_touchRun 56 = .ok (.getfield 78, 3) := by decide +kernel
theorem dX9_touchRun_59 : decode cX9_touchRun 59 = .ok (.istore 4, 2) := by decide +kernel
theorem dX9_touchRun_61 : decode cX9_touchRun 61 = .ok (.iconst 0, 1) := by decide +kernel
theorem dX9_touchRun_62 : decode cX9_touchRun 62 = .ok (.istore 5, 2) := by decide +kernel
theorem dX9_touchRun_64 : decode cX9_touchRun 64 = .ok (.iload 5, 2) := by decide +kernel
theorem dX9_touchRun_66 : decode cX9_touchRun 66 = .ok (.iload_n 3, 1) := by decide +kernel
theorem dX9_touchRun_67 : decode cX9_touchRun 67 = .ok (.if_icmp .ge 20, 3) := by decide +kernel
theorem dX9_touchRun_70 : decode cX9_touchRun 70 = .ok (.aload_n 0, 1) := by decide +kernel
theorem dX9_touchRun_71 : decode cX9_touchRun 71 = .ok (.iload_n 1, 1) := by decide +kernel
theorem dX9_touchRun_72 : decode cX9_touchRun 72 = .ok (.iload_n 2, 1) := by decide +kernel
theorem dX9_touchRun_73 : decode cX9_touchRun 73 = .ok (.iload 5, 2) := by decide +kernel
theorem dX9_touchRun_75 : decode cX9_touchRun 75 = .ok (.imul, 1) := by decide +kernel
theorem dX9_touchRun_76 : decode cX9_touchRun 76 = .ok (.iadd, 1) := by decide +kernel
theorem dX9_touchRun_77 : decode cX9_touchRun 77 = .ok (.invokevirtual 72, 3) := by decide +kernel
theorem dX9_touchRun_80 : decode cX9_touchRun 80 = .ok (.pop, 1) := by decide +kernel
theorem dX9_touchRun_81 : decode cX9_touchRun 81 = .ok (.iinc 5 1, 3) := by decide +kernel
theorem dX9_touchRun_84 : decode cX9_touchRun 84 = .ok (.goto (-20), 3) := by decide +kernel
theorem dX9_touchRun_87 : decode cX9_touchRun 87 = .ok (.aload_n 0, 1) := by decide +kernel
theorem dX9_touchRun_88 : decode cX9_touchRun 88 = .ok (.getfield 10, 3) := by decide +kernel
theorem dX9_touchRun_91 : decode cX9_touchRun 91 = .ok (.getfield 78, 3) := by decide +kernel
theorem dX9_touchRun_94 : decode cX9_touchRun 94 = .ok (.iload 4, 2) := by decide +kernel
theorem dX9_touchRun_96 : decode cX9_touchRun 96 = .ok (.isub, 1) := by decide +kernel
theorem dX9_touchRun_97 : decode cX9_touchRun 97 = .ok (.ireturn, 1) := by decide +kernel
theorem dX9_touches_0 : decode cX9_touches 0 = .ok (.aload_n 0, 1) := by decide +kernel
theorem dX9_touches_1 : decode cX9_touches 1 = .ok (.getfield 40, 3) := by decide +kernel
theorem dX9_touches_4 : decode cX9_touches 4 = .ok (.getfield 82, 3) := by decide +kernel
theorem dX9_touches_7 : decode cX9_touches 7 = .ok (.ireturn, 1) := by decide +kernel
theorem dX9_checkTouch_0 : decode cX9_checkTouch 0 = .ok (.iload_n 1, 1) := by decide +kernel
theorem dX9_checkTouch_1 : decode cX9_checkTouch 1 = .ok (.ifCond .lt 14, 3) := by decide +kernel
theorem dX9_checkTouch_4 : decode cX9_checkTouch 4 = .ok (.iload_n 1, 1) := by decide +kernel
theorem dX9_checkTouch_5 : decode cX9_checkTouch 5 = .ok (.aload_n 0, 1) := by decide +kernel
theorem dX9_checkTouch_6 : decode cX9_checkTouch 6 = .ok (.getfield 40, 3) := by decide +kernel
theorem dX9_checkTouch_9 : decode cX9_checkTouch 9 = .ok (.getfield 82, 3) := by decide +kernel
theorem dX9_checkTouch_12 : decode cX9_checkTouch 12 = .ok (.if_icmp .lt 13, 3) := by decide +kernel
theorem dX9_checkTouch_15 : decode cX9_checkTouch 15 = .ok (.new 110, 3) := by decide +kernel
theorem dX9_checkTouch_18 : decode cX9_checkTouch 18 = .ok (.dup, 1) := by decide +kernel
theorem dX9_checkTouch_19 : decode cX9_checkTouch 19 = .ok (.ldc 213, 2) := by decide +kernel
theorem dX9_checkTouch_21 : decode cX9_checkTouch 21 = .ok (.invokespecial 114, 3) := by decide +kernel
theorem dX9_checkTouch_24 : decode cX9_checkTouch 24 = .ok (.athrow, 1) := by decide +kernel
theorem dX9_checkTouch_25 : decode cX9_checkTouch 25 = .ok (.return_, 1) := by decide +kernel
theorem dX9_pageOf_0 : decode cX9_pageOf 0 = .ok (.aload_n 0, 1) := by decide +kernel
theorem dX9_pageOf_1 : decode cX9_pageOf 1 = .ok (.iload_n 1, 1) := by decide +kernel
theorem dX9_pageOf_2 : decode cX9_pageOf 2 = .ok (.invokevirtual 85, 3) := by decide +kernel
theorem dX9_pageOf_5 : decode cX9_pageOf 5 = .ok (.aload_n 0, 1) := by decide +kernel
theorem dX9_pageOf_6 : decode cX9_pageOf 6 = .ok (.getfield 40, 3) := by decide +kernel
theorem dX9_pageOf_9 : decode cX9_pageOf 9 = .ok (.getfield 88, 3) := by decide +kernel
theorem dX9_pageOf_12 : decode cX9_pageOf 12 = .ok (.iload_n 1, 1) := by decide +kernel
theorem dX9_pageOf_13 : decode cX9_pageOf 13 = .ok (.iaload, 1) := by decide +kernel
theorem dX9_pageOf_14 : decode cX9_pageOf 14 = .ok (.ireturn, 1) := by decide +kernel
theorem dX9_policyNumbered_0 : decode cX9_policyNumbered 0 = .ok (.iload_n 1, 1) := by decide +kernel
theorem dX9_policyNumbered_1 : decode cX9_policyNumbered 1 = .ok (.tableswitch 51 0 3 #[31, 36, 41, 46], 31) := by decide +kernel
theorem dX9_policyNumbered_32 : decode cX9_policyNumbered 32 = .ok (.aload_n 0, 1) := by decide +kernel
theorem dX9_policyNumbered_33 : decode cX9_policyNumbered 33 = .ok (.getfield 10, 3) := by decide +kernel
theorem dX9_policyNumbered_36 : decode cX9_policyNumbered 36 = .ok (.areturn, 1) := by decide +kernel
theorem dX9_policyNumbered_37 : decode cX9_policyNumbered 37 = .ok (.aload_n 0, 1) := by decide +kernel
theorem dX9_policyNumbered_38 : decode cX9_policyNumbered 38 = .ok (.getfield 19, 3) := by decide +kernel
theorem dX9_policyNumbered_41 : decode cX9_policyNumbered 41 = .ok (.areturn, 1) := by decide +kernel
theorem dX9_policyNumbered_42 : decode cX9_policyNumbered 42 = .ok (.aload_n 0, 1) := by decide +kernel
theorem dX9_policyNumbered_43 : decode cX9_policyNumbered 43 = .ok (.getfield 26, 3) := by decide +kernel
theorem dX9_policyNumbered_46 : decode cX9_policyNumbered 46 = .ok (.areturn, 1) := by decide +kernel
theorem dX9_policyNumbered_47 : decode cX9_policyNumbered 47 = .ok (.aload_n 0, 1) := by decide +kernel
theorem dX9_policyNumbered_48 : decode cX9_policyNumbered 48 = .ok (.getfield 33, 3) := by decide +kernel
theorem dX9_policyNumbered_51 : decode cX9_policyNumbered 51 = .ok (.areturn, 1) := by decide +kernel
theorem dX9_policyNumbered_52 : decode cX9_policyNumbered 52 = .ok (.new 59, 3) := by decide +kernel
theorem dX9_policyNumbered_55 : decode cX9_policyNumbered 55 = .ok (.dup, 1) := by decide +kernel
theorem dX9_policyNumbered_56 : decode cX9_policyNumbered 56 = .ok (.ldc 184, 2) := by decide +kernel
theorem dX9_policyNumbered_58 : decode cX9_policyNumbered 58 = .ok (.invokespecial 63, 3) := by decide +kernel
theorem dX9_policyNumbered_61 : decode cX9_policyNumbered 61 = .ok (.athrow, 1) := by decide +kernel
theorem dX9_faults_0 : decode cX9_faults 0 = .ok (.aload_n 0, 1) := by decide +kernel
theorem dX9_faults_1 : decode cX9_faults 1 = .ok (.iload_n 1, 1) := by decide +kernel
theorem dX9_faults_2 : decode cX9_faults 2 = .ok (.invokevirtual 92, 3) := by decide +kernel
theorem dX9_faults_5 : decode cX9_faults 5 = .ok (.getfield 96, 3) := by decide +kernel
theorem dX9_faults_8 : decode cX9_faults 8 = .ok (.ireturn, 1) := by decide +kernel
theorem dX9_holds_0 : decode cX9_holds 0 = .ok (.iload_n 2, 1) := by decide +kernel
theorem dX9_holds_1 : decode cX9_holds 1 = .ok (.invokestatic 66, 3) := by decide +kernel
theorem dX9_holds_4 : decode cX9_holds 4 = .ok (.aload_n 0, 1) := by decide +kernel
theorem dX9_holds_5 : decode cX9_holds 5 = .ok (.iload_n 1, 1) := by decide +kernel
theorem dX9_holds_6 : decode cX9_holds 6 = .ok (.invokevirtual 92, 3) := by decide +kernel
theorem dX9_holds_9 : decode cX9_holds 9 = .ok (.iload_n 2, 1) := by decide +kernel
theorem dX9_holds_10 : decode cX9_holds 10 = .ok (.invokevirtual 99, 3) := by decide +kernel
theorem dX9_holds_13 : decode cX9_holds 13 = .ok (.ireturn, 1) := by decide +kernel
theorem dX9_held_0 : decode cX9_held 0 = .ok (.aload_n 0, 1) := by decide +kernel
theorem dX9_held_1 : decode cX9_held 1 = .ok (.iload_n 1, 1) := by decide +kernel
theorem dX9_held_2 : decode cX9_held 2 = .ok (.invokevirtual 92, 3) := by decide +kernel
theorem dX9_held_5 : decode cX9_held 5 = .ok (.invokevirtual 103, 3) := by decide +kernel
theorem dX9_held_8 : decode cX9_held 8 = .ok (.ireturn, 1) := by decide +kernel
theorem dX9_victim_0 : decode cX9_victim 0 = .ok (.aload_n 0, 1) := by decide +kernel
theorem dX9_victim_1 : decode cX9_victim 1 = .ok (.iload_n 1, 1) := by decide +kernel
theorem dX9_victim_2 : decode cX9_victim 2 = .ok (.invokevirtual 92, 3) := by decide +kernel
theorem dX9_victim_5 : decode cX9_victim 5 = .ok (.invokevirtual 107, 3) := by decide +kernel
theorem dX9_victim_8 : decode cX9_victim 8 = .ok (.istore_n 2, 1) := by decide +kernel
theorem dX9_victim_9 : decode cX9_victim 9 = .ok (.iload_n 2, 1) := by decide +kernel
theorem dX9_victim_10 : decode cX9_victim 10 = .ok (.iconst (-1), 1) := by decide +kernel
theorem dX9_victim_11 : decode cX9_victim 11 = .ok (.if_icmp .ne 13, 3) := by decide +kernel
theorem dX9_victim_14 : decode cX9_victim 14 = .ok (.new 110, 3) := by decide +kernel
theorem dX9_victim_17 : decode cX9_victim 17 = .ok (.dup, 1) := by decide +kernel
theorem dX9_victim_18 : decode cX9_victim 18 = .ok (.ldc 112, 2) := by decide +kernel
theorem dX9_victim_20 : decode cX9_victim 20 = .ok (.invokespecial 114, 3) := by decide +kernel
theorem dX9_victim_23 : decode cX9_victim 23 = .ok (.athrow, 1) := by decide +kernel
theorem dX9_victim_24 : decode cX9_victim 24 = .ok (.iload_n 2, 1) := by decide +kernel
theorem dX9_victim_25 : decode cX9_victim 25 = .ok (.ireturn, 1) := by decide +kernel
theorem dX9_hand_0 : decode cX9_hand 0 = .ok (.aload_n 0, 1) := by decide +kernel
theorem dX9_hand_1 : decode cX9_hand 1 = .ok (.getfield 19, 3) := by decide +kernel
theorem dX9_hand_4 : decode cX9_hand 4 = .ok (.getfield 115, 3) := by decide +kernel
theorem dX9_hand_7 : decode cX9_hand 7 = .ok (.ireturn, 1) := by decide +kernel
theorem dX9_isReferenced_0 : decode cX9_isReferenced 0 = .ok (.iload_n 1, 1) := by decide +kernel
theorem dX9_isReferenced_1 : decode cX9_isReferenced 1 = .ok (.invokestatic 66, 3) := by decide +kernel
theorem dX9_isReferenced_4 : decode cX9_isReferenced 4 = .ok (.aload_n 0, 1) := by decide +kernel
theorem dX9_isReferenced_5 : decode cX9_isReferenced 5 = .ok (.getfield 19, 3) := by decide +kernel
theorem dX9_isReferenced_8 : decode cX9_isReferenced 8 = .ok (.iload_n 1, 1) := by decide +kernel
theorem dX9_isReferenced_9 : decode cX9_isReferenced 9 = .ok (.invokevirtual 118, 3) := by decide +kernel
theorem dX9_isReferenced_12 : decode cX9_isReferenced 12 = .ok (.ireturn, 1) := by decide +kernel
theorem dX9_listOf_0 : decode cX9_listOf 0 = .ok (.iload_n 1, 1) := by decide +kernel
theorem dX9_listOf_1 : decode cX9_listOf 1 = .ok (.invokestatic 66, 3) := by decide +kernel
theorem dX9_listOf_4 : decode cX9_listOf 4 = .ok (.aload_n 0, 1) := by decide +kernel
theorem dX9_listOf_5 : decode cX9_listOf 5 = .ok (.getfield 26, 3) := by decide +kernel
theorem dX9_listOf_8 : decode cX9_listOf 8 = .ok (.iload_n 1, 1) := by decide +kernel
theorem dX9_listOf_9 : decode cX9_listOf 9 = .ok (.invokevirtual 121, 3) := by decide +kernel
theorem dX9_listOf_12 : decode cX9_listOf 12 = .ok (.ireturn, 1) := by decide +kernel
theorem dX9_listNumbered_0 : decode cX9_listNumbered 0 = .ok (.iload_n 1, 1) := by decide +kernel
theorem dX9_listNumbered_1 : decode cX9_listNumbered 1 = .ok (.tableswitch 63 1 4 #[31, 39, 47, 55], 31) := by decide +kernel
theorem dX9_listNumbered_32 : decode cX9_listNumbered 32 = .ok (.aload_n 0, 1) := by decide +kernel
theorem dX9_listNumbered_33 : decode cX9_listNumbered 33 = .ok (.getfield 26, 3) := by decide +kernel
theorem dX9_listNumbered_36 : decode cX9_listNumbered 36 = .ok (.getfield 186, 3) := by decide +kernel
theorem dX9_listNumbered_39 : decode cX9_listNumbered 39 = .ok (.areturn, 1) := by decide +kernel
theorem dX9_listNumbered_40 : decode cX9_listNumbered 40 = .ok (.aload_n 0, 1) := by decide +kernel
theorem dX9_listNumbered_41 : decode cX9_listNumbered 41 = .ok (.getfield 26, 3) := by decide +kernel
theorem dX9_listNumbered_44 : decode cX9_listNumbered 44 = .ok (.getfield 190, 3) := by decide +kernel
theorem dX9_listNumbered_47 : decode cX9_listNumbered 47 = .ok (.areturn, 1) := by decide +kernel
theorem dX9_listNumbered_48 : decode cX9_listNumbered 48 = .ok (.aload_n 0, 1) := by decide +kernel
theorem dX9_listNumbered_49 : decode cX9_listNumbered 49 = .ok (.getfield 26, 3) := by decide +kernel
theorem dX9_listNumbered_52 : decode cX9_listNumbered 52 = .ok (.getfield 193, 3) := by decide +kernel
theorem dX9_listNumbered_55 : decode cX9_listNumbered 55 = .ok (.areturn, 1) := by decide +kernel
theorem dX9_listNumbered_56 : decode cX9_listNumbered 56 = .ok (.aload_n 0, 1) := by decide +kernel
theorem dX9_listNumbered_57 : decode cX9_listNumbered 57 = .ok (.getfield 26, 3) := by decide +kernel
theorem dX9_listNumbered_60 : decode cX9_listNumbered 60 = .ok (.getfield 196, 3) := by decide +kernel
theorem dX9_listNumbered_63 : decode cX9_listNumbered 63 = .ok (.areturn, 1) := by decide +kernel
theorem dX9_listNumbered_64 : decode cX9_listNumbered 64 = .ok (.new 59, 3) := by decide +kernel
theorem dX9_listNumbered_67 : decode cX9_listNumbered 67 = .ok (.dup, 1) := by decide +kernel
theorem dX9_listNumbered_68 : decode cX9_listNumbered 68 = .ok (.ldc 199, 2) := by decide +kernel
theorem dX9_listNumbered_70 : decode cX9_listNumbered 70 = .ok (.invokespecial 63, 3) := by decide +kernel
theorem dX9_listNumbered_73 : decode cX9_listNumbered 73 = .ok (.athrow, 1) := by decide +kernel
theorem dX9_listSize_0 : decode cX9_listSize 0 = .ok (.aload_n 0, 1) := by decide +kernel
theorem dX9_listSize_1 : decode cX9_listSize 1 = .ok (.iload_n 1, 1) := by decide +kernel
theorem dX9_listSize_2 : decode cX9_listSize 2 = .ok (.invokevirtual 124, 3) := by decide +kernel
theorem dX9_listSize_5 : decode cX9_listSize 5 = .ok (.getfield 128, 3) := by decide +kernel
theorem dX9_listSize_8 : decode cX9_listSize 8 = .ok (.ireturn, 1) := by decide +kernel
theorem dX9_target_0 : decode cX9_target 0 = .ok (.aload_n 0, 1) := by decide +kernel
theorem dX9_target_1 : decode cX9_target 1 = .ok (.getfield 26, 3) := by decide +kernel
theorem dX9_target_4 : decode cX9_target 4 = .ok (.getfield 131, 3) := by decide +kernel
theorem dX9_target_7 : decode cX9_target 7 = .ok (.ireturn, 1) := by decide +kernel
theorem dX9_prefetches_0 : decode cX9_prefetches 0 = .ok (.aload_n 0, 1) := by decide +kernel
theorem dX9_prefetches_1 : decode cX9_prefetches 1 = .ok (.getfield 33, 3) := by decide +kernel
theorem dX9_prefetches_4 : decode cX9_prefetches 4 = .ok (.getfield 134, 3) := by decide +kernel
theorem dX9_prefetches_7 : decode cX9_prefetches 7 = .ok (.ireturn, 1) := by decide +kernel
theorem dX9_usefulPrefetches_0 : decode cX9_usefulPrefetches 0 = .ok (.aload_n 0, 1) := by decide +kernel
theorem dX9_usefulPrefetches_1 : decode cX9_usefulPrefetches 1 = .ok (.getfield 33, 3) := by decide +kernel
theorem dX9_usefulPrefetches_4 : decode cX9_usefulPrefetches 4 = .ok (.getfield 137, 3) := by decide +kernel
theorem dX9_usefulPrefetches_7 : decode cX9_usefulPrefetches 7 = .ok (.ireturn, 1) := by decide +kernel
theorem dX9_refaults_0 : decode cX9_refaults 0 = .ok (.iload_n 1, 1) := by decide +kernel
theorem dX9_refaults_1 : decode cX9_refaults 1 = .ok (.ifCond .lt 10, 3) := by decide +kernel
theorem dX9_refaults_4 : decode cX9_refaults 4 = .ok (.iload_n 1, 1) := by decide +kernel
theorem dX9_refaults_5 : decode cX9_refaults 5 = .ok (.sipush 400, 3) := by decide +kernel
theorem dX9_refaults_8 : decode cX9_refaults 8 = .ok (.if_icmp .le 13, 3) := by decide +kernel
theorem dX9_refaults_11 : decode cX9_refaults 11 = .ok (.new 59, 3) := by decide +kernel
theorem dX9_refaults_14 : decode cX9_refaults 14 = .ok (.dup, 1) := by decide +kernel
theorem dX9_refaults_15 : decode cX9_refaults 15 = .ok (.ldc 140, 2) := by decide +kernel
theorem dX9_refaults_17 : decode cX9_refaults 17 = .ok (.invokespecial 63, 3) := by decide +kernel
theorem dX9_refaults_20 : decode cX9_refaults 20 = .ok (.athrow, 1) := by decide +kernel
theorem dX9_refaults_21 : decode cX9_refaults 21 = .ok (.aload_n 0, 1) := by decide +kernel
theorem dX9_refaults_22 : decode cX9_refaults 22 = .ok (.getfield 10, 3) := by decide +kernel
theorem dX9_refaults_25 : decode cX9_refaults 25 = .ok (.iload_n 1, 1) := by decide +kernel
theorem dX9_refaults_26 : decode cX9_refaults 26 = .ok (.invokevirtual 142, 3) := by decide +kernel
theorem dX9_refaults_29 : decode cX9_refaults 29 = .ok (.ireturn, 1) := by decide +kernel
theorem dX9_workingSet_0 : decode cX9_workingSet 0 = .ok (.aload_n 0, 1) := by decide +kernel
theorem dX9_workingSet_1 : decode cX9_workingSet 1 = .ok (.iload_n 1, 1) := by decide +kernel
theorem dX9_workingSet_2 : decode cX9_workingSet 2 = .ok (.invokevirtual 85, 3) := by decide +kernel
theorem dX9_workingSet_5 : decode cX9_workingSet 5 = .ok (.aload_n 0, 1) := by decide +kernel
theorem dX9_workingSet_6 : decode cX9_workingSet 6 = .ok (.getfield 40, 3) := by decide +kernel
theorem dX9_workingSet_9 : decode cX9_workingSet 9 = .ok (.getfield 150, 3) := by decide +kernel
theorem dX9_workingSet_12 : decode cX9_workingSet 12 = .ok (.iload_n 1, 1) := by decide +kernel
theorem dX9_workingSet_13 : decode cX9_workingSet 13 = .ok (.iaload, 1) := by decide +kernel
theorem dX9_workingSet_14 : decode cX9_workingSet 14 = .ok (.ireturn, 1) := by decide +kernel
theorem dX9_faultsWith_0 : decode cX9_faultsWith 0 = .ok (.iload_n 1, 1) := by decide +kernel
theorem dX9_faultsWith_1 : decode cX9_faultsWith 1 = .ok (.invokestatic 55, 3) := by decide +kernel
theorem dX9_faultsWith_4 : decode cX9_faultsWith 4 = .ok (.aload_n 0, 1) := by decide +kernel
theorem dX9_faultsWith_5 : decode cX9_faultsWith 5 = .ok (.getfield 40, 3) := by decide +kernel
theorem dX9_faultsWith_8 : decode cX9_faultsWith 8 = .ok (.iload_n 1, 1) := by decide +kernel
theorem dX9_faultsWith_9 : decode cX9_faultsWith 9 = .ok (.invokevirtual 158, 3) := by decide +kernel
theorem dX9_faultsWith_12 : decode cX9_faultsWith 12 = .ok (.ireturn, 1) := by decide +kernel
theorem dX9_bestFaults_0 : decode cX9_bestFaults 0 = .ok (.iload_n 1, 1) := by decide +kernel
theorem dX9_bestFaults_1 : decode cX9_bestFaults 1 = .ok (.invokestatic 55, 3) := by decide +kernel
theorem dX9_bestFaults_4 : decode cX9_bestFaults 4 = .ok (.aload_n 0, 1) := by decide +kernel
theorem dX9_bestFaults_5 : decode cX9_bestFaults 5 = .ok (.getfield 47, 3) := by decide +kernel
theorem dX9_bestFaults_8 : decode cX9_bestFaults 8 = .ok (.aload_n 0, 1) := by decide +kernel
theorem dX9_bestFaults_9 : decode cX9_bestFaults 9 = .ok (.getfield 40, 3) := by decide +kernel
theorem dX9_bestFaults_12 : decode cX9_bestFaults 12 = .ok (.iload_n 1, 1) := by decide +kernel
theorem dX9_bestFaults_13 : decode cX9_bestFaults 13 = .ok (.invokevirtual 161, 3) := by decide +kernel
theorem dX9_bestFaults_16 : decode cX9_bestFaults 16 = .ok (.ireturn, 1) := by decide +kernel
theorem dX9_ratio_0 : decode cX9_ratio 0 = .ok (.aload_n 0, 1) := by decide +kernel
theorem dX9_ratio_1 : decode cX9_ratio 1 = .ok (.iload_n 1, 1) := by decide +kernel
theorem dX9_ratio_2 : decode cX9_ratio 2 = .ok (.invokevirtual 92, 3) := by decide +kernel
theorem dX9_ratio_5 : decode cX9_ratio 5 = .ok (.getfield 96, 3) := by decide +kernel
theorem dX9_ratio_8 : decode cX9_ratio 8 = .ok (.istore_n 2, 1) := by decide +kernel
theorem dX9_ratio_9 : decode cX9_ratio 9 = .ok (.aload_n 0, 1) := by decide +kernel
theorem dX9_ratio_10 : decode cX9_ratio 10 = .ok (.getfield 47, 3) := by decide +kernel
theorem dX9_ratio_13 : decode cX9_ratio 13 = .ok (.aload_n 0, 1) := by decide +kernel
theorem dX9_ratio_14 : decode cX9_ratio 14 = .ok (.getfield 40, 3) := by decide +kernel
theorem dX9_ratio_17 : decode cX9_ratio 17 = .ok (.aload_n 0, 1) := by decide +kernel
theorem dX9_ratio_18 : decode cX9_ratio 18 = .ok (.getfield 165, 3) := by decide +kernel
theorem dX9_ratio_21 : decode cX9_ratio 21 = .ok (.invokevirtual 161, 3) := by decide +kernel
theorem dX9_ratio_24 : decode cX9_ratio 24 = .ok (.istore_n 3, 1) := by decide +kernel
theorem dX9_ratio_25 : decode cX9_ratio 25 = .ok (.iload_n 3, 1) := by decide +kernel
theorem dX9_ratio_26 : decode cX9_ratio 26 = .ok (.ifCond .ne 13, 3) := by decide +kernel
theorem dX9_ratio_29 : decode cX9_ratio 29 = .ok (.new 110, 3) := by decide +kernel
theorem dX9_ratio_32 : decode cX9_ratio 32 = .ok (.dup, 1) := by decide +kernel
theorem dX9_ratio_33 : decode cX9_ratio 33 = .ok (.ldc 153, 2) := by decide +kernel
theorem dX9_ratio_35 : decode cX9_ratio 35 = .ok (.invokespecial 114, 3) := by decide +kernel
theorem dX9_ratio_38 : decode cX9_ratio 38 = .ok (.athrow, 1) := by decide +kernel
theorem dX9_ratio_39 : decode cX9_ratio 39 = .ok (.iload_n 2, 1) := by decide +kernel
theorem dX9_ratio_40 : decode cX9_ratio 40 = .ok (.i2f, 1) := by decide +kernel
theorem dX9_ratio_41 : decode cX9_ratio 41 = .ok (.iload_n 3, 1) := by decide +kernel
theorem dX9_ratio_42 : decode cX9_ratio 42 = .ok (.i2f, 1) := by decide +kernel
theorem dX9_ratio_43 : decode cX9_ratio 43 = .ok (.fdiv, 1) := by decide +kernel
theorem dX9_ratio_44 : decode cX9_ratio 44 = .ok (.freturn, 1) := by decide +kernel
