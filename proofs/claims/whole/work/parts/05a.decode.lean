theorem dX5_init_0 : decode cX5_init 0 = .ok (.aload_n 0, 1) := by decide +kernel
theorem dX5_init_1 : decode cX5_init 1 = .ok (.invokespecial 3, 3) := by decide +kernel
theorem dX5_init_4 : decode cX5_init 4 = .ok (.aload_n 0, 1) := by decide +kernel
theorem dX5_init_5 : decode cX5_init 5 = .ok (.bipush 64, 2) := by decide +kernel
theorem dX5_init_7 : decode cX5_init 7 = .ok (.newarray .int, 2) := by decide +kernel
theorem dX5_init_9 : decode cX5_init 9 = .ok (.putfield 9, 3) := by decide +kernel
theorem dX5_init_12 : decode cX5_init 12 = .ok (.aload_n 0, 1) := by decide +kernel
theorem dX5_init_13 : decode cX5_init 13 = .ok (.iconst 0, 1) := by decide +kernel
theorem dX5_init_14 : decode cX5_init 14 = .ok (.putfield 15, 3) := by decide +kernel
theorem dX5_init_17 : decode cX5_init 17 = .ok (.return_, 1) := by decide +kernel
theorem dX5_empty_0 : decode cX5_empty 0 = .ok (.aload_n 0, 1) := by decide +kernel
theorem dX5_empty_1 : decode cX5_empty 1 = .ok (.iconst 0, 1) := by decide +kernel
theorem dX5_empty_2 : decode cX5_empty 2 = .ok (.putfield 15, 3) := by decide +kernel
theorem dX5_empty_5 : decode cX5_empty 5 = .ok (.return_, 1) := by decide +kernel
theorem dX5_contains_0 : decode cX5_contains 0 = .ok (.iconst 0, 1) := by decide +kernel
theorem dX5_contains_1 : decode cX5_contains 1 = .ok (.istore_n 2, 1) := by decide +kernel
theorem dX5_contains_2 : decode cX5_contains 2 = .ok (.iload_n 2, 1) := by decide +kernel
theorem dX5_contains_3 : decode cX5_contains 3 = .ok (.aload_n 0, 1) := by decide +kernel
theorem dX5_contains_4 : decode cX5_contains 4 = .ok (.getfield 15, 3) := by decide +kernel
theorem dX5_contains_7 : decode cX5_contains 7 = .ok (.if_icmp .ge 21, 3) := by decide +kernel
theorem dX5_contains_10 : decode cX5_contains 10 = .ok (.aload_n 0, 1) := by decide +kernel
theorem dX5_contains_11 : decode cX5_contains 11 = .ok (.getfield 9, 3) := by decide +kernel
theorem dX5_contains_14 : decode cX5_contains 14 = .ok (.iload_n 2, 1) := by decide +kernel
theorem dX5_contains_15 : decode cX5_contains 15 = .ok (.iaload, 1) := by decide +kernel
theorem dX5_contains_16 : decode cX5_contains 16 = .ok (.iload_n 1, 1) := by decide +kernel
theorem dX5_contains_17 : decode cX5_contains 17 = .ok (.if_icmp .ne 5, 3) := by decide +kernel
theorem dX5_contains_20 : decode cX5_contains 20 = .ok (.iconst 1, 1) := by decide +kernel
theorem dX5_contains_21 : decode cX5_contains 21 = .ok (.ireturn, 1) := by decide +kernel
theorem dX5_contains_22 : decode cX5_contains 22 = .ok (.iinc 2 1, 3) := by decide +kernel
theorem dX5_contains_25 : decode cX5_contains 25 = .ok (.goto (-23), 3) := by decide +kernel
theorem dX5_contains_28 : decode cX5_contains 28 = .ok (.iconst 0, 1) := by decide +kernel
theorem dX5_contains_29 : decode cX5_contains 29 = .ok (.ireturn, 1) := by decide +kernel
theorem dX5_leastRecent_0 : decode cX5_leastRecent 0 = .ok (.aload_n 0, 1) := by decide +kernel
theorem dX5_leastRecent_1 : decode cX5_leastRecent 1 = .ok (.getfield 15, 3) := by decide +kernel
theorem dX5_leastRecent_4 : decode cX5_leastRecent 4 = .ok (.ifCond .le 12, 3) := by decide +kernel
theorem dX5_leastRecent_7 : decode cX5_leastRecent 7 = .ok (.aload_n 0, 1) := by decide +kernel
theorem dX5_leastRecent_8 : decode cX5_leastRecent 8 = .ok (.getfield 9, 3) := by decide +kernel
theorem dX5_leastRecent_11 : decode cX5_leastRecent 11 = .ok (.iconst 0, 1) := by decide +kernel
theorem dX5_leastRecent_12 : decode cX5_leastRecent 12 = .ok (.iaload, 1) := by decide +kernel
theorem dX5_leastRecent_13 : decode cX5_leastRecent 13 = .ok (.goto 4, 3) := by decide +kernel
theorem dX5_leastRecent_16 : decode cX5_leastRecent 16 = .ok (.iconst (-1), 1) := by decide +kernel
theorem dX5_leastRecent_17 : decode cX5_leastRecent 17 = .ok (.ireturn, 1) := by decide +kernel
theorem dX5_addMostRecent_0 : decode cX5_addMostRecent 0 = .ok (.aload_n 0, 1) := by decide +kernel
theorem dX5_addMostRecent_1 : decode cX5_addMostRecent 1 = .ok (.getfield 15, 3) := by decide +kernel
theorem dX5_addMostRecent_4 : decode cX5_addMostRecent 4 = .ok (.bipush 64, 2) := by decide +kernel
theorem dX5_addMostRecent_6 : decode cX5_addMostRecent 6 = .ok (.if_icmp .ge 23, 3) := by decide +kernel
theorem dX5_addMostRecent_9 : decode cX5_addMostRecent 9 = .ok (.aload_n 0, 1) := by decide +kernel
theorem dX5_addMostRecent_10 : decode cX5_addMostRecent 10 = .ok (.getfield 9, 3) := by decide +kernel
theorem dX5_addMostRecent_13 : decode cX5_addMostRecent 13 = .ok (.aload_n 0, 1) := by decide +kernel
theorem dX5_addMostRecent_14 : decode cX5_addMostRecent 14 = .ok (.getfield 15, 3) := by decide +kernel
theorem dX5_addMostRecent_17 : decode cX5_addMostRecent 17 = .ok (.iload_n 1, 1) := by decide +kernel
theorem dX5_addMostRecent_18 : decode cX5_addMostRecent 18 = .ok (.iastore, 1) := by decide +kernel
theorem dX5_addMostRecent_19 : decode cX5_addMostRecent 19 = .ok (.aload_n 0, 1) := by decide +kernel
theorem dX5_addMostRecent_20 : decode cX5_addMostRecent 20 = .ok (.dup, 1) := by decide +kernel
theorem dX5_addMostRecent_21 : decode cX5_addMostRecent 21 = .ok (.getfield 15, 3) := by decide +kernel
theorem dX5_addMostRecent_24 : decode cX5_addMostRecent 24 = .ok (.iconst 1, 1) := by decide +kernel
theorem dX5_addMostRecent_25 : decode cX5_addMostRecent 25 = .ok (.iadd, 1) := by decide +kernel
theorem dX5_addMostRecent_26 : decode cX5_addMostRecent 26 = .ok (.putfield 15, 3) := by decide +kernel
theorem dX5_addMostRecent_29 : decode cX5_addMostRecent 29 = .ok (.return_, 1) := by decide +kernel
theorem dX5_drop_0 : decode cX5_drop 0 = .ok (.iconst 0, 1) := by decide +kernel
theorem dX5_drop_1 : decode cX5_drop 1 = .ok (.istore_n 2, 1) := by decide +kernel
theorem dX5_drop_2 : decode cX5_drop 2 = .ok (.iconst 0, 1) := by decide +kernel
theorem dX5_drop_3 : decode cX5_drop 3 = .ok (.istore_n 3, 1) := by decide +kernel
theorem dX5_drop_4 : decode cX5_drop 4 = .ok (.iload_n 3, 1) := by decide +kernel
theorem dX5_drop_5 : decode cX5_drop 5 = .ok (.aload_n 0, 1) := by decide +kernel
theorem dX5_drop_6 : decode cX5_drop 6 = .ok (.getfield 15, 3) := by decide +kernel
theorem dX5_drop_9 : decode cX5_drop 9 = .ok (.if_icmp .ge 34, 3) := by decide +kernel
theorem dX5_drop_12 : decode cX5_drop 12 = .ok (.aload_n 0, 1) := by decide +kernel
theorem dX5_drop_13 : decode cX5_drop 13 = .ok (.getfield 9, 3) := by decide +kernel
theorem dX5_drop_16 : decode cX5_drop 16 = .ok (.iload_n 3, 1) := by decide +kernel
theorem dX5_drop_17 : decode cX5_drop 17 = .ok (.iaload, 1) := by decide +kernel
theorem dX5_drop_18 : decode cX5_drop 18 = .ok (.iload_n 1, 1) := by decide +kernel
theorem dX5_drop_19 : decode cX5_drop 19 = .ok (.if_icmp .eq 18, 3) := by decide +kernel
theorem dX5_drop_22 : decode cX5_drop 22 = .ok (.aload_n 0, 1) := by decide +kernel
theorem dX5_drop_23 : decode cX5_drop 23 = .ok (.getfield 9, 3) := by decide +kernel
theorem dX5_drop_26 : decode cX5_drop 26 = .ok (.iload_n 2, 1) := by decide +kernel
theorem dX5_drop_27 : decode cX5_drop 27 = .ok (.aload_n 0, 1) := by decide +kernel
theorem dX5_drop_28 : decode cX5_drop 28 = .ok (.getfield 9, 3) := by decide +kernel
theorem dX5_drop_31 : decode cX5_drop 31 = .ok (.iload_n 3, 1) := by decide +kernel
theorem dX5_drop_32 : decode cX5_drop 32 = .ok (.iaload, 1) := by decide +kernel
theorem dX5_drop_33 : decode cX5_drop 33 = .ok (.iastore, 1) := by decide +kernel
theorem dX5_drop_34 : decode cX5_drop 34 = .ok (.iinc 2 1, 3) := by decide +kernel
theorem dX5_drop_37 : decode cX5_drop 37 = .ok (.iinc 3 1, 3) := by decide +kernel
theorem dX5_drop_40 : decode cX5_drop 40 = .ok (.goto (-36), 3) := by decide +kernel
theorem dX5_drop_43 : decode cX5_drop 43 = .ok (.aload_n 0, 1) := by decide +kernel
theorem dX5_drop_44 : decode cX5_drop 44 = .ok (.iload_n 2, 1) := by decide +kernel
theorem dX5_drop_45 : decode cX5_drop 45 = .ok (.putfield 15, 3) := by decide +kernel
theorem dX5_drop_48 : decode cX5_drop 48 = .ok (.return_, 1) := by decide +kernel
theorem dX5_dropLeastRecent_0 : decode cX5_dropLeastRecent 0 = .ok (.aload_n 0, 1) := by decide +kernel
theorem dX5_dropLeastRecent_1 : decode cX5_dropLeastRecent 1 = .ok (.invokevirtual 19, 3) := by decide +kernel
theorem dX5_dropLeastRecent_4 : decode cX5_dropLeastRecent 4 = .ok (.istore_n 1, 1) := by decide +kernel
theorem dX5_dropLeastRecent_5 : decode cX5_dropLeastRecent 5 = .ok (.aload_n 0, 1) := by decide +kernel
theorem dX5_dropLeastRecent_6 : decode cX5_dropLeastRecent 6 = .ok (.iload_n 1, 1) := by decide +kernel
theorem dX5_dropLeastRecent_7 : decode cX5_dropLeastRecent 7 = .ok (.invokevirtual 23, 3) := by decide +kernel
theorem dX5_dropLeastRecent_10 : decode cX5_dropLeastRecent 10 = .ok (.iload_n 1, 1) := by decide +kernel
theorem dX5_dropLeastRecent_11 : decode cX5_dropLeastRecent 11 = .ok (.ireturn, 1) := by decide +kernel
