theorem dX0_init_0 : decode cX0_init 0 = .ok (.aload_n 0, 1) := by decide +kernel
theorem dX0_init_1 : decode cX0_init 1 = .ok (.invokespecial 5, 3) := by decide +kernel
theorem dX0_init_4 : decode cX0_init 4 = .ok (.aload_n 0, 1) := by decide +kernel
theorem dX0_init_5 : decode cX0_init 5 = .ok (.bipush 7, 2) := by decide +kernel
theorem dX0_init_7 : decode cX0_init 7 = .ok (.newarray .int, 2) := by decide +kernel
theorem dX0_init_9 : decode cX0_init 9 = .ok (.putfield 11, 3) := by decide +kernel
theorem dX0_init_12 : decode cX0_init 12 = .ok (.aload_n 0, 1) := by decide +kernel
theorem dX0_init_13 : decode cX0_init 13 = .ok (.bipush 7, 2) := by decide +kernel
theorem dX0_init_15 : decode cX0_init 15 = .ok (.newarray .boolean, 2) := by decide +kernel
theorem dX0_init_17 : decode cX0_init 17 = .ok (.putfield 15, 3) := by decide +kernel
theorem dX0_init_20 : decode cX0_init 20 = .ok (.aload_n 0, 1) := by decide +kernel
theorem dX0_init_21 : decode cX0_init 21 = .ok (.bipush 7, 2) := by decide +kernel
theorem dX0_init_23 : decode cX0_init 23 = .ok (.newarray .int, 2) := by decide +kernel
theorem dX0_init_25 : decode cX0_init 25 = .ok (.putfield 19, 3) := by decide +kernel
theorem dX0_init_28 : decode cX0_init 28 = .ok (.aload_n 0, 1) := by decide +kernel
theorem dX0_init_29 : decode cX0_init 29 = .ok (.bipush 7, 2) := by decide +kernel
theorem dX0_init_31 : decode cX0_init 31 = .ok (.newarray .int, 2) := by decide +kernel
theorem dX0_init_33 : decode cX0_init 33 = .ok (.putfield 22, 3) := by decide +kernel
theorem dX0_init_36 : decode cX0_init 36 = .ok (.aload_n 0, 1) := by decide +kernel
theorem dX0_init_37 : decode cX0_init 37 = .ok (.bipush 7, 2) := by decide +kernel
theorem dX0_init_39 : decode cX0_init 39 = .ok (.newarray .boolean, 2) := by decide +kernel
theorem dX0_init_41 : decode cX0_init 41 = .ok (.putfield 25, 3) := by decide +kernel
theorem dX0_init_44 : decode cX0_init 44 = .ok (.return_, 1) := by decide +kernel
theorem dX0_size_0 : decode cX0_size 0 = .ok (.aload_n 0, 1) := by decide +kernel
theorem dX0_size_1 : decode cX0_size 1 = .ok (.getfield 28, 3) := by decide +kernel
theorem dX0_size_4 : decode cX0_size 4 = .ok (.ireturn, 1) := by decide +kernel
theorem dX0_has_0 : decode cX0_has 0 = .ok (.iload_n 1, 1) := by decide +kernel
theorem dX0_has_1 : decode cX0_has 1 = .ok (.ifCond .lt 15, 3) := by decide +kernel
theorem dX0_has_4 : decode cX0_has 4 = .ok (.iload_n 1, 1) := by decide +kernel
theorem dX0_has_5 : decode cX0_has 5 = .ok (.aload_n 0, 1) := by decide +kernel
theorem dX0_has_6 : decode cX0_has 6 = .ok (.getfield 28, 3) := by decide +kernel
theorem dX0_has_9 : decode cX0_has 9 = .ok (.if_icmp .ge 7, 3) := by decide +kernel
theorem dX0_has_12 : decode cX0_has 12 = .ok (.iconst 1, 1) := by decide +kernel
theorem dX0_has_13 : decode cX0_has 13 = .ok (.goto 4, 3) := by decide +kernel
theorem dX0_has_16 : decode cX0_has 16 = .ok (.iconst 0, 1) := by decide +kernel
theorem dX0_has_17 : decode cX0_has 17 = .ok (.ireturn, 1) := by decide +kernel
theorem dX0_add_0 : decode cX0_add 0 = .ok (.aload_n 0, 1) := by decide +kernel
theorem dX0_add_1 : decode cX0_add 1 = .ok (.getfield 28, 3) := by decide +kernel
theorem dX0_add_4 : decode cX0_add 4 = .ok (.bipush 7, 2) := by decide +kernel
theorem dX0_add_6 : decode cX0_add 6 = .ok (.if_icmp .ge 12, 3) := by decide +kernel
theorem dX0_add_9 : decode cX0_add 9 = .ok (.iload_n 1, 1) := by decide +kernel
theorem dX0_add_10 : decode cX0_add 10 = .ok (.ifCond .lt 8, 3) := by decide +kernel
theorem dX0_add_13 : decode cX0_add 13 = .ok (.iload_n 1, 1) := by decide +kernel
theorem dX0_add_14 : decode cX0_add 14 = .ok (.iconst 3, 1) := by decide +kernel
theorem dX0_add_15 : decode cX0_add 15 = .ok (.if_icmp .le 5, 3) := by decide +kernel
theorem dX0_add_18 : decode cX0_add 18 = .ok (.iconst (-1), 1) := by decide +kernel
theorem dX0_add_19 : decode cX0_add 19 = .ok (.ireturn, 1) := by decide +kernel
theorem dX0_add_20 : decode cX0_add 20 = .ok (.aload_n 0, 1) := by decide +kernel
theorem dX0_add_21 : decode cX0_add 21 = .ok (.getfield 11, 3) := by decide +kernel
theorem dX0_add_24 : decode cX0_add 24 = .ok (.aload_n 0, 1) := by decide +kernel
theorem dX0_add_25 : decode cX0_add 25 = .ok (.getfield 28, 3) := by decide +kernel
theorem dX0_add_28 : decode cX0_add 28 = .ok (.iload_n 1, 1) := by decide +kernel
theorem dX0_add_29 : decode cX0_add 29 = .ok (.iastore, 1) := by decide +kernel
theorem dX0_add_30 : decode cX0_add 30 = .ok (.aload_n 0, 1) := by decide +kernel
theorem dX0_add_31 : decode cX0_add 31 = .ok (.dup, 1) := by decide +kernel
theorem dX0_add_32 : decode cX0_add 32 = .ok (.getfield 28, 3) := by decide +kernel
theorem dX0_add_35 : decode cX0_add 35 = .ok (.iconst 1, 1) := by decide +kernel
theorem dX0_add_36 : decode cX0_add 36 = .ok (.iadd, 1) := by decide +kernel
theorem dX0_add_37 : decode cX0_add 37 = .ok (.putfield 28, 3) := by decide +kernel
theorem dX0_add_40 : decode cX0_add 40 = .ok (.aload_n 0, 1) := by decide +kernel
theorem dX0_add_41 : decode cX0_add 41 = .ok (.getfield 28, 3) := by decide +kernel
theorem dX0_add_44 : decode cX0_add 44 = .ok (.iconst 1, 1) := by decide +kernel
theorem dX0_add_45 : decode cX0_add 45 = .ok (.isub, 1) := by decide +kernel
theorem dX0_add_46 : decode cX0_add 46 = .ok (.ireturn, 1) := by decide +kernel
theorem dX0_groupOf_0 : decode cX0_groupOf 0 = .ok (.aload_n 0, 1) := by decide +kernel
theorem dX0_groupOf_1 : decode cX0_groupOf 1 = .ok (.iload_n 1, 1) := by decide +kernel
theorem dX0_groupOf_2 : decode cX0_groupOf 2 = .ok (.invokevirtual 32, 3) := by decide +kernel
theorem dX0_groupOf_5 : decode cX0_groupOf 5 = .ok (.ifCond .eq 12, 3) := by decide +kernel
theorem dX0_groupOf_8 : decode cX0_groupOf 8 = .ok (.aload_n 0, 1) := by decide +kernel
theorem dX0_groupOf_9 : decode cX0_groupOf 9 = .ok (.getfield 11, 3) := by decide +kernel
theorem dX0_groupOf_12 : decode cX0_groupOf 12 = .ok (.iload_n 1, 1) := by decide +kernel
theorem dX0_groupOf_13 : decode cX0_groupOf 13 = .ok (.iaload, 1) := by decide +kernel
theorem dX0_groupOf_14 : decode cX0_groupOf 14 = .ok (.goto 4, 3) := by decide +kernel
theorem dX0_groupOf_17 : decode cX0_groupOf 17 = .ok (.iconst 0, 1) := by decide +kernel
theorem dX0_groupOf_18 : decode cX0_groupOf 18 = .ok (.ireturn, 1) := by decide +kernel
theorem dX0_setNeed_0 : decode cX0_setNeed 0 = .ok (.aload_n 0, 1) := by decide +kernel
theorem dX0_setNeed_1 : decode cX0_setNeed 1 = .ok (.iload_n 1, 1) := by decide +kernel
theorem dX0_setNeed_2 : decode cX0_setNeed 2 = .ok (.invokevirtual 32, 3) := by decide +kernel
theorem dX0_setNeed_5 : decode cX0_setNeed 5 = .ok (.ifCond .eq 32, 3) := by decide +kernel
theorem dX0_setNeed_8 : decode cX0_setNeed 8 = .ok (.aload_n 0, 1) := by decide +kernel
theorem dX0_setNeed_9 : decode cX0_setNeed 9 = .ok (.getfield 15, 3) := by decide +kernel
theorem dX0_setNeed_12 : decode cX0_setNeed 12 = .ok (.iload_n 1, 1) := by decide +kernel
theorem dX0_setNeed_13 : decode cX0_setNeed 13 = .ok (.iconst 1, 1) := by decide +kernel
theorem dX0_setNeed_14 : decode cX0_setNeed 14 = .ok (.bastore, 1) := by decide +kernel
theorem dX0_setNeed_15 : decode cX0_setNeed 15 = .ok (.aload_n 0, 1) := by decide +kernel
theorem dX0_setNeed_16 : decode cX0_setNeed 16 = .ok (.getfield 19, 3) := by decide +kernel
theorem dX0_setNeed_19 : decode cX0_setNeed 19 = .ok (.iload_n 1, 1) := by decide +kernel
theorem dX0_setNeed_20 : decode cX0_setNeed 20 = .ok (.iload_n 2, 1) := by decide +kernel
theorem dX0_setNeed_21 : decode cX0_setNeed 21 = .ok (.iastore, 1) := by decide +kernel
theorem dX0_setNeed_22 : decode cX0_setNeed 22 = .ok (.aload_n 0, 1) := by decide +kernel
theorem dX0_setNeed_23 : decode cX0_setNeed 23 = .ok (.getfield 22, 3) := by decide +kernel
theorem dX0_setNeed_26 : decode cX0_setNeed 26 = .ok (.iload_n 1, 1) := by decide +kernel
theorem dX0_setNeed_27 : decode cX0_setNeed 27 = .ok (.iload_n 3, 1) := by decide +kernel
theorem dX0_setNeed_28 : decode cX0_setNeed 28 = .ok (.iastore, 1) := by decide +kernel
theorem dX0_setNeed_29 : decode cX0_setNeed 29 = .ok (.aload_n 0, 1) := by decide +kernel
theorem dX0_setNeed_30 : decode cX0_setNeed 30 = .ok (.getfield 25, 3) := by decide +kernel
theorem dX0_setNeed_33 : decode cX0_setNeed 33 = .ok (.iload_n 1, 1) := by decide +kernel
theorem dX0_setNeed_34 : decode cX0_setNeed 34 = .ok (.iload 4, 2) := by decide +kernel
theorem dX0_setNeed_36 : decode cX0_setNeed 36 = .ok (.bastore, 1) := by decide +kernel
theorem dX0_setNeed_37 : decode cX0_setNeed 37 = .ok (.return_, 1) := by decide +kernel
theorem dX0_endNeed_0 : decode cX0_endNeed 0 = .ok (.aload_n 0, 1) := by decide +kernel
theorem dX0_endNeed_1 : decode cX0_endNeed 1 = .ok (.iload_n 1, 1) := by decide +kernel
theorem dX0_endNeed_2 : decode cX0_endNeed 2 = .ok (.invokevirtual 36, 3) := by decide +kernel
theorem dX0_endNeed_5 : decode cX0_endNeed 5 = .ok (.ifCond .ne 5, 3) := by decide +kernel
theorem dX0_endNeed_8 : decode cX0_endNeed 8 = .ok (.iconst 0, 1) := by decide +kernel
theorem dX0_endNeed_9 : decode cX0_endNeed 9 = .ok (.ireturn, 1) := by decide +kernel
theorem dX0_endNeed_10 : decode cX0_endNeed 10 = .ok (.aload_n 0, 1) := by decide +kernel
theorem dX0_endNeed_11 : decode cX0_endNeed 11 = .ok (.getfield 15, 3) := by decide +kernel
theorem dX0_endNeed_14 : decode cX0_endNeed 14 = .ok (.iload_n 1, 1) := by decide +kernel
theorem dX0_endNeed_15 : decode cX0_endNeed 15 = .ok (.iconst 0, 1) := by decide +kernel
theorem dX0_endNeed_16 : decode cX0_endNeed 16 = .ok (.bastore, 1) := by decide +kernel
theorem dX0_endNeed_17 : decode cX0_endNeed 17 = .ok (.iconst 1, 1) := by decide +kernel
theorem dX0_endNeed_18 : decode cX0_endNeed 18 = .ok (.ireturn, 1) := by decide +kernel
theorem dX0_hasNeed_0 : decode cX0_hasNeed 0 = .ok (.aload_n 0, 1) := by decide +kernel
theorem dX0_hasNeed_1 : decode cX0_hasNeed 1 = .ok (.iload_n 1, 1) := by decide +kernel
theorem dX0_hasNeed_2 : decode cX0_hasNeed 2 = .ok (.invokevirtual 32, 3) := by decide +kernel
theorem dX0_hasNeed_5 : decode cX0_hasNeed 5 = .ok (.ifCond .eq 16, 3) := by decide +kernel
theorem dX0_hasNeed_8 : decode cX0_hasNeed 8 = .ok (.aload_n 0, 1) := by decide +kernel
theorem dX0_hasNeed_9 : decode cX0_hasNeed 9 = .ok (.getfield 15, 3) := by decide +kernel
theorem dX0_hasNeed_12 : decode cX0_hasNeed 12 = .ok (.iload_n 1, 1) := by decide +kernel
theorem dX0_hasNeed_13 : decode cX0_hasNeed 13 = .ok (.baload, 1) := by decide +kernel
theorem dX0_hasNeed_14 : decode cX0_hasNeed 14 = .ok (.ifCond .eq 7, 3) := by decide +kernel
theorem dX0_hasNeed_17 : decode cX0_hasNeed 17 = .ok (.iconst 1, 1) := by decide +kernel
theorem dX0_hasNeed_18 : decode cX0_hasNeed 18 = .ok (.goto 4, 3) := by decide +kernel
theorem dX0_hasNeed_21 : decode cX0_hasNeed 21 = .ok (.iconst 0, 1) := by decide +kernel
theorem dX0_hasNeed_22 : decode cX0_hasNeed 22 = .ok (.ireturn, 1) := by decide +kernel
theorem dX0_needsOn_0 : decode cX0_needsOn 0 = .ok (.aload_n 0, 1) := by decide +kernel
theorem dX0_needsOn_1 : decode cX0_needsOn 1 = .ok (.iload_n 1, 1) := by decide +kernel
theorem dX0_needsOn_2 : decode cX0_needsOn 2 = .ok (.invokevirtual 36, 3) := by decide +kernel
theorem dX0_needsOn_5 : decode cX0_needsOn 5 = .ok (.ifCond .eq 27, 3) := by decide +kernel
theorem dX0_needsOn_8 : decode cX0_needsOn 8 = .ok (.aload_n 0, 1) := by decide +kernel
theorem dX0_needsOn_9 : decode cX0_needsOn 9 = .ok (.getfield 19, 3) := by decide +kernel
theorem dX0_needsOn_12 : decode cX0_needsOn 12 = .ok (.iload_n 1, 1) := by decide +kernel
theorem dX0_needsOn_13 : decode cX0_needsOn 13 = .ok (.iaload, 1) := by decide +kernel
theorem dX0_needsOn_14 : decode cX0_needsOn 14 = .ok (.iload_n 2, 1) := by decide +kernel
theorem dX0_needsOn_15 : decode cX0_needsOn 15 = .ok (.if_icmp .gt 17, 3) := by decide +kernel
theorem dX0_needsOn_18 : decode cX0_needsOn 18 = .ok (.iload_n 2, 1) := by decide +kernel
theorem dX0_needsOn_19 : decode cX0_needsOn 19 = .ok (.aload_n 0, 1) := by decide +kernel
theorem dX0_needsOn_20 : decode cX0_needsOn 20 = .ok (.getfield 22, 3) := by decide +kernel
theorem dX0_needsOn_23 : decode cX0_needsOn 23 = .ok (.iload_n 1, 1) := by decide +kernel
theorem dX0_needsOn_24 : decode cX0_needsOn 24 = .ok (.iaload, 1) := by decide +kernel
theorem dX0_needsOn_25 : decode cX0_needsOn 25 = .ok (.if_icmp .gt 7, 3) := by decide +kernel
theorem dX0_needsOn_28 : decode cX0_needsOn 28 = .ok (.iconst 1, 1) := by decide +kernel
theorem dX0_needsOn_29 : decode cX0_needsOn 29 = .ok (.goto 4, 3) := by decide +kernel
theorem dX0_needsOn_32 : decode cX0_needsOn 32 = .ok (.iconst 0, 1) := by decide +kernel
theorem dX0_needsOn_33 : decode cX0_needsOn 33 = .ok (.ireturn, 1) := by decide +kernel
theorem dX0_firstDay_0 : decode cX0_firstDay 0 = .ok (.aload_n 0, 1) := by decide +kernel
theorem dX0_firstDay_1 : decode cX0_firstDay 1 = .ok (.iload_n 1, 1) := by decide +kernel
theorem dX0_firstDay_2 : decode cX0_firstDay 2 = .ok (.invokevirtual 36, 3) := by decide +kernel
theorem dX0_firstDay_5 : decode cX0_firstDay 5 = .ok (.ifCond .eq 12, 3) := by decide +kernel
theorem dX0_firstDay_8 : decode cX0_firstDay 8 = .ok (.aload_n 0, 1) := by decide +kernel
theorem dX0_firstDay_9 : decode cX0_firstDay 9 = .ok (.getfield 19, 3) := by decide +kernel
theorem dX0_firstDay_12 : decode cX0_firstDay 12 = .ok (.iload_n 1, 1) := by decide +kernel
theorem dX0_firstDay_13 : decode cX0_firstDay 13 = .ok (.iaload, 1) := by decide +kernel
theorem dX0_firstDay_14 : decode cX0_firstDay 14 = .ok (.goto 4, 3) := by decide +kernel
theorem dX0_firstDay_17 : decode cX0_firstDay 17 = .ok (.iconst (-1), 1) := by decide +kernel
theorem dX0_firstDay_18 : decode cX0_firstDay 18 = .ok (.ireturn, 1) := by decide +kernel
theorem dX0_lastDay_0 : decode cX0_lastDay 0 = .ok (.aload_n 0, 1) := by decide +kernel
theorem dX0_lastDay_1 : decode cX0_lastDay 1 = .ok (.iload_n 1, 1) := by decide +kernel
theorem dX0_lastDay_2 : decode cX0_lastDay 2 = .ok (.invokevirtual 36, 3) := by decide +kernel
theorem dX0_lastDay_5 : decode cX0_lastDay 5 = .ok (.ifCond .eq 12, 3) := by decide +kernel
theorem dX0_lastDay_8 : decode cX0_lastDay 8 = .ok (.aload_n 0, 1) := by decide +kernel
theorem dX0_lastDay_9 : decode cX0_lastDay 9 = .ok (.getfield 22, 3) := by decide +kernel
theorem dX0_lastDay_12 : decode cX0_lastDay 12 = .ok (.iload_n 1, 1) := by decide +kernel
theorem dX0_lastDay_13 : decode cX0_lastDay 13 = .ok (.iaload, 1) := by decide +kernel
theorem dX0_lastDay_14 : decode cX0_lastDay 14 = .ok (.goto 4, 3) := by decide +kernel
theorem dX0_lastDay_17 : decode cX0_lastDay 17 = .ok (.iconst (-1), 1) := by decide +kernel
theorem dX0_lastDay_18 : decode cX0_lastDay 18 = .ok (.ireturn, 1) := by decide +kernel
theorem dX0_byNight_0 : decode cX0_byNight 0 = .ok (.aload_n 0, 1) := by decide +kernel
theorem dX0_byNight_1 : decode cX0_byNight 1 = .ok (.iload_n 1, 1) := by decide +kernel
theorem dX0_byNight_2 : decode cX0_byNight 2 = .ok (.invokevirtual 36, 3) := by decide +kernel
theorem dX0_byNight_5 : decode cX0_byNight 5 = .ok (.ifCond .eq 16, 3) := by decide +kernel
theorem dX0_byNight_8 : decode cX0_byNight 8 = .ok (.aload_n 0, 1) := by decide +kernel
theorem dX0_byNight_9 : decode cX0_byNight 9 = .ok (.getfield 25, 3) := by decide +kernel
theorem dX0_byNight_12 : decode cX0_byNight 12 = .ok (.iload_n 1, 1) := by decide +kernel
theorem dX0_byNight_13 : decode cX0_byNight 13 = .ok (.baload, 1) := by decide +kernel
theorem dX0_byNight_14 : decode cX0_byNight 14 = .ok (.ifCond .eq 7, 3) := by decide +kernel
theorem dX0_byNight_17 : decode cX0_byNight 17 = .ok (.iconst 1, 1) := by decide +kernel
theorem dX0_byNight_18 : decode cX0_byNight 18 = .ok (.goto 4, 3) := by decide +kernel
theorem dX0_byNight_21 : decode cX0_byNight 21 = .ok (.iconst 0, 1) := by decide +kernel
theorem dX0_byNight_22 : decode cX0_byNight 22 = .ok (.ireturn, 1) := by decide +kernel
theorem dX0_reviewDay_0 : decode cX0_reviewDay 0 = .ok (.aload_n 0, 1) := by decide +kernel
theorem dX0_reviewDay_1 : decode cX0_reviewDay 1 = .ok (.iload_n 1, 1) := by decide +kernel
theorem dX0_reviewDay_2 : decode cX0_reviewDay 2 = .ok (.invokevirtual 36, 3) := by decide +kernel
theorem dX0_reviewDay_5 : decode cX0_reviewDay 5 = .ok (.ifCond .eq 13, 3) := by decide +kernel
theorem dX0_reviewDay_8 : decode cX0_reviewDay 8 = .ok (.iload_n 2, 1) := by decide +kernel
theorem dX0_reviewDay_9 : decode cX0_reviewDay 9 = .ok (.ifCond .lt 9, 3) := by decide +kernel
theorem dX0_reviewDay_12 : decode cX0_reviewDay 12 = .ok (.iload_n 2, 1) := by decide +kernel
theorem dX0_reviewDay_13 : decode cX0_reviewDay 13 = .ok (.bipush 13, 2) := by decide +kernel
theorem dX0_reviewDay_15 : decode cX0_reviewDay 15 = .ok (.if_icmp .lt 5, 3) := by decide +kernel
theorem dX0_reviewDay_18 : decode cX0_reviewDay 18 = .ok (.iconst (-1), 1) := by decide +kernel
theorem dX0_reviewDay_19 : decode cX0_reviewDay 19 = .ok (.ireturn, 1) := by decide +kernel
theorem dX0_reviewDay_20 : decode cX0_reviewDay 20 = .ok (.iload_n 2, 1) := by decide +kernel
theorem dX0_reviewDay_21 : decode cX0_reviewDay 21 = .ok (.ifCond .ne 8, 3) := by decide +kernel
theorem dX0_reviewDay_24 : decode cX0_reviewDay 24 = .ok (.bipush 7, 2) := by decide +kernel
theorem dX0_reviewDay_26 : decode cX0_reviewDay 26 = .ok (.goto 12, 3) := by decide +kernel
theorem dX0_reviewDay_29 : decode cX0_reviewDay 29 = .ok (.bipush 28, 2) := by decide +kernel
theorem dX0_reviewDay_31 : decode cX0_reviewDay 31 = .ok (.bipush 90, 2) := by decide +kernel
theorem dX0_reviewDay_33 : decode cX0_reviewDay 33 = .ok (.iload_n 2, 1) := by decide +kernel
theorem dX0_reviewDay_34 : decode cX0_reviewDay 34 = .ok (.iconst 1, 1) := by decide +kernel
theorem dX0_reviewDay_35 : decode cX0_reviewDay 35 = .ok (.isub, 1) := by decide +kernel
theorem dX0_reviewDay_36 : decode cX0_reviewDay 36 = .ok (.imul, 1) := by decide +kernel
theorem dX0_reviewDay_37 : decode cX0_reviewDay 37 = .ok (.iadd, 1) := by decide +kernel
theorem dX0_reviewDay_38 : decode cX0_reviewDay 38 = .ok (.istore_n 3, 1) := by decide +kernel
theorem dX0_reviewDay_39 : decode cX0_reviewDay 39 = .ok (.aload_n 0, 1) := by decide +kernel
theorem dX0_reviewDay_40 : decode cX0_reviewDay 40 = .ok (.getfield 19, 3) := by decide +kernel
theorem dX0_reviewDay_43 : decode cX0_reviewDay 43 = .ok (.iload_n 1, 1) := by decide +kernel
theorem dX0_reviewDay_44 : decode cX0_reviewDay 44 = .ok (.iaload, 1) := by decide +kernel
theorem dX0_reviewDay_45 : decode cX0_reviewDay 45 = .ok (.iload_n 3, 1) := by decide +kernel
theorem dX0_reviewDay_46 : decode cX0_reviewDay 46 = .ok (.iadd, 1) := by decide +kernel
theorem dX0_reviewDay_47 : decode cX0_reviewDay 47 = .ok (.istore 4, 2) := by decide +kernel
theorem dX0_reviewDay_49 : decode cX0_reviewDay 49 = .ok (.iload 4, 2) := by decide +kernel
theorem dX0_reviewDay_51 : decode cX0_reviewDay 51 = .ok (.aload_n 0, 1) := by decide +kernel
theorem dX0_reviewDay_52 : decode cX0_reviewDay 52 = .ok (.getfield 22, 3) := by decide +kernel
theorem dX0_reviewDay_55 : decode cX0_reviewDay 55 = .ok (.iload_n 1, 1) := by decide +kernel
theorem dX0_reviewDay_56 : decode cX0_reviewDay 56 = .ok (.iaload, 1) := by decide +kernel
theorem dX0_reviewDay_57 : decode cX0_reviewDay 57 = .ok (.if_icmp .gt 8, 3) := by decide +kernel
theorem dX0_reviewDay_60 : decode cX0_reviewDay 60 = .ok (.iload 4, 2) := by decide +kernel
theorem dX0_reviewDay_62 : decode cX0_reviewDay 62 = .ok (.goto 4, 3) := by decide +kernel
theorem dX0_reviewDay_65 : decode cX0_reviewDay 65 = .ok (.iconst (-1), 1) := by decide +kernel
theorem dX0_reviewDay_66 : decode cX0_reviewDay 66 = .ok (.ireturn, 1) := by decide +kernel
theorem dX0_hasReviewOn_0 : decode cX0_hasReviewOn 0 = .ok (.iconst 0, 1) := by decide +kernel
theorem dX0_hasReviewOn_1 : decode cX0_hasReviewOn 1 = .ok (.istore_n 3, 1) := by decide +kernel
theorem dX0_hasReviewOn_2 : decode cX0_hasReviewOn 2 = .ok (.iload_n 3, 1) := by decide +kernel
theorem dX0_hasReviewOn_3 : decode cX0_hasReviewOn 3 = .ok (.bipush 13, 2) := by decide +kernel
theorem dX0_hasReviewOn_5 : decode cX0_hasReviewOn 5 = .ok (.if_icmp .ge 41, 3) := by decide +kernel
theorem dX0_hasReviewOn_8 : decode cX0_hasReviewOn 8 = .ok (.aload_n 0, 1) := by decide +kernel
theorem dX0_hasReviewOn_9 : decode cX0_hasReviewOn 9 = .ok (.iload_n 1, 1) := by decide +kernel
theorem dX0_hasReviewOn_10 : decode cX0_hasReviewOn 10 = .ok (.iload_n 3, 1) := by decide +kernel
theorem dX0_hasReviewOn_11 : decode cX0_hasReviewOn 11 = .ok (.invokevirtual 39, 3) := by decide +kernel
theorem dX0_hasReviewOn_14 : decode cX0_hasReviewOn 14 = .ok (.istore 4, 2) := by decide +kernel
theorem dX0_hasReviewOn_16 : decode cX0_hasReviewOn 16 = .ok (.iload 4, 2) := by decide +kernel
theorem dX0_hasReviewOn_18 : decode cX0_hasReviewOn 18 = .ok (.iconst (-1), 1) := by decide +kernel
theorem dX0_hasReviewOn_19 : decode cX0_hasReviewOn 19 = .ok (.if_icmp .eq 9, 3) := by decide +kernel
theorem dX0_hasReviewOn_22 : decode cX0_hasReviewOn 22 = .ok (.iload 4, 2) := by decide +kernel
theorem dX0_hasReviewOn_24 : decode cX0_hasReviewOn 24 = .ok (.iload_n 2, 1) := by decide +kernel
theorem dX0_hasReviewOn_25 : decode cX0_hasReviewOn 25 = .ok (.if_icmp .ne 15, 3) := by decide +kernel
theorem dX0_hasReviewOn_28 : decode cX0_hasReviewOn 28 = .ok (.iload 4, 2) := by decide +kernel
theorem dX0_hasReviewOn_30 : decode cX0_hasReviewOn 30 = .ok (.iconst (-1), 1) := by decide +kernel
theorem dX0_hasReviewOn_31 : decode cX0_hasReviewOn 31 = .ok (.if_icmp .eq 7, 3) := by decide +kernel
theorem dX0_hasReviewOn_34 : decode cX0_hasReviewOn 34 = .ok (.iconst 1, 1) := by decide +kernel
theorem dX0_hasReviewOn_35 : decode cX0_hasReviewOn 35 = .ok (.goto 4, 3) := by decide +kernel
theorem dX0_hasReviewOn_38 : decode cX0_hasReviewOn 38 = .ok (.iconst 0, 1) := by decide +kernel
theorem dX0_hasReviewOn_39 : decode cX0_hasReviewOn 39 = .ok (.ireturn, 1) := by decide +kernel
theorem dX0_hasReviewOn_40 : decode cX0_hasReviewOn 40 = .ok (.iinc 3 1, 3) := by decide +kernel
theorem dX0_hasReviewOn_43 : decode cX0_hasReviewOn 43 = .ok (.goto (-41), 3) := by decide +kernel
theorem dX0_hasReviewOn_46 : decode cX0_hasReviewOn 46 = .ok (.iconst 0, 1) := by decide +kernel
theorem dX0_hasReviewOn_47 : decode cX0_hasReviewOn 47 = .ok (.ireturn, 1) := by decide +kernel
theorem dX1_init_0 : decode cX1_init 0 = .ok (.aload_n 0, 1) := by decide +kernel
theorem dX1_init_1 : decode cX1_init 1 = .ok (.invokespecial 3, 3) := by decide +kernel
theorem dX1_init_4 : decode cX1_init 4 = .ok (.aload_n 0, 1) := by decide +kernel
theorem dX1_init_5 : decode cX1_init 5 = .ok (.bipush 100, 2) := by decide +kernel
theorem dX1_init_7 : decode cX1_init 7 = .ok (.newarray .int, 2) := by decide +kernel
theorem dX1_init_9 : decode cX1_init 9 = .ok (.putfield 9, 3) := by decide +kernel
theorem dX1_init_12 : decode cX1_init 12 = .ok (.aload_n 0, 1) := by decide +kernel
theorem dX1_init_13 : decode cX1_init 13 = .ok (.bipush 100, 2) := by decide +kernel
theorem dX1_init_15 : decode cX1_init 15 = .ok (.newarray .int, 2) := by decide +kernel
theorem dX1_init_17 : decode cX1_init 17 = .ok (.putfield 15, 3) := by decide +kernel
theorem dX1_init_20 : decode cX1_init 20 = .ok (.aload_n 0, 1) := by decide +kernel
theorem dX1_init_21 : decode cX1_init 21 = .ok (.bipush 100, 2) := by decide +kernel
theorem dX1_init_23 : decode cX1_init 23 = .ok (.newarray .int, 2) := by decide +kernel
theorem dX1_init_25 : decode cX1_init 25 = .ok (.putfield 18, 3) := by decide +kernel
theorem dX1_init_28 : decode cX1_init 28 = .ok (.aload_n 0, 1) := by decide +kernel
theorem dX1_init_29 : decode cX1_init 29 = .ok (.bipush 100, 2) := by decide +kernel
theorem dX1_init_31 : decode cX1_init 31 = .ok (.newarray .int, 2) := by decide +kernel
theorem dX1_init_33 : decode cX1_init 33 = .ok (.putfield 21, 3) := by decide +kernel
theorem dX1_init_36 : decode cX1_init 36 = .ok (.aload_n 0, 1) := by decide +kernel
theorem dX1_init_37 : decode cX1_init 37 = .ok (.bipush 100, 2) := by decide +kernel
theorem dX1_init_39 : decode cX1_init 39 = .ok (.newarray .int, 2) := by decide +kernel
theorem dX1_init_41 : decode cX1_init 41 = .ok (.putfield 24, 3) := by decide +kernel
theorem dX1_init_44 : decode cX1_init 44 = .ok (.return_, 1) := by decide +kernel
theorem dX1_size_0 : decode cX1_size 0 = .ok (.aload_n 0, 1) := by decide +kernel
theorem dX1_size_1 : decode cX1_size 1 = .ok (.getfield 27, 3) := by decide +kernel
theorem dX1_size_4 : decode cX1_size 4 = .ok (.ireturn, 1) := by decide +kernel
theorem dX1_add_0 : decode cX1_add 0 = .ok (.aload_n 0, 1) := by decide +kernel
theorem dX1_add_1 : decode cX1_add 1 = .ok (.getfield 27, 3) := by decide +kernel
theorem dX1_add_4 : decode cX1_add 4 = .ok (.bipush 100, 2) := by decide +kernel
theorem dX1_add_6 : decode cX1_add 6 = .ok (.if_icmp .lt 5, 3) := by decide +kernel
theorem dX1_add_9 : decode cX1_add 9 = .ok (.iconst (-1), 1) := by decide +kernel
theorem dX1_add_10 : decode cX1_add 10 = .ok (.ireturn, 1) := by decide +kernel
theorem dX1_add_11 : decode cX1_add 11 = .ok (.aload_n 0, 1) := by decide +kernel
theorem dX1_add_12 : decode cX1_add 12 = .ok (.getfield 9, 3) := by decide +kernel
theorem dX1_add_15 : decode cX1_add 15 = .ok (.aload_n 0, 1) := by decide +kernel
theorem dX1_add_16 : decode cX1_add 16 = .ok (.getfield 27, 3) := by decide +kernel
theorem dX1_add_19 : decode cX1_add 19 = .ok (.iload_n 1, 1) := by decide +kernel
theorem dX1_add_20 : decode cX1_add 20 = .ok (.iastore, 1) := by decide +kernel
theorem dX1_add_21 : decode cX1_add 21 = .ok (.aload_n 0, 1) := by decide +kernel
theorem dX1_add_22 : decode cX1_add 22 = .ok (.getfield 15, 3) := by decide +kernel
theorem dX1_add_25 : decode cX1_add 25 = .ok (.aload_n 0, 1) := by decide +kernel
theorem dX1_add_26 : decode cX1_add 26 = .ok (.getfield 27, 3) := by decide +kernel
theorem dX1_add_29 : decode cX1_add 29 = .ok (.iload_n 2, 1) := by decide +kernel
theorem dX1_add_30 : decode cX1_add 30 = .ok (.iastore, 1) := by decide +kernel
theorem dX1_add_31 : decode cX1_add 31 = .ok (.aload_n 0, 1) := by decide +kernel
theorem dX1_add_32 : decode cX1_add 32 = .ok (.getfield 18, 3) := by decide +kernel
theorem dX1_add_35 : decode cX1_add 35 = .ok (.aload_n 0, 1) := by decide +kernel
theorem dX1_add_36 : decode cX1_add 36 = .ok (.getfield 27, 3) := by decide +kernel
theorem dX1_add_39 : decode cX1_add 39 = .ok (.iload_n 3, 1) := by decide +kernel
theorem dX1_add_40 : decode cX1_add 40 = .ok (.iastore, 1) := by decide +kernel
theorem dX1_add_41 : decode cX1_add 41 = .ok (.aload_n 0, 1) := by decide +kernel
theorem dX1_add_42 : decode cX1_add 42 = .ok (.getfield 21, 3) := by decide +kernel
theorem dX1_add_45 : decode cX1_add 45 = .ok (.aload_n 0, 1) := by decide +kernel
theorem dX1_add_46 : decode cX1_add 46 = .ok (.getfield 27, 3) := by decide +kernel
theorem dX1_add_49 : decode cX1_add 49 = .ok (.iload 4, 2) := by decide +kernel
theorem dX1_add_51 : decode cX1_add 51 = .ok (.iastore, 1) := by decide +kernel
theorem dX1_add_52 : decode cX1_add 52 = .ok (.aload_n 0, 1) := by decide +kernel
theorem dX1_add_53 : decode cX1_add 53 = .ok (.getfield 24, 3) := by decide +kernel
theorem dX1_add_56 : decode cX1_add 56 = .ok (.aload_n 0, 1) := by decide +kernel
theorem dX1_add_57 : decode cX1_add 57 = .ok (.getfield 27, 3) := by decide +kernel
theorem dX1_add_60 : decode cX1_add 60 = .ok (.iload 5, 2) := by decide +kernel
theorem dX1_add_62 : decode cX1_add 62 = .ok (.iastore, 1) := by decide +kernel
theorem dX1_add_63 : decode cX1_add 63 = .ok (.aload_n 0, 1) := by decide +kernel
theorem dX1_add_64 : decode cX1_add 64 = .ok (.dup, 1) := by decide +kernel
theorem dX1_add_65 : decode cX1_add 65 = .ok (.getfield 27, 3) := by decide +kernel
theorem dX1_add_68 : decode cX1_add 68 = .ok (.iconst 1, 1) := by decide +kernel
theorem dX1_add_69 : decode cX1_add 69 = .ok (.iadd, 1) := by decide +kernel
theorem dX1_add_70 : decode cX1_add 70 = .ok (.putfield 27, 3) := by decide +kernel
theorem dX1_add_73 : decode cX1_add 73 = .ok (.aload_n 0, 1) := by decide +kernel
theorem dX1_add_74 : decode cX1_add 74 = .ok (.getfield 27, 3) := by decide +kernel
theorem dX1_add_77 : decode cX1_add 77 = .ok (.ireturn, 1) := by decide +kernel
theorem dX1_numberOn_0 : decode cX1_numberOn 0 = .ok (.iconst 0, 1) := by decide +kernel
theorem dX1_numberOn_1 : decode cX1_numberOn 1 = .ok (.istore 5, 2) := by decide +kernel
theorem dX1_numberOn_3 : decode cX1_numberOn 3 = .ok (.iconst (-1), 1) := by decide +kernel
theorem dX1_numberOn_4 : decode cX1_numberOn 4 = .ok (.istore 6, 2) := by decide +kernel
theorem dX1_numberOn_6 : decode cX1_numberOn 6 = .ok (.iconst 0, 1) := by decide +kernel
theorem dX1_numberOn_7 : decode cX1_numberOn 7 = .ok (.istore 7, 2) := by decide +kernel
theorem dX1_numberOn_9 : decode cX1_numberOn 9 = .ok (.iload 7, 2) := by decide +kernel
theorem dX1_numberOn_11 : decode cX1_numberOn 11 = .ok (.aload_n 0, 1) := by decide +kernel
theorem dX1_numberOn_12 : decode cX1_numberOn 12 = .ok (.getfield 27, 3) := by decide +kernel
theorem dX1_numberOn_15 : decode cX1_numberOn 15 = .ok (.if_icmp .ge 96, 3) := by decide +kernel
theorem dX1_numberOn_18 : decode cX1_numberOn 18 = .ok (.aload_n 0, 1) := by decide +kernel
theorem dX1_numberOn_19 : decode cX1_numberOn 19 = .ok (.getfield 9, 3) := by decide +kernel
theorem dX1_numberOn_22 : decode cX1_numberOn 22 = .ok (.iload 7, 2) := by decide +kernel
theorem dX1_numberOn_24 : decode cX1_numberOn 24 = .ok (.iaload, 1) := by decide +kernel
theorem dX1_numberOn_25 : decode cX1_numberOn 25 = .ok (.iload_n 1, 1) := by decide +kernel
theorem dX1_numberOn_26 : decode cX1_numberOn 26 = .ok (.if_icmp .ne 30, 3) := by decide +kernel
theorem dX1_numberOn_29 : decode cX1_numberOn 29 = .ok (.aload_n 0, 1) := by decide +kernel
theorem dX1_numberOn_30 : decode cX1_numberOn 30 = .ok (.getfield 15, 3) := by decide +kernel
theorem dX1_numberOn_33 : decode cX1_numberOn 33 = .ok (.iload 7, 2) := by decide +kernel
theorem dX1_numberOn_35 : decode cX1_numberOn 35 = .ok (.iaload, 1) := by decide +kernel
theorem dX1_numberOn_36 : decode cX1_numberOn 36 = .ok (.iload_n 2, 1) := by decide +kernel
theorem dX1_numberOn_37 : decode cX1_numberOn 37 = .ok (.if_icmp .ne 19, 3) := by decide +kernel
theorem dX1_numberOn_40 : decode cX1_numberOn 40 = .ok (.aload_n 0, 1) := by decide +kernel
theorem dX1_numberOn_41 : decode cX1_numberOn 41 = .ok (.getfield 24, 3) := by decide +kernel
theorem dX1_numberOn_44 : decode cX1_numberOn 44 = .ok (.iload 7, 2) := by decide +kernel
theorem dX1_numberOn_46 : decode cX1_numberOn 46 = .ok (.iaload, 1) := by decide +kernel
theorem dX1_numberOn_47 : decode cX1_numberOn 47 = .ok (.iload 4, 2) := by decide +kernel
theorem dX1_numberOn_49 : decode cX1_numberOn 49 = .ok (.if_icmp .gt 7, 3) := by decide +kernel
theorem dX1_numberOn_52 : decode cX1_numberOn 52 = .ok (.iconst 1, 1) := by decide +kernel
theorem dX1_numberOn_53 : decode cX1_numberOn 53 = .ok (.goto 4, 3) := by decide +kernel
theorem dX1_numberOn_56 : decode cX1_numberOn 56 = .ok (.iconst 0, 1) := by decide +kernel
theorem dX1_numberOn_57 : decode cX1_numberOn 57 = .ok (.istore 8, 2) := by decide +kernel
theorem dX1_numberOn_59 : decode cX1_numberOn 59 = .ok (.iload 8, 2) := by decide +kernel
theorem dX1_numberOn_61 : decode cX1_numberOn 61 = .ok (.ifCond .eq 44, 3) := by decide +kernel
theorem dX1_numberOn_64 : decode cX1_numberOn 64 = .ok (.aload_n 0, 1) := by decide +kernel
theorem dX1_numberOn_65 : decode cX1_numberOn 65 = .ok (.getfield 21, 3) := by decide +kernel
theorem dX1_numberOn_68 : decode cX1_numberOn 68 = .ok (.iload 7, 2) := by decide +kernel
theorem dX1_numberOn_70 : decode cX1_numberOn 70 = .ok (.iaload, 1) := by decide +kernel
theorem dX1_numberOn_71 : decode cX1_numberOn 71 = .ok (.iload_n 3, 1) := by decide +kernel
theorem dX1_numberOn_72 : decode cX1_numberOn 72 = .ok (.if_icmp .gt 33, 3) := by decide +kernel
theorem dX1_numberOn_75 : decode cX1_numberOn 75 = .ok (.aload_n 0, 1) := by decide +kernel
theorem dX1_numberOn_76 : decode cX1_numberOn 76 = .ok (.getfield 21, 3) := by decide +kernel
theorem dX1_numberOn_79 : decode cX1_numberOn 79 = .ok (.iload 7, 2) := by decide +kernel
theorem dX1_numberOn_81 : decode cX1_numberOn 81 = .ok (.iaload, 1) := by decide +kernel
theorem dX1_numberOn_82 : decode cX1_numberOn 82 = .ok (.iload 6, 2) := by decide +kernel
theorem dX1_numberOn_84 : decode cX1_numberOn 84 = .ok (.if_icmp .lt 21, 3) := by decide +kernel
theorem dX1_numberOn_87 : decode cX1_numberOn 87 = .ok (.aload_n 0, 1) := by decide +kernel
theorem dX1_numberOn_88 : decode cX1_numberOn 88 = .ok (.getfield 18, 3) := by decide +kernel
theorem dX1_numberOn_91 : decode cX1_numberOn 91 = .ok (.iload 7, 2) := by decide +kernel
theorem dX1_numberOn_93 : decode cX1_numberOn 93 = .ok (.iaload, 1) := by decide +kernel
theorem dX1_numberOn_94 : decode cX1_numberOn 94 = .ok (.istore 5, 2) := by decide +kernel
theorem dX1_numberOn_96 : decode cX1_numberOn 96 = .ok (.aload_n 0, 1) := by decide +kernel
theorem dX1_numberOn_97 : decode cX1_numberOn 97 = .ok (.getfield 21, 3) := by decide +kernel
theorem dX1_numberOn_100 : decode cX1_numberOn 100 = .ok (.iload 7, 2) := by decide +kernel
theorem dX1_numberOn_102 : decode cX1_numberOn 102 = .ok (.iaload, 1) := by decide +kernel
theorem dX1_numberOn_103 : decode cX1_numberOn 103 = .ok (.istore 6, 2) := by decide +kernel
theorem dX1_numberOn_105 : decode cX1_numberOn 105 = .ok (.iinc 7 1, 3) := by decide +kernel
theorem dX1_numberOn_108 : decode cX1_numberOn 108 = .ok (.goto (-99), 3) := by decide +kernel
theorem dX1_numberOn_111 : decode cX1_numberOn 111 = .ok (.iload 5, 2) := by decide +kernel
theorem dX1_numberOn_113 : decode cX1_numberOn 113 = .ok (.ireturn, 1) := by decide +kernel
theorem dX1_layOut_0 : decode cX1_layOut 0 = .ok (.aload_n 1, 1) := by decide +kernel
theorem dX1_layOut_1 : decode cX1_layOut 1 = .ok (.iload 4, 2) := by decide +kernel
theorem dX1_layOut_3 : decode cX1_layOut 3 = .ok (.invokevirtual 31, 3) := by decide +kernel
theorem dX1_layOut_6 : decode cX1_layOut 6 = .ok (.iconst 0, 1) := by decide +kernel
theorem dX1_layOut_7 : decode cX1_layOut 7 = .ok (.istore 6, 2) := by decide +kernel
theorem dX1_layOut_9 : decode cX1_layOut 9 = .ok (.iload 6, 2) := by decide +kernel
theorem dX1_layOut_11 : decode cX1_layOut 11 = .ok (.aload_n 0, 1) := by decide +kernel
theorem dX1_layOut_12 : decode cX1_layOut 12 = .ok (.getfield 27, 3) := by decide +kernel
theorem dX1_layOut_15 : decode cX1_layOut 15 = .ok (.if_icmp .ge 77, 3) := by decide +kernel
theorem dX1_layOut_18 : decode cX1_layOut 18 = .ok (.aload_n 0, 1) := by decide +kernel
theorem dX1_layOut_19 : decode cX1_layOut 19 = .ok (.getfield 9, 3) := by decide +kernel
theorem dX1_layOut_22 : decode cX1_layOut 22 = .ok (.iload 6, 2) := by decide +kernel
theorem dX1_layOut_24 : decode cX1_layOut 24 = .ok (.iaload, 1) := by decide +kernel
theorem dX1_layOut_25 : decode cX1_layOut 25 = .ok (.bipush 8, 2) := by decide +kernel
theorem dX1_layOut_27 : decode cX1_layOut 27 = .ok (.if_icmp .ge 7, 3) := by decide +kernel
theorem dX1_layOut_30 : decode cX1_layOut 30 = .ok (.iload_n 2, 1) := by decide +kernel
theorem dX1_layOut_31 : decode cX1_layOut 31 = .ok (.goto 4, 3) := by decide +kernel
theorem dX1_layOut_34 : decode cX1_layOut 34 = .ok (.iload_n 3, 1) := by decide +kernel
theorem dX1_layOut_35 : decode cX1_layOut 35 = .ok (.istore 7, 2) := by decide +kernel
theorem dX1_layOut_37 : decode cX1_layOut 37 = .ok (.aload_n 0, 1) := by decide +kernel
theorem dX1_layOut_38 : decode cX1_layOut 38 = .ok (.getfield 15, 3) := by decide +kernel
theorem dX1_layOut_41 : decode cX1_layOut 41 = .ok (.iload 6, 2) := by decide +kernel
theorem dX1_layOut_43 : decode cX1_layOut 43 = .ok (.iaload, 1) := by decide +kernel
theorem dX1_layOut_44 : decode cX1_layOut 44 = .ok (.iload 7, 2) := by decide +kernel
theorem dX1_layOut_46 : decode cX1_layOut 46 = .ok (.if_icmp .ne 40, 3) := by decide +kernel
theorem dX1_layOut_49 : decode cX1_layOut 49 = .ok (.aload_n 0, 1) := by decide +kernel
theorem dX1_layOut_50 : decode cX1_layOut 50 = .ok (.getfield 24, 3) := by decide +kernel
theorem dX1_layOut_53 : decode cX1_layOut 53 = .ok (.iload 6, 2) := by decide +kernel
theorem dX1_layOut_55 : decode cX1_layOut 55 = .ok (.iaload, 1) := by decide +kernel
theorem dX1_layOut_56 : decode cX1_layOut 56 = .ok (.iload 5, 2) := by decide +kernel
theorem dX1_layOut_58 : decode cX1_layOut 58 = .ok (.if_icmp .gt 28, 3) := by decide +kernel
theorem dX1_layOut_61 : decode cX1_layOut 61 = .ok (.aload_n 1, 1) := by decide +kernel
theorem dX1_layOut_62 : decode cX1_layOut 62 = .ok (.aload_n 0, 1) := by decide +kernel
theorem dX1_layOut_63 : decode cX1_layOut 63 = .ok (.getfield 9, 3) := by decide +kernel
theorem dX1_layOut_66 : decode cX1_layOut 66 = .ok (.iload 6, 2) := by decide +kernel
theorem dX1_layOut_68 : decode cX1_layOut 68 = .ok (.iaload, 1) := by decide +kernel
theorem dX1_layOut_69 : decode cX1_layOut 69 = .ok (.aload_n 0, 1) := by decide +kernel
theorem dX1_layOut_70 : decode cX1_layOut 70 = .ok (.getfield 18, 3) := by decide +kernel
theorem dX1_layOut_73 : decode cX1_layOut 73 = .ok (.iload 6, 2) := by decide +kernel
theorem dX1_layOut_75 : decode cX1_layOut 75 = .ok (.iaload, 1) := by decide +kernel
theorem dX1_layOut_76 : decode cX1_layOut 76 = .ok (.aload_n 0, 1) := by decide +kernel
theorem dX1_layOut_77 : decode cX1_layOut 77 = .ok (.getfield 21, 3) := by decide +kernel
theorem dX1_layOut_80 : decode cX1_layOut 80 = .ok (.iload 6, 2) := by decide +kernel
theorem dX1_layOut_82 : decode cX1_layOut 82 = .ok (.iaload, 1) := by decide +kernel
theorem dX1_layOut_83 : decode cX1_layOut 83 = .ok (.invokevirtual 37, 3) := by decide +kernel
theorem dX1_layOut_86 : decode cX1_layOut 86 = .ok (.iinc 6 1, 3) := by decide +kernel
theorem dX1_layOut_89 : decode cX1_layOut 89 = .ok (.goto (-80), 3) := by decide +kernel
theorem dX1_layOut_92 : decode cX1_layOut 92 = .ok (.return_, 1) := by decide +kernel
theorem dX2_init_0 : decode cX2_init 0 = .ok (.aload_n 0, 1) := by decide +kernel
theorem dX2_init_1 : decode cX2_init 1 = .ok (.invokespecial 3, 3) := by decide +kernel
theorem dX2_init_4 : decode cX2_init 4 = .ok (.aload_n 0, 1) := by decide +kernel
theorem dX2_init_5 : decode cX2_init 5 = .ok (.iconst 5, 1) := by decide +kernel
theorem dX2_init_6 : decode cX2_init 6 = .ok (.newarray .int, 2) := by decide +kernel
theorem dX2_init_8 : decode cX2_init 8 = .ok (.putfield 9, 3) := by decide +kernel
theorem dX2_init_11 : decode cX2_init 11 = .ok (.aload_n 0, 1) := by decide +kernel
theorem dX2_init_12 : decode cX2_init 12 = .ok (.iconst 5, 1) := by decide +kernel
theorem dX2_init_13 : decode cX2_init 13 = .ok (.newarray .int, 2) := by decide +kernel
theorem dX2_init_15 : decode cX2_init 15 = .ok (.putfield 15, 3) := by decide +kernel
theorem dX2_init_18 : decode cX2_init 18 = .ok (.return_, 1) := by decide +kernel
theorem dX2_size_0 : decode cX2_size 0 = .ok (.aload_n 0, 1) := by decide +kernel
theorem dX2_size_1 : decode cX2_size 1 = .ok (.getfield 18, 3) := by decide +kernel
theorem dX2_size_4 : decode cX2_size 4 = .ok (.ireturn, 1) := by decide +kernel
theorem dX2_has_0 : decode cX2_has 0 = .ok (.iload_n 1, 1) := by decide +kernel
theorem dX2_has_1 : decode cX2_has 1 = .ok (.ifCond .lt 15, 3) := by decide +kernel
theorem dX2_has_4 : decode cX2_has 4 = .ok (.iload_n 1, 1) := by decide +kernel
theorem dX2_has_5 : decode cX2_has 5 = .ok (.aload_n 0, 1) := by decide +kernel
theorem dX2_has_6 : decode cX2_has 6 = .ok (.getfield 18, 3) := by decide +kernel
theorem dX2_has_9 : decode cX2_has 9 = .ok (.if_icmp .ge 7, 3) := by decide +kernel
theorem dX2_has_12 : decode cX2_has 12 = .ok (.iconst 1, 1) := by decide +kernel
theorem dX2_has_13 : decode cX2_has 13 = .ok (.goto 4, 3) := by decide +kernel
theorem dX2_has_16 : decode cX2_has 16 = .ok (.iconst 0, 1) := by decide +kernel
theorem dX2_has_17 : decode cX2_has 17 = .ok (.ireturn, 1) := by decide +kernel
theorem dX2_add_0 : decode cX2_add 0 = .ok (.aload_n 0, 1) := by decide +kernel
theorem dX2_add_1 : decode cX2_add 1 = .ok (.getfield 18, 3) := by decide +kernel
theorem dX2_add_4 : decode cX2_add 4 = .ok (.iconst 5, 1) := by decide +kernel
theorem dX2_add_5 : decode cX2_add 5 = .ok (.if_icmp .ge 14, 3) := by decide +kernel
theorem dX2_add_8 : decode cX2_add 8 = .ok (.iload_n 1, 1) := by decide +kernel
theorem dX2_add_9 : decode cX2_add 9 = .ok (.iconst 1, 1) := by decide +kernel
theorem dX2_add_10 : decode cX2_add 10 = .ok (.if_icmp .lt 9, 3) := by decide +kernel
theorem dX2_add_13 : decode cX2_add 13 = .ok (.iload_n 1, 1) := by decide +kernel
theorem dX2_add_14 : decode cX2_add 14 = .ok (.bipush 6, 2) := by decide +kernel
theorem dX2_add_16 : decode cX2_add 16 = .ok (.if_icmp .le 5, 3) := by decide +kernel
theorem dX2_add_19 : decode cX2_add 19 = .ok (.iconst (-1), 1) := by decide +kernel
theorem dX2_add_20 : decode cX2_add 20 = .ok (.ireturn, 1) := by decide +kernel
theorem dX2_add_21 : decode cX2_add 21 = .ok (.aload_n 0, 1) := by decide +kernel
theorem dX2_add_22 : decode cX2_add 22 = .ok (.getfield 9, 3) := by decide +kernel
theorem dX2_add_25 : decode cX2_add 25 = .ok (.aload_n 0, 1) := by decide +kernel
theorem dX2_add_26 : decode cX2_add 26 = .ok (.getfield 18, 3) := by decide +kernel
theorem dX2_add_29 : decode cX2_add 29 = .ok (.iload_n 1, 1) := by decide +kernel
theorem dX2_add_30 : decode cX2_add 30 = .ok (.iastore, 1) := by decide +kernel
theorem dX2_add_31 : decode cX2_add 31 = .ok (.aload_n 0, 1) := by decide +kernel
theorem dX2_add_32 : decode cX2_add 32 = .ok (.getfield 15, 3) := by decide +kernel
theorem dX2_add_35 : decode cX2_add 35 = .ok (.aload_n 0, 1) := by decide +kernel
theorem dX2_add_36 : decode cX2_add 36 = .ok (.getfield 18, 3) := by decide +kernel
theorem dX2_add_39 : decode cX2_add 39 = .ok (.iconst (-1), 1) := by decide +kernel
theorem dX2_add_40 : decode cX2_add 40 = .ok (.iastore, 1) := by decide +kernel
theorem dX2_add_41 : decode cX2_add 41 = .ok (.aload_n 0, 1) := by decide +kernel
theorem dX2_add_42 : decode cX2_add 42 = .ok (.dup, 1) := by decide +kernel
theorem dX2_add_43 : decode cX2_add 43 = .ok (.getfield 18, 3) := by decide +kernel
theorem dX2_add_46 : decode cX2_add 46 = .ok (.iconst 1, 1) := by decide +kernel
theorem dX2_add_47 : decode cX2_add 47 = .ok (.iadd, 1) := by decide +kernel
theorem dX2_add_48 : decode cX2_add 48 = .ok (.putfield 18, 3) := by decide +kernel
theorem dX2_add_51 : decode cX2_add 51 = .ok (.aload_n 0, 1) := by decide +kernel
theorem dX2_add_52 : decode cX2_add 52 = .ok (.getfield 18, 3) := by decide +kernel
theorem dX2_add_55 : decode cX2_add 55 = .ok (.iconst 1, 1) := by decide +kernel
theorem dX2_add_56 : decode cX2_add 56 = .ok (.isub, 1) := by decide +kernel
theorem dX2_add_57 : decode cX2_add 57 = .ok (.ireturn, 1) := by decide +kernel
theorem dX2_bedsOf_0 : decode cX2_bedsOf 0 = .ok (.aload_n 0, 1) := by decide +kernel
theorem dX2_bedsOf_1 : decode cX2_bedsOf 1 = .ok (.iload_n 1, 1) := by decide +kernel
theorem dX2_bedsOf_2 : decode cX2_bedsOf 2 = .ok (.invokevirtual 22, 3) := by decide +kernel
theorem dX2_bedsOf_5 : decode cX2_bedsOf 5 = .ok (.ifCond .eq 12, 3) := by decide +kernel
theorem dX2_bedsOf_8 : decode cX2_bedsOf 8 = .ok (.aload_n 0, 1) := by decide +kernel
theorem dX2_bedsOf_9 : decode cX2_bedsOf 9 = .ok (.getfield 9, 3) := by decide +kernel
theorem dX2_bedsOf_12 : decode cX2_bedsOf 12 = .ok (.iload_n 1, 1) := by decide +kernel
theorem dX2_bedsOf_13 : decode cX2_bedsOf 13 = .ok (.iaload, 1) := by decide +kernel
theorem dX2_bedsOf_14 : decode cX2_bedsOf 14 = .ok (.goto 4, 3) := by decide +kernel
theorem dX2_bedsOf_17 : decode cX2_bedsOf 17 = .ok (.iconst 0, 1) := by decide +kernel
theorem dX2_bedsOf_18 : decode cX2_bedsOf 18 = .ok (.ireturn, 1) := by decide +kernel
theorem dX2_closeFrom_0 : decode cX2_closeFrom 0 = .ok (.aload_n 0, 1) := by decide +kernel
theorem dX2_closeFrom_1 : decode cX2_closeFrom 1 = .ok (.iload_n 1, 1) := by decide +kernel
theorem dX2_closeFrom_2 : decode cX2_closeFrom 2 = .ok (.invokevirtual 22, 3) := by decide +kernel
theorem dX2_closeFrom_5 : decode cX2_closeFrom 5 = .ok (.ifCond .eq 10, 3) := by decide +kernel
theorem dX2_closeFrom_8 : decode cX2_closeFrom 8 = .ok (.aload_n 0, 1) := by decide +kernel
theorem dX2_closeFrom_9 : decode cX2_closeFrom 9 = .ok (.getfield 15, 3) := by decide +kernel
theorem dX2_closeFrom_12 : decode cX2_closeFrom 12 = .ok (.iload_n 1, 1) := by decide +kernel
theorem dX2_closeFrom_13 : decode cX2_closeFrom 13 = .ok (.iload_n 2, 1) := by decide +kernel
theorem dX2_closeFrom_14 : decode cX2_closeFrom 14 = .ok (.iastore, 1) := by decide +kernel
theorem dX2_closeFrom_15 : decode cX2_closeFrom 15 = .ok (.return_, 1) := by decide +kernel
theorem dX2_closingOf_0 : decode cX2_closingOf 0 = .ok (.aload_n 0, 1) := by decide +kernel
theorem dX2_closingOf_1 : decode cX2_closingOf 1 = .ok (.iload_n 1, 1) := by decide +kernel
theorem dX2_closingOf_2 : decode cX2_closingOf 2 = .ok (.invokevirtual 22, 3) := by decide +kernel
theorem dX2_closingOf_5 : decode cX2_closingOf 5 = .ok (.ifCond .eq 22, 3) := by decide +kernel
theorem dX2_closingOf_8 : decode cX2_closingOf 8 = .ok (.aload_n 0, 1) := by decide +kernel
theorem dX2_closingOf_9 : decode cX2_closingOf 9 = .ok (.getfield 15, 3) := by decide +kernel
theorem dX2_closingOf_12 : decode cX2_closingOf 12 = .ok (.iload_n 1, 1) := by decide +kernel
theorem dX2_closingOf_13 : decode cX2_closingOf 13 = .ok (.iaload, 1) := by decide +kernel
theorem dX2_closingOf_14 : decode cX2_closingOf 14 = .ok (.iconst (-1), 1) := by decide +kernel
theorem dX2_closingOf_15 : decode cX2_closingOf 15 = .ok (.if_icmp .eq 12, 3) := by decide +kernel
theorem dX2_closingOf_18 : decode cX2_closingOf 18 = .ok (.aload_n 0, 1) := by decide +kernel
theorem dX2_closingOf_19 : decode cX2_closingOf 19 = .ok (.getfield 15, 3) := by decide +kernel
theorem dX2_closingOf_22 : decode cX2_closingOf 22 = .ok (.iload_n 1, 1) := by decide +kernel
theorem dX2_closingOf_23 : decode cX2_closingOf 23 = .ok (.iaload, 1) := by decide +kernel
theorem dX2_closingOf_24 : decode cX2_closingOf 24 = .ok (.goto 6, 3) := by decide +kernel
theorem dX2_closingOf_27 : decode cX2_closingOf 27 = .ok (.sipush 1000, 3) := by decide +kernel
theorem dX2_closingOf_30 : decode cX2_closingOf 30 = .ok (.ireturn, 1) := by decide +kernel
theorem dX3_init_0 : decode cX3_init 0 = .ok (.aload_n 0, 1) := by decide +kernel
theorem dX3_init_1 : decode cX3_init 1 = .ok (.invokespecial 3, 3) := by decide +kernel
theorem dX3_init_4 : decode cX3_init 4 = .ok (.aload_n 0, 1) := by decide +kernel
theorem dX3_init_5 : decode cX3_init 5 = .ok (.new 9, 3) := by decide +kernel
theorem dX3_init_8 : decode cX3_init 8 = .ok (.dup, 1) := by decide +kernel
theorem dX3_init_9 : decode cX3_init 9 = .ok (.invokespecial 11, 3) := by decide +kernel
theorem dX3_init_12 : decode cX3_init 12 = .ok (.putfield 12, 3) := by decide +kernel
theorem dX3_init_15 : decode cX3_init 15 = .ok (.aload_n 0, 1) := by decide +kernel
theorem dX3_init_16 : decode cX3_init 16 = .ok (.iconst (-1), 1) := by decide +kernel
theorem dX3_init_17 : decode cX3_init 17 = .ok (.putfield 18, 3) := by decide +kernel
theorem dX3_init_20 : decode cX3_init 20 = .ok (.aload_n 0, 1) := by decide +kernel
theorem dX3_init_21 : decode cX3_init 21 = .ok (.aload_n 1, 1) := by decide +kernel
theorem dX3_init_22 : decode cX3_init 22 = .ok (.putfield 22, 3) := by decide +kernel
theorem dX3_init_25 : decode cX3_init 25 = .ok (.aload_n 0, 1) := by decide +kernel
theorem dX3_init_26 : decode cX3_init 26 = .ok (.aload_n 2, 1) := by decide +kernel
theorem dX3_init_27 : decode cX3_init 27 = .ok (.putfield 26, 3) := by decide +kernel
theorem dX3_init_30 : decode cX3_init 30 = .ok (.aload_n 0, 1) := by decide +kernel
theorem dX3_init_31 : decode cX3_init 31 = .ok (.aload_n 3, 1) := by decide +kernel
theorem dX3_init_32 : decode cX3_init 32 = .ok (.putfield 30, 3) := by decide +kernel
theorem dX3_init_35 : decode cX3_init 35 = .ok (.aload_n 0, 1) := by decide +kernel
theorem dX3_init_36 : decode cX3_init 36 = .ok (.aload 4, 2) := by decide +kernel
theorem dX3_init_38 : decode cX3_init 38 = .ok (.putfield 34, 3) := by decide +kernel
theorem dX3_init_41 : decode cX3_init 41 = .ok (.aload_n 0, 1) := by decide +kernel
theorem dX3_init_42 : decode cX3_init 42 = .ok (.aload 5, 2) := by decide +kernel
theorem dX3_init_44 : decode cX3_init 44 = .ok (.putfield 38, 3) := by decide +kernel
theorem dX3_init_47 : decode cX3_init 47 = .ok (.return_, 1) := by decide +kernel
theorem dX3_barDay_0 : decode cX3_barDay 0 = .ok (.aload_n 0, 1) := by decide +kernel
theorem dX3_barDay_1 : decode cX3_barDay 1 = .ok (.getfield 18, 3) := by decide +kernel
theorem dX3_barDay_4 : decode cX3_barDay 4 = .ok (.ireturn, 1) := by decide +kernel
theorem dX3_findBar_0 : decode cX3_findBar 0 = .ok (.aload_n 0, 1) := by decide +kernel
theorem dX3_findBar_1 : decode cX3_findBar 1 = .ok (.iconst (-1), 1) := by decide +kernel
theorem dX3_findBar_2 : decode cX3_findBar 2 = .ok (.putfield 18, 3) := by decide +kernel
theorem dX3_findBar_5 : decode cX3_findBar 5 = .ok (.aload_n 0, 1) := by decide +kernel
theorem dX3_findBar_6 : decode cX3_findBar 6 = .ok (.getfield 22, 3) := by decide +kernel
theorem dX3_findBar_9 : decode cX3_findBar 9 = .ok (.iload_n 1, 1) := by decide +kernel
theorem dX3_findBar_10 : decode cX3_findBar 10 = .ok (.invokevirtual 42, 3) := by decide +kernel
theorem dX3_findBar_13 : decode cX3_findBar 13 = .ok (.ifCond .eq 14, 3) := by decide +kernel
theorem dX3_findBar_16 : decode cX3_findBar 16 = .ok (.aload_n 0, 1) := by decide +kernel
theorem dX3_findBar_17 : decode cX3_findBar 17 = .ok (.getfield 26, 3) := by decide +kernel
theorem dX3_findBar_20 : decode cX3_findBar 20 = .ok (.iload_n 2, 1) := by decide +kernel
theorem dX3_findBar_21 : decode cX3_findBar 21 = .ok (.invokevirtual 48, 3) := by decide +kernel
theorem dX3_findBar_24 : decode cX3_findBar 24 = .ok (.ifCond .ne 5, 3) := by decide +kernel
theorem dX3_findBar_27 : decode cX3_findBar 27 = .ok (.iconst (-1), 1) := by decide +kernel
theorem dX3_findBar_28 : decode cX3_findBar 28 = .ok (.ireturn, 1) := by decide +kernel
theorem dX3_findBar_29 : decode cX3_findBar 29 = .ok (.aload_n 0, 1) := by decide +kernel
theorem dX3_findBar_30 : decode cX3_findBar 30 = .ok (.getfield 22, 3) := by decide +kernel
theorem dX3_findBar_33 : decode cX3_findBar 33 = .ok (.iload_n 1, 1) := by decide +kernel
theorem dX3_findBar_34 : decode cX3_findBar 34 = .ok (.invokevirtual 53, 3) := by decide +kernel
theorem dX3_findBar_37 : decode cX3_findBar 37 = .ok (.istore 4, 2) := by decide +kernel
theorem dX3_findBar_39 : decode cX3_findBar 39 = .ok (.aload_n 0, 1) := by decide +kernel
theorem dX3_findBar_40 : decode cX3_findBar 40 = .ok (.getfield 22, 3) := by decide +kernel
theorem dX3_findBar_43 : decode cX3_findBar 43 = .ok (.iload_n 1, 1) := by decide +kernel
theorem dX3_findBar_44 : decode cX3_findBar 44 = .ok (.invokevirtual 57, 3) := by decide +kernel
theorem dX3_findBar_47 : decode cX3_findBar 47 = .ok (.istore 5, 2) := by decide +kernel
theorem dX3_findBar_49 : decode cX3_findBar 49 = .ok (.iload 5, 2) := by decide +kernel
theorem dX3_findBar_51 : decode cX3_findBar 51 = .ok (.istore 6, 2) := by decide +kernel
theorem dX3_findBar_53 : decode cX3_findBar 53 = .ok (.iload 6, 2) := by decide +kernel
theorem dX3_findBar_55 : decode cX3_findBar 55 = .ok (.iload 4, 2) := by decide +kernel
theorem dX3_findBar_57 : decode cX3_findBar 57 = .ok (.if_icmp .gt 50, 3) := by decide +kernel
theorem dX3_findBar_60 : decode cX3_findBar 60 = .ok (.iload 6, 2) := by decide +kernel
theorem dX3_findBar_62 : decode cX3_findBar 62 = .ok (.iload 5, 2) := by decide +kernel
theorem dX3_findBar_64 : decode cX3_findBar 64 = .ok (.if_icmp .ne 37, 3) := by decide +kernel
theorem dX3_findBar_67 : decode cX3_findBar 67 = .ok (.aload_n 0, 1) := by decide +kernel
theorem dX3_findBar_68 : decode cX3_findBar 68 = .ok (.iload_n 1, 1) := by decide +kernel
theorem dX3_findBar_69 : decode cX3_findBar 69 = .ok (.iload_n 2, 1) := by decide +kernel
theorem dX3_findBar_70 : decode cX3_findBar 70 = .ok (.iload 6, 2) := by decide +kernel
theorem dX3_findBar_72 : decode cX3_findBar 72 = .ok (.iload_n 3, 1) := by decide +kernel
theorem dX3_findBar_73 : decode cX3_findBar 73 = .ok (.invokevirtual 60, 3) := by decide +kernel
theorem dX3_findBar_76 : decode cX3_findBar 76 = .ok (.istore 7, 2) := by decide +kernel
theorem dX3_findBar_78 : decode cX3_findBar 78 = .ok (.iload 7, 2) := by decide +kernel
theorem dX3_findBar_80 : decode cX3_findBar 80 = .ok (.ifCond .eq 12, 3) := by decide +kernel
theorem dX3_findBar_83 : decode cX3_findBar 83 = .ok (.aload_n 0, 1) := by decide +kernel
theorem dX3_findBar_84 : decode cX3_findBar 84 = .ok (.iload 6, 2) := by decide +kernel
theorem dX3_findBar_86 : decode cX3_findBar 86 = .ok (.putfield 18, 3) := by decide +kernel
theorem dX3_findBar_89 : decode cX3_findBar 89 = .ok (.iload 7, 2) := by decide +kernel
theorem dX3_findBar_91 : decode cX3_findBar 91 = .ok (.ireturn, 1) := by decide +kernel
theorem dX3_findBar_92 : decode cX3_findBar 92 = .ok (.aload_n 0, 1) := by decide +kernel
theorem dX3_findBar_93 : decode cX3_findBar 93 = .ok (.iload_n 2, 1) := by decide +kernel
theorem dX3_findBar_94 : decode cX3_findBar 94 = .ok (.iload 6, 2) := by decide +kernel
theorem dX3_findBar_96 : decode cX3_findBar 96 = .ok (.invokevirtual 64, 3) := by decide +kernel
theorem dX3_findBar_99 : decode cX3_findBar 99 = .ok (.istore 5, 2) := by decide +kernel
theorem dX3_findBar_101 : decode cX3_findBar 101 = .ok (.iinc 6 1, 3) := by decide +kernel
theorem dX3_findBar_104 : decode cX3_findBar 104 = .ok (.goto (-51), 3) := by decide +kernel
theorem dX3_findBar_107 : decode cX3_findBar 107 = .ok (.iconst 0, 1) := by decide +kernel
theorem dX3_findBar_108 : decode cX3_findBar 108 = .ok (.ireturn, 1) := by decide +kernel
theorem dX3_barOn_0 : decode cX3_barOn 0 = .ok (.aload_n 0, 1) := by decide +kernel
theorem dX3_barOn_1 : decode cX3_barOn 1 = .ok (.getfield 26, 3) := by decide +kernel
theorem dX3_barOn_4 : decode cX3_barOn 4 = .ok (.iload_n 2, 1) := by decide +kernel
theorem dX3_barOn_5 : decode cX3_barOn 5 = .ok (.invokevirtual 68, 3) := by decide +kernel
theorem dX3_barOn_8 : decode cX3_barOn 8 = .ok (.iload_n 3, 1) := by decide +kernel
theorem dX3_barOn_9 : decode cX3_barOn 9 = .ok (.if_icmp .gt 5, 3) := by decide +kernel
theorem dX3_barOn_12 : decode cX3_barOn 12 = .ok (.iconst 1, 1) := by decide +kernel
theorem dX3_barOn_13 : decode cX3_barOn 13 = .ok (.ireturn, 1) := by decide +kernel
theorem dX3_barOn_14 : decode cX3_barOn 14 = .ok (.aload_n 0, 1) := by decide +kernel
theorem dX3_barOn_15 : decode cX3_barOn 15 = .ok (.getfield 30, 3) := by decide +kernel
theorem dX3_barOn_18 : decode cX3_barOn 18 = .ok (.iload_n 2, 1) := by decide +kernel
theorem dX3_barOn_19 : decode cX3_barOn 19 = .ok (.iload_n 3, 1) := by decide +kernel
theorem dX3_barOn_20 : decode cX3_barOn 20 = .ok (.invokevirtual 71, 3) := by decide +kernel
theorem dX3_barOn_23 : decode cX3_barOn 23 = .ok (.iconst (-1), 1) := by decide +kernel
theorem dX3_barOn_24 : decode cX3_barOn 24 = .ok (.if_icmp .ne 5, 3) := by decide +kernel
theorem dX3_barOn_27 : decode cX3_barOn 27 = .ok (.iconst 2, 1) := by decide +kernel
theorem dX3_barOn_28 : decode cX3_barOn 28 = .ok (.ireturn, 1) := by decide +kernel
theorem dX3_barOn_29 : decode cX3_barOn 29 = .ok (.aload_n 0, 1) := by decide +kernel
theorem dX3_barOn_30 : decode cX3_barOn 30 = .ok (.getfield 34, 3) := by decide +kernel
theorem dX3_barOn_33 : decode cX3_barOn 33 = .ok (.aload_n 0, 1) := by decide +kernel
theorem dX3_barOn_34 : decode cX3_barOn 34 = .ok (.getfield 12, 3) := by decide +kernel
theorem dX3_barOn_37 : decode cX3_barOn 37 = .ok (.iload_n 1, 1) := by decide +kernel
theorem dX3_barOn_38 : decode cX3_barOn 38 = .ok (.iload_n 2, 1) := by decide +kernel
theorem dX3_barOn_39 : decode cX3_barOn 39 = .ok (.iload_n 3, 1) := by decide +kernel
theorem dX3_barOn_40 : decode cX3_barOn 40 = .ok (.iload 4, 2) := by decide +kernel
theorem dX3_barOn_42 : decode cX3_barOn 42 = .ok (.invokevirtual 76, 3) := by decide +kernel
theorem dX3_barOn_45 : decode cX3_barOn 45 = .ok (.aload_n 0, 1) := by decide +kernel
theorem dX3_barOn_46 : decode cX3_barOn 46 = .ok (.getfield 22, 3) := by decide +kernel
theorem dX3_barOn_49 : decode cX3_barOn 49 = .ok (.iload_n 1, 1) := by decide +kernel
theorem dX3_barOn_50 : decode cX3_barOn 50 = .ok (.invokevirtual 82, 3) := by decide +kernel
theorem dX3_barOn_53 : decode cX3_barOn 53 = .ok (.ifCond .eq 7, 3) := by decide +kernel
theorem dX3_barOn_56 : decode cX3_barOn 56 = .ok (.iconst 1, 1) := by decide +kernel
theorem dX3_barOn_57 : decode cX3_barOn 57 = .ok (.goto 4, 3) := by decide +kernel
theorem dX3_barOn_60 : decode cX3_barOn 60 = .ok (.iconst 0, 1) := by decide +kernel
theorem dX3_barOn_61 : decode cX3_barOn 61 = .ok (.istore 5, 2) := by decide +kernel
theorem dX3_barOn_63 : decode cX3_barOn 63 = .ok (.aload_n 0, 1) := by decide +kernel
theorem dX3_barOn_64 : decode cX3_barOn 64 = .ok (.getfield 38, 3) := by decide +kernel
theorem dX3_barOn_67 : decode cX3_barOn 67 = .ok (.iload 5, 2) := by decide +kernel
theorem dX3_barOn_69 : decode cX3_barOn 69 = .ok (.aload_n 0, 1) := by decide +kernel
theorem dX3_barOn_70 : decode cX3_barOn 70 = .ok (.getfield 12, 3) := by decide +kernel
theorem dX3_barOn_73 : decode cX3_barOn 73 = .ok (.invokevirtual 87, 3) := by decide +kernel
theorem dX3_barOn_76 : decode cX3_barOn 76 = .ok (.istore 6, 2) := by decide +kernel
theorem dX3_barOn_78 : decode cX3_barOn 78 = .ok (.iload 6, 2) := by decide +kernel
theorem dX3_barOn_80 : decode cX3_barOn 80 = .ok (.iconst (-1), 1) := by decide +kernel
theorem dX3_barOn_81 : decode cX3_barOn 81 = .ok (.if_icmp .ne 7, 3) := by decide +kernel
theorem dX3_barOn_84 : decode cX3_barOn 84 = .ok (.iconst 0, 1) := by decide +kernel
theorem dX3_barOn_85 : decode cX3_barOn 85 = .ok (.goto 8, 3) := by decide +kernel
theorem dX3_barOn_88 : decode cX3_barOn 88 = .ok (.bipush 10, 2) := by decide +kernel
theorem dX3_barOn_90 : decode cX3_barOn 90 = .ok (.iload 6, 2) := by decide +kernel
theorem dX3_barOn_92 : decode cX3_barOn 92 = .ok (.iadd, 1) := by decide +kernel
theorem dX3_barOn_93 : decode cX3_barOn 93 = .ok (.ireturn, 1) := by decide +kernel
theorem dX3_turnBehind_0 : decode cX3_turnBehind 0 = .ok (.aload_n 0, 1) := by decide +kernel
theorem dX3_turnBehind_1 : decode cX3_turnBehind 1 = .ok (.getfield 26, 3) := by decide +kernel
theorem dX3_turnBehind_4 : decode cX3_turnBehind 4 = .ok (.iload_n 1, 1) := by decide +kernel
theorem dX3_turnBehind_5 : decode cX3_turnBehind 5 = .ok (.invokevirtual 68, 3) := by decide +kernel
theorem dX3_turnBehind_8 : decode cX3_turnBehind 8 = .ok (.aload_n 0, 1) := by decide +kernel
theorem dX3_turnBehind_9 : decode cX3_turnBehind 9 = .ok (.getfield 30, 3) := by decide +kernel
theorem dX3_turnBehind_12 : decode cX3_turnBehind 12 = .ok (.iload_n 1, 1) := by decide +kernel
theorem dX3_turnBehind_13 : decode cX3_turnBehind 13 = .ok (.iload_n 2, 1) := by decide +kernel
theorem dX3_turnBehind_14 : decode cX3_turnBehind 14 = .ok (.invokevirtual 71, 3) := by decide +kernel
theorem dX3_turnBehind_17 : decode cX3_turnBehind 17 = .ok (.iconst 1, 1) := by decide +kernel
theorem dX3_turnBehind_18 : decode cX3_turnBehind 18 = .ok (.iadd, 1) := by decide +kernel
theorem dX3_turnBehind_19 : decode cX3_turnBehind 19 = .ok (.invokestatic 91, 3) := by decide +kernel
theorem dX3_turnBehind_22 : decode cX3_turnBehind 22 = .ok (.istore_n 3, 1) := by decide +kernel
theorem dX3_turnBehind_23 : decode cX3_turnBehind 23 = .ok (.iload_n 3, 1) := by decide +kernel
theorem dX3_turnBehind_24 : decode cX3_turnBehind 24 = .ok (.aload_n 0, 1) := by decide +kernel
theorem dX3_turnBehind_25 : decode cX3_turnBehind 25 = .ok (.getfield 12, 3) := by decide +kernel
theorem dX3_turnBehind_28 : decode cX3_turnBehind 28 = .ok (.invokevirtual 96, 3) := by decide +kernel
theorem dX3_turnBehind_31 : decode cX3_turnBehind 31 = .ok (.invokestatic 91, 3) := by decide +kernel
theorem dX3_turnBehind_34 : decode cX3_turnBehind 34 = .ok (.ireturn, 1) := by decide +kernel
theorem dX3_wishOf_0 : decode cX3_wishOf 0 = .ok (.aload_n 0, 1) := by decide +kernel
theorem dX3_wishOf_1 : decode cX3_wishOf 1 = .ok (.getfield 22, 3) := by decide +kernel
theorem dX3_wishOf_4 : decode cX3_wishOf 4 = .ok (.iload_n 1, 1) := by decide +kernel
theorem dX3_wishOf_5 : decode cX3_wishOf 5 = .ok (.invokevirtual 42, 3) := by decide +kernel
theorem dX3_wishOf_8 : decode cX3_wishOf 8 = .ok (.ifCond .eq 14, 3) := by decide +kernel
theorem dX3_wishOf_11 : decode cX3_wishOf 11 = .ok (.aload_n 0, 1) := by decide +kernel
theorem dX3_wishOf_12 : decode cX3_wishOf 12 = .ok (.getfield 26, 3) := by decide +kernel
theorem dX3_wishOf_15 : decode cX3_wishOf 15 = .ok (.iload_n 2, 1) := by decide +kernel
theorem dX3_wishOf_16 : decode cX3_wishOf 16 = .ok (.invokevirtual 48, 3) := by decide +kernel
theorem dX3_wishOf_19 : decode cX3_wishOf 19 = .ok (.ifCond .ne 5, 3) := by decide +kernel
theorem dX3_wishOf_22 : decode cX3_wishOf 22 = .ok (.iconst (-1), 1) := by decide +kernel
theorem dX3_wishOf_23 : decode cX3_wishOf 23 = .ok (.ireturn, 1) := by decide +kernel
theorem dX3_wishOf_24 : decode cX3_wishOf 24 = .ok (.aload_n 0, 1) := by decide +kernel
theorem dX3_wishOf_25 : decode cX3_wishOf 25 = .ok (.getfield 34, 3) := by decide +kernel
theorem dX3_wishOf_28 : decode cX3_wishOf 28 = .ok (.aload_n 0, 1) := by decide +kernel
theorem dX3_wishOf_29 : decode cX3_wishOf 29 = .ok (.getfield 12, 3) := by decide +kernel
theorem dX3_wishOf_32 : decode cX3_wishOf 32 = .ok (.iload_n 1, 1) := by decide +kernel
theorem dX3_wishOf_33 : decode cX3_wishOf 33 = .ok (.iload_n 2, 1) := by decide +kernel
theorem dX3_wishOf_34 : decode cX3_wishOf 34 = .ok (.aload_n 0, 1) := by decide +kernel
theorem dX3_wishOf_35 : decode cX3_wishOf 35 = .ok (.getfield 22, 3) := by decide +kernel
theorem dX3_wishOf_38 : decode cX3_wishOf 38 = .ok (.iload_n 1, 1) := by decide +kernel
theorem dX3_wishOf_39 : decode cX3_wishOf 39 = .ok (.invokevirtual 57, 3) := by decide +kernel
theorem dX3_wishOf_42 : decode cX3_wishOf 42 = .ok (.iload_n 3, 1) := by decide +kernel
theorem dX3_wishOf_43 : decode cX3_wishOf 43 = .ok (.invokevirtual 76, 3) := by decide +kernel
theorem dX3_wishOf_46 : decode cX3_wishOf 46 = .ok (.aload_n 0, 1) := by decide +kernel
theorem dX3_wishOf_47 : decode cX3_wishOf 47 = .ok (.getfield 38, 3) := by decide +kernel
theorem dX3_wishOf_50 : decode cX3_wishOf 50 = .ok (.aload_n 0, 1) := by decide +kernel
theorem dX3_wishOf_51 : decode cX3_wishOf 51 = .ok (.getfield 12, 3) := by decide +kernel
theorem dX3_wishOf_54 : decode cX3_wishOf 54 = .ok (.invokevirtual 100, 3) := by decide +kernel
theorem dX3_wishOf_57 : decode cX3_wishOf 57 = .ok (.ireturn, 1) := by decide +kernel
theorem dX4_init_0 : decode cX4_init 0 = .ok (.aload_n 0, 1) := by decide +kernel
theorem dX4_init_1 : decode cX4_init 1 = .ok (.invokespecial 3, 3) := by decide +kernel
theorem dX4_init_4 : decode cX4_init 4 = .ok (.aload_n 0, 1) := by decide +kernel
theorem dX4_init_5 : decode cX4_init 5 = .ok (.bipush 30, 2) := by decide +kernel
theorem dX4_init_7 : decode cX4_init 7 = .ok (.newarray .int, 2) := by decide +kernel
theorem dX4_init_9 : decode cX4_init 9 = .ok (.putfield 9, 3) := by decide +kernel
theorem dX4_init_12 : decode cX4_init 12 = .ok (.aload_n 0, 1) := by decide +kernel
theorem dX4_init_13 : decode cX4_init 13 = .ok (.bipush 30, 2) := by decide +kernel
theorem dX4_init_15 : decode cX4_init 15 = .ok (.newarray .int, 2) := by decide +kernel
theorem dX4_init_17 : decode cX4_init 17 = .ok (.putfield 15, 3) := by decide +kernel
theorem dX4_init_20 : decode cX4_init 20 = .ok (.aload_n 0, 1) := by decide +kernel
theorem dX4_init_21 : decode cX4_init 21 = .ok (.bipush 30, 2) := by decide +kernel
theorem dX4_init_23 : decode cX4_init 23 = .ok (.newarray .int, 2) := by decide +kernel
theorem dX4_init_25 : decode cX4_init 25 = .ok (.putfield 18, 3) := by decide +kernel
theorem dX4_init_28 : decode cX4_init 28 = .ok (.return_, 1) := by decide +kernel
theorem dX4_size_0 : decode cX4_size 0 = .ok (.aload_n 0, 1) := by decide +kernel
theorem dX4_size_1 : decode cX4_size 1 = .ok (.getfield 21, 3) := by decide +kernel
theorem dX4_size_4 : decode cX4_size 4 = .ok (.ireturn, 1) := by decide +kernel
theorem dX4_add_0 : decode cX4_add 0 = .ok (.aload_n 0, 1) := by decide +kernel
theorem dX4_add_1 : decode cX4_add 1 = .ok (.getfield 21, 3) := by decide +kernel
theorem dX4_add_4 : decode cX4_add 4 = .ok (.bipush 30, 2) := by decide +kernel
theorem dX4_add_6 : decode cX4_add 6 = .ok (.if_icmp .lt 5, 3) := by decide +kernel
theorem dX4_add_9 : decode cX4_add 9 = .ok (.iconst (-1), 1) := by decide +kernel
theorem dX4_add_10 : decode cX4_add 10 = .ok (.ireturn, 1) := by decide +kernel
theorem dX4_add_11 : decode cX4_add 11 = .ok (.aload_n 0, 1) := by decide +kernel
theorem dX4_add_12 : decode cX4_add 12 = .ok (.getfield 9, 3) := by decide +kernel
theorem dX4_add_15 : decode cX4_add 15 = .ok (.aload_n 0, 1) := by decide +kernel
theorem dX4_add_16 : decode cX4_add 16 = .ok (.getfield 21, 3) := by decide +kernel
theorem dX4_add_19 : decode cX4_add 19 = .ok (.iload_n 1, 1) := by decide +kernel
theorem dX4_add_20 : decode cX4_add 20 = .ok (.iastore, 1) := by decide +kernel
theorem dX4_add_21 : decode cX4_add 21 = .ok (.aload_n 0, 1) := by decide +kernel
theorem dX4_add_22 : decode cX4_add 22 = .ok (.getfield 15, 3) := by decide +kernel
theorem dX4_add_25 : decode cX4_add 25 = .ok (.aload_n 0, 1) := by decide +kernel
theorem dX4_add_26 : decode cX4_add 26 = .ok (.getfield 21, 3) := by decide +kernel
theorem dX4_add_29 : decode cX4_add 29 = .ok (.iload_n 2, 1) := by decide +kernel
theorem dX4_add_30 : decode cX4_add 30 = .ok (.iastore, 1) := by decide +kernel
theorem dX4_add_31 : decode cX4_add 31 = .ok (.aload_n 0, 1) := by decide +kernel
theorem dX4_add_32 : decode cX4_add 32 = .ok (.getfield 18, 3) := by decide +kernel
theorem dX4_add_35 : decode cX4_add 35 = .ok (.aload_n 0, 1) := by decide +kernel
theorem dX4_add_36 : decode cX4_add 36 = .ok (.getfield 21, 3) := by decide +kernel
theorem dX4_add_39 : decode cX4_add 39 = .ok (.iload_n 3, 1) := by decide +kernel
theorem dX4_add_40 : decode cX4_add 40 = .ok (.iastore, 1) := by decide +kernel
theorem dX4_add_41 : decode cX4_add 41 = .ok (.aload_n 0, 1) := by decide +kernel
theorem dX4_add_42 : decode cX4_add 42 = .ok (.dup, 1) := by decide +kernel
theorem dX4_add_43 : decode cX4_add 43 = .ok (.getfield 21, 3) := by decide +kernel
theorem dX4_add_46 : decode cX4_add 46 = .ok (.iconst 1, 1) := by decide +kernel
theorem dX4_add_47 : decode cX4_add 47 = .ok (.iadd, 1) := by decide +kernel
theorem dX4_add_48 : decode cX4_add 48 = .ok (.putfield 21, 3) := by decide +kernel
theorem dX4_add_51 : decode cX4_add 51 = .ok (.aload_n 0, 1) := by decide +kernel
theorem dX4_add_52 : decode cX4_add 52 = .ok (.getfield 21, 3) := by decide +kernel
theorem dX4_add_55 : decode cX4_add 55 = .ok (.iconst 1, 1) := by decide +kernel
theorem dX4_add_56 : decode cX4_add 56 = .ok (.isub, 1) := by decide +kernel
theorem dX4_add_57 : decode cX4_add 57 = .ok (.ireturn, 1) := by decide +kernel
theorem dX4_latestEnd_0 : decode cX4_latestEnd 0 = .ok (.iconst (-1), 1) := by decide +kernel
theorem dX4_latestEnd_1 : decode cX4_latestEnd 1 = .ok (.istore_n 3, 1) := by decide +kernel
theorem dX4_latestEnd_2 : decode cX4_latestEnd 2 = .ok (.iconst 0, 1) := by decide +kernel
theorem dX4_latestEnd_3 : decode cX4_latestEnd 3 = .ok (.istore 4, 2) := by decide +kernel
theorem dX4_latestEnd_5 : decode cX4_latestEnd 5 = .ok (.iload 4, 2) := by decide +kernel
theorem dX4_latestEnd_7 : decode cX4_latestEnd 7 = .ok (.aload_n 0, 1) := by decide +kernel
theorem dX4_latestEnd_8 : decode cX4_latestEnd 8 = .ok (.getfield 21, 3) := by decide +kernel
theorem dX4_latestEnd_11 : decode cX4_latestEnd 11 = .ok (.if_icmp .ge 54, 3) := by decide +kernel
theorem dX4_latestEnd_14 : decode cX4_latestEnd 14 = .ok (.aload_n 0, 1) := by decide +kernel
theorem dX4_latestEnd_15 : decode cX4_latestEnd 15 = .ok (.getfield 9, 3) := by decide +kernel
theorem dX4_latestEnd_18 : decode cX4_latestEnd 18 = .ok (.iload 4, 2) := by decide +kernel
theorem dX4_latestEnd_20 : decode cX4_latestEnd 20 = .ok (.iaload, 1) := by decide +kernel
theorem dX4_latestEnd_21 : decode cX4_latestEnd 21 = .ok (.iload_n 1, 1) := by decide +kernel
theorem dX4_latestEnd_22 : decode cX4_latestEnd 22 = .ok (.if_icmp .ne 37, 3) := by decide +kernel
theorem dX4_latestEnd_25 : decode cX4_latestEnd 25 = .ok (.aload_n 0, 1) := by decide +kernel
theorem dX4_latestEnd_26 : decode cX4_latestEnd 26 = .ok (.getfield 15, 3) := by decide +kernel
theorem dX4_latestEnd_29 : decode cX4_latestEnd 29 = .ok (.iload 4, 2) := by decide +kernel
theorem dX4_latestEnd_31 : decode cX4_latestEnd 31 = .ok (.iaload, 1) := by decide +kernel
theorem dX4_latestEnd_32 : decode cX4_latestEnd 32 = .ok (.iload_n 2, 1) := by decide +kernel
theorem dX4_latestEnd_33 : decode cX4_latestEnd 33 = .ok (.if_icmp .gt 26, 3) := by decide +kernel
theorem dX4_latestEnd_36 : decode cX4_latestEnd 36 = .ok (.iload_n 2, 1) := by decide +kernel
theorem dX4_latestEnd_37 : decode cX4_latestEnd 37 = .ok (.aload_n 0, 1) := by decide +kernel
theorem dX4_latestEnd_38 : decode cX4_latestEnd 38 = .ok (.getfield 18, 3) := by decide +kernel
theorem dX4_latestEnd_41 : decode cX4_latestEnd 41 = .ok (.iload 4, 2) := by decide +kernel
theorem dX4_latestEnd_43 : decode cX4_latestEnd 43 = .ok (.iaload, 1) := by decide +kernel
theorem dX4_latestEnd_44 : decode cX4_latestEnd 44 = .ok (.if_icmp .gt 15, 3) := by decide +kernel
theorem dX4_latestEnd_47 : decode cX4_latestEnd 47 = .ok (.iload_n 3, 1) := by decide +kernel
theorem dX4_latestEnd_48 : decode cX4_latestEnd 48 = .ok (.aload_n 0, 1) := by decide +kernel
theorem dX4_latestEnd_49 : decode cX4_latestEnd 49 = .ok (.getfield 18, 3) := by decide +kernel
theorem dX4_latestEnd_52 : decode cX4_latestEnd 52 = .ok (.iload 4, 2) := by decide +kernel
theorem dX4_latestEnd_54 : decode cX4_latestEnd 54 = .ok (.iaload, 1) := by decide +kernel
theorem dX4_latestEnd_55 : decode cX4_latestEnd 55 = .ok (.invokestatic 25, 3) := by decide +kernel
theorem dX4_latestEnd_58 : decode cX4_latestEnd 58 = .ok (.istore_n 3, 1) := by decide +kernel
theorem dX4_latestEnd_59 : decode cX4_latestEnd 59 = .ok (.iinc 4 1, 3) := by decide +kernel
theorem dX4_latestEnd_62 : decode cX4_latestEnd 62 = .ok (.goto (-57), 3) := by decide +kernel
theorem dX4_latestEnd_65 : decode cX4_latestEnd 65 = .ok (.iload_n 3, 1) := by decide +kernel
theorem dX4_latestEnd_66 : decode cX4_latestEnd 66 = .ok (.ireturn, 1) := by decide +kernel
theorem dX5_init_0 : decode cX5_init 0 = .ok (.aload_n 0, 1) := by decide +kernel
theorem dX5_init_1 : decode cX5_init 1 = .ok (.invokespecial 7, 3) := by decide +kernel
theorem dX5_init_4 : decode cX5_init 4 = .ok (.aload_n 0, 1) := by decide +kernel
theorem dX5_init_5 : decode cX5_init 5 = .ok (.bipush 35, 2) := by decide +kernel
theorem dX5_init_7 : decode cX5_init 7 = .ok (.newarray .int, 2) := by decide +kernel
theorem dX5_init_9 : decode cX5_init 9 = .ok (.putfield 13, 3) := by decide +kernel
theorem dX5_init_12 : decode cX5_init 12 = .ok (.aload_n 0, 1) := by decide +kernel
theorem dX5_init_13 : decode cX5_init 13 = .ok (.bipush 35, 2) := by decide +kernel
theorem dX5_init_15 : decode cX5_init 15 = .ok (.newarray .int, 2) := by decide +kernel
theorem dX5_init_17 : decode cX5_init 17 = .ok (.putfield 17, 3) := by decide +kernel
theorem dX5_init_20 : decode cX5_init 20 = .ok (.aload_n 0, 1) := by decide +kernel
theorem dX5_init_21 : decode cX5_init 21 = .ok (.bipush 7, 2) := by decide +kernel
theorem dX5_init_23 : decode cX5_init 23 = .ok (.newarray .int, 2) := by decide +kernel
theorem dX5_init_25 : decode cX5_init 25 = .ok (.putfield 20, 3) := by decide +kernel
theorem dX5_init_28 : decode cX5_init 28 = .ok (.aload_n 0, 1) := by decide +kernel
theorem dX5_init_29 : decode cX5_init 29 = .ok (.bipush 8, 2) := by decide +kernel
theorem dX5_init_31 : decode cX5_init 31 = .ok (.newarray .int, 2) := by decide +kernel
theorem dX5_init_33 : decode cX5_init 33 = .ok (.putfield 23, 3) := by decide +kernel
theorem dX5_init_36 : decode cX5_init 36 = .ok (.aload_n 0, 1) := by decide +kernel
theorem dX5_init_37 : decode cX5_init 37 = .ok (.bipush 7, 2) := by decide +kernel
theorem dX5_init_39 : decode cX5_init 39 = .ok (.newarray .int, 2) := by decide +kernel
theorem dX5_init_41 : decode cX5_init 41 = .ok (.putfield 26, 3) := by decide +kernel
theorem dX5_init_44 : decode cX5_init 44 = .ok (.aload_n 0, 1) := by decide +kernel
theorem dX5_init_45 : decode cX5_init 45 = .ok (.sipush 128, 3) := by decide +kernel
theorem dX5_init_48 : decode cX5_init 48 = .ok (.newarray .int, 2) := by decide +kernel
theorem dX5_init_50 : decode cX5_init 50 = .ok (.putfield 29, 3) := by decide +kernel
theorem dX5_init_53 : decode cX5_init 53 = .ok (.aload_n 0, 1) := by decide +kernel
theorem dX5_init_54 : decode cX5_init 54 = .ok (.iconst 5, 1) := by decide +kernel
theorem dX5_init_55 : decode cX5_init 55 = .ok (.newarray .int, 2) := by decide +kernel
theorem dX5_init_57 : decode cX5_init 57 = .ok (.putfield 32, 3) := by decide +kernel
theorem dX5_init_60 : decode cX5_init 60 = .ok (.aload_n 0, 1) := by decide +kernel
theorem dX5_init_61 : decode cX5_init 61 = .ok (.iconst 4, 1) := by decide +kernel
theorem dX5_init_62 : decode cX5_init 62 = .ok (.newarray .int, 2) := by decide +kernel
theorem dX5_init_64 : decode cX5_init 64 = .ok (.putfield 35, 3) := by decide +kernel
theorem dX5_init_67 : decode cX5_init 67 = .ok (.aload_n 0, 1) := by decide +kernel
theorem dX5_init_68 : decode cX5_init 68 = .ok (.bipush 7, 2) := by decide +kernel
theorem dX5_init_70 : decode cX5_init 70 = .ok (.newarray .int, 2) := by decide +kernel
theorem dX5_init_72 : decode cX5_init 72 = .ok (.putfield 38, 3) := by decide +kernel
theorem dX5_init_75 : decode cX5_init 75 = .ok (.aload_n 0, 1) := by decide +kernel
theorem dX5_init_76 : decode cX5_init 76 = .ok (.bipush 7, 2) := by decide +kernel
theorem dX5_init_78 : decode cX5_init 78 = .ok (.newarray .int, 2) := by decide +kernel
theorem dX5_init_80 : decode cX5_init 80 = .ok (.putfield 41, 3) := by decide +kernel
theorem dX5_init_83 : decode cX5_init 83 = .ok (.aload_n 0, 1) := by decide +kernel
theorem dX5_init_84 : decode cX5_init 84 = .ok (.aload_n 1, 1) := by decide +kernel
theorem dX5_init_85 : decode cX5_init 85 = .ok (.putfield 44, 3) := by decide +kernel
theorem dX5_init_88 : decode cX5_init 88 = .ok (.aload_n 0, 1) := by decide +kernel
theorem dX5_init_89 : decode cX5_init 89 = .ok (.aload_n 2, 1) := by decide +kernel
theorem dX5_init_90 : decode cX5_init 90 = .ok (.putfield 48, 3) := by decide +kernel
theorem dX5_init_93 : decode cX5_init 93 = .ok (.aload_n 0, 1) := by decide +kernel
theorem dX5_init_94 : decode cX5_init 94 = .ok (.aload_n 3, 1) := by decide +kernel
theorem dX5_init_95 : decode cX5_init 95 = .ok (.putfield 52, 3) := by decide +kernel
theorem dX5_init_98 : decode cX5_init 98 = .ok (.aload_n 0, 1) := by decide +kernel
theorem dX5_init_99 : decode cX5_init 99 = .ok (.aload 4, 2) := by decide +kernel
theorem dX5_init_101 : decode cX5_init 101 = .ok (.putfield 56, 3) := by decide +kernel
theorem dX5_init_104 : decode cX5_init 104 = .ok (.return_, 1) := by decide +kernel
theorem dX5_weigh_0 : decode cX5_weigh 0 = .ok (.iload_n 1, 1) := by decide +kernel
theorem dX5_weigh_1 : decode cX5_weigh 1 = .ok (.ifCond .eq 9, 3) := by decide +kernel
theorem dX5_weigh_4 : decode cX5_weigh 4 = .ok (.sipush 16384, 3) := by decide +kernel
theorem dX5_weigh_7 : decode cX5_weigh 7 = .ok (.goto 4, 3) := by decide +kernel
theorem dX5_weigh_10 : decode cX5_weigh 10 = .ok (.iconst 0, 1) := by decide +kernel
theorem dX5_weigh_11 : decode cX5_weigh 11 = .ok (.istore_n 3, 1) := by decide +kernel
theorem dX5_weigh_12 : decode cX5_weigh 12 = .ok (.iconst 0, 1) := by decide +kernel
theorem dX5_weigh_13 : decode cX5_weigh 13 = .ok (.istore 4, 2) := by decide +kernel
theorem dX5_weigh_15 : decode cX5_weigh 15 = .ok (.iload 4, 2) := by decide +kernel
theorem dX5_weigh_17 : decode cX5_weigh 17 = .ok (.aload_n 0, 1) := by decide +kernel
theorem dX5_weigh_18 : decode cX5_weigh 18 = .ok (.getfield 44, 3) := by decide +kernel
theorem dX5_weigh_21 : decode cX5_weigh 21 = .ok (.invokevirtual 60, 3) := by decide +kernel
theorem dX5_weigh_24 : decode cX5_weigh 24 = .ok (.if_icmp .ge 188, 3) := by decide +kernel
theorem dX5_weigh_27 : decode cX5_weigh 27 = .ok (.aload_n 0, 1) := by decide +kernel
theorem dX5_weigh_28 : decode cX5_weigh 28 = .ok (.getfield 56, 3) := by decide +kernel
theorem dX5_weigh_31 : decode cX5_weigh 31 = .ok (.iload 4, 2) := by decide +kernel
theorem dX5_weigh_33 : decode cX5_weigh 33 = .ok (.invokevirtual 66, 3) := by decide +kernel
theorem dX5_weigh_36 : decode cX5_weigh 36 = .ok (.istore 5, 2) := by decide +kernel
theorem dX5_weigh_38 : decode cX5_weigh 38 = .ok (.iconst 0, 1) := by decide +kernel
theorem dX5_weigh_39 : decode cX5_weigh 39 = .ok (.istore 6, 2) := by decide +kernel
theorem dX5_weigh_41 : decode cX5_weigh 41 = .ok (.iload 6, 2) := by decide +kernel
theorem dX5_weigh_43 : decode cX5_weigh 43 = .ok (.aload_n 0, 1) := by decide +kernel
theorem dX5_weigh_44 : decode cX5_weigh 44 = .ok (.getfield 48, 3) := by decide +kernel
theorem dX5_weigh_47 : decode cX5_weigh 47 = .ok (.invokevirtual 72, 3) := by decide +kernel
theorem dX5_weigh_50 : decode cX5_weigh 50 = .ok (.if_icmp .ge 115, 3) := by decide +kernel
theorem dX5_weigh_53 : decode cX5_weigh 53 = .ok (.iload 4, 2) := by decide +kernel
theorem dX5_weigh_55 : decode cX5_weigh 55 = .ok (.iconst 5, 1) := by decide +kernel
theorem dX5_weigh_56 : decode cX5_weigh 56 = .ok (.imul, 1) := by decide +kernel
theorem dX5_weigh_57 : decode cX5_weigh 57 = .ok (.iload 6, 2) := by decide +kernel
theorem dX5_weigh_59 : decode cX5_weigh 59 = .ok (.iadd, 1) := by decide +kernel
theorem dX5_weigh_60 : decode cX5_weigh 60 = .ok (.istore 7, 2) := by decide +kernel
theorem dX5_weigh_62 : decode cX5_weigh 62 = .ok (.aload_n 0, 1) := by decide +kernel
theorem dX5_weigh_63 : decode cX5_weigh 63 = .ok (.getfield 52, 3) := by decide +kernel
theorem dX5_weigh_66 : decode cX5_weigh 66 = .ok (.iload 4, 2) := by decide +kernel
theorem dX5_weigh_68 : decode cX5_weigh 68 = .ok (.iload 6, 2) := by decide +kernel
theorem dX5_weigh_70 : decode cX5_weigh 70 = .ok (.iload_n 2, 1) := by decide +kernel
theorem dX5_weigh_71 : decode cX5_weigh 71 = .ok (.invokevirtual 75, 3) := by decide +kernel
theorem dX5_weigh_74 : decode cX5_weigh 74 = .ok (.ifCond .ne 7, 3) := by decide +kernel
theorem dX5_weigh_77 : decode cX5_weigh 77 = .ok (.iconst 1, 1) := by decide +kernel
theorem dX5_weigh_78 : decode cX5_weigh 78 = .ok (.goto 4, 3) := by decide +kernel
theorem dX5_weigh_81 : decode cX5_weigh 81 = .ok (.iconst 0, 1) := by decide +kernel
theorem dX5_weigh_82 : decode cX5_weigh 82 = .ok (.istore 8, 2) := by decide +kernel
theorem dX5_weigh_84 : decode cX5_weigh 84 = .ok (.aload_n 0, 1) := by decide +kernel
theorem dX5_weigh_85 : decode cX5_weigh 85 = .ok (.getfield 13, 3) := by decide +kernel
theorem dX5_weigh_88 : decode cX5_weigh 88 = .ok (.iload 7, 2) := by decide +kernel
theorem dX5_weigh_90 : decode cX5_weigh 90 = .ok (.iload 8, 2) := by decide +kernel
theorem dX5_weigh_92 : decode cX5_weigh 92 = .ok (.ifCond .eq 18, 3) := by decide +kernel
theorem dX5_weigh_95 : decode cX5_weigh 95 = .ok (.aload_n 0, 1) := by decide +kernel
theorem dX5_weigh_96 : decode cX5_weigh 96 = .ok (.getfield 52, 3) := by decide +kernel
theorem dX5_weigh_99 : decode cX5_weigh 99 = .ok (.iload 4, 2) := by decide +kernel
theorem dX5_weigh_101 : decode cX5_weigh 101 = .ok (.iload 6, 2) := by decide +kernel
theorem dX5_weigh_103 : decode cX5_weigh 103 = .ok (.iload_n 2, 1) := by decide +kernel
theorem dX5_weigh_104 : decode cX5_weigh 104 = .ok (.invokevirtual 81, 3) := by decide +kernel
theorem dX5_weigh_107 : decode cX5_weigh 107 = .ok (.goto 4, 3) := by decide +kernel
theorem dX5_weigh_110 : decode cX5_weigh 110 = .ok (.iconst 0, 1) := by decide +kernel
theorem dX5_weigh_111 : decode cX5_weigh 111 = .ok (.iastore, 1) := by decide +kernel
theorem dX5_weigh_112 : decode cX5_weigh 112 = .ok (.iload 5, 2) := by decide +kernel
theorem dX5_weigh_114 : decode cX5_weigh 114 = .ok (.iconst (-1), 1) := by decide +kernel
theorem dX5_weigh_115 : decode cX5_weigh 115 = .ok (.if_icmp .eq 14, 3) := by decide +kernel
theorem dX5_weigh_118 : decode cX5_weigh 118 = .ok (.iload 5, 2) := by decide +kernel
theorem dX5_weigh_120 : decode cX5_weigh 120 = .ok (.iload 6, 2) := by decide +kernel
theorem dX5_weigh_122 : decode cX5_weigh 122 = .ok (.if_icmp .eq 7, 3) := by decide +kernel
theorem dX5_weigh_125 : decode cX5_weigh 125 = .ok (.iload_n 3, 1) := by decide +kernel
theorem dX5_weigh_126 : decode cX5_weigh 126 = .ok (.goto 4, 3) := by decide +kernel
theorem dX5_weigh_129 : decode cX5_weigh 129 = .ok (.iconst 0, 1) := by decide +kernel
theorem dX5_weigh_130 : decode cX5_weigh 130 = .ok (.istore 9, 2) := by decide +kernel
theorem dX5_weigh_132 : decode cX5_weigh 132 = .ok (.aload_n 0, 1) := by decide +kernel
theorem dX5_weigh_133 : decode cX5_weigh 133 = .ok (.getfield 17, 3) := by decide +kernel
theorem dX5_weigh_136 : decode cX5_weigh 136 = .ok (.iload 7, 2) := by decide +kernel
theorem dX5_weigh_138 : decode cX5_weigh 138 = .ok (.iload 8, 2) := by decide +kernel
theorem dX5_weigh_140 : decode cX5_weigh 140 = .ok (.ifCond .eq 16, 3) := by decide +kernel
theorem dX5_weigh_143 : decode cX5_weigh 143 = .ok (.iload 9, 2) := by decide +kernel
theorem dX5_weigh_145 : decode cX5_weigh 145 = .ok (.aload_n 0, 1) := by decide +kernel
theorem dX5_weigh_146 : decode cX5_weigh 146 = .ok (.getfield 13, 3) := by decide +kernel
theorem dX5_weigh_149 : decode cX5_weigh 149 = .ok (.iload 7, 2) := by decide +kernel
theorem dX5_weigh_151 : decode cX5_weigh 151 = .ok (.iaload, 1) := by decide +kernel
theorem dX5_weigh_152 : decode cX5_weigh 152 = .ok (.isub, 1) := by decide +kernel
theorem dX5_weigh_153 : decode cX5_weigh 153 = .ok (.goto 5, 3) := by decide +kernel
theorem dX5_weigh_156 : decode cX5_weigh 156 = .ok (.ldc 84, 2) := by decide +kernel
theorem dX5_weigh_158 : decode cX5_weigh 158 = .ok (.iastore, 1) := by decide +kernel
theorem dX5_weigh_159 : decode cX5_weigh 159 = .ok (.iinc 6 1, 3) := by decide +kernel
theorem dX5_weigh_162 : decode cX5_weigh 162 = .ok (.goto (-121), 3) := by decide +kernel
theorem dX5_weigh_165 : decode cX5_weigh 165 = .ok (.ldc 85, 2) := by decide +kernel
theorem dX5_weigh_167 : decode cX5_weigh 167 = .ok (.iload 5, 2) := by decide +kernel
theorem dX5_weigh_169 : decode cX5_weigh 169 = .ok (.iconst (-1), 1) := by decide +kernel
theorem dX5_weigh_170 : decode cX5_weigh 170 = .ok (.if_icmp .eq 7, 3) := by decide +kernel
theorem dX5_weigh_173 : decode cX5_weigh 173 = .ok (.iload_n 3, 1) := by decide +kernel
theorem dX5_weigh_174 : decode cX5_weigh 174 = .ok (.goto 4, 3) := by decide +kernel
theorem dX5_weigh_177 : decode cX5_weigh 177 = .ok (.iconst 0, 1) := by decide +kernel
theorem dX5_weigh_178 : decode cX5_weigh 178 = .ok (.iadd, 1) := by decide +kernel
theorem dX5_weigh_179 : decode cX5_weigh 179 = .ok (.istore 6, 2) := by decide +kernel
theorem dX5_weigh_181 : decode cX5_weigh 181 = .ok (.aload_n 0, 1) := by decide +kernel
theorem dX5_weigh_182 : decode cX5_weigh 182 = .ok (.getfield 20, 3) := by decide +kernel
theorem dX5_weigh_185 : decode cX5_weigh 185 = .ok (.iload 4, 2) := by decide +kernel
theorem dX5_weigh_187 : decode cX5_weigh 187 = .ok (.aload_n 0, 1) := by decide +kernel
theorem dX5_weigh_188 : decode cX5_weigh 188 = .ok (.getfield 44, 3) := by decide +kernel
theorem dX5_weigh_191 : decode cX5_weigh 191 = .ok (.iload 4, 2) := by decide +kernel
theorem dX5_weigh_193 : decode cX5_weigh 193 = .ok (.invokevirtual 86, 3) := by decide +kernel
theorem dX5_weigh_196 : decode cX5_weigh 196 = .ok (.ifCond .eq 8, 3) := by decide +kernel
theorem dX5_weigh_199 : decode cX5_weigh 199 = .ok (.iload 6, 2) := by decide +kernel
theorem dX5_weigh_201 : decode cX5_weigh 201 = .ok (.goto 4, 3) := by decide +kernel
theorem dX5_weigh_204 : decode cX5_weigh 204 = .ok (.iconst 0, 1) := by decide +kernel
theorem dX5_weigh_205 : decode cX5_weigh 205 = .ok (.iastore, 1) := by decide +kernel
theorem dX5_weigh_206 : decode cX5_weigh 206 = .ok (.iinc 4 1, 3) := by decide +kernel
theorem dX5_weigh_209 : decode cX5_weigh 209 = .ok (.goto (-194), 3) := by decide +kernel
theorem dX5_weigh_212 : decode cX5_weigh 212 = .ok (.return_, 1) := by decide +kernel
theorem dX5_findBest_0 : decode cX5_findBest 0 = .ok (.aload_n 0, 1) := by decide +kernel
theorem dX5_findBest_1 : decode cX5_findBest 1 = .ok (.invokevirtual 90, 3) := by decide +kernel
theorem dX5_findBest_4 : decode cX5_findBest 4 = .ok (.aload_n 0, 1) := by decide +kernel
theorem dX5_findBest_5 : decode cX5_findBest 5 = .ok (.invokevirtual 93, 3) := by decide +kernel
theorem dX5_findBest_8 : decode cX5_findBest 8 = .ok (.aload_n 0, 1) := by decide +kernel
theorem dX5_findBest_9 : decode cX5_findBest 9 = .ok (.invokevirtual 96, 3) := by decide +kernel
theorem dX5_findBest_12 : decode cX5_findBest 12 = .ok (.aload_n 0, 1) := by decide +kernel
theorem dX5_findBest_13 : decode cX5_findBest 13 = .ok (.getfield 32, 3) := by decide +kernel
theorem dX5_findBest_16 : decode cX5_findBest 16 = .ok (.iconst 0, 1) := by decide +kernel
theorem dX5_findBest_17 : decode cX5_findBest 17 = .ok (.invokestatic 99, 3) := by decide +kernel
theorem dX5_findBest_20 : decode cX5_findBest 20 = .ok (.aload_n 0, 1) := by decide +kernel
theorem dX5_findBest_21 : decode cX5_findBest 21 = .ok (.getfield 35, 3) := by decide +kernel
theorem dX5_findBest_24 : decode cX5_findBest 24 = .ok (.iconst 0, 1) := by decide +kernel
theorem dX5_findBest_25 : decode cX5_findBest 25 = .ok (.invokestatic 99, 3) := by decide +kernel
theorem dX5_findBest_28 : decode cX5_findBest 28 = .ok (.aload_n 0, 1) := by decide +kernel
theorem dX5_findBest_29 : decode cX5_findBest 29 = .ok (.ldc 84, 2) := by decide +kernel
theorem dX5_findBest_31 : decode cX5_findBest 31 = .ok (.putfield 105, 3) := by decide +kernel
theorem dX5_findBest_34 : decode cX5_findBest 34 = .ok (.aload_n 0, 1) := by decide +kernel
theorem dX5_findBest_35 : decode cX5_findBest 35 = .ok (.iconst 0, 1) := by decide +kernel
theorem dX5_findBest_36 : decode cX5_findBest 36 = .ok (.iconst 0, 1) := by decide +kernel
theorem dX5_findBest_37 : decode cX5_findBest 37 = .ok (.invokevirtual 109, 3) := by decide +kernel
theorem dX5_findBest_40 : decode cX5_findBest 40 = .ok (.return_, 1) := by decide +kernel
theorem dX5_sumLeastPrices_0 : decode cX5_sumLeastPrices 0 = .ok (.aload_n 0, 1) := by decide +kernel
theorem dX5_sumLeastPrices_1 : decode cX5_sumLeastPrices 1 = .ok (.getfield 23, 3) := by decide +kernel
theorem dX5_sumLeastPrices_4 : decode cX5_sumLeastPrices 4 = .ok (.aload_n 0, 1) := by decide +kernel
theorem dX5_sumLeastPrices_5 : decode cX5_sumLeastPrices 5 = .ok (.getfield 44, 3) := by decide +kernel
theorem dX5_sumLeastPrices_8 : decode cX5_sumLeastPrices 8 = .ok (.invokevirtual 60, 3) := by decide +kernel
theorem dX5_sumLeastPrices_11 : decode cX5_sumLeastPrices 11 = .ok (.iconst 0, 1) := by decide +kernel
theorem dX5_sumLeastPrices_12 : decode cX5_sumLeastPrices 12 = .ok (.iastore, 1) := by decide +kernel
theorem dX5_sumLeastPrices_13 : decode cX5_sumLeastPrices 13 = .ok (.aload_n 0, 1) := by decide +kernel
theorem dX5_sumLeastPrices_14 : decode cX5_sumLeastPrices 14 = .ok (.getfield 44, 3) := by decide +kernel
theorem dX5_sumLeastPrices_17 : decode cX5_sumLeastPrices 17 = .ok (.invokevirtual 60, 3) := by decide +kernel
theorem dX5_sumLeastPrices_20 : decode cX5_sumLeastPrices 20 = .ok (.iconst 1, 1) := by decide +kernel
theorem dX5_sumLeastPrices_21 : decode cX5_sumLeastPrices 21 = .ok (.isub, 1) := by decide +kernel
theorem dX5_sumLeastPrices_22 : decode cX5_sumLeastPrices 22 = .ok (.istore_n 1, 1) := by decide +kernel
theorem dX5_sumLeastPrices_23 : decode cX5_sumLeastPrices 23 = .ok (.iload_n 1, 1) := by decide +kernel
theorem dX5_sumLeastPrices_24 : decode cX5_sumLeastPrices 24 = .ok (.ifCond .lt 66, 3) := by decide +kernel
theorem dX5_sumLeastPrices_27 : decode cX5_sumLeastPrices 27 = .ok (.aload_n 0, 1) := by decide +kernel
theorem dX5_sumLeastPrices_28 : decode cX5_sumLeastPrices 28 = .ok (.getfield 20, 3) := by decide +kernel
theorem dX5_sumLeastPrices_31 : decode cX5_sumLeastPrices 31 = .ok (.iload_n 1, 1) := by decide +kernel
theorem dX5_sumLeastPrices_32 : decode cX5_sumLeastPrices 32 = .ok (.iaload, 1) := by decide +kernel
theorem dX5_sumLeastPrices_33 : decode cX5_sumLeastPrices 33 = .ok (.istore_n 2, 1) := by decide +kernel
theorem dX5_sumLeastPrices_34 : decode cX5_sumLeastPrices 34 = .ok (.iconst 0, 1) := by decide +kernel
theorem dX5_sumLeastPrices_35 : decode cX5_sumLeastPrices 35 = .ok (.istore_n 3, 1) := by decide +kernel
theorem dX5_sumLeastPrices_36 : decode cX5_sumLeastPrices 36 = .ok (.iload_n 3, 1) := by decide +kernel
theorem dX5_sumLeastPrices_37 : decode cX5_sumLeastPrices 37 = .ok (.aload_n 0, 1) := by decide +kernel
theorem dX5_sumLeastPrices_38 : decode cX5_sumLeastPrices 38 = .ok (.getfield 48, 3) := by decide +kernel
theorem dX5_sumLeastPrices_41 : decode cX5_sumLeastPrices 41 = .ok (.invokevirtual 72, 3) := by decide +kernel
theorem dX5_sumLeastPrices_44 : decode cX5_sumLeastPrices 44 = .ok (.if_icmp .ge 24, 3) := by decide +kernel
theorem dX5_sumLeastPrices_47 : decode cX5_sumLeastPrices 47 = .ok (.iload_n 2, 1) := by decide +kernel
theorem dX5_sumLeastPrices_48 : decode cX5_sumLeastPrices 48 = .ok (.aload_n 0, 1) := by decide +kernel
theorem dX5_sumLeastPrices_49 : decode cX5_sumLeastPrices 49 = .ok (.getfield 17, 3) := by decide +kernel
theorem dX5_sumLeastPrices_52 : decode cX5_sumLeastPrices 52 = .ok (.iload_n 1, 1) := by decide +kernel
theorem dX5_sumLeastPrices_53 : decode cX5_sumLeastPrices 53 = .ok (.iconst 5, 1) := by decide +kernel
theorem dX5_sumLeastPrices_54 : decode cX5_sumLeastPrices 54 = .ok (.imul, 1) := by decide +kernel
theorem dX5_sumLeastPrices_55 : decode cX5_sumLeastPrices 55 = .ok (.iload_n 3, 1) := by decide +kernel
theorem dX5_sumLeastPrices_56 : decode cX5_sumLeastPrices 56 = .ok (.iadd, 1) := by decide +kernel
theorem dX5_sumLeastPrices_57 : decode cX5_sumLeastPrices 57 = .ok (.iaload, 1) := by decide +kernel
theorem dX5_sumLeastPrices_58 : decode cX5_sumLeastPrices 58 = .ok (.invokestatic 113, 3) := by decide +kernel
theorem dX5_sumLeastPrices_61 : decode cX5_sumLeastPrices 61 = .ok (.istore_n 2, 1) := by decide +kernel
theorem dX5_sumLeastPrices_62 : decode cX5_sumLeastPrices 62 = .ok (.iinc 3 1, 3) := by decide +kernel
theorem dX5_sumLeastPrices_65 : decode cX5_sumLeastPrices 65 = .ok (.goto (-29), 3) := by decide +kernel
theorem dX5_sumLeastPrices_68 : decode cX5_sumLeastPrices 68 = .ok (.aload_n 0, 1) := by decide +kernel
theorem dX5_sumLeastPrices_69 : decode cX5_sumLeastPrices 69 = .ok (.getfield 23, 3) := by decide +kernel
theorem dX5_sumLeastPrices_72 : decode cX5_sumLeastPrices 72 = .ok (.iload_n 1, 1) := by decide +kernel
theorem dX5_sumLeastPrices_73 : decode cX5_sumLeastPrices 73 = .ok (.aload_n 0, 1) := by decide +kernel
theorem dX5_sumLeastPrices_74 : decode cX5_sumLeastPrices 74 = .ok (.getfield 23, 3) := by decide +kernel
theorem dX5_sumLeastPrices_77 : decode cX5_sumLeastPrices 77 = .ok (.iload_n 1, 1) := by decide +kernel
theorem dX5_sumLeastPrices_78 : decode cX5_sumLeastPrices 78 = .ok (.iconst 1, 1) := by decide +kernel
theorem dX5_sumLeastPrices_79 : decode cX5_sumLeastPrices 79 = .ok (.iadd, 1) := by decide +kernel
theorem dX5_sumLeastPrices_80 : decode cX5_sumLeastPrices 80 = .ok (.iaload, 1) := by decide +kernel
theorem dX5_sumLeastPrices_81 : decode cX5_sumLeastPrices 81 = .ok (.iload_n 2, 1) := by decide +kernel
theorem dX5_sumLeastPrices_82 : decode cX5_sumLeastPrices 82 = .ok (.iadd, 1) := by decide +kernel
theorem dX5_sumLeastPrices_83 : decode cX5_sumLeastPrices 83 = .ok (.iastore, 1) := by decide +kernel
theorem dX5_sumLeastPrices_84 : decode cX5_sumLeastPrices 84 = .ok (.iinc 1 (-1), 3) := by decide +kernel
theorem dX5_sumLeastPrices_87 : decode cX5_sumLeastPrices 87 = .ok (.goto (-64), 3) := by decide +kernel
theorem dX5_sumLeastPrices_90 : decode cX5_sumLeastPrices 90 = .ok (.return_, 1) := by decide +kernel
theorem dX5_findTogether_0 : decode cX5_findTogether 0 = .ok (.iconst 0, 1) := by decide +kernel
theorem dX5_findTogether_1 : decode cX5_findTogether 1 = .ok (.istore_n 1, 1) := by decide +kernel
theorem dX5_findTogether_2 : decode cX5_findTogether 2 = .ok (.iload_n 1, 1) := by decide +kernel
theorem dX5_findTogether_3 : decode cX5_findTogether 3 = .ok (.aload_n 0, 1) := by decide +kernel
theorem dX5_findTogether_4 : decode cX5_findTogether 4 = .ok (.getfield 44, 3) := by decide +kernel
theorem dX5_findTogether_7 : decode cX5_findTogether 7 = .ok (.invokevirtual 60, 3) := by decide +kernel
theorem dX5_findTogether_10 : decode cX5_findTogether 10 = .ok (.if_icmp .ge 62, 3) := by decide +kernel
theorem dX5_findTogether_13 : decode cX5_findTogether 13 = .ok (.iconst 0, 1) := by decide +kernel
theorem dX5_findTogether_14 : decode cX5_findTogether 14 = .ok (.istore_n 2, 1) := by decide +kernel
theorem dX5_findTogether_15 : decode cX5_findTogether 15 = .ok (.iconst 0, 1) := by decide +kernel
theorem dX5_findTogether_16 : decode cX5_findTogether 16 = .ok (.istore_n 3, 1) := by decide +kernel
theorem dX5_findTogether_17 : decode cX5_findTogether 17 = .ok (.iload_n 3, 1) := by decide +kernel
theorem dX5_findTogether_18 : decode cX5_findTogether 18 = .ok (.aload_n 0, 1) := by decide +kernel
theorem dX5_findTogether_19 : decode cX5_findTogether 19 = .ok (.getfield 44, 3) := by decide +kernel
theorem dX5_findTogether_22 : decode cX5_findTogether 22 = .ok (.invokevirtual 60, 3) := by decide +kernel
theorem dX5_findTogether_25 : decode cX5_findTogether 25 = .ok (.if_icmp .ge 34, 3) := by decide +kernel
theorem dX5_findTogether_28 : decode cX5_findTogether 28 = .ok (.aload_n 0, 1) := by decide +kernel
theorem dX5_findTogether_29 : decode cX5_findTogether 29 = .ok (.getfield 44, 3) := by decide +kernel
theorem dX5_findTogether_32 : decode cX5_findTogether 32 = .ok (.iload_n 3, 1) := by decide +kernel
theorem dX5_findTogether_33 : decode cX5_findTogether 33 = .ok (.aload_n 0, 1) := by decide +kernel
theorem dX5_findTogether_34 : decode cX5_findTogether 34 = .ok (.getfield 44, 3) := by decide +kernel
theorem dX5_findTogether_37 : decode cX5_findTogether 37 = .ok (.iload_n 1, 1) := by decide +kernel
theorem dX5_findTogether_38 : decode cX5_findTogether 38 = .ok (.invokevirtual 119, 3) := by decide +kernel
theorem dX5_findTogether_41 : decode cX5_findTogether 41 = .ok (.invokevirtual 122, 3) := by decide +kernel
theorem dX5_findTogether_44 : decode cX5_findTogether 44 = .ok (.ifCond .eq 9, 3) := by decide +kernel
theorem dX5_findTogether_47 : decode cX5_findTogether 47 = .ok (.iload_n 2, 1) := by decide +kernel
theorem dX5_findTogether_48 : decode cX5_findTogether 48 = .ok (.iconst 1, 1) := by decide +kernel
theorem dX5_findTogether_49 : decode cX5_findTogether 49 = .ok (.iload_n 3, 1) := by decide +kernel
theorem dX5_findTogether_50 : decode cX5_findTogether 50 = .ok (.ishl, 1) := by decide +kernel
theorem dX5_findTogether_51 : decode cX5_findTogether 51 = .ok (.ior, 1) := by decide +kernel
theorem dX5_findTogether_52 : decode cX5_findTogether 52 = .ok (.istore_n 2, 1) := by decide +kernel
theorem dX5_findTogether_53 : decode cX5_findTogether 53 = .ok (.iinc 3 1, 3) := by decide +kernel
theorem dX5_findTogether_56 : decode cX5_findTogether 56 = .ok (.goto (-39), 3) := by decide +kernel
theorem dX5_findTogether_59 : decode cX5_findTogether 59 = .ok (.aload_n 0, 1) := by decide +kernel
theorem dX5_findTogether_60 : decode cX5_findTogether 60 = .ok (.getfield 26, 3) := by decide +kernel
theorem dX5_findTogether_63 : decode cX5_findTogether 63 = .ok (.iload_n 1, 1) := by decide +kernel
theorem dX5_findTogether_64 : decode cX5_findTogether 64 = .ok (.iload_n 2, 1) := by decide +kernel
theorem dX5_findTogether_65 : decode cX5_findTogether 65 = .ok (.iastore, 1) := by decide +kernel
theorem dX5_findTogether_66 : decode cX5_findTogether 66 = .ok (.iinc 1 1, 3) := by decide +kernel
theorem dX5_findTogether_69 : decode cX5_findTogether 69 = .ok (.goto (-67), 3) := by decide +kernel
theorem dX5_findTogether_72 : decode cX5_findTogether 72 = .ok (.return_, 1) := by decide +kernel
theorem dX5_findPeaks_0 : decode cX5_findPeaks 0 = .ok (.iconst 0, 1) := by decide +kernel
theorem dX5_findPeaks_1 : decode cX5_findPeaks 1 = .ok (.istore_n 1, 1) := by decide +kernel
theorem dX5_findPeaks_2 : decode cX5_findPeaks 2 = .ok (.iload_n 1, 1) := by decide +kernel
theorem dX5_findPeaks_3 : decode cX5_findPeaks 3 = .ok (.iconst 1, 1) := by decide +kernel
theorem dX5_findPeaks_4 : decode cX5_findPeaks 4 = .ok (.aload_n 0, 1) := by decide +kernel
theorem dX5_findPeaks_5 : decode cX5_findPeaks 5 = .ok (.getfield 44, 3) := by decide +kernel
theorem dX5_findPeaks_8 : decode cX5_findPeaks 8 = .ok (.invokevirtual 60, 3) := by decide +kernel
theorem dX5_findPeaks_11 : decode cX5_findPeaks 11 = .ok (.ishl, 1) := by decide +kernel
theorem dX5_findPeaks_12 : decode cX5_findPeaks 12 = .ok (.if_icmp .ge 62, 3) := by decide +kernel
theorem dX5_findPeaks_15 : decode cX5_findPeaks 15 = .ok (.iconst 0, 1) := by decide +kernel
theorem dX5_findPeaks_16 : decode cX5_findPeaks 16 = .ok (.istore_n 2, 1) := by decide +kernel
theorem dX5_findPeaks_17 : decode cX5_findPeaks 17 = .ok (.iconst 0, 1) := by decide +kernel
theorem dX5_findPeaks_18 : decode cX5_findPeaks 18 = .ok (.istore_n 3, 1) := by decide +kernel
theorem dX5_findPeaks_19 : decode cX5_findPeaks 19 = .ok (.iload_n 3, 1) := by decide +kernel
theorem dX5_findPeaks_20 : decode cX5_findPeaks 20 = .ok (.aload_n 0, 1) := by decide +kernel
theorem dX5_findPeaks_21 : decode cX5_findPeaks 21 = .ok (.getfield 44, 3) := by decide +kernel
theorem dX5_findPeaks_24 : decode cX5_findPeaks 24 = .ok (.invokevirtual 60, 3) := by decide +kernel
theorem dX5_findPeaks_27 : decode cX5_findPeaks 27 = .ok (.if_icmp .ge 34, 3) := by decide +kernel
theorem dX5_findPeaks_30 : decode cX5_findPeaks 30 = .ok (.iload_n 1, 1) := by decide +kernel
theorem dX5_findPeaks_31 : decode cX5_findPeaks 31 = .ok (.iload_n 3, 1) := by decide +kernel
theorem dX5_findPeaks_32 : decode cX5_findPeaks 32 = .ok (.ishr, 1) := by decide +kernel
theorem dX5_findPeaks_33 : decode cX5_findPeaks 33 = .ok (.iconst 1, 1) := by decide +kernel
theorem dX5_findPeaks_34 : decode cX5_findPeaks 34 = .ok (.iand, 1) := by decide +kernel
theorem dX5_findPeaks_35 : decode cX5_findPeaks 35 = .ok (.iconst 1, 1) := by decide +kernel
theorem dX5_findPeaks_36 : decode cX5_findPeaks 36 = .ok (.if_icmp .ne 19, 3) := by decide +kernel
theorem dX5_findPeaks_39 : decode cX5_findPeaks 39 = .ok (.iload_n 2, 1) := by decide +kernel
theorem dX5_findPeaks_40 : decode cX5_findPeaks 40 = .ok (.aload_n 0, 1) := by decide +kernel
theorem dX5_findPeaks_41 : decode cX5_findPeaks 41 = .ok (.getfield 26, 3) := by decide +kernel
theorem dX5_findPeaks_44 : decode cX5_findPeaks 44 = .ok (.iload_n 3, 1) := by decide +kernel
theorem dX5_findPeaks_45 : decode cX5_findPeaks 45 = .ok (.iaload, 1) := by decide +kernel
theorem dX5_findPeaks_46 : decode cX5_findPeaks 46 = .ok (.iload_n 1, 1) := by decide +kernel
theorem dX5_findPeaks_47 : decode cX5_findPeaks 47 = .ok (.iand, 1) := by decide +kernel
theorem dX5_findPeaks_48 : decode cX5_findPeaks 48 = .ok (.invokestatic 126, 3) := by decide +kernel
theorem dX5_findPeaks_51 : decode cX5_findPeaks 51 = .ok (.invokestatic 129, 3) := by decide +kernel
theorem dX5_findPeaks_54 : decode cX5_findPeaks 54 = .ok (.istore_n 2, 1) := by decide +kernel
theorem dX5_findPeaks_55 : decode cX5_findPeaks 55 = .ok (.iinc 3 1, 3) := by decide +kernel
theorem dX5_findPeaks_58 : decode cX5_findPeaks 58 = .ok (.goto (-39), 3) := by decide +kernel
theorem dX5_findPeaks_61 : decode cX5_findPeaks 61 = .ok (.aload_n 0, 1) := by decide +kernel
theorem dX5_findPeaks_62 : decode cX5_findPeaks 62 = .ok (.getfield 29, 3) := by decide +kernel
theorem dX5_findPeaks_65 : decode cX5_findPeaks 65 = .ok (.iload_n 1, 1) := by decide +kernel
theorem dX5_findPeaks_66 : decode cX5_findPeaks 66 = .ok (.iload_n 2, 1) := by decide +kernel
theorem dX5_findPeaks_67 : decode cX5_findPeaks 67 = .ok (.iastore, 1) := by decide +kernel
theorem dX5_findPeaks_68 : decode cX5_findPeaks 68 = .ok (.iinc 1 1, 3) := by decide +kernel
theorem dX5_findPeaks_71 : decode cX5_findPeaks 71 = .ok (.goto (-69), 3) := by decide +kernel
theorem dX5_findPeaks_74 : decode cX5_findPeaks 74 = .ok (.return_, 1) := by decide +kernel
theorem dX5_search_0 : decode cX5_search 0 = .ok (.iload_n 1, 1) := by decide +kernel
theorem dX5_search_1 : decode cX5_search 1 = .ok (.aload_n 0, 1) := by decide +kernel
theorem dX5_search_2 : decode cX5_search 2 = .ok (.getfield 44, 3) := by decide +kernel
theorem dX5_search_5 : decode cX5_search 5 = .ok (.invokevirtual 60, 3) := by decide +kernel
theorem dX5_search_8 : decode cX5_search 8 = .ok (.if_icmp .gt 18, 3) := by decide +kernel
theorem dX5_search_11 : decode cX5_search 11 = .ok (.iload_n 2, 1) := by decide +kernel
theorem dX5_search_12 : decode cX5_search 12 = .ok (.aload_n 0, 1) := by decide +kernel
theorem dX5_search_13 : decode cX5_search 13 = .ok (.getfield 23, 3) := by decide +kernel
theorem dX5_search_16 : decode cX5_search 16 = .ok (.iload_n 1, 1) := by decide +kernel
theorem dX5_search_17 : decode cX5_search 17 = .ok (.iaload, 1) := by decide +kernel
theorem dX5_search_18 : decode cX5_search 18 = .ok (.iadd, 1) := by decide +kernel
theorem dX5_search_19 : decode cX5_search 19 = .ok (.aload_n 0, 1) := by decide +kernel
theorem dX5_search_20 : decode cX5_search 20 = .ok (.getfield 105, 3) := by decide +kernel
theorem dX5_search_23 : decode cX5_search 23 = .ok (.if_icmp .lt 4, 3) := by decide +kernel
theorem dX5_search_26 : decode cX5_search 26 = .ok (.return_, 1) := by decide +kernel
theorem dX5_search_27 : decode cX5_search 27 = .ok (.iload_n 1, 1) := by decide +kernel
theorem dX5_search_28 : decode cX5_search 28 = .ok (.aload_n 0, 1) := by decide +kernel
theorem dX5_search_29 : decode cX5_search 29 = .ok (.getfield 44, 3) := by decide +kernel
theorem dX5_search_32 : decode cX5_search 32 = .ok (.invokevirtual 60, 3) := by decide +kernel
theorem dX5_search_35 : decode cX5_search 35 = .ok (.if_icmp .ne 24, 3) := by decide +kernel
theorem dX5_search_38 : decode cX5_search 38 = .ok (.aload_n 0, 1) := by decide +kernel
theorem dX5_search_39 : decode cX5_search 39 = .ok (.iload_n 2, 1) := by decide +kernel
theorem dX5_search_40 : decode cX5_search 40 = .ok (.putfield 105, 3) := by decide +kernel
theorem dX5_search_43 : decode cX5_search 43 = .ok (.aload_n 0, 1) := by decide +kernel
theorem dX5_search_44 : decode cX5_search 44 = .ok (.getfield 38, 3) := by decide +kernel
theorem dX5_search_47 : decode cX5_search 47 = .ok (.iconst 0, 1) := by decide +kernel
theorem dX5_search_48 : decode cX5_search 48 = .ok (.aload_n 0, 1) := by decide +kernel
theorem dX5_search_49 : decode cX5_search 49 = .ok (.getfield 41, 3) := by decide +kernel
theorem dX5_search_52 : decode cX5_search 52 = .ok (.iconst 0, 1) := by decide +kernel
theorem dX5_search_53 : decode cX5_search 53 = .ok (.bipush 7, 2) := by decide +kernel
theorem dX5_search_55 : decode cX5_search 55 = .ok (.invokestatic 132, 3) := by decide +kernel
theorem dX5_search_58 : decode cX5_search 58 = .ok (.return_, 1) := by decide +kernel
theorem dX5_search_59 : decode cX5_search 59 = .ok (.iconst 0, 1) := by decide +kernel
theorem dX5_search_60 : decode cX5_search 60 = .ok (.istore_n 3, 1) := by decide +kernel
theorem dX5_search_61 : decode cX5_search 61 = .ok (.iload_n 3, 1) := by decide +kernel
theorem dX5_search_62 : decode cX5_search 62 = .ok (.aload_n 0, 1) := by decide +kernel
theorem dX5_search_63 : decode cX5_search 63 = .ok (.getfield 48, 3) := by decide +kernel
theorem dX5_search_66 : decode cX5_search 66 = .ok (.invokevirtual 72, 3) := by decide +kernel
theorem dX5_search_69 : decode cX5_search 69 = .ok (.if_icmp .ge 31, 3) := by decide +kernel
theorem dX5_search_72 : decode cX5_search 72 = .ok (.aload_n 0, 1) := by decide +kernel
theorem dX5_search_73 : decode cX5_search 73 = .ok (.getfield 17, 3) := by decide +kernel
theorem dX5_search_76 : decode cX5_search 76 = .ok (.iload_n 1, 1) := by decide +kernel
theorem dX5_search_77 : decode cX5_search 77 = .ok (.iconst 5, 1) := by decide +kernel
theorem dX5_search_78 : decode cX5_search 78 = .ok (.imul, 1) := by decide +kernel
theorem dX5_search_79 : decode cX5_search 79 = .ok (.iload_n 3, 1) := by decide +kernel
theorem dX5_search_80 : decode cX5_search 80 = .ok (.iadd, 1) := by decide +kernel
theorem dX5_search_81 : decode cX5_search 81 = .ok (.iaload, 1) := by decide +kernel
theorem dX5_search_82 : decode cX5_search 82 = .ok (.ldc 84, 2) := by decide +kernel
theorem dX5_search_84 : decode cX5_search 84 = .ok (.if_icmp .eq 10, 3) := by decide +kernel
theorem dX5_search_87 : decode cX5_search 87 = .ok (.aload_n 0, 1) := by decide +kernel
theorem dX5_search_88 : decode cX5_search 88 = .ok (.iload_n 1, 1) := by decide +kernel
theorem dX5_search_89 : decode cX5_search 89 = .ok (.iload_n 3, 1) := by decide +kernel
theorem dX5_search_90 : decode cX5_search 90 = .ok (.iload_n 2, 1) := by decide +kernel
theorem dX5_search_91 : decode cX5_search 91 = .ok (.invokevirtual 138, 3) := by decide +kernel
theorem dX5_search_94 : decode cX5_search 94 = .ok (.iinc 3 1, 3) := by decide +kernel
theorem dX5_search_97 : decode cX5_search 97 = .ok (.goto (-36), 3) := by decide +kernel
theorem dX5_search_100 : decode cX5_search 100 = .ok (.aload_n 0, 1) := by decide +kernel
theorem dX5_search_101 : decode cX5_search 101 = .ok (.getfield 38, 3) := by decide +kernel
theorem dX5_search_104 : decode cX5_search 104 = .ok (.iload_n 1, 1) := by decide +kernel
theorem dX5_search_105 : decode cX5_search 105 = .ok (.iconst (-1), 1) := by decide +kernel
theorem dX5_search_106 : decode cX5_search 106 = .ok (.iastore, 1) := by decide +kernel
theorem dX5_search_107 : decode cX5_search 107 = .ok (.aload_n 0, 1) := by decide +kernel
theorem dX5_search_108 : decode cX5_search 108 = .ok (.iload_n 1, 1) := by decide +kernel
theorem dX5_search_109 : decode cX5_search 109 = .ok (.iconst 1, 1) := by decide +kernel
theorem dX5_search_110 : decode cX5_search 110 = .ok (.iadd, 1) := by decide +kernel
theorem dX5_search_111 : decode cX5_search 111 = .ok (.iload_n 2, 1) := by decide +kernel
theorem dX5_search_112 : decode cX5_search 112 = .ok (.aload_n 0, 1) := by decide +kernel
theorem dX5_search_113 : decode cX5_search 113 = .ok (.getfield 20, 3) := by decide +kernel
theorem dX5_search_116 : decode cX5_search 116 = .ok (.iload_n 1, 1) := by decide +kernel
theorem dX5_search_117 : decode cX5_search 117 = .ok (.iaload, 1) := by decide +kernel
theorem dX5_search_118 : decode cX5_search 118 = .ok (.iadd, 1) := by decide +kernel
theorem dX5_search_119 : decode cX5_search 119 = .ok (.invokevirtual 109, 3) := by decide +kernel
theorem dX5_search_122 : decode cX5_search 122 = .ok (.return_, 1) := by decide +kernel
theorem dX5_searchWithHome_0 : decode cX5_searchWithHome 0 = .ok (.aload_n 0, 1) := by decide +kernel
theorem dX5_searchWithHome_1 : decode cX5_searchWithHome 1 = .ok (.getfield 32, 3) := by decide +kernel
theorem dX5_searchWithHome_4 : decode cX5_searchWithHome 4 = .ok (.iload_n 2, 1) := by decide +kernel
theorem dX5_searchWithHome_5 : decode cX5_searchWithHome 5 = .ok (.iaload, 1) := by decide +kernel
theorem dX5_searchWithHome_6 : decode cX5_searchWithHome 6 = .ok (.istore 4, 2) := by decide +kernel
theorem dX5_searchWithHome_8 : decode cX5_searchWithHome 8 = .ok (.iload 4, 2) := by decide +kernel
theorem dX5_searchWithHome_10 : decode cX5_searchWithHome 10 = .ok (.iconst 1, 1) := by decide +kernel
theorem dX5_searchWithHome_11 : decode cX5_searchWithHome 11 = .ok (.iload_n 1, 1) := by decide +kernel
theorem dX5_searchWithHome_12 : decode cX5_searchWithHome 12 = .ok (.ishl, 1) := by decide +kernel
theorem dX5_searchWithHome_13 : decode cX5_searchWithHome 13 = .ok (.ior, 1) := by decide +kernel
theorem dX5_searchWithHome_14 : decode cX5_searchWithHome 14 = .ok (.istore 5, 2) := by decide +kernel
theorem dX5_searchWithHome_16 : decode cX5_searchWithHome 16 = .ok (.aload_n 0, 1) := by decide +kernel
theorem dX5_searchWithHome_17 : decode cX5_searchWithHome 17 = .ok (.getfield 29, 3) := by decide +kernel
theorem dX5_searchWithHome_20 : decode cX5_searchWithHome 20 = .ok (.iload 5, 2) := by decide +kernel
theorem dX5_searchWithHome_22 : decode cX5_searchWithHome 22 = .ok (.iaload, 1) := by decide +kernel
theorem dX5_searchWithHome_23 : decode cX5_searchWithHome 23 = .ok (.aload_n 0, 1) := by decide +kernel
theorem dX5_searchWithHome_24 : decode cX5_searchWithHome 24 = .ok (.getfield 48, 3) := by decide +kernel
theorem dX5_searchWithHome_27 : decode cX5_searchWithHome 27 = .ok (.iload_n 2, 1) := by decide +kernel
theorem dX5_searchWithHome_28 : decode cX5_searchWithHome 28 = .ok (.invokevirtual 142, 3) := by decide +kernel
theorem dX5_searchWithHome_31 : decode cX5_searchWithHome 31 = .ok (.if_icmp .le 4, 3) := by decide +kernel
theorem dX5_searchWithHome_34 : decode cX5_searchWithHome 34 = .ok (.return_, 1) := by decide +kernel
theorem dX5_searchWithHome_35 : decode cX5_searchWithHome 35 = .ok (.aload_n 0, 1) := by decide +kernel
theorem dX5_searchWithHome_36 : decode cX5_searchWithHome 36 = .ok (.getfield 44, 3) := by decide +kernel
theorem dX5_searchWithHome_39 : decode cX5_searchWithHome 39 = .ok (.iload_n 1, 1) := by decide +kernel
theorem dX5_searchWithHome_40 : decode cX5_searchWithHome 40 = .ok (.invokevirtual 145, 3) := by decide +kernel
theorem dX5_searchWithHome_43 : decode cX5_searchWithHome 43 = .ok (.istore 6, 2) := by decide +kernel
theorem dX5_searchWithHome_45 : decode cX5_searchWithHome 45 = .ok (.aload_n 0, 1) := by decide +kernel
theorem dX5_searchWithHome_46 : decode cX5_searchWithHome 46 = .ok (.getfield 35, 3) := by decide +kernel
theorem dX5_searchWithHome_49 : decode cX5_searchWithHome 49 = .ok (.iload 6, 2) := by decide +kernel
theorem dX5_searchWithHome_51 : decode cX5_searchWithHome 51 = .ok (.iaload, 1) := by decide +kernel
theorem dX5_searchWithHome_52 : decode cX5_searchWithHome 52 = .ok (.istore 7, 2) := by decide +kernel
theorem dX5_searchWithHome_54 : decode cX5_searchWithHome 54 = .ok (.iload 6, 2) := by decide +kernel
theorem dX5_searchWithHome_56 : decode cX5_searchWithHome 56 = .ok (.ifCond .ne 7, 3) := by decide +kernel
theorem dX5_searchWithHome_59 : decode cX5_searchWithHome 59 = .ok (.iconst 0, 1) := by decide +kernel
theorem dX5_searchWithHome_60 : decode cX5_searchWithHome 60 = .ok (.goto 9, 3) := by decide +kernel
theorem dX5_searchWithHome_63 : decode cX5_searchWithHome 63 = .ok (.iload 7, 2) := by decide +kernel
theorem dX5_searchWithHome_65 : decode cX5_searchWithHome 65 = .ok (.iconst 1, 1) := by decide +kernel
theorem dX5_searchWithHome_66 : decode cX5_searchWithHome 66 = .ok (.iload_n 2, 1) := by decide +kernel
theorem dX5_searchWithHome_67 : decode cX5_searchWithHome 67 = .ok (.ishl, 1) := by decide +kernel
theorem dX5_searchWithHome_68 : decode cX5_searchWithHome 68 = .ok (.ior, 1) := by decide +kernel
theorem dX5_searchWithHome_69 : decode cX5_searchWithHome 69 = .ok (.istore 8, 2) := by decide +kernel
theorem dX5_searchWithHome_71 : decode cX5_searchWithHome 71 = .ok (.iload 7, 2) := by decide +kernel
theorem dX5_searchWithHome_73 : decode cX5_searchWithHome 73 = .ok (.invokestatic 126, 3) := by decide +kernel
theorem dX5_searchWithHome_76 : decode cX5_searchWithHome 76 = .ok (.iconst 1, 1) := by decide +kernel
theorem dX5_searchWithHome_77 : decode cX5_searchWithHome 77 = .ok (.if_icmp .ne 14, 3) := by decide +kernel
theorem dX5_searchWithHome_80 : decode cX5_searchWithHome 80 = .ok (.iload 8, 2) := by decide +kernel
theorem dX5_searchWithHome_82 : decode cX5_searchWithHome 82 = .ok (.iload 7, 2) := by decide +kernel
theorem dX5_searchWithHome_84 : decode cX5_searchWithHome 84 = .ok (.if_icmp .eq 7, 3) := by decide +kernel
theorem dX5_searchWithHome_87 : decode cX5_searchWithHome 87 = .ok (.iconst 1, 1) := by decide +kernel
theorem dX5_searchWithHome_88 : decode cX5_searchWithHome 88 = .ok (.goto 4, 3) := by decide +kernel
theorem dX5_searchWithHome_91 : decode cX5_searchWithHome 91 = .ok (.iconst 0, 1) := by decide +kernel
theorem dX5_searchWithHome_92 : decode cX5_searchWithHome 92 = .ok (.istore 9, 2) := by decide +kernel
theorem dX5_searchWithHome_94 : decode cX5_searchWithHome 94 = .ok (.aload_n 0, 1) := by decide +kernel
theorem dX5_searchWithHome_95 : decode cX5_searchWithHome 95 = .ok (.getfield 32, 3) := by decide +kernel
theorem dX5_searchWithHome_98 : decode cX5_searchWithHome 98 = .ok (.iload_n 2, 1) := by decide +kernel
theorem dX5_searchWithHome_99 : decode cX5_searchWithHome 99 = .ok (.iload 5, 2) := by decide +kernel
theorem dX5_searchWithHome_101 : decode cX5_searchWithHome 101 = .ok (.iastore, 1) := by decide +kernel
theorem dX5_searchWithHome_102 : decode cX5_searchWithHome 102 = .ok (.aload_n 0, 1) := by decide +kernel
theorem dX5_searchWithHome_103 : decode cX5_searchWithHome 103 = .ok (.getfield 35, 3) := by decide +kernel
theorem dX5_searchWithHome_106 : decode cX5_searchWithHome 106 = .ok (.iload 6, 2) := by decide +kernel
theorem dX5_searchWithHome_108 : decode cX5_searchWithHome 108 = .ok (.iload 8, 2) := by decide +kernel
theorem dX5_searchWithHome_110 : decode cX5_searchWithHome 110 = .ok (.iastore, 1) := by decide +kernel
theorem dX5_searchWithHome_111 : decode cX5_searchWithHome 111 = .ok (.aload_n 0, 1) := by decide +kernel
theorem dX5_searchWithHome_112 : decode cX5_searchWithHome 112 = .ok (.getfield 38, 3) := by decide +kernel
theorem dX5_searchWithHome_115 : decode cX5_searchWithHome 115 = .ok (.iload_n 1, 1) := by decide +kernel
theorem dX5_searchWithHome_116 : decode cX5_searchWithHome 116 = .ok (.iload_n 2, 1) := by decide +kernel
theorem dX5_searchWithHome_117 : decode cX5_searchWithHome 117 = .ok (.iastore, 1) := by decide +kernel
theorem dX5_searchWithHome_118 : decode cX5_searchWithHome 118 = .ok (.aload_n 0, 1) := by decide +kernel
theorem dX5_searchWithHome_119 : decode cX5_searchWithHome 119 = .ok (.getfield 17, 3) := by decide +kernel
theorem dX5_searchWithHome_122 : decode cX5_searchWithHome 122 = .ok (.iload_n 1, 1) := by decide +kernel
theorem dX5_searchWithHome_123 : decode cX5_searchWithHome 123 = .ok (.iconst 5, 1) := by decide +kernel
theorem dX5_searchWithHome_124 : decode cX5_searchWithHome 124 = .ok (.imul, 1) := by decide +kernel
theorem dX5_searchWithHome_125 : decode cX5_searchWithHome 125 = .ok (.iload_n 2, 1) := by decide +kernel
theorem dX5_searchWithHome_126 : decode cX5_searchWithHome 126 = .ok (.iadd, 1) := by decide +kernel
theorem dX5_searchWithHome_127 : decode cX5_searchWithHome 127 = .ok (.iaload, 1) := by decide +kernel
theorem dX5_searchWithHome_128 : decode cX5_searchWithHome 128 = .ok (.iload 9, 2) := by decide +kernel
theorem dX5_searchWithHome_130 : decode cX5_searchWithHome 130 = .ok (.ifCond .eq 8, 3) := by decide +kernel
theorem dX5_searchWithHome_133 : decode cX5_searchWithHome 133 = .ok (.ldc 148, 2) := by decide +kernel
theorem dX5_searchWithHome_135 : decode cX5_searchWithHome 135 = .ok (.goto 4, 3) := by decide +kernel
theorem dX5_searchWithHome_138 : decode cX5_searchWithHome 138 = .ok (.iconst 0, 1) := by decide +kernel
theorem dX5_searchWithHome_139 : decode cX5_searchWithHome 139 = .ok (.iadd, 1) := by decide +kernel
theorem dX5_searchWithHome_140 : decode cX5_searchWithHome 140 = .ok (.istore 10, 2) := by decide +kernel
theorem dX5_searchWithHome_142 : decode cX5_searchWithHome 142 = .ok (.aload_n 0, 1) := by decide +kernel
theorem dX5_searchWithHome_143 : decode cX5_searchWithHome 143 = .ok (.iload_n 1, 1) := by decide +kernel
theorem dX5_searchWithHome_144 : decode cX5_searchWithHome 144 = .ok (.iconst 1, 1) := by decide +kernel
theorem dX5_searchWithHome_145 : decode cX5_searchWithHome 145 = .ok (.iadd, 1) := by decide +kernel
theorem dX5_searchWithHome_146 : decode cX5_searchWithHome 146 = .ok (.iload_n 3, 1) := by decide +kernel
theorem dX5_searchWithHome_147 : decode cX5_searchWithHome 147 = .ok (.iload 10, 2) := by decide +kernel
theorem dX5_searchWithHome_149 : decode cX5_searchWithHome 149 = .ok (.iadd, 1) := by decide +kernel
theorem dX5_searchWithHome_150 : decode cX5_searchWithHome 150 = .ok (.invokevirtual 109, 3) := by decide +kernel
theorem dX5_searchWithHome_153 : decode cX5_searchWithHome 153 = .ok (.aload_n 0, 1) := by decide +kernel
theorem dX5_searchWithHome_154 : decode cX5_searchWithHome 154 = .ok (.getfield 32, 3) := by decide +kernel
theorem dX5_searchWithHome_157 : decode cX5_searchWithHome 157 = .ok (.iload_n 2, 1) := by decide +kernel
theorem dX5_searchWithHome_158 : decode cX5_searchWithHome 158 = .ok (.iload 4, 2) := by decide +kernel
theorem dX5_searchWithHome_160 : decode cX5_searchWithHome 160 = .ok (.iastore, 1) := by decide +kernel
theorem dX5_searchWithHome_161 : decode cX5_searchWithHome 161 = .ok (.aload_n 0, 1) := by decide +kernel
theorem dX5_searchWithHome_162 : decode cX5_searchWithHome 162 = .ok (.getfield 35, 3) := by decide +kernel
theorem dX5_searchWithHome_165 : decode cX5_searchWithHome 165 = .ok (.iload 6, 2) := by decide +kernel
theorem dX5_searchWithHome_167 : decode cX5_searchWithHome 167 = .ok (.iload 7, 2) := by decide +kernel
theorem dX5_searchWithHome_169 : decode cX5_searchWithHome 169 = .ok (.iastore, 1) := by decide +kernel
theorem dX5_searchWithHome_170 : decode cX5_searchWithHome 170 = .ok (.return_, 1) := by decide +kernel
theorem dX5_settle_0 : decode cX5_settle 0 = .ok (.aload_n 0, 1) := by decide +kernel
theorem dX5_settle_1 : decode cX5_settle 1 = .ok (.getfield 56, 3) := by decide +kernel
theorem dX5_settle_4 : decode cX5_settle 4 = .ok (.invokevirtual 149, 3) := by decide +kernel
theorem dX5_settle_7 : decode cX5_settle 7 = .ok (.aload_n 0, 1) := by decide +kernel
theorem dX5_settle_8 : decode cX5_settle 8 = .ok (.getfield 35, 3) := by decide +kernel
theorem dX5_settle_11 : decode cX5_settle 11 = .ok (.iconst 0, 1) := by decide +kernel
theorem dX5_settle_12 : decode cX5_settle 12 = .ok (.invokestatic 99, 3) := by decide +kernel
theorem dX5_settle_15 : decode cX5_settle 15 = .ok (.iconst 0, 1) := by decide +kernel
theorem dX5_settle_16 : decode cX5_settle 16 = .ok (.istore_n 1, 1) := by decide +kernel
theorem dX5_settle_17 : decode cX5_settle 17 = .ok (.iload_n 1, 1) := by decide +kernel
theorem dX5_settle_18 : decode cX5_settle 18 = .ok (.aload_n 0, 1) := by decide +kernel
theorem dX5_settle_19 : decode cX5_settle 19 = .ok (.getfield 44, 3) := by decide +kernel
theorem dX5_settle_22 : decode cX5_settle 22 = .ok (.invokevirtual 60, 3) := by decide +kernel
theorem dX5_settle_25 : decode cX5_settle 25 = .ok (.if_icmp .ge 54, 3) := by decide +kernel
theorem dX5_settle_28 : decode cX5_settle 28 = .ok (.aload_n 0, 1) := by decide +kernel
theorem dX5_settle_29 : decode cX5_settle 29 = .ok (.getfield 44, 3) := by decide +kernel
theorem dX5_settle_32 : decode cX5_settle 32 = .ok (.iload_n 1, 1) := by decide +kernel
theorem dX5_settle_33 : decode cX5_settle 33 = .ok (.invokevirtual 86, 3) := by decide +kernel
theorem dX5_settle_36 : decode cX5_settle 36 = .ok (.ifCond .eq 23, 3) := by decide +kernel
theorem dX5_settle_39 : decode cX5_settle 39 = .ok (.aload_n 0, 1) := by decide +kernel
theorem dX5_settle_40 : decode cX5_settle 40 = .ok (.getfield 56, 3) := by decide +kernel
theorem dX5_settle_43 : decode cX5_settle 43 = .ok (.iconst 0, 1) := by decide +kernel
theorem dX5_settle_44 : decode cX5_settle 44 = .ok (.iconst 1, 1) := by decide +kernel
theorem dX5_settle_45 : decode cX5_settle 45 = .ok (.invokevirtual 152, 3) := by decide +kernel
theorem dX5_settle_48 : decode cX5_settle 48 = .ok (.aload_n 0, 1) := by decide +kernel
theorem dX5_settle_49 : decode cX5_settle 49 = .ok (.iload_n 1, 1) := by decide +kernel
theorem dX5_settle_50 : decode cX5_settle 50 = .ok (.aload_n 0, 1) := by decide +kernel
theorem dX5_settle_51 : decode cX5_settle 51 = .ok (.getfield 41, 3) := by decide +kernel
theorem dX5_settle_54 : decode cX5_settle 54 = .ok (.iload_n 1, 1) := by decide +kernel
theorem dX5_settle_55 : decode cX5_settle 55 = .ok (.iaload, 1) := by decide +kernel
theorem dX5_settle_56 : decode cX5_settle 56 = .ok (.invokevirtual 155, 3) := by decide +kernel
theorem dX5_settle_59 : decode cX5_settle 59 = .ok (.aload_n 0, 1) := by decide +kernel
theorem dX5_settle_60 : decode cX5_settle 60 = .ok (.getfield 56, 3) := by decide +kernel
theorem dX5_settle_63 : decode cX5_settle 63 = .ok (.iload_n 1, 1) := by decide +kernel
theorem dX5_settle_64 : decode cX5_settle 64 = .ok (.aload_n 0, 1) := by decide +kernel
theorem dX5_settle_65 : decode cX5_settle 65 = .ok (.getfield 41, 3) := by decide +kernel
theorem dX5_settle_68 : decode cX5_settle 68 = .ok (.iload_n 1, 1) := by decide +kernel
theorem dX5_settle_69 : decode cX5_settle 69 = .ok (.iaload, 1) := by decide +kernel
theorem dX5_settle_70 : decode cX5_settle 70 = .ok (.invokevirtual 158, 3) := by decide +kernel
theorem dX5_settle_73 : decode cX5_settle 73 = .ok (.iinc 1 1, 3) := by decide +kernel
theorem dX5_settle_76 : decode cX5_settle 76 = .ok (.goto (-59), 3) := by decide +kernel
theorem dX5_settle_79 : decode cX5_settle 79 = .ok (.iconst 1, 1) := by decide +kernel
theorem dX5_settle_80 : decode cX5_settle 80 = .ok (.istore_n 1, 1) := by decide +kernel
theorem dX5_settle_81 : decode cX5_settle 81 = .ok (.iload_n 1, 1) := by decide +kernel
theorem dX5_settle_82 : decode cX5_settle 82 = .ok (.iconst 3, 1) := by decide +kernel
theorem dX5_settle_83 : decode cX5_settle 83 = .ok (.if_icmp .gt 35, 3) := by decide +kernel
theorem dX5_settle_86 : decode cX5_settle 86 = .ok (.aload_n 0, 1) := by decide +kernel
theorem dX5_settle_87 : decode cX5_settle 87 = .ok (.getfield 56, 3) := by decide +kernel
theorem dX5_settle_90 : decode cX5_settle 90 = .ok (.iconst 2, 1) := by decide +kernel
theorem dX5_settle_91 : decode cX5_settle 91 = .ok (.aload_n 0, 1) := by decide +kernel
theorem dX5_settle_92 : decode cX5_settle 92 = .ok (.getfield 35, 3) := by decide +kernel
theorem dX5_settle_95 : decode cX5_settle 95 = .ok (.iload_n 1, 1) := by decide +kernel
theorem dX5_settle_96 : decode cX5_settle 96 = .ok (.iaload, 1) := by decide +kernel
theorem dX5_settle_97 : decode cX5_settle 97 = .ok (.invokestatic 126, 3) := by decide +kernel
theorem dX5_settle_100 : decode cX5_settle 100 = .ok (.iconst 1, 1) := by decide +kernel
theorem dX5_settle_101 : decode cX5_settle 101 = .ok (.if_icmp .le 7, 3) := by decide +kernel
theorem dX5_settle_104 : decode cX5_settle 104 = .ok (.iconst 1, 1) := by decide +kernel
theorem dX5_settle_105 : decode cX5_settle 105 = .ok (.goto 4, 3) := by decide +kernel
theorem dX5_settle_108 : decode cX5_settle 108 = .ok (.iconst 0, 1) := by decide +kernel
theorem dX5_settle_109 : decode cX5_settle 109 = .ok (.invokevirtual 152, 3) := by decide +kernel
theorem dX5_settle_112 : decode cX5_settle 112 = .ok (.iinc 1 1, 3) := by decide +kernel
theorem dX5_settle_115 : decode cX5_settle 115 = .ok (.goto (-34), 3) := by decide +kernel
theorem dX5_settle_118 : decode cX5_settle 118 = .ok (.return_, 1) := by decide +kernel
theorem dX5_countChild_0 : decode cX5_countChild 0 = .ok (.aload_n 0, 1) := by decide +kernel
theorem dX5_countChild_1 : decode cX5_countChild 1 = .ok (.getfield 56, 3) := by decide +kernel
theorem dX5_countChild_4 : decode cX5_countChild 4 = .ok (.iload_n 1, 1) := by decide +kernel
theorem dX5_countChild_5 : decode cX5_countChild 5 = .ok (.invokevirtual 66, 3) := by decide +kernel
theorem dX5_countChild_8 : decode cX5_countChild 8 = .ok (.istore_n 3, 1) := by decide +kernel
theorem dX5_countChild_9 : decode cX5_countChild 9 = .ok (.iload_n 3, 1) := by decide +kernel
theorem dX5_countChild_10 : decode cX5_countChild 10 = .ok (.iconst (-1), 1) := by decide +kernel
theorem dX5_countChild_11 : decode cX5_countChild 11 = .ok (.if_icmp .eq 17, 3) := by decide +kernel
theorem dX5_countChild_14 : decode cX5_countChild 14 = .ok (.iload_n 3, 1) := by decide +kernel
theorem dX5_countChild_15 : decode cX5_countChild 15 = .ok (.iload_n 2, 1) := by decide +kernel
theorem dX5_countChild_16 : decode cX5_countChild 16 = .ok (.if_icmp .eq 12, 3) := by decide +kernel
theorem dX5_countChild_19 : decode cX5_countChild 19 = .ok (.aload_n 0, 1) := by decide +kernel
theorem dX5_countChild_20 : decode cX5_countChild 20 = .ok (.getfield 56, 3) := by decide +kernel
theorem dX5_countChild_23 : decode cX5_countChild 23 = .ok (.iconst 3, 1) := by decide +kernel
theorem dX5_countChild_24 : decode cX5_countChild 24 = .ok (.iconst 1, 1) := by decide +kernel
theorem dX5_countChild_25 : decode cX5_countChild 25 = .ok (.invokevirtual 152, 3) := by decide +kernel
theorem dX5_countChild_28 : decode cX5_countChild 28 = .ok (.iload_n 2, 1) := by decide +kernel
theorem dX5_countChild_29 : decode cX5_countChild 29 = .ok (.iconst (-1), 1) := by decide +kernel
theorem dX5_countChild_30 : decode cX5_countChild 30 = .ok (.if_icmp .ne 15, 3) := by decide +kernel
theorem dX5_countChild_33 : decode cX5_countChild 33 = .ok (.aload_n 0, 1) := by decide +kernel
theorem dX5_countChild_34 : decode cX5_countChild 34 = .ok (.getfield 56, 3) := by decide +kernel
theorem dX5_countChild_37 : decode cX5_countChild 37 = .ok (.iconst 1, 1) := by decide +kernel
theorem dX5_countChild_38 : decode cX5_countChild 38 = .ok (.iconst 1, 1) := by decide +kernel
theorem dX5_countChild_39 : decode cX5_countChild 39 = .ok (.invokevirtual 152, 3) := by decide +kernel
theorem dX5_countChild_42 : decode cX5_countChild 42 = .ok (.goto 40, 3) := by decide +kernel
theorem dX5_countChild_45 : decode cX5_countChild 45 = .ok (.aload_n 0, 1) := by decide +kernel
theorem dX5_countChild_46 : decode cX5_countChild 46 = .ok (.getfield 35, 3) := by decide +kernel
theorem dX5_countChild_49 : decode cX5_countChild 49 = .ok (.aload_n 0, 1) := by decide +kernel
theorem dX5_countChild_50 : decode cX5_countChild 50 = .ok (.getfield 44, 3) := by decide +kernel
theorem dX5_countChild_53 : decode cX5_countChild 53 = .ok (.iload_n 1, 1) := by decide +kernel
theorem dX5_countChild_54 : decode cX5_countChild 54 = .ok (.invokevirtual 145, 3) := by decide +kernel
theorem dX5_countChild_57 : decode cX5_countChild 57 = .ok (.dup2, 1) := by decide +kernel
theorem dX5_countChild_58 : decode cX5_countChild 58 = .ok (.iaload, 1) := by decide +kernel
theorem dX5_countChild_59 : decode cX5_countChild 59 = .ok (.iconst 1, 1) := by decide +kernel
theorem dX5_countChild_60 : decode cX5_countChild 60 = .ok (.iload_n 2, 1) := by decide +kernel
theorem dX5_countChild_61 : decode cX5_countChild 61 = .ok (.ishl, 1) := by decide +kernel
theorem dX5_countChild_62 : decode cX5_countChild 62 = .ok (.ior, 1) := by decide +kernel
theorem dX5_countChild_63 : decode cX5_countChild 63 = .ok (.iastore, 1) := by decide +kernel
theorem dX5_countChild_64 : decode cX5_countChild 64 = .ok (.aload_n 0, 1) := by decide +kernel
theorem dX5_countChild_65 : decode cX5_countChild 65 = .ok (.getfield 56, 3) := by decide +kernel
theorem dX5_countChild_68 : decode cX5_countChild 68 = .ok (.iconst 4, 1) := by decide +kernel
theorem dX5_countChild_69 : decode cX5_countChild 69 = .ok (.aload_n 0, 1) := by decide +kernel
theorem dX5_countChild_70 : decode cX5_countChild 70 = .ok (.getfield 13, 3) := by decide +kernel
theorem dX5_countChild_73 : decode cX5_countChild 73 = .ok (.iload_n 1, 1) := by decide +kernel
theorem dX5_countChild_74 : decode cX5_countChild 74 = .ok (.iconst 5, 1) := by decide +kernel
theorem dX5_countChild_75 : decode cX5_countChild 75 = .ok (.imul, 1) := by decide +kernel
theorem dX5_countChild_76 : decode cX5_countChild 76 = .ok (.iload_n 2, 1) := by decide +kernel
theorem dX5_countChild_77 : decode cX5_countChild 77 = .ok (.iadd, 1) := by decide +kernel
theorem dX5_countChild_78 : decode cX5_countChild 78 = .ok (.iaload, 1) := by decide +kernel
theorem dX5_countChild_79 : decode cX5_countChild 79 = .ok (.invokevirtual 152, 3) := by decide +kernel
theorem dX5_countChild_82 : decode cX5_countChild 82 = .ok (.return_, 1) := by decide +kernel
theorem dX6_init_0 : decode cX6_init 0 = .ok (.aload_n 0, 1) := by decide +kernel
theorem dX6_init_1 : decode cX6_init 1 = .ok (.invokespecial 3, 3) := by decide +kernel
theorem dX6_init_4 : decode cX6_init 4 = .ok (.aload_n 0, 1) := by decide +kernel
theorem dX6_init_5 : decode cX6_init 5 = .ok (.bipush 7, 2) := by decide +kernel
theorem dX6_init_7 : decode cX6_init 7 = .ok (.newarray .int, 2) := by decide +kernel
theorem dX6_init_9 : decode cX6_init 9 = .ok (.putfield 9, 3) := by decide +kernel
theorem dX6_init_12 : decode cX6_init 12 = .ok (.aload_n 0, 1) := by decide +kernel
theorem dX6_init_13 : decode cX6_init 13 = .ok (.iconst 5, 1) := by decide +kernel
theorem dX6_init_14 : decode cX6_init 14 = .ok (.newarray .int, 2) := by decide +kernel
theorem dX6_init_16 : decode cX6_init 16 = .ok (.putfield 15, 3) := by decide +kernel
theorem dX6_init_19 : decode cX6_init 19 = .ok (.aload_n 0, 1) := by decide +kernel
theorem dX6_init_20 : decode cX6_init 20 = .ok (.getfield 9, 3) := by decide +kernel
theorem dX6_init_23 : decode cX6_init 23 = .ok (.iconst (-1), 1) := by decide +kernel
theorem dX6_init_24 : decode cX6_init 24 = .ok (.invokestatic 18, 3) := by decide +kernel
theorem dX6_init_27 : decode cX6_init 27 = .ok (.aload_n 0, 1) := by decide +kernel
theorem dX6_init_28 : decode cX6_init 28 = .ok (.getfield 15, 3) := by decide +kernel
theorem dX6_init_31 : decode cX6_init 31 = .ok (.iconst (-1), 1) := by decide +kernel
theorem dX6_init_32 : decode cX6_init 32 = .ok (.invokestatic 18, 3) := by decide +kernel
theorem dX6_init_35 : decode cX6_init 35 = .ok (.return_, 1) := by decide +kernel
theorem dX6_homeOf_0 : decode cX6_homeOf 0 = .ok (.iload_n 1, 1) := by decide +kernel
theorem dX6_homeOf_1 : decode cX6_homeOf 1 = .ok (.ifCond .lt 18, 3) := by decide +kernel
theorem dX6_homeOf_4 : decode cX6_homeOf 4 = .ok (.iload_n 1, 1) := by decide +kernel
theorem dX6_homeOf_5 : decode cX6_homeOf 5 = .ok (.bipush 7, 2) := by decide +kernel
theorem dX6_homeOf_7 : decode cX6_homeOf 7 = .ok (.if_icmp .ge 12, 3) := by decide +kernel
theorem dX6_homeOf_10 : decode cX6_homeOf 10 = .ok (.aload_n 0, 1) := by decide +kernel
theorem dX6_homeOf_11 : decode cX6_homeOf 11 = .ok (.getfield 9, 3) := by decide +kernel
theorem dX6_homeOf_14 : decode cX6_homeOf 14 = .ok (.iload_n 1, 1) := by decide +kernel
theorem dX6_homeOf_15 : decode cX6_homeOf 15 = .ok (.iaload, 1) := by decide +kernel
theorem dX6_homeOf_16 : decode cX6_homeOf 16 = .ok (.goto 4, 3) := by decide +kernel
theorem dX6_homeOf_19 : decode cX6_homeOf 19 = .ok (.iconst (-1), 1) := by decide +kernel
theorem dX6_homeOf_20 : decode cX6_homeOf 20 = .ok (.ireturn, 1) := by decide +kernel
theorem dX6_figure_0 : decode cX6_figure 0 = .ok (.iload_n 1, 1) := by decide +kernel
theorem dX6_figure_1 : decode cX6_figure 1 = .ok (.ifCond .lt 17, 3) := by decide +kernel
theorem dX6_figure_4 : decode cX6_figure 4 = .ok (.iload_n 1, 1) := by decide +kernel
theorem dX6_figure_5 : decode cX6_figure 5 = .ok (.iconst 5, 1) := by decide +kernel
theorem dX6_figure_6 : decode cX6_figure 6 = .ok (.if_icmp .ge 12, 3) := by decide +kernel
theorem dX6_figure_9 : decode cX6_figure 9 = .ok (.aload_n 0, 1) := by decide +kernel
theorem dX6_figure_10 : decode cX6_figure 10 = .ok (.getfield 15, 3) := by decide +kernel
theorem dX6_figure_13 : decode cX6_figure 13 = .ok (.iload_n 1, 1) := by decide +kernel
theorem dX6_figure_14 : decode cX6_figure 14 = .ok (.iaload, 1) := by decide +kernel
theorem dX6_figure_15 : decode cX6_figure 15 = .ok (.goto 4, 3) := by decide +kernel
theorem dX6_figure_18 : decode cX6_figure 18 = .ok (.iconst (-1), 1) := by decide +kernel
theorem dX6_figure_19 : decode cX6_figure 19 = .ok (.ireturn, 1) := by decide +kernel
theorem dX6_setHome_0 : decode cX6_setHome 0 = .ok (.iload_n 1, 1) := by decide +kernel
theorem dX6_setHome_1 : decode cX6_setHome 1 = .ok (.ifCond .lt 16, 3) := by decide +kernel
theorem dX6_setHome_4 : decode cX6_setHome 4 = .ok (.iload_n 1, 1) := by decide +kernel
theorem dX6_setHome_5 : decode cX6_setHome 5 = .ok (.bipush 7, 2) := by decide +kernel
theorem dX6_setHome_7 : decode cX6_setHome 7 = .ok (.if_icmp .ge 10, 3) := by decide +kernel
theorem dX6_setHome_10 : decode cX6_setHome 10 = .ok (.aload_n 0, 1) := by decide +kernel
theorem dX6_setHome_11 : decode cX6_setHome 11 = .ok (.getfield 9, 3) := by decide +kernel
theorem dX6_setHome_14 : decode cX6_setHome 14 = .ok (.iload_n 1, 1) := by decide +kernel
theorem dX6_setHome_15 : decode cX6_setHome 15 = .ok (.iload_n 2, 1) := by decide +kernel
theorem dX6_setHome_16 : decode cX6_setHome 16 = .ok (.iastore, 1) := by decide +kernel
theorem dX6_setHome_17 : decode cX6_setHome 17 = .ok (.return_, 1) := by decide +kernel
theorem dX6_clearFigures_0 : decode cX6_clearFigures 0 = .ok (.aload_n 0, 1) := by decide +kernel
theorem dX6_clearFigures_1 : decode cX6_clearFigures 1 = .ok (.getfield 15, 3) := by decide +kernel
theorem dX6_clearFigures_4 : decode cX6_clearFigures 4 = .ok (.iconst 0, 1) := by decide +kernel
theorem dX6_clearFigures_5 : decode cX6_clearFigures 5 = .ok (.invokestatic 18, 3) := by decide +kernel
theorem dX6_clearFigures_8 : decode cX6_clearFigures 8 = .ok (.return_, 1) := by decide +kernel
theorem dX6_raise_0 : decode cX6_raise 0 = .ok (.iload_n 1, 1) := by decide +kernel
theorem dX6_raise_1 : decode cX6_raise 1 = .ok (.ifCond .lt 18, 3) := by decide +kernel
theorem dX6_raise_4 : decode cX6_raise 4 = .ok (.iload_n 1, 1) := by decide +kernel
theorem dX6_raise_5 : decode cX6_raise 5 = .ok (.iconst 5, 1) := by decide +kernel
theorem dX6_raise_6 : decode cX6_raise 6 = .ok (.if_icmp .ge 13, 3) := by decide +kernel
theorem dX6_raise_9 : decode cX6_raise 9 = .ok (.aload_n 0, 1) := by decide +kernel
theorem dX6_raise_10 : decode cX6_raise 10 = .ok (.getfield 15, 3) := by decide +kernel
theorem dX6_raise_13 : decode cX6_raise 13 = .ok (.iload_n 1, 1) := by decide +kernel
theorem dX6_raise_14 : decode cX6_raise 14 = .ok (.dup2, 1) := by decide +kernel
theorem dX6_raise_15 : decode cX6_raise 15 = .ok (.iaload, 1) := by decide +kernel
theorem dX6_raise_16 : decode cX6_raise 16 = .ok (.iload_n 2, 1) := by decide +kernel
theorem dX6_raise_17 : decode cX6_raise 17 = .ok (.iadd, 1) := by decide +kernel
theorem dX6_raise_18 : decode cX6_raise 18 = .ok (.iastore, 1) := by decide +kernel
theorem dX6_raise_19 : decode cX6_raise 19 = .ok (.return_, 1) := by decide +kernel
theorem dX7_init_0 : decode cX7_init 0 = .ok (.aload_n 0, 1) := by decide +kernel
theorem dX7_init_1 : decode cX7_init 1 = .ok (.invokespecial 3, 3) := by decide +kernel
theorem dX7_init_4 : decode cX7_init 4 = .ok (.aload_n 0, 1) := by decide +kernel
theorem dX7_init_5 : decode cX7_init 5 = .ok (.bipush 20, 2) := by decide +kernel
theorem dX7_init_7 : decode cX7_init 7 = .ok (.newarray .int, 2) := by decide +kernel
theorem dX7_init_9 : decode cX7_init 9 = .ok (.putfield 11, 3) := by decide +kernel
theorem dX7_init_12 : decode cX7_init 12 = .ok (.aload_n 0, 1) := by decide +kernel
theorem dX7_init_13 : decode cX7_init 13 = .ok (.bipush 20, 2) := by decide +kernel
theorem dX7_init_15 : decode cX7_init 15 = .ok (.newarray .int, 2) := by decide +kernel
theorem dX7_init_17 : decode cX7_init 17 = .ok (.putfield 15, 3) := by decide +kernel
theorem dX7_init_20 : decode cX7_init 20 = .ok (.aload_n 0, 1) := by decide +kernel
theorem dX7_init_21 : decode cX7_init 21 = .ok (.bipush 20, 2) := by decide +kernel
theorem dX7_init_23 : decode cX7_init 23 = .ok (.newarray .int, 2) := by decide +kernel
theorem dX7_init_25 : decode cX7_init 25 = .ok (.putfield 18, 3) := by decide +kernel
theorem dX7_init_28 : decode cX7_init 28 = .ok (.aload_n 0, 1) := by decide +kernel
theorem dX7_init_29 : decode cX7_init 29 = .ok (.bipush 120, 2) := by decide +kernel
theorem dX7_init_31 : decode cX7_init 31 = .ok (.newarray .int, 2) := by decide +kernel
theorem dX7_init_33 : decode cX7_init 33 = .ok (.putfield 21, 3) := by decide +kernel
theorem dX7_init_36 : decode cX7_init 36 = .ok (.aload_n 0, 1) := by decide +kernel
theorem dX7_init_37 : decode cX7_init 37 = .ok (.bipush 120, 2) := by decide +kernel
theorem dX7_init_39 : decode cX7_init 39 = .ok (.newarray .int, 2) := by decide +kernel
theorem dX7_init_41 : decode cX7_init 41 = .ok (.putfield 24, 3) := by decide +kernel
theorem dX7_init_44 : decode cX7_init 44 = .ok (.aload_n 0, 1) := by decide +kernel
theorem dX7_init_45 : decode cX7_init 45 = .ok (.bipush 120, 2) := by decide +kernel
theorem dX7_init_47 : decode cX7_init 47 = .ok (.newarray .int, 2) := by decide +kernel
theorem dX7_init_49 : decode cX7_init 49 = .ok (.putfield 27, 3) := by decide +kernel
theorem dX7_init_52 : decode cX7_init 52 = .ok (.return_, 1) := by decide +kernel
theorem dX7_size_0 : decode cX7_size 0 = .ok (.aload_n 0, 1) := by decide +kernel
theorem dX7_size_1 : decode cX7_size 1 = .ok (.getfield 30, 3) := by decide +kernel
theorem dX7_size_4 : decode cX7_size 4 = .ok (.ireturn, 1) := by decide +kernel
theorem dX7_clear_0 : decode cX7_clear 0 = .ok (.aload_n 0, 1) := by decide +kernel
theorem dX7_clear_1 : decode cX7_clear 1 = .ok (.iconst 0, 1) := by decide +kernel
theorem dX7_clear_2 : decode cX7_clear 2 = .ok (.putfield 30, 3) := by decide +kernel
theorem dX7_clear_5 : decode cX7_clear 5 = .ok (.return_, 1) := by decide +kernel
theorem dX7_addRule_0 : decode cX7_addRule 0 = .ok (.aload_n 0, 1) := by decide +kernel
theorem dX7_addRule_1 : decode cX7_addRule 1 = .ok (.getfield 30, 3) := by decide +kernel
theorem dX7_addRule_4 : decode cX7_addRule 4 = .ok (.bipush 20, 2) := by decide +kernel
theorem dX7_addRule_6 : decode cX7_addRule 6 = .ok (.if_icmp .ge 43, 3) := by decide +kernel
theorem dX7_addRule_9 : decode cX7_addRule 9 = .ok (.aload_n 0, 1) := by decide +kernel
theorem dX7_addRule_10 : decode cX7_addRule 10 = .ok (.getfield 11, 3) := by decide +kernel
theorem dX7_addRule_13 : decode cX7_addRule 13 = .ok (.aload_n 0, 1) := by decide +kernel
theorem dX7_addRule_14 : decode cX7_addRule 14 = .ok (.getfield 30, 3) := by decide +kernel
theorem dX7_addRule_17 : decode cX7_addRule 17 = .ok (.iload_n 1, 1) := by decide +kernel
theorem dX7_addRule_18 : decode cX7_addRule 18 = .ok (.iastore, 1) := by decide +kernel
theorem dX7_addRule_19 : decode cX7_addRule 19 = .ok (.aload_n 0, 1) := by decide +kernel
theorem dX7_addRule_20 : decode cX7_addRule 20 = .ok (.getfield 15, 3) := by decide +kernel
theorem dX7_addRule_23 : decode cX7_addRule 23 = .ok (.aload_n 0, 1) := by decide +kernel
theorem dX7_addRule_24 : decode cX7_addRule 24 = .ok (.getfield 30, 3) := by decide +kernel
theorem dX7_addRule_27 : decode cX7_addRule 27 = .ok (.iload_n 2, 1) := by decide +kernel
theorem dX7_addRule_28 : decode cX7_addRule 28 = .ok (.iastore, 1) := by decide +kernel
theorem dX7_addRule_29 : decode cX7_addRule 29 = .ok (.aload_n 0, 1) := by decide +kernel
theorem dX7_addRule_30 : decode cX7_addRule 30 = .ok (.getfield 18, 3) := by decide +kernel
theorem dX7_addRule_33 : decode cX7_addRule 33 = .ok (.aload_n 0, 1) := by decide +kernel
theorem dX7_addRule_34 : decode cX7_addRule 34 = .ok (.getfield 30, 3) := by decide +kernel
theorem dX7_addRule_37 : decode cX7_addRule 37 = .ok (.iconst 0, 1) := by decide +kernel
theorem dX7_addRule_38 : decode cX7_addRule 38 = .ok (.iastore, 1) := by decide +kernel
theorem dX7_addRule_39 : decode cX7_addRule 39 = .ok (.aload_n 0, 1) := by decide +kernel
theorem dX7_addRule_40 : decode cX7_addRule 40 = .ok (.dup, 1) := by decide +kernel
theorem dX7_addRule_41 : decode cX7_addRule 41 = .ok (.getfield 30, 3) := by decide +kernel
theorem dX7_addRule_44 : decode cX7_addRule 44 = .ok (.iconst 1, 1) := by decide +kernel
theorem dX7_addRule_45 : decode cX7_addRule 45 = .ok (.iadd, 1) := by decide +kernel
theorem dX7_addRule_46 : decode cX7_addRule 46 = .ok (.putfield 30, 3) := by decide +kernel
theorem dX7_addRule_49 : decode cX7_addRule 49 = .ok (.return_, 1) := by decide +kernel
theorem dX7_addTerm_0 : decode cX7_addTerm 0 = .ok (.aload_n 0, 1) := by decide +kernel
theorem dX7_addTerm_1 : decode cX7_addTerm 1 = .ok (.getfield 30, 3) := by decide +kernel
theorem dX7_addTerm_4 : decode cX7_addTerm 4 = .ok (.iconst 1, 1) := by decide +kernel
theorem dX7_addTerm_5 : decode cX7_addTerm 5 = .ok (.isub, 1) := by decide +kernel
theorem dX7_addTerm_6 : decode cX7_addTerm 6 = .ok (.istore 4, 2) := by decide +kernel
theorem dX7_addTerm_8 : decode cX7_addTerm 8 = .ok (.iload 4, 2) := by decide +kernel
theorem dX7_addTerm_10 : decode cX7_addTerm 10 = .ok (.ifCond .lt 15, 3) := by decide +kernel
theorem dX7_addTerm_13 : decode cX7_addTerm 13 = .ok (.aload_n 0, 1) := by decide +kernel
theorem dX7_addTerm_14 : decode cX7_addTerm 14 = .ok (.getfield 18, 3) := by decide +kernel
theorem dX7_addTerm_17 : decode cX7_addTerm 17 = .ok (.iload 4, 2) := by decide +kernel
theorem dX7_addTerm_19 : decode cX7_addTerm 19 = .ok (.iaload, 1) := by decide +kernel
theorem dX7_addTerm_20 : decode cX7_addTerm 20 = .ok (.bipush 6, 2) := by decide +kernel
theorem dX7_addTerm_22 : decode cX7_addTerm 22 = .ok (.if_icmp .lt 4, 3) := by decide +kernel
theorem dX7_addTerm_25 : decode cX7_addTerm 25 = .ok (.return_, 1) := by decide +kernel
theorem dX7_addTerm_26 : decode cX7_addTerm 26 = .ok (.iload 4, 2) := by decide +kernel
theorem dX7_addTerm_28 : decode cX7_addTerm 28 = .ok (.bipush 6, 2) := by decide +kernel
theorem dX7_addTerm_30 : decode cX7_addTerm 30 = .ok (.imul, 1) := by decide +kernel
theorem dX7_addTerm_31 : decode cX7_addTerm 31 = .ok (.aload_n 0, 1) := by decide +kernel
theorem dX7_addTerm_32 : decode cX7_addTerm 32 = .ok (.getfield 18, 3) := by decide +kernel
theorem dX7_addTerm_35 : decode cX7_addTerm 35 = .ok (.iload 4, 2) := by decide +kernel
theorem dX7_addTerm_37 : decode cX7_addTerm 37 = .ok (.iaload, 1) := by decide +kernel
theorem dX7_addTerm_38 : decode cX7_addTerm 38 = .ok (.iadd, 1) := by decide +kernel
theorem dX7_addTerm_39 : decode cX7_addTerm 39 = .ok (.istore 5, 2) := by decide +kernel
theorem dX7_addTerm_41 : decode cX7_addTerm 41 = .ok (.aload_n 0, 1) := by decide +kernel
theorem dX7_addTerm_42 : decode cX7_addTerm 42 = .ok (.getfield 21, 3) := by decide +kernel
theorem dX7_addTerm_45 : decode cX7_addTerm 45 = .ok (.iload 5, 2) := by decide +kernel
theorem dX7_addTerm_47 : decode cX7_addTerm 47 = .ok (.iload_n 1, 1) := by decide +kernel
theorem dX7_addTerm_48 : decode cX7_addTerm 48 = .ok (.iastore, 1) := by decide +kernel
theorem dX7_addTerm_49 : decode cX7_addTerm 49 = .ok (.aload_n 0, 1) := by decide +kernel
theorem dX7_addTerm_50 : decode cX7_addTerm 50 = .ok (.getfield 24, 3) := by decide +kernel
theorem dX7_addTerm_53 : decode cX7_addTerm 53 = .ok (.iload 5, 2) := by decide +kernel
theorem dX7_addTerm_55 : decode cX7_addTerm 55 = .ok (.iload_n 2, 1) := by decide +kernel
theorem dX7_addTerm_56 : decode cX7_addTerm 56 = .ok (.iastore, 1) := by decide +kernel
theorem dX7_addTerm_57 : decode cX7_addTerm 57 = .ok (.aload_n 0, 1) := by decide +kernel
theorem dX7_addTerm_58 : decode cX7_addTerm 58 = .ok (.getfield 27, 3) := by decide +kernel
theorem dX7_addTerm_61 : decode cX7_addTerm 61 = .ok (.iload 5, 2) := by decide +kernel
theorem dX7_addTerm_63 : decode cX7_addTerm 63 = .ok (.iload_n 3, 1) := by decide +kernel
theorem dX7_addTerm_64 : decode cX7_addTerm 64 = .ok (.iastore, 1) := by decide +kernel
theorem dX7_addTerm_65 : decode cX7_addTerm 65 = .ok (.aload_n 0, 1) := by decide +kernel
theorem dX7_addTerm_66 : decode cX7_addTerm 66 = .ok (.getfield 18, 3) := by decide +kernel
theorem dX7_addTerm_69 : decode cX7_addTerm 69 = .ok (.iload 4, 2) := by decide +kernel
theorem dX7_addTerm_71 : decode cX7_addTerm 71 = .ok (.dup2, 1) := by decide +kernel
theorem dX7_addTerm_72 : decode cX7_addTerm 72 = .ok (.iaload, 1) := by decide +kernel
theorem dX7_addTerm_73 : decode cX7_addTerm 73 = .ok (.iconst 1, 1) := by decide +kernel
theorem dX7_addTerm_74 : decode cX7_addTerm 74 = .ok (.iadd, 1) := by decide +kernel
theorem dX7_addTerm_75 : decode cX7_addTerm 75 = .ok (.iastore, 1) := by decide +kernel
theorem dX7_addTerm_76 : decode cX7_addTerm 76 = .ok (.return_, 1) := by decide +kernel
theorem dX7_takeFrom_0 : decode cX7_takeFrom 0 = .ok (.aload_n 1, 1) := by decide +kernel
theorem dX7_takeFrom_1 : decode cX7_takeFrom 1 = .ok (.getfield 11, 3) := by decide +kernel
theorem dX7_takeFrom_4 : decode cX7_takeFrom 4 = .ok (.iconst 0, 1) := by decide +kernel
theorem dX7_takeFrom_5 : decode cX7_takeFrom 5 = .ok (.aload_n 0, 1) := by decide +kernel
theorem dX7_takeFrom_6 : decode cX7_takeFrom 6 = .ok (.getfield 11, 3) := by decide +kernel
theorem dX7_takeFrom_9 : decode cX7_takeFrom 9 = .ok (.iconst 0, 1) := by decide +kernel
theorem dX7_takeFrom_10 : decode cX7_takeFrom 10 = .ok (.bipush 20, 2) := by decide +kernel
theorem dX7_takeFrom_12 : decode cX7_takeFrom 12 = .ok (.invokestatic 34, 3) := by decide +kernel
theorem dX7_takeFrom_15 : decode cX7_takeFrom 15 = .ok (.aload_n 1, 1) := by decide +kernel
theorem dX7_takeFrom_16 : decode cX7_takeFrom 16 = .ok (.getfield 15, 3) := by decide +kernel
theorem dX7_takeFrom_19 : decode cX7_takeFrom 19 = .ok (.iconst 0, 1) := by decide +kernel
theorem dX7_takeFrom_20 : decode cX7_takeFrom 20 = .ok (.aload_n 0, 1) := by decide +kernel
theorem dX7_takeFrom_21 : decode cX7_takeFrom 21 = .ok (.getfield 15, 3) := by decide +kernel
theorem dX7_takeFrom_24 : decode cX7_takeFrom 24 = .ok (.iconst 0, 1) := by decide +kernel
theorem dX7_takeFrom_25 : decode cX7_takeFrom 25 = .ok (.bipush 20, 2) := by decide +kernel
theorem dX7_takeFrom_27 : decode cX7_takeFrom 27 = .ok (.invokestatic 34, 3) := by decide +kernel
theorem dX7_takeFrom_30 : decode cX7_takeFrom 30 = .ok (.aload_n 1, 1) := by decide +kernel
theorem dX7_takeFrom_31 : decode cX7_takeFrom 31 = .ok (.getfield 18, 3) := by decide +kernel
theorem dX7_takeFrom_34 : decode cX7_takeFrom 34 = .ok (.iconst 0, 1) := by decide +kernel
theorem dX7_takeFrom_35 : decode cX7_takeFrom 35 = .ok (.aload_n 0, 1) := by decide +kernel
theorem dX7_takeFrom_36 : decode cX7_takeFrom 36 = .ok (.getfield 18, 3) := by decide +kernel
theorem dX7_takeFrom_39 : decode cX7_takeFrom 39 = .ok (.iconst 0, 1) := by decide +kernel
theorem dX7_takeFrom_40 : decode cX7_takeFrom 40 = .ok (.bipush 20, 2) := by decide +kernel
theorem dX7_takeFrom_42 : decode cX7_takeFrom 42 = .ok (.invokestatic 34, 3) := by decide +kernel
theorem dX7_takeFrom_45 : decode cX7_takeFrom 45 = .ok (.aload_n 1, 1) := by decide +kernel
theorem dX7_takeFrom_46 : decode cX7_takeFrom 46 = .ok (.getfield 21, 3) := by decide +kernel
theorem dX7_takeFrom_49 : decode cX7_takeFrom 49 = .ok (.iconst 0, 1) := by decide +kernel
theorem dX7_takeFrom_50 : decode cX7_takeFrom 50 = .ok (.aload_n 0, 1) := by decide +kernel
theorem dX7_takeFrom_51 : decode cX7_takeFrom 51 = .ok (.getfield 21, 3) := by decide +kernel
theorem dX7_takeFrom_54 : decode cX7_takeFrom 54 = .ok (.iconst 0, 1) := by decide +kernel
theorem dX7_takeFrom_55 : decode cX7_takeFrom 55 = .ok (.bipush 120, 2) := by decide +kernel
theorem dX7_takeFrom_57 : decode cX7_takeFrom 57 = .ok (.invokestatic 34, 3) := by decide +kernel
theorem dX7_takeFrom_60 : decode cX7_takeFrom 60 = .ok (.aload_n 1, 1) := by decide +kernel
theorem dX7_takeFrom_61 : decode cX7_takeFrom 61 = .ok (.getfield 24, 3) := by decide +kernel
theorem dX7_takeFrom_64 : decode cX7_takeFrom 64 = .ok (.iconst 0, 1) := by decide +kernel
theorem dX7_takeFrom_65 : decode cX7_takeFrom 65 = .ok (.aload_n 0, 1) := by decide +kernel
theorem dX7_takeFrom_66 : decode cX7_takeFrom 66 = .ok (.getfield 24, 3) := by decide +kernel
theorem dX7_takeFrom_69 : decode cX7_takeFrom 69 = .ok (.iconst 0, 1) := by decide +kernel
theorem dX7_takeFrom_70 : decode cX7_takeFrom 70 = .ok (.bipush 120, 2) := by decide +kernel
theorem dX7_takeFrom_72 : decode cX7_takeFrom 72 = .ok (.invokestatic 34, 3) := by decide +kernel
theorem dX7_takeFrom_75 : decode cX7_takeFrom 75 = .ok (.aload_n 1, 1) := by decide +kernel
theorem dX7_takeFrom_76 : decode cX7_takeFrom 76 = .ok (.getfield 27, 3) := by decide +kernel
theorem dX7_takeFrom_79 : decode cX7_takeFrom 79 = .ok (.iconst 0, 1) := by decide +kernel
theorem dX7_takeFrom_80 : decode cX7_takeFrom 80 = .ok (.aload_n 0, 1) := by decide +kernel
theorem dX7_takeFrom_81 : decode cX7_takeFrom 81 = .ok (.getfield 27, 3) := by decide +kernel
theorem dX7_takeFrom_84 : decode cX7_takeFrom 84 = .ok (.iconst 0, 1) := by decide +kernel
theorem dX7_takeFrom_85 : decode cX7_takeFrom 85 = .ok (.bipush 120, 2) := by decide +kernel
theorem dX7_takeFrom_87 : decode cX7_takeFrom 87 = .ok (.invokestatic 34, 3) := by decide +kernel
theorem dX7_takeFrom_90 : decode cX7_takeFrom 90 = .ok (.aload_n 0, 1) := by decide +kernel
theorem dX7_takeFrom_91 : decode cX7_takeFrom 91 = .ok (.aload_n 1, 1) := by decide +kernel
theorem dX7_takeFrom_92 : decode cX7_takeFrom 92 = .ok (.getfield 30, 3) := by decide +kernel
theorem dX7_takeFrom_95 : decode cX7_takeFrom 95 = .ok (.putfield 30, 3) := by decide +kernel
theorem dX7_takeFrom_98 : decode cX7_takeFrom 98 = .ok (.return_, 1) := by decide +kernel
theorem dX7_firstBroken_0 : decode cX7_firstBroken 0 = .ok (.iconst 0, 1) := by decide +kernel
theorem dX7_firstBroken_1 : decode cX7_firstBroken 1 = .ok (.istore_n 3, 1) := by decide +kernel
theorem dX7_firstBroken_2 : decode cX7_firstBroken 2 = .ok (.iload_n 3, 1) := by decide +kernel
theorem dX7_firstBroken_3 : decode cX7_firstBroken 3 = .ok (.aload_n 0, 1) := by decide +kernel
theorem dX7_firstBroken_4 : decode cX7_firstBroken 4 = .ok (.getfield 30, 3) := by decide +kernel
theorem dX7_firstBroken_7 : decode cX7_firstBroken 7 = .ok (.if_icmp .ge 30, 3) := by decide +kernel
theorem dX7_firstBroken_10 : decode cX7_firstBroken 10 = .ok (.aload_n 0, 1) := by decide +kernel
theorem dX7_firstBroken_11 : decode cX7_firstBroken 11 = .ok (.getfield 11, 3) := by decide +kernel
theorem dX7_firstBroken_14 : decode cX7_firstBroken 14 = .ok (.iload_n 3, 1) := by decide +kernel
theorem dX7_firstBroken_15 : decode cX7_firstBroken 15 = .ok (.iaload, 1) := by decide +kernel
theorem dX7_firstBroken_16 : decode cX7_firstBroken 16 = .ok (.iload_n 1, 1) := by decide +kernel
theorem dX7_firstBroken_17 : decode cX7_firstBroken 17 = .ok (.if_icmp .ne 14, 3) := by decide +kernel
theorem dX7_firstBroken_20 : decode cX7_firstBroken 20 = .ok (.aload_n 0, 1) := by decide +kernel
theorem dX7_firstBroken_21 : decode cX7_firstBroken 21 = .ok (.iload_n 3, 1) := by decide +kernel
theorem dX7_firstBroken_22 : decode cX7_firstBroken 22 = .ok (.aload_n 2, 1) := by decide +kernel
theorem dX7_firstBroken_23 : decode cX7_firstBroken 23 = .ok (.invokevirtual 40, 3) := by decide +kernel
theorem dX7_firstBroken_26 : decode cX7_firstBroken 26 = .ok (.ifCond .ne 5, 3) := by decide +kernel
theorem dX7_firstBroken_29 : decode cX7_firstBroken 29 = .ok (.iload_n 3, 1) := by decide +kernel
theorem dX7_firstBroken_30 : decode cX7_firstBroken 30 = .ok (.ireturn, 1) := by decide +kernel
theorem dX7_firstBroken_31 : decode cX7_firstBroken 31 = .ok (.iinc 3 1, 3) := by decide +kernel
theorem dX7_firstBroken_34 : decode cX7_firstBroken 34 = .ok (.goto (-32), 3) := by decide +kernel
theorem dX7_firstBroken_37 : decode cX7_firstBroken 37 = .ok (.iconst (-1), 1) := by decide +kernel
theorem dX7_firstBroken_38 : decode cX7_firstBroken 38 = .ok (.ireturn, 1) := by decide +kernel
theorem dX7_wishSum_0 : decode cX7_wishSum 0 = .ok (.iconst 0, 1) := by decide +kernel
theorem dX7_wishSum_1 : decode cX7_wishSum 1 = .ok (.istore_n 2, 1) := by decide +kernel
theorem dX7_wishSum_2 : decode cX7_wishSum 2 = .ok (.iconst 0, 1) := by decide +kernel
theorem dX7_wishSum_3 : decode cX7_wishSum 3 = .ok (.istore_n 3, 1) := by decide +kernel
theorem dX7_wishSum_4 : decode cX7_wishSum 4 = .ok (.iload_n 3, 1) := by decide +kernel
theorem dX7_wishSum_5 : decode cX7_wishSum 5 = .ok (.aload_n 0, 1) := by decide +kernel
theorem dX7_wishSum_6 : decode cX7_wishSum 6 = .ok (.getfield 30, 3) := by decide +kernel
theorem dX7_wishSum_9 : decode cX7_wishSum 9 = .ok (.if_icmp .ge 37, 3) := by decide +kernel
theorem dX7_wishSum_12 : decode cX7_wishSum 12 = .ok (.aload_n 0, 1) := by decide +kernel
theorem dX7_wishSum_13 : decode cX7_wishSum 13 = .ok (.getfield 11, 3) := by decide +kernel
theorem dX7_wishSum_16 : decode cX7_wishSum 16 = .ok (.iload_n 3, 1) := by decide +kernel
theorem dX7_wishSum_17 : decode cX7_wishSum 17 = .ok (.iaload, 1) := by decide +kernel
theorem dX7_wishSum_18 : decode cX7_wishSum 18 = .ok (.iconst 2, 1) := by decide +kernel
theorem dX7_wishSum_19 : decode cX7_wishSum 19 = .ok (.if_icmp .ne 21, 3) := by decide +kernel
theorem dX7_wishSum_22 : decode cX7_wishSum 22 = .ok (.aload_n 0, 1) := by decide +kernel
theorem dX7_wishSum_23 : decode cX7_wishSum 23 = .ok (.iload_n 3, 1) := by decide +kernel
theorem dX7_wishSum_24 : decode cX7_wishSum 24 = .ok (.aload_n 1, 1) := by decide +kernel
theorem dX7_wishSum_25 : decode cX7_wishSum 25 = .ok (.invokevirtual 40, 3) := by decide +kernel
theorem dX7_wishSum_28 : decode cX7_wishSum 28 = .ok (.ifCond .eq 12, 3) := by decide +kernel
theorem dX7_wishSum_31 : decode cX7_wishSum 31 = .ok (.iload_n 2, 1) := by decide +kernel
theorem dX7_wishSum_32 : decode cX7_wishSum 32 = .ok (.aload_n 0, 1) := by decide +kernel
theorem dX7_wishSum_33 : decode cX7_wishSum 33 = .ok (.getfield 15, 3) := by decide +kernel
theorem dX7_wishSum_36 : decode cX7_wishSum 36 = .ok (.iload_n 3, 1) := by decide +kernel
theorem dX7_wishSum_37 : decode cX7_wishSum 37 = .ok (.iaload, 1) := by decide +kernel
theorem dX7_wishSum_38 : decode cX7_wishSum 38 = .ok (.iadd, 1) := by decide +kernel
theorem dX7_wishSum_39 : decode cX7_wishSum 39 = .ok (.istore_n 2, 1) := by decide +kernel
theorem dX7_wishSum_40 : decode cX7_wishSum 40 = .ok (.iinc 3 1, 3) := by decide +kernel
theorem dX7_wishSum_43 : decode cX7_wishSum 43 = .ok (.goto (-39), 3) := by decide +kernel
theorem dX7_wishSum_46 : decode cX7_wishSum 46 = .ok (.iload_n 2, 1) := by decide +kernel
theorem dX7_wishSum_47 : decode cX7_wishSum 47 = .ok (.ireturn, 1) := by decide +kernel
theorem dX7_isSo_0 : decode cX7_isSo 0 = .ok (.iload_n 1, 1) := by decide +kernel
theorem dX7_isSo_1 : decode cX7_isSo 1 = .ok (.bipush 6, 2) := by decide +kernel
theorem dX7_isSo_3 : decode cX7_isSo 3 = .ok (.imul, 1) := by decide +kernel
theorem dX7_isSo_4 : decode cX7_isSo 4 = .ok (.istore_n 3, 1) := by decide +kernel
theorem dX7_isSo_5 : decode cX7_isSo 5 = .ok (.iload_n 3, 1) := by decide +kernel
theorem dX7_isSo_6 : decode cX7_isSo 6 = .ok (.istore 4, 2) := by decide +kernel
theorem dX7_isSo_8 : decode cX7_isSo 8 = .ok (.iload 4, 2) := by decide +kernel
theorem dX7_isSo_10 : decode cX7_isSo 10 = .ok (.iload_n 3, 1) := by decide +kernel
theorem dX7_isSo_11 : decode cX7_isSo 11 = .ok (.aload_n 0, 1) := by decide +kernel
theorem dX7_isSo_12 : decode cX7_isSo 12 = .ok (.getfield 18, 3) := by decide +kernel
theorem dX7_isSo_15 : decode cX7_isSo 15 = .ok (.iload_n 1, 1) := by decide +kernel
theorem dX7_isSo_16 : decode cX7_isSo 16 = .ok (.iaload, 1) := by decide +kernel
theorem dX7_isSo_17 : decode cX7_isSo 17 = .ok (.iadd, 1) := by decide +kernel
theorem dX7_isSo_18 : decode cX7_isSo 18 = .ok (.if_icmp .ge 54, 3) := by decide +kernel
theorem dX7_isSo_21 : decode cX7_isSo 21 = .ok (.aload_n 2, 1) := by decide +kernel
theorem dX7_isSo_22 : decode cX7_isSo 22 = .ok (.aload_n 0, 1) := by decide +kernel
theorem dX7_isSo_23 : decode cX7_isSo 23 = .ok (.getfield 21, 3) := by decide +kernel
theorem dX7_isSo_26 : decode cX7_isSo 26 = .ok (.iload 4, 2) := by decide +kernel
theorem dX7_isSo_28 : decode cX7_isSo 28 = .ok (.iaload, 1) := by decide +kernel
theorem dX7_isSo_29 : decode cX7_isSo 29 = .ok (.invokevirtual 44, 3) := by decide +kernel
theorem dX7_isSo_32 : decode cX7_isSo 32 = .ok (.istore 5, 2) := by decide +kernel
theorem dX7_isSo_34 : decode cX7_isSo 34 = .ok (.aload_n 2, 1) := by decide +kernel
theorem dX7_isSo_35 : decode cX7_isSo 35 = .ok (.aload_n 0, 1) := by decide +kernel
theorem dX7_isSo_36 : decode cX7_isSo 36 = .ok (.getfield 27, 3) := by decide +kernel
theorem dX7_isSo_39 : decode cX7_isSo 39 = .ok (.iload 4, 2) := by decide +kernel
theorem dX7_isSo_41 : decode cX7_isSo 41 = .ok (.iaload, 1) := by decide +kernel
theorem dX7_isSo_42 : decode cX7_isSo 42 = .ok (.invokevirtual 44, 3) := by decide +kernel
theorem dX7_isSo_45 : decode cX7_isSo 45 = .ok (.istore 6, 2) := by decide +kernel
theorem dX7_isSo_47 : decode cX7_isSo 47 = .ok (.iload 5, 2) := by decide +kernel
theorem dX7_isSo_49 : decode cX7_isSo 49 = .ok (.iload 6, 2) := by decide +kernel
theorem dX7_isSo_51 : decode cX7_isSo 51 = .ok (.invokestatic 50, 3) := by decide +kernel
theorem dX7_isSo_54 : decode cX7_isSo 54 = .ok (.aload_n 0, 1) := by decide +kernel
theorem dX7_isSo_55 : decode cX7_isSo 55 = .ok (.getfield 24, 3) := by decide +kernel
theorem dX7_isSo_58 : decode cX7_isSo 58 = .ok (.iload 4, 2) := by decide +kernel
theorem dX7_isSo_60 : decode cX7_isSo 60 = .ok (.iaload, 1) := by decide +kernel
theorem dX7_isSo_61 : decode cX7_isSo 61 = .ok (.if_icmp .eq 5, 3) := by decide +kernel
theorem dX7_isSo_64 : decode cX7_isSo 64 = .ok (.iconst 0, 1) := by decide +kernel
theorem dX7_isSo_65 : decode cX7_isSo 65 = .ok (.ireturn, 1) := by decide +kernel
theorem dX7_isSo_66 : decode cX7_isSo 66 = .ok (.iinc 4 1, 3) := by decide +kernel
theorem dX7_isSo_69 : decode cX7_isSo 69 = .ok (.goto (-61), 3) := by decide +kernel
theorem dX7_isSo_72 : decode cX7_isSo 72 = .ok (.iconst 1, 1) := by decide +kernel
theorem dX7_isSo_73 : decode cX7_isSo 73 = .ok (.ireturn, 1) := by decide +kernel
theorem dX7_signOf_0 : decode cX7_signOf 0 = .ok (.iload_n 0, 1) := by decide +kernel
theorem dX7_signOf_1 : decode cX7_signOf 1 = .ok (.iload_n 1, 1) := by decide +kernel
theorem dX7_signOf_2 : decode cX7_signOf 2 = .ok (.if_icmp .ne 6, 3) := by decide +kernel
theorem dX7_signOf_5 : decode cX7_signOf 5 = .ok (.bipush 61, 2) := by decide +kernel
theorem dX7_signOf_7 : decode cX7_signOf 7 = .ok (.ireturn, 1) := by decide +kernel
theorem dX7_signOf_8 : decode cX7_signOf 8 = .ok (.iload_n 0, 1) := by decide +kernel
theorem dX7_signOf_9 : decode cX7_signOf 9 = .ok (.iload_n 1, 1) := by decide +kernel
theorem dX7_signOf_10 : decode cX7_signOf 10 = .ok (.if_icmp .ge 8, 3) := by decide +kernel
theorem dX7_signOf_13 : decode cX7_signOf 13 = .ok (.bipush 60, 2) := by decide +kernel
theorem dX7_signOf_15 : decode cX7_signOf 15 = .ok (.goto 5, 3) := by decide +kernel
theorem dX7_signOf_18 : decode cX7_signOf 18 = .ok (.bipush 62, 2) := by decide +kernel
theorem dX7_signOf_20 : decode cX7_signOf 20 = .ok (.ireturn, 1) := by decide +kernel
theorem dX8_init_0 : decode cX8_init 0 = .ok (.aload_n 0, 1) := by decide +kernel
theorem dX8_init_1 : decode cX8_init 1 = .ok (.invokespecial 3, 3) := by decide +kernel
theorem dX8_init_4 : decode cX8_init 4 = .ok (.aload_n 0, 1) := by decide +kernel
theorem dX8_init_5 : decode cX8_init 5 = .ok (.new 9, 3) := by decide +kernel
theorem dX8_init_8 : decode cX8_init 8 = .ok (.dup, 1) := by decide +kernel
theorem dX8_init_9 : decode cX8_init 9 = .ok (.invokespecial 11, 3) := by decide +kernel
theorem dX8_init_12 : decode cX8_init 12 = .ok (.putfield 12, 3) := by decide +kernel
theorem dX8_init_15 : decode cX8_init 15 = .ok (.aload_n 0, 1) := by decide +kernel
theorem dX8_init_16 : decode cX8_init 16 = .ok (.aload_n 1, 1) := by decide +kernel
theorem dX8_init_17 : decode cX8_init 17 = .ok (.putfield 18, 3) := by decide +kernel
theorem dX8_init_20 : decode cX8_init 20 = .ok (.return_, 1) := by decide +kernel
theorem dX8_draft_0 : decode cX8_draft 0 = .ok (.aload_n 0, 1) := by decide +kernel
theorem dX8_draft_1 : decode cX8_draft 1 = .ok (.getfield 12, 3) := by decide +kernel
theorem dX8_draft_4 : decode cX8_draft 4 = .ok (.areturn, 1) := by decide +kernel
theorem dX8_read_0 : decode cX8_read 0 = .ok (.aload_n 0, 1) := by decide +kernel
theorem dX8_read_1 : decode cX8_read 1 = .ok (.getfield 12, 3) := by decide +kernel
theorem dX8_read_4 : decode cX8_read 4 = .ok (.invokevirtual 22, 3) := by decide +kernel
theorem dX8_read_7 : decode cX8_read 7 = .ok (.aload_n 0, 1) := by decide +kernel
theorem dX8_read_8 : decode cX8_read 8 = .ok (.iconst (-1), 1) := by decide +kernel
theorem dX8_read_9 : decode cX8_read 9 = .ok (.putfield 25, 3) := by decide +kernel
theorem dX8_read_12 : decode cX8_read 12 = .ok (.aload_n 0, 1) := by decide +kernel
theorem dX8_read_13 : decode cX8_read 13 = .ok (.iconst 0, 1) := by decide +kernel
theorem dX8_read_14 : decode cX8_read 14 = .ok (.putfield 29, 3) := by decide +kernel
theorem dX8_read_17 : decode cX8_read 17 = .ok (.aload_n 0, 1) := by decide +kernel
theorem dX8_read_18 : decode cX8_read 18 = .ok (.invokevirtual 32, 3) := by decide +kernel
theorem dX8_read_21 : decode cX8_read 21 = .ok (.aload_n 0, 1) := by decide +kernel
theorem dX8_read_22 : decode cX8_read 22 = .ok (.invokevirtual 35, 3) := by decide +kernel
theorem dX8_read_25 : decode cX8_read 25 = .ok (.ifCond .ne 7, 3) := by decide +kernel
theorem dX8_read_28 : decode cX8_read 28 = .ok (.iconst 1, 1) := by decide +kernel
theorem dX8_read_29 : decode cX8_read 29 = .ok (.goto 4, 3) := by decide +kernel
theorem dX8_read_32 : decode cX8_read 32 = .ok (.iconst 0, 1) := by decide +kernel
theorem dX8_read_33 : decode cX8_read 33 = .ok (.istore_n 1, 1) := by decide +kernel
theorem dX8_read_34 : decode cX8_read 34 = .ok (.iconst 0, 1) := by decide +kernel
theorem dX8_read_35 : decode cX8_read 35 = .ok (.istore_n 2, 1) := by decide +kernel
theorem dX8_read_36 : decode cX8_read 36 = .ok (.iload_n 1, 1) := by decide +kernel
theorem dX8_read_37 : decode cX8_read 37 = .ok (.ifCond .eq 43, 3) := by decide +kernel
theorem dX8_read_40 : decode cX8_read 40 = .ok (.iload_n 2, 1) := by decide +kernel
theorem dX8_read_41 : decode cX8_read 41 = .ok (.bipush 20, 2) := by decide +kernel
theorem dX8_read_43 : decode cX8_read 43 = .ok (.if_icmp .gt 37, 3) := by decide +kernel
theorem dX8_read_46 : decode cX8_read 46 = .ok (.aload_n 0, 1) := by decide +kernel
theorem dX8_read_47 : decode cX8_read 47 = .ok (.iload_n 2, 1) := by decide +kernel
theorem dX8_read_48 : decode cX8_read 48 = .ok (.invokevirtual 39, 3) := by decide +kernel
theorem dX8_read_51 : decode cX8_read 51 = .ok (.ifCond .eq 21, 3) := by decide +kernel
theorem dX8_read_54 : decode cX8_read 54 = .ok (.aload_n 0, 1) := by decide +kernel
theorem dX8_read_55 : decode cX8_read 55 = .ok (.invokevirtual 43, 3) := by decide +kernel
theorem dX8_read_58 : decode cX8_read 58 = .ok (.ifCond .eq 14, 3) := by decide +kernel
theorem dX8_read_61 : decode cX8_read 61 = .ok (.aload_n 0, 1) := by decide +kernel
theorem dX8_read_62 : decode cX8_read 62 = .ok (.invokevirtual 46, 3) := by decide +kernel
theorem dX8_read_65 : decode cX8_read 65 = .ok (.ifCond .eq 7, 3) := by decide +kernel
theorem dX8_read_68 : decode cX8_read 68 = .ok (.iconst 1, 1) := by decide +kernel
theorem dX8_read_69 : decode cX8_read 69 = .ok (.goto 4, 3) := by decide +kernel
theorem dX8_read_72 : decode cX8_read 72 = .ok (.iconst 0, 1) := by decide +kernel
theorem dX8_read_73 : decode cX8_read 73 = .ok (.istore_n 1, 1) := by decide +kernel
theorem dX8_read_74 : decode cX8_read 74 = .ok (.iinc 2 1, 3) := by decide +kernel
theorem dX8_read_77 : decode cX8_read 77 = .ok (.goto (-41), 3) := by decide +kernel
theorem dX8_read_80 : decode cX8_read 80 = .ok (.aload_n 0, 1) := by decide +kernel
theorem dX8_read_81 : decode cX8_read 81 = .ok (.getfield 25, 3) := by decide +kernel
theorem dX8_read_84 : decode cX8_read 84 = .ok (.ireturn, 1) := by decide +kernel
theorem dX8_readHead_0 : decode cX8_readHead 0 = .ok (.aload_n 0, 1) := by decide +kernel
theorem dX8_readHead_1 : decode cX8_readHead 1 = .ok (.invokevirtual 49, 3) := by decide +kernel
theorem dX8_readHead_4 : decode cX8_readHead 4 = .ok (.istore_n 2, 1) := by decide +kernel
theorem dX8_readHead_5 : decode cX8_readHead 5 = .ok (.iload_n 2, 1) := by decide +kernel
theorem dX8_readHead_6 : decode cX8_readHead 6 = .ok (.iconst (-1), 1) := by decide +kernel
theorem dX8_readHead_7 : decode cX8_readHead 7 = .ok (.if_icmp .ne 9, 3) := by decide +kernel
theorem dX8_readHead_10 : decode cX8_readHead 10 = .ok (.aload_n 0, 1) := by decide +kernel
theorem dX8_readHead_11 : decode cX8_readHead 11 = .ok (.iconst 0, 1) := by decide +kernel
theorem dX8_readHead_12 : decode cX8_readHead 12 = .ok (.invokevirtual 53, 3) := by decide +kernel
theorem dX8_readHead_15 : decode cX8_readHead 15 = .ok (.ireturn, 1) := by decide +kernel
theorem dX8_readHead_16 : decode cX8_readHead 16 = .ok (.iload_n 1, 1) := by decide +kernel
theorem dX8_readHead_17 : decode cX8_readHead 17 = .ok (.bipush 20, 2) := by decide +kernel
theorem dX8_readHead_19 : decode cX8_readHead 19 = .ok (.if_icmp .lt 9, 3) := by decide +kernel
theorem dX8_readHead_22 : decode cX8_readHead 22 = .ok (.aload_n 0, 1) := by decide +kernel
theorem dX8_readHead_23 : decode cX8_readHead 23 = .ok (.iconst 2, 1) := by decide +kernel
theorem dX8_readHead_24 : decode cX8_readHead 24 = .ok (.invokevirtual 53, 3) := by decide +kernel
theorem dX8_readHead_27 : decode cX8_readHead 27 = .ok (.ireturn, 1) := by decide +kernel
theorem dX8_readHead_28 : decode cX8_readHead 28 = .ok (.aload_n 0, 1) := by decide +kernel
theorem dX8_readHead_29 : decode cX8_readHead 29 = .ok (.invokevirtual 32, 3) := by decide +kernel
theorem dX8_readHead_32 : decode cX8_readHead 32 = .ok (.iload_n 2, 1) := by decide +kernel
theorem dX8_readHead_33 : decode cX8_readHead 33 = .ok (.iconst 2, 1) := by decide +kernel
theorem dX8_readHead_34 : decode cX8_readHead 34 = .ok (.if_icmp .ne 10, 3) := by decide +kernel
theorem dX8_readHead_37 : decode cX8_readHead 37 = .ok (.aload_n 0, 1) := by decide +kernel
theorem dX8_readHead_38 : decode cX8_readHead 38 = .ok (.invokevirtual 56, 3) := by decide +kernel
theorem dX8_readHead_41 : decode cX8_readHead 41 = .ok (.goto 4, 3) := by decide +kernel
theorem dX8_readHead_44 : decode cX8_readHead 44 = .ok (.iconst 0, 1) := by decide +kernel
theorem dX8_readHead_45 : decode cX8_readHead 45 = .ok (.istore_n 3, 1) := by decide +kernel
theorem dX8_readHead_46 : decode cX8_readHead 46 = .ok (.iload_n 3, 1) := by decide +kernel
theorem dX8_readHead_47 : decode cX8_readHead 47 = .ok (.iconst (-1), 1) := by decide +kernel
theorem dX8_readHead_48 : decode cX8_readHead 48 = .ok (.if_icmp .ne 5, 3) := by decide +kernel
theorem dX8_readHead_51 : decode cX8_readHead 51 = .ok (.iconst 0, 1) := by decide +kernel
theorem dX8_readHead_52 : decode cX8_readHead 52 = .ok (.ireturn, 1) := by decide +kernel
theorem dX8_readHead_53 : decode cX8_readHead 53 = .ok (.aload_n 0, 1) := by decide +kernel
theorem dX8_readHead_54 : decode cX8_readHead 54 = .ok (.getfield 12, 3) := by decide +kernel
theorem dX8_readHead_57 : decode cX8_readHead 57 = .ok (.iload_n 2, 1) := by decide +kernel
theorem dX8_readHead_58 : decode cX8_readHead 58 = .ok (.iload_n 3, 1) := by decide +kernel
theorem dX8_readHead_59 : decode cX8_readHead 59 = .ok (.invokevirtual 59, 3) := by decide +kernel
theorem dX8_readHead_62 : decode cX8_readHead 62 = .ok (.iconst 1, 1) := by decide +kernel
theorem dX8_readHead_63 : decode cX8_readHead 63 = .ok (.ireturn, 1) := by decide +kernel
theorem dX8_readBetweenRules_0 : decode cX8_readBetweenRules 0 = .ok (.aload_n 0, 1) := by decide +kernel
theorem dX8_readBetweenRules_1 : decode cX8_readBetweenRules 1 = .ok (.invokevirtual 35, 3) := by decide +kernel
theorem dX8_readBetweenRules_4 : decode cX8_readBetweenRules 4 = .ok (.ifCond .eq 5, 3) := by decide +kernel
theorem dX8_readBetweenRules_7 : decode cX8_readBetweenRules 7 = .ok (.iconst 0, 1) := by decide +kernel
theorem dX8_readBetweenRules_8 : decode cX8_readBetweenRules 8 = .ok (.ireturn, 1) := by decide +kernel
theorem dX8_readBetweenRules_9 : decode cX8_readBetweenRules 9 = .ok (.aload_n 0, 1) := by decide +kernel
theorem dX8_readBetweenRules_10 : decode cX8_readBetweenRules 10 = .ok (.getfield 18, 3) := by decide +kernel
theorem dX8_readBetweenRules_13 : decode cX8_readBetweenRules 13 = .ok (.aload_n 0, 1) := by decide +kernel
theorem dX8_readBetweenRules_14 : decode cX8_readBetweenRules 14 = .ok (.getfield 63, 3) := by decide +kernel
theorem dX8_readBetweenRules_17 : decode cX8_readBetweenRules 17 = .ok (.invokevirtual 66, 3) := by decide +kernel
theorem dX8_readBetweenRules_20 : decode cX8_readBetweenRules 20 = .ok (.bipush 59, 2) := by decide +kernel
theorem dX8_readBetweenRules_22 : decode cX8_readBetweenRules 22 = .ok (.if_icmp .eq 9, 3) := by decide +kernel
theorem dX8_readBetweenRules_25 : decode cX8_readBetweenRules 25 = .ok (.aload_n 0, 1) := by decide +kernel
theorem dX8_readBetweenRules_26 : decode cX8_readBetweenRules 26 = .ok (.iconst 0, 1) := by decide +kernel
theorem dX8_readBetweenRules_27 : decode cX8_readBetweenRules 27 = .ok (.invokevirtual 53, 3) := by decide +kernel
theorem dX8_readBetweenRules_30 : decode cX8_readBetweenRules 30 = .ok (.ireturn, 1) := by decide +kernel
theorem dX8_readBetweenRules_31 : decode cX8_readBetweenRules 31 = .ok (.aload_n 0, 1) := by decide +kernel
theorem dX8_readBetweenRules_32 : decode cX8_readBetweenRules 32 = .ok (.invokevirtual 32, 3) := by decide +kernel
theorem dX8_readBetweenRules_35 : decode cX8_readBetweenRules 35 = .ok (.iconst 1, 1) := by decide +kernel
theorem dX8_readBetweenRules_36 : decode cX8_readBetweenRules 36 = .ok (.ireturn, 1) := by decide +kernel
theorem dX8_kindOfWord_0 : decode cX8_kindOfWord 0 = .ok (.aload_n 0, 1) := by decide +kernel
theorem dX8_kindOfWord_1 : decode cX8_kindOfWord 1 = .ok (.ldc 72, 2) := by decide +kernel
theorem dX8_kindOfWord_3 : decode cX8_kindOfWord 3 = .ok (.invokevirtual 74, 3) := by decide +kernel
theorem dX8_kindOfWord_6 : decode cX8_kindOfWord 6 = .ok (.ifCond .eq 5, 3) := by decide +kernel
theorem dX8_kindOfWord_9 : decode cX8_kindOfWord 9 = .ok (.iconst 0, 1) := by decide +kernel
theorem dX8_kindOfWord_10 : decode cX8_kindOfWord 10 = .ok (.ireturn, 1) := by decide +kernel
theorem dX8_kindOfWord_11 : decode cX8_kindOfWord 11 = .ok (.aload_n 0, 1) := by decide +kernel
theorem dX8_kindOfWord_12 : decode cX8_kindOfWord 12 = .ok (.ldc 78, 2) := by decide +kernel
theorem dX8_kindOfWord_14 : decode cX8_kindOfWord 14 = .ok (.invokevirtual 74, 3) := by decide +kernel
theorem dX8_kindOfWord_17 : decode cX8_kindOfWord 17 = .ok (.ifCond .eq 5, 3) := by decide +kernel
theorem dX8_kindOfWord_20 : decode cX8_kindOfWord 20 = .ok (.iconst 1, 1) := by decide +kernel
theorem dX8_kindOfWord_21 : decode cX8_kindOfWord 21 = .ok (.ireturn, 1) := by decide +kernel
theorem dX8_kindOfWord_22 : decode cX8_kindOfWord 22 = .ok (.aload_n 0, 1) := by decide +kernel
theorem dX8_kindOfWord_23 : decode cX8_kindOfWord 23 = .ok (.ldc 80, 2) := by decide +kernel
theorem dX8_kindOfWord_25 : decode cX8_kindOfWord 25 = .ok (.invokevirtual 74, 3) := by decide +kernel
theorem dX8_kindOfWord_28 : decode cX8_kindOfWord 28 = .ok (.ifCond .eq 7, 3) := by decide +kernel
theorem dX8_kindOfWord_31 : decode cX8_kindOfWord 31 = .ok (.iconst 2, 1) := by decide +kernel
theorem dX8_kindOfWord_32 : decode cX8_kindOfWord 32 = .ok (.goto 4, 3) := by decide +kernel
theorem dX8_kindOfWord_35 : decode cX8_kindOfWord 35 = .ok (.iconst (-1), 1) := by decide +kernel
theorem dX8_kindOfWord_36 : decode cX8_kindOfWord 36 = .ok (.ireturn, 1) := by decide +kernel
theorem dX8_readWeight_0 : decode cX8_readWeight 0 = .ok (.aload_n 0, 1) := by decide +kernel
theorem dX8_readWeight_1 : decode cX8_readWeight 1 = .ok (.invokevirtual 82, 3) := by decide +kernel
theorem dX8_readWeight_4 : decode cX8_readWeight 4 = .ok (.ifCond .eq 10, 3) := by decide +kernel
theorem dX8_readWeight_7 : decode cX8_readWeight 7 = .ok (.aload_n 0, 1) := by decide +kernel
theorem dX8_readWeight_8 : decode cX8_readWeight 8 = .ok (.invokevirtual 85, 3) := by decide +kernel
theorem dX8_readWeight_11 : decode cX8_readWeight 11 = .ok (.goto 4, 3) := by decide +kernel
theorem dX8_readWeight_14 : decode cX8_readWeight 14 = .ok (.iconst (-1), 1) := by decide +kernel
theorem dX8_readWeight_15 : decode cX8_readWeight 15 = .ok (.istore_n 1, 1) := by decide +kernel
theorem dX8_readWeight_16 : decode cX8_readWeight 16 = .ok (.aload_n 0, 1) := by decide +kernel
theorem dX8_readWeight_17 : decode cX8_readWeight 17 = .ok (.invokevirtual 82, 3) := by decide +kernel
theorem dX8_readWeight_20 : decode cX8_readWeight 20 = .ok (.ifCond .ne 12, 3) := by decide +kernel
theorem dX8_readWeight_23 : decode cX8_readWeight 23 = .ok (.aload_n 0, 1) := by decide +kernel
theorem dX8_readWeight_24 : decode cX8_readWeight 24 = .ok (.iconst 0, 1) := by decide +kernel
theorem dX8_readWeight_25 : decode cX8_readWeight 25 = .ok (.invokevirtual 53, 3) := by decide +kernel
theorem dX8_readWeight_28 : decode cX8_readWeight 28 = .ok (.pop, 1) := by decide +kernel
theorem dX8_readWeight_29 : decode cX8_readWeight 29 = .ok (.goto 29, 3) := by decide +kernel
theorem dX8_readWeight_32 : decode cX8_readWeight 32 = .ok (.iload_n 1, 1) := by decide +kernel
theorem dX8_readWeight_33 : decode cX8_readWeight 33 = .ok (.iconst 1, 1) := by decide +kernel
theorem dX8_readWeight_34 : decode cX8_readWeight 34 = .ok (.if_icmp .lt 9, 3) := by decide +kernel
theorem dX8_readWeight_37 : decode cX8_readWeight 37 = .ok (.iload_n 1, 1) := by decide +kernel
theorem dX8_readWeight_38 : decode cX8_readWeight 38 = .ok (.bipush 100, 2) := by decide +kernel
theorem dX8_readWeight_40 : decode cX8_readWeight 40 = .ok (.if_icmp .le 14, 3) := by decide +kernel
theorem dX8_readWeight_43 : decode cX8_readWeight 43 = .ok (.aload_n 0, 1) := by decide +kernel
theorem dX8_readWeight_44 : decode cX8_readWeight 44 = .ok (.iconst 1, 1) := by decide +kernel
theorem dX8_readWeight_45 : decode cX8_readWeight 45 = .ok (.invokevirtual 53, 3) := by decide +kernel
theorem dX8_readWeight_48 : decode cX8_readWeight 48 = .ok (.pop, 1) := by decide +kernel
theorem dX8_readWeight_49 : decode cX8_readWeight 49 = .ok (.iconst (-1), 1) := by decide +kernel
theorem dX8_readWeight_50 : decode cX8_readWeight 50 = .ok (.istore_n 1, 1) := by decide +kernel
theorem dX8_readWeight_51 : decode cX8_readWeight 51 = .ok (.goto 7, 3) := by decide +kernel
theorem dX8_readWeight_54 : decode cX8_readWeight 54 = .ok (.aload_n 0, 1) := by decide +kernel
theorem dX8_readWeight_55 : decode cX8_readWeight 55 = .ok (.invokevirtual 32, 3) := by decide +kernel
theorem dX8_readWeight_58 : decode cX8_readWeight 58 = .ok (.iload_n 1, 1) := by decide +kernel
theorem dX8_readWeight_59 : decode cX8_readWeight 59 = .ok (.ireturn, 1) := by decide +kernel
theorem dX8_readTerms_0 : decode cX8_readTerms 0 = .ok (.iconst 0, 1) := by decide +kernel
theorem dX8_readTerms_1 : decode cX8_readTerms 1 = .ok (.istore_n 1, 1) := by decide +kernel
theorem dX8_readTerms_2 : decode cX8_readTerms 2 = .ok (.iload_n 1, 1) := by decide +kernel
theorem dX8_readTerms_3 : decode cX8_readTerms 3 = .ok (.bipush 6, 2) := by decide +kernel
theorem dX8_readTerms_5 : decode cX8_readTerms 5 = .ok (.if_icmp .gt 34, 3) := by decide +kernel
theorem dX8_readTerms_8 : decode cX8_readTerms 8 = .ok (.aload_n 0, 1) := by decide +kernel
theorem dX8_readTerms_9 : decode cX8_readTerms 9 = .ok (.iload_n 1, 1) := by decide +kernel
theorem dX8_readTerms_10 : decode cX8_readTerms 10 = .ok (.invokevirtual 88, 3) := by decide +kernel
theorem dX8_readTerms_13 : decode cX8_readTerms 13 = .ok (.ifCond .ne 5, 3) := by decide +kernel
theorem dX8_readTerms_16 : decode cX8_readTerms 16 = .ok (.iconst 0, 1) := by decide +kernel
theorem dX8_readTerms_17 : decode cX8_readTerms 17 = .ok (.ireturn, 1) := by decide +kernel
theorem dX8_readTerms_18 : decode cX8_readTerms 18 = .ok (.aload_n 0, 1) := by decide +kernel
theorem dX8_readTerms_19 : decode cX8_readTerms 19 = .ok (.ldc 91, 2) := by decide +kernel
theorem dX8_readTerms_21 : decode cX8_readTerms 21 = .ok (.invokevirtual 74, 3) := by decide +kernel
theorem dX8_readTerms_24 : decode cX8_readTerms 24 = .ok (.ifCond .ne 5, 3) := by decide +kernel
theorem dX8_readTerms_27 : decode cX8_readTerms 27 = .ok (.iconst 1, 1) := by decide +kernel
theorem dX8_readTerms_28 : decode cX8_readTerms 28 = .ok (.ireturn, 1) := by decide +kernel
theorem dX8_readTerms_29 : decode cX8_readTerms 29 = .ok (.aload_n 0, 1) := by decide +kernel
theorem dX8_readTerms_30 : decode cX8_readTerms 30 = .ok (.invokevirtual 32, 3) := by decide +kernel
theorem dX8_readTerms_33 : decode cX8_readTerms 33 = .ok (.iinc 1 1, 3) := by decide +kernel
theorem dX8_readTerms_36 : decode cX8_readTerms 36 = .ok (.goto (-34), 3) := by decide +kernel
theorem dX8_readTerms_39 : decode cX8_readTerms 39 = .ok (.iconst 0, 1) := by decide +kernel
theorem dX8_readTerms_40 : decode cX8_readTerms 40 = .ok (.ireturn, 1) := by decide +kernel
theorem dX8_readTerm_0 : decode cX8_readTerm 0 = .ok (.aload_n 0, 1) := by decide +kernel
theorem dX8_readTerm_1 : decode cX8_readTerm 1 = .ok (.iload_n 1, 1) := by decide +kernel
theorem dX8_readTerm_2 : decode cX8_readTerm 2 = .ok (.bipush 6, 2) := by decide +kernel
theorem dX8_readTerm_4 : decode cX8_readTerm 4 = .ok (.if_icmp .lt 7, 3) := by decide +kernel
theorem dX8_readTerm_7 : decode cX8_readTerm 7 = .ok (.iconst 1, 1) := by decide +kernel
theorem dX8_readTerm_8 : decode cX8_readTerm 8 = .ok (.goto 4, 3) := by decide +kernel
theorem dX8_readTerm_11 : decode cX8_readTerm 11 = .ok (.iconst 0, 1) := by decide +kernel
theorem dX8_readTerm_12 : decode cX8_readTerm 12 = .ok (.invokevirtual 93, 3) := by decide +kernel
theorem dX8_readTerm_15 : decode cX8_readTerm 15 = .ok (.istore_n 2, 1) := by decide +kernel
theorem dX8_readTerm_16 : decode cX8_readTerm 16 = .ok (.iload_n 2, 1) := by decide +kernel
theorem dX8_readTerm_17 : decode cX8_readTerm 17 = .ok (.iconst (-1), 1) := by decide +kernel
theorem dX8_readTerm_18 : decode cX8_readTerm 18 = .ok (.if_icmp .ne 5, 3) := by decide +kernel
theorem dX8_readTerm_21 : decode cX8_readTerm 21 = .ok (.iconst 0, 1) := by decide +kernel
theorem dX8_readTerm_22 : decode cX8_readTerm 22 = .ok (.ireturn, 1) := by decide +kernel
theorem dX8_readTerm_23 : decode cX8_readTerm 23 = .ok (.aload_n 0, 1) := by decide +kernel
theorem dX8_readTerm_24 : decode cX8_readTerm 24 = .ok (.getfield 18, 3) := by decide +kernel
theorem dX8_readTerm_27 : decode cX8_readTerm 27 = .ok (.aload_n 0, 1) := by decide +kernel
theorem dX8_readTerm_28 : decode cX8_readTerm 28 = .ok (.getfield 63, 3) := by decide +kernel
theorem dX8_readTerm_31 : decode cX8_readTerm 31 = .ok (.invokevirtual 66, 3) := by decide +kernel
theorem dX8_readTerm_34 : decode cX8_readTerm 34 = .ok (.istore_n 3, 1) := by decide +kernel
theorem dX8_readTerm_35 : decode cX8_readTerm 35 = .ok (.iload_n 3, 1) := by decide +kernel
theorem dX8_readTerm_36 : decode cX8_readTerm 36 = .ok (.bipush 60, 2) := by decide +kernel
theorem dX8_readTerm_38 : decode cX8_readTerm 38 = .ok (.if_icmp .eq 21, 3) := by decide +kernel
theorem dX8_readTerm_41 : decode cX8_readTerm 41 = .ok (.iload_n 3, 1) := by decide +kernel
theorem dX8_readTerm_42 : decode cX8_readTerm 42 = .ok (.bipush 62, 2) := by decide +kernel
theorem dX8_readTerm_44 : decode cX8_readTerm 44 = .ok (.if_icmp .eq 15, 3) := by decide +kernel
theorem dX8_readTerm_47 : decode cX8_readTerm 47 = .ok (.iload_n 3, 1) := by decide +kernel
theorem dX8_readTerm_48 : decode cX8_readTerm 48 = .ok (.bipush 61, 2) := by decide +kernel
theorem dX8_readTerm_50 : decode cX8_readTerm 50 = .ok (.if_icmp .eq 9, 3) := by decide +kernel
theorem dX8_readTerm_53 : decode cX8_readTerm 53 = .ok (.aload_n 0, 1) := by decide +kernel
theorem dX8_readTerm_54 : decode cX8_readTerm 54 = .ok (.iconst 0, 1) := by decide +kernel
theorem dX8_readTerm_55 : decode cX8_readTerm 55 = .ok (.invokevirtual 53, 3) := by decide +kernel
theorem dX8_readTerm_58 : decode cX8_readTerm 58 = .ok (.ireturn, 1) := by decide +kernel
theorem dX8_readTerm_59 : decode cX8_readTerm 59 = .ok (.aload_n 0, 1) := by decide +kernel
theorem dX8_readTerm_60 : decode cX8_readTerm 60 = .ok (.invokevirtual 32, 3) := by decide +kernel
theorem dX8_readTerm_63 : decode cX8_readTerm 63 = .ok (.aload_n 0, 1) := by decide +kernel
theorem dX8_readTerm_64 : decode cX8_readTerm 64 = .ok (.iconst 0, 1) := by decide +kernel
theorem dX8_readTerm_65 : decode cX8_readTerm 65 = .ok (.invokevirtual 93, 3) := by decide +kernel
theorem dX8_readTerm_68 : decode cX8_readTerm 68 = .ok (.istore 4, 2) := by decide +kernel
theorem dX8_readTerm_70 : decode cX8_readTerm 70 = .ok (.iload 4, 2) := by decide +kernel
theorem dX8_readTerm_72 : decode cX8_readTerm 72 = .ok (.iconst (-1), 1) := by decide +kernel
theorem dX8_readTerm_73 : decode cX8_readTerm 73 = .ok (.if_icmp .ne 5, 3) := by decide +kernel
theorem dX8_readTerm_76 : decode cX8_readTerm 76 = .ok (.iconst 0, 1) := by decide +kernel
theorem dX8_readTerm_77 : decode cX8_readTerm 77 = .ok (.ireturn, 1) := by decide +kernel
theorem dX8_readTerm_78 : decode cX8_readTerm 78 = .ok (.aload_n 0, 1) := by decide +kernel
theorem dX8_readTerm_79 : decode cX8_readTerm 79 = .ok (.getfield 12, 3) := by decide +kernel
theorem dX8_readTerm_82 : decode cX8_readTerm 82 = .ok (.iload_n 2, 1) := by decide +kernel
theorem dX8_readTerm_83 : decode cX8_readTerm 83 = .ok (.iload_n 3, 1) := by decide +kernel
theorem dX8_readTerm_84 : decode cX8_readTerm 84 = .ok (.iload 4, 2) := by decide +kernel
theorem dX8_readTerm_86 : decode cX8_readTerm 86 = .ok (.invokevirtual 97, 3) := by decide +kernel
theorem dX8_readTerm_89 : decode cX8_readTerm 89 = .ok (.iconst 1, 1) := by decide +kernel
theorem dX8_readTerm_90 : decode cX8_readTerm 90 = .ok (.ireturn, 1) := by decide +kernel
theorem dX8_readSide_0 : decode cX8_readSide 0 = .ok (.aload_n 0, 1) := by decide +kernel
theorem dX8_readSide_1 : decode cX8_readSide 1 = .ok (.invokevirtual 82, 3) := by decide +kernel
theorem dX8_readSide_4 : decode cX8_readSide 4 = .ok (.istore_n 2, 1) := by decide +kernel
theorem dX8_readSide_5 : decode cX8_readSide 5 = .ok (.iload_n 2, 1) := by decide +kernel
theorem dX8_readSide_6 : decode cX8_readSide 6 = .ok (.ifCond .eq 7, 3) := by decide +kernel
theorem dX8_readSide_9 : decode cX8_readSide 9 = .ok (.iconst (-1), 1) := by decide +kernel
theorem dX8_readSide_10 : decode cX8_readSide 10 = .ok (.goto 7, 3) := by decide +kernel
theorem dX8_readSide_13 : decode cX8_readSide 13 = .ok (.aload_n 0, 1) := by decide +kernel
theorem dX8_readSide_14 : decode cX8_readSide 14 = .ok (.invokevirtual 101, 3) := by decide +kernel
theorem dX8_readSide_17 : decode cX8_readSide 17 = .ok (.istore_n 3, 1) := by decide +kernel
theorem dX8_readSide_18 : decode cX8_readSide 18 = .ok (.iload_n 2, 1) := by decide +kernel
theorem dX8_readSide_19 : decode cX8_readSide 19 = .ok (.ifCond .ne 16, 3) := by decide +kernel
theorem dX8_readSide_22 : decode cX8_readSide 22 = .ok (.iload_n 3, 1) := by decide +kernel
theorem dX8_readSide_23 : decode cX8_readSide 23 = .ok (.iconst (-1), 1) := by decide +kernel
theorem dX8_readSide_24 : decode cX8_readSide 24 = .ok (.if_icmp .ne 11, 3) := by decide +kernel
theorem dX8_readSide_27 : decode cX8_readSide 27 = .ok (.aload_n 0, 1) := by decide +kernel
theorem dX8_readSide_28 : decode cX8_readSide 28 = .ok (.iconst 0, 1) := by decide +kernel
theorem dX8_readSide_29 : decode cX8_readSide 29 = .ok (.invokevirtual 53, 3) := by decide +kernel
theorem dX8_readSide_32 : decode cX8_readSide 32 = .ok (.pop, 1) := by decide +kernel
theorem dX8_readSide_33 : decode cX8_readSide 33 = .ok (.iconst (-1), 1) := by decide +kernel
theorem dX8_readSide_34 : decode cX8_readSide 34 = .ok (.ireturn, 1) := by decide +kernel
theorem dX8_readSide_35 : decode cX8_readSide 35 = .ok (.iload_n 2, 1) := by decide +kernel
theorem dX8_readSide_36 : decode cX8_readSide 36 = .ok (.ifCond .eq 10, 3) := by decide +kernel
theorem dX8_readSide_39 : decode cX8_readSide 39 = .ok (.aload_n 0, 1) := by decide +kernel
theorem dX8_readSide_40 : decode cX8_readSide 40 = .ok (.invokevirtual 85, 3) := by decide +kernel
theorem dX8_readSide_43 : decode cX8_readSide 43 = .ok (.goto 8, 3) := by decide +kernel
theorem dX8_readSide_46 : decode cX8_readSide 46 = .ok (.sipush 10000, 3) := by decide +kernel
theorem dX8_readSide_49 : decode cX8_readSide 49 = .ok (.iload_n 3, 1) := by decide +kernel
theorem dX8_readSide_50 : decode cX8_readSide 50 = .ok (.iadd, 1) := by decide +kernel
theorem dX8_readSide_51 : decode cX8_readSide 51 = .ok (.istore 4, 2) := by decide +kernel
theorem dX8_readSide_53 : decode cX8_readSide 53 = .ok (.iload 4, 2) := by decide +kernel
theorem dX8_readSide_55 : decode cX8_readSide 55 = .ok (.iconst (-1), 1) := by decide +kernel
theorem dX8_readSide_56 : decode cX8_readSide 56 = .ok (.if_icmp .eq 7, 3) := by decide +kernel
theorem dX8_readSide_59 : decode cX8_readSide 59 = .ok (.iload_n 1, 1) := by decide +kernel
theorem dX8_readSide_60 : decode cX8_readSide 60 = .ok (.ifCond .eq 21, 3) := by decide +kernel
theorem dX8_readSide_63 : decode cX8_readSide 63 = .ok (.aload_n 0, 1) := by decide +kernel
theorem dX8_readSide_64 : decode cX8_readSide 64 = .ok (.iload 4, 2) := by decide +kernel
theorem dX8_readSide_66 : decode cX8_readSide 66 = .ok (.iconst (-1), 1) := by decide +kernel
theorem dX8_readSide_67 : decode cX8_readSide 67 = .ok (.if_icmp .ne 7, 3) := by decide +kernel
theorem dX8_readSide_70 : decode cX8_readSide 70 = .ok (.iconst 1, 1) := by decide +kernel
theorem dX8_readSide_71 : decode cX8_readSide 71 = .ok (.goto 4, 3) := by decide +kernel
theorem dX8_readSide_74 : decode cX8_readSide 74 = .ok (.iconst 2, 1) := by decide +kernel
theorem dX8_readSide_75 : decode cX8_readSide 75 = .ok (.invokevirtual 53, 3) := by decide +kernel
theorem dX8_readSide_78 : decode cX8_readSide 78 = .ok (.pop, 1) := by decide +kernel
theorem dX8_readSide_79 : decode cX8_readSide 79 = .ok (.iconst (-1), 1) := by decide +kernel
theorem dX8_readSide_80 : decode cX8_readSide 80 = .ok (.ireturn, 1) := by decide +kernel
theorem dX8_readSide_81 : decode cX8_readSide 81 = .ok (.aload_n 0, 1) := by decide +kernel
theorem dX8_readSide_82 : decode cX8_readSide 82 = .ok (.invokevirtual 32, 3) := by decide +kernel
theorem dX8_readSide_85 : decode cX8_readSide 85 = .ok (.iload 4, 2) := by decide +kernel
theorem dX8_readSide_87 : decode cX8_readSide 87 = .ok (.ireturn, 1) := by decide +kernel
theorem dX8_slotOfWord_0 : decode cX8_slotOfWord 0 = .ok (.aload_n 0, 1) := by decide +kernel
theorem dX8_slotOfWord_1 : decode cX8_slotOfWord 1 = .ok (.getfield 18, 3) := by decide +kernel
theorem dX8_slotOfWord_4 : decode cX8_slotOfWord 4 = .ok (.aload_n 0, 1) := by decide +kernel
theorem dX8_slotOfWord_5 : decode cX8_slotOfWord 5 = .ok (.getfield 63, 3) := by decide +kernel
theorem dX8_slotOfWord_8 : decode cX8_slotOfWord 8 = .ok (.invokevirtual 66, 3) := by decide +kernel
theorem dX8_slotOfWord_11 : decode cX8_slotOfWord 11 = .ok (.istore_n 1, 1) := by decide +kernel
theorem dX8_slotOfWord_12 : decode cX8_slotOfWord 12 = .ok (.aload_n 0, 1) := by decide +kernel
theorem dX8_slotOfWord_13 : decode cX8_slotOfWord 13 = .ok (.getfield 18, 3) := by decide +kernel
theorem dX8_slotOfWord_16 : decode cX8_slotOfWord 16 = .ok (.aload_n 0, 1) := by decide +kernel
theorem dX8_slotOfWord_17 : decode cX8_slotOfWord 17 = .ok (.getfield 63, 3) := by decide +kernel
theorem dX8_slotOfWord_20 : decode cX8_slotOfWord 20 = .ok (.iconst 1, 1) := by decide +kernel
theorem dX8_slotOfWord_21 : decode cX8_slotOfWord 21 = .ok (.iadd, 1) := by decide +kernel
theorem dX8_slotOfWord_22 : decode cX8_slotOfWord 22 = .ok (.invokevirtual 66, 3) := by decide +kernel
theorem dX8_slotOfWord_25 : decode cX8_slotOfWord 25 = .ok (.bipush 48, 2) := by decide +kernel
theorem dX8_slotOfWord_27 : decode cX8_slotOfWord 27 = .ok (.isub, 1) := by decide +kernel
theorem dX8_slotOfWord_28 : decode cX8_slotOfWord 28 = .ok (.istore_n 2, 1) := by decide +kernel
theorem dX8_slotOfWord_29 : decode cX8_slotOfWord 29 = .ok (.aload_n 0, 1) := by decide +kernel
theorem dX8_slotOfWord_30 : decode cX8_slotOfWord 30 = .ok (.getfield 29, 3) := by decide +kernel
theorem dX8_slotOfWord_33 : decode cX8_slotOfWord 33 = .ok (.aload_n 0, 1) := by decide +kernel
theorem dX8_slotOfWord_34 : decode cX8_slotOfWord 34 = .ok (.getfield 63, 3) := by decide +kernel
theorem dX8_slotOfWord_37 : decode cX8_slotOfWord 37 = .ok (.isub, 1) := by decide +kernel
theorem dX8_slotOfWord_38 : decode cX8_slotOfWord 38 = .ok (.iconst 2, 1) := by decide +kernel
theorem dX8_slotOfWord_39 : decode cX8_slotOfWord 39 = .ok (.if_icmp .ne 19, 3) := by decide +kernel
theorem dX8_slotOfWord_42 : decode cX8_slotOfWord 42 = .ok (.iload_n 1, 1) := by decide +kernel
theorem dX8_slotOfWord_43 : decode cX8_slotOfWord 43 = .ok (.bipush 99, 2) := by decide +kernel
theorem dX8_slotOfWord_45 : decode cX8_slotOfWord 45 = .ok (.if_icmp .eq 9, 3) := by decide +kernel
theorem dX8_slotOfWord_48 : decode cX8_slotOfWord 48 = .ok (.iload_n 1, 1) := by decide +kernel
theorem dX8_slotOfWord_49 : decode cX8_slotOfWord 49 = .ok (.bipush 104, 2) := by decide +kernel
theorem dX8_slotOfWord_51 : decode cX8_slotOfWord 51 = .ok (.if_icmp .ne 7, 3) := by decide +kernel
theorem dX8_slotOfWord_54 : decode cX8_slotOfWord 54 = .ok (.iconst 1, 1) := by decide +kernel
theorem dX8_slotOfWord_55 : decode cX8_slotOfWord 55 = .ok (.goto 4, 3) := by decide +kernel
theorem dX8_slotOfWord_58 : decode cX8_slotOfWord 58 = .ok (.iconst 0, 1) := by decide +kernel
theorem dX8_slotOfWord_59 : decode cX8_slotOfWord 59 = .ok (.istore_n 3, 1) := by decide +kernel
theorem dX8_slotOfWord_60 : decode cX8_slotOfWord 60 = .ok (.iload_n 3, 1) := by decide +kernel
theorem dX8_slotOfWord_61 : decode cX8_slotOfWord 61 = .ok (.ifCond .eq 28, 3) := by decide +kernel
theorem dX8_slotOfWord_64 : decode cX8_slotOfWord 64 = .ok (.iload_n 2, 1) := by decide +kernel
theorem dX8_slotOfWord_65 : decode cX8_slotOfWord 65 = .ok (.invokestatic 106, 3) := by decide +kernel
theorem dX8_slotOfWord_68 : decode cX8_slotOfWord 68 = .ok (.ifCond .eq 21, 3) := by decide +kernel
theorem dX8_slotOfWord_71 : decode cX8_slotOfWord 71 = .ok (.iload_n 1, 1) := by decide +kernel
theorem dX8_slotOfWord_72 : decode cX8_slotOfWord 72 = .ok (.bipush 104, 2) := by decide +kernel
theorem dX8_slotOfWord_74 : decode cX8_slotOfWord 74 = .ok (.if_icmp .ne 7, 3) := by decide +kernel
theorem dX8_slotOfWord_77 : decode cX8_slotOfWord 77 = .ok (.iconst 1, 1) := by decide +kernel
theorem dX8_slotOfWord_78 : decode cX8_slotOfWord 78 = .ok (.goto 4, 3) := by decide +kernel
theorem dX8_slotOfWord_81 : decode cX8_slotOfWord 81 = .ok (.iconst 0, 1) := by decide +kernel
theorem dX8_slotOfWord_82 : decode cX8_slotOfWord 82 = .ok (.iload_n 2, 1) := by decide +kernel
theorem dX8_slotOfWord_83 : decode cX8_slotOfWord 83 = .ok (.invokestatic 109, 3) := by decide +kernel
theorem dX8_slotOfWord_86 : decode cX8_slotOfWord 86 = .ok (.goto 4, 3) := by decide +kernel
theorem dX8_slotOfWord_89 : decode cX8_slotOfWord 89 = .ok (.iconst (-1), 1) := by decide +kernel
theorem dX8_slotOfWord_90 : decode cX8_slotOfWord 90 = .ok (.ireturn, 1) := by decide +kernel
theorem dX8_numberOfWord_0 : decode cX8_numberOfWord 0 = .ok (.aload_n 0, 1) := by decide +kernel
theorem dX8_numberOfWord_1 : decode cX8_numberOfWord 1 = .ok (.getfield 29, 3) := by decide +kernel
theorem dX8_numberOfWord_4 : decode cX8_numberOfWord 4 = .ok (.aload_n 0, 1) := by decide +kernel
theorem dX8_numberOfWord_5 : decode cX8_numberOfWord 5 = .ok (.getfield 63, 3) := by decide +kernel
theorem dX8_numberOfWord_8 : decode cX8_numberOfWord 8 = .ok (.isub, 1) := by decide +kernel
theorem dX8_numberOfWord_9 : decode cX8_numberOfWord 9 = .ok (.iconst 4, 1) := by decide +kernel
theorem dX8_numberOfWord_10 : decode cX8_numberOfWord 10 = .ok (.if_icmp .le 5, 3) := by decide +kernel
theorem dX8_numberOfWord_13 : decode cX8_numberOfWord 13 = .ok (.iconst (-1), 1) := by decide +kernel
theorem dX8_numberOfWord_14 : decode cX8_numberOfWord 14 = .ok (.ireturn, 1) := by decide +kernel
theorem dX8_numberOfWord_15 : decode cX8_numberOfWord 15 = .ok (.iconst 0, 1) := by decide +kernel
theorem dX8_numberOfWord_16 : decode cX8_numberOfWord 16 = .ok (.istore_n 1, 1) := by decide +kernel
theorem dX8_numberOfWord_17 : decode cX8_numberOfWord 17 = .ok (.aload_n 0, 1) := by decide +kernel
theorem dX8_numberOfWord_18 : decode cX8_numberOfWord 18 = .ok (.getfield 63, 3) := by decide +kernel
theorem dX8_numberOfWord_21 : decode cX8_numberOfWord 21 = .ok (.istore_n 2, 1) := by decide +kernel
theorem dX8_numberOfWord_22 : decode cX8_numberOfWord 22 = .ok (.iload_n 2, 1) := by decide +kernel
theorem dX8_numberOfWord_23 : decode cX8_numberOfWord 23 = .ok (.aload_n 0, 1) := by decide +kernel
theorem dX8_numberOfWord_24 : decode cX8_numberOfWord 24 = .ok (.getfield 29, 3) := by decide +kernel
theorem dX8_numberOfWord_27 : decode cX8_numberOfWord 27 = .ok (.if_icmp .ge 26, 3) := by decide +kernel
theorem dX8_numberOfWord_30 : decode cX8_numberOfWord 30 = .ok (.iload_n 1, 1) := by decide +kernel
theorem dX8_numberOfWord_31 : decode cX8_numberOfWord 31 = .ok (.bipush 10, 2) := by decide +kernel
theorem dX8_numberOfWord_33 : decode cX8_numberOfWord 33 = .ok (.imul, 1) := by decide +kernel
theorem dX8_numberOfWord_34 : decode cX8_numberOfWord 34 = .ok (.aload_n 0, 1) := by decide +kernel
theorem dX8_numberOfWord_35 : decode cX8_numberOfWord 35 = .ok (.getfield 18, 3) := by decide +kernel
theorem dX8_numberOfWord_38 : decode cX8_numberOfWord 38 = .ok (.iload_n 2, 1) := by decide +kernel
theorem dX8_numberOfWord_39 : decode cX8_numberOfWord 39 = .ok (.invokevirtual 66, 3) := by decide +kernel
theorem dX8_numberOfWord_42 : decode cX8_numberOfWord 42 = .ok (.iadd, 1) := by decide +kernel
theorem dX8_numberOfWord_43 : decode cX8_numberOfWord 43 = .ok (.bipush 48, 2) := by decide +kernel
theorem dX8_numberOfWord_45 : decode cX8_numberOfWord 45 = .ok (.isub, 1) := by decide +kernel
theorem dX8_numberOfWord_46 : decode cX8_numberOfWord 46 = .ok (.istore_n 1, 1) := by decide +kernel
theorem dX8_numberOfWord_47 : decode cX8_numberOfWord 47 = .ok (.iinc 2 1, 3) := by decide +kernel
theorem dX8_numberOfWord_50 : decode cX8_numberOfWord 50 = .ok (.goto (-28), 3) := by decide +kernel
theorem dX8_numberOfWord_53 : decode cX8_numberOfWord 53 = .ok (.iload_n 1, 1) := by decide +kernel
theorem dX8_numberOfWord_54 : decode cX8_numberOfWord 54 = .ok (.ireturn, 1) := by decide +kernel
theorem dX8_isNumber_0 : decode cX8_isNumber 0 = .ok (.aload_n 0, 1) := by decide +kernel
theorem dX8_isNumber_1 : decode cX8_isNumber 1 = .ok (.getfield 63, 3) := by decide +kernel
theorem dX8_isNumber_4 : decode cX8_isNumber 4 = .ok (.istore_n 1, 1) := by decide +kernel
theorem dX8_isNumber_5 : decode cX8_isNumber 5 = .ok (.iload_n 1, 1) := by decide +kernel
theorem dX8_isNumber_6 : decode cX8_isNumber 6 = .ok (.aload_n 0, 1) := by decide +kernel
theorem dX8_isNumber_7 : decode cX8_isNumber 7 = .ok (.getfield 29, 3) := by decide +kernel
theorem dX8_isNumber_10 : decode cX8_isNumber 10 = .ok (.if_icmp .ge 25, 3) := by decide +kernel
theorem dX8_isNumber_13 : decode cX8_isNumber 13 = .ok (.aload_n 0, 1) := by decide +kernel
theorem dX8_isNumber_14 : decode cX8_isNumber 14 = .ok (.getfield 18, 3) := by decide +kernel
theorem dX8_isNumber_17 : decode cX8_isNumber 17 = .ok (.iload_n 1, 1) := by decide +kernel
theorem dX8_isNumber_18 : decode cX8_isNumber 18 = .ok (.invokevirtual 66, 3) := by decide +kernel
theorem dX8_isNumber_21 : decode cX8_isNumber 21 = .ok (.invokestatic 113, 3) := by decide +kernel
theorem dX8_isNumber_24 : decode cX8_isNumber 24 = .ok (.ifCond .ne 5, 3) := by decide +kernel
theorem dX8_isNumber_27 : decode cX8_isNumber 27 = .ok (.iconst 0, 1) := by decide +kernel
theorem dX8_isNumber_28 : decode cX8_isNumber 28 = .ok (.ireturn, 1) := by decide +kernel
theorem dX8_isNumber_29 : decode cX8_isNumber 29 = .ok (.iinc 1 1, 3) := by decide +kernel
theorem dX8_isNumber_32 : decode cX8_isNumber 32 = .ok (.goto (-27), 3) := by decide +kernel
theorem dX8_isNumber_35 : decode cX8_isNumber 35 = .ok (.aload_n 0, 1) := by decide +kernel
theorem dX8_isNumber_36 : decode cX8_isNumber 36 = .ok (.getfield 29, 3) := by decide +kernel
theorem dX8_isNumber_39 : decode cX8_isNumber 39 = .ok (.aload_n 0, 1) := by decide +kernel
theorem dX8_isNumber_40 : decode cX8_isNumber 40 = .ok (.getfield 63, 3) := by decide +kernel
theorem dX8_isNumber_43 : decode cX8_isNumber 43 = .ok (.if_icmp .le 7, 3) := by decide +kernel
theorem dX8_isNumber_46 : decode cX8_isNumber 46 = .ok (.iconst 1, 1) := by decide +kernel
theorem dX8_isNumber_47 : decode cX8_isNumber 47 = .ok (.goto 4, 3) := by decide +kernel
theorem dX8_isNumber_50 : decode cX8_isNumber 50 = .ok (.iconst 0, 1) := by decide +kernel
theorem dX8_isNumber_51 : decode cX8_isNumber 51 = .ok (.ireturn, 1) := by decide +kernel
theorem dX8_isWord_0 : decode cX8_isWord 0 = .ok (.aload_n 0, 1) := by decide +kernel
theorem dX8_isWord_1 : decode cX8_isWord 1 = .ok (.getfield 29, 3) := by decide +kernel
theorem dX8_isWord_4 : decode cX8_isWord 4 = .ok (.aload_n 0, 1) := by decide +kernel
theorem dX8_isWord_5 : decode cX8_isWord 5 = .ok (.getfield 63, 3) := by decide +kernel
theorem dX8_isWord_8 : decode cX8_isWord 8 = .ok (.isub, 1) := by decide +kernel
theorem dX8_isWord_9 : decode cX8_isWord 9 = .ok (.aload_n 1, 1) := by decide +kernel
theorem dX8_isWord_10 : decode cX8_isWord 10 = .ok (.invokevirtual 116, 3) := by decide +kernel
theorem dX8_isWord_13 : decode cX8_isWord 13 = .ok (.if_icmp .eq 5, 3) := by decide +kernel
theorem dX8_isWord_16 : decode cX8_isWord 16 = .ok (.iconst 0, 1) := by decide +kernel
theorem dX8_isWord_17 : decode cX8_isWord 17 = .ok (.ireturn, 1) := by decide +kernel
theorem dX8_isWord_18 : decode cX8_isWord 18 = .ok (.iconst 0, 1) := by decide +kernel
theorem dX8_isWord_19 : decode cX8_isWord 19 = .ok (.istore_n 2, 1) := by decide +kernel
theorem dX8_isWord_20 : decode cX8_isWord 20 = .ok (.iload_n 2, 1) := by decide +kernel
theorem dX8_isWord_21 : decode cX8_isWord 21 = .ok (.aload_n 1, 1) := by decide +kernel
theorem dX8_isWord_22 : decode cX8_isWord 22 = .ok (.invokevirtual 116, 3) := by decide +kernel
theorem dX8_isWord_25 : decode cX8_isWord 25 = .ok (.if_icmp .ge 32, 3) := by decide +kernel
theorem dX8_isWord_28 : decode cX8_isWord 28 = .ok (.aload_n 0, 1) := by decide +kernel
theorem dX8_isWord_29 : decode cX8_isWord 29 = .ok (.getfield 18, 3) := by decide +kernel
theorem dX8_isWord_32 : decode cX8_isWord 32 = .ok (.aload_n 0, 1) := by decide +kernel
theorem dX8_isWord_33 : decode cX8_isWord 33 = .ok (.getfield 63, 3) := by decide +kernel
theorem dX8_isWord_36 : decode cX8_isWord 36 = .ok (.iload_n 2, 1) := by decide +kernel
theorem dX8_isWord_37 : decode cX8_isWord 37 = .ok (.iadd, 1) := by decide +kernel
theorem dX8_isWord_38 : decode cX8_isWord 38 = .ok (.invokevirtual 66, 3) := by decide +kernel
theorem dX8_isWord_41 : decode cX8_isWord 41 = .ok (.aload_n 1, 1) := by decide +kernel
theorem dX8_isWord_42 : decode cX8_isWord 42 = .ok (.iload_n 2, 1) := by decide +kernel
theorem dX8_isWord_43 : decode cX8_isWord 43 = .ok (.invokevirtual 121, 3) := by decide +kernel
theorem dX8_isWord_46 : decode cX8_isWord 46 = .ok (.if_icmp .eq 5, 3) := by decide +kernel
theorem dX8_isWord_49 : decode cX8_isWord 49 = .ok (.iconst 0, 1) := by decide +kernel
theorem dX8_isWord_50 : decode cX8_isWord 50 = .ok (.ireturn, 1) := by decide +kernel
theorem dX8_isWord_51 : decode cX8_isWord 51 = .ok (.iinc 2 1, 3) := by decide +kernel
theorem dX8_isWord_54 : decode cX8_isWord 54 = .ok (.goto (-34), 3) := by decide +kernel
theorem dX8_isWord_57 : decode cX8_isWord 57 = .ok (.iconst 1, 1) := by decide +kernel
theorem dX8_isWord_58 : decode cX8_isWord 58 = .ok (.ireturn, 1) := by decide +kernel
theorem dX8_isAtEnd_0 : decode cX8_isAtEnd 0 = .ok (.aload_n 0, 1) := by decide +kernel
theorem dX8_isAtEnd_1 : decode cX8_isAtEnd 1 = .ok (.getfield 63, 3) := by decide +kernel
theorem dX8_isAtEnd_4 : decode cX8_isAtEnd 4 = .ok (.aload_n 0, 1) := by decide +kernel
theorem dX8_isAtEnd_5 : decode cX8_isAtEnd 5 = .ok (.getfield 18, 3) := by decide +kernel
theorem dX8_isAtEnd_8 : decode cX8_isAtEnd 8 = .ok (.invokevirtual 125, 3) := by decide +kernel
theorem dX8_isAtEnd_11 : decode cX8_isAtEnd 11 = .ok (.if_icmp .lt 7, 3) := by decide +kernel
theorem dX8_isAtEnd_14 : decode cX8_isAtEnd 14 = .ok (.iconst 1, 1) := by decide +kernel
theorem dX8_isAtEnd_15 : decode cX8_isAtEnd 15 = .ok (.goto 4, 3) := by decide +kernel
theorem dX8_isAtEnd_18 : decode cX8_isAtEnd 18 = .ok (.iconst 0, 1) := by decide +kernel
theorem dX8_isAtEnd_19 : decode cX8_isAtEnd 19 = .ok (.ireturn, 1) := by decide +kernel
theorem dX8_step_0 : decode cX8_step 0 = .ok (.aload_n 0, 1) := by decide +kernel
theorem dX8_step_1 : decode cX8_step 1 = .ok (.aload_n 0, 1) := by decide +kernel
theorem dX8_step_2 : decode cX8_step 2 = .ok (.getfield 29, 3) := by decide +kernel
theorem dX8_step_5 : decode cX8_step 5 = .ok (.putfield 63, 3) := by decide +kernel
theorem dX8_step_8 : decode cX8_step 8 = .ok (.aload_n 0, 1) := by decide +kernel
theorem dX8_step_9 : decode cX8_step 9 = .ok (.getfield 63, 3) := by decide +kernel
theorem dX8_step_12 : decode cX8_step 12 = .ok (.aload_n 0, 1) := by decide +kernel
theorem dX8_step_13 : decode cX8_step 13 = .ok (.getfield 18, 3) := by decide +kernel
theorem dX8_step_16 : decode cX8_step 16 = .ok (.invokevirtual 125, 3) := by decide +kernel
theorem dX8_step_19 : decode cX8_step 19 = .ok (.if_icmp .ge 32, 3) := by decide +kernel
theorem dX8_step_22 : decode cX8_step 22 = .ok (.aload_n 0, 1) := by decide +kernel
theorem dX8_step_23 : decode cX8_step 23 = .ok (.getfield 18, 3) := by decide +kernel
theorem dX8_step_26 : decode cX8_step 26 = .ok (.aload_n 0, 1) := by decide +kernel
theorem dX8_step_27 : decode cX8_step 27 = .ok (.getfield 63, 3) := by decide +kernel
theorem dX8_step_30 : decode cX8_step 30 = .ok (.invokevirtual 66, 3) := by decide +kernel
theorem dX8_step_33 : decode cX8_step 33 = .ok (.bipush 32, 2) := by decide +kernel
theorem dX8_step_35 : decode cX8_step 35 = .ok (.if_icmp .ne 16, 3) := by decide +kernel
theorem dX8_step_38 : decode cX8_step 38 = .ok (.aload_n 0, 1) := by decide +kernel
theorem dX8_step_39 : decode cX8_step 39 = .ok (.dup, 1) := by decide +kernel
theorem dX8_step_40 : decode cX8_step 40 = .ok (.getfield 63, 3) := by decide +kernel
theorem dX8_step_43 : decode cX8_step 43 = .ok (.iconst 1, 1) := by decide +kernel
theorem dX8_step_44 : decode cX8_step 44 = .ok (.iadd, 1) := by decide +kernel
theorem dX8_step_45 : decode cX8_step 45 = .ok (.putfield 63, 3) := by decide +kernel
theorem dX8_step_48 : decode cX8_step 48 = .ok (.goto (-40), 3) := by decide +kernel
theorem dX8_step_51 : decode cX8_step 51 = .ok (.aload_n 0, 1) := by decide +kernel
theorem dX8_step_52 : decode cX8_step 52 = .ok (.aload_n 0, 1) := by decide +kernel
theorem dX8_step_53 : decode cX8_step 53 = .ok (.getfield 63, 3) := by decide +kernel
theorem dX8_step_56 : decode cX8_step 56 = .ok (.putfield 29, 3) := by decide +kernel
theorem dX8_step_59 : decode cX8_step 59 = .ok (.aload_n 0, 1) := by decide +kernel
theorem dX8_step_60 : decode cX8_step 60 = .ok (.getfield 29, 3) := by decide +kernel
theorem dX8_step_63 : decode cX8_step 63 = .ok (.aload_n 0, 1) := by decide +kernel
theorem dX8_step_64 : decode cX8_step 64 = .ok (.getfield 18, 3) := by decide +kernel
theorem dX8_step_67 : decode cX8_step 67 = .ok (.invokevirtual 125, 3) := by decide +kernel
theorem dX8_step_70 : decode cX8_step 70 = .ok (.if_icmp .ge 33, 3) := by decide +kernel
theorem dX8_step_73 : decode cX8_step 73 = .ok (.aload_n 0, 1) := by decide +kernel
theorem dX8_step_74 : decode cX8_step 74 = .ok (.getfield 18, 3) := by decide +kernel
theorem dX8_step_77 : decode cX8_step 77 = .ok (.aload_n 0, 1) := by decide +kernel
theorem dX8_step_78 : decode cX8_step 78 = .ok (.getfield 29, 3) := by decide +kernel
theorem dX8_step_81 : decode cX8_step 81 = .ok (.invokevirtual 66, 3) := by decide +kernel
theorem dX8_step_84 : decode cX8_step 84 = .ok (.invokestatic 128, 3) := by decide +kernel
theorem dX8_step_87 : decode cX8_step 87 = .ok (.ifCond .eq 16, 3) := by decide +kernel
theorem dX8_step_90 : decode cX8_step 90 = .ok (.aload_n 0, 1) := by decide +kernel
theorem dX8_step_91 : decode cX8_step 91 = .ok (.dup, 1) := by decide +kernel
theorem dX8_step_92 : decode cX8_step 92 = .ok (.getfield 29, 3) := by decide +kernel
theorem dX8_step_95 : decode cX8_step 95 = .ok (.iconst 1, 1) := by decide +kernel
theorem dX8_step_96 : decode cX8_step 96 = .ok (.iadd, 1) := by decide +kernel
theorem dX8_step_97 : decode cX8_step 97 = .ok (.putfield 29, 3) := by decide +kernel
theorem dX8_step_100 : decode cX8_step 100 = .ok (.goto (-41), 3) := by decide +kernel
theorem dX8_step_103 : decode cX8_step 103 = .ok (.aload_n 0, 1) := by decide +kernel
theorem dX8_step_104 : decode cX8_step 104 = .ok (.getfield 29, 3) := by decide +kernel
theorem dX8_step_107 : decode cX8_step 107 = .ok (.aload_n 0, 1) := by decide +kernel
theorem dX8_step_108 : decode cX8_step 108 = .ok (.getfield 63, 3) := by decide +kernel
theorem dX8_step_111 : decode cX8_step 111 = .ok (.if_icmp .ne 27, 3) := by decide +kernel
theorem dX8_step_114 : decode cX8_step 114 = .ok (.aload_n 0, 1) := by decide +kernel
theorem dX8_step_115 : decode cX8_step 115 = .ok (.getfield 63, 3) := by decide +kernel
theorem dX8_step_118 : decode cX8_step 118 = .ok (.aload_n 0, 1) := by decide +kernel
theorem dX8_step_119 : decode cX8_step 119 = .ok (.getfield 18, 3) := by decide +kernel
theorem dX8_step_122 : decode cX8_step 122 = .ok (.invokevirtual 125, 3) := by decide +kernel
theorem dX8_step_125 : decode cX8_step 125 = .ok (.if_icmp .ge 13, 3) := by decide +kernel
theorem dX8_step_128 : decode cX8_step 128 = .ok (.aload_n 0, 1) := by decide +kernel
theorem dX8_step_129 : decode cX8_step 129 = .ok (.dup, 1) := by decide +kernel
theorem dX8_step_130 : decode cX8_step 130 = .ok (.getfield 29, 3) := by decide +kernel
theorem dX8_step_133 : decode cX8_step 133 = .ok (.iconst 1, 1) := by decide +kernel
theorem dX8_step_134 : decode cX8_step 134 = .ok (.iadd, 1) := by decide +kernel
theorem dX8_step_135 : decode cX8_step 135 = .ok (.putfield 29, 3) := by decide +kernel
theorem dX8_step_138 : decode cX8_step 138 = .ok (.return_, 1) := by decide +kernel
theorem dX8_refuse_0 : decode cX8_refuse 0 = .ok (.aload_n 0, 1) := by decide +kernel
theorem dX8_refuse_1 : decode cX8_refuse 1 = .ok (.iconst 1, 1) := by decide +kernel
theorem dX8_refuse_2 : decode cX8_refuse 2 = .ok (.bipush 8, 2) := by decide +kernel
theorem dX8_refuse_4 : decode cX8_refuse 4 = .ok (.aload_n 0, 1) := by decide +kernel
theorem dX8_refuse_5 : decode cX8_refuse 5 = .ok (.getfield 63, 3) := by decide +kernel
theorem dX8_refuse_8 : decode cX8_refuse 8 = .ok (.imul, 1) := by decide +kernel
theorem dX8_refuse_9 : decode cX8_refuse 9 = .ok (.iadd, 1) := by decide +kernel
theorem dX8_refuse_10 : decode cX8_refuse 10 = .ok (.iload_n 1, 1) := by decide +kernel
theorem dX8_refuse_11 : decode cX8_refuse 11 = .ok (.iadd, 1) := by decide +kernel
theorem dX8_refuse_12 : decode cX8_refuse 12 = .ok (.putfield 25, 3) := by decide +kernel
theorem dX8_refuse_15 : decode cX8_refuse 15 = .ok (.iconst 0, 1) := by decide +kernel
theorem dX8_refuse_16 : decode cX8_refuse 16 = .ok (.ireturn, 1) := by decide +kernel
theorem dX8_isOfWord_0 : decode cX8_isOfWord 0 = .ok (.iload_n 0, 1) := by decide +kernel
theorem dX8_isOfWord_1 : decode cX8_isOfWord 1 = .ok (.bipush 97, 2) := by decide +kernel
theorem dX8_isOfWord_3 : decode cX8_isOfWord 3 = .ok (.if_icmp .lt 9, 3) := by decide +kernel
theorem dX8_isOfWord_6 : decode cX8_isOfWord 6 = .ok (.iload_n 0, 1) := by decide +kernel
theorem dX8_isOfWord_7 : decode cX8_isOfWord 7 = .ok (.bipush 122, 2) := by decide +kernel
theorem dX8_isOfWord_9 : decode cX8_isOfWord 9 = .ok (.if_icmp .le 15, 3) := by decide +kernel
theorem dX8_isOfWord_12 : decode cX8_isOfWord 12 = .ok (.iload_n 0, 1) := by decide +kernel
theorem dX8_isOfWord_13 : decode cX8_isOfWord 13 = .ok (.bipush 48, 2) := by decide +kernel
theorem dX8_isOfWord_15 : decode cX8_isOfWord 15 = .ok (.if_icmp .lt 13, 3) := by decide +kernel
theorem dX8_isOfWord_18 : decode cX8_isOfWord 18 = .ok (.iload_n 0, 1) := by decide +kernel
theorem dX8_isOfWord_19 : decode cX8_isOfWord 19 = .ok (.bipush 57, 2) := by decide +kernel
theorem dX8_isOfWord_21 : decode cX8_isOfWord 21 = .ok (.if_icmp .gt 7, 3) := by decide +kernel
theorem dX8_isOfWord_24 : decode cX8_isOfWord 24 = .ok (.iconst 1, 1) := by decide +kernel
theorem dX8_isOfWord_25 : decode cX8_isOfWord 25 = .ok (.goto 4, 3) := by decide +kernel
theorem dX8_isOfWord_28 : decode cX8_isOfWord 28 = .ok (.iconst 0, 1) := by decide +kernel
theorem dX8_isOfWord_29 : decode cX8_isOfWord 29 = .ok (.ireturn, 1) := by decide +kernel
theorem dX8_isDigit_0 : decode cX8_isDigit 0 = .ok (.iload_n 0, 1) := by decide +kernel
theorem dX8_isDigit_1 : decode cX8_isDigit 1 = .ok (.bipush 48, 2) := by decide +kernel
theorem dX8_isDigit_3 : decode cX8_isDigit 3 = .ok (.if_icmp .lt 13, 3) := by decide +kernel
theorem dX8_isDigit_6 : decode cX8_isDigit 6 = .ok (.iload_n 0, 1) := by decide +kernel
theorem dX8_isDigit_7 : decode cX8_isDigit 7 = .ok (.bipush 57, 2) := by decide +kernel
theorem dX8_isDigit_9 : decode cX8_isDigit 9 = .ok (.if_icmp .gt 7, 3) := by decide +kernel
theorem dX8_isDigit_12 : decode cX8_isDigit 12 = .ok (.iconst 1, 1) := by decide +kernel
theorem dX8_isDigit_13 : decode cX8_isDigit 13 = .ok (.goto 4, 3) := by decide +kernel
theorem dX8_isDigit_16 : decode cX8_isDigit 16 = .ok (.iconst 0, 1) := by decide +kernel
theorem dX8_isDigit_17 : decode cX8_isDigit 17 = .ok (.ireturn, 1) := by decide +kernel
theorem dX9_init_0 : decode cX9_init 0 = .ok (.aload_n 0, 1) := by decide +kernel
theorem dX9_init_1 : decode cX9_init 1 = .ok (.invokespecial 3, 3) := by decide +kernel
theorem dX9_init_4 : decode cX9_init 4 = .ok (.aload_n 0, 1) := by decide +kernel
theorem dX9_init_5 : decode cX9_init 5 = .ok (.bipush 16, 2) := by decide +kernel
theorem dX9_init_7 : decode cX9_init 7 = .ok (.newarray .int, 2) := by decide +kernel
theorem dX9_init_9 : decode cX9_init 9 = .ok (.putfield 11, 3) := by decide +kernel
theorem dX9_init_12 : decode cX9_init 12 = .ok (.aload_n 0, 1) := by decide +kernel
theorem dX9_init_13 : decode cX9_init 13 = .ok (.bipush 16, 2) := by decide +kernel
theorem dX9_init_15 : decode cX9_init 15 = .ok (.newarray .int, 2) := by decide +kernel
theorem dX9_init_17 : decode cX9_init 17 = .ok (.putfield 15, 3) := by decide +kernel
theorem dX9_init_20 : decode cX9_init 20 = .ok (.return_, 1) := by decide +kernel
theorem dX9_clear_0 : decode cX9_clear 0 = .ok (.aload_n 0, 1) := by decide +kernel
theorem dX9_clear_1 : decode cX9_clear 1 = .ok (.getfield 11, 3) := by decide +kernel
theorem dX9_clear_4 : decode cX9_clear 4 = .ok (.iconst 0, 1) := by decide +kernel
theorem dX9_clear_5 : decode cX9_clear 5 = .ok (.invokestatic 18, 3) := by decide +kernel
theorem dX9_clear_8 : decode cX9_clear 8 = .ok (.aload_n 0, 1) := by decide +kernel
theorem dX9_clear_9 : decode cX9_clear 9 = .ok (.getfield 15, 3) := by decide +kernel
theorem dX9_clear_12 : decode cX9_clear 12 = .ok (.iconst (-1), 1) := by decide +kernel
theorem dX9_clear_13 : decode cX9_clear 13 = .ok (.invokestatic 18, 3) := by decide +kernel
theorem dX9_clear_16 : decode cX9_clear 16 = .ok (.aload_n 0, 1) := by decide +kernel
theorem dX9_clear_17 : decode cX9_clear 17 = .ok (.iload_n 1, 1) := by decide +kernel
theorem dX9_clear_18 : decode cX9_clear 18 = .ok (.putfield 24, 3) := by decide +kernel
theorem dX9_clear_21 : decode cX9_clear 21 = .ok (.aload_n 0, 1) := by decide +kernel
theorem dX9_clear_22 : decode cX9_clear 22 = .ok (.sipush 1000, 3) := by decide +kernel
theorem dX9_clear_25 : decode cX9_clear 25 = .ok (.putfield 28, 3) := by decide +kernel
theorem dX9_clear_28 : decode cX9_clear 28 = .ok (.return_, 1) := by decide +kernel
theorem dX9_take_0 : decode cX9_take 0 = .ok (.iload_n 3, 1) := by decide +kernel
theorem dX9_take_1 : decode cX9_take 1 = .ok (.aload_n 0, 1) := by decide +kernel
theorem dX9_take_2 : decode cX9_take 2 = .ok (.getfield 24, 3) := by decide +kernel
theorem dX9_take_5 : decode cX9_take 5 = .ok (.if_icmp .le 18, 3) := by decide +kernel
theorem dX9_take_8 : decode cX9_take 8 = .ok (.aload_n 0, 1) := by decide +kernel
theorem dX9_take_9 : decode cX9_take 9 = .ok (.aload_n 0, 1) := by decide +kernel
theorem dX9_take_10 : decode cX9_take 10 = .ok (.getfield 28, 3) := by decide +kernel
theorem dX9_take_13 : decode cX9_take 13 = .ok (.iload_n 3, 1) := by decide +kernel
theorem dX9_take_14 : decode cX9_take 14 = .ok (.invokestatic 31, 3) := by decide +kernel
theorem dX9_take_17 : decode cX9_take 17 = .ok (.putfield 28, 3) := by decide +kernel
theorem dX9_take_20 : decode cX9_take 20 = .ok (.goto 37, 3) := by decide +kernel
theorem dX9_take_23 : decode cX9_take 23 = .ok (.iload_n 1, 1) := by decide +kernel
theorem dX9_take_24 : decode cX9_take 24 = .ok (.ifCond .lt 33, 3) := by decide +kernel
theorem dX9_take_27 : decode cX9_take 27 = .ok (.iload_n 1, 1) := by decide +kernel
theorem dX9_take_28 : decode cX9_take 28 = .ok (.bipush 16, 2) := by decide +kernel
theorem dX9_take_30 : decode cX9_take 30 = .ok (.if_icmp .ge 27, 3) := by decide +kernel
theorem dX9_take_33 : decode cX9_take 33 = .ok (.iload_n 3, 1) := by decide +kernel
theorem dX9_take_34 : decode cX9_take 34 = .ok (.aload_n 0, 1) := by decide +kernel
theorem dX9_take_35 : decode cX9_take 35 = .ok (.getfield 15, 3) := by decide +kernel
theorem dX9_take_38 : decode cX9_take 38 = .ok (.iload_n 1, 1) := by decide +kernel
theorem dX9_take_39 : decode cX9_take 39 = .ok (.iaload, 1) := by decide +kernel
theorem dX9_take_40 : decode cX9_take 40 = .ok (.if_icmp .lt 17, 3) := by decide +kernel
theorem dX9_take_43 : decode cX9_take 43 = .ok (.aload_n 0, 1) := by decide +kernel
theorem dX9_take_44 : decode cX9_take 44 = .ok (.getfield 11, 3) := by decide +kernel
theorem dX9_take_47 : decode cX9_take 47 = .ok (.iload_n 1, 1) := by decide +kernel
theorem dX9_take_48 : decode cX9_take 48 = .ok (.iload_n 2, 1) := by decide +kernel
theorem dX9_take_49 : decode cX9_take 49 = .ok (.iastore, 1) := by decide +kernel
theorem dX9_take_50 : decode cX9_take 50 = .ok (.aload_n 0, 1) := by decide +kernel
theorem dX9_take_51 : decode cX9_take 51 = .ok (.getfield 15, 3) := by decide +kernel
theorem dX9_take_54 : decode cX9_take 54 = .ok (.iload_n 1, 1) := by decide +kernel
theorem dX9_take_55 : decode cX9_take 55 = .ok (.iload_n 3, 1) := by decide +kernel
theorem dX9_take_56 : decode cX9_take 56 = .ok (.iastore, 1) := by decide +kernel
theorem dX9_take_57 : decode cX9_take 57 = .ok (.return_, 1) := by decide +kernel
theorem dX9_numberOf_0 : decode cX9_numberOf 0 = .ok (.iload_n 1, 1) := by decide +kernel
theorem dX9_numberOf_1 : decode cX9_numberOf 1 = .ok (.sipush 10000, 3) := by decide +kernel
theorem dX9_numberOf_4 : decode cX9_numberOf 4 = .ok (.isub, 1) := by decide +kernel
theorem dX9_numberOf_5 : decode cX9_numberOf 5 = .ok (.istore_n 2, 1) := by decide +kernel
theorem dX9_numberOf_6 : decode cX9_numberOf 6 = .ok (.iload_n 2, 1) := by decide +kernel
theorem dX9_numberOf_7 : decode cX9_numberOf 7 = .ok (.ifCond .lt 18, 3) := by decide +kernel
theorem dX9_numberOf_10 : decode cX9_numberOf 10 = .ok (.iload_n 2, 1) := by decide +kernel
theorem dX9_numberOf_11 : decode cX9_numberOf 11 = .ok (.bipush 16, 2) := by decide +kernel
theorem dX9_numberOf_13 : decode cX9_numberOf 13 = .ok (.if_icmp .ge 12, 3) := by decide +kernel
theorem dX9_numberOf_16 : decode cX9_numberOf 16 = .ok (.aload_n 0, 1) := by decide +kernel
theorem dX9_numberOf_17 : decode cX9_numberOf 17 = .ok (.getfield 11, 3) := by decide +kernel
theorem dX9_numberOf_20 : decode cX9_numberOf 20 = .ok (.iload_n 2, 1) := by decide +kernel
theorem dX9_numberOf_21 : decode cX9_numberOf 21 = .ok (.iaload, 1) := by decide +kernel
theorem dX9_numberOf_22 : decode cX9_numberOf 22 = .ok (.goto 4, 3) := by decide +kernel
theorem dX9_numberOf_25 : decode cX9_numberOf 25 = .ok (.iload_n 1, 1) := by decide +kernel
theorem dX9_numberOf_26 : decode cX9_numberOf 26 = .ok (.ireturn, 1) := by decide +kernel
theorem dX9_turn_0 : decode cX9_turn 0 = .ok (.aload_n 0, 1) := by decide +kernel
theorem dX9_turn_1 : decode cX9_turn 1 = .ok (.getfield 28, 3) := by decide +kernel
theorem dX9_turn_4 : decode cX9_turn 4 = .ok (.ireturn, 1) := by decide +kernel
theorem dX10_init_0 : decode cX10_init 0 = .ok (.aload_n 0, 1) := by decide +kernel
theorem dX10_init_1 : decode cX10_init 1 = .ok (.invokespecial 3, 3) := by decide +kernel
theorem dX10_init_4 : decode cX10_init 4 = .ok (.aload_n 0, 1) := by decide +kernel
theorem dX10_init_5 : decode cX10_init 5 = .ok (.sipush 500, 3) := by decide +kernel
theorem dX10_init_8 : decode cX10_init 8 = .ok (.newarray .int, 2) := by decide +kernel
theorem dX10_init_10 : decode cX10_init 10 = .ok (.putfield 9, 3) := by decide +kernel
theorem dX10_init_13 : decode cX10_init 13 = .ok (.return_, 1) := by decide +kernel
theorem dX10_size_0 : decode cX10_size 0 = .ok (.aload_n 0, 1) := by decide +kernel
theorem dX10_size_1 : decode cX10_size 1 = .ok (.getfield 15, 3) := by decide +kernel
theorem dX10_size_4 : decode cX10_size 4 = .ok (.ireturn, 1) := by decide +kernel
theorem dX10_add_0 : decode cX10_add 0 = .ok (.aload_n 0, 1) := by decide +kernel
theorem dX10_add_1 : decode cX10_add 1 = .ok (.getfield 15, 3) := by decide +kernel
theorem dX10_add_4 : decode cX10_add 4 = .ok (.iconst 4, 1) := by decide +kernel
theorem dX10_add_5 : decode cX10_add 5 = .ok (.iadd, 1) := by decide +kernel
theorem dX10_add_6 : decode cX10_add 6 = .ok (.sipush 500, 3) := by decide +kernel
theorem dX10_add_9 : decode cX10_add 9 = .ok (.if_icmp .le 4, 3) := by decide +kernel
theorem dX10_add_12 : decode cX10_add 12 = .ok (.return_, 1) := by decide +kernel
theorem dX10_add_13 : decode cX10_add 13 = .ok (.bipush 24, 2) := by decide +kernel
theorem dX10_add_15 : decode cX10_add 15 = .ok (.istore_n 2, 1) := by decide +kernel
theorem dX10_add_16 : decode cX10_add 16 = .ok (.iload_n 2, 1) := by decide +kernel
theorem dX10_add_17 : decode cX10_add 17 = .ok (.ifCond .lt 35, 3) := by decide +kernel
theorem dX10_add_20 : decode cX10_add 20 = .ok (.aload_n 0, 1) := by decide +kernel
theorem dX10_add_21 : decode cX10_add 21 = .ok (.getfield 9, 3) := by decide +kernel
theorem dX10_add_24 : decode cX10_add 24 = .ok (.aload_n 0, 1) := by decide +kernel
theorem dX10_add_25 : decode cX10_add 25 = .ok (.getfield 15, 3) := by decide +kernel
theorem dX10_add_28 : decode cX10_add 28 = .ok (.iload_n 1, 1) := by decide +kernel
theorem dX10_add_29 : decode cX10_add 29 = .ok (.iload_n 2, 1) := by decide +kernel
theorem dX10_add_30 : decode cX10_add 30 = .ok (.iushr, 1) := by decide +kernel
theorem dX10_add_31 : decode cX10_add 31 = .ok (.sipush 255, 3) := by decide +kernel
theorem dX10_add_34 : decode cX10_add 34 = .ok (.iand, 1) := by decide +kernel
theorem dX10_add_35 : decode cX10_add 35 = .ok (.iastore, 1) := by decide +kernel
theorem dX10_add_36 : decode cX10_add 36 = .ok (.aload_n 0, 1) := by decide +kernel
theorem dX10_add_37 : decode cX10_add 37 = .ok (.dup, 1) := by decide +kernel
theorem dX10_add_38 : decode cX10_add 38 = .ok (.getfield 15, 3) := by decide +kernel
theorem dX10_add_41 : decode cX10_add 41 = .ok (.iconst 1, 1) := by decide +kernel
theorem dX10_add_42 : decode cX10_add 42 = .ok (.iadd, 1) := by decide +kernel
theorem dX10_add_43 : decode cX10_add 43 = .ok (.putfield 15, 3) := by decide +kernel
theorem dX10_add_46 : decode cX10_add 46 = .ok (.iinc 2 (-8), 3) := by decide +kernel
theorem dX10_add_49 : decode cX10_add 49 = .ok (.goto (-33), 3) := by decide +kernel
theorem dX10_add_52 : decode cX10_add 52 = .ok (.return_, 1) := by decide +kernel
theorem dX10_cut_0 : decode cX10_cut 0 = .ok (.iload_n 1, 1) := by decide +kernel
theorem dX10_cut_1 : decode cX10_cut 1 = .ok (.ifCond .lt 11, 3) := by decide +kernel
theorem dX10_cut_4 : decode cX10_cut 4 = .ok (.iload_n 1, 1) := by decide +kernel
theorem dX10_cut_5 : decode cX10_cut 5 = .ok (.aload_n 0, 1) := by decide +kernel
theorem dX10_cut_6 : decode cX10_cut 6 = .ok (.getfield 15, 3) := by decide +kernel
theorem dX10_cut_9 : decode cX10_cut 9 = .ok (.if_icmp .le 5, 3) := by decide +kernel
theorem dX10_cut_12 : decode cX10_cut 12 = .ok (.iconst 0, 1) := by decide +kernel
theorem dX10_cut_13 : decode cX10_cut 13 = .ok (.ireturn, 1) := by decide +kernel
theorem dX10_cut_14 : decode cX10_cut 14 = .ok (.aload_n 0, 1) := by decide +kernel
theorem dX10_cut_15 : decode cX10_cut 15 = .ok (.iload_n 1, 1) := by decide +kernel
theorem dX10_cut_16 : decode cX10_cut 16 = .ok (.putfield 15, 3) := by decide +kernel
theorem dX10_cut_19 : decode cX10_cut 19 = .ok (.iconst 1, 1) := by decide +kernel
theorem dX10_cut_20 : decode cX10_cut 20 = .ok (.ireturn, 1) := by decide +kernel
theorem dX10_byteAt_0 : decode cX10_byteAt 0 = .ok (.iload_n 1, 1) := by decide +kernel
theorem dX10_byteAt_1 : decode cX10_byteAt 1 = .ok (.ifCond .lt 20, 3) := by decide +kernel
theorem dX10_byteAt_4 : decode cX10_byteAt 4 = .ok (.iload_n 1, 1) := by decide +kernel
theorem dX10_byteAt_5 : decode cX10_byteAt 5 = .ok (.aload_n 0, 1) := by decide +kernel
theorem dX10_byteAt_6 : decode cX10_byteAt 6 = .ok (.getfield 15, 3) := by decide +kernel
theorem dX10_byteAt_9 : decode cX10_byteAt 9 = .ok (.if_icmp .ge 12, 3) := by decide +kernel
theorem dX10_byteAt_12 : decode cX10_byteAt 12 = .ok (.aload_n 0, 1) := by decide +kernel
theorem dX10_byteAt_13 : decode cX10_byteAt 13 = .ok (.getfield 9, 3) := by decide +kernel
theorem dX10_byteAt_16 : decode cX10_byteAt 16 = .ok (.iload_n 1, 1) := by decide +kernel
theorem dX10_byteAt_17 : decode cX10_byteAt 17 = .ok (.iaload, 1) := by decide +kernel
theorem dX10_byteAt_18 : decode cX10_byteAt 18 = .ok (.goto 4, 3) := by decide +kernel
theorem dX10_byteAt_21 : decode cX10_byteAt 21 = .ok (.iconst (-1), 1) := by decide +kernel
theorem dX10_byteAt_22 : decode cX10_byteAt 22 = .ok (.ireturn, 1) := by decide +kernel
theorem dX11_init_0 : decode cX11_init 0 = .ok (.aload_n 0, 1) := by decide +kernel
theorem dX11_init_1 : decode cX11_init 1 = .ok (.invokespecial 1, 3) := by decide +kernel
theorem dX11_init_4 : decode cX11_init 4 = .ok (.aload_n 0, 1) := by decide +kernel
theorem dX11_init_5 : decode cX11_init 5 = .ok (.new 7, 3) := by decide +kernel
theorem dX11_init_8 : decode cX11_init 8 = .ok (.dup, 1) := by decide +kernel
theorem dX11_init_9 : decode cX11_init 9 = .ok (.invokespecial 9, 3) := by decide +kernel
theorem dX11_init_12 : decode cX11_init 12 = .ok (.putfield 10, 3) := by decide +kernel
theorem dX11_init_15 : decode cX11_init 15 = .ok (.aload_n 0, 1) := by decide +kernel
theorem dX11_init_16 : decode cX11_init 16 = .ok (.new 16, 3) := by decide +kernel
theorem dX11_init_19 : decode cX11_init 19 = .ok (.dup, 1) := by decide +kernel
theorem dX11_init_20 : decode cX11_init 20 = .ok (.invokespecial 18, 3) := by decide +kernel
theorem dX11_init_23 : decode cX11_init 23 = .ok (.putfield 19, 3) := by decide +kernel
theorem dX11_init_26 : decode cX11_init 26 = .ok (.aload_n 0, 1) := by decide +kernel
theorem dX11_init_27 : decode cX11_init 27 = .ok (.new 23, 3) := by decide +kernel
theorem dX11_init_30 : decode cX11_init 30 = .ok (.dup, 1) := by decide +kernel
theorem dX11_init_31 : decode cX11_init 31 = .ok (.invokespecial 25, 3) := by decide +kernel
theorem dX11_init_34 : decode cX11_init 34 = .ok (.putfield 26, 3) := by decide +kernel
theorem dX11_init_37 : decode cX11_init 37 = .ok (.aload_n 0, 1) := by decide +kernel
theorem dX11_init_38 : decode cX11_init 38 = .ok (.new 30, 3) := by decide +kernel
theorem dX11_init_41 : decode cX11_init 41 = .ok (.dup, 1) := by decide +kernel
theorem dX11_init_42 : decode cX11_init 42 = .ok (.invokespecial 32, 3) := by decide +kernel
theorem dX11_init_45 : decode cX11_init 45 = .ok (.putfield 33, 3) := by decide +kernel
theorem dX11_init_48 : decode cX11_init 48 = .ok (.aload_n 0, 1) := by decide +kernel
theorem dX11_init_49 : decode cX11_init 49 = .ok (.new 37, 3) := by decide +kernel
theorem dX11_init_52 : decode cX11_init 52 = .ok (.dup, 1) := by decide +kernel
theorem dX11_init_53 : decode cX11_init 53 = .ok (.invokespecial 39, 3) := by decide +kernel
theorem dX11_init_56 : decode cX11_init 56 = .ok (.putfield 40, 3) := by decide +kernel
theorem dX11_init_59 : decode cX11_init 59 = .ok (.aload_n 0, 1) := by decide +kernel
theorem dX11_init_60 : decode cX11_init 60 = .ok (.new 44, 3) := by decide +kernel
theorem dX11_init_63 : decode cX11_init 63 = .ok (.dup, 1) := by decide +kernel
theorem dX11_init_64 : decode cX11_init 64 = .ok (.invokespecial 46, 3) := by decide +kernel
theorem dX11_init_67 : decode cX11_init 67 = .ok (.putfield 47, 3) := by decide +kernel
theorem dX11_init_70 : decode cX11_init 70 = .ok (.aload_n 0, 1) := by decide +kernel
theorem dX11_init_71 : decode cX11_init 71 = .ok (.new 51, 3) := by decide +kernel
theorem dX11_init_74 : decode cX11_init 74 = .ok (.dup, 1) := by decide +kernel
theorem dX11_init_75 : decode cX11_init 75 = .ok (.aload_n 0, 1) := by decide +kernel
theorem dX11_init_76 : decode cX11_init 76 = .ok (.getfield 40, 3) := by decide +kernel
theorem dX11_init_79 : decode cX11_init 79 = .ok (.invokespecial 53, 3) := by decide +kernel
theorem dX11_init_82 : decode cX11_init 82 = .ok (.putfield 56, 3) := by decide +kernel
theorem dX11_init_85 : decode cX11_init 85 = .ok (.aload_n 0, 1) := by decide +kernel
theorem dX11_init_86 : decode cX11_init 86 = .ok (.new 60, 3) := by decide +kernel
theorem dX11_init_89 : decode cX11_init 89 = .ok (.dup, 1) := by decide +kernel
theorem dX11_init_90 : decode cX11_init 90 = .ok (.aload_n 0, 1) := by decide +kernel
theorem dX11_init_91 : decode cX11_init 91 = .ok (.getfield 10, 3) := by decide +kernel
theorem dX11_init_94 : decode cX11_init 94 = .ok (.aload_n 0, 1) := by decide +kernel
theorem dX11_init_95 : decode cX11_init 95 = .ok (.getfield 19, 3) := by decide +kernel
theorem dX11_init_98 : decode cX11_init 98 = .ok (.aload_n 0, 1) := by decide +kernel
theorem dX11_init_99 : decode cX11_init 99 = .ok (.getfield 26, 3) := by decide +kernel
theorem dX11_init_102 : decode cX11_init 102 = .ok (.aload_n 0, 1) := by decide +kernel
theorem dX11_init_103 : decode cX11_init 103 = .ok (.getfield 33, 3) := by decide +kernel
theorem dX11_init_106 : decode cX11_init 106 = .ok (.aload_n 0, 1) := by decide +kernel
theorem dX11_init_107 : decode cX11_init 107 = .ok (.getfield 47, 3) := by decide +kernel
theorem dX11_init_110 : decode cX11_init 110 = .ok (.invokespecial 62, 3) := by decide +kernel
theorem dX11_init_113 : decode cX11_init 113 = .ok (.putfield 65, 3) := by decide +kernel
theorem dX11_init_116 : decode cX11_init 116 = .ok (.aload_n 0, 1) := by decide +kernel
theorem dX11_init_117 : decode cX11_init 117 = .ok (.new 69, 3) := by decide +kernel
theorem dX11_init_120 : decode cX11_init 120 = .ok (.dup, 1) := by decide +kernel
theorem dX11_init_121 : decode cX11_init 121 = .ok (.invokespecial 71, 3) := by decide +kernel
theorem dX11_init_124 : decode cX11_init 124 = .ok (.putfield 72, 3) := by decide +kernel
theorem dX11_init_127 : decode cX11_init 127 = .ok (.aload_n 0, 1) := by decide +kernel
theorem dX11_init_128 : decode cX11_init 128 = .ok (.new 76, 3) := by decide +kernel
theorem dX11_init_131 : decode cX11_init 131 = .ok (.dup, 1) := by decide +kernel
theorem dX11_init_132 : decode cX11_init 132 = .ok (.aload_n 0, 1) := by decide +kernel
theorem dX11_init_133 : decode cX11_init 133 = .ok (.getfield 10, 3) := by decide +kernel
theorem dX11_init_136 : decode cX11_init 136 = .ok (.aload_n 0, 1) := by decide +kernel
theorem dX11_init_137 : decode cX11_init 137 = .ok (.getfield 19, 3) := by decide +kernel
theorem dX11_init_140 : decode cX11_init 140 = .ok (.aload_n 0, 1) := by decide +kernel
theorem dX11_init_141 : decode cX11_init 141 = .ok (.getfield 65, 3) := by decide +kernel
theorem dX11_init_144 : decode cX11_init 144 = .ok (.aload_n 0, 1) := by decide +kernel
theorem dX11_init_145 : decode cX11_init 145 = .ok (.getfield 72, 3) := by decide +kernel
theorem dX11_init_148 : decode cX11_init 148 = .ok (.invokespecial 78, 3) := by decide +kernel
theorem dX11_init_151 : decode cX11_init 151 = .ok (.putfield 81, 3) := by decide +kernel
theorem dX11_init_154 : decode cX11_init 154 = .ok (.aload_n 0, 1) := by decide +kernel
theorem dX11_init_155 : decode cX11_init 155 = .ok (.iconst 0, 1) := by decide +kernel
theorem dX11_init_156 : decode cX11_init 156 = .ok (.putfield 85, 3) := by decide +kernel
theorem dX11_init_159 : decode cX11_init 159 = .ok (.return_, 1) := by decide +kernel
theorem dX11_clock_0 : decode cX11_clock 0 = .ok (.iload_n 1, 1) := by decide +kernel
theorem dX11_clock_1 : decode cX11_clock 1 = .ok (.invokestatic 89, 3) := by decide +kernel
theorem dX11_clock_4 : decode cX11_clock 4 = .ok (.ifCond .eq 11, 3) := by decide +kernel
theorem dX11_clock_7 : decode cX11_clock 7 = .ok (.iload_n 1, 1) := by decide +kernel
theorem dX11_clock_8 : decode cX11_clock 8 = .ok (.aload_n 0, 1) := by decide +kernel
theorem dX11_clock_9 : decode cX11_clock 9 = .ok (.getfield 85, 3) := by decide +kernel
theorem dX11_clock_12 : decode cX11_clock 12 = .ok (.if_icmp .ge 5, 3) := by decide +kernel
theorem dX11_clock_15 : decode cX11_clock 15 = .ok (.iconst 0, 1) := by decide +kernel
theorem dX11_clock_16 : decode cX11_clock 16 = .ok (.ireturn, 1) := by decide +kernel
theorem dX11_clock_17 : decode cX11_clock 17 = .ok (.aload_n 0, 1) := by decide +kernel
theorem dX11_clock_18 : decode cX11_clock 18 = .ok (.iload_n 1, 1) := by decide +kernel
theorem dX11_clock_19 : decode cX11_clock 19 = .ok (.putfield 85, 3) := by decide +kernel
theorem dX11_clock_22 : decode cX11_clock 22 = .ok (.iconst 1, 1) := by decide +kernel
theorem dX11_clock_23 : decode cX11_clock 23 = .ok (.ireturn, 1) := by decide +kernel
theorem dX11_child_0 : decode cX11_child 0 = .ok (.aload_n 0, 1) := by decide +kernel
theorem dX11_child_1 : decode cX11_child 1 = .ok (.getfield 10, 3) := by decide +kernel
theorem dX11_child_4 : decode cX11_child 4 = .ok (.iload_n 1, 1) := by decide +kernel
theorem dX11_child_5 : decode cX11_child 5 = .ok (.invokevirtual 93, 3) := by decide +kernel
theorem dX11_child_8 : decode cX11_child 8 = .ok (.ireturn, 1) := by decide +kernel
theorem dX11_home_0 : decode cX11_home 0 = .ok (.aload_n 0, 1) := by decide +kernel
theorem dX11_home_1 : decode cX11_home 1 = .ok (.getfield 19, 3) := by decide +kernel
theorem dX11_home_4 : decode cX11_home 4 = .ok (.iload_n 1, 1) := by decide +kernel
theorem dX11_home_5 : decode cX11_home 5 = .ok (.invokevirtual 97, 3) := by decide +kernel
theorem dX11_home_8 : decode cX11_home 8 = .ok (.ireturn, 1) := by decide +kernel
theorem dX11_fact_0 : decode cX11_fact 0 = .ok (.aload_n 0, 1) := by decide +kernel
theorem dX11_fact_1 : decode cX11_fact 1 = .ok (.iload_n 1, 1) := by decide +kernel
theorem dX11_fact_2 : decode cX11_fact 2 = .ok (.iload_n 2, 1) := by decide +kernel
theorem dX11_fact_3 : decode cX11_fact 3 = .ok (.invokevirtual 98, 3) := by decide +kernel
theorem dX11_fact_6 : decode cX11_fact 6 = .ok (.ifCond .eq 22, 3) := by decide +kernel
theorem dX11_fact_9 : decode cX11_fact 9 = .ok (.iload_n 3, 1) := by decide +kernel
theorem dX11_fact_10 : decode cX11_fact 10 = .ok (.invokestatic 102, 3) := by decide +kernel
theorem dX11_fact_13 : decode cX11_fact 13 = .ok (.ifCond .eq 15, 3) := by decide +kernel
theorem dX11_fact_16 : decode cX11_fact 16 = .ok (.iload 5, 2) := by decide +kernel
theorem dX11_fact_18 : decode cX11_fact 18 = .ok (.invokestatic 89, 3) := by decide +kernel
theorem dX11_fact_21 : decode cX11_fact 21 = .ok (.ifCond .eq 7, 3) := by decide +kernel
theorem dX11_fact_24 : decode cX11_fact 24 = .ok (.iconst 1, 1) := by decide +kernel
theorem dX11_fact_25 : decode cX11_fact 25 = .ok (.goto 4, 3) := by decide +kernel
theorem dX11_fact_28 : decode cX11_fact 28 = .ok (.iconst 0, 1) := by decide +kernel
theorem dX11_fact_29 : decode cX11_fact 29 = .ok (.istore 6, 2) := by decide +kernel
theorem dX11_fact_31 : decode cX11_fact 31 = .ok (.iload 6, 2) := by decide +kernel
theorem dX11_fact_33 : decode cX11_fact 33 = .ok (.ifCond .eq 19, 3) := by decide +kernel
theorem dX11_fact_36 : decode cX11_fact 36 = .ok (.iload 4, 2) := by decide +kernel
theorem dX11_fact_38 : decode cX11_fact 38 = .ok (.sipush (-999), 3) := by decide +kernel
theorem dX11_fact_41 : decode cX11_fact 41 = .ok (.if_icmp .lt 11, 3) := by decide +kernel
theorem dX11_fact_44 : decode cX11_fact 44 = .ok (.iload 4, 2) := by decide +kernel
theorem dX11_fact_46 : decode cX11_fact 46 = .ok (.sipush 9999, 3) := by decide +kernel
theorem dX11_fact_49 : decode cX11_fact 49 = .ok (.if_icmp .le 5, 3) := by decide +kernel
theorem dX11_fact_52 : decode cX11_fact 52 = .ok (.iconst (-1), 1) := by decide +kernel
theorem dX11_fact_53 : decode cX11_fact 53 = .ok (.ireturn, 1) := by decide +kernel
theorem dX11_fact_54 : decode cX11_fact 54 = .ok (.aload_n 0, 1) := by decide +kernel
theorem dX11_fact_55 : decode cX11_fact 55 = .ok (.getfield 33, 3) := by decide +kernel
theorem dX11_fact_58 : decode cX11_fact 58 = .ok (.iload_n 1, 1) := by decide +kernel
theorem dX11_fact_59 : decode cX11_fact 59 = .ok (.iload_n 3, 1) := by decide +kernel
theorem dX11_fact_60 : decode cX11_fact 60 = .ok (.invokestatic 105, 3) := by decide +kernel
theorem dX11_fact_63 : decode cX11_fact 63 = .ok (.iload_n 2, 1) := by decide +kernel
theorem dX11_fact_64 : decode cX11_fact 64 = .ok (.iload 4, 2) := by decide +kernel
theorem dX11_fact_66 : decode cX11_fact 66 = .ok (.iload 5, 2) := by decide +kernel
theorem dX11_fact_68 : decode cX11_fact 68 = .ok (.aload_n 0, 1) := by decide +kernel
theorem dX11_fact_69 : decode cX11_fact 69 = .ok (.getfield 85, 3) := by decide +kernel
theorem dX11_fact_72 : decode cX11_fact 72 = .ok (.invokevirtual 109, 3) := by decide +kernel
theorem dX11_fact_75 : decode cX11_fact 75 = .ok (.ireturn, 1) := by decide +kernel
theorem dX11_value_0 : decode cX11_value 0 = .ok (.aload_n 0, 1) := by decide +kernel
theorem dX11_value_1 : decode cX11_value 1 = .ok (.iload_n 1, 1) := by decide +kernel
theorem dX11_value_2 : decode cX11_value 2 = .ok (.iload_n 2, 1) := by decide +kernel
theorem dX11_value_3 : decode cX11_value 3 = .ok (.invokevirtual 98, 3) := by decide +kernel
theorem dX11_value_6 : decode cX11_value 6 = .ok (.ifCond .eq 26, 3) := by decide +kernel
theorem dX11_value_9 : decode cX11_value 9 = .ok (.iload_n 3, 1) := by decide +kernel
theorem dX11_value_10 : decode cX11_value 10 = .ok (.invokestatic 102, 3) := by decide +kernel
theorem dX11_value_13 : decode cX11_value 13 = .ok (.ifCond .eq 19, 3) := by decide +kernel
theorem dX11_value_16 : decode cX11_value 16 = .ok (.iload 4, 2) := by decide +kernel
theorem dX11_value_18 : decode cX11_value 18 = .ok (.invokestatic 89, 3) := by decide +kernel
theorem dX11_value_21 : decode cX11_value 21 = .ok (.ifCond .eq 11, 3) := by decide +kernel
theorem dX11_value_24 : decode cX11_value 24 = .ok (.iload 5, 2) := by decide +kernel
theorem dX11_value_26 : decode cX11_value 26 = .ok (.invokestatic 89, 3) := by decide +kernel
theorem dX11_value_29 : decode cX11_value 29 = .ok (.ifCond .ne 7, 3) := by decide +kernel
theorem dX11_value_32 : decode cX11_value 32 = .ok (.sipush (-1000), 3) := by decide +kernel
theorem dX11_value_35 : decode cX11_value 35 = .ok (.ireturn, 1) := by decide +kernel
theorem dX11_value_36 : decode cX11_value 36 = .ok (.aload_n 0, 1) := by decide +kernel
theorem dX11_value_37 : decode cX11_value 37 = .ok (.getfield 33, 3) := by decide +kernel
theorem dX11_value_40 : decode cX11_value 40 = .ok (.iload_n 1, 1) := by decide +kernel
theorem dX11_value_41 : decode cX11_value 41 = .ok (.iload_n 3, 1) := by decide +kernel
theorem dX11_value_42 : decode cX11_value 42 = .ok (.invokestatic 105, 3) := by decide +kernel
theorem dX11_value_45 : decode cX11_value 45 = .ok (.iload_n 2, 1) := by decide +kernel
theorem dX11_value_46 : decode cX11_value 46 = .ok (.iload 4, 2) := by decide +kernel
theorem dX11_value_48 : decode cX11_value 48 = .ok (.iload 5, 2) := by decide +kernel
theorem dX11_value_50 : decode cX11_value 50 = .ok (.invokevirtual 112, 3) := by decide +kernel
theorem dX11_value_53 : decode cX11_value 53 = .ok (.ireturn, 1) := by decide +kernel
theorem dX11_paper_0 : decode cX11_paper 0 = .ok (.aload_n 0, 1) := by decide +kernel
theorem dX11_paper_1 : decode cX11_paper 1 = .ok (.getfield 19, 3) := by decide +kernel
theorem dX11_paper_4 : decode cX11_paper 4 = .ok (.iload_n 1, 1) := by decide +kernel
theorem dX11_paper_5 : decode cX11_paper 5 = .ok (.invokevirtual 116, 3) := by decide +kernel
theorem dX11_paper_8 : decode cX11_paper 8 = .ok (.ifCond .eq 22, 3) := by decide +kernel
theorem dX11_paper_11 : decode cX11_paper 11 = .ok (.iload_n 2, 1) := by decide +kernel
theorem dX11_paper_12 : decode cX11_paper 12 = .ok (.invokestatic 89, 3) := by decide +kernel
theorem dX11_paper_15 : decode cX11_paper 15 = .ok (.ifCond .eq 15, 3) := by decide +kernel
theorem dX11_paper_18 : decode cX11_paper 18 = .ok (.iload_n 3, 1) := by decide +kernel
theorem dX11_paper_19 : decode cX11_paper 19 = .ok (.invokestatic 89, 3) := by decide +kernel
theorem dX11_paper_22 : decode cX11_paper 22 = .ok (.ifCond .eq 8, 3) := by decide +kernel
theorem dX11_paper_25 : decode cX11_paper 25 = .ok (.iload_n 2, 1) := by decide +kernel
theorem dX11_paper_26 : decode cX11_paper 26 = .ok (.iload_n 3, 1) := by decide +kernel
theorem dX11_paper_27 : decode cX11_paper 27 = .ok (.if_icmp .le 5, 3) := by decide +kernel
theorem dX11_paper_30 : decode cX11_paper 30 = .ok (.iconst (-1), 1) := by decide +kernel
theorem dX11_paper_31 : decode cX11_paper 31 = .ok (.ireturn, 1) := by decide +kernel
theorem dX11_paper_32 : decode cX11_paper 32 = .ok (.aload_n 0, 1) := by decide +kernel
theorem dX11_paper_33 : decode cX11_paper 33 = .ok (.getfield 26, 3) := by decide +kernel
theorem dX11_paper_36 : decode cX11_paper 36 = .ok (.iload_n 1, 1) := by decide +kernel
theorem dX11_paper_37 : decode cX11_paper 37 = .ok (.iload_n 2, 1) := by decide +kernel
theorem dX11_paper_38 : decode cX11_paper 38 = .ok (.iload_n 3, 1) := by decide +kernel
theorem dX11_paper_39 : decode cX11_paper 39 = .ok (.invokevirtual 119, 3) := by decide +kernel
theorem dX11_paper_42 : decode cX11_paper 42 = .ok (.ireturn, 1) := by decide +kernel
theorem dX11_until_0 : decode cX11_until 0 = .ok (.aload_n 0, 1) := by decide +kernel
theorem dX11_until_1 : decode cX11_until 1 = .ok (.getfield 19, 3) := by decide +kernel
theorem dX11_until_4 : decode cX11_until 4 = .ok (.iload_n 1, 1) := by decide +kernel
theorem dX11_until_5 : decode cX11_until 5 = .ok (.invokevirtual 116, 3) := by decide +kernel
theorem dX11_until_8 : decode cX11_until 8 = .ok (.ifCond .eq 22, 3) := by decide +kernel
theorem dX11_until_11 : decode cX11_until 11 = .ok (.iload_n 2, 1) := by decide +kernel
theorem dX11_until_12 : decode cX11_until 12 = .ok (.invokestatic 89, 3) := by decide +kernel
theorem dX11_until_15 : decode cX11_until 15 = .ok (.ifCond .eq 15, 3) := by decide +kernel
theorem dX11_until_18 : decode cX11_until 18 = .ok (.aload_n 0, 1) := by decide +kernel
theorem dX11_until_19 : decode cX11_until 19 = .ok (.getfield 26, 3) := by decide +kernel
theorem dX11_until_22 : decode cX11_until 22 = .ok (.iload_n 1, 1) := by decide +kernel
theorem dX11_until_23 : decode cX11_until 23 = .ok (.iload_n 2, 1) := by decide +kernel
theorem dX11_until_24 : decode cX11_until 24 = .ok (.invokevirtual 122, 3) := by decide +kernel
theorem dX11_until_27 : decode cX11_until 27 = .ok (.goto 4, 3) := by decide +kernel
theorem dX11_until_30 : decode cX11_until 30 = .ok (.iconst (-1), 1) := by decide +kernel
theorem dX11_until_31 : decode cX11_until 31 = .ok (.ireturn, 1) := by decide +kernel
theorem dX11_close_0 : decode cX11_close 0 = .ok (.aload_n 0, 1) := by decide +kernel
theorem dX11_close_1 : decode cX11_close 1 = .ok (.getfield 19, 3) := by decide +kernel
theorem dX11_close_4 : decode cX11_close 4 = .ok (.iload_n 1, 1) := by decide +kernel
theorem dX11_close_5 : decode cX11_close 5 = .ok (.invokevirtual 116, 3) := by decide +kernel
theorem dX11_close_8 : decode cX11_close 8 = .ok (.ifCond .eq 15, 3) := by decide +kernel
theorem dX11_close_11 : decode cX11_close 11 = .ok (.iload_n 2, 1) := by decide +kernel
theorem dX11_close_12 : decode cX11_close 12 = .ok (.iconst (-1), 1) := by decide +kernel
theorem dX11_close_13 : decode cX11_close 13 = .ok (.if_icmp .eq 12, 3) := by decide +kernel
theorem dX11_close_16 : decode cX11_close 16 = .ok (.iload_n 2, 1) := by decide +kernel
theorem dX11_close_17 : decode cX11_close 17 = .ok (.invokestatic 89, 3) := by decide +kernel
theorem dX11_close_20 : decode cX11_close 20 = .ok (.ifCond .ne 5, 3) := by decide +kernel
theorem dX11_close_23 : decode cX11_close 23 = .ok (.iconst 0, 1) := by decide +kernel
theorem dX11_close_24 : decode cX11_close 24 = .ok (.ireturn, 1) := by decide +kernel
theorem dX11_close_25 : decode cX11_close 25 = .ok (.aload_n 0, 1) := by decide +kernel
theorem dX11_close_26 : decode cX11_close 26 = .ok (.getfield 19, 3) := by decide +kernel
theorem dX11_close_29 : decode cX11_close 29 = .ok (.iload_n 1, 1) := by decide +kernel
theorem dX11_close_30 : decode cX11_close 30 = .ok (.iload_n 2, 1) := by decide +kernel
theorem dX11_close_31 : decode cX11_close 31 = .ok (.invokevirtual 126, 3) := by decide +kernel
theorem dX11_close_34 : decode cX11_close 34 = .ok (.iconst 1, 1) := by decide +kernel
theorem dX11_close_35 : decode cX11_close 35 = .ok (.ireturn, 1) := by decide +kernel
theorem dX11_need_0 : decode cX11_need 0 = .ok (.aload_n 0, 1) := by decide +kernel
theorem dX11_need_1 : decode cX11_need 1 = .ok (.getfield 10, 3) := by decide +kernel
theorem dX11_need_4 : decode cX11_need 4 = .ok (.iload_n 1, 1) := by decide +kernel
theorem dX11_need_5 : decode cX11_need 5 = .ok (.invokevirtual 130, 3) := by decide +kernel
theorem dX11_need_8 : decode cX11_need 8 = .ok (.ifCond .eq 26, 3) := by decide +kernel
theorem dX11_need_11 : decode cX11_need 11 = .ok (.iload_n 2, 1) := by decide +kernel
theorem dX11_need_12 : decode cX11_need 12 = .ok (.invokestatic 89, 3) := by decide +kernel
theorem dX11_need_15 : decode cX11_need 15 = .ok (.ifCond .eq 19, 3) := by decide +kernel
theorem dX11_need_18 : decode cX11_need 18 = .ok (.iload_n 3, 1) := by decide +kernel
theorem dX11_need_19 : decode cX11_need 19 = .ok (.invokestatic 89, 3) := by decide +kernel
theorem dX11_need_22 : decode cX11_need 22 = .ok (.ifCond .eq 12, 3) := by decide +kernel
theorem dX11_need_25 : decode cX11_need 25 = .ok (.iload_n 2, 1) := by decide +kernel
theorem dX11_need_26 : decode cX11_need 26 = .ok (.iload_n 3, 1) := by decide +kernel
theorem dX11_need_27 : decode cX11_need 27 = .ok (.if_icmp .gt 7, 3) := by decide +kernel
theorem dX11_need_30 : decode cX11_need 30 = .ok (.iconst 1, 1) := by decide +kernel
theorem dX11_need_31 : decode cX11_need 31 = .ok (.goto 4, 3) := by decide +kernel
theorem dX11_need_34 : decode cX11_need 34 = .ok (.iconst 0, 1) := by decide +kernel
theorem dX11_need_35 : decode cX11_need 35 = .ok (.istore 5, 2) := by decide +kernel
theorem dX11_need_37 : decode cX11_need 37 = .ok (.iload 5, 2) := by decide +kernel
theorem dX11_need_39 : decode cX11_need 39 = .ok (.ifCond .eq 13, 3) := by decide +kernel
theorem dX11_need_42 : decode cX11_need 42 = .ok (.iload_n 3, 1) := by decide +kernel
theorem dX11_need_43 : decode cX11_need 43 = .ok (.iload_n 2, 1) := by decide +kernel
theorem dX11_need_44 : decode cX11_need 44 = .ok (.isub, 1) := by decide +kernel
theorem dX11_need_45 : decode cX11_need 45 = .ok (.iconst 1, 1) := by decide +kernel
theorem dX11_need_46 : decode cX11_need 46 = .ok (.iadd, 1) := by decide +kernel
theorem dX11_need_47 : decode cX11_need 47 = .ok (.bipush 60, 2) := by decide +kernel
theorem dX11_need_49 : decode cX11_need 49 = .ok (.if_icmp .le 5, 3) := by decide +kernel
theorem dX11_need_52 : decode cX11_need 52 = .ok (.iconst 0, 1) := by decide +kernel
theorem dX11_need_53 : decode cX11_need 53 = .ok (.ireturn, 1) := by decide +kernel
theorem dX11_need_54 : decode cX11_need 54 = .ok (.aload_n 0, 1) := by decide +kernel
theorem dX11_need_55 : decode cX11_need 55 = .ok (.getfield 10, 3) := by decide +kernel
theorem dX11_need_58 : decode cX11_need 58 = .ok (.iload_n 1, 1) := by decide +kernel
theorem dX11_need_59 : decode cX11_need 59 = .ok (.iload_n 2, 1) := by decide +kernel
theorem dX11_need_60 : decode cX11_need 60 = .ok (.iload_n 3, 1) := by decide +kernel
theorem dX11_need_61 : decode cX11_need 61 = .ok (.iload 4, 2) := by decide +kernel
theorem dX11_need_63 : decode cX11_need 63 = .ok (.invokevirtual 131, 3) := by decide +kernel
theorem dX11_need_66 : decode cX11_need 66 = .ok (.iconst 1, 1) := by decide +kernel
theorem dX11_need_67 : decode cX11_need 67 = .ok (.ireturn, 1) := by decide +kernel
theorem dX11_ends_0 : decode cX11_ends 0 = .ok (.aload_n 0, 1) := by decide +kernel
theorem dX11_ends_1 : decode cX11_ends 1 = .ok (.getfield 10, 3) := by decide +kernel
theorem dX11_ends_4 : decode cX11_ends 4 = .ok (.iload_n 1, 1) := by decide +kernel
theorem dX11_ends_5 : decode cX11_ends 5 = .ok (.invokevirtual 135, 3) := by decide +kernel
theorem dX11_ends_8 : decode cX11_ends 8 = .ok (.ireturn, 1) := by decide +kernel
theorem dX11_feed_0 : decode cX11_feed 0 = .ok (.aload_n 0, 1) := by decide +kernel
theorem dX11_feed_1 : decode cX11_feed 1 = .ok (.getfield 40, 3) := by decide +kernel
theorem dX11_feed_4 : decode cX11_feed 4 = .ok (.invokevirtual 138, 3) := by decide +kernel
theorem dX11_feed_7 : decode cX11_feed 7 = .ok (.bipush 20, 2) := by decide +kernel
theorem dX11_feed_9 : decode cX11_feed 9 = .ok (.iadd, 1) := by decide +kernel
theorem dX11_feed_10 : decode cX11_feed 10 = .ok (.sipush 500, 3) := by decide +kernel
theorem dX11_feed_13 : decode cX11_feed 13 = .ok (.if_icmp .le 5, 3) := by decide +kernel
theorem dX11_feed_16 : decode cX11_feed 16 = .ok (.iconst (-1), 1) := by decide +kernel
theorem dX11_feed_17 : decode cX11_feed 17 = .ok (.ireturn, 1) := by decide +kernel
theorem dX11_feed_18 : decode cX11_feed 18 = .ok (.aload_n 0, 1) := by decide +kernel
theorem dX11_feed_19 : decode cX11_feed 19 = .ok (.getfield 40, 3) := by decide +kernel
theorem dX11_feed_22 : decode cX11_feed 22 = .ok (.iload_n 1, 1) := by decide +kernel
theorem dX11_feed_23 : decode cX11_feed 23 = .ok (.invokevirtual 142, 3) := by decide +kernel
theorem dX11_feed_26 : decode cX11_feed 26 = .ok (.aload_n 0, 1) := by decide +kernel
theorem dX11_feed_27 : decode cX11_feed 27 = .ok (.getfield 40, 3) := by decide +kernel
theorem dX11_feed_30 : decode cX11_feed 30 = .ok (.iload_n 2, 1) := by decide +kernel
theorem dX11_feed_31 : decode cX11_feed 31 = .ok (.invokevirtual 142, 3) := by decide +kernel
theorem dX11_feed_34 : decode cX11_feed 34 = .ok (.aload_n 0, 1) := by decide +kernel
theorem dX11_feed_35 : decode cX11_feed 35 = .ok (.getfield 40, 3) := by decide +kernel
theorem dX11_feed_38 : decode cX11_feed 38 = .ok (.iload_n 3, 1) := by decide +kernel
theorem dX11_feed_39 : decode cX11_feed 39 = .ok (.invokevirtual 142, 3) := by decide +kernel
theorem dX11_feed_42 : decode cX11_feed 42 = .ok (.aload_n 0, 1) := by decide +kernel
theorem dX11_feed_43 : decode cX11_feed 43 = .ok (.getfield 40, 3) := by decide +kernel
theorem dX11_feed_46 : decode cX11_feed 46 = .ok (.iload 4, 2) := by decide +kernel
theorem dX11_feed_48 : decode cX11_feed 48 = .ok (.invokevirtual 142, 3) := by decide +kernel
theorem dX11_feed_51 : decode cX11_feed 51 = .ok (.aload_n 0, 1) := by decide +kernel
theorem dX11_feed_52 : decode cX11_feed 52 = .ok (.getfield 40, 3) := by decide +kernel
theorem dX11_feed_55 : decode cX11_feed 55 = .ok (.iload 5, 2) := by decide +kernel
theorem dX11_feed_57 : decode cX11_feed 57 = .ok (.invokevirtual 142, 3) := by decide +kernel
theorem dX11_feed_60 : decode cX11_feed 60 = .ok (.aload_n 0, 1) := by decide +kernel
theorem dX11_feed_61 : decode cX11_feed 61 = .ok (.getfield 40, 3) := by decide +kernel
theorem dX11_feed_64 : decode cX11_feed 64 = .ok (.invokevirtual 138, 3) := by decide +kernel
theorem dX11_feed_67 : decode cX11_feed 67 = .ok (.ireturn, 1) := by decide +kernel
theorem dX11_end_0 : decode cX11_end 0 = .ok (.aload_n 0, 1) := by decide +kernel
theorem dX11_end_1 : decode cX11_end 1 = .ok (.getfield 40, 3) := by decide +kernel
theorem dX11_end_4 : decode cX11_end 4 = .ok (.iload_n 1, 1) := by decide +kernel
theorem dX11_end_5 : decode cX11_end 5 = .ok (.invokevirtual 145, 3) := by decide +kernel
theorem dX11_end_8 : decode cX11_end 8 = .ok (.ifCond .eq 7, 3) := by decide +kernel
theorem dX11_end_11 : decode cX11_end 11 = .ok (.iload_n 1, 1) := by decide +kernel
theorem dX11_end_12 : decode cX11_end 12 = .ok (.goto 4, 3) := by decide +kernel
theorem dX11_end_15 : decode cX11_end 15 = .ok (.iconst (-1), 1) := by decide +kernel
theorem dX11_end_16 : decode cX11_end 16 = .ok (.ireturn, 1) := by decide +kernel
theorem dX11_rules_0 : decode cX11_rules 0 = .ok (.aload_n 0, 1) := by decide +kernel
theorem dX11_rules_1 : decode cX11_rules 1 = .ok (.getfield 56, 3) := by decide +kernel
theorem dX11_rules_4 : decode cX11_rules 4 = .ok (.invokevirtual 148, 3) := by decide +kernel
theorem dX11_rules_7 : decode cX11_rules 7 = .ok (.istore_n 1, 1) := by decide +kernel
theorem dX11_rules_8 : decode cX11_rules 8 = .ok (.aload_n 0, 1) := by decide +kernel
theorem dX11_rules_9 : decode cX11_rules 9 = .ok (.getfield 40, 3) := by decide +kernel
theorem dX11_rules_12 : decode cX11_rules 12 = .ok (.iconst 0, 1) := by decide +kernel
theorem dX11_rules_13 : decode cX11_rules 13 = .ok (.invokevirtual 145, 3) := by decide +kernel
theorem dX11_rules_16 : decode cX11_rules 16 = .ok (.pop, 1) := by decide +kernel
theorem dX11_rules_17 : decode cX11_rules 17 = .ok (.iload_n 1, 1) := by decide +kernel
theorem dX11_rules_18 : decode cX11_rules 18 = .ok (.iconst (-1), 1) := by decide +kernel
theorem dX11_rules_19 : decode cX11_rules 19 = .ok (.if_icmp .eq 8, 3) := by decide +kernel
theorem dX11_rules_22 : decode cX11_rules 22 = .ok (.bipush (-2), 2) := by decide +kernel
theorem dX11_rules_24 : decode cX11_rules 24 = .ok (.iload_n 1, 1) := by decide +kernel
theorem dX11_rules_25 : decode cX11_rules 25 = .ok (.isub, 1) := by decide +kernel
theorem dX11_rules_26 : decode cX11_rules 26 = .ok (.ireturn, 1) := by decide +kernel
theorem dX11_rules_27 : decode cX11_rules 27 = .ok (.aload_n 0, 1) := by decide +kernel
theorem dX11_rules_28 : decode cX11_rules 28 = .ok (.getfield 47, 3) := by decide +kernel
theorem dX11_rules_31 : decode cX11_rules 31 = .ok (.aload_n 0, 1) := by decide +kernel
theorem dX11_rules_32 : decode cX11_rules 32 = .ok (.getfield 56, 3) := by decide +kernel
theorem dX11_rules_35 : decode cX11_rules 35 = .ok (.invokevirtual 151, 3) := by decide +kernel
theorem dX11_rules_38 : decode cX11_rules 38 = .ok (.invokevirtual 155, 3) := by decide +kernel
theorem dX11_rules_41 : decode cX11_rules 41 = .ok (.aload_n 0, 1) := by decide +kernel
theorem dX11_rules_42 : decode cX11_rules 42 = .ok (.getfield 47, 3) := by decide +kernel
theorem dX11_rules_45 : decode cX11_rules 45 = .ok (.invokevirtual 159, 3) := by decide +kernel
theorem dX11_rules_48 : decode cX11_rules 48 = .ok (.ireturn, 1) := by decide +kernel
theorem dX11_bars_0 : decode cX11_bars 0 = .ok (.aload_n 0, 1) := by decide +kernel
theorem dX11_bars_1 : decode cX11_bars 1 = .ok (.getfield 65, 3) := by decide +kernel
theorem dX11_bars_4 : decode cX11_bars 4 = .ok (.iload_n 1, 1) := by decide +kernel
theorem dX11_bars_5 : decode cX11_bars 5 = .ok (.iload_n 2, 1) := by decide +kernel
theorem dX11_bars_6 : decode cX11_bars 6 = .ok (.aload_n 0, 1) := by decide +kernel
theorem dX11_bars_7 : decode cX11_bars 7 = .ok (.getfield 85, 3) := by decide +kernel
theorem dX11_bars_10 : decode cX11_bars 10 = .ok (.invokevirtual 160, 3) := by decide +kernel
theorem dX11_bars_13 : decode cX11_bars 13 = .ok (.ireturn, 1) := by decide +kernel
theorem dX11_barred_0 : decode cX11_barred 0 = .ok (.aload_n 0, 1) := by decide +kernel
theorem dX11_barred_1 : decode cX11_barred 1 = .ok (.getfield 65, 3) := by decide +kernel
theorem dX11_barred_4 : decode cX11_barred 4 = .ok (.iload_n 1, 1) := by decide +kernel
theorem dX11_barred_5 : decode cX11_barred 5 = .ok (.iload_n 2, 1) := by decide +kernel
theorem dX11_barred_6 : decode cX11_barred 6 = .ok (.aload_n 0, 1) := by decide +kernel
theorem dX11_barred_7 : decode cX11_barred 7 = .ok (.getfield 85, 3) := by decide +kernel
theorem dX11_barred_10 : decode cX11_barred 10 = .ok (.invokevirtual 160, 3) := by decide +kernel
theorem dX11_barred_13 : decode cX11_barred 13 = .ok (.pop, 1) := by decide +kernel
theorem dX11_barred_14 : decode cX11_barred 14 = .ok (.aload_n 0, 1) := by decide +kernel
theorem dX11_barred_15 : decode cX11_barred 15 = .ok (.getfield 65, 3) := by decide +kernel
theorem dX11_barred_18 : decode cX11_barred 18 = .ok (.invokevirtual 163, 3) := by decide +kernel
theorem dX11_barred_21 : decode cX11_barred 21 = .ok (.ireturn, 1) := by decide +kernel
theorem dX11_wish_0 : decode cX11_wish 0 = .ok (.aload_n 0, 1) := by decide +kernel
theorem dX11_wish_1 : decode cX11_wish 1 = .ok (.getfield 65, 3) := by decide +kernel
theorem dX11_wish_4 : decode cX11_wish 4 = .ok (.iload_n 1, 1) := by decide +kernel
theorem dX11_wish_5 : decode cX11_wish 5 = .ok (.iload_n 2, 1) := by decide +kernel
theorem dX11_wish_6 : decode cX11_wish 6 = .ok (.aload_n 0, 1) := by decide +kernel
theorem dX11_wish_7 : decode cX11_wish 7 = .ok (.getfield 85, 3) := by decide +kernel
theorem dX11_wish_10 : decode cX11_wish 10 = .ok (.invokevirtual 166, 3) := by decide +kernel
theorem dX11_wish_13 : decode cX11_wish 13 = .ok (.ireturn, 1) := by decide +kernel
theorem dX11_place_0 : decode cX11_place 0 = .ok (.aload_n 0, 1) := by decide +kernel
theorem dX11_place_1 : decode cX11_place 1 = .ok (.getfield 81, 3) := by decide +kernel
theorem dX11_place_4 : decode cX11_place 4 = .ok (.iload_n 1, 1) := by decide +kernel
theorem dX11_place_5 : decode cX11_place 5 = .ok (.aload_n 0, 1) := by decide +kernel
theorem dX11_place_6 : decode cX11_place 6 = .ok (.getfield 85, 3) := by decide +kernel
theorem dX11_place_9 : decode cX11_place 9 = .ok (.invokevirtual 169, 3) := by decide +kernel
theorem dX11_place_12 : decode cX11_place 12 = .ok (.aload_n 0, 1) := by decide +kernel
theorem dX11_place_13 : decode cX11_place 13 = .ok (.getfield 81, 3) := by decide +kernel
theorem dX11_place_16 : decode cX11_place 16 = .ok (.invokevirtual 173, 3) := by decide +kernel
theorem dX11_place_19 : decode cX11_place 19 = .ok (.aload_n 0, 1) := by decide +kernel
theorem dX11_place_20 : decode cX11_place 20 = .ok (.getfield 81, 3) := by decide +kernel
theorem dX11_place_23 : decode cX11_place 23 = .ok (.invokevirtual 176, 3) := by decide +kernel
theorem dX11_place_26 : decode cX11_place 26 = .ok (.aload_n 0, 1) := by decide +kernel
theorem dX11_place_27 : decode cX11_place 27 = .ok (.getfield 72, 3) := by decide +kernel
theorem dX11_place_30 : decode cX11_place 30 = .ok (.iconst 1, 1) := by decide +kernel
theorem dX11_place_31 : decode cX11_place 31 = .ok (.invokevirtual 179, 3) := by decide +kernel
theorem dX11_place_34 : decode cX11_place 34 = .ok (.ireturn, 1) := by decide +kernel
theorem dX11_at_0 : decode cX11_at 0 = .ok (.aload_n 0, 1) := by decide +kernel
theorem dX11_at_1 : decode cX11_at 1 = .ok (.getfield 72, 3) := by decide +kernel
theorem dX11_at_4 : decode cX11_at 4 = .ok (.iload_n 1, 1) := by decide +kernel
theorem dX11_at_5 : decode cX11_at 5 = .ok (.invokevirtual 182, 3) := by decide +kernel
theorem dX11_at_8 : decode cX11_at 8 = .ok (.ireturn, 1) := by decide +kernel
theorem dX11_placed_0 : decode cX11_placed 0 = .ok (.aload_n 0, 1) := by decide +kernel
theorem dX11_placed_1 : decode cX11_placed 1 = .ok (.getfield 72, 3) := by decide +kernel
theorem dX11_placed_4 : decode cX11_placed 4 = .ok (.iload_n 1, 1) := by decide +kernel
theorem dX11_placed_5 : decode cX11_placed 5 = .ok (.invokevirtual 179, 3) := by decide +kernel
theorem dX11_placed_8 : decode cX11_placed 8 = .ok (.ireturn, 1) := by decide +kernel
theorem dX11_beds_0 : decode cX11_beds 0 = .ok (.aload_n 0, 1) := by decide +kernel
theorem dX11_beds_1 : decode cX11_beds 1 = .ok (.getfield 19, 3) := by decide +kernel
theorem dX11_beds_4 : decode cX11_beds 4 = .ok (.iload_n 1, 1) := by decide +kernel
theorem dX11_beds_5 : decode cX11_beds 5 = .ok (.invokevirtual 116, 3) := by decide +kernel
theorem dX11_beds_8 : decode cX11_beds 8 = .ok (.ifCond .eq 10, 3) := by decide +kernel
theorem dX11_beds_11 : decode cX11_beds 11 = .ok (.iload_n 2, 1) := by decide +kernel
theorem dX11_beds_12 : decode cX11_beds 12 = .ok (.invokestatic 89, 3) := by decide +kernel
theorem dX11_beds_15 : decode cX11_beds 15 = .ok (.ifCond .ne 5, 3) := by decide +kernel
theorem dX11_beds_18 : decode cX11_beds 18 = .ok (.iconst (-1), 1) := by decide +kernel
theorem dX11_beds_19 : decode cX11_beds 19 = .ok (.ireturn, 1) := by decide +kernel
theorem dX11_beds_20 : decode cX11_beds 20 = .ok (.iconst 0, 1) := by decide +kernel
theorem dX11_beds_21 : decode cX11_beds 21 = .ok (.istore_n 3, 1) := by decide +kernel
theorem dX11_beds_22 : decode cX11_beds 22 = .ok (.iconst 0, 1) := by decide +kernel
theorem dX11_beds_23 : decode cX11_beds 23 = .ok (.istore 4, 2) := by decide +kernel
theorem dX11_beds_25 : decode cX11_beds 25 = .ok (.iload 4, 2) := by decide +kernel
theorem dX11_beds_27 : decode cX11_beds 27 = .ok (.aload_n 0, 1) := by decide +kernel
theorem dX11_beds_28 : decode cX11_beds 28 = .ok (.getfield 10, 3) := by decide +kernel
theorem dX11_beds_31 : decode cX11_beds 31 = .ok (.invokevirtual 185, 3) := by decide +kernel
theorem dX11_beds_34 : decode cX11_beds 34 = .ok (.if_icmp .ge 38, 3) := by decide +kernel
theorem dX11_beds_37 : decode cX11_beds 37 = .ok (.aload_n 0, 1) := by decide +kernel
theorem dX11_beds_38 : decode cX11_beds 38 = .ok (.getfield 72, 3) := by decide +kernel
theorem dX11_beds_41 : decode cX11_beds 41 = .ok (.iload 4, 2) := by decide +kernel
theorem dX11_beds_43 : decode cX11_beds 43 = .ok (.invokevirtual 182, 3) := by decide +kernel
theorem dX11_beds_46 : decode cX11_beds 46 = .ok (.iload_n 1, 1) := by decide +kernel
theorem dX11_beds_47 : decode cX11_beds 47 = .ok (.if_icmp .ne 19, 3) := by decide +kernel
theorem dX11_beds_50 : decode cX11_beds 50 = .ok (.aload_n 0, 1) := by decide +kernel
theorem dX11_beds_51 : decode cX11_beds 51 = .ok (.getfield 10, 3) := by decide +kernel
theorem dX11_beds_54 : decode cX11_beds 54 = .ok (.iload 4, 2) := by decide +kernel
theorem dX11_beds_56 : decode cX11_beds 56 = .ok (.iload_n 2, 1) := by decide +kernel
theorem dX11_beds_57 : decode cX11_beds 57 = .ok (.invokevirtual 186, 3) := by decide +kernel
theorem dX11_beds_60 : decode cX11_beds 60 = .ok (.ifCond .eq 6, 3) := by decide +kernel
theorem dX11_beds_63 : decode cX11_beds 63 = .ok (.iinc 3 1, 3) := by decide +kernel
theorem dX11_beds_66 : decode cX11_beds 66 = .ok (.iinc 4 1, 3) := by decide +kernel
theorem dX11_beds_69 : decode cX11_beds 69 = .ok (.goto (-44), 3) := by decide +kernel
theorem dX11_beds_72 : decode cX11_beds 72 = .ok (.iload_n 3, 1) := by decide +kernel
theorem dX11_beds_73 : decode cX11_beds 73 = .ok (.ireturn, 1) := by decide +kernel
theorem dX11_review_0 : decode cX11_review 0 = .ok (.aload_n 0, 1) := by decide +kernel
theorem dX11_review_1 : decode cX11_review 1 = .ok (.getfield 72, 3) := by decide +kernel
theorem dX11_review_4 : decode cX11_review 4 = .ok (.iload_n 1, 1) := by decide +kernel
theorem dX11_review_5 : decode cX11_review 5 = .ok (.invokevirtual 182, 3) := by decide +kernel
theorem dX11_review_8 : decode cX11_review 8 = .ok (.iconst (-1), 1) := by decide +kernel
theorem dX11_review_9 : decode cX11_review 9 = .ok (.if_icmp .ne 7, 3) := by decide +kernel
theorem dX11_review_12 : decode cX11_review 12 = .ok (.iconst (-1), 1) := by decide +kernel
theorem dX11_review_13 : decode cX11_review 13 = .ok (.goto 12, 3) := by decide +kernel
theorem dX11_review_16 : decode cX11_review 16 = .ok (.aload_n 0, 1) := by decide +kernel
theorem dX11_review_17 : decode cX11_review 17 = .ok (.getfield 10, 3) := by decide +kernel
theorem dX11_review_20 : decode cX11_review 20 = .ok (.iload_n 1, 1) := by decide +kernel
theorem dX11_review_21 : decode cX11_review 21 = .ok (.iload_n 2, 1) := by decide +kernel
theorem dX11_review_22 : decode cX11_review 22 = .ok (.invokevirtual 190, 3) := by decide +kernel
theorem dX11_review_25 : decode cX11_review 25 = .ok (.ireturn, 1) := by decide +kernel
theorem dX11_reviews_0 : decode cX11_reviews 0 = .ok (.iload_n 1, 1) := by decide +kernel
theorem dX11_reviews_1 : decode cX11_reviews 1 = .ok (.invokestatic 89, 3) := by decide +kernel
theorem dX11_reviews_4 : decode cX11_reviews 4 = .ok (.ifCond .ne 5, 3) := by decide +kernel
theorem dX11_reviews_7 : decode cX11_reviews 7 = .ok (.iconst (-1), 1) := by decide +kernel
theorem dX11_reviews_8 : decode cX11_reviews 8 = .ok (.ireturn, 1) := by decide +kernel
theorem dX11_reviews_9 : decode cX11_reviews 9 = .ok (.iconst 0, 1) := by decide +kernel
theorem dX11_reviews_10 : decode cX11_reviews 10 = .ok (.istore_n 2, 1) := by decide +kernel
theorem dX11_reviews_11 : decode cX11_reviews 11 = .ok (.iconst 0, 1) := by decide +kernel
theorem dX11_reviews_12 : decode cX11_reviews 12 = .ok (.istore_n 3, 1) := by decide +kernel
theorem dX11_reviews_13 : decode cX11_reviews 13 = .ok (.iload_n 3, 1) := by decide +kernel
theorem dX11_reviews_14 : decode cX11_reviews 14 = .ok (.aload_n 0, 1) := by decide +kernel
theorem dX11_reviews_15 : decode cX11_reviews 15 = .ok (.getfield 10, 3) := by decide +kernel
theorem dX11_reviews_18 : decode cX11_reviews 18 = .ok (.invokevirtual 185, 3) := by decide +kernel
theorem dX11_reviews_21 : decode cX11_reviews 21 = .ok (.if_icmp .ge 36, 3) := by decide +kernel
theorem dX11_reviews_24 : decode cX11_reviews 24 = .ok (.aload_n 0, 1) := by decide +kernel
theorem dX11_reviews_25 : decode cX11_reviews 25 = .ok (.getfield 72, 3) := by decide +kernel
theorem dX11_reviews_28 : decode cX11_reviews 28 = .ok (.iload_n 3, 1) := by decide +kernel
theorem dX11_reviews_29 : decode cX11_reviews 29 = .ok (.invokevirtual 182, 3) := by decide +kernel
theorem dX11_reviews_32 : decode cX11_reviews 32 = .ok (.iconst (-1), 1) := by decide +kernel
theorem dX11_reviews_33 : decode cX11_reviews 33 = .ok (.if_icmp .eq 18, 3) := by decide +kernel
theorem dX11_reviews_36 : decode cX11_reviews 36 = .ok (.aload_n 0, 1) := by decide +kernel
theorem dX11_reviews_37 : decode cX11_reviews 37 = .ok (.getfield 10, 3) := by decide +kernel
theorem dX11_reviews_40 : decode cX11_reviews 40 = .ok (.iload_n 3, 1) := by decide +kernel
theorem dX11_reviews_41 : decode cX11_reviews 41 = .ok (.iload_n 1, 1) := by decide +kernel
theorem dX11_reviews_42 : decode cX11_reviews 42 = .ok (.invokevirtual 193, 3) := by decide +kernel
theorem dX11_reviews_45 : decode cX11_reviews 45 = .ok (.ifCond .eq 6, 3) := by decide +kernel
theorem dX11_reviews_48 : decode cX11_reviews 48 = .ok (.iinc 2 1, 3) := by decide +kernel
theorem dX11_reviews_51 : decode cX11_reviews 51 = .ok (.iinc 3 1, 3) := by decide +kernel
theorem dX11_reviews_54 : decode cX11_reviews 54 = .ok (.goto (-41), 3) := by decide +kernel
theorem dX11_reviews_57 : decode cX11_reviews 57 = .ok (.iload_n 2, 1) := by decide +kernel
theorem dX11_reviews_58 : decode cX11_reviews 58 = .ok (.ireturn, 1) := by decide +kernel
theorem dX11_count_0 : decode cX11_count 0 = .ok (.iload_n 1, 1) := by decide +kernel
theorem dX11_count_1 : decode cX11_count 1 = .ok (.tableswitch 96 0 6 #[43, 51, 59, 67, 75, 83, 88], 43) := by decide +kernel
theorem dX11_count_44 : decode cX11_count 44 = .ok (.aload_n 0, 1) := by decide +kernel
theorem dX11_count_45 : decode cX11_count 45 = .ok (.getfield 10, 3) := by decide +kernel
theorem dX11_count_48 : decode cX11_count 48 = .ok (.invokevirtual 185, 3) := by decide +kernel
theorem dX11_count_51 : decode cX11_count 51 = .ok (.ireturn, 1) := by decide +kernel
theorem dX11_count_52 : decode cX11_count 52 = .ok (.aload_n 0, 1) := by decide +kernel
theorem dX11_count_53 : decode cX11_count 53 = .ok (.getfield 19, 3) := by decide +kernel
theorem dX11_count_56 : decode cX11_count 56 = .ok (.invokevirtual 196, 3) := by decide +kernel
theorem dX11_count_59 : decode cX11_count 59 = .ok (.ireturn, 1) := by decide +kernel
theorem dX11_count_60 : decode cX11_count 60 = .ok (.aload_n 0, 1) := by decide +kernel
theorem dX11_count_61 : decode cX11_count 61 = .ok (.getfield 33, 3) := by decide +kernel
theorem dX11_count_64 : decode cX11_count 64 = .ok (.invokevirtual 197, 3) := by decide +kernel
theorem dX11_count_67 : decode cX11_count 67 = .ok (.ireturn, 1) := by decide +kernel
theorem dX11_count_68 : decode cX11_count 68 = .ok (.aload_n 0, 1) := by decide +kernel
theorem dX11_count_69 : decode cX11_count 69 = .ok (.getfield 26, 3) := by decide +kernel
theorem dX11_count_72 : decode cX11_count 72 = .ok (.invokevirtual 198, 3) := by decide +kernel
theorem dX11_count_75 : decode cX11_count 75 = .ok (.ireturn, 1) := by decide +kernel
theorem dX11_count_76 : decode cX11_count 76 = .ok (.aload_n 0, 1) := by decide +kernel
theorem dX11_count_77 : decode cX11_count 77 = .ok (.getfield 47, 3) := by decide +kernel
theorem dX11_count_80 : decode cX11_count 80 = .ok (.invokevirtual 159, 3) := by decide +kernel
theorem dX11_count_83 : decode cX11_count 83 = .ok (.ireturn, 1) := by decide +kernel
theorem dX11_count_84 : decode cX11_count 84 = .ok (.aload_n 0, 1) := by decide +kernel
theorem dX11_count_85 : decode cX11_count 85 = .ok (.getfield 85, 3) := by decide +kernel
theorem dX11_count_88 : decode cX11_count 88 = .ok (.ireturn, 1) := by decide +kernel
theorem dX11_count_89 : decode cX11_count 89 = .ok (.aload_n 0, 1) := by decide +kernel
theorem dX11_count_90 : decode cX11_count 90 = .ok (.getfield 40, 3) := by decide +kernel
theorem dX11_count_93 : decode cX11_count 93 = .ok (.invokevirtual 138, 3) := by decide +kernel
theorem dX11_count_96 : decode cX11_count 96 = .ok (.ireturn, 1) := by decide +kernel
theorem dX11_count_97 : decode cX11_count 97 = .ok (.iconst (-1), 1) := by decide +kernel
theorem dX11_count_98 : decode cX11_count 98 = .ok (.ireturn, 1) := by decide +kernel
theorem dX11_isThere_0 : decode cX11_isThere 0 = .ok (.iload_n 1, 1) := by decide +kernel
theorem dX11_isThere_1 : decode cX11_isThere 1 = .ok (.ifCond .eq 14, 3) := by decide +kernel
theorem dX11_isThere_4 : decode cX11_isThere 4 = .ok (.aload_n 0, 1) := by decide +kernel
theorem dX11_isThere_5 : decode cX11_isThere 5 = .ok (.getfield 19, 3) := by decide +kernel
theorem dX11_isThere_8 : decode cX11_isThere 8 = .ok (.iload_n 2, 1) := by decide +kernel
theorem dX11_isThere_9 : decode cX11_isThere 9 = .ok (.invokevirtual 116, 3) := by decide +kernel
theorem dX11_isThere_12 : decode cX11_isThere 12 = .ok (.goto 11, 3) := by decide +kernel
theorem dX11_isThere_15 : decode cX11_isThere 15 = .ok (.aload_n 0, 1) := by decide +kernel
theorem dX11_isThere_16 : decode cX11_isThere 16 = .ok (.getfield 10, 3) := by decide +kernel
theorem dX11_isThere_19 : decode cX11_isThere 19 = .ok (.iload_n 2, 1) := by decide +kernel
theorem dX11_isThere_20 : decode cX11_isThere 20 = .ok (.invokevirtual 130, 3) := by decide +kernel
theorem dX11_isThere_23 : decode cX11_isThere 23 = .ok (.ireturn, 1) := by decide +kernel
theorem dX11_isDay_0 : decode cX11_isDay 0 = .ok (.iload_n 0, 1) := by decide +kernel
theorem dX11_isDay_1 : decode cX11_isDay 1 = .ok (.ifCond .lt 14, 3) := by decide +kernel
theorem dX11_isDay_4 : decode cX11_isDay 4 = .ok (.iload_n 0, 1) := by decide +kernel
theorem dX11_isDay_5 : decode cX11_isDay 5 = .ok (.sipush 999, 3) := by decide +kernel
theorem dX11_isDay_8 : decode cX11_isDay 8 = .ok (.if_icmp .gt 7, 3) := by decide +kernel
theorem dX11_isDay_11 : decode cX11_isDay 11 = .ok (.iconst 1, 1) := by decide +kernel
theorem dX11_isDay_12 : decode cX11_isDay 12 = .ok (.goto 4, 3) := by decide +kernel
theorem dX11_isDay_15 : decode cX11_isDay 15 = .ok (.iconst 0, 1) := by decide +kernel
theorem dX11_isDay_16 : decode cX11_isDay 16 = .ok (.ireturn, 1) := by decide +kernel
theorem dX11_isField_0 : decode cX11_isField 0 = .ok (.iload_n 0, 1) := by decide +kernel
theorem dX11_isField_1 : decode cX11_isField 1 = .ok (.ifCond .lt 13, 3) := by decide +kernel
theorem dX11_isField_4 : decode cX11_isField 4 = .ok (.iload_n 0, 1) := by decide +kernel
theorem dX11_isField_5 : decode cX11_isField 5 = .ok (.bipush 8, 2) := by decide +kernel
theorem dX11_isField_7 : decode cX11_isField 7 = .ok (.if_icmp .ge 7, 3) := by decide +kernel
theorem dX11_isField_10 : decode cX11_isField 10 = .ok (.iconst 1, 1) := by decide +kernel
theorem dX11_isField_11 : decode cX11_isField 11 = .ok (.goto 4, 3) := by decide +kernel
theorem dX11_isField_14 : decode cX11_isField 14 = .ok (.iconst 0, 1) := by decide +kernel
theorem dX11_isField_15 : decode cX11_isField 15 = .ok (.ireturn, 1) := by decide +kernel
theorem dX11_slotOf_0 : decode cX11_slotOf 0 = .ok (.iload_n 0, 1) := by decide +kernel
theorem dX11_slotOf_1 : decode cX11_slotOf 1 = .ok (.ifCond .eq 10, 3) := by decide +kernel
theorem dX11_slotOf_4 : decode cX11_slotOf 4 = .ok (.bipush 8, 2) := by decide +kernel
theorem dX11_slotOf_6 : decode cX11_slotOf 6 = .ok (.iload_n 1, 1) := by decide +kernel
theorem dX11_slotOf_7 : decode cX11_slotOf 7 = .ok (.iadd, 1) := by decide +kernel
theorem dX11_slotOf_8 : decode cX11_slotOf 8 = .ok (.goto 4, 3) := by decide +kernel
theorem dX11_slotOf_11 : decode cX11_slotOf 11 = .ok (.iload_n 1, 1) := by decide +kernel
theorem dX11_slotOf_12 : decode cX11_slotOf 12 = .ok (.ireturn, 1) := by decide +kernel
theorem dJ6_bitCount_0f7a4_0 : decode cJ6_bitCount_0f7a4 0 = .ok (.iload_n 0, 1) := by decide +kernel
theorem dJ6_bitCount_0f7a4_1 : decode cJ6_bitCount_0f7a4 1 = .ok (.iload_n 0, 1) := by decide +kernel
theorem dJ6_bitCount_0f7a4_2 : decode cJ6_bitCount_0f7a4 2 = .ok (.iconst 1, 1) := by decide +kernel
theorem dJ6_bitCount_0f7a4_3 : decode cJ6_bitCount_0f7a4 3 = .ok (.iushr, 1) := by decide +kernel
theorem dJ6_bitCount_0f7a4_4 : decode cJ6_bitCount_0f7a4 4 = .ok (.ldc_w 265, 3) := by decide +kernel
theorem dJ6_bitCount_0f7a4_7 : decode cJ6_bitCount_0f7a4 7 = .ok (.iand, 1) := by decide +kernel
theorem dJ6_bitCount_0f7a4_8 : decode cJ6_bitCount_0f7a4 8 = .ok (.isub, 1) := by decide +kernel
theorem dJ6_bitCount_0f7a4_9 : decode cJ6_bitCount_0f7a4 9 = .ok (.istore_n 0, 1) := by decide +kernel
theorem dJ6_bitCount_0f7a4_10 : decode cJ6_bitCount_0f7a4 10 = .ok (.iload_n 0, 1) := by decide +kernel
theorem dJ6_bitCount_0f7a4_11 : decode cJ6_bitCount_0f7a4 11 = .ok (.ldc_w 266, 3) := by decide +kernel
theorem dJ6_bitCount_0f7a4_14 : decode cJ6_bitCount_0f7a4 14 = .ok (.iand, 1) := by decide +kernel
theorem dJ6_bitCount_0f7a4_15 : decode cJ6_bitCount_0f7a4 15 = .ok (.iload_n 0, 1) := by decide +kernel
theorem dJ6_bitCount_0f7a4_16 : decode cJ6_bitCount_0f7a4 16 = .ok (.iconst 2, 1) := by decide +kernel
theorem dJ6_bitCount_0f7a4_17 : decode cJ6_bitCount_0f7a4 17 = .ok (.iushr, 1) := by decide +kernel
theorem dJ6_bitCount_0f7a4_18 : decode cJ6_bitCount_0f7a4 18 = .ok (.ldc_w 266, 3) := by decide +kernel
theorem dJ6_bitCount_0f7a4_21 : decode cJ6_bitCount_0f7a4 21 = .ok (.iand, 1) := by decide +kernel
theorem dJ6_bitCount_0f7a4_22 : decode cJ6_bitCount_0f7a4 22 = .ok (.iadd, 1) := by decide +kernel
theorem dJ6_bitCount_0f7a4_23 : decode cJ6_bitCount_0f7a4 23 = .ok (.istore_n 0, 1) := by decide +kernel
theorem dJ6_bitCount_0f7a4_24 : decode cJ6_bitCount_0f7a4 24 = .ok (.iload_n 0, 1) := by decide +kernel
theorem dJ6_bitCount_0f7a4_25 : decode cJ6_bitCount_0f7a4 25 = .ok (.iload_n 0, 1) := by decide +kernel
theorem dJ6_bitCount_0f7a4_26 : decode cJ6_bitCount_0f7a4 26 = .ok (.iconst 4, 1) := by decide +kernel
theorem dJ6_bitCount_0f7a4_27 : decode cJ6_bitCount_0f7a4 27 = .ok (.iushr, 1) := by decide +kernel
theorem dJ6_bitCount_0f7a4_28 : decode cJ6_bitCount_0f7a4 28 = .ok (.iadd, 1) := by decide +kernel
theorem dJ6_bitCount_0f7a4_29 : decode cJ6_bitCount_0f7a4 29 = .ok (.ldc_w 267, 3) := by decide +kernel
theorem dJ6_bitCount_0f7a4_32 : decode cJ6_bitCount_0f7a4 32 = .ok (.iand, 1) := by decide +kernel
theorem dJ6_bitCount_0f7a4_33 : decode cJ6_bitCount_0f7a4 33 = .ok (.istore_n 0, 1) := by decide +kernel
theorem dJ6_bitCount_0f7a4_34 : decode cJ6_bitCount_0f7a4 34 = .ok (.iload_n 0, 1) := by decide +kernel
theorem dJ6_bitCount_0f7a4_35 : decode cJ6_bitCount_0f7a4 35 = .ok (.iload_n 0, 1) := by decide +kernel
theorem dJ6_bitCount_0f7a4_36 : decode cJ6_bitCount_0f7a4 36 = .ok (.bipush 8, 2) := by decide +kernel
theorem dJ6_bitCount_0f7a4_38 : decode cJ6_bitCount_0f7a4 38 = .ok (.iushr, 1) := by decide +kernel
theorem dJ6_bitCount_0f7a4_39 : decode cJ6_bitCount_0f7a4 39 = .ok (.iadd, 1) := by decide +kernel
theorem dJ6_bitCount_0f7a4_40 : decode cJ6_bitCount_0f7a4 40 = .ok (.istore_n 0, 1) := by decide +kernel
theorem dJ6_bitCount_0f7a4_41 : decode cJ6_bitCount_0f7a4 41 = .ok (.iload_n 0, 1) := by decide +kernel
theorem dJ6_bitCount_0f7a4_42 : decode cJ6_bitCount_0f7a4 42 = .ok (.iload_n 0, 1) := by decide +kernel
theorem dJ6_bitCount_0f7a4_43 : decode cJ6_bitCount_0f7a4 43 = .ok (.bipush 16, 2) := by decide +kernel
theorem dJ6_bitCount_0f7a4_45 : decode cJ6_bitCount_0f7a4 45 = .ok (.iushr, 1) := by decide +kernel
theorem dJ6_bitCount_0f7a4_46 : decode cJ6_bitCount_0f7a4 46 = .ok (.iadd, 1) := by decide +kernel
theorem dJ6_bitCount_0f7a4_47 : decode cJ6_bitCount_0f7a4 47 = .ok (.istore_n 0, 1) := by decide +kernel
theorem dJ6_bitCount_0f7a4_48 : decode cJ6_bitCount_0f7a4 48 = .ok (.iload_n 0, 1) := by decide +kernel
theorem dJ6_bitCount_0f7a4_49 : decode cJ6_bitCount_0f7a4 49 = .ok (.bipush 63, 2) := by decide +kernel
theorem dJ6_bitCount_0f7a4_51 : decode cJ6_bitCount_0f7a4 51 = .ok (.iand, 1) := by decide +kernel
theorem dJ6_bitCount_0f7a4_52 : decode cJ6_bitCount_0f7a4 52 = .ok (.ireturn, 1) := by decide +kernel
theorem dJ9_max_7cf53_0 : decode cJ9_max_7cf53 0 = .ok (.iload_n 0, 1) := by decide +kernel
theorem dJ9_max_7cf53_1 : decode cJ9_max_7cf53 1 = .ok (.iload_n 1, 1) := by decide +kernel
theorem dJ9_max_7cf53_2 : decode cJ9_max_7cf53 2 = .ok (.if_icmp .lt 7, 3) := by decide +kernel
theorem dJ9_max_7cf53_5 : decode cJ9_max_7cf53 5 = .ok (.iload_n 0, 1) := by decide +kernel
theorem dJ9_max_7cf53_6 : decode cJ9_max_7cf53 6 = .ok (.goto 4, 3) := by decide +kernel
theorem dJ9_max_7cf53_9 : decode cJ9_max_7cf53 9 = .ok (.iload_n 1, 1) := by decide +kernel
theorem dJ9_max_7cf53_10 : decode cJ9_max_7cf53 10 = .ok (.ireturn, 1) := by decide +kernel
theorem dJ9_min_7cf53_0 : decode cJ9_min_7cf53 0 = .ok (.iload_n 0, 1) := by decide +kernel
theorem dJ9_min_7cf53_1 : decode cJ9_min_7cf53 1 = .ok (.iload_n 1, 1) := by decide +kernel
theorem dJ9_min_7cf53_2 : decode cJ9_min_7cf53 2 = .ok (.if_icmp .gt 7, 3) := by decide +kernel
theorem dJ9_min_7cf53_5 : decode cJ9_min_7cf53 5 = .ok (.iload_n 0, 1) := by decide +kernel
theorem dJ9_min_7cf53_6 : decode cJ9_min_7cf53 6 = .ok (.goto 4, 3) := by decide +kernel
theorem dJ9_min_7cf53_9 : decode cJ9_min_7cf53 9 = .ok (.iload_n 1, 1) := by decide +kernel
theorem dJ9_min_7cf53_10 : decode cJ9_min_7cf53 10 = .ok (.ireturn, 1) := by decide +kernel
theorem dJ0_length_8abf5_0 : decode cJ0_length_8abf5 0 = .ok (.aload_n 0, 1) := by decide +kernel
theorem dJ0_length_8abf5_1 : decode cJ0_length_8abf5 1 = .ok (.getfield 9, 3) := by decide +kernel
theorem dJ0_length_8abf5_4 : decode cJ0_length_8abf5 4 = .ok (.arraylength, 1) := by decide +kernel
theorem dJ0_length_8abf5_5 : decode cJ0_length_8abf5 5 = .ok (.aload_n 0, 1) := by decide +kernel
theorem dJ0_length_8abf5_6 : decode cJ0_length_8abf5 6 = .ok (.invokevirtual 335, 3) := by decide +kernel
theorem dJ0_length_8abf5_9 : decode cJ0_length_8abf5 9 = .ok (.ishr, 1) := by decide +kernel
theorem dJ0_length_8abf5_10 : decode cJ0_length_8abf5 10 = .ok (.ireturn, 1) := by decide +kernel
theorem dJ0_charAt_5068e_0 : decode cJ0_charAt_5068e 0 = .ok (.aload_n 0, 1) := by decide +kernel
theorem dJ0_charAt_5068e_1 : decode cJ0_charAt_5068e 1 = .ok (.invokevirtual 492, 3) := by decide +kernel
theorem dJ0_charAt_5068e_4 : decode cJ0_charAt_5068e 4 = .ok (.ifCond .eq 12, 3) := by decide +kernel
theorem dJ0_charAt_5068e_7 : decode cJ0_charAt_5068e 7 = .ok (.aload_n 0, 1) := by decide +kernel
theorem dJ0_charAt_5068e_8 : decode cJ0_charAt_5068e 8 = .ok (.getfield 9, 3) := by decide +kernel
theorem dJ0_charAt_5068e_11 : decode cJ0_charAt_5068e 11 = .ok (.iload_n 1, 1) := by decide +kernel
theorem dJ0_charAt_5068e_12 : decode cJ0_charAt_5068e 12 = .ok (.invokestatic 495, 3) := by decide +kernel
theorem dJ0_charAt_5068e_15 : decode cJ0_charAt_5068e 15 = .ok (.ireturn, 1) := by decide +kernel
theorem dJ0_charAt_5068e_16 : decode cJ0_charAt_5068e 16 = .ok (.aload_n 0, 1) := by decide +kernel
theorem dJ0_charAt_5068e_17 : decode cJ0_charAt_5068e 17 = .ok (.getfield 9, 3) := by decide +kernel
theorem dJ0_charAt_5068e_20 : decode cJ0_charAt_5068e 20 = .ok (.iload_n 1, 1) := by decide +kernel
theorem dJ0_charAt_5068e_21 : decode cJ0_charAt_5068e 21 = .ok (.invokestatic 498, 3) := by decide +kernel
theorem dJ0_charAt_5068e_24 : decode cJ0_charAt_5068e 24 = .ok (.ireturn, 1) := by decide +kernel
theorem dJ0_coder_7d493_0 : decode cJ0_coder_7d493 0 = .ok (.getstatic 38, 3) := by decide +kernel
theorem dJ0_coder_7d493_3 : decode cJ0_coder_7d493 3 = .ok (.ifCond .eq 10, 3) := by decide +kernel
theorem dJ0_coder_7d493_6 : decode cJ0_coder_7d493 6 = .ok (.aload_n 0, 1) := by decide +kernel
theorem dJ0_coder_7d493_7 : decode cJ0_coder_7d493 7 = .ok (.getfield 15, 3) := by decide +kernel
theorem dJ0_coder_7d493_10 : decode cJ0_coder_7d493 10 = .ok (.goto 4, 3) := by decide +kernel
theorem dJ0_coder_7d493_13 : decode cJ0_coder_7d493 13 = .ok (.iconst 1, 1) := by decide +kernel
theorem dJ0_coder_7d493_14 : decode cJ0_coder_7d493 14 = .ok (.ireturn, 1) := by decide +kernel
theorem dJ0_isLatin1_aae02_0 : decode cJ0_isLatin1_aae02 0 = .ok (.getstatic 38, 3) := by decide +kernel
theorem dJ0_isLatin1_aae02_3 : decode cJ0_isLatin1_aae02 3 = .ok (.ifCond .eq 14, 3) := by decide +kernel
theorem dJ0_isLatin1_aae02_6 : decode cJ0_isLatin1_aae02 6 = .ok (.aload_n 0, 1) := by decide +kernel
theorem dJ0_isLatin1_aae02_7 : decode cJ0_isLatin1_aae02 7 = .ok (.getfield 15, 3) := by decide +kernel
theorem dJ0_isLatin1_aae02_10 : decode cJ0_isLatin1_aae02 10 = .ok (.ifCond .ne 7, 3) := by decide +kernel
theorem dJ0_isLatin1_aae02_13 : decode cJ0_isLatin1_aae02 13 = .ok (.iconst 1, 1) := by decide +kernel
theorem dJ0_isLatin1_aae02_14 : decode cJ0_isLatin1_aae02 14 = .ok (.goto 4, 3) := by decide +kernel
theorem dJ0_isLatin1_aae02_17 : decode cJ0_isLatin1_aae02 17 = .ok (.iconst 0, 1) := by decide +kernel
theorem dJ0_isLatin1_aae02_18 : decode cJ0_isLatin1_aae02 18 = .ok (.ireturn, 1) := by decide +kernel
theorem dJ0_checkIndex_df160_0 : decode cJ0_checkIndex_df160 0 = .ok (.iload_n 0, 1) := by decide +kernel
theorem dJ0_checkIndex_df160_1 : decode cJ0_checkIndex_df160 1 = .ok (.iload_n 1, 1) := by decide +kernel
theorem dJ0_checkIndex_df160_2 : decode cJ0_checkIndex_df160 2 = .ok (.getstatic 1053, 3) := by decide +kernel
theorem dJ0_checkIndex_df160_5 : decode cJ0_checkIndex_df160 5 = .ok (.invokestatic 1059, 3) := by decide +kernel
theorem dJ0_checkIndex_df160_8 : decode cJ0_checkIndex_df160 8 = .ok (.pop, 1) := by decide +kernel
theorem dJ0_checkIndex_df160_9 : decode cJ0_checkIndex_df160 9 = .ok (.return_, 1) := by decide +kernel
theorem dJ1_charAt_3b067_0 : decode cJ1_charAt_3b067 0 = .ok (.iload_n 1, 1) := by decide +kernel
theorem dJ1_charAt_3b067_1 : decode cJ1_charAt_3b067 1 = .ok (.aload_n 0, 1) := by decide +kernel
theorem dJ1_charAt_3b067_2 : decode cJ1_charAt_3b067 2 = .ok (.arraylength, 1) := by decide +kernel
theorem dJ1_charAt_3b067_3 : decode cJ1_charAt_3b067 3 = .ok (.invokestatic 9, 3) := by decide +kernel
theorem dJ1_charAt_3b067_6 : decode cJ1_charAt_3b067 6 = .ok (.aload_n 0, 1) := by decide +kernel
theorem dJ1_charAt_3b067_7 : decode cJ1_charAt_3b067 7 = .ok (.iload_n 1, 1) := by decide +kernel
theorem dJ1_charAt_3b067_8 : decode cJ1_charAt_3b067 8 = .ok (.baload, 1) := by decide +kernel
theorem dJ1_charAt_3b067_9 : decode cJ1_charAt_3b067 9 = .ok (.sipush 255, 3) := by decide +kernel
theorem dJ1_charAt_3b067_12 : decode cJ1_charAt_3b067 12 = .ok (.iand, 1) := by decide +kernel
theorem dJ1_charAt_3b067_13 : decode cJ1_charAt_3b067 13 = .ok (.i2c, 1) := by decide +kernel
theorem dJ1_charAt_3b067_14 : decode cJ1_charAt_3b067 14 = .ok (.ireturn, 1) := by decide +kernel
theorem dJ2_getChar_3b067_0 : decode cJ2_getChar_3b067 0 = .ok (.getstatic 44, 3) := by decide +kernel
theorem dJ2_getChar_3b067_3 : decode cJ2_getChar_3b067 3 = .ok (.ifCond .ne 25, 3) := by decide +kernel
theorem dJ2_getChar_3b067_6 : decode cJ2_getChar_3b067 6 = .ok (.iload_n 1, 1) := by decide +kernel
theorem dJ2_getChar_3b067_7 : decode cJ2_getChar_3b067 7 = .ok (.ifCond .lt 11, 3) := by decide +kernel
theorem dJ2_getChar_3b067_10 : decode cJ2_getChar_3b067 10 = .ok (.iload_n 1, 1) := by decide +kernel
theorem dJ2_getChar_3b067_11 : decode cJ2_getChar_3b067 11 = .ok (.aload_n 0, 1) := by decide +kernel
theorem dJ2_getChar_3b067_12 : decode cJ2_getChar_3b067 12 = .ok (.invokestatic 48, 3) := by decide +kernel
theorem dJ2_getChar_3b067_15 : decode cJ2_getChar_3b067 15 = .ok (.if_icmp .lt 13, 3) := by decide +kernel
theorem dJ2_getChar_3b067_18 : decode cJ2_getChar_3b067 18 = .ok (.new 52, 3) := by decide +kernel
theorem dJ2_getChar_3b067_21 : decode cJ2_getChar_3b067 21 = .ok (.dup, 1) := by decide +kernel
theorem dJ2_getChar_3b067_22 : decode cJ2_getChar_3b067 22 = .ok (.ldc 54, 2) := by decide +kernel
theorem dJ2_getChar_3b067_24 : decode cJ2_getChar_3b067 24 = .ok (.invokespecial 56, 3) := by decide +kernel
theorem dJ2_getChar_3b067_27 : decode cJ2_getChar_3b067 27 = .ok (.athrow, 1) := by decide +kernel
theorem dJ2_getChar_3b067_28 : decode cJ2_getChar_3b067 28 = .ok (.iload_n 1, 1) := by decide +kernel
theorem dJ2_getChar_3b067_29 : decode cJ2_getChar_3b067 29 = .ok (.iconst 1, 1) := by decide +kernel
theorem dJ2_getChar_3b067_30 : decode cJ2_getChar_3b067 30 = .ok (.ishl, 1) := by decide +kernel
theorem dJ2_getChar_3b067_31 : decode cJ2_getChar_3b067 31 = .ok (.istore_n 1, 1) := by decide +kernel
theorem dJ2_getChar_3b067_32 : decode cJ2_getChar_3b067 32 = .ok (.aload_n 0, 1) := by decide +kernel
theorem dJ2_getChar_3b067_33 : decode cJ2_getChar_3b067 33 = .ok (.iload_n 1, 1) := by decide +kernel
theorem dJ2_getChar_3b067_34 : decode cJ2_getChar_3b067 34 = .ok (.iinc 1 1, 3) := by decide +kernel
theorem dJ2_getChar_3b067_37 : decode cJ2_getChar_3b067 37 = .ok (.baload, 1) := by decide +kernel
theorem dJ2_getChar_3b067_38 : decode cJ2_getChar_3b067 38 = .ok (.sipush 255, 3) := by decide +kernel
theorem dJ2_getChar_3b067_41 : decode cJ2_getChar_3b067 41 = .ok (.iand, 1) := by decide +kernel
theorem dJ2_getChar_3b067_42 : decode cJ2_getChar_3b067 42 = .ok (.getstatic 59, 3) := by decide +kernel
theorem dJ2_getChar_3b067_45 : decode cJ2_getChar_3b067 45 = .ok (.ishl, 1) := by decide +kernel
theorem dJ2_getChar_3b067_46 : decode cJ2_getChar_3b067 46 = .ok (.aload_n 0, 1) := by decide +kernel
theorem dJ2_getChar_3b067_47 : decode cJ2_getChar_3b067 47 = .ok (.iload_n 1, 1) := by decide +kernel
theorem dJ2_getChar_3b067_48 : decode cJ2_getChar_3b067 48 = .ok (.baload, 1) := by decide +kernel
theorem dJ2_getChar_3b067_49 : decode cJ2_getChar_3b067 49 = .ok (.sipush 255, 3) := by decide +kernel
theorem dJ2_getChar_3b067_52 : decode cJ2_getChar_3b067 52 = .ok (.iand, 1) := by decide +kernel
theorem dJ2_getChar_3b067_53 : decode cJ2_getChar_3b067 53 = .ok (.getstatic 63, 3) := by decide +kernel
theorem dJ2_getChar_3b067_56 : decode cJ2_getChar_3b067 56 = .ok (.ishl, 1) := by decide +kernel
theorem dJ2_getChar_3b067_57 : decode cJ2_getChar_3b067 57 = .ok (.ior, 1) := by decide +kernel
theorem dJ2_getChar_3b067_58 : decode cJ2_getChar_3b067 58 = .ok (.i2c, 1) := by decide +kernel
theorem dJ2_getChar_3b067_59 : decode cJ2_getChar_3b067 59 = .ok (.ireturn, 1) := by decide +kernel
theorem dJ2_length_9d52b_0 : decode cJ2_length_9d52b 0 = .ok (.aload_n 0, 1) := by decide +kernel
theorem dJ2_length_9d52b_1 : decode cJ2_length_9d52b 1 = .ok (.arraylength, 1) := by decide +kernel
theorem dJ2_length_9d52b_2 : decode cJ2_length_9d52b 2 = .ok (.iconst 1, 1) := by decide +kernel
theorem dJ2_length_9d52b_3 : decode cJ2_length_9d52b 3 = .ok (.ishr, 1) := by decide +kernel
theorem dJ2_length_9d52b_4 : decode cJ2_length_9d52b 4 = .ok (.ireturn, 1) := by decide +kernel
theorem dJ2_charAt_3b067_0 : decode cJ2_charAt_3b067 0 = .ok (.iload_n 1, 1) := by decide +kernel
theorem dJ2_charAt_3b067_1 : decode cJ2_charAt_3b067 1 = .ok (.aload_n 0, 1) := by decide +kernel
theorem dJ2_charAt_3b067_2 : decode cJ2_charAt_3b067 2 = .ok (.invokestatic 67, 3) := by decide +kernel
theorem dJ2_charAt_3b067_5 : decode cJ2_charAt_3b067 5 = .ok (.aload_n 0, 1) := by decide +kernel
theorem dJ2_charAt_3b067_6 : decode cJ2_charAt_3b067 6 = .ok (.iload_n 1, 1) := by decide +kernel
theorem dJ2_charAt_3b067_7 : decode cJ2_charAt_3b067 7 = .ok (.invokestatic 71, 3) := by decide +kernel
theorem dJ2_charAt_3b067_10 : decode cJ2_charAt_3b067 10 = .ok (.ireturn, 1) := by decide +kernel
theorem dJ2_checkIndex_2214a_0 : decode cJ2_checkIndex_2214a 0 = .ok (.iload_n 0, 1) := by decide +kernel
theorem dJ2_checkIndex_2214a_1 : decode cJ2_checkIndex_2214a 1 = .ok (.aload_n 1, 1) := by decide +kernel
theorem dJ2_checkIndex_2214a_2 : decode cJ2_checkIndex_2214a 2 = .ok (.invokestatic 48, 3) := by decide +kernel
theorem dJ2_checkIndex_2214a_5 : decode cJ2_checkIndex_2214a 5 = .ok (.invokestatic 414, 3) := by decide +kernel
theorem dJ2_checkIndex_2214a_8 : decode cJ2_checkIndex_2214a 8 = .ok (.return_, 1) := by decide +kernel
theorem dJ7_fill_53178_0 : decode cJ7_fill_53178 0 = .ok (.iconst 0, 1) := by decide +kernel
theorem dJ7_fill_53178_1 : decode cJ7_fill_53178 1 = .ok (.istore_n 2, 1) := by decide +kernel
theorem dJ7_fill_53178_2 : decode cJ7_fill_53178 2 = .ok (.aload_n 0, 1) := by decide +kernel
theorem dJ7_fill_53178_3 : decode cJ7_fill_53178 3 = .ok (.arraylength, 1) := by decide +kernel
theorem dJ7_fill_53178_4 : decode cJ7_fill_53178 4 = .ok (.istore_n 3, 1) := by decide +kernel
theorem dJ7_fill_53178_5 : decode cJ7_fill_53178 5 = .ok (.iload_n 2, 1) := by decide +kernel
theorem dJ7_fill_53178_6 : decode cJ7_fill_53178 6 = .ok (.iload_n 3, 1) := by decide +kernel
theorem dJ7_fill_53178_7 : decode cJ7_fill_53178 7 = .ok (.if_icmp .ge 13, 3) := by decide +kernel
theorem dJ7_fill_53178_10 : decode cJ7_fill_53178 10 = .ok (.aload_n 0, 1) := by decide +kernel
theorem dJ7_fill_53178_11 : decode cJ7_fill_53178 11 = .ok (.iload_n 2, 1) := by decide +kernel
theorem dJ7_fill_53178_12 : decode cJ7_fill_53178 12 = .ok (.iload_n 1, 1) := by decide +kernel
theorem dJ7_fill_53178_13 : decode cJ7_fill_53178 13 = .ok (.iastore, 1) := by decide +kernel
theorem dJ7_fill_53178_14 : decode cJ7_fill_53178 14 = .ok (.iinc 2 1, 3) := by decide +kernel
theorem dJ7_fill_53178_17 : decode cJ7_fill_53178 17 = .ok (.goto (-12), 3) := by decide +kernel
theorem dJ7_fill_53178_20 : decode cJ7_fill_53178 20 = .ok (.return_, 1) := by decide +kernel
theorem dJ3_checkIndex_8e157_0 : decode cJ3_checkIndex_8e157 0 = .ok (.iload_n 0, 1) := by decide +kernel
theorem dJ3_checkIndex_8e157_1 : decode cJ3_checkIndex_8e157 1 = .ok (.ifCond .lt 8, 3) := by decide +kernel
theorem dJ3_checkIndex_8e157_4 : decode cJ3_checkIndex_8e157 4 = .ok (.iload_n 0, 1) := by decide +kernel
theorem dJ3_checkIndex_8e157_5 : decode cJ3_checkIndex_8e157 5 = .ok (.iload_n 1, 1) := by decide +kernel
theorem dJ3_checkIndex_8e157_6 : decode cJ3_checkIndex_8e157 6 = .ok (.if_icmp .lt 10, 3) := by decide +kernel
theorem dJ3_checkIndex_8e157_9 : decode cJ3_checkIndex_8e157 9 = .ok (.aload_n 2, 1) := by decide +kernel
theorem dJ3_checkIndex_8e157_10 : decode cJ3_checkIndex_8e157 10 = .ok (.iload_n 0, 1) := by decide +kernel
theorem dJ3_checkIndex_8e157_11 : decode cJ3_checkIndex_8e157 11 = .ok (.iload_n 1, 1) := by decide +kernel
theorem dJ3_checkIndex_8e157_12 : decode cJ3_checkIndex_8e157 12 = .ok (.invokestatic 95, 3) := by decide +kernel
theorem dJ3_checkIndex_8e157_15 : decode cJ3_checkIndex_8e157 15 = .ok (.athrow, 1) := by decide +kernel
theorem dJ3_checkIndex_8e157_16 : decode cJ3_checkIndex_8e157 16 = .ok (.iload_n 0, 1) := by decide +kernel
theorem dJ3_checkIndex_8e157_17 : decode cJ3_checkIndex_8e157 17 = .ok (.ireturn, 1) := by decide +kernel
