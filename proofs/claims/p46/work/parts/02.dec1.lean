theorem dX0_init_0 : decode cX0_init 0 = .ok (.aload_n 0, 1) := by decide +kernel
theorem dX0_init_1 : decode cX0_init 1 = .ok (.invokespecial 3, 3) := by decide +kernel
theorem dX0_init_4 : decode cX0_init 4 = .ok (.aload_n 0, 1) := by decide +kernel
theorem dX0_init_5 : decode cX0_init 5 = .ok (.bipush 41, 2) := by decide +kernel
theorem dX0_init_7 : decode cX0_init 7 = .ok (.newarray .long, 2) := by decide +kernel
theorem dX0_init_9 : decode cX0_init 9 = .ok (.putfield 9, 3) := by decide +kernel
theorem dX0_init_12 : decode cX0_init 12 = .ok (.aload_n 0, 1) := by decide +kernel
theorem dX0_init_13 : decode cX0_init 13 = .ok (.iconst 0, 1) := by decide +kernel
theorem dX0_init_14 : decode cX0_init 14 = .ok (.putfield 15, 3) := by decide +kernel
theorem dX0_init_17 : decode cX0_init 17 = .ok (.aload_n 0, 1) := by decide +kernel
theorem dX0_init_18 : decode cX0_init 18 = .ok (.iconst 3, 1) := by decide +kernel
theorem dX0_init_19 : decode cX0_init 19 = .ok (.bipush 41, 2) := by decide +kernel
theorem dX0_init_21 : decode cX0_init 21 = .ok (.multianewarray 19 2, 4) := by decide +kernel
theorem dX0_init_25 : decode cX0_init 25 = .ok (.putfield 21, 3) := by decide +kernel
theorem dX0_init_28 : decode cX0_init 28 = .ok (.aload_n 0, 1) := by decide +kernel
theorem dX0_init_29 : decode cX0_init 29 = .ok (.iconst 3, 1) := by decide +kernel
theorem dX0_init_30 : decode cX0_init 30 = .ok (.newarray .int, 2) := by decide +kernel
theorem dX0_init_32 : decode cX0_init 32 = .ok (.putfield 24, 3) := by decide +kernel
theorem dX0_init_35 : decode cX0_init 35 = .ok (.iconst 0, 1) := by decide +kernel
theorem dX0_init_36 : decode cX0_init 36 = .ok (.istore_n 1, 1) := by decide +kernel
theorem dX0_init_37 : decode cX0_init 37 = .ok (.iload_n 1, 1) := by decide +kernel
theorem dX0_init_38 : decode cX0_init 38 = .ok (.iconst 3, 1) := by decide +kernel
theorem dX0_init_39 : decode cX0_init 39 = .ok (.if_icmp .ge 16, 3) := by decide +kernel
theorem dX0_init_42 : decode cX0_init 42 = .ok (.aload_n 0, 1) := by decide +kernel
theorem dX0_init_43 : decode cX0_init 43 = .ok (.getfield 24, 3) := by decide +kernel
theorem dX0_init_46 : decode cX0_init 46 = .ok (.iload_n 1, 1) := by decide +kernel
theorem dX0_init_47 : decode cX0_init 47 = .ok (.iconst (-1), 1) := by decide +kernel
theorem dX0_init_48 : decode cX0_init 48 = .ok (.iastore, 1) := by decide +kernel
theorem dX0_init_49 : decode cX0_init 49 = .ok (.iinc 1 1, 3) := by decide +kernel
theorem dX0_init_52 : decode cX0_init 52 = .ok (.goto (-15), 3) := by decide +kernel
theorem dX0_init_55 : decode cX0_init 55 = .ok (.return_, 1) := by decide +kernel
theorem dX0_begin_0 : decode cX0_begin 0 = .ok (.aload_n 0, 1) := by decide +kernel
theorem dX0_begin_1 : decode cX0_begin 1 = .ok (.iconst 0, 1) := by decide +kernel
theorem dX0_begin_2 : decode cX0_begin 2 = .ok (.putfield 15, 3) := by decide +kernel
theorem dX0_begin_5 : decode cX0_begin 5 = .ok (.aload_n 0, 1) := by decide +kernel
theorem dX0_begin_6 : decode cX0_begin 6 = .ok (.getfield 9, 3) := by decide +kernel
theorem dX0_begin_9 : decode cX0_begin 9 = .ok (.iconst 0, 1) := by decide +kernel
theorem dX0_begin_10 : decode cX0_begin 10 = .ok (.lload_n 1, 1) := by decide +kernel
theorem dX0_begin_11 : decode cX0_begin 11 = .ok (.lastore, 1) := by decide +kernel
theorem dX0_begin_12 : decode cX0_begin 12 = .ok (.iconst 0, 1) := by decide +kernel
theorem dX0_begin_13 : decode cX0_begin 13 = .ok (.istore_n 3, 1) := by decide +kernel
theorem dX0_begin_14 : decode cX0_begin 14 = .ok (.iload_n 3, 1) := by decide +kernel
theorem dX0_begin_15 : decode cX0_begin 15 = .ok (.iconst 3, 1) := by decide +kernel
theorem dX0_begin_16 : decode cX0_begin 16 = .ok (.if_icmp .ge 16, 3) := by decide +kernel
theorem dX0_begin_19 : decode cX0_begin 19 = .ok (.aload_n 0, 1) := by decide +kernel
theorem dX0_begin_20 : decode cX0_begin 20 = .ok (.getfield 24, 3) := by decide +kernel
theorem dX0_begin_23 : decode cX0_begin 23 = .ok (.iload_n 3, 1) := by decide +kernel
theorem dX0_begin_24 : decode cX0_begin 24 = .ok (.iconst (-1), 1) := by decide +kernel
theorem dX0_begin_25 : decode cX0_begin 25 = .ok (.iastore, 1) := by decide +kernel
theorem dX0_begin_26 : decode cX0_begin 26 = .ok (.iinc 3 1, 3) := by decide +kernel
theorem dX0_begin_29 : decode cX0_begin 29 = .ok (.goto (-15), 3) := by decide +kernel
theorem dX0_begin_32 : decode cX0_begin 32 = .ok (.return_, 1) := by decide +kernel
theorem dX0_deeds_0 : decode cX0_deeds 0 = .ok (.aload_n 0, 1) := by decide +kernel
theorem dX0_deeds_1 : decode cX0_deeds 1 = .ok (.getfield 15, 3) := by decide +kernel
theorem dX0_deeds_4 : decode cX0_deeds 4 = .ok (.ireturn, 1) := by decide +kernel
theorem dX0_now_0 : decode cX0_now 0 = .ok (.aload_n 0, 1) := by decide +kernel
theorem dX0_now_1 : decode cX0_now 1 = .ok (.getfield 15, 3) := by decide +kernel
theorem dX0_now_4 : decode cX0_now 4 = .ok (.ifCond .lt 24, 3) := by decide +kernel
theorem dX0_now_7 : decode cX0_now 7 = .ok (.aload_n 0, 1) := by decide +kernel
theorem dX0_now_8 : decode cX0_now 8 = .ok (.getfield 15, 3) := by decide +kernel
theorem dX0_now_11 : decode cX0_now 11 = .ok (.bipush 40, 2) := by decide +kernel
theorem dX0_now_13 : decode cX0_now 13 = .ok (.if_icmp .gt 15, 3) := by decide +kernel
theorem dX0_now_16 : decode cX0_now 16 = .ok (.aload_n 0, 1) := by decide +kernel
theorem dX0_now_17 : decode cX0_now 17 = .ok (.getfield 9, 3) := by decide +kernel
theorem dX0_now_20 : decode cX0_now 20 = .ok (.aload_n 0, 1) := by decide +kernel
theorem dX0_now_21 : decode cX0_now 21 = .ok (.getfield 15, 3) := by decide +kernel
theorem dX0_now_24 : decode cX0_now 24 = .ok (.laload, 1) := by decide +kernel
theorem dX0_now_25 : decode cX0_now 25 = .ok (.goto 4, 3) := by decide +kernel
theorem dX0_now_28 : decode cX0_now 28 = .ok (.lconst 0, 1) := by decide +kernel
theorem dX0_now_29 : decode cX0_now 29 = .ok (.lreturn, 1) := by decide +kernel
theorem dX0_isFull_0 : decode cX0_isFull 0 = .ok (.aload_n 0, 1) := by decide +kernel
theorem dX0_isFull_1 : decode cX0_isFull 1 = .ok (.getfield 15, 3) := by decide +kernel
theorem dX0_isFull_4 : decode cX0_isFull 4 = .ok (.iload_n 1, 1) := by decide +kernel
theorem dX0_isFull_5 : decode cX0_isFull 5 = .ok (.iadd, 1) := by decide +kernel
theorem dX0_isFull_6 : decode cX0_isFull 6 = .ok (.bipush 40, 2) := by decide +kernel
theorem dX0_isFull_8 : decode cX0_isFull 8 = .ok (.if_icmp .le 7, 3) := by decide +kernel
theorem dX0_isFull_11 : decode cX0_isFull 11 = .ok (.iconst 1, 1) := by decide +kernel
theorem dX0_isFull_12 : decode cX0_isFull 12 = .ok (.goto 4, 3) := by decide +kernel
theorem dX0_isFull_15 : decode cX0_isFull 15 = .ok (.iconst 0, 1) := by decide +kernel
theorem dX0_isFull_16 : decode cX0_isFull 16 = .ok (.ireturn, 1) := by decide +kernel
theorem dX0_add_0 : decode cX0_add 0 = .ok (.aload_n 0, 1) := by decide +kernel
theorem dX0_add_1 : decode cX0_add 1 = .ok (.getfield 15, 3) := by decide +kernel
theorem dX0_add_4 : decode cX0_add 4 = .ok (.ifCond .lt 32, 3) := by decide +kernel
theorem dX0_add_7 : decode cX0_add 7 = .ok (.aload_n 0, 1) := by decide +kernel
theorem dX0_add_8 : decode cX0_add 8 = .ok (.getfield 15, 3) := by decide +kernel
theorem dX0_add_11 : decode cX0_add 11 = .ok (.bipush 40, 2) := by decide +kernel
theorem dX0_add_13 : decode cX0_add 13 = .ok (.if_icmp .ge 23, 3) := by decide +kernel
theorem dX0_add_16 : decode cX0_add 16 = .ok (.aload_n 0, 1) := by decide +kernel
theorem dX0_add_17 : decode cX0_add 17 = .ok (.dup, 1) := by decide +kernel
theorem dX0_add_18 : decode cX0_add 18 = .ok (.getfield 15, 3) := by decide +kernel
theorem dX0_add_21 : decode cX0_add 21 = .ok (.iconst 1, 1) := by decide +kernel
theorem dX0_add_22 : decode cX0_add 22 = .ok (.iadd, 1) := by decide +kernel
theorem dX0_add_23 : decode cX0_add 23 = .ok (.putfield 15, 3) := by decide +kernel
theorem dX0_add_26 : decode cX0_add 26 = .ok (.aload_n 0, 1) := by decide +kernel
theorem dX0_add_27 : decode cX0_add 27 = .ok (.getfield 9, 3) := by decide +kernel
theorem dX0_add_30 : decode cX0_add 30 = .ok (.aload_n 0, 1) := by decide +kernel
theorem dX0_add_31 : decode cX0_add 31 = .ok (.getfield 15, 3) := by decide +kernel
theorem dX0_add_34 : decode cX0_add 34 = .ok (.lload_n 1, 1) := by decide +kernel
theorem dX0_add_35 : decode cX0_add 35 = .ok (.lastore, 1) := by decide +kernel
theorem dX0_add_36 : decode cX0_add 36 = .ok (.return_, 1) := by decide +kernel
theorem dX0_goBack_0 : decode cX0_goBack 0 = .ok (.iload_n 1, 1) := by decide +kernel
theorem dX0_goBack_1 : decode cX0_goBack 1 = .ok (.ifCond .lt 16, 3) := by decide +kernel
theorem dX0_goBack_4 : decode cX0_goBack 4 = .ok (.iload_n 1, 1) := by decide +kernel
theorem dX0_goBack_5 : decode cX0_goBack 5 = .ok (.aload_n 0, 1) := by decide +kernel
theorem dX0_goBack_6 : decode cX0_goBack 6 = .ok (.getfield 15, 3) := by decide +kernel
theorem dX0_goBack_9 : decode cX0_goBack 9 = .ok (.if_icmp .gt 8, 3) := by decide +kernel
theorem dX0_goBack_12 : decode cX0_goBack 12 = .ok (.aload_n 0, 1) := by decide +kernel
theorem dX0_goBack_13 : decode cX0_goBack 13 = .ok (.iload_n 1, 1) := by decide +kernel
theorem dX0_goBack_14 : decode cX0_goBack 14 = .ok (.putfield 15, 3) := by decide +kernel
theorem dX0_goBack_17 : decode cX0_goBack 17 = .ok (.return_, 1) := by decide +kernel
theorem dX0_isKeepingPlace_0 : decode cX0_isKeepingPlace 0 = .ok (.iload_n 1, 1) := by decide +kernel
theorem dX0_isKeepingPlace_1 : decode cX0_isKeepingPlace 1 = .ok (.ifCond .lt 12, 3) := by decide +kernel
theorem dX0_isKeepingPlace_4 : decode cX0_isKeepingPlace 4 = .ok (.iload_n 1, 1) := by decide +kernel
theorem dX0_isKeepingPlace_5 : decode cX0_isKeepingPlace 5 = .ok (.iconst 3, 1) := by decide +kernel
theorem dX0_isKeepingPlace_6 : decode cX0_isKeepingPlace 6 = .ok (.if_icmp .ge 7, 3) := by decide +kernel
theorem dX0_isKeepingPlace_9 : decode cX0_isKeepingPlace 9 = .ok (.iconst 1, 1) := by decide +kernel
theorem dX0_isKeepingPlace_10 : decode cX0_isKeepingPlace 10 = .ok (.goto 4, 3) := by decide +kernel
theorem dX0_isKeepingPlace_13 : decode cX0_isKeepingPlace 13 = .ok (.iconst 0, 1) := by decide +kernel
theorem dX0_isKeepingPlace_14 : decode cX0_isKeepingPlace 14 = .ok (.ireturn, 1) := by decide +kernel
theorem dX0_deedsKept_0 : decode cX0_deedsKept 0 = .ok (.aload_n 0, 1) := by decide +kernel
theorem dX0_deedsKept_1 : decode cX0_deedsKept 1 = .ok (.iload_n 1, 1) := by decide +kernel
theorem dX0_deedsKept_2 : decode cX0_deedsKept 2 = .ok (.invokevirtual 28, 3) := by decide +kernel
theorem dX0_deedsKept_5 : decode cX0_deedsKept 5 = .ok (.ifCond .eq 12, 3) := by decide +kernel
theorem dX0_deedsKept_8 : decode cX0_deedsKept 8 = .ok (.aload_n 0, 1) := by decide +kernel
theorem dX0_deedsKept_9 : decode cX0_deedsKept 9 = .ok (.getfield 24, 3) := by decide +kernel
theorem dX0_deedsKept_12 : decode cX0_deedsKept 12 = .ok (.iload_n 1, 1) := by decide +kernel
theorem dX0_deedsKept_13 : decode cX0_deedsKept 13 = .ok (.iaload, 1) := by decide +kernel
theorem dX0_deedsKept_14 : decode cX0_deedsKept 14 = .ok (.goto 4, 3) := by decide +kernel
theorem dX0_deedsKept_17 : decode cX0_deedsKept 17 = .ok (.iconst (-1), 1) := by decide +kernel
theorem dX0_deedsKept_18 : decode cX0_deedsKept 18 = .ok (.ireturn, 1) := by decide +kernel
theorem dX0_countKept_0 : decode cX0_countKept 0 = .ok (.iconst 0, 1) := by decide +kernel
theorem dX0_countKept_1 : decode cX0_countKept 1 = .ok (.istore_n 1, 1) := by decide +kernel
theorem dX0_countKept_2 : decode cX0_countKept 2 = .ok (.iconst 0, 1) := by decide +kernel
theorem dX0_countKept_3 : decode cX0_countKept 3 = .ok (.istore_n 2, 1) := by decide +kernel
theorem dX0_countKept_4 : decode cX0_countKept 4 = .ok (.iload_n 2, 1) := by decide +kernel
theorem dX0_countKept_5 : decode cX0_countKept 5 = .ok (.iconst 3, 1) := by decide +kernel
theorem dX0_countKept_6 : decode cX0_countKept 6 = .ok (.if_icmp .ge 22, 3) := by decide +kernel
theorem dX0_countKept_9 : decode cX0_countKept 9 = .ok (.aload_n 0, 1) := by decide +kernel
theorem dX0_countKept_10 : decode cX0_countKept 10 = .ok (.getfield 24, 3) := by decide +kernel
theorem dX0_countKept_13 : decode cX0_countKept 13 = .ok (.iload_n 2, 1) := by decide +kernel
theorem dX0_countKept_14 : decode cX0_countKept 14 = .ok (.iaload, 1) := by decide +kernel
theorem dX0_countKept_15 : decode cX0_countKept 15 = .ok (.iconst (-1), 1) := by decide +kernel
theorem dX0_countKept_16 : decode cX0_countKept 16 = .ok (.if_icmp .eq 6, 3) := by decide +kernel
theorem dX0_countKept_19 : decode cX0_countKept 19 = .ok (.iinc 1 1, 3) := by decide +kernel
theorem dX0_countKept_22 : decode cX0_countKept 22 = .ok (.iinc 2 1, 3) := by decide +kernel
theorem dX0_countKept_25 : decode cX0_countKept 25 = .ok (.goto (-21), 3) := by decide +kernel
theorem dX0_countKept_28 : decode cX0_countKept 28 = .ok (.iload_n 1, 1) := by decide +kernel
theorem dX0_countKept_29 : decode cX0_countKept 29 = .ok (.ireturn, 1) := by decide +kernel
theorem dX0_store_0 : decode cX0_store 0 = .ok (.aload_n 0, 1) := by decide +kernel
theorem dX0_store_1 : decode cX0_store 1 = .ok (.iload_n 1, 1) := by decide +kernel
theorem dX0_store_2 : decode cX0_store 2 = .ok (.invokevirtual 28, 3) := by decide +kernel
theorem dX0_store_5 : decode cX0_store 5 = .ok (.ifCond .eq 49, 3) := by decide +kernel
theorem dX0_store_8 : decode cX0_store 8 = .ok (.iconst 0, 1) := by decide +kernel
theorem dX0_store_9 : decode cX0_store 9 = .ok (.istore_n 2, 1) := by decide +kernel
theorem dX0_store_10 : decode cX0_store 10 = .ok (.iload_n 2, 1) := by decide +kernel
theorem dX0_store_11 : decode cX0_store 11 = .ok (.aload_n 0, 1) := by decide +kernel
theorem dX0_store_12 : decode cX0_store 12 = .ok (.getfield 15, 3) := by decide +kernel
theorem dX0_store_15 : decode cX0_store 15 = .ok (.if_icmp .gt 29, 3) := by decide +kernel
theorem dX0_store_18 : decode cX0_store 18 = .ok (.iload_n 2, 1) := by decide +kernel
theorem dX0_store_19 : decode cX0_store 19 = .ok (.bipush 40, 2) := by decide +kernel
theorem dX0_store_21 : decode cX0_store 21 = .ok (.if_icmp .gt 23, 3) := by decide +kernel
theorem dX0_store_24 : decode cX0_store 24 = .ok (.aload_n 0, 1) := by decide +kernel
theorem dX0_store_25 : decode cX0_store 25 = .ok (.getfield 21, 3) := by decide +kernel
theorem dX0_store_28 : decode cX0_store 28 = .ok (.iload_n 1, 1) := by decide +kernel
theorem dX0_store_29 : decode cX0_store 29 = .ok (.aaload, 1) := by decide +kernel
theorem dX0_store_30 : decode cX0_store 30 = .ok (.iload_n 2, 1) := by decide +kernel
theorem dX0_store_31 : decode cX0_store 31 = .ok (.aload_n 0, 1) := by decide +kernel
theorem dX0_store_32 : decode cX0_store 32 = .ok (.getfield 9, 3) := by decide +kernel
theorem dX0_store_35 : decode cX0_store 35 = .ok (.iload_n 2, 1) := by decide +kernel
theorem dX0_store_36 : decode cX0_store 36 = .ok (.laload, 1) := by decide +kernel
theorem dX0_store_37 : decode cX0_store 37 = .ok (.lastore, 1) := by decide +kernel
theorem dX0_store_38 : decode cX0_store 38 = .ok (.iinc 2 1, 3) := by decide +kernel
theorem dX0_store_41 : decode cX0_store 41 = .ok (.goto (-31), 3) := by decide +kernel
theorem dX0_store_44 : decode cX0_store 44 = .ok (.aload_n 0, 1) := by decide +kernel
theorem dX0_store_45 : decode cX0_store 45 = .ok (.getfield 24, 3) := by decide +kernel
theorem dX0_store_48 : decode cX0_store 48 = .ok (.iload_n 1, 1) := by decide +kernel
theorem dX0_store_49 : decode cX0_store 49 = .ok (.aload_n 0, 1) := by decide +kernel
theorem dX0_store_50 : decode cX0_store 50 = .ok (.getfield 15, 3) := by decide +kernel
theorem dX0_store_53 : decode cX0_store 53 = .ok (.iastore, 1) := by decide +kernel
theorem dX0_store_54 : decode cX0_store 54 = .ok (.return_, 1) := by decide +kernel
theorem dX0_restore_0 : decode cX0_restore 0 = .ok (.aload_n 0, 1) := by decide +kernel
theorem dX0_restore_1 : decode cX0_restore 1 = .ok (.iload_n 1, 1) := by decide +kernel
theorem dX0_restore_2 : decode cX0_restore 2 = .ok (.invokevirtual 28, 3) := by decide +kernel
theorem dX0_restore_5 : decode cX0_restore 5 = .ok (.ifCond .eq 59, 3) := by decide +kernel
theorem dX0_restore_8 : decode cX0_restore 8 = .ok (.aload_n 0, 1) := by decide +kernel
theorem dX0_restore_9 : decode cX0_restore 9 = .ok (.getfield 24, 3) := by decide +kernel
theorem dX0_restore_12 : decode cX0_restore 12 = .ok (.iload_n 1, 1) := by decide +kernel
theorem dX0_restore_13 : decode cX0_restore 13 = .ok (.iaload, 1) := by decide +kernel
theorem dX0_restore_14 : decode cX0_restore 14 = .ok (.iconst (-1), 1) := by decide +kernel
theorem dX0_restore_15 : decode cX0_restore 15 = .ok (.if_icmp .eq 49, 3) := by decide +kernel
theorem dX0_restore_18 : decode cX0_restore 18 = .ok (.aload_n 0, 1) := by decide +kernel
theorem dX0_restore_19 : decode cX0_restore 19 = .ok (.aload_n 0, 1) := by decide +kernel
theorem dX0_restore_20 : decode cX0_restore 20 = .ok (.getfield 24, 3) := by decide +kernel
theorem dX0_restore_23 : decode cX0_restore 23 = .ok (.iload_n 1, 1) := by decide +kernel
theorem dX0_restore_24 : decode cX0_restore 24 = .ok (.iaload, 1) := by decide +kernel
theorem dX0_restore_25 : decode cX0_restore 25 = .ok (.putfield 15, 3) := by decide +kernel
theorem dX0_restore_28 : decode cX0_restore 28 = .ok (.iconst 0, 1) := by decide +kernel
theorem dX0_restore_29 : decode cX0_restore 29 = .ok (.istore_n 2, 1) := by decide +kernel
theorem dX0_restore_30 : decode cX0_restore 30 = .ok (.iload_n 2, 1) := by decide +kernel
theorem dX0_restore_31 : decode cX0_restore 31 = .ok (.aload_n 0, 1) := by decide +kernel
theorem dX0_restore_32 : decode cX0_restore 32 = .ok (.getfield 15, 3) := by decide +kernel
theorem dX0_restore_35 : decode cX0_restore 35 = .ok (.if_icmp .gt 29, 3) := by decide +kernel
theorem dX0_restore_38 : decode cX0_restore 38 = .ok (.iload_n 2, 1) := by decide +kernel
theorem dX0_restore_39 : decode cX0_restore 39 = .ok (.bipush 40, 2) := by decide +kernel
theorem dX0_restore_41 : decode cX0_restore 41 = .ok (.if_icmp .gt 23, 3) := by decide +kernel
theorem dX0_restore_44 : decode cX0_restore 44 = .ok (.aload_n 0, 1) := by decide +kernel
theorem dX0_restore_45 : decode cX0_restore 45 = .ok (.getfield 9, 3) := by decide +kernel
theorem dX0_restore_48 : decode cX0_restore 48 = .ok (.iload_n 2, 1) := by decide +kernel
theorem dX0_restore_49 : decode cX0_restore 49 = .ok (.aload_n 0, 1) := by decide +kernel
theorem dX0_restore_50 : decode cX0_restore 50 = .ok (.getfield 21, 3) := by decide +kernel
theorem dX0_restore_53 : decode cX0_restore 53 = .ok (.iload_n 1, 1) := by decide +kernel
theorem dX0_restore_54 : decode cX0_restore 54 = .ok (.aaload, 1) := by decide +kernel
theorem dX0_restore_55 : decode cX0_restore 55 = .ok (.iload_n 2, 1) := by decide +kernel
theorem dX0_restore_56 : decode cX0_restore 56 = .ok (.laload, 1) := by decide +kernel
theorem dX0_restore_57 : decode cX0_restore 57 = .ok (.lastore, 1) := by decide +kernel
theorem dX0_restore_58 : decode cX0_restore 58 = .ok (.iinc 2 1, 3) := by decide +kernel
theorem dX0_restore_61 : decode cX0_restore 61 = .ok (.goto (-31), 3) := by decide +kernel
theorem dX0_restore_64 : decode cX0_restore 64 = .ok (.return_, 1) := by decide +kernel
theorem dX1_init_0 : decode cX1_init 0 = .ok (.aload_n 0, 1) := by decide +kernel
theorem dX1_init_1 : decode cX1_init 1 = .ok (.invokespecial 3, 3) := by decide +kernel
theorem dX1_init_4 : decode cX1_init 4 = .ok (.aload_n 0, 1) := by decide +kernel
theorem dX1_init_5 : decode cX1_init 5 = .ok (.bipush 60, 2) := by decide +kernel
theorem dX1_init_7 : decode cX1_init 7 = .ok (.newarray .int, 2) := by decide +kernel
theorem dX1_init_9 : decode cX1_init 9 = .ok (.putfield 9, 3) := by decide +kernel
theorem dX1_init_12 : decode cX1_init 12 = .ok (.aload_n 0, 1) := by decide +kernel
theorem dX1_init_13 : decode cX1_init 13 = .ok (.iconst 0, 1) := by decide +kernel
theorem dX1_init_14 : decode cX1_init 14 = .ok (.putfield 15, 3) := by decide +kernel
theorem dX1_init_17 : decode cX1_init 17 = .ok (.aload_n 0, 1) := by decide +kernel
theorem dX1_init_18 : decode cX1_init 18 = .ok (.iconst 0, 1) := by decide +kernel
theorem dX1_init_19 : decode cX1_init 19 = .ok (.putfield 19, 3) := by decide +kernel
theorem dX1_init_22 : decode cX1_init 22 = .ok (.aload_n 0, 1) := by decide +kernel
theorem dX1_init_23 : decode cX1_init 23 = .ok (.bipush (-9), 2) := by decide +kernel
theorem dX1_init_25 : decode cX1_init 25 = .ok (.putfield 22, 3) := by decide +kernel
theorem dX1_init_28 : decode cX1_init 28 = .ok (.aload_n 0, 1) := by decide +kernel
theorem dX1_init_29 : decode cX1_init 29 = .ok (.iconst 0, 1) := by decide +kernel
theorem dX1_init_30 : decode cX1_init 30 = .ok (.putfield 25, 3) := by decide +kernel
theorem dX1_init_33 : decode cX1_init 33 = .ok (.return_, 1) := by decide +kernel
theorem dX1_read_0 : decode cX1_read 0 = .ok (.aload_n 0, 1) := by decide +kernel
theorem dX1_read_1 : decode cX1_read 1 = .ok (.aload_n 1, 1) := by decide +kernel
theorem dX1_read_2 : decode cX1_read 2 = .ok (.iload_n 2, 1) := by decide +kernel
theorem dX1_read_3 : decode cX1_read 3 = .ok (.invokevirtual 29, 3) := by decide +kernel
theorem dX1_read_6 : decode cX1_read 6 = .ok (.aload_n 3, 1) := by decide +kernel
theorem dX1_read_7 : decode cX1_read 7 = .ok (.invokevirtual 33, 3) := by decide +kernel
theorem dX1_read_10 : decode cX1_read 10 = .ok (.iconst 0, 1) := by decide +kernel
theorem dX1_read_11 : decode cX1_read 11 = .ok (.istore 4, 2) := by decide +kernel
theorem dX1_read_13 : decode cX1_read 13 = .ok (.iload 4, 2) := by decide +kernel
theorem dX1_read_15 : decode cX1_read 15 = .ok (.bipush 60, 2) := by decide +kernel
theorem dX1_read_17 : decode cX1_read 17 = .ok (.if_icmp .ge 30, 3) := by decide +kernel
theorem dX1_read_20 : decode cX1_read 20 = .ok (.aload_n 0, 1) := by decide +kernel
theorem dX1_read_21 : decode cX1_read 21 = .ok (.getfield 22, 3) := by decide +kernel
theorem dX1_read_24 : decode cX1_read 24 = .ok (.bipush (-9), 2) := by decide +kernel
theorem dX1_read_26 : decode cX1_read 26 = .ok (.if_icmp .ne 21, 3) := by decide +kernel
theorem dX1_read_29 : decode cX1_read 29 = .ok (.aload_n 0, 1) := by decide +kernel
theorem dX1_read_30 : decode cX1_read 30 = .ok (.invokevirtual 38, 3) := by decide +kernel
theorem dX1_read_33 : decode cX1_read 33 = .ok (.ifCond .eq 14, 3) := by decide +kernel
theorem dX1_read_36 : decode cX1_read 36 = .ok (.aload_n 0, 1) := by decide +kernel
theorem dX1_read_37 : decode cX1_read 37 = .ok (.aload_n 3, 1) := by decide +kernel
theorem dX1_read_38 : decode cX1_read 38 = .ok (.invokevirtual 42, 3) := by decide +kernel
theorem dX1_read_41 : decode cX1_read 41 = .ok (.iinc 4 1, 3) := by decide +kernel
theorem dX1_read_44 : decode cX1_read 44 = .ok (.goto (-31), 3) := by decide +kernel
theorem dX1_read_47 : decode cX1_read 47 = .ok (.aload_n 0, 1) := by decide +kernel
theorem dX1_read_48 : decode cX1_read 48 = .ok (.getfield 22, 3) := by decide +kernel
theorem dX1_read_51 : decode cX1_read 51 = .ok (.bipush (-9), 2) := by decide +kernel
theorem dX1_read_53 : decode cX1_read 53 = .ok (.if_icmp .ne 18, 3) := by decide +kernel
theorem dX1_read_56 : decode cX1_read 56 = .ok (.aload_n 3, 1) := by decide +kernel
theorem dX1_read_57 : decode cX1_read 57 = .ok (.getfield 46, 3) := by decide +kernel
theorem dX1_read_60 : decode cX1_read 60 = .ok (.ifCond .ne 11, 3) := by decide +kernel
theorem dX1_read_63 : decode cX1_read 63 = .ok (.aload_n 0, 1) := by decide +kernel
theorem dX1_read_64 : decode cX1_read 64 = .ok (.aload_n 0, 1) := by decide +kernel
theorem dX1_read_65 : decode cX1_read 65 = .ok (.getfield 15, 3) := by decide +kernel
theorem dX1_read_68 : decode cX1_read 68 = .ok (.putfield 22, 3) := by decide +kernel
theorem dX1_read_71 : decode cX1_read 71 = .ok (.aload_n 0, 1) := by decide +kernel
theorem dX1_read_72 : decode cX1_read 72 = .ok (.getfield 22, 3) := by decide +kernel
theorem dX1_read_75 : decode cX1_read 75 = .ok (.ireturn, 1) := by decide +kernel
theorem dX1_take_0 : decode cX1_take 0 = .ok (.aload_n 0, 1) := by decide +kernel
theorem dX1_take_1 : decode cX1_take 1 = .ok (.aload_n 1, 1) := by decide +kernel
theorem dX1_take_2 : decode cX1_take 2 = .ok (.iload_n 2, 1) := by decide +kernel
theorem dX1_take_3 : decode cX1_take 3 = .ok (.invokevirtual 49, 3) := by decide +kernel
theorem dX1_take_6 : decode cX1_take 6 = .ok (.aload_n 0, 1) := by decide +kernel
theorem dX1_take_7 : decode cX1_take 7 = .ok (.getfield 9, 3) := by decide +kernel
theorem dX1_take_10 : decode cX1_take 10 = .ok (.arraylength, 1) := by decide +kernel
theorem dX1_take_11 : decode cX1_take 11 = .ok (.invokestatic 54, 3) := by decide +kernel
theorem dX1_take_14 : decode cX1_take 14 = .ok (.putfield 15, 3) := by decide +kernel
theorem dX1_take_17 : decode cX1_take 17 = .ok (.iconst 0, 1) := by decide +kernel
theorem dX1_take_18 : decode cX1_take 18 = .ok (.istore_n 3, 1) := by decide +kernel
theorem dX1_take_19 : decode cX1_take 19 = .ok (.iload_n 3, 1) := by decide +kernel
theorem dX1_take_20 : decode cX1_take 20 = .ok (.aload_n 0, 1) := by decide +kernel
theorem dX1_take_21 : decode cX1_take 21 = .ok (.getfield 15, 3) := by decide +kernel
theorem dX1_take_24 : decode cX1_take 24 = .ok (.if_icmp .ge 21, 3) := by decide +kernel
theorem dX1_take_27 : decode cX1_take 27 = .ok (.aload_n 0, 1) := by decide +kernel
theorem dX1_take_28 : decode cX1_take 28 = .ok (.getfield 9, 3) := by decide +kernel
theorem dX1_take_31 : decode cX1_take 31 = .ok (.iload_n 3, 1) := by decide +kernel
theorem dX1_take_32 : decode cX1_take 32 = .ok (.aload_n 1, 1) := by decide +kernel
theorem dX1_take_33 : decode cX1_take 33 = .ok (.iload_n 2, 1) := by decide +kernel
theorem dX1_take_34 : decode cX1_take 34 = .ok (.iload_n 3, 1) := by decide +kernel
theorem dX1_take_35 : decode cX1_take 35 = .ok (.invokevirtual 60, 3) := by decide +kernel
theorem dX1_take_38 : decode cX1_take 38 = .ok (.iastore, 1) := by decide +kernel
theorem dX1_take_39 : decode cX1_take 39 = .ok (.iinc 3 1, 3) := by decide +kernel
theorem dX1_take_42 : decode cX1_take 42 = .ok (.goto (-23), 3) := by decide +kernel
theorem dX1_take_45 : decode cX1_take 45 = .ok (.aload_n 0, 1) := by decide +kernel
theorem dX1_take_46 : decode cX1_take 46 = .ok (.iconst 0, 1) := by decide +kernel
theorem dX1_take_47 : decode cX1_take 47 = .ok (.putfield 19, 3) := by decide +kernel
theorem dX1_take_50 : decode cX1_take 50 = .ok (.aload_n 0, 1) := by decide +kernel
theorem dX1_take_51 : decode cX1_take 51 = .ok (.bipush (-9), 2) := by decide +kernel
theorem dX1_take_53 : decode cX1_take 53 = .ok (.putfield 22, 3) := by decide +kernel
theorem dX1_take_56 : decode cX1_take 56 = .ok (.aload_n 0, 1) := by decide +kernel
theorem dX1_take_57 : decode cX1_take 57 = .ok (.iconst 0, 1) := by decide +kernel
theorem dX1_take_58 : decode cX1_take 58 = .ok (.putfield 25, 3) := by decide +kernel
theorem dX1_take_61 : decode cX1_take 61 = .ok (.return_, 1) := by decide +kernel
theorem dX1_isMoreAhead_0 : decode cX1_isMoreAhead 0 = .ok (.aload_n 0, 1) := by decide +kernel
theorem dX1_isMoreAhead_1 : decode cX1_isMoreAhead 1 = .ok (.getfield 19, 3) := by decide +kernel
theorem dX1_isMoreAhead_4 : decode cX1_isMoreAhead 4 = .ok (.aload_n 0, 1) := by decide +kernel
theorem dX1_isMoreAhead_5 : decode cX1_isMoreAhead 5 = .ok (.getfield 15, 3) := by decide +kernel
theorem dX1_isMoreAhead_8 : decode cX1_isMoreAhead 8 = .ok (.if_icmp .ge 25, 3) := by decide +kernel
theorem dX1_isMoreAhead_11 : decode cX1_isMoreAhead 11 = .ok (.aload_n 0, 1) := by decide +kernel
theorem dX1_isMoreAhead_12 : decode cX1_isMoreAhead 12 = .ok (.invokevirtual 63, 3) := by decide +kernel
theorem dX1_isMoreAhead_15 : decode cX1_isMoreAhead 15 = .ok (.bipush 32, 2) := by decide +kernel
theorem dX1_isMoreAhead_17 : decode cX1_isMoreAhead 17 = .ok (.if_icmp .ne 16, 3) := by decide +kernel
theorem dX1_isMoreAhead_20 : decode cX1_isMoreAhead 20 = .ok (.aload_n 0, 1) := by decide +kernel
theorem dX1_isMoreAhead_21 : decode cX1_isMoreAhead 21 = .ok (.dup, 1) := by decide +kernel
theorem dX1_isMoreAhead_22 : decode cX1_isMoreAhead 22 = .ok (.getfield 19, 3) := by decide +kernel
theorem dX1_isMoreAhead_25 : decode cX1_isMoreAhead 25 = .ok (.iconst 1, 1) := by decide +kernel
theorem dX1_isMoreAhead_26 : decode cX1_isMoreAhead 26 = .ok (.iadd, 1) := by decide +kernel
theorem dX1_isMoreAhead_27 : decode cX1_isMoreAhead 27 = .ok (.putfield 19, 3) := by decide +kernel
theorem dX1_isMoreAhead_30 : decode cX1_isMoreAhead 30 = .ok (.goto (-30), 3) := by decide +kernel
theorem dX1_isMoreAhead_33 : decode cX1_isMoreAhead 33 = .ok (.aload_n 0, 1) := by decide +kernel
theorem dX1_isMoreAhead_34 : decode cX1_isMoreAhead 34 = .ok (.getfield 19, 3) := by decide +kernel
theorem dX1_isMoreAhead_37 : decode cX1_isMoreAhead 37 = .ok (.aload_n 0, 1) := by decide +kernel
theorem dX1_isMoreAhead_38 : decode cX1_isMoreAhead 38 = .ok (.getfield 15, 3) := by decide +kernel
theorem dX1_isMoreAhead_41 : decode cX1_isMoreAhead 41 = .ok (.if_icmp .ge 7, 3) := by decide +kernel
theorem dX1_isMoreAhead_44 : decode cX1_isMoreAhead 44 = .ok (.iconst 1, 1) := by decide +kernel
theorem dX1_isMoreAhead_45 : decode cX1_isMoreAhead 45 = .ok (.goto 4, 3) := by decide +kernel
theorem dX1_isMoreAhead_48 : decode cX1_isMoreAhead 48 = .ok (.iconst 0, 1) := by decide +kernel
theorem dX1_isMoreAhead_49 : decode cX1_isMoreAhead 49 = .ok (.ireturn, 1) := by decide +kernel
theorem dX1_sign_0 : decode cX1_sign 0 = .ok (.aload_n 0, 1) := by decide +kernel
theorem dX1_sign_1 : decode cX1_sign 1 = .ok (.getfield 19, 3) := by decide +kernel
theorem dX1_sign_4 : decode cX1_sign 4 = .ok (.ifCond .lt 38, 3) := by decide +kernel
theorem dX1_sign_7 : decode cX1_sign 7 = .ok (.aload_n 0, 1) := by decide +kernel
theorem dX1_sign_8 : decode cX1_sign 8 = .ok (.getfield 19, 3) := by decide +kernel
theorem dX1_sign_11 : decode cX1_sign 11 = .ok (.aload_n 0, 1) := by decide +kernel
theorem dX1_sign_12 : decode cX1_sign 12 = .ok (.getfield 15, 3) := by decide +kernel
theorem dX1_sign_15 : decode cX1_sign 15 = .ok (.if_icmp .ge 27, 3) := by decide +kernel
theorem dX1_sign_18 : decode cX1_sign 18 = .ok (.aload_n 0, 1) := by decide +kernel
theorem dX1_sign_19 : decode cX1_sign 19 = .ok (.getfield 19, 3) := by decide +kernel
theorem dX1_sign_22 : decode cX1_sign 22 = .ok (.aload_n 0, 1) := by decide +kernel
theorem dX1_sign_23 : decode cX1_sign 23 = .ok (.getfield 9, 3) := by decide +kernel
theorem dX1_sign_26 : decode cX1_sign 26 = .ok (.arraylength, 1) := by decide +kernel
theorem dX1_sign_27 : decode cX1_sign 27 = .ok (.if_icmp .ge 15, 3) := by decide +kernel
theorem dX1_sign_30 : decode cX1_sign 30 = .ok (.aload_n 0, 1) := by decide +kernel
theorem dX1_sign_31 : decode cX1_sign 31 = .ok (.getfield 9, 3) := by decide +kernel
theorem dX1_sign_34 : decode cX1_sign 34 = .ok (.aload_n 0, 1) := by decide +kernel
theorem dX1_sign_35 : decode cX1_sign 35 = .ok (.getfield 19, 3) := by decide +kernel
theorem dX1_sign_38 : decode cX1_sign 38 = .ok (.iaload, 1) := by decide +kernel
theorem dX1_sign_39 : decode cX1_sign 39 = .ok (.goto 5, 3) := by decide +kernel
theorem dX1_sign_42 : decode cX1_sign 42 = .ok (.bipush 32, 2) := by decide +kernel
theorem dX1_sign_44 : decode cX1_sign 44 = .ok (.ireturn, 1) := by decide +kernel
theorem dX1_readItem_0 : decode cX1_readItem 0 = .ok (.aload_n 0, 1) := by decide +kernel
theorem dX1_readItem_1 : decode cX1_readItem 1 = .ok (.invokevirtual 63, 3) := by decide +kernel
theorem dX1_readItem_4 : decode cX1_readItem 4 = .ok (.istore_n 2, 1) := by decide +kernel
theorem dX1_readItem_5 : decode cX1_readItem 5 = .ok (.iload_n 2, 1) := by decide +kernel
theorem dX1_readItem_6 : decode cX1_readItem 6 = .ok (.invokestatic 67, 3) := by decide +kernel
theorem dX1_readItem_9 : decode cX1_readItem 9 = .ok (.istore_n 3, 1) := by decide +kernel
theorem dX1_readItem_10 : decode cX1_readItem 10 = .ok (.aload_n 0, 1) := by decide +kernel
theorem dX1_readItem_11 : decode cX1_readItem 11 = .ok (.getfield 25, 3) := by decide +kernel
theorem dX1_readItem_14 : decode cX1_readItem 14 = .ok (.ifCond .ne 17, 3) := by decide +kernel
theorem dX1_readItem_17 : decode cX1_readItem 17 = .ok (.iload_n 2, 1) := by decide +kernel
theorem dX1_readItem_18 : decode cX1_readItem 18 = .ok (.bipush 104, 2) := by decide +kernel
theorem dX1_readItem_20 : decode cX1_readItem 20 = .ok (.if_icmp .ne 11, 3) := by decide +kernel
theorem dX1_readItem_23 : decode cX1_readItem 23 = .ok (.aload_n 0, 1) := by decide +kernel
theorem dX1_readItem_24 : decode cX1_readItem 24 = .ok (.aload_n 1, 1) := by decide +kernel
theorem dX1_readItem_25 : decode cX1_readItem 25 = .ok (.invokevirtual 70, 3) := by decide +kernel
theorem dX1_readItem_28 : decode cX1_readItem 28 = .ok (.goto 85, 3) := by decide +kernel
theorem dX1_readItem_31 : decode cX1_readItem 31 = .ok (.aload_n 0, 1) := by decide +kernel
theorem dX1_readItem_32 : decode cX1_readItem 32 = .ok (.getfield 25, 3) := by decide +kernel
theorem dX1_readItem_35 : decode cX1_readItem 35 = .ok (.ifCond .eq 32, 3) := by decide +kernel
theorem dX1_readItem_38 : decode cX1_readItem 38 = .ok (.iload_n 2, 1) := by decide +kernel
theorem dX1_readItem_39 : decode cX1_readItem 39 = .ok (.bipush 97, 2) := by decide +kernel
theorem dX1_readItem_41 : decode cX1_readItem 41 = .ok (.if_icmp .ne 26, 3) := by decide +kernel
theorem dX1_readItem_44 : decode cX1_readItem 44 = .ok (.aload_n 1, 1) := by decide +kernel
theorem dX1_readItem_45 : decode cX1_readItem 45 = .ok (.getfield 73, 3) := by decide +kernel
theorem dX1_readItem_48 : decode cX1_readItem 48 = .ok (.ifCond .le 19, 3) := by decide +kernel
theorem dX1_readItem_51 : decode cX1_readItem 51 = .ok (.aload_n 1, 1) := by decide +kernel
theorem dX1_readItem_52 : decode cX1_readItem 52 = .ok (.getfield 46, 3) := by decide +kernel
theorem dX1_readItem_55 : decode cX1_readItem 55 = .ok (.iconst 4, 1) := by decide +kernel
theorem dX1_readItem_56 : decode cX1_readItem 56 = .ok (.if_icmp .ge 11, 3) := by decide +kernel
theorem dX1_readItem_59 : decode cX1_readItem 59 = .ok (.aload_n 0, 1) := by decide +kernel
theorem dX1_readItem_60 : decode cX1_readItem 60 = .ok (.aload_n 1, 1) := by decide +kernel
theorem dX1_readItem_61 : decode cX1_readItem 61 = .ok (.invokevirtual 76, 3) := by decide +kernel
theorem dX1_readItem_64 : decode cX1_readItem 64 = .ok (.goto 49, 3) := by decide +kernel
theorem dX1_readItem_67 : decode cX1_readItem 67 = .ok (.aload_n 0, 1) := by decide +kernel
theorem dX1_readItem_68 : decode cX1_readItem 68 = .ok (.getfield 25, 3) := by decide +kernel
theorem dX1_readItem_71 : decode cX1_readItem 71 = .ok (.ifCond .eq 34, 3) := by decide +kernel
theorem dX1_readItem_74 : decode cX1_readItem 74 = .ok (.iload_n 3, 1) := by decide +kernel
theorem dX1_readItem_75 : decode cX1_readItem 75 = .ok (.bipush (-9), 2) := by decide +kernel
theorem dX1_readItem_77 : decode cX1_readItem 77 = .ok (.if_icmp .eq 28, 3) := by decide +kernel
theorem dX1_readItem_80 : decode cX1_readItem 80 = .ok (.aload_n 1, 1) := by decide +kernel
theorem dX1_readItem_81 : decode cX1_readItem 81 = .ok (.getfield 46, 3) := by decide +kernel
theorem dX1_readItem_84 : decode cX1_readItem 84 = .ok (.ifCond .ne 21, 3) := by decide +kernel
theorem dX1_readItem_87 : decode cX1_readItem 87 = .ok (.aload_n 1, 1) := by decide +kernel
theorem dX1_readItem_88 : decode cX1_readItem 88 = .ok (.getfield 73, 3) := by decide +kernel
theorem dX1_readItem_91 : decode cX1_readItem 91 = .ok (.bipush 6, 2) := by decide +kernel
theorem dX1_readItem_93 : decode cX1_readItem 93 = .ok (.if_icmp .ge 12, 3) := by decide +kernel
theorem dX1_readItem_96 : decode cX1_readItem 96 = .ok (.aload_n 0, 1) := by decide +kernel
theorem dX1_readItem_97 : decode cX1_readItem 97 = .ok (.aload_n 1, 1) := by decide +kernel
theorem dX1_readItem_98 : decode cX1_readItem 98 = .ok (.iload_n 3, 1) := by decide +kernel
theorem dX1_readItem_99 : decode cX1_readItem 99 = .ok (.invokevirtual 79, 3) := by decide +kernel
theorem dX1_readItem_102 : decode cX1_readItem 102 = .ok (.goto 11, 3) := by decide +kernel
theorem dX1_readItem_105 : decode cX1_readItem 105 = .ok (.aload_n 0, 1) := by decide +kernel
theorem dX1_readItem_106 : decode cX1_readItem 106 = .ok (.aload_n 0, 1) := by decide +kernel
theorem dX1_readItem_107 : decode cX1_readItem 107 = .ok (.getfield 19, 3) := by decide +kernel
theorem dX1_readItem_110 : decode cX1_readItem 110 = .ok (.putfield 22, 3) := by decide +kernel
theorem dX1_readItem_113 : decode cX1_readItem 113 = .ok (.return_, 1) := by decide +kernel
theorem dX1_readHead_0 : decode cX1_readHead 0 = .ok (.aload_n 0, 1) := by decide +kernel
theorem dX1_readHead_1 : decode cX1_readHead 1 = .ok (.dup, 1) := by decide +kernel
theorem dX1_readHead_2 : decode cX1_readHead 2 = .ok (.getfield 19, 3) := by decide +kernel
theorem dX1_readHead_5 : decode cX1_readHead 5 = .ok (.iconst 1, 1) := by decide +kernel
theorem dX1_readHead_6 : decode cX1_readHead 6 = .ok (.iadd, 1) := by decide +kernel
theorem dX1_readHead_7 : decode cX1_readHead 7 = .ok (.putfield 19, 3) := by decide +kernel
theorem dX1_readHead_10 : decode cX1_readHead 10 = .ok (.aload_n 0, 1) := by decide +kernel
theorem dX1_readHead_11 : decode cX1_readHead 11 = .ok (.iconst 0, 1) := by decide +kernel
theorem dX1_readHead_12 : decode cX1_readHead 12 = .ok (.iconst 1, 1) := by decide +kernel
theorem dX1_readHead_13 : decode cX1_readHead 13 = .ok (.invokevirtual 83, 3) := by decide +kernel
theorem dX1_readHead_16 : decode cX1_readHead 16 = .ok (.istore_n 2, 1) := by decide +kernel
theorem dX1_readHead_17 : decode cX1_readHead 17 = .ok (.aload_n 0, 1) := by decide +kernel
theorem dX1_readHead_18 : decode cX1_readHead 18 = .ok (.iconst 1, 1) := by decide +kernel
theorem dX1_readHead_19 : decode cX1_readHead 19 = .ok (.putfield 25, 3) := by decide +kernel
theorem dX1_readHead_22 : decode cX1_readHead 22 = .ok (.aload_n 1, 1) := by decide +kernel
theorem dX1_readHead_23 : decode cX1_readHead 23 = .ok (.aload_n 1, 1) := by decide +kernel
theorem dX1_readHead_24 : decode cX1_readHead 24 = .ok (.getfield 86, 3) := by decide +kernel
theorem dX1_readHead_27 : decode cX1_readHead 27 = .ok (.iload_n 2, 1) := by decide +kernel
theorem dX1_readHead_28 : decode cX1_readHead 28 = .ok (.invokestatic 90, 3) := by decide +kernel
theorem dX1_readHead_31 : decode cX1_readHead 31 = .ok (.putfield 86, 3) := by decide +kernel
theorem dX1_readHead_34 : decode cX1_readHead 34 = .ok (.return_, 1) := by decide +kernel
theorem dX1_readRope_0 : decode cX1_readRope 0 = .ok (.aload_n 0, 1) := by decide +kernel
theorem dX1_readRope_1 : decode cX1_readRope 1 = .ok (.dup, 1) := by decide +kernel
theorem dX1_readRope_2 : decode cX1_readRope 2 = .ok (.getfield 19, 3) := by decide +kernel
theorem dX1_readRope_5 : decode cX1_readRope 5 = .ok (.iconst 1, 1) := by decide +kernel
theorem dX1_readRope_6 : decode cX1_readRope 6 = .ok (.iadd, 1) := by decide +kernel
theorem dX1_readRope_7 : decode cX1_readRope 7 = .ok (.putfield 19, 3) := by decide +kernel
theorem dX1_readRope_10 : decode cX1_readRope 10 = .ok (.aload_n 0, 1) := by decide +kernel
theorem dX1_readRope_11 : decode cX1_readRope 11 = .ok (.iconst 1, 1) := by decide +kernel
theorem dX1_readRope_12 : decode cX1_readRope 12 = .ok (.bipush 9, 2) := by decide +kernel
theorem dX1_readRope_14 : decode cX1_readRope 14 = .ok (.invokevirtual 83, 3) := by decide +kernel
theorem dX1_readRope_17 : decode cX1_readRope 17 = .ok (.istore_n 3, 1) := by decide +kernel
theorem dX1_readRope_18 : decode cX1_readRope 18 = .ok (.aload_n 0, 1) := by decide +kernel
theorem dX1_readRope_19 : decode cX1_readRope 19 = .ok (.iconst 0, 1) := by decide +kernel
theorem dX1_readRope_20 : decode cX1_readRope 20 = .ok (.iconst 5, 1) := by decide +kernel
theorem dX1_readRope_21 : decode cX1_readRope 21 = .ok (.invokevirtual 83, 3) := by decide +kernel
theorem dX1_readRope_24 : decode cX1_readRope 24 = .ok (.istore 4, 2) := by decide +kernel
theorem dX1_readRope_26 : decode cX1_readRope 26 = .ok (.aload_n 0, 1) := by decide +kernel
theorem dX1_readRope_27 : decode cX1_readRope 27 = .ok (.iconst 0, 1) := by decide +kernel
theorem dX1_readRope_28 : decode cX1_readRope 28 = .ok (.iload_n 3, 1) := by decide +kernel
theorem dX1_readRope_29 : decode cX1_readRope 29 = .ok (.invokevirtual 83, 3) := by decide +kernel
theorem dX1_readRope_32 : decode cX1_readRope 32 = .ok (.istore 5, 2) := by decide +kernel
theorem dX1_readRope_34 : decode cX1_readRope 34 = .ok (.aload_n 0, 1) := by decide +kernel
theorem dX1_readRope_35 : decode cX1_readRope 35 = .ok (.getfield 22, 3) := by decide +kernel
theorem dX1_readRope_38 : decode cX1_readRope 38 = .ok (.bipush (-9), 2) := by decide +kernel
theorem dX1_readRope_40 : decode cX1_readRope 40 = .ok (.if_icmp .ne 13, 3) := by decide +kernel
theorem dX1_readRope_43 : decode cX1_readRope 43 = .ok (.aload_n 1, 1) := by decide +kernel
theorem dX1_readRope_44 : decode cX1_readRope 44 = .ok (.iload_n 2, 1) := by decide +kernel
theorem dX1_readRope_45 : decode cX1_readRope 45 = .ok (.iload_n 3, 1) := by decide +kernel
theorem dX1_readRope_46 : decode cX1_readRope 46 = .ok (.iload 4, 2) := by decide +kernel
theorem dX1_readRope_48 : decode cX1_readRope 48 = .ok (.iload 5, 2) := by decide +kernel
theorem dX1_readRope_50 : decode cX1_readRope 50 = .ok (.invokevirtual 96, 3) := by decide +kernel
theorem dX1_readRope_53 : decode cX1_readRope 53 = .ok (.return_, 1) := by decide +kernel
theorem dX1_readAct_0 : decode cX1_readAct 0 = .ok (.aload_n 0, 1) := by decide +kernel
theorem dX1_readAct_1 : decode cX1_readAct 1 = .ok (.dup, 1) := by decide +kernel
theorem dX1_readAct_2 : decode cX1_readAct 2 = .ok (.getfield 19, 3) := by decide +kernel
theorem dX1_readAct_5 : decode cX1_readAct 5 = .ok (.iconst 1, 1) := by decide +kernel
theorem dX1_readAct_6 : decode cX1_readAct 6 = .ok (.iadd, 1) := by decide +kernel
theorem dX1_readAct_7 : decode cX1_readAct 7 = .ok (.putfield 19, 3) := by decide +kernel
theorem dX1_readAct_10 : decode cX1_readAct 10 = .ok (.aload_n 0, 1) := by decide +kernel
theorem dX1_readAct_11 : decode cX1_readAct 11 = .ok (.invokevirtual 100, 3) := by decide +kernel
theorem dX1_readAct_14 : decode cX1_readAct 14 = .ok (.istore_n 2, 1) := by decide +kernel
theorem dX1_readAct_15 : decode cX1_readAct 15 = .ok (.aload_n 0, 1) := by decide +kernel
theorem dX1_readAct_16 : decode cX1_readAct 16 = .ok (.invokevirtual 100, 3) := by decide +kernel
theorem dX1_readAct_19 : decode cX1_readAct 19 = .ok (.istore_n 3, 1) := by decide +kernel
theorem dX1_readAct_20 : decode cX1_readAct 20 = .ok (.aload_n 0, 1) := by decide +kernel
theorem dX1_readAct_21 : decode cX1_readAct 21 = .ok (.getfield 22, 3) := by decide +kernel
theorem dX1_readAct_24 : decode cX1_readAct 24 = .ok (.bipush (-9), 2) := by decide +kernel
theorem dX1_readAct_26 : decode cX1_readAct 26 = .ok (.if_icmp .ne 9, 3) := by decide +kernel
theorem dX1_readAct_29 : decode cX1_readAct 29 = .ok (.aload_n 1, 1) := by decide +kernel
theorem dX1_readAct_30 : decode cX1_readAct 30 = .ok (.iload_n 2, 1) := by decide +kernel
theorem dX1_readAct_31 : decode cX1_readAct 31 = .ok (.iload_n 3, 1) := by decide +kernel
theorem dX1_readAct_32 : decode cX1_readAct 32 = .ok (.invokevirtual 103, 3) := by decide +kernel
theorem dX1_readAct_35 : decode cX1_readAct 35 = .ok (.return_, 1) := by decide +kernel
theorem dX1_ropeSet_0 : decode cX1_ropeSet 0 = .ok (.aload_n 0, 1) := by decide +kernel
theorem dX1_ropeSet_1 : decode cX1_ropeSet 1 = .ok (.getfield 19, 3) := by decide +kernel
theorem dX1_ropeSet_4 : decode cX1_ropeSet 4 = .ok (.istore_n 1, 1) := by decide +kernel
theorem dX1_ropeSet_5 : decode cX1_ropeSet 5 = .ok (.aload_n 0, 1) := by decide +kernel
theorem dX1_ropeSet_6 : decode cX1_ropeSet 6 = .ok (.iconst 0, 1) := by decide +kernel
theorem dX1_ropeSet_7 : decode cX1_ropeSet 7 = .ok (.bipush 9, 2) := by decide +kernel
theorem dX1_ropeSet_9 : decode cX1_ropeSet 9 = .ok (.invokevirtual 83, 3) := by decide +kernel
theorem dX1_ropeSet_12 : decode cX1_ropeSet 12 = .ok (.istore_n 2, 1) := by decide +kernel
theorem dX1_ropeSet_13 : decode cX1_ropeSet 13 = .ok (.bipush 10, 2) := by decide +kernel
theorem dX1_ropeSet_15 : decode cX1_ropeSet 15 = .ok (.iload_n 2, 1) := by decide +kernel
theorem dX1_ropeSet_16 : decode cX1_ropeSet 16 = .ok (.imul, 1) := by decide +kernel
theorem dX1_ropeSet_17 : decode cX1_ropeSet 17 = .ok (.aload_n 0, 1) := by decide +kernel
theorem dX1_ropeSet_18 : decode cX1_ropeSet 18 = .ok (.iconst 0, 1) := by decide +kernel
theorem dX1_ropeSet_19 : decode cX1_ropeSet 19 = .ok (.bipush 9, 2) := by decide +kernel
theorem dX1_ropeSet_21 : decode cX1_ropeSet 21 = .ok (.invokevirtual 83, 3) := by decide +kernel
theorem dX1_ropeSet_24 : decode cX1_ropeSet 24 = .ok (.iadd, 1) := by decide +kernel
theorem dX1_ropeSet_25 : decode cX1_ropeSet 25 = .ok (.istore_n 3, 1) := by decide +kernel
theorem dX1_ropeSet_26 : decode cX1_ropeSet 26 = .ok (.aload_n 0, 1) := by decide +kernel
theorem dX1_ropeSet_27 : decode cX1_ropeSet 27 = .ok (.getfield 22, 3) := by decide +kernel
theorem dX1_ropeSet_30 : decode cX1_ropeSet 30 = .ok (.bipush (-9), 2) := by decide +kernel
theorem dX1_ropeSet_32 : decode cX1_ropeSet 32 = .ok (.if_icmp .ne 14, 3) := by decide +kernel
theorem dX1_ropeSet_35 : decode cX1_ropeSet 35 = .ok (.iload_n 3, 1) := by decide +kernel
theorem dX1_ropeSet_36 : decode cX1_ropeSet 36 = .ok (.bipush 63, 2) := by decide +kernel
theorem dX1_ropeSet_38 : decode cX1_ropeSet 38 = .ok (.if_icmp .le 8, 3) := by decide +kernel
theorem dX1_ropeSet_41 : decode cX1_ropeSet 41 = .ok (.aload_n 0, 1) := by decide +kernel
theorem dX1_ropeSet_42 : decode cX1_ropeSet 42 = .ok (.iload_n 1, 1) := by decide +kernel
theorem dX1_ropeSet_43 : decode cX1_ropeSet 43 = .ok (.putfield 22, 3) := by decide +kernel
theorem dX1_ropeSet_46 : decode cX1_ropeSet 46 = .ok (.iload_n 3, 1) := by decide +kernel
theorem dX1_ropeSet_47 : decode cX1_ropeSet 47 = .ok (.ireturn, 1) := by decide +kernel
theorem dX1_figure_0 : decode cX1_figure 0 = .ok (.aload_n 0, 1) := by decide +kernel
theorem dX1_figure_1 : decode cX1_figure 1 = .ok (.getfield 22, 3) := by decide +kernel
theorem dX1_figure_4 : decode cX1_figure 4 = .ok (.bipush (-9), 2) := by decide +kernel
theorem dX1_figure_6 : decode cX1_figure 6 = .ok (.if_icmp .eq 5, 3) := by decide +kernel
theorem dX1_figure_9 : decode cX1_figure 9 = .ok (.iconst 0, 1) := by decide +kernel
theorem dX1_figure_10 : decode cX1_figure 10 = .ok (.ireturn, 1) := by decide +kernel
theorem dX1_figure_11 : decode cX1_figure 11 = .ok (.aload_n 0, 1) := by decide +kernel
theorem dX1_figure_12 : decode cX1_figure 12 = .ok (.getfield 19, 3) := by decide +kernel
theorem dX1_figure_15 : decode cX1_figure 15 = .ok (.aload_n 0, 1) := by decide +kernel
theorem dX1_figure_16 : decode cX1_figure 16 = .ok (.getfield 15, 3) := by decide +kernel
theorem dX1_figure_19 : decode cX1_figure 19 = .ok (.if_icmp .lt 13, 3) := by decide +kernel
theorem dX1_figure_22 : decode cX1_figure 22 = .ok (.aload_n 0, 1) := by decide +kernel
theorem dX1_figure_23 : decode cX1_figure 23 = .ok (.aload_n 0, 1) := by decide +kernel
theorem dX1_figure_24 : decode cX1_figure 24 = .ok (.getfield 15, 3) := by decide +kernel
theorem dX1_figure_27 : decode cX1_figure 27 = .ok (.putfield 22, 3) := by decide +kernel
theorem dX1_figure_30 : decode cX1_figure 30 = .ok (.iconst 0, 1) := by decide +kernel
theorem dX1_figure_31 : decode cX1_figure 31 = .ok (.ireturn, 1) := by decide +kernel
theorem dX1_figure_32 : decode cX1_figure 32 = .ok (.aload_n 0, 1) := by decide +kernel
theorem dX1_figure_33 : decode cX1_figure 33 = .ok (.invokevirtual 63, 3) := by decide +kernel
theorem dX1_figure_36 : decode cX1_figure 36 = .ok (.bipush 48, 2) := by decide +kernel
theorem dX1_figure_38 : decode cX1_figure 38 = .ok (.isub, 1) := by decide +kernel
theorem dX1_figure_39 : decode cX1_figure 39 = .ok (.istore_n 3, 1) := by decide +kernel
theorem dX1_figure_40 : decode cX1_figure 40 = .ok (.iload_n 3, 1) := by decide +kernel
theorem dX1_figure_41 : decode cX1_figure 41 = .ok (.iload_n 1, 1) := by decide +kernel
theorem dX1_figure_42 : decode cX1_figure 42 = .ok (.if_icmp .lt 8, 3) := by decide +kernel
theorem dX1_figure_45 : decode cX1_figure 45 = .ok (.iload_n 3, 1) := by decide +kernel
theorem dX1_figure_46 : decode cX1_figure 46 = .ok (.iload_n 2, 1) := by decide +kernel
theorem dX1_figure_47 : decode cX1_figure 47 = .ok (.if_icmp .le 13, 3) := by decide +kernel
theorem dX1_figure_50 : decode cX1_figure 50 = .ok (.aload_n 0, 1) := by decide +kernel
theorem dX1_figure_51 : decode cX1_figure 51 = .ok (.aload_n 0, 1) := by decide +kernel
theorem dX1_figure_52 : decode cX1_figure 52 = .ok (.getfield 19, 3) := by decide +kernel
theorem dX1_figure_55 : decode cX1_figure 55 = .ok (.putfield 22, 3) := by decide +kernel
theorem dX1_figure_58 : decode cX1_figure 58 = .ok (.iconst 0, 1) := by decide +kernel
theorem dX1_figure_59 : decode cX1_figure 59 = .ok (.ireturn, 1) := by decide +kernel
theorem dX1_figure_60 : decode cX1_figure 60 = .ok (.aload_n 0, 1) := by decide +kernel
theorem dX1_figure_61 : decode cX1_figure 61 = .ok (.dup, 1) := by decide +kernel
theorem dX1_figure_62 : decode cX1_figure 62 = .ok (.getfield 19, 3) := by decide +kernel
theorem dX1_figure_65 : decode cX1_figure 65 = .ok (.iconst 1, 1) := by decide +kernel
theorem dX1_figure_66 : decode cX1_figure 66 = .ok (.iadd, 1) := by decide +kernel
theorem dX1_figure_67 : decode cX1_figure 67 = .ok (.putfield 19, 3) := by decide +kernel
theorem dX1_figure_70 : decode cX1_figure 70 = .ok (.iload_n 3, 1) := by decide +kernel
theorem dX1_figure_71 : decode cX1_figure 71 = .ok (.ireturn, 1) := by decide +kernel
theorem dX1_kindOfLetter_0 : decode cX1_kindOfLetter 0 = .ok (.iload_n 0, 1) := by decide +kernel
theorem dX1_kindOfLetter_1 : decode cX1_kindOfLetter 1 = .ok (.tableswitch 67 110 119 #[61, 67, 59, 67, 55, 57, 63, 67, 67, 65], 55) := by decide +kernel
theorem dX1_kindOfLetter_56 : decode cX1_kindOfLetter 56 = .ok (.iconst 0, 1) := by decide +kernel
theorem dX1_kindOfLetter_57 : decode cX1_kindOfLetter 57 = .ok (.ireturn, 1) := by decide +kernel
theorem dX1_kindOfLetter_58 : decode cX1_kindOfLetter 58 = .ok (.iconst 1, 1) := by decide +kernel
theorem dX1_kindOfLetter_59 : decode cX1_kindOfLetter 59 = .ok (.ireturn, 1) := by decide +kernel
theorem dX1_kindOfLetter_60 : decode cX1_kindOfLetter 60 = .ok (.iconst 2, 1) := by decide +kernel
theorem dX1_kindOfLetter_61 : decode cX1_kindOfLetter 61 = .ok (.ireturn, 1) := by decide +kernel
theorem dX1_kindOfLetter_62 : decode cX1_kindOfLetter 62 = .ok (.iconst 3, 1) := by decide +kernel
theorem dX1_kindOfLetter_63 : decode cX1_kindOfLetter 63 = .ok (.ireturn, 1) := by decide +kernel
theorem dX1_kindOfLetter_64 : decode cX1_kindOfLetter 64 = .ok (.iconst 4, 1) := by decide +kernel
theorem dX1_kindOfLetter_65 : decode cX1_kindOfLetter 65 = .ok (.ireturn, 1) := by decide +kernel
theorem dX1_kindOfLetter_66 : decode cX1_kindOfLetter 66 = .ok (.iconst 5, 1) := by decide +kernel
theorem dX1_kindOfLetter_67 : decode cX1_kindOfLetter 67 = .ok (.ireturn, 1) := by decide +kernel
theorem dX1_kindOfLetter_68 : decode cX1_kindOfLetter 68 = .ok (.bipush (-9), 2) := by decide +kernel
theorem dX1_kindOfLetter_70 : decode cX1_kindOfLetter 70 = .ok (.ireturn, 1) := by decide +kernel
theorem dX2_init_0 : decode cX2_init 0 = .ok (.aload_n 0, 1) := by decide +kernel
theorem dX2_init_1 : decode cX2_init 1 = .ok (.invokespecial 3, 3) := by decide +kernel
theorem dX2_init_4 : decode cX2_init 4 = .ok (.aload_n 0, 1) := by decide +kernel
theorem dX2_init_5 : decode cX2_init 5 = .ok (.iconst 0, 1) := by decide +kernel
theorem dX2_init_6 : decode cX2_init 6 = .ok (.putfield 9, 3) := by decide +kernel
theorem dX2_init_9 : decode cX2_init 9 = .ok (.aload_n 0, 1) := by decide +kernel
theorem dX2_init_10 : decode cX2_init 10 = .ok (.iconst 0, 1) := by decide +kernel
theorem dX2_init_11 : decode cX2_init 11 = .ok (.putfield 15, 3) := by decide +kernel
theorem dX2_init_14 : decode cX2_init 14 = .ok (.aload_n 0, 1) := by decide +kernel
theorem dX2_init_15 : decode cX2_init 15 = .ok (.lconst 0, 1) := by decide +kernel
theorem dX2_init_16 : decode cX2_init 16 = .ok (.putfield 18, 3) := by decide +kernel
theorem dX2_init_19 : decode cX2_init 19 = .ok (.aload_n 0, 1) := by decide +kernel
theorem dX2_init_20 : decode cX2_init 20 = .ok (.iconst 0, 1) := by decide +kernel
theorem dX2_init_21 : decode cX2_init 21 = .ok (.putfield 22, 3) := by decide +kernel
theorem dX2_init_24 : decode cX2_init 24 = .ok (.aload_n 0, 1) := by decide +kernel
theorem dX2_init_25 : decode cX2_init 25 = .ok (.bipush 6, 2) := by decide +kernel
theorem dX2_init_27 : decode cX2_init 27 = .ok (.newarray .int, 2) := by decide +kernel
theorem dX2_init_29 : decode cX2_init 29 = .ok (.putfield 25, 3) := by decide +kernel
theorem dX2_init_32 : decode cX2_init 32 = .ok (.aload_n 0, 1) := by decide +kernel
theorem dX2_init_33 : decode cX2_init 33 = .ok (.bipush 6, 2) := by decide +kernel
theorem dX2_init_35 : decode cX2_init 35 = .ok (.newarray .int, 2) := by decide +kernel
theorem dX2_init_37 : decode cX2_init 37 = .ok (.putfield 29, 3) := by decide +kernel
theorem dX2_init_40 : decode cX2_init 40 = .ok (.aload_n 0, 1) := by decide +kernel
theorem dX2_init_41 : decode cX2_init 41 = .ok (.bipush 6, 2) := by decide +kernel
theorem dX2_init_43 : decode cX2_init 43 = .ok (.newarray .int, 2) := by decide +kernel
theorem dX2_init_45 : decode cX2_init 45 = .ok (.putfield 32, 3) := by decide +kernel
theorem dX2_init_48 : decode cX2_init 48 = .ok (.aload_n 0, 1) := by decide +kernel
theorem dX2_init_49 : decode cX2_init 49 = .ok (.iconst 4, 1) := by decide +kernel
theorem dX2_init_50 : decode cX2_init 50 = .ok (.newarray .int, 2) := by decide +kernel
theorem dX2_init_52 : decode cX2_init 52 = .ok (.putfield 35, 3) := by decide +kernel
theorem dX2_init_55 : decode cX2_init 55 = .ok (.aload_n 0, 1) := by decide +kernel
theorem dX2_init_56 : decode cX2_init 56 = .ok (.iconst 4, 1) := by decide +kernel
theorem dX2_init_57 : decode cX2_init 57 = .ok (.newarray .int, 2) := by decide +kernel
theorem dX2_init_59 : decode cX2_init 59 = .ok (.putfield 38, 3) := by decide +kernel
theorem dX2_init_62 : decode cX2_init 62 = .ok (.return_, 1) := by decide +kernel
theorem dX2_clear_0 : decode cX2_clear 0 = .ok (.aload_n 0, 1) := by decide +kernel
theorem dX2_clear_1 : decode cX2_clear 1 = .ok (.iconst 0, 1) := by decide +kernel
theorem dX2_clear_2 : decode cX2_clear 2 = .ok (.putfield 9, 3) := by decide +kernel
theorem dX2_clear_5 : decode cX2_clear 5 = .ok (.aload_n 0, 1) := by decide +kernel
theorem dX2_clear_6 : decode cX2_clear 6 = .ok (.iconst 0, 1) := by decide +kernel
theorem dX2_clear_7 : decode cX2_clear 7 = .ok (.putfield 15, 3) := by decide +kernel
theorem dX2_clear_10 : decode cX2_clear 10 = .ok (.aload_n 0, 1) := by decide +kernel
theorem dX2_clear_11 : decode cX2_clear 11 = .ok (.lconst 0, 1) := by decide +kernel
theorem dX2_clear_12 : decode cX2_clear 12 = .ok (.putfield 18, 3) := by decide +kernel
theorem dX2_clear_15 : decode cX2_clear 15 = .ok (.aload_n 0, 1) := by decide +kernel
theorem dX2_clear_16 : decode cX2_clear 16 = .ok (.iconst 0, 1) := by decide +kernel
theorem dX2_clear_17 : decode cX2_clear 17 = .ok (.putfield 22, 3) := by decide +kernel
theorem dX2_clear_20 : decode cX2_clear 20 = .ok (.return_, 1) := by decide +kernel
theorem dX2_addRope_0 : decode cX2_addRope 0 = .ok (.aload_n 0, 1) := by decide +kernel
theorem dX2_addRope_1 : decode cX2_addRope 1 = .ok (.getfield 9, 3) := by decide +kernel
theorem dX2_addRope_4 : decode cX2_addRope 4 = .ok (.ifCond .lt 69, 3) := by decide +kernel
theorem dX2_addRope_7 : decode cX2_addRope 7 = .ok (.aload_n 0, 1) := by decide +kernel
theorem dX2_addRope_8 : decode cX2_addRope 8 = .ok (.getfield 9, 3) := by decide +kernel
theorem dX2_addRope_11 : decode cX2_addRope 11 = .ok (.bipush 6, 2) := by decide +kernel
theorem dX2_addRope_13 : decode cX2_addRope 13 = .ok (.if_icmp .ge 60, 3) := by decide +kernel
theorem dX2_addRope_16 : decode cX2_addRope 16 = .ok (.aload_n 0, 1) := by decide +kernel
theorem dX2_addRope_17 : decode cX2_addRope 17 = .ok (.getfield 25, 3) := by decide +kernel
theorem dX2_addRope_20 : decode cX2_addRope 20 = .ok (.aload_n 0, 1) := by decide +kernel
theorem dX2_addRope_21 : decode cX2_addRope 21 = .ok (.getfield 9, 3) := by decide +kernel
theorem dX2_addRope_24 : decode cX2_addRope 24 = .ok (.iload_n 1, 1) := by decide +kernel
theorem dX2_addRope_25 : decode cX2_addRope 25 = .ok (.iastore, 1) := by decide +kernel
theorem dX2_addRope_26 : decode cX2_addRope 26 = .ok (.aload_n 0, 1) := by decide +kernel
theorem dX2_addRope_27 : decode cX2_addRope 27 = .ok (.getfield 29, 3) := by decide +kernel
theorem dX2_addRope_30 : decode cX2_addRope 30 = .ok (.aload_n 0, 1) := by decide +kernel
theorem dX2_addRope_31 : decode cX2_addRope 31 = .ok (.getfield 9, 3) := by decide +kernel
theorem dX2_addRope_34 : decode cX2_addRope 34 = .ok (.iload_n 2, 1) := by decide +kernel
theorem dX2_addRope_35 : decode cX2_addRope 35 = .ok (.iastore, 1) := by decide +kernel
theorem dX2_addRope_36 : decode cX2_addRope 36 = .ok (.aload_n 0, 1) := by decide +kernel
theorem dX2_addRope_37 : decode cX2_addRope 37 = .ok (.getfield 32, 3) := by decide +kernel
theorem dX2_addRope_40 : decode cX2_addRope 40 = .ok (.aload_n 0, 1) := by decide +kernel
theorem dX2_addRope_41 : decode cX2_addRope 41 = .ok (.getfield 9, 3) := by decide +kernel
theorem dX2_addRope_44 : decode cX2_addRope 44 = .ok (.iload_n 3, 1) := by decide +kernel
theorem dX2_addRope_45 : decode cX2_addRope 45 = .ok (.iastore, 1) := by decide +kernel
theorem dX2_addRope_46 : decode cX2_addRope 46 = .ok (.aload_n 0, 1) := by decide +kernel
theorem dX2_addRope_47 : decode cX2_addRope 47 = .ok (.aload_n 0, 1) := by decide +kernel
theorem dX2_addRope_48 : decode cX2_addRope 48 = .ok (.getfield 18, 3) := by decide +kernel
theorem dX2_addRope_51 : decode cX2_addRope 51 = .ok (.aload_n 0, 1) := by decide +kernel
theorem dX2_addRope_52 : decode cX2_addRope 52 = .ok (.getfield 9, 3) := by decide +kernel
theorem dX2_addRope_55 : decode cX2_addRope 55 = .ok (.iload 4, 2) := by decide +kernel
theorem dX2_addRope_57 : decode cX2_addRope 57 = .ok (.invokestatic 41, 3) := by decide +kernel
theorem dX2_addRope_60 : decode cX2_addRope 60 = .ok (.putfield 18, 3) := by decide +kernel
theorem dX2_addRope_63 : decode cX2_addRope 63 = .ok (.aload_n 0, 1) := by decide +kernel
theorem dX2_addRope_64 : decode cX2_addRope 64 = .ok (.dup, 1) := by decide +kernel
theorem dX2_addRope_65 : decode cX2_addRope 65 = .ok (.getfield 9, 3) := by decide +kernel
theorem dX2_addRope_68 : decode cX2_addRope 68 = .ok (.iconst 1, 1) := by decide +kernel
theorem dX2_addRope_69 : decode cX2_addRope 69 = .ok (.iadd, 1) := by decide +kernel
theorem dX2_addRope_70 : decode cX2_addRope 70 = .ok (.putfield 9, 3) := by decide +kernel
theorem dX2_addRope_73 : decode cX2_addRope 73 = .ok (.return_, 1) := by decide +kernel
theorem dX2_addAct_0 : decode cX2_addAct 0 = .ok (.aload_n 0, 1) := by decide +kernel
theorem dX2_addAct_1 : decode cX2_addAct 1 = .ok (.getfield 15, 3) := by decide +kernel
theorem dX2_addAct_4 : decode cX2_addAct 4 = .ok (.ifCond .lt 41, 3) := by decide +kernel
theorem dX2_addAct_7 : decode cX2_addAct 7 = .ok (.aload_n 0, 1) := by decide +kernel
theorem dX2_addAct_8 : decode cX2_addAct 8 = .ok (.getfield 15, 3) := by decide +kernel
theorem dX2_addAct_11 : decode cX2_addAct 11 = .ok (.iconst 4, 1) := by decide +kernel
theorem dX2_addAct_12 : decode cX2_addAct 12 = .ok (.if_icmp .ge 33, 3) := by decide +kernel
theorem dX2_addAct_15 : decode cX2_addAct 15 = .ok (.aload_n 0, 1) := by decide +kernel
theorem dX2_addAct_16 : decode cX2_addAct 16 = .ok (.getfield 35, 3) := by decide +kernel
theorem dX2_addAct_19 : decode cX2_addAct 19 = .ok (.aload_n 0, 1) := by decide +kernel
theorem dX2_addAct_20 : decode cX2_addAct 20 = .ok (.getfield 15, 3) := by decide +kernel
theorem dX2_addAct_23 : decode cX2_addAct 23 = .ok (.iload_n 1, 1) := by decide +kernel
theorem dX2_addAct_24 : decode cX2_addAct 24 = .ok (.iastore, 1) := by decide +kernel
theorem dX2_addAct_25 : decode cX2_addAct 25 = .ok (.aload_n 0, 1) := by decide +kernel
theorem dX2_addAct_26 : decode cX2_addAct 26 = .ok (.getfield 38, 3) := by decide +kernel
theorem dX2_addAct_29 : decode cX2_addAct 29 = .ok (.aload_n 0, 1) := by decide +kernel
theorem dX2_addAct_30 : decode cX2_addAct 30 = .ok (.getfield 15, 3) := by decide +kernel
theorem dX2_addAct_33 : decode cX2_addAct 33 = .ok (.iload_n 2, 1) := by decide +kernel
theorem dX2_addAct_34 : decode cX2_addAct 34 = .ok (.iastore, 1) := by decide +kernel
theorem dX2_addAct_35 : decode cX2_addAct 35 = .ok (.aload_n 0, 1) := by decide +kernel
theorem dX2_addAct_36 : decode cX2_addAct 36 = .ok (.dup, 1) := by decide +kernel
theorem dX2_addAct_37 : decode cX2_addAct 37 = .ok (.getfield 15, 3) := by decide +kernel
theorem dX2_addAct_40 : decode cX2_addAct 40 = .ok (.iconst 1, 1) := by decide +kernel
theorem dX2_addAct_41 : decode cX2_addAct 41 = .ok (.iadd, 1) := by decide +kernel
theorem dX2_addAct_42 : decode cX2_addAct 42 = .ok (.putfield 15, 3) := by decide +kernel
theorem dX2_addAct_45 : decode cX2_addAct 45 = .ok (.return_, 1) := by decide +kernel
theorem dX2_isEmpty_0 : decode cX2_isEmpty 0 = .ok (.aload_n 0, 1) := by decide +kernel
theorem dX2_isEmpty_1 : decode cX2_isEmpty 1 = .ok (.getfield 9, 3) := by decide +kernel
theorem dX2_isEmpty_4 : decode cX2_isEmpty 4 = .ok (.ifCond .ne 7, 3) := by decide +kernel
theorem dX2_isEmpty_7 : decode cX2_isEmpty 7 = .ok (.iconst 1, 1) := by decide +kernel
theorem dX2_isEmpty_8 : decode cX2_isEmpty 8 = .ok (.goto 4, 3) := by decide +kernel
theorem dX2_isEmpty_11 : decode cX2_isEmpty 11 = .ok (.iconst 0, 1) := by decide +kernel
theorem dX2_isEmpty_12 : decode cX2_isEmpty 12 = .ok (.ireturn, 1) := by decide +kernel
theorem dX2_allRopes_0 : decode cX2_allRopes 0 = .ok (.iconst 1, 1) := by decide +kernel
theorem dX2_allRopes_1 : decode cX2_allRopes 1 = .ok (.aload_n 0, 1) := by decide +kernel
theorem dX2_allRopes_2 : decode cX2_allRopes 2 = .ok (.getfield 9, 3) := by decide +kernel
theorem dX2_allRopes_5 : decode cX2_allRopes 5 = .ok (.ishl, 1) := by decide +kernel
theorem dX2_allRopes_6 : decode cX2_allRopes 6 = .ok (.iconst 1, 1) := by decide +kernel
theorem dX2_allRopes_7 : decode cX2_allRopes 7 = .ok (.isub, 1) := by decide +kernel
theorem dX2_allRopes_8 : decode cX2_allRopes 8 = .ok (.ireturn, 1) := by decide +kernel
theorem dX2_isRope_0 : decode cX2_isRope 0 = .ok (.iload_n 1, 1) := by decide +kernel
theorem dX2_isRope_1 : decode cX2_isRope 1 = .ok (.ifCond .lt 21, 3) := by decide +kernel
theorem dX2_isRope_4 : decode cX2_isRope 4 = .ok (.iload_n 1, 1) := by decide +kernel
theorem dX2_isRope_5 : decode cX2_isRope 5 = .ok (.aload_n 0, 1) := by decide +kernel
theorem dX2_isRope_6 : decode cX2_isRope 6 = .ok (.getfield 9, 3) := by decide +kernel
theorem dX2_isRope_9 : decode cX2_isRope 9 = .ok (.if_icmp .ge 13, 3) := by decide +kernel
theorem dX2_isRope_12 : decode cX2_isRope 12 = .ok (.iload_n 1, 1) := by decide +kernel
theorem dX2_isRope_13 : decode cX2_isRope 13 = .ok (.bipush 6, 2) := by decide +kernel
theorem dX2_isRope_15 : decode cX2_isRope 15 = .ok (.if_icmp .ge 7, 3) := by decide +kernel
theorem dX2_isRope_18 : decode cX2_isRope 18 = .ok (.iconst 1, 1) := by decide +kernel
theorem dX2_isRope_19 : decode cX2_isRope 19 = .ok (.goto 4, 3) := by decide +kernel
theorem dX2_isRope_22 : decode cX2_isRope 22 = .ok (.iconst 0, 1) := by decide +kernel
theorem dX2_isRope_23 : decode cX2_isRope 23 = .ok (.ireturn, 1) := by decide +kernel
theorem dX2_isAct_0 : decode cX2_isAct 0 = .ok (.iload_n 1, 1) := by decide +kernel
theorem dX2_isAct_1 : decode cX2_isAct 1 = .ok (.ifCond .lt 20, 3) := by decide +kernel
theorem dX2_isAct_4 : decode cX2_isAct 4 = .ok (.iload_n 1, 1) := by decide +kernel
theorem dX2_isAct_5 : decode cX2_isAct 5 = .ok (.aload_n 0, 1) := by decide +kernel
theorem dX2_isAct_6 : decode cX2_isAct 6 = .ok (.getfield 15, 3) := by decide +kernel
theorem dX2_isAct_9 : decode cX2_isAct 9 = .ok (.if_icmp .ge 12, 3) := by decide +kernel
theorem dX2_isAct_12 : decode cX2_isAct 12 = .ok (.iload_n 1, 1) := by decide +kernel
theorem dX2_isAct_13 : decode cX2_isAct 13 = .ok (.iconst 4, 1) := by decide +kernel
theorem dX2_isAct_14 : decode cX2_isAct 14 = .ok (.if_icmp .ge 7, 3) := by decide +kernel
theorem dX2_isAct_17 : decode cX2_isAct 17 = .ok (.iconst 1, 1) := by decide +kernel
theorem dX2_isAct_18 : decode cX2_isAct 18 = .ok (.goto 4, 3) := by decide +kernel
theorem dX2_isAct_21 : decode cX2_isAct 21 = .ok (.iconst 0, 1) := by decide +kernel
theorem dX2_isAct_22 : decode cX2_isAct 22 = .ok (.ireturn, 1) := by decide +kernel
theorem dX2_kind_0 : decode cX2_kind 0 = .ok (.aload_n 0, 1) := by decide +kernel
theorem dX2_kind_1 : decode cX2_kind 1 = .ok (.iload_n 1, 1) := by decide +kernel
theorem dX2_kind_2 : decode cX2_kind 2 = .ok (.invokevirtual 47, 3) := by decide +kernel
theorem dX2_kind_5 : decode cX2_kind 5 = .ok (.ifCond .eq 12, 3) := by decide +kernel
theorem dX2_kind_8 : decode cX2_kind 8 = .ok (.aload_n 0, 1) := by decide +kernel
theorem dX2_kind_9 : decode cX2_kind 9 = .ok (.getfield 25, 3) := by decide +kernel
theorem dX2_kind_12 : decode cX2_kind 12 = .ok (.iload_n 1, 1) := by decide +kernel
theorem dX2_kind_13 : decode cX2_kind 13 = .ok (.iaload, 1) := by decide +kernel
theorem dX2_kind_14 : decode cX2_kind 14 = .ok (.goto 4, 3) := by decide +kernel
theorem dX2_kind_17 : decode cX2_kind 17 = .ok (.iconst 0, 1) := by decide +kernel
theorem dX2_kind_18 : decode cX2_kind 18 = .ok (.ireturn, 1) := by decide +kernel
theorem dX2_holds_0 : decode cX2_holds 0 = .ok (.aload_n 0, 1) := by decide +kernel
theorem dX2_holds_1 : decode cX2_holds 1 = .ok (.iload_n 1, 1) := by decide +kernel
theorem dX2_holds_2 : decode cX2_holds 2 = .ok (.invokevirtual 47, 3) := by decide +kernel
theorem dX2_holds_5 : decode cX2_holds 5 = .ok (.ifCond .ne 7, 3) := by decide +kernel
theorem dX2_holds_8 : decode cX2_holds 8 = .ok (.iconst 0, 1) := by decide +kernel
theorem dX2_holds_9 : decode cX2_holds 9 = .ok (.goto 29, 3) := by decide +kernel
theorem dX2_holds_12 : decode cX2_holds 12 = .ok (.aload_n 0, 1) := by decide +kernel
theorem dX2_holds_13 : decode cX2_holds 13 = .ok (.iload_n 1, 1) := by decide +kernel
theorem dX2_holds_14 : decode cX2_holds 14 = .ok (.invokevirtual 51, 3) := by decide +kernel
theorem dX2_holds_17 : decode cX2_holds 17 = .ok (.iconst 2, 1) := by decide +kernel
theorem dX2_holds_18 : decode cX2_holds 18 = .ok (.if_icmp .ne 14, 3) := by decide +kernel
theorem dX2_holds_21 : decode cX2_holds 21 = .ok (.aload_n 0, 1) := by decide +kernel
theorem dX2_holds_22 : decode cX2_holds 22 = .ok (.getfield 29, 3) := by decide +kernel
theorem dX2_holds_25 : decode cX2_holds 25 = .ok (.iload_n 1, 1) := by decide +kernel
theorem dX2_holds_26 : decode cX2_holds 26 = .ok (.iaload, 1) := by decide +kernel
theorem dX2_holds_27 : decode cX2_holds 27 = .ok (.iconst 1, 1) := by decide +kernel
theorem dX2_holds_28 : decode cX2_holds 28 = .ok (.isub, 1) := by decide +kernel
theorem dX2_holds_29 : decode cX2_holds 29 = .ok (.goto 9, 3) := by decide +kernel
theorem dX2_holds_32 : decode cX2_holds 32 = .ok (.aload_n 0, 1) := by decide +kernel
theorem dX2_holds_33 : decode cX2_holds 33 = .ok (.getfield 29, 3) := by decide +kernel
theorem dX2_holds_36 : decode cX2_holds 36 = .ok (.iload_n 1, 1) := by decide +kernel
theorem dX2_holds_37 : decode cX2_holds 37 = .ok (.iaload, 1) := by decide +kernel
theorem dX2_holds_38 : decode cX2_holds 38 = .ok (.ireturn, 1) := by decide +kernel
theorem dX2_target_0 : decode cX2_target 0 = .ok (.aload_n 0, 1) := by decide +kernel
theorem dX2_target_1 : decode cX2_target 1 = .ok (.iload_n 1, 1) := by decide +kernel
theorem dX2_target_2 : decode cX2_target 2 = .ok (.invokevirtual 47, 3) := by decide +kernel
theorem dX2_target_5 : decode cX2_target 5 = .ok (.ifCond .eq 35, 3) := by decide +kernel
theorem dX2_target_8 : decode cX2_target 8 = .ok (.aload_n 0, 1) := by decide +kernel
theorem dX2_target_9 : decode cX2_target 9 = .ok (.getfield 32, 3) := by decide +kernel
theorem dX2_target_12 : decode cX2_target 12 = .ok (.iload_n 1, 1) := by decide +kernel
theorem dX2_target_13 : decode cX2_target 13 = .ok (.iaload, 1) := by decide +kernel
theorem dX2_target_14 : decode cX2_target 14 = .ok (.iload_n 1, 1) := by decide +kernel
theorem dX2_target_15 : decode cX2_target 15 = .ok (.if_icmp .eq 25, 3) := by decide +kernel
theorem dX2_target_18 : decode cX2_target 18 = .ok (.aload_n 0, 1) := by decide +kernel
theorem dX2_target_19 : decode cX2_target 19 = .ok (.aload_n 0, 1) := by decide +kernel
theorem dX2_target_20 : decode cX2_target 20 = .ok (.getfield 32, 3) := by decide +kernel
theorem dX2_target_23 : decode cX2_target 23 = .ok (.iload_n 1, 1) := by decide +kernel
theorem dX2_target_24 : decode cX2_target 24 = .ok (.iaload, 1) := by decide +kernel
theorem dX2_target_25 : decode cX2_target 25 = .ok (.invokevirtual 47, 3) := by decide +kernel
theorem dX2_target_28 : decode cX2_target 28 = .ok (.ifCond .eq 12, 3) := by decide +kernel
theorem dX2_target_31 : decode cX2_target 31 = .ok (.aload_n 0, 1) := by decide +kernel
theorem dX2_target_32 : decode cX2_target 32 = .ok (.getfield 32, 3) := by decide +kernel
theorem dX2_target_35 : decode cX2_target 35 = .ok (.iload_n 1, 1) := by decide +kernel
theorem dX2_target_36 : decode cX2_target 36 = .ok (.iaload, 1) := by decide +kernel
theorem dX2_target_37 : decode cX2_target 37 = .ok (.goto 5, 3) := by decide +kernel
theorem dX2_target_40 : decode cX2_target 40 = .ok (.bipush (-9), 2) := by decide +kernel
theorem dX2_target_42 : decode cX2_target 42 = .ok (.ireturn, 1) := by decide +kernel
theorem dX2_countOf_0 : decode cX2_countOf 0 = .ok (.iconst 0, 1) := by decide +kernel
theorem dX2_countOf_1 : decode cX2_countOf 1 = .ok (.istore_n 2, 1) := by decide +kernel
theorem dX2_countOf_2 : decode cX2_countOf 2 = .ok (.iconst 0, 1) := by decide +kernel
theorem dX2_countOf_3 : decode cX2_countOf 3 = .ok (.istore_n 3, 1) := by decide +kernel
theorem dX2_countOf_4 : decode cX2_countOf 4 = .ok (.iload_n 3, 1) := by decide +kernel
theorem dX2_countOf_5 : decode cX2_countOf 5 = .ok (.aload_n 0, 1) := by decide +kernel
theorem dX2_countOf_6 : decode cX2_countOf 6 = .ok (.getfield 9, 3) := by decide +kernel
theorem dX2_countOf_9 : decode cX2_countOf 9 = .ok (.if_icmp .ge 24, 3) := by decide +kernel
theorem dX2_countOf_12 : decode cX2_countOf 12 = .ok (.aload_n 0, 1) := by decide +kernel
theorem dX2_countOf_13 : decode cX2_countOf 13 = .ok (.iload_n 3, 1) := by decide +kernel
theorem dX2_countOf_14 : decode cX2_countOf 14 = .ok (.invokevirtual 51, 3) := by decide +kernel
theorem dX2_countOf_17 : decode cX2_countOf 17 = .ok (.iload_n 1, 1) := by decide +kernel
theorem dX2_countOf_18 : decode cX2_countOf 18 = .ok (.invokestatic 58, 3) := by decide +kernel
theorem dX2_countOf_21 : decode cX2_countOf 21 = .ok (.ifCond .eq 6, 3) := by decide +kernel
theorem dX2_countOf_24 : decode cX2_countOf 24 = .ok (.iinc 2 1, 3) := by decide +kernel
theorem dX2_countOf_27 : decode cX2_countOf 27 = .ok (.iinc 3 1, 3) := by decide +kernel
theorem dX2_countOf_30 : decode cX2_countOf 30 = .ok (.goto (-26), 3) := by decide +kernel
theorem dX2_countOf_33 : decode cX2_countOf 33 = .ok (.iload_n 2, 1) := by decide +kernel
theorem dX2_countOf_34 : decode cX2_countOf 34 = .ok (.ireturn, 1) := by decide +kernel
theorem dX2_needed_0 : decode cX2_needed 0 = .ok (.aload_n 0, 1) := by decide +kernel
theorem dX2_needed_1 : decode cX2_needed 1 = .ok (.iload_n 1, 1) := by decide +kernel
theorem dX2_needed_2 : decode cX2_needed 2 = .ok (.invokevirtual 62, 3) := by decide +kernel
theorem dX2_needed_5 : decode cX2_needed 5 = .ok (.ifCond .eq 17, 3) := by decide +kernel
theorem dX2_needed_8 : decode cX2_needed 8 = .ok (.aload_n 0, 1) := by decide +kernel
theorem dX2_needed_9 : decode cX2_needed 9 = .ok (.getfield 35, 3) := by decide +kernel
theorem dX2_needed_12 : decode cX2_needed 12 = .ok (.iload_n 1, 1) := by decide +kernel
theorem dX2_needed_13 : decode cX2_needed 13 = .ok (.iaload, 1) := by decide +kernel
theorem dX2_needed_14 : decode cX2_needed 14 = .ok (.aload_n 0, 1) := by decide +kernel
theorem dX2_needed_15 : decode cX2_needed 15 = .ok (.invokevirtual 65, 3) := by decide +kernel
theorem dX2_needed_18 : decode cX2_needed 18 = .ok (.iand, 1) := by decide +kernel
theorem dX2_needed_19 : decode cX2_needed 19 = .ok (.goto 4, 3) := by decide +kernel
theorem dX2_needed_22 : decode cX2_needed 22 = .ok (.iconst 0, 1) := by decide +kernel
theorem dX2_needed_23 : decode cX2_needed 23 = .ok (.ireturn, 1) := by decide +kernel
theorem dX2_forbidden_0 : decode cX2_forbidden 0 = .ok (.aload_n 0, 1) := by decide +kernel
theorem dX2_forbidden_1 : decode cX2_forbidden 1 = .ok (.iload_n 1, 1) := by decide +kernel
theorem dX2_forbidden_2 : decode cX2_forbidden 2 = .ok (.invokevirtual 62, 3) := by decide +kernel
theorem dX2_forbidden_5 : decode cX2_forbidden 5 = .ok (.ifCond .eq 17, 3) := by decide +kernel
theorem dX2_forbidden_8 : decode cX2_forbidden 8 = .ok (.aload_n 0, 1) := by decide +kernel
theorem dX2_forbidden_9 : decode cX2_forbidden 9 = .ok (.getfield 38, 3) := by decide +kernel
theorem dX2_forbidden_12 : decode cX2_forbidden 12 = .ok (.iload_n 1, 1) := by decide +kernel
theorem dX2_forbidden_13 : decode cX2_forbidden 13 = .ok (.iaload, 1) := by decide +kernel
theorem dX2_forbidden_14 : decode cX2_forbidden 14 = .ok (.aload_n 0, 1) := by decide +kernel
theorem dX2_forbidden_15 : decode cX2_forbidden 15 = .ok (.invokevirtual 65, 3) := by decide +kernel
theorem dX2_forbidden_18 : decode cX2_forbidden 18 = .ok (.iand, 1) := by decide +kernel
theorem dX2_forbidden_19 : decode cX2_forbidden 19 = .ok (.goto 4, 3) := by decide +kernel
theorem dX2_forbidden_22 : decode cX2_forbidden 22 = .ok (.iconst 0, 1) := by decide +kernel
theorem dX2_forbidden_23 : decode cX2_forbidden 23 = .ok (.ireturn, 1) := by decide +kernel
theorem dX2_lawfulActs_0 : decode cX2_lawfulActs 0 = .ok (.lload_n 1, 1) := by decide +kernel
theorem dX2_lawfulActs_1 : decode cX2_lawfulActs 1 = .ok (.invokestatic 69, 3) := by decide +kernel
theorem dX2_lawfulActs_4 : decode cX2_lawfulActs 4 = .ok (.istore_n 3, 1) := by decide +kernel
theorem dX2_lawfulActs_5 : decode cX2_lawfulActs 5 = .ok (.iconst 0, 1) := by decide +kernel
theorem dX2_lawfulActs_6 : decode cX2_lawfulActs 6 = .ok (.istore 4, 2) := by decide +kernel
theorem dX2_lawfulActs_8 : decode cX2_lawfulActs 8 = .ok (.iconst 0, 1) := by decide +kernel
theorem dX2_lawfulActs_9 : decode cX2_lawfulActs 9 = .ok (.istore 5, 2) := by decide +kernel
theorem dX2_lawfulActs_11 : decode cX2_lawfulActs 11 = .ok (.iload 5, 2) := by decide +kernel
theorem dX2_lawfulActs_13 : decode cX2_lawfulActs 13 = .ok (.aload_n 0, 1) := by decide +kernel
theorem dX2_lawfulActs_14 : decode cX2_lawfulActs 14 = .ok (.getfield 15, 3) := by decide +kernel
theorem dX2_lawfulActs_17 : decode cX2_lawfulActs 17 = .ok (.if_icmp .ge 42, 3) := by decide +kernel
theorem dX2_lawfulActs_20 : decode cX2_lawfulActs 20 = .ok (.aload_n 0, 1) := by decide +kernel
theorem dX2_lawfulActs_21 : decode cX2_lawfulActs 21 = .ok (.iload 5, 2) := by decide +kernel
theorem dX2_lawfulActs_23 : decode cX2_lawfulActs 23 = .ok (.invokevirtual 73, 3) := by decide +kernel
theorem dX2_lawfulActs_26 : decode cX2_lawfulActs 26 = .ok (.iload_n 3, 1) := by decide +kernel
theorem dX2_lawfulActs_27 : decode cX2_lawfulActs 27 = .ok (.iconst (-1), 1) := by decide +kernel
theorem dX2_lawfulActs_28 : decode cX2_lawfulActs 28 = .ok (.ixor, 1) := by decide +kernel
theorem dX2_lawfulActs_29 : decode cX2_lawfulActs 29 = .ok (.iand, 1) := by decide +kernel
theorem dX2_lawfulActs_30 : decode cX2_lawfulActs 30 = .ok (.ifCond .ne 23, 3) := by decide +kernel
theorem dX2_lawfulActs_33 : decode cX2_lawfulActs 33 = .ok (.aload_n 0, 1) := by decide +kernel
theorem dX2_lawfulActs_34 : decode cX2_lawfulActs 34 = .ok (.iload 5, 2) := by decide +kernel
theorem dX2_lawfulActs_36 : decode cX2_lawfulActs 36 = .ok (.invokevirtual 76, 3) := by decide +kernel
theorem dX2_lawfulActs_39 : decode cX2_lawfulActs 39 = .ok (.iload_n 3, 1) := by decide +kernel
theorem dX2_lawfulActs_40 : decode cX2_lawfulActs 40 = .ok (.iand, 1) := by decide +kernel
theorem dX2_lawfulActs_41 : decode cX2_lawfulActs 41 = .ok (.ifCond .ne 12, 3) := by decide +kernel
theorem dX2_lawfulActs_44 : decode cX2_lawfulActs 44 = .ok (.iload 4, 2) := by decide +kernel
theorem dX2_lawfulActs_46 : decode cX2_lawfulActs 46 = .ok (.iconst 1, 1) := by decide +kernel
theorem dX2_lawfulActs_47 : decode cX2_lawfulActs 47 = .ok (.iload 5, 2) := by decide +kernel
theorem dX2_lawfulActs_49 : decode cX2_lawfulActs 49 = .ok (.ishl, 1) := by decide +kernel
theorem dX2_lawfulActs_50 : decode cX2_lawfulActs 50 = .ok (.ior, 1) := by decide +kernel
theorem dX2_lawfulActs_51 : decode cX2_lawfulActs 51 = .ok (.istore 4, 2) := by decide +kernel
theorem dX2_lawfulActs_53 : decode cX2_lawfulActs 53 = .ok (.iinc 5 1, 3) := by decide +kernel
theorem dX2_lawfulActs_56 : decode cX2_lawfulActs 56 = .ok (.goto (-45), 3) := by decide +kernel
theorem dX2_lawfulActs_59 : decode cX2_lawfulActs 59 = .ok (.iload 4, 2) := by decide +kernel
theorem dX2_lawfulActs_61 : decode cX2_lawfulActs 61 = .ok (.ireturn, 1) := by decide +kernel
theorem dX2_hauled_0 : decode cX2_hauled 0 = .ok (.lload_n 1, 1) := by decide +kernel
theorem dX2_hauled_1 : decode cX2_hauled 1 = .ok (.lstore 5, 2) := by decide +kernel
theorem dX2_hauled_3 : decode cX2_hauled 3 = .ok (.iload_n 3, 1) := by decide +kernel
theorem dX2_hauled_4 : decode cX2_hauled 4 = .ok (.istore 7, 2) := by decide +kernel
theorem dX2_hauled_6 : decode cX2_hauled 6 = .ok (.lload_n 1, 1) := by decide +kernel
theorem dX2_hauled_7 : decode cX2_hauled 7 = .ok (.invokestatic 79, 3) := by decide +kernel
theorem dX2_hauled_10 : decode cX2_hauled 10 = .ok (.ifCond .eq 19, 3) := by decide +kernel
theorem dX2_hauled_13 : decode cX2_hauled 13 = .ok (.aload_n 0, 1) := by decide +kernel
theorem dX2_hauled_14 : decode cX2_hauled 14 = .ok (.iload_n 3, 1) := by decide +kernel
theorem dX2_hauled_15 : decode cX2_hauled 15 = .ok (.invokevirtual 51, 3) := by decide +kernel
theorem dX2_hauled_18 : decode cX2_hauled 18 = .ok (.iconst 4, 1) := by decide +kernel
theorem dX2_hauled_19 : decode cX2_hauled 19 = .ok (.if_icmp .eq 10, 3) := by decide +kernel
theorem dX2_hauled_22 : decode cX2_hauled 22 = .ok (.iload 4, 2) := by decide +kernel
theorem dX2_hauled_24 : decode cX2_hauled 24 = .ok (.iconst 1, 1) := by decide +kernel
theorem dX2_hauled_25 : decode cX2_hauled 25 = .ok (.iadd, 1) := by decide +kernel
theorem dX2_hauled_26 : decode cX2_hauled 26 = .ok (.goto 5, 3) := by decide +kernel
theorem dX2_hauled_29 : decode cX2_hauled 29 = .ok (.iload 4, 2) := by decide +kernel
theorem dX2_hauled_31 : decode cX2_hauled 31 = .ok (.istore 8, 2) := by decide +kernel
theorem dX2_hauled_33 : decode cX2_hauled 33 = .ok (.aload_n 0, 1) := by decide +kernel
theorem dX2_hauled_34 : decode cX2_hauled 34 = .ok (.iconst 0, 1) := by decide +kernel
theorem dX2_hauled_35 : decode cX2_hauled 35 = .ok (.putfield 22, 3) := by decide +kernel
theorem dX2_hauled_38 : decode cX2_hauled 38 = .ok (.iconst 0, 1) := by decide +kernel
theorem dX2_hauled_39 : decode cX2_hauled 39 = .ok (.istore 9, 2) := by decide +kernel
theorem dX2_hauled_41 : decode cX2_hauled 41 = .ok (.iload 9, 2) := by decide +kernel
theorem dX2_hauled_43 : decode cX2_hauled 43 = .ok (.bipush 6, 2) := by decide +kernel
theorem dX2_hauled_45 : decode cX2_hauled 45 = .ok (.if_icmp .ge 103, 3) := by decide +kernel
theorem dX2_hauled_48 : decode cX2_hauled 48 = .ok (.iload 8, 2) := by decide +kernel
theorem dX2_hauled_50 : decode cX2_hauled 50 = .ok (.ifCond .le 98, 3) := by decide +kernel
theorem dX2_hauled_53 : decode cX2_hauled 53 = .ok (.aload_n 0, 1) := by decide +kernel
theorem dX2_hauled_54 : decode cX2_hauled 54 = .ok (.lload 5, 2) := by decide +kernel
theorem dX2_hauled_56 : decode cX2_hauled 56 = .ok (.iload 7, 2) := by decide +kernel
theorem dX2_hauled_58 : decode cX2_hauled 58 = .ok (.invokevirtual 82, 3) := by decide +kernel
theorem dX2_hauled_61 : decode cX2_hauled 61 = .ok (.ifCond .eq 87, 3) := by decide +kernel
theorem dX2_hauled_64 : decode cX2_hauled 64 = .ok (.aload_n 0, 1) := by decide +kernel
theorem dX2_hauled_65 : decode cX2_hauled 65 = .ok (.dup, 1) := by decide +kernel
theorem dX2_hauled_66 : decode cX2_hauled 66 = .ok (.getfield 22, 3) := by decide +kernel
theorem dX2_hauled_69 : decode cX2_hauled 69 = .ok (.iconst 1, 1) := by decide +kernel
theorem dX2_hauled_70 : decode cX2_hauled 70 = .ok (.iload 7, 2) := by decide +kernel
theorem dX2_hauled_72 : decode cX2_hauled 72 = .ok (.ishl, 1) := by decide +kernel
theorem dX2_hauled_73 : decode cX2_hauled 73 = .ok (.ior, 1) := by decide +kernel
theorem dX2_hauled_74 : decode cX2_hauled 74 = .ok (.putfield 22, 3) := by decide +kernel
theorem dX2_hauled_77 : decode cX2_hauled 77 = .ok (.lload 5, 2) := by decide +kernel
theorem dX2_hauled_79 : decode cX2_hauled 79 = .ok (.iload 7, 2) := by decide +kernel
theorem dX2_hauled_81 : decode cX2_hauled 81 = .ok (.invokestatic 86, 3) := by decide +kernel
theorem dX2_hauled_84 : decode cX2_hauled 84 = .ok (.iload 8, 2) := by decide +kernel
theorem dX2_hauled_86 : decode cX2_hauled 86 = .ok (.iadd, 1) := by decide +kernel
theorem dX2_hauled_87 : decode cX2_hauled 87 = .ok (.istore 10, 2) := by decide +kernel
theorem dX2_hauled_89 : decode cX2_hauled 89 = .ok (.iload 10, 2) := by decide +kernel
theorem dX2_hauled_91 : decode cX2_hauled 91 = .ok (.aload_n 0, 1) := by decide +kernel
theorem dX2_hauled_92 : decode cX2_hauled 92 = .ok (.iload 7, 2) := by decide +kernel
theorem dX2_hauled_94 : decode cX2_hauled 94 = .ok (.invokevirtual 90, 3) := by decide +kernel
theorem dX2_hauled_97 : decode cX2_hauled 97 = .ok (.if_icmp .le 13, 3) := by decide +kernel
theorem dX2_hauled_100 : decode cX2_hauled 100 = .ok (.lload 5, 2) := by decide +kernel
theorem dX2_hauled_102 : decode cX2_hauled 102 = .ok (.iconst 1, 1) := by decide +kernel
theorem dX2_hauled_103 : decode cX2_hauled 103 = .ok (.iload 7, 2) := by decide +kernel
theorem dX2_hauled_105 : decode cX2_hauled 105 = .ok (.ishl, 1) := by decide +kernel
theorem dX2_hauled_106 : decode cX2_hauled 106 = .ok (.invokestatic 93, 3) := by decide +kernel
theorem dX2_hauled_109 : decode cX2_hauled 109 = .ok (.lreturn, 1) := by decide +kernel
theorem dX2_hauled_110 : decode cX2_hauled 110 = .ok (.lload 5, 2) := by decide +kernel
theorem dX2_hauled_112 : decode cX2_hauled 112 = .ok (.iload 7, 2) := by decide +kernel
theorem dX2_hauled_114 : decode cX2_hauled 114 = .ok (.iload 10, 2) := by decide +kernel
theorem dX2_hauled_116 : decode cX2_hauled 116 = .ok (.invokestatic 41, 3) := by decide +kernel
theorem dX2_hauled_119 : decode cX2_hauled 119 = .ok (.lstore 5, 2) := by decide +kernel
theorem dX2_hauled_121 : decode cX2_hauled 121 = .ok (.aload_n 0, 1) := by decide +kernel
theorem dX2_hauled_122 : decode cX2_hauled 122 = .ok (.iload 7, 2) := by decide +kernel
theorem dX2_hauled_124 : decode cX2_hauled 124 = .ok (.invokevirtual 51, 3) := by decide +kernel
theorem dX2_hauled_127 : decode cX2_hauled 127 = .ok (.iload 8, 2) := by decide +kernel
theorem dX2_hauled_129 : decode cX2_hauled 129 = .ok (.invokestatic 97, 3) := by decide +kernel
theorem dX2_hauled_132 : decode cX2_hauled 132 = .ok (.istore 8, 2) := by decide +kernel
theorem dX2_hauled_134 : decode cX2_hauled 134 = .ok (.aload_n 0, 1) := by decide +kernel
theorem dX2_hauled_135 : decode cX2_hauled 135 = .ok (.iload 7, 2) := by decide +kernel
theorem dX2_hauled_137 : decode cX2_hauled 137 = .ok (.invokevirtual 55, 3) := by decide +kernel
theorem dX2_hauled_140 : decode cX2_hauled 140 = .ok (.istore 7, 2) := by decide +kernel
theorem dX2_hauled_142 : decode cX2_hauled 142 = .ok (.iinc 9 1, 3) := by decide +kernel
theorem dX2_hauled_145 : decode cX2_hauled 145 = .ok (.goto (-104), 3) := by decide +kernel
theorem dX2_hauled_148 : decode cX2_hauled 148 = .ok (.lload 5, 2) := by decide +kernel
theorem dX2_hauled_150 : decode cX2_hauled 150 = .ok (.lreturn, 1) := by decide +kernel
theorem dX2_canReach_0 : decode cX2_canReach 0 = .ok (.aload_n 0, 1) := by decide +kernel
theorem dX2_canReach_1 : decode cX2_canReach 1 = .ok (.iload_n 3, 1) := by decide +kernel
theorem dX2_canReach_2 : decode cX2_canReach 2 = .ok (.invokevirtual 47, 3) := by decide +kernel
theorem dX2_canReach_5 : decode cX2_canReach 5 = .ok (.ifCond .eq 26, 3) := by decide +kernel
theorem dX2_canReach_8 : decode cX2_canReach 8 = .ok (.lload_n 1, 1) := by decide +kernel
theorem dX2_canReach_9 : decode cX2_canReach 9 = .ok (.iload_n 3, 1) := by decide +kernel
theorem dX2_canReach_10 : decode cX2_canReach 10 = .ok (.invokestatic 101, 3) := by decide +kernel
theorem dX2_canReach_13 : decode cX2_canReach 13 = .ok (.ifCond .eq 18, 3) := by decide +kernel
theorem dX2_canReach_16 : decode cX2_canReach 16 = .ok (.aload_n 0, 1) := by decide +kernel
theorem dX2_canReach_17 : decode cX2_canReach 17 = .ok (.getfield 22, 3) := by decide +kernel
theorem dX2_canReach_20 : decode cX2_canReach 20 = .ok (.iload_n 3, 1) := by decide +kernel
theorem dX2_canReach_21 : decode cX2_canReach 21 = .ok (.ishr, 1) := by decide +kernel
theorem dX2_canReach_22 : decode cX2_canReach 22 = .ok (.iconst 1, 1) := by decide +kernel
theorem dX2_canReach_23 : decode cX2_canReach 23 = .ok (.iand, 1) := by decide +kernel
theorem dX2_canReach_24 : decode cX2_canReach 24 = .ok (.ifCond .ne 7, 3) := by decide +kernel
theorem dX2_canReach_27 : decode cX2_canReach 27 = .ok (.iconst 1, 1) := by decide +kernel
theorem dX2_canReach_28 : decode cX2_canReach 28 = .ok (.goto 4, 3) := by decide +kernel
theorem dX2_canReach_31 : decode cX2_canReach 31 = .ok (.iconst 0, 1) := by decide +kernel
theorem dX2_canReach_32 : decode cX2_canReach 32 = .ok (.ireturn, 1) := by decide +kernel
theorem dX2_byLot_0 : decode cX2_byLot 0 = .ok (.aload_n 0, 1) := by decide +kernel
theorem dX2_byLot_1 : decode cX2_byLot 1 = .ok (.getfield 9, 3) := by decide +kernel
theorem dX2_byLot_4 : decode cX2_byLot 4 = .ok (.ifCond .gt 5, 3) := by decide +kernel
theorem dX2_byLot_7 : decode cX2_byLot 7 = .ok (.lload_n 1, 1) := by decide +kernel
theorem dX2_byLot_8 : decode cX2_byLot 8 = .ok (.lreturn, 1) := by decide +kernel
theorem dX2_byLot_9 : decode cX2_byLot 9 = .ok (.iload_n 3, 1) := by decide +kernel
theorem dX2_byLot_10 : decode cX2_byLot 10 = .ok (.aload_n 0, 1) := by decide +kernel
theorem dX2_byLot_11 : decode cX2_byLot 11 = .ok (.getfield 9, 3) := by decide +kernel
theorem dX2_byLot_14 : decode cX2_byLot 14 = .ok (.irem, 1) := by decide +kernel
theorem dX2_byLot_15 : decode cX2_byLot 15 = .ok (.istore 4, 2) := by decide +kernel
theorem dX2_byLot_17 : decode cX2_byLot 17 = .ok (.iload_n 3, 1) := by decide +kernel
theorem dX2_byLot_18 : decode cX2_byLot 18 = .ok (.bipush 8, 2) := by decide +kernel
theorem dX2_byLot_20 : decode cX2_byLot 20 = .ok (.idiv, 1) := by decide +kernel
theorem dX2_byLot_21 : decode cX2_byLot 21 = .ok (.bipush 8, 2) := by decide +kernel
theorem dX2_byLot_23 : decode cX2_byLot 23 = .ok (.irem, 1) := by decide +kernel
theorem dX2_byLot_24 : decode cX2_byLot 24 = .ok (.istore 5, 2) := by decide +kernel
theorem dX2_byLot_26 : decode cX2_byLot 26 = .ok (.iload 5, 2) := by decide +kernel
theorem dX2_byLot_28 : decode cX2_byLot 28 = .ok (.tableswitch 95 5 7 #[28, 64, 84], 28) := by decide +kernel
theorem dX2_byLot_56 : decode cX2_byLot 56 = .ok (.lload_n 1, 1) := by decide +kernel
theorem dX2_byLot_57 : decode cX2_byLot 57 = .ok (.iload 4, 2) := by decide +kernel
theorem dX2_byLot_59 : decode cX2_byLot 59 = .ok (.invokestatic 104, 3) := by decide +kernel
theorem dX2_byLot_62 : decode cX2_byLot 62 = .ok (.ifCond .eq 5, 3) := by decide +kernel
theorem dX2_byLot_65 : decode cX2_byLot 65 = .ok (.lload_n 1, 1) := by decide +kernel
theorem dX2_byLot_66 : decode cX2_byLot 66 = .ok (.lreturn, 1) := by decide +kernel
theorem dX2_byLot_67 : decode cX2_byLot 67 = .ok (.lload_n 1, 1) := by decide +kernel
theorem dX2_byLot_68 : decode cX2_byLot 68 = .ok (.iload 4, 2) := by decide +kernel
theorem dX2_byLot_70 : decode cX2_byLot 70 = .ok (.invokestatic 107, 3) := by decide +kernel
theorem dX2_byLot_73 : decode cX2_byLot 73 = .ok (.ifCond .eq 12, 3) := by decide +kernel
theorem dX2_byLot_76 : decode cX2_byLot 76 = .ok (.lload_n 1, 1) := by decide +kernel
theorem dX2_byLot_77 : decode cX2_byLot 77 = .ok (.iload 4, 2) := by decide +kernel
theorem dX2_byLot_79 : decode cX2_byLot 79 = .ok (.invokestatic 110, 3) := by decide +kernel
theorem dX2_byLot_82 : decode cX2_byLot 82 = .ok (.goto 9, 3) := by decide +kernel
theorem dX2_byLot_85 : decode cX2_byLot 85 = .ok (.lload_n 1, 1) := by decide +kernel
theorem dX2_byLot_86 : decode cX2_byLot 86 = .ok (.iload 4, 2) := by decide +kernel
theorem dX2_byLot_88 : decode cX2_byLot 88 = .ok (.invokestatic 113, 3) := by decide +kernel
theorem dX2_byLot_91 : decode cX2_byLot 91 = .ok (.lreturn, 1) := by decide +kernel
theorem dX2_byLot_92 : decode cX2_byLot 92 = .ok (.lload_n 1, 1) := by decide +kernel
theorem dX2_byLot_93 : decode cX2_byLot 93 = .ok (.iload 4, 2) := by decide +kernel
theorem dX2_byLot_95 : decode cX2_byLot 95 = .ok (.invokestatic 104, 3) := by decide +kernel
theorem dX2_byLot_98 : decode cX2_byLot 98 = .ok (.ifCond .eq 12, 3) := by decide +kernel
theorem dX2_byLot_101 : decode cX2_byLot 101 = .ok (.lload_n 1, 1) := by decide +kernel
theorem dX2_byLot_102 : decode cX2_byLot 102 = .ok (.iload 4, 2) := by decide +kernel
theorem dX2_byLot_104 : decode cX2_byLot 104 = .ok (.invokestatic 116, 3) := by decide +kernel
theorem dX2_byLot_107 : decode cX2_byLot 107 = .ok (.goto 4, 3) := by decide +kernel
theorem dX2_byLot_110 : decode cX2_byLot 110 = .ok (.lload_n 1, 1) := by decide +kernel
theorem dX2_byLot_111 : decode cX2_byLot 111 = .ok (.lreturn, 1) := by decide +kernel
theorem dX2_byLot_112 : decode cX2_byLot 112 = .ok (.lload_n 1, 1) := by decide +kernel
theorem dX2_byLot_113 : decode cX2_byLot 113 = .ok (.iconst 1, 1) := by decide +kernel
theorem dX2_byLot_114 : decode cX2_byLot 114 = .ok (.lload_n 1, 1) := by decide +kernel
theorem dX2_byLot_115 : decode cX2_byLot 115 = .ok (.invokestatic 79, 3) := by decide +kernel
theorem dX2_byLot_118 : decode cX2_byLot 118 = .ok (.isub, 1) := by decide +kernel
theorem dX2_byLot_119 : decode cX2_byLot 119 = .ok (.invokestatic 119, 3) := by decide +kernel
theorem dX2_byLot_122 : decode cX2_byLot 122 = .ok (.lreturn, 1) := by decide +kernel
theorem dX2_byLot_123 : decode cX2_byLot 123 = .ok (.lload_n 1, 1) := by decide +kernel
theorem dX2_byLot_124 : decode cX2_byLot 124 = .ok (.iload 4, 2) := by decide +kernel
theorem dX2_byLot_126 : decode cX2_byLot 126 = .ok (.invokestatic 101, 3) := by decide +kernel
theorem dX2_byLot_129 : decode cX2_byLot 129 = .ok (.ifCond .eq 21, 3) := by decide +kernel
theorem dX2_byLot_132 : decode cX2_byLot 132 = .ok (.aload_n 0, 1) := by decide +kernel
theorem dX2_byLot_133 : decode cX2_byLot 133 = .ok (.lload_n 1, 1) := by decide +kernel
theorem dX2_byLot_134 : decode cX2_byLot 134 = .ok (.iload 4, 2) := by decide +kernel
theorem dX2_byLot_136 : decode cX2_byLot 136 = .ok (.iconst 1, 1) := by decide +kernel
theorem dX2_byLot_137 : decode cX2_byLot 137 = .ok (.iload_n 3, 1) := by decide +kernel
theorem dX2_byLot_138 : decode cX2_byLot 138 = .ok (.bipush 64, 2) := by decide +kernel
theorem dX2_byLot_140 : decode cX2_byLot 140 = .ok (.idiv, 1) := by decide +kernel
theorem dX2_byLot_141 : decode cX2_byLot 141 = .ok (.iconst 4, 1) := by decide +kernel
theorem dX2_byLot_142 : decode cX2_byLot 142 = .ok (.irem, 1) := by decide +kernel
theorem dX2_byLot_143 : decode cX2_byLot 143 = .ok (.iadd, 1) := by decide +kernel
theorem dX2_byLot_144 : decode cX2_byLot 144 = .ok (.invokevirtual 122, 3) := by decide +kernel
theorem dX2_byLot_147 : decode cX2_byLot 147 = .ok (.goto 4, 3) := by decide +kernel
theorem dX2_byLot_150 : decode cX2_byLot 150 = .ok (.lload_n 1, 1) := by decide +kernel
theorem dX2_byLot_151 : decode cX2_byLot 151 = .ok (.lreturn, 1) := by decide +kernel
theorem dX3_fewest_0 : decode cX3_fewest 0 = .ok (.iconst 0, 1) := by decide +kernel
theorem dX3_fewest_1 : decode cX3_fewest 1 = .ok (.istore 5, 2) := by decide +kernel
theorem dX3_fewest_3 : decode cX3_fewest 3 = .ok (.iload 5, 2) := by decide +kernel
theorem dX3_fewest_5 : decode cX3_fewest 5 = .ok (.iconst 4, 1) := by decide +kernel
theorem dX3_fewest_6 : decode cX3_fewest 6 = .ok (.if_icmp .gt 27, 3) := by decide +kernel
theorem dX3_fewest_9 : decode cX3_fewest 9 = .ok (.aload_n 0, 1) := by decide +kernel
theorem dX3_fewest_10 : decode cX3_fewest 10 = .ok (.iload_n 1, 1) := by decide +kernel
theorem dX3_fewest_11 : decode cX3_fewest 11 = .ok (.lload_n 2, 1) := by decide +kernel
theorem dX3_fewest_12 : decode cX3_fewest 12 = .ok (.aload 4, 2) := by decide +kernel
theorem dX3_fewest_14 : decode cX3_fewest 14 = .ok (.iload 5, 2) := by decide +kernel
theorem dX3_fewest_16 : decode cX3_fewest 16 = .ok (.iload 5, 2) := by decide +kernel
theorem dX3_fewest_18 : decode cX3_fewest 18 = .ok (.invokestatic 9, 3) := by decide +kernel
theorem dX3_fewest_21 : decode cX3_fewest 21 = .ok (.ifCond .eq 6, 3) := by decide +kernel
theorem dX3_fewest_24 : decode cX3_fewest 24 = .ok (.iload 5, 2) := by decide +kernel
theorem dX3_fewest_26 : decode cX3_fewest 26 = .ok (.ireturn, 1) := by decide +kernel
theorem dX3_fewest_27 : decode cX3_fewest 27 = .ok (.iinc 5 1, 3) := by decide +kernel
theorem dX3_fewest_30 : decode cX3_fewest 30 = .ok (.goto (-27), 3) := by decide +kernel
theorem dX3_fewest_33 : decode cX3_fewest 33 = .ok (.bipush (-9), 2) := by decide +kernel
theorem dX3_fewest_35 : decode cX3_fewest 35 = .ok (.ireturn, 1) := by decide +kernel
theorem dX3_isReached_0 : decode cX3_isReached 0 = .ok (.iload 6, 2) := by decide +kernel
theorem dX3_isReached_2 : decode cX3_isReached 2 = .ok (.ifCond .lt 21, 3) := by decide +kernel
theorem dX3_isReached_5 : decode cX3_isReached 5 = .ok (.iload 6, 2) := by decide +kernel
theorem dX3_isReached_7 : decode cX3_isReached 7 = .ok (.iload 5, 2) := by decide +kernel
theorem dX3_isReached_9 : decode cX3_isReached 9 = .ok (.if_icmp .gt 14, 3) := by decide +kernel
theorem dX3_isReached_12 : decode cX3_isReached 12 = .ok (.aload_n 0, 1) := by decide +kernel
theorem dX3_isReached_13 : decode cX3_isReached 13 = .ok (.iload_n 1, 1) := by decide +kernel
theorem dX3_isReached_14 : decode cX3_isReached 14 = .ok (.lload_n 2, 1) := by decide +kernel
theorem dX3_isReached_15 : decode cX3_isReached 15 = .ok (.iload 6, 2) := by decide +kernel
theorem dX3_isReached_17 : decode cX3_isReached 17 = .ok (.invokestatic 15, 3) := by decide +kernel
theorem dX3_isReached_20 : decode cX3_isReached 20 = .ok (.ifCond .eq 5, 3) := by decide +kernel
theorem dX3_isReached_23 : decode cX3_isReached 23 = .ok (.iconst 0, 1) := by decide +kernel
theorem dX3_isReached_24 : decode cX3_isReached 24 = .ok (.ireturn, 1) := by decide +kernel
theorem dX3_isReached_25 : decode cX3_isReached 25 = .ok (.iload 6, 2) := by decide +kernel
theorem dX3_isReached_27 : decode cX3_isReached 27 = .ok (.ifCond .ne 5, 3) := by decide +kernel
theorem dX3_isReached_30 : decode cX3_isReached 30 = .ok (.iconst 1, 1) := by decide +kernel
theorem dX3_isReached_31 : decode cX3_isReached 31 = .ok (.ireturn, 1) := by decide +kernel
theorem dX3_isReached_32 : decode cX3_isReached 32 = .ok (.iload 5, 2) := by decide +kernel
theorem dX3_isReached_34 : decode cX3_isReached 34 = .ok (.iload 6, 2) := by decide +kernel
theorem dX3_isReached_36 : decode cX3_isReached 36 = .ok (.isub, 1) := by decide +kernel
theorem dX3_isReached_37 : decode cX3_isReached 37 = .ok (.istore 7, 2) := by decide +kernel
theorem dX3_isReached_39 : decode cX3_isReached 39 = .ok (.iload 7, 2) := by decide +kernel
theorem dX3_isReached_41 : decode cX3_isReached 41 = .ok (.aload 4, 2) := by decide +kernel
theorem dX3_isReached_43 : decode cX3_isReached 43 = .ok (.arraylength, 1) := by decide +kernel
theorem dX3_isReached_44 : decode cX3_isReached 44 = .ok (.if_icmp .lt 5, 3) := by decide +kernel
theorem dX3_isReached_47 : decode cX3_isReached 47 = .ok (.iconst 0, 1) := by decide +kernel
theorem dX3_isReached_48 : decode cX3_isReached 48 = .ok (.ireturn, 1) := by decide +kernel
theorem dX3_isReached_49 : decode cX3_isReached 49 = .ok (.iconst 0, 1) := by decide +kernel
theorem dX3_isReached_50 : decode cX3_isReached 50 = .ok (.istore 8, 2) := by decide +kernel
theorem dX3_isReached_52 : decode cX3_isReached 52 = .ok (.iload 8, 2) := by decide +kernel
theorem dX3_isReached_54 : decode cX3_isReached 54 = .ok (.bipush 12, 2) := by decide +kernel
theorem dX3_isReached_56 : decode cX3_isReached 56 = .ok (.if_icmp .ge 99, 3) := by decide +kernel
theorem dX3_isReached_59 : decode cX3_isReached 59 = .ok (.iload 8, 2) := by decide +kernel
theorem dX3_isReached_61 : decode cX3_isReached 61 = .ok (.bipush 6, 2) := by decide +kernel
theorem dX3_isReached_63 : decode cX3_isReached 63 = .ok (.irem, 1) := by decide +kernel
theorem dX3_isReached_64 : decode cX3_isReached 64 = .ok (.istore 9, 2) := by decide +kernel
theorem dX3_isReached_66 : decode cX3_isReached 66 = .ok (.aload_n 0, 1) := by decide +kernel
theorem dX3_isReached_67 : decode cX3_isReached 67 = .ok (.iload 9, 2) := by decide +kernel
theorem dX3_isReached_69 : decode cX3_isReached 69 = .ok (.invokevirtual 19, 3) := by decide +kernel
theorem dX3_isReached_72 : decode cX3_isReached 72 = .ok (.ifCond .eq 77, 3) := by decide +kernel
theorem dX3_isReached_75 : decode cX3_isReached 75 = .ok (.lload_n 2, 1) := by decide +kernel
theorem dX3_isReached_76 : decode cX3_isReached 76 = .ok (.iload 9, 2) := by decide +kernel
theorem dX3_isReached_78 : decode cX3_isReached 78 = .ok (.invokestatic 25, 3) := by decide +kernel
theorem dX3_isReached_81 : decode cX3_isReached 81 = .ok (.ifCond .eq 68, 3) := by decide +kernel
theorem dX3_isReached_84 : decode cX3_isReached 84 = .ok (.iload 8, 2) := by decide +kernel
theorem dX3_isReached_86 : decode cX3_isReached 86 = .ok (.bipush 6, 2) := by decide +kernel
theorem dX3_isReached_88 : decode cX3_isReached 88 = .ok (.if_icmp .ge 14, 3) := by decide +kernel
theorem dX3_isReached_91 : decode cX3_isReached 91 = .ok (.aload_n 0, 1) := by decide +kernel
theorem dX3_isReached_92 : decode cX3_isReached 92 = .ok (.lload_n 2, 1) := by decide +kernel
theorem dX3_isReached_93 : decode cX3_isReached 93 = .ok (.iload 9, 2) := by decide +kernel
theorem dX3_isReached_95 : decode cX3_isReached 95 = .ok (.iconst 1, 1) := by decide +kernel
theorem dX3_isReached_96 : decode cX3_isReached 96 = .ok (.invokevirtual 31, 3) := by decide +kernel
theorem dX3_isReached_99 : decode cX3_isReached 99 = .ok (.goto 9, 3) := by decide +kernel
theorem dX3_isReached_102 : decode cX3_isReached 102 = .ok (.lload_n 2, 1) := by decide +kernel
theorem dX3_isReached_103 : decode cX3_isReached 103 = .ok (.iload 9, 2) := by decide +kernel
theorem dX3_isReached_105 : decode cX3_isReached 105 = .ok (.invokestatic 35, 3) := by decide +kernel
theorem dX3_isReached_108 : decode cX3_isReached 108 = .ok (.lstore 10, 2) := by decide +kernel
theorem dX3_isReached_110 : decode cX3_isReached 110 = .ok (.aload 4, 2) := by decide +kernel
theorem dX3_isReached_112 : decode cX3_isReached 112 = .ok (.iload 7, 2) := by decide +kernel
theorem dX3_isReached_114 : decode cX3_isReached 114 = .ok (.iload 8, 2) := by decide +kernel
theorem dX3_isReached_116 : decode cX3_isReached 116 = .ok (.iastore, 1) := by decide +kernel
theorem dX3_isReached_117 : decode cX3_isReached 117 = .ok (.lload 10, 2) := by decide +kernel
theorem dX3_isReached_119 : decode cX3_isReached 119 = .ok (.invokestatic 39, 3) := by decide +kernel
theorem dX3_isReached_122 : decode cX3_isReached 122 = .ok (.lload_n 2, 1) := by decide +kernel
theorem dX3_isReached_123 : decode cX3_isReached 123 = .ok (.invokestatic 39, 3) := by decide +kernel
theorem dX3_isReached_126 : decode cX3_isReached 126 = .ok (.if_icmp .ne 23, 3) := by decide +kernel
theorem dX3_isReached_129 : decode cX3_isReached 129 = .ok (.aload_n 0, 1) := by decide +kernel
theorem dX3_isReached_130 : decode cX3_isReached 130 = .ok (.iload_n 1, 1) := by decide +kernel
theorem dX3_isReached_131 : decode cX3_isReached 131 = .ok (.lload 10, 2) := by decide +kernel
theorem dX3_isReached_133 : decode cX3_isReached 133 = .ok (.aload 4, 2) := by decide +kernel
theorem dX3_isReached_135 : decode cX3_isReached 135 = .ok (.iload 5, 2) := by decide +kernel
theorem dX3_isReached_137 : decode cX3_isReached 137 = .ok (.iload 6, 2) := by decide +kernel
theorem dX3_isReached_139 : decode cX3_isReached 139 = .ok (.iconst 1, 1) := by decide +kernel
theorem dX3_isReached_140 : decode cX3_isReached 140 = .ok (.isub, 1) := by decide +kernel
theorem dX3_isReached_141 : decode cX3_isReached 141 = .ok (.invokestatic 9, 3) := by decide +kernel
theorem dX3_isReached_144 : decode cX3_isReached 144 = .ok (.ifCond .eq 5, 3) := by decide +kernel
theorem dX3_isReached_147 : decode cX3_isReached 147 = .ok (.iconst 1, 1) := by decide +kernel
theorem dX3_isReached_148 : decode cX3_isReached 148 = .ok (.ireturn, 1) := by decide +kernel
theorem dX3_isReached_149 : decode cX3_isReached 149 = .ok (.iinc 8 1, 3) := by decide +kernel
theorem dX3_isReached_152 : decode cX3_isReached 152 = .ok (.goto (-100), 3) := by decide +kernel
theorem dX3_isReached_155 : decode cX3_isReached 155 = .ok (.iconst 0, 1) := by decide +kernel
theorem dX3_isReached_156 : decode cX3_isReached 156 = .ok (.ireturn, 1) := by decide +kernel
theorem dX3_isTooFar_0 : decode cX3_isTooFar 0 = .ok (.lload_n 2, 1) := by decide +kernel
theorem dX3_isTooFar_1 : decode cX3_isTooFar 1 = .ok (.invokestatic 43, 3) := by decide +kernel
theorem dX3_isTooFar_4 : decode cX3_isTooFar 4 = .ok (.istore 5, 2) := by decide +kernel
theorem dX3_isTooFar_6 : decode cX3_isTooFar 6 = .ok (.lload_n 2, 1) := by decide +kernel
theorem dX3_isTooFar_7 : decode cX3_isTooFar 7 = .ok (.invokestatic 46, 3) := by decide +kernel
theorem dX3_isTooFar_10 : decode cX3_isTooFar 10 = .ok (.lload_n 2, 1) := by decide +kernel
theorem dX3_isTooFar_11 : decode cX3_isTooFar 11 = .ok (.invokestatic 39, 3) := by decide +kernel
theorem dX3_isTooFar_14 : decode cX3_isTooFar 14 = .ok (.ior, 1) := by decide +kernel
theorem dX3_isTooFar_15 : decode cX3_isTooFar 15 = .ok (.istore 6, 2) := by decide +kernel
theorem dX3_isTooFar_17 : decode cX3_isTooFar 17 = .ok (.aload_n 0, 1) := by decide +kernel
theorem dX3_isTooFar_18 : decode cX3_isTooFar 18 = .ok (.iload_n 1, 1) := by decide +kernel
theorem dX3_isTooFar_19 : decode cX3_isTooFar 19 = .ok (.invokevirtual 49, 3) := by decide +kernel
theorem dX3_isTooFar_22 : decode cX3_isTooFar 22 = .ok (.iload 5, 2) := by decide +kernel
theorem dX3_isTooFar_24 : decode cX3_isTooFar 24 = .ok (.iconst (-1), 1) := by decide +kernel
theorem dX3_isTooFar_25 : decode cX3_isTooFar 25 = .ok (.ixor, 1) := by decide +kernel
theorem dX3_isTooFar_26 : decode cX3_isTooFar 26 = .ok (.iand, 1) := by decide +kernel
theorem dX3_isTooFar_27 : decode cX3_isTooFar 27 = .ok (.istore 7, 2) := by decide +kernel
theorem dX3_isTooFar_29 : decode cX3_isTooFar 29 = .ok (.aload_n 0, 1) := by decide +kernel
theorem dX3_isTooFar_30 : decode cX3_isTooFar 30 = .ok (.iload_n 1, 1) := by decide +kernel
theorem dX3_isTooFar_31 : decode cX3_isTooFar 31 = .ok (.invokevirtual 53, 3) := by decide +kernel
theorem dX3_isTooFar_34 : decode cX3_isTooFar 34 = .ok (.iload 5, 2) := by decide +kernel
theorem dX3_isTooFar_36 : decode cX3_isTooFar 36 = .ok (.iand, 1) := by decide +kernel
theorem dX3_isTooFar_37 : decode cX3_isTooFar 37 = .ok (.invokestatic 56, 3) := by decide +kernel
theorem dX3_isTooFar_40 : decode cX3_isTooFar 40 = .ok (.istore 8, 2) := by decide +kernel
theorem dX3_isTooFar_42 : decode cX3_isTooFar 42 = .ok (.iload 7, 2) := by decide +kernel
theorem dX3_isTooFar_44 : decode cX3_isTooFar 44 = .ok (.iload 6, 2) := by decide +kernel
theorem dX3_isTooFar_46 : decode cX3_isTooFar 46 = .ok (.iand, 1) := by decide +kernel
theorem dX3_isTooFar_47 : decode cX3_isTooFar 47 = .ok (.ifCond .ne 21, 3) := by decide +kernel
theorem dX3_isTooFar_50 : decode cX3_isTooFar 50 = .ok (.iload 8, 2) := by decide +kernel
theorem dX3_isTooFar_52 : decode cX3_isTooFar 52 = .ok (.iload 7, 2) := by decide +kernel
theorem dX3_isTooFar_54 : decode cX3_isTooFar 54 = .ok (.ifCond .eq 7, 3) := by decide +kernel
theorem dX3_isTooFar_57 : decode cX3_isTooFar 57 = .ok (.iconst 1, 1) := by decide +kernel
theorem dX3_isTooFar_58 : decode cX3_isTooFar 58 = .ok (.goto 4, 3) := by decide +kernel
theorem dX3_isTooFar_61 : decode cX3_isTooFar 61 = .ok (.iconst 0, 1) := by decide +kernel
theorem dX3_isTooFar_62 : decode cX3_isTooFar 62 = .ok (.iadd, 1) := by decide +kernel
theorem dX3_isTooFar_63 : decode cX3_isTooFar 63 = .ok (.iload 4, 2) := by decide +kernel
theorem dX3_isTooFar_65 : decode cX3_isTooFar 65 = .ok (.if_icmp .le 7, 3) := by decide +kernel
theorem dX3_isTooFar_68 : decode cX3_isTooFar 68 = .ok (.iconst 1, 1) := by decide +kernel
theorem dX3_isTooFar_69 : decode cX3_isTooFar 69 = .ok (.goto 4, 3) := by decide +kernel
theorem dX3_isTooFar_72 : decode cX3_isTooFar 72 = .ok (.iconst 0, 1) := by decide +kernel
theorem dX3_isTooFar_73 : decode cX3_isTooFar 73 = .ok (.ireturn, 1) := by decide +kernel
theorem dX3_outcome_0 : decode cX3_outcome 0 = .ok (.aload_n 0, 1) := by decide +kernel
theorem dX3_outcome_1 : decode cX3_outcome 1 = .ok (.lload_n 1, 1) := by decide +kernel
theorem dX3_outcome_2 : decode cX3_outcome 2 = .ok (.iload_n 3, 1) := by decide +kernel
theorem dX3_outcome_3 : decode cX3_outcome 3 = .ok (.bipush 6, 2) := by decide +kernel
theorem dX3_outcome_5 : decode cX3_outcome 5 = .ok (.invokestatic 61, 3) := by decide +kernel
theorem dX3_outcome_8 : decode cX3_outcome 8 = .ok (.invokestatic 67, 3) := by decide +kernel
theorem dX3_outcome_11 : decode cX3_outcome 11 = .ok (.ireturn, 1) := by decide +kernel
theorem dX3_played_0 : decode cX3_played 0 = .ok (.iload_n 3, 1) := by decide +kernel
theorem dX3_played_1 : decode cX3_played 1 = .ok (.ifCond .gt 27, 3) := by decide +kernel
theorem dX3_played_4 : decode cX3_played 4 = .ok (.lload_n 1, 1) := by decide +kernel
theorem dX3_played_5 : decode cX3_played 5 = .ok (.invokestatic 39, 3) := by decide +kernel
theorem dX3_played_8 : decode cX3_played 8 = .ok (.istore 4, 2) := by decide +kernel
theorem dX3_played_10 : decode cX3_played 10 = .ok (.iload 4, 2) := by decide +kernel
theorem dX3_played_12 : decode cX3_played 12 = .ok (.bipush 42, 2) := by decide +kernel
theorem dX3_played_14 : decode cX3_played 14 = .ok (.iand, 1) := by decide +kernel
theorem dX3_played_15 : decode cX3_played 15 = .ok (.invokestatic 56, 3) := by decide +kernel
theorem dX3_played_18 : decode cX3_played 18 = .ok (.iload 4, 2) := by decide +kernel
theorem dX3_played_20 : decode cX3_played 20 = .ok (.bipush 21, 2) := by decide +kernel
theorem dX3_played_22 : decode cX3_played 22 = .ok (.iand, 1) := by decide +kernel
theorem dX3_played_23 : decode cX3_played 23 = .ok (.invokestatic 56, 3) := by decide +kernel
theorem dX3_played_26 : decode cX3_played 26 = .ok (.isub, 1) := by decide +kernel
theorem dX3_played_27 : decode cX3_played 27 = .ok (.ireturn, 1) := by decide +kernel
theorem dX3_played_28 : decode cX3_played 28 = .ok (.iload_n 3, 1) := by decide +kernel
theorem dX3_played_29 : decode cX3_played 29 = .ok (.iconst 2, 1) := by decide +kernel
theorem dX3_played_30 : decode cX3_played 30 = .ok (.irem, 1) := by decide +kernel
theorem dX3_played_31 : decode cX3_played 31 = .ok (.ifCond .ne 7, 3) := by decide +kernel
theorem dX3_played_34 : decode cX3_played 34 = .ok (.iconst 1, 1) := by decide +kernel
theorem dX3_played_35 : decode cX3_played 35 = .ok (.goto 4, 3) := by decide +kernel
theorem dX3_played_38 : decode cX3_played 38 = .ok (.iconst 0, 1) := by decide +kernel
theorem dX3_played_39 : decode cX3_played 39 = .ok (.istore 4, 2) := by decide +kernel
theorem dX3_played_41 : decode cX3_played 41 = .ok (.aload_n 0, 1) := by decide +kernel
theorem dX3_played_42 : decode cX3_played 42 = .ok (.lload_n 1, 1) := by decide +kernel
theorem dX3_played_43 : decode cX3_played 43 = .ok (.iload_n 3, 1) := by decide +kernel
theorem dX3_played_44 : decode cX3_played 44 = .ok (.iconst 1, 1) := by decide +kernel
theorem dX3_played_45 : decode cX3_played 45 = .ok (.isub, 1) := by decide +kernel
theorem dX3_played_46 : decode cX3_played 46 = .ok (.invokestatic 67, 3) := by decide +kernel
theorem dX3_played_49 : decode cX3_played 49 = .ok (.istore 5, 2) := by decide +kernel
theorem dX3_played_51 : decode cX3_played 51 = .ok (.iload 4, 2) := by decide +kernel
theorem dX3_played_53 : decode cX3_played 53 = .ok (.ifCond .eq 7, 3) := by decide +kernel
theorem dX3_played_56 : decode cX3_played 56 = .ok (.iconst 0, 1) := by decide +kernel
theorem dX3_played_57 : decode cX3_played 57 = .ok (.goto 4, 3) := by decide +kernel
theorem dX3_played_60 : decode cX3_played 60 = .ok (.iconst 1, 1) := by decide +kernel
theorem dX3_played_61 : decode cX3_played 61 = .ok (.istore 6, 2) := by decide +kernel
theorem dX3_played_63 : decode cX3_played 63 = .ok (.iload 6, 2) := by decide +kernel
theorem dX3_played_65 : decode cX3_played 65 = .ok (.aload_n 0, 1) := by decide +kernel
theorem dX3_played_66 : decode cX3_played 66 = .ok (.getfield 71, 3) := by decide +kernel
theorem dX3_played_69 : decode cX3_played 69 = .ok (.if_icmp .ge 59, 3) := by decide +kernel
theorem dX3_played_72 : decode cX3_played 72 = .ok (.lload_n 1, 1) := by decide +kernel
theorem dX3_played_73 : decode cX3_played 73 = .ok (.iload 6, 2) := by decide +kernel
theorem dX3_played_75 : decode cX3_played 75 = .ok (.invokestatic 25, 3) := by decide +kernel
theorem dX3_played_78 : decode cX3_played 78 = .ok (.ifCond .eq 44, 3) := by decide +kernel
theorem dX3_played_81 : decode cX3_played 81 = .ok (.aload_n 0, 1) := by decide +kernel
theorem dX3_played_82 : decode cX3_played 82 = .ok (.aload_n 0, 1) := by decide +kernel
theorem dX3_played_83 : decode cX3_played 83 = .ok (.lload_n 1, 1) := by decide +kernel
theorem dX3_played_84 : decode cX3_played 84 = .ok (.iload 6, 2) := by decide +kernel
theorem dX3_played_86 : decode cX3_played 86 = .ok (.iconst 1, 1) := by decide +kernel
theorem dX3_played_87 : decode cX3_played 87 = .ok (.invokevirtual 31, 3) := by decide +kernel
theorem dX3_played_90 : decode cX3_played 90 = .ok (.iload_n 3, 1) := by decide +kernel
theorem dX3_played_91 : decode cX3_played 91 = .ok (.iconst 1, 1) := by decide +kernel
theorem dX3_played_92 : decode cX3_played 92 = .ok (.isub, 1) := by decide +kernel
theorem dX3_played_93 : decode cX3_played 93 = .ok (.invokestatic 67, 3) := by decide +kernel
theorem dX3_played_96 : decode cX3_played 96 = .ok (.istore 7, 2) := by decide +kernel
theorem dX3_played_98 : decode cX3_played 98 = .ok (.iload 4, 2) := by decide +kernel
theorem dX3_played_100 : decode cX3_played 100 = .ok (.ifCond .eq 13, 3) := by decide +kernel
theorem dX3_played_103 : decode cX3_played 103 = .ok (.iload 5, 2) := by decide +kernel
theorem dX3_played_105 : decode cX3_played 105 = .ok (.iload 7, 2) := by decide +kernel
theorem dX3_played_107 : decode cX3_played 107 = .ok (.invokestatic 75, 3) := by decide +kernel
theorem dX3_played_110 : decode cX3_played 110 = .ok (.goto 10, 3) := by decide +kernel
theorem dX3_played_113 : decode cX3_played 113 = .ok (.iload 5, 2) := by decide +kernel
theorem dX3_played_115 : decode cX3_played 115 = .ok (.iload 7, 2) := by decide +kernel
theorem dX3_played_117 : decode cX3_played 117 = .ok (.invokestatic 61, 3) := by decide +kernel
theorem dX3_played_120 : decode cX3_played 120 = .ok (.istore 5, 2) := by decide +kernel
theorem dX3_played_122 : decode cX3_played 122 = .ok (.iinc 6 2, 3) := by decide +kernel
theorem dX3_played_125 : decode cX3_played 125 = .ok (.goto (-62), 3) := by decide +kernel
theorem dX3_played_128 : decode cX3_played 128 = .ok (.iload 5, 2) := by decide +kernel
theorem dX3_played_130 : decode cX3_played 130 = .ok (.ireturn, 1) := by decide +kernel
theorem dX4_init_0 : decode cX4_init 0 = .ok (.aload_n 0, 1) := by decide +kernel
theorem dX4_init_1 : decode cX4_init 1 = .ok (.invokespecial 3, 3) := by decide +kernel
theorem dX4_init_4 : decode cX4_init 4 = .ok (.aload_n 0, 1) := by decide +kernel
theorem dX4_init_5 : decode cX4_init 5 = .ok (.iload_n 2, 1) := by decide +kernel
theorem dX4_init_6 : decode cX4_init 6 = .ok (.putfield 9, 3) := by decide +kernel
theorem dX4_init_9 : decode cX4_init 9 = .ok (.aload_n 0, 1) := by decide +kernel
theorem dX4_init_10 : decode cX4_init 10 = .ok (.iload_n 3, 1) := by decide +kernel
theorem dX4_init_11 : decode cX4_init 11 = .ok (.putfield 15, 3) := by decide +kernel
theorem dX4_init_14 : decode cX4_init 14 = .ok (.aload_n 0, 1) := by decide +kernel
theorem dX4_init_15 : decode cX4_init 15 = .ok (.iload_n 1, 1) := by decide +kernel
theorem dX4_init_16 : decode cX4_init 16 = .ok (.iconst 0, 1) := by decide +kernel
theorem dX4_init_17 : decode cX4_init 17 = .ok (.invokestatic 18, 3) := by decide +kernel
theorem dX4_init_20 : decode cX4_init 20 = .ok (.iload_n 2, 1) := by decide +kernel
theorem dX4_init_21 : decode cX4_init 21 = .ok (.iconst 0, 1) := by decide +kernel
theorem dX4_init_22 : decode cX4_init 22 = .ok (.invokestatic 18, 3) := by decide +kernel
theorem dX4_init_25 : decode cX4_init 25 = .ok (.multianewarray 24 2, 4) := by decide +kernel
theorem dX4_init_29 : decode cX4_init 29 = .ok (.putfield 26, 3) := by decide +kernel
theorem dX4_init_32 : decode cX4_init 32 = .ok (.aload_n 0, 1) := by decide +kernel
theorem dX4_init_33 : decode cX4_init 33 = .ok (.aload_n 0, 1) := by decide +kernel
theorem dX4_init_34 : decode cX4_init 34 = .ok (.getfield 26, 3) := by decide +kernel
theorem dX4_init_37 : decode cX4_init 37 = .ok (.arraylength, 1) := by decide +kernel
theorem dX4_init_38 : decode cX4_init 38 = .ok (.newarray .int, 2) := by decide +kernel
theorem dX4_init_40 : decode cX4_init 40 = .ok (.putfield 29, 3) := by decide +kernel
theorem dX4_init_43 : decode cX4_init 43 = .ok (.iconst 0, 1) := by decide +kernel
theorem dX4_init_44 : decode cX4_init 44 = .ok (.istore 4, 2) := by decide +kernel
theorem dX4_init_46 : decode cX4_init 46 = .ok (.iload 4, 2) := by decide +kernel
theorem dX4_init_48 : decode cX4_init 48 = .ok (.aload_n 0, 1) := by decide +kernel
theorem dX4_init_49 : decode cX4_init 49 = .ok (.getfield 29, 3) := by decide +kernel
theorem dX4_init_52 : decode cX4_init 52 = .ok (.arraylength, 1) := by decide +kernel
theorem dX4_init_53 : decode cX4_init 53 = .ok (.if_icmp .ge 17, 3) := by decide +kernel
theorem dX4_init_56 : decode cX4_init 56 = .ok (.aload_n 0, 1) := by decide +kernel
theorem dX4_init_57 : decode cX4_init 57 = .ok (.getfield 29, 3) := by decide +kernel
theorem dX4_init_60 : decode cX4_init 60 = .ok (.iload 4, 2) := by decide +kernel
theorem dX4_init_62 : decode cX4_init 62 = .ok (.iconst (-1), 1) := by decide +kernel
theorem dX4_init_63 : decode cX4_init 63 = .ok (.iastore, 1) := by decide +kernel
theorem dX4_init_64 : decode cX4_init 64 = .ok (.iinc 4 1, 3) := by decide +kernel
theorem dX4_init_67 : decode cX4_init 67 = .ok (.goto (-21), 3) := by decide +kernel
theorem dX4_init_70 : decode cX4_init 70 = .ok (.return_, 1) := by decide +kernel
theorem dX4_isNumber_0 : decode cX4_isNumber 0 = .ok (.iload_n 1, 1) := by decide +kernel
theorem dX4_isNumber_1 : decode cX4_isNumber 1 = .ok (.ifCond .lt 16, 3) := by decide +kernel
theorem dX4_isNumber_4 : decode cX4_isNumber 4 = .ok (.iload_n 1, 1) := by decide +kernel
theorem dX4_isNumber_5 : decode cX4_isNumber 5 = .ok (.aload_n 0, 1) := by decide +kernel
theorem dX4_isNumber_6 : decode cX4_isNumber 6 = .ok (.getfield 29, 3) := by decide +kernel
theorem dX4_isNumber_9 : decode cX4_isNumber 9 = .ok (.arraylength, 1) := by decide +kernel
theorem dX4_isNumber_10 : decode cX4_isNumber 10 = .ok (.if_icmp .ge 7, 3) := by decide +kernel
theorem dX4_isNumber_13 : decode cX4_isNumber 13 = .ok (.iconst 1, 1) := by decide +kernel
theorem dX4_isNumber_14 : decode cX4_isNumber 14 = .ok (.goto 4, 3) := by decide +kernel
theorem dX4_isNumber_17 : decode cX4_isNumber 17 = .ok (.iconst 0, 1) := by decide +kernel
theorem dX4_isNumber_18 : decode cX4_isNumber 18 = .ok (.ireturn, 1) := by decide +kernel
theorem dX4_isThere_0 : decode cX4_isThere 0 = .ok (.aload_n 0, 1) := by decide +kernel
theorem dX4_isThere_1 : decode cX4_isThere 1 = .ok (.iload_n 1, 1) := by decide +kernel
theorem dX4_isThere_2 : decode cX4_isThere 2 = .ok (.invokevirtual 33, 3) := by decide +kernel
theorem dX4_isThere_5 : decode cX4_isThere 5 = .ok (.iconst (-1), 1) := by decide +kernel
theorem dX4_isThere_6 : decode cX4_isThere 6 = .ok (.if_icmp .eq 7, 3) := by decide +kernel
theorem dX4_isThere_9 : decode cX4_isThere 9 = .ok (.iconst 1, 1) := by decide +kernel
theorem dX4_isThere_10 : decode cX4_isThere 10 = .ok (.goto 4, 3) := by decide +kernel
theorem dX4_isThere_13 : decode cX4_isThere 13 = .ok (.iconst 0, 1) := by decide +kernel
theorem dX4_isThere_14 : decode cX4_isThere 14 = .ok (.ireturn, 1) := by decide +kernel
theorem dX4_size_0 : decode cX4_size 0 = .ok (.aload_n 0, 1) := by decide +kernel
theorem dX4_size_1 : decode cX4_size 1 = .ok (.iload_n 1, 1) := by decide +kernel
theorem dX4_size_2 : decode cX4_size 2 = .ok (.invokevirtual 37, 3) := by decide +kernel
theorem dX4_size_5 : decode cX4_size 5 = .ok (.ifCond .eq 12, 3) := by decide +kernel
theorem dX4_size_8 : decode cX4_size 8 = .ok (.aload_n 0, 1) := by decide +kernel
theorem dX4_size_9 : decode cX4_size 9 = .ok (.getfield 29, 3) := by decide +kernel
theorem dX4_size_12 : decode cX4_size 12 = .ok (.iload_n 1, 1) := by decide +kernel
theorem dX4_size_13 : decode cX4_size 13 = .ok (.iaload, 1) := by decide +kernel
theorem dX4_size_14 : decode cX4_size 14 = .ok (.goto 4, 3) := by decide +kernel
theorem dX4_size_17 : decode cX4_size 17 = .ok (.iconst (-1), 1) := by decide +kernel
theorem dX4_size_18 : decode cX4_size 18 = .ok (.ireturn, 1) := by decide +kernel
theorem dX4_hasPlace_0 : decode cX4_hasPlace 0 = .ok (.iload_n 2, 1) := by decide +kernel
theorem dX4_hasPlace_1 : decode cX4_hasPlace 1 = .ok (.ifCond .lt 16, 3) := by decide +kernel
theorem dX4_hasPlace_4 : decode cX4_hasPlace 4 = .ok (.iload_n 2, 1) := by decide +kernel
theorem dX4_hasPlace_5 : decode cX4_hasPlace 5 = .ok (.aload_n 0, 1) := by decide +kernel
theorem dX4_hasPlace_6 : decode cX4_hasPlace 6 = .ok (.iload_n 1, 1) := by decide +kernel
theorem dX4_hasPlace_7 : decode cX4_hasPlace 7 = .ok (.invokevirtual 33, 3) := by decide +kernel
theorem dX4_hasPlace_10 : decode cX4_hasPlace 10 = .ok (.if_icmp .ge 7, 3) := by decide +kernel
theorem dX4_hasPlace_13 : decode cX4_hasPlace 13 = .ok (.iconst 1, 1) := by decide +kernel
theorem dX4_hasPlace_14 : decode cX4_hasPlace 14 = .ok (.goto 4, 3) := by decide +kernel
theorem dX4_hasPlace_17 : decode cX4_hasPlace 17 = .ok (.iconst 0, 1) := by decide +kernel
theorem dX4_hasPlace_18 : decode cX4_hasPlace 18 = .ok (.ireturn, 1) := by decide +kernel
theorem dX4_get_0 : decode cX4_get 0 = .ok (.aload_n 0, 1) := by decide +kernel
theorem dX4_get_1 : decode cX4_get 1 = .ok (.iload_n 1, 1) := by decide +kernel
theorem dX4_get_2 : decode cX4_get 2 = .ok (.iload_n 2, 1) := by decide +kernel
theorem dX4_get_3 : decode cX4_get 3 = .ok (.invokevirtual 41, 3) := by decide +kernel
theorem dX4_get_6 : decode cX4_get 6 = .ok (.ifCond .eq 14, 3) := by decide +kernel
theorem dX4_get_9 : decode cX4_get 9 = .ok (.aload_n 0, 1) := by decide +kernel
theorem dX4_get_10 : decode cX4_get 10 = .ok (.getfield 26, 3) := by decide +kernel
theorem dX4_get_13 : decode cX4_get 13 = .ok (.iload_n 1, 1) := by decide +kernel
theorem dX4_get_14 : decode cX4_get 14 = .ok (.aaload, 1) := by decide +kernel
theorem dX4_get_15 : decode cX4_get 15 = .ok (.iload_n 2, 1) := by decide +kernel
theorem dX4_get_16 : decode cX4_get 16 = .ok (.iaload, 1) := by decide +kernel
theorem dX4_get_17 : decode cX4_get 17 = .ok (.goto 4, 3) := by decide +kernel
theorem dX4_get_20 : decode cX4_get 20 = .ok (.iconst 0, 1) := by decide +kernel
theorem dX4_get_21 : decode cX4_get 21 = .ok (.ireturn, 1) := by decide +kernel
theorem dX4_set_0 : decode cX4_set 0 = .ok (.aload_n 0, 1) := by decide +kernel
theorem dX4_set_1 : decode cX4_set 1 = .ok (.iload_n 1, 1) := by decide +kernel
theorem dX4_set_2 : decode cX4_set 2 = .ok (.iload_n 2, 1) := by decide +kernel
theorem dX4_set_3 : decode cX4_set 3 = .ok (.invokevirtual 41, 3) := by decide +kernel
theorem dX4_set_6 : decode cX4_set 6 = .ok (.ifCond .eq 12, 3) := by decide +kernel
theorem dX4_set_9 : decode cX4_set 9 = .ok (.aload_n 0, 1) := by decide +kernel
theorem dX4_set_10 : decode cX4_set 10 = .ok (.getfield 26, 3) := by decide +kernel
theorem dX4_set_13 : decode cX4_set 13 = .ok (.iload_n 1, 1) := by decide +kernel
theorem dX4_set_14 : decode cX4_set 14 = .ok (.aaload, 1) := by decide +kernel
theorem dX4_set_15 : decode cX4_set 15 = .ok (.iload_n 2, 1) := by decide +kernel
theorem dX4_set_16 : decode cX4_set 16 = .ok (.iload_n 3, 1) := by decide +kernel
theorem dX4_set_17 : decode cX4_set 17 = .ok (.iastore, 1) := by decide +kernel
theorem dX4_set_18 : decode cX4_set 18 = .ok (.return_, 1) := by decide +kernel
theorem dX4_make_0 : decode cX4_make 0 = .ok (.aload_n 0, 1) := by decide +kernel
theorem dX4_make_1 : decode cX4_make 1 = .ok (.iload_n 1, 1) := by decide +kernel
theorem dX4_make_2 : decode cX4_make 2 = .ok (.invokevirtual 37, 3) := by decide +kernel
theorem dX4_make_5 : decode cX4_make 5 = .ok (.ifCond .eq 47, 3) := by decide +kernel
theorem dX4_make_8 : decode cX4_make 8 = .ok (.iload_n 2, 1) := by decide +kernel
theorem dX4_make_9 : decode cX4_make 9 = .ok (.ifCond .lt 43, 3) := by decide +kernel
theorem dX4_make_12 : decode cX4_make 12 = .ok (.iload_n 2, 1) := by decide +kernel
theorem dX4_make_13 : decode cX4_make 13 = .ok (.aload_n 0, 1) := by decide +kernel
theorem dX4_make_14 : decode cX4_make 14 = .ok (.getfield 9, 3) := by decide +kernel
theorem dX4_make_17 : decode cX4_make 17 = .ok (.if_icmp .gt 35, 3) := by decide +kernel
theorem dX4_make_20 : decode cX4_make 20 = .ok (.aload_n 0, 1) := by decide +kernel
theorem dX4_make_21 : decode cX4_make 21 = .ok (.getfield 29, 3) := by decide +kernel
theorem dX4_make_24 : decode cX4_make 24 = .ok (.iload_n 1, 1) := by decide +kernel
theorem dX4_make_25 : decode cX4_make 25 = .ok (.iload_n 2, 1) := by decide +kernel
theorem dX4_make_26 : decode cX4_make 26 = .ok (.iastore, 1) := by decide +kernel
theorem dX4_make_27 : decode cX4_make 27 = .ok (.iconst 0, 1) := by decide +kernel
theorem dX4_make_28 : decode cX4_make 28 = .ok (.istore_n 3, 1) := by decide +kernel
theorem dX4_make_29 : decode cX4_make 29 = .ok (.iload_n 3, 1) := by decide +kernel
theorem dX4_make_30 : decode cX4_make 30 = .ok (.iload_n 2, 1) := by decide +kernel
theorem dX4_make_31 : decode cX4_make 31 = .ok (.if_icmp .ge 21, 3) := by decide +kernel
theorem dX4_make_34 : decode cX4_make 34 = .ok (.aload_n 0, 1) := by decide +kernel
theorem dX4_make_35 : decode cX4_make 35 = .ok (.getfield 26, 3) := by decide +kernel
theorem dX4_make_38 : decode cX4_make 38 = .ok (.iload_n 1, 1) := by decide +kernel
theorem dX4_make_39 : decode cX4_make 39 = .ok (.aaload, 1) := by decide +kernel
theorem dX4_make_40 : decode cX4_make 40 = .ok (.iload_n 3, 1) := by decide +kernel
theorem dX4_make_41 : decode cX4_make 41 = .ok (.aload_n 0, 1) := by decide +kernel
theorem dX4_make_42 : decode cX4_make 42 = .ok (.getfield 15, 3) := by decide +kernel
theorem dX4_make_45 : decode cX4_make 45 = .ok (.iastore, 1) := by decide +kernel
theorem dX4_make_46 : decode cX4_make 46 = .ok (.iinc 3 1, 3) := by decide +kernel
theorem dX4_make_49 : decode cX4_make 49 = .ok (.goto (-20), 3) := by decide +kernel
theorem dX4_make_52 : decode cX4_make 52 = .ok (.return_, 1) := by decide +kernel
theorem dX4_countThere_0 : decode cX4_countThere 0 = .ok (.iconst 0, 1) := by decide +kernel
theorem dX4_countThere_1 : decode cX4_countThere 1 = .ok (.istore_n 1, 1) := by decide +kernel
theorem dX4_countThere_2 : decode cX4_countThere 2 = .ok (.iconst 0, 1) := by decide +kernel
theorem dX4_countThere_3 : decode cX4_countThere 3 = .ok (.istore_n 2, 1) := by decide +kernel
theorem dX4_countThere_4 : decode cX4_countThere 4 = .ok (.iload_n 2, 1) := by decide +kernel
theorem dX4_countThere_5 : decode cX4_countThere 5 = .ok (.aload_n 0, 1) := by decide +kernel
theorem dX4_countThere_6 : decode cX4_countThere 6 = .ok (.getfield 29, 3) := by decide +kernel
theorem dX4_countThere_9 : decode cX4_countThere 9 = .ok (.arraylength, 1) := by decide +kernel
theorem dX4_countThere_10 : decode cX4_countThere 10 = .ok (.if_icmp .ge 20, 3) := by decide +kernel
theorem dX4_countThere_13 : decode cX4_countThere 13 = .ok (.aload_n 0, 1) := by decide +kernel
theorem dX4_countThere_14 : decode cX4_countThere 14 = .ok (.iload_n 2, 1) := by decide +kernel
theorem dX4_countThere_15 : decode cX4_countThere 15 = .ok (.invokevirtual 58, 3) := by decide +kernel
theorem dX4_countThere_18 : decode cX4_countThere 18 = .ok (.ifCond .eq 6, 3) := by decide +kernel
theorem dX4_countThere_21 : decode cX4_countThere 21 = .ok (.iinc 1 1, 3) := by decide +kernel
theorem dX4_countThere_24 : decode cX4_countThere 24 = .ok (.iinc 2 1, 3) := by decide +kernel
theorem dX4_countThere_27 : decode cX4_countThere 27 = .ok (.goto (-23), 3) := by decide +kernel
theorem dX4_countThere_30 : decode cX4_countThere 30 = .ok (.iload_n 1, 1) := by decide +kernel
theorem dX4_countThere_31 : decode cX4_countThere 31 = .ok (.ireturn, 1) := by decide +kernel
theorem dX4_digestFrom_0 : decode cX4_digestFrom 0 = .ok (.lload_n 1, 1) := by decide +kernel
theorem dX4_digestFrom_1 : decode cX4_digestFrom 1 = .ok (.lstore_n 3, 1) := by decide +kernel
theorem dX4_digestFrom_2 : decode cX4_digestFrom 2 = .ok (.iconst 0, 1) := by decide +kernel
theorem dX4_digestFrom_3 : decode cX4_digestFrom 3 = .ok (.istore 5, 2) := by decide +kernel
theorem dX4_digestFrom_5 : decode cX4_digestFrom 5 = .ok (.iload 5, 2) := by decide +kernel
theorem dX4_digestFrom_7 : decode cX4_digestFrom 7 = .ok (.aload_n 0, 1) := by decide +kernel
theorem dX4_digestFrom_8 : decode cX4_digestFrom 8 = .ok (.getfield 29, 3) := by decide +kernel
theorem dX4_digestFrom_11 : decode cX4_digestFrom 11 = .ok (.arraylength, 1) := by decide +kernel
theorem dX4_digestFrom_12 : decode cX4_digestFrom 12 = .ok (.if_icmp .ge 59, 3) := by decide +kernel
theorem dX4_digestFrom_15 : decode cX4_digestFrom 15 = .ok (.ldc2_w 61, 3) := by decide +kernel
theorem dX4_digestFrom_18 : decode cX4_digestFrom 18 = .ok (.lload_n 3, 1) := by decide +kernel
theorem dX4_digestFrom_19 : decode cX4_digestFrom 19 = .ok (.lmul, 1) := by decide +kernel
theorem dX4_digestFrom_20 : decode cX4_digestFrom 20 = .ok (.aload_n 0, 1) := by decide +kernel
theorem dX4_digestFrom_21 : decode cX4_digestFrom 21 = .ok (.iload 5, 2) := by decide +kernel
theorem dX4_digestFrom_23 : decode cX4_digestFrom 23 = .ok (.invokevirtual 33, 3) := by decide +kernel
theorem dX4_digestFrom_26 : decode cX4_digestFrom 26 = .ok (.i2l, 1) := by decide +kernel
theorem dX4_digestFrom_27 : decode cX4_digestFrom 27 = .ok (.ladd, 1) := by decide +kernel
theorem dX4_digestFrom_28 : decode cX4_digestFrom 28 = .ok (.lstore_n 3, 1) := by decide +kernel
theorem dX4_digestFrom_29 : decode cX4_digestFrom 29 = .ok (.iconst 0, 1) := by decide +kernel
theorem dX4_digestFrom_30 : decode cX4_digestFrom 30 = .ok (.istore 6, 2) := by decide +kernel
theorem dX4_digestFrom_32 : decode cX4_digestFrom 32 = .ok (.iload 6, 2) := by decide +kernel
theorem dX4_digestFrom_34 : decode cX4_digestFrom 34 = .ok (.aload_n 0, 1) := by decide +kernel
theorem dX4_digestFrom_35 : decode cX4_digestFrom 35 = .ok (.iload 5, 2) := by decide +kernel
theorem dX4_digestFrom_37 : decode cX4_digestFrom 37 = .ok (.invokevirtual 33, 3) := by decide +kernel
theorem dX4_digestFrom_40 : decode cX4_digestFrom 40 = .ok (.if_icmp .ge 25, 3) := by decide +kernel
theorem dX4_digestFrom_43 : decode cX4_digestFrom 43 = .ok (.ldc2_w 61, 3) := by decide +kernel
theorem dX4_digestFrom_46 : decode cX4_digestFrom 46 = .ok (.lload_n 3, 1) := by decide +kernel
theorem dX4_digestFrom_47 : decode cX4_digestFrom 47 = .ok (.lmul, 1) := by decide +kernel
theorem dX4_digestFrom_48 : decode cX4_digestFrom 48 = .ok (.aload_n 0, 1) := by decide +kernel
theorem dX4_digestFrom_49 : decode cX4_digestFrom 49 = .ok (.iload 5, 2) := by decide +kernel
theorem dX4_digestFrom_51 : decode cX4_digestFrom 51 = .ok (.iload 6, 2) := by decide +kernel
theorem dX4_digestFrom_53 : decode cX4_digestFrom 53 = .ok (.invokevirtual 55, 3) := by decide +kernel
theorem dX4_digestFrom_56 : decode cX4_digestFrom 56 = .ok (.i2l, 1) := by decide +kernel
theorem dX4_digestFrom_57 : decode cX4_digestFrom 57 = .ok (.ladd, 1) := by decide +kernel
theorem dX4_digestFrom_58 : decode cX4_digestFrom 58 = .ok (.lstore_n 3, 1) := by decide +kernel
theorem dX4_digestFrom_59 : decode cX4_digestFrom 59 = .ok (.iinc 6 1, 3) := by decide +kernel
theorem dX4_digestFrom_62 : decode cX4_digestFrom 62 = .ok (.goto (-30), 3) := by decide +kernel
theorem dX4_digestFrom_65 : decode cX4_digestFrom 65 = .ok (.iinc 5 1, 3) := by decide +kernel
theorem dX4_digestFrom_68 : decode cX4_digestFrom 68 = .ok (.goto (-63), 3) := by decide +kernel
theorem dX4_digestFrom_71 : decode cX4_digestFrom 71 = .ok (.lload_n 3, 1) := by decide +kernel
theorem dX4_digestFrom_72 : decode cX4_digestFrom 72 = .ok (.lreturn, 1) := by decide +kernel
theorem dX5_strain_0 : decode cX5_strain 0 = .ok (.lload_n 0, 1) := by decide +kernel
theorem dX5_strain_1 : decode cX5_strain 1 = .ok (.iconst 4, 1) := by decide +kernel
theorem dX5_strain_2 : decode cX5_strain 2 = .ok (.iload_n 2, 1) := by decide +kernel
theorem dX5_strain_3 : decode cX5_strain 3 = .ok (.imul, 1) := by decide +kernel
theorem dX5_strain_4 : decode cX5_strain 4 = .ok (.lshr, 1) := by decide +kernel
theorem dX5_strain_5 : decode cX5_strain 5 = .ok (.l2i, 1) := by decide +kernel
theorem dX5_strain_6 : decode cX5_strain 6 = .ok (.bipush 15, 2) := by decide +kernel
theorem dX5_strain_8 : decode cX5_strain 8 = .ok (.iand, 1) := by decide +kernel
theorem dX5_strain_9 : decode cX5_strain 9 = .ok (.ireturn, 1) := by decide +kernel
theorem dX5_letGo_0 : decode cX5_letGo 0 = .ok (.lload_n 0, 1) := by decide +kernel
theorem dX5_letGo_1 : decode cX5_letGo 1 = .ok (.bipush 24, 2) := by decide +kernel
theorem dX5_letGo_3 : decode cX5_letGo 3 = .ok (.lshr, 1) := by decide +kernel
theorem dX5_letGo_4 : decode cX5_letGo 4 = .ok (.l2i, 1) := by decide +kernel
theorem dX5_letGo_5 : decode cX5_letGo 5 = .ok (.bipush 63, 2) := by decide +kernel
theorem dX5_letGo_7 : decode cX5_letGo 7 = .ok (.iand, 1) := by decide +kernel
theorem dX5_letGo_8 : decode cX5_letGo 8 = .ok (.ireturn, 1) := by decide +kernel
theorem dX5_parted_0 : decode cX5_parted 0 = .ok (.lload_n 0, 1) := by decide +kernel
theorem dX5_parted_1 : decode cX5_parted 1 = .ok (.bipush 30, 2) := by decide +kernel
theorem dX5_parted_3 : decode cX5_parted 3 = .ok (.lshr, 1) := by decide +kernel
theorem dX5_parted_4 : decode cX5_parted 4 = .ok (.l2i, 1) := by decide +kernel
theorem dX5_parted_5 : decode cX5_parted 5 = .ok (.bipush 63, 2) := by decide +kernel
theorem dX5_parted_7 : decode cX5_parted 7 = .ok (.iand, 1) := by decide +kernel
theorem dX5_parted_8 : decode cX5_parted 8 = .ok (.ireturn, 1) := by decide +kernel
theorem dX5_frostIn_0 : decode cX5_frostIn 0 = .ok (.lload_n 0, 1) := by decide +kernel
theorem dX5_frostIn_1 : decode cX5_frostIn 1 = .ok (.bipush 36, 2) := by decide +kernel
theorem dX5_frostIn_3 : decode cX5_frostIn 3 = .ok (.lshr, 1) := by decide +kernel
theorem dX5_frostIn_4 : decode cX5_frostIn 4 = .ok (.l2i, 1) := by decide +kernel
theorem dX5_frostIn_5 : decode cX5_frostIn 5 = .ok (.iconst 1, 1) := by decide +kernel
theorem dX5_frostIn_6 : decode cX5_frostIn 6 = .ok (.iand, 1) := by decide +kernel
theorem dX5_frostIn_7 : decode cX5_frostIn 7 = .ok (.ireturn, 1) := by decide +kernel
theorem dX5_isLetGo_0 : decode cX5_isLetGo 0 = .ok (.lload_n 0, 1) := by decide +kernel
theorem dX5_isLetGo_1 : decode cX5_isLetGo 1 = .ok (.invokestatic 11, 3) := by decide +kernel
theorem dX5_isLetGo_4 : decode cX5_isLetGo 4 = .ok (.iload_n 2, 1) := by decide +kernel
theorem dX5_isLetGo_5 : decode cX5_isLetGo 5 = .ok (.ishr, 1) := by decide +kernel
theorem dX5_isLetGo_6 : decode cX5_isLetGo 6 = .ok (.iconst 1, 1) := by decide +kernel
theorem dX5_isLetGo_7 : decode cX5_isLetGo 7 = .ok (.iand, 1) := by decide +kernel
theorem dX5_isLetGo_8 : decode cX5_isLetGo 8 = .ok (.ifCond .eq 7, 3) := by decide +kernel
theorem dX5_isLetGo_11 : decode cX5_isLetGo 11 = .ok (.iconst 1, 1) := by decide +kernel
theorem dX5_isLetGo_12 : decode cX5_isLetGo 12 = .ok (.goto 4, 3) := by decide +kernel
theorem dX5_isLetGo_15 : decode cX5_isLetGo 15 = .ok (.iconst 0, 1) := by decide +kernel
theorem dX5_isLetGo_16 : decode cX5_isLetGo 16 = .ok (.ireturn, 1) := by decide +kernel
theorem dX5_isParted_0 : decode cX5_isParted 0 = .ok (.lload_n 0, 1) := by decide +kernel
theorem dX5_isParted_1 : decode cX5_isParted 1 = .ok (.invokestatic 15, 3) := by decide +kernel
theorem dX5_isParted_4 : decode cX5_isParted 4 = .ok (.iload_n 2, 1) := by decide +kernel
theorem dX5_isParted_5 : decode cX5_isParted 5 = .ok (.ishr, 1) := by decide +kernel
theorem dX5_isParted_6 : decode cX5_isParted 6 = .ok (.iconst 1, 1) := by decide +kernel
theorem dX5_isParted_7 : decode cX5_isParted 7 = .ok (.iand, 1) := by decide +kernel
theorem dX5_isParted_8 : decode cX5_isParted 8 = .ok (.ifCond .eq 7, 3) := by decide +kernel
theorem dX5_isParted_11 : decode cX5_isParted 11 = .ok (.iconst 1, 1) := by decide +kernel
theorem dX5_isParted_12 : decode cX5_isParted 12 = .ok (.goto 4, 3) := by decide +kernel
theorem dX5_isParted_15 : decode cX5_isParted 15 = .ok (.iconst 0, 1) := by decide +kernel
theorem dX5_isParted_16 : decode cX5_isParted 16 = .ok (.ireturn, 1) := by decide +kernel
theorem dX5_isFast_0 : decode cX5_isFast 0 = .ok (.lload_n 0, 1) := by decide +kernel
theorem dX5_isFast_1 : decode cX5_isFast 1 = .ok (.iload_n 2, 1) := by decide +kernel
theorem dX5_isFast_2 : decode cX5_isFast 2 = .ok (.invokestatic 18, 3) := by decide +kernel
theorem dX5_isFast_5 : decode cX5_isFast 5 = .ok (.ifCond .ne 15, 3) := by decide +kernel
theorem dX5_isFast_8 : decode cX5_isFast 8 = .ok (.lload_n 0, 1) := by decide +kernel
theorem dX5_isFast_9 : decode cX5_isFast 9 = .ok (.iload_n 2, 1) := by decide +kernel
theorem dX5_isFast_10 : decode cX5_isFast 10 = .ok (.invokestatic 22, 3) := by decide +kernel
theorem dX5_isFast_13 : decode cX5_isFast 13 = .ok (.ifCond .ne 7, 3) := by decide +kernel
theorem dX5_isFast_16 : decode cX5_isFast 16 = .ok (.iconst 1, 1) := by decide +kernel
theorem dX5_isFast_17 : decode cX5_isFast 17 = .ok (.goto 4, 3) := by decide +kernel
theorem dX5_isFast_20 : decode cX5_isFast 20 = .ok (.iconst 0, 1) := by decide +kernel
theorem dX5_isFast_21 : decode cX5_isFast 21 = .ok (.ireturn, 1) := by decide +kernel
theorem dX5_taut_0 : decode cX5_taut 0 = .ok (.iconst 0, 1) := by decide +kernel
theorem dX5_taut_1 : decode cX5_taut 1 = .ok (.istore_n 2, 1) := by decide +kernel
theorem dX5_taut_2 : decode cX5_taut 2 = .ok (.iconst 0, 1) := by decide +kernel
theorem dX5_taut_3 : decode cX5_taut 3 = .ok (.istore_n 3, 1) := by decide +kernel
theorem dX5_taut_4 : decode cX5_taut 4 = .ok (.iload_n 3, 1) := by decide +kernel
theorem dX5_taut_5 : decode cX5_taut 5 = .ok (.bipush 6, 2) := by decide +kernel
theorem dX5_taut_7 : decode cX5_taut 7 = .ok (.if_icmp .ge 23, 3) := by decide +kernel
theorem dX5_taut_10 : decode cX5_taut 10 = .ok (.lload_n 0, 1) := by decide +kernel
theorem dX5_taut_11 : decode cX5_taut 11 = .ok (.iload_n 3, 1) := by decide +kernel
theorem dX5_taut_12 : decode cX5_taut 12 = .ok (.invokestatic 25, 3) := by decide +kernel
theorem dX5_taut_15 : decode cX5_taut 15 = .ok (.ifCond .le 9, 3) := by decide +kernel
theorem dX5_taut_18 : decode cX5_taut 18 = .ok (.iload_n 2, 1) := by decide +kernel
theorem dX5_taut_19 : decode cX5_taut 19 = .ok (.iconst 1, 1) := by decide +kernel
theorem dX5_taut_20 : decode cX5_taut 20 = .ok (.iload_n 3, 1) := by decide +kernel
theorem dX5_taut_21 : decode cX5_taut 21 = .ok (.ishl, 1) := by decide +kernel
theorem dX5_taut_22 : decode cX5_taut 22 = .ok (.ior, 1) := by decide +kernel
theorem dX5_taut_23 : decode cX5_taut 23 = .ok (.istore_n 2, 1) := by decide +kernel
theorem dX5_taut_24 : decode cX5_taut 24 = .ok (.iinc 3 1, 3) := by decide +kernel
theorem dX5_taut_27 : decode cX5_taut 27 = .ok (.goto (-23), 3) := by decide +kernel
theorem dX5_taut_30 : decode cX5_taut 30 = .ok (.iload_n 2, 1) := by decide +kernel
theorem dX5_taut_31 : decode cX5_taut 31 = .ok (.ireturn, 1) := by decide +kernel
theorem dX5_allStrains_0 : decode cX5_allStrains 0 = .ok (.iconst 0, 1) := by decide +kernel
theorem dX5_allStrains_1 : decode cX5_allStrains 1 = .ok (.istore_n 2, 1) := by decide +kernel
theorem dX5_allStrains_2 : decode cX5_allStrains 2 = .ok (.iconst 0, 1) := by decide +kernel
theorem dX5_allStrains_3 : decode cX5_allStrains 3 = .ok (.istore_n 3, 1) := by decide +kernel
theorem dX5_allStrains_4 : decode cX5_allStrains 4 = .ok (.iload_n 3, 1) := by decide +kernel
theorem dX5_allStrains_5 : decode cX5_allStrains 5 = .ok (.bipush 6, 2) := by decide +kernel
theorem dX5_allStrains_7 : decode cX5_allStrains 7 = .ok (.if_icmp .ge 17, 3) := by decide +kernel
theorem dX5_allStrains_10 : decode cX5_allStrains 10 = .ok (.iload_n 2, 1) := by decide +kernel
theorem dX5_allStrains_11 : decode cX5_allStrains 11 = .ok (.lload_n 0, 1) := by decide +kernel
theorem dX5_allStrains_12 : decode cX5_allStrains 12 = .ok (.iload_n 3, 1) := by decide +kernel
theorem dX5_allStrains_13 : decode cX5_allStrains 13 = .ok (.invokestatic 25, 3) := by decide +kernel
theorem dX5_allStrains_16 : decode cX5_allStrains 16 = .ok (.iadd, 1) := by decide +kernel
theorem dX5_allStrains_17 : decode cX5_allStrains 17 = .ok (.istore_n 2, 1) := by decide +kernel
theorem dX5_allStrains_18 : decode cX5_allStrains 18 = .ok (.iinc 3 1, 3) := by decide +kernel
theorem dX5_allStrains_21 : decode cX5_allStrains 21 = .ok (.goto (-17), 3) := by decide +kernel
theorem dX5_allStrains_24 : decode cX5_allStrains 24 = .ok (.iload_n 2, 1) := by decide +kernel
theorem dX5_allStrains_25 : decode cX5_allStrains 25 = .ok (.ireturn, 1) := by decide +kernel
theorem dX5_afterStrain_0 : decode cX5_afterStrain 0 = .ok (.lload_n 0, 1) := by decide +kernel
theorem dX5_afterStrain_1 : decode cX5_afterStrain 1 = .ok (.ldc2_w 29, 3) := by decide +kernel
theorem dX5_afterStrain_4 : decode cX5_afterStrain 4 = .ok (.iconst 4, 1) := by decide +kernel
theorem dX5_afterStrain_5 : decode cX5_afterStrain 5 = .ok (.iload_n 2, 1) := by decide +kernel
theorem dX5_afterStrain_6 : decode cX5_afterStrain 6 = .ok (.imul, 1) := by decide +kernel
theorem dX5_afterStrain_7 : decode cX5_afterStrain 7 = .ok (.lshl, 1) := by decide +kernel
theorem dX5_afterStrain_8 : decode cX5_afterStrain 8 = .ok (.ldc2_w 31, 3) := by decide +kernel
theorem dX5_afterStrain_11 : decode cX5_afterStrain 11 = .ok (.lxor, 1) := by decide +kernel
theorem dX5_afterStrain_12 : decode cX5_afterStrain 12 = .ok (.land, 1) := by decide +kernel
theorem dX5_afterStrain_13 : decode cX5_afterStrain 13 = .ok (.iload_n 3, 1) := by decide +kernel
theorem dX5_afterStrain_14 : decode cX5_afterStrain 14 = .ok (.bipush 15, 2) := by decide +kernel
theorem dX5_afterStrain_16 : decode cX5_afterStrain 16 = .ok (.iand, 1) := by decide +kernel
theorem dX5_afterStrain_17 : decode cX5_afterStrain 17 = .ok (.i2l, 1) := by decide +kernel
theorem dX5_afterStrain_18 : decode cX5_afterStrain 18 = .ok (.iconst 4, 1) := by decide +kernel
theorem dX5_afterStrain_19 : decode cX5_afterStrain 19 = .ok (.iload_n 2, 1) := by decide +kernel
theorem dX5_afterStrain_20 : decode cX5_afterStrain 20 = .ok (.imul, 1) := by decide +kernel
theorem dX5_afterStrain_21 : decode cX5_afterStrain 21 = .ok (.lshl, 1) := by decide +kernel
theorem dX5_afterStrain_22 : decode cX5_afterStrain 22 = .ok (.lor, 1) := by decide +kernel
theorem dX5_afterStrain_23 : decode cX5_afterStrain 23 = .ok (.lreturn, 1) := by decide +kernel
theorem dX5_afterLetGo_0 : decode cX5_afterLetGo 0 = .ok (.lload_n 0, 1) := by decide +kernel
theorem dX5_afterLetGo_1 : decode cX5_afterLetGo 1 = .ok (.iload_n 2, 1) := by decide +kernel
theorem dX5_afterLetGo_2 : decode cX5_afterLetGo 2 = .ok (.iconst 0, 1) := by decide +kernel
theorem dX5_afterLetGo_3 : decode cX5_afterLetGo 3 = .ok (.invokestatic 33, 3) := by decide +kernel
theorem dX5_afterLetGo_6 : decode cX5_afterLetGo 6 = .ok (.lconst 1, 1) := by decide +kernel
theorem dX5_afterLetGo_7 : decode cX5_afterLetGo 7 = .ok (.bipush 24, 2) := by decide +kernel
theorem dX5_afterLetGo_9 : decode cX5_afterLetGo 9 = .ok (.iload_n 2, 1) := by decide +kernel
theorem dX5_afterLetGo_10 : decode cX5_afterLetGo 10 = .ok (.iadd, 1) := by decide +kernel
theorem dX5_afterLetGo_11 : decode cX5_afterLetGo 11 = .ok (.lshl, 1) := by decide +kernel
theorem dX5_afterLetGo_12 : decode cX5_afterLetGo 12 = .ok (.lor, 1) := by decide +kernel
theorem dX5_afterLetGo_13 : decode cX5_afterLetGo 13 = .ok (.lreturn, 1) := by decide +kernel
theorem dX5_afterMadeOff_0 : decode cX5_afterMadeOff 0 = .ok (.lload_n 0, 1) := by decide +kernel
theorem dX5_afterMadeOff_1 : decode cX5_afterMadeOff 1 = .ok (.lconst 1, 1) := by decide +kernel
theorem dX5_afterMadeOff_2 : decode cX5_afterMadeOff 2 = .ok (.bipush 24, 2) := by decide +kernel
theorem dX5_afterMadeOff_4 : decode cX5_afterMadeOff 4 = .ok (.iload_n 2, 1) := by decide +kernel
theorem dX5_afterMadeOff_5 : decode cX5_afterMadeOff 5 = .ok (.iadd, 1) := by decide +kernel
theorem dX5_afterMadeOff_6 : decode cX5_afterMadeOff 6 = .ok (.lshl, 1) := by decide +kernel
theorem dX5_afterMadeOff_7 : decode cX5_afterMadeOff 7 = .ok (.ldc2_w 31, 3) := by decide +kernel
theorem dX5_afterMadeOff_10 : decode cX5_afterMadeOff 10 = .ok (.lxor, 1) := by decide +kernel
theorem dX5_afterMadeOff_11 : decode cX5_afterMadeOff 11 = .ok (.land, 1) := by decide +kernel
theorem dX5_afterMadeOff_12 : decode cX5_afterMadeOff 12 = .ok (.lreturn, 1) := by decide +kernel
theorem dX5_afterParted_0 : decode cX5_afterParted 0 = .ok (.lload_n 0, 1) := by decide +kernel
theorem dX5_afterParted_1 : decode cX5_afterParted 1 = .ok (.lstore_n 3, 1) := by decide +kernel
theorem dX5_afterParted_2 : decode cX5_afterParted 2 = .ok (.iconst 0, 1) := by decide +kernel
theorem dX5_afterParted_3 : decode cX5_afterParted 3 = .ok (.istore 5, 2) := by decide +kernel
theorem dX5_afterParted_5 : decode cX5_afterParted 5 = .ok (.iload 5, 2) := by decide +kernel
theorem dX5_afterParted_7 : decode cX5_afterParted 7 = .ok (.bipush 6, 2) := by decide +kernel
theorem dX5_afterParted_9 : decode cX5_afterParted 9 = .ok (.if_icmp .ge 34, 3) := by decide +kernel
theorem dX5_afterParted_12 : decode cX5_afterParted 12 = .ok (.iload_n 2, 1) := by decide +kernel
theorem dX5_afterParted_13 : decode cX5_afterParted 13 = .ok (.iload 5, 2) := by decide +kernel
theorem dX5_afterParted_15 : decode cX5_afterParted 15 = .ok (.ishr, 1) := by decide +kernel
theorem dX5_afterParted_16 : decode cX5_afterParted 16 = .ok (.iconst 1, 1) := by decide +kernel
theorem dX5_afterParted_17 : decode cX5_afterParted 17 = .ok (.iand, 1) := by decide +kernel
theorem dX5_afterParted_18 : decode cX5_afterParted 18 = .ok (.ifCond .eq 19, 3) := by decide +kernel
theorem dX5_afterParted_21 : decode cX5_afterParted 21 = .ok (.lload_n 3, 1) := by decide +kernel
theorem dX5_afterParted_22 : decode cX5_afterParted 22 = .ok (.iload 5, 2) := by decide +kernel
theorem dX5_afterParted_24 : decode cX5_afterParted 24 = .ok (.iconst 0, 1) := by decide +kernel
theorem dX5_afterParted_25 : decode cX5_afterParted 25 = .ok (.invokestatic 33, 3) := by decide +kernel
theorem dX5_afterParted_28 : decode cX5_afterParted 28 = .ok (.lconst 1, 1) := by decide +kernel
theorem dX5_afterParted_29 : decode cX5_afterParted 29 = .ok (.bipush 30, 2) := by decide +kernel
theorem dX5_afterParted_31 : decode cX5_afterParted 31 = .ok (.iload 5, 2) := by decide +kernel
theorem dX5_afterParted_33 : decode cX5_afterParted 33 = .ok (.iadd, 1) := by decide +kernel
theorem dX5_afterParted_34 : decode cX5_afterParted 34 = .ok (.lshl, 1) := by decide +kernel
theorem dX5_afterParted_35 : decode cX5_afterParted 35 = .ok (.lor, 1) := by decide +kernel
theorem dX5_afterParted_36 : decode cX5_afterParted 36 = .ok (.lstore_n 3, 1) := by decide +kernel
theorem dX5_afterParted_37 : decode cX5_afterParted 37 = .ok (.iinc 5 1, 3) := by decide +kernel
theorem dX5_afterParted_40 : decode cX5_afterParted 40 = .ok (.goto (-35), 3) := by decide +kernel
theorem dX5_afterParted_43 : decode cX5_afterParted 43 = .ok (.lload_n 3, 1) := by decide +kernel
theorem dX5_afterParted_44 : decode cX5_afterParted 44 = .ok (.lreturn, 1) := by decide +kernel
theorem dX5_afterSpliced_0 : decode cX5_afterSpliced 0 = .ok (.lload_n 0, 1) := by decide +kernel
theorem dX5_afterSpliced_1 : decode cX5_afterSpliced 1 = .ok (.iload_n 2, 1) := by decide +kernel
theorem dX5_afterSpliced_2 : decode cX5_afterSpliced 2 = .ok (.iconst 0, 1) := by decide +kernel
theorem dX5_afterSpliced_3 : decode cX5_afterSpliced 3 = .ok (.invokestatic 33, 3) := by decide +kernel
theorem dX5_afterSpliced_6 : decode cX5_afterSpliced 6 = .ok (.iload_n 2, 1) := by decide +kernel
theorem dX5_afterSpliced_7 : decode cX5_afterSpliced 7 = .ok (.invokestatic 37, 3) := by decide +kernel
theorem dX5_afterSpliced_10 : decode cX5_afterSpliced 10 = .ok (.lconst 1, 1) := by decide +kernel
theorem dX5_afterSpliced_11 : decode cX5_afterSpliced 11 = .ok (.bipush 30, 2) := by decide +kernel
theorem dX5_afterSpliced_13 : decode cX5_afterSpliced 13 = .ok (.iload_n 2, 1) := by decide +kernel
theorem dX5_afterSpliced_14 : decode cX5_afterSpliced 14 = .ok (.iadd, 1) := by decide +kernel
theorem dX5_afterSpliced_15 : decode cX5_afterSpliced 15 = .ok (.lshl, 1) := by decide +kernel
theorem dX5_afterSpliced_16 : decode cX5_afterSpliced 16 = .ok (.ldc2_w 31, 3) := by decide +kernel
theorem dX5_afterSpliced_19 : decode cX5_afterSpliced 19 = .ok (.lxor, 1) := by decide +kernel
theorem dX5_afterSpliced_20 : decode cX5_afterSpliced 20 = .ok (.land, 1) := by decide +kernel
theorem dX5_afterSpliced_21 : decode cX5_afterSpliced 21 = .ok (.lreturn, 1) := by decide +kernel
theorem dX5_afterFrost_0 : decode cX5_afterFrost 0 = .ok (.lload_n 0, 1) := by decide +kernel
theorem dX5_afterFrost_1 : decode cX5_afterFrost 1 = .ok (.ldc2_w 41, 3) := by decide +kernel
theorem dX5_afterFrost_4 : decode cX5_afterFrost 4 = .ok (.land, 1) := by decide +kernel
theorem dX5_afterFrost_5 : decode cX5_afterFrost 5 = .ok (.iload_n 2, 1) := by decide +kernel
theorem dX5_afterFrost_6 : decode cX5_afterFrost 6 = .ok (.iconst 1, 1) := by decide +kernel
theorem dX5_afterFrost_7 : decode cX5_afterFrost 7 = .ok (.iand, 1) := by decide +kernel
theorem dX5_afterFrost_8 : decode cX5_afterFrost 8 = .ok (.i2l, 1) := by decide +kernel
theorem dX5_afterFrost_9 : decode cX5_afterFrost 9 = .ok (.bipush 36, 2) := by decide +kernel
theorem dX5_afterFrost_11 : decode cX5_afterFrost 11 = .ok (.lshl, 1) := by decide +kernel
theorem dX5_afterFrost_12 : decode cX5_afterFrost 12 = .ok (.lor, 1) := by decide +kernel
theorem dX5_afterFrost_13 : decode cX5_afterFrost 13 = .ok (.lreturn, 1) := by decide +kernel
theorem dX6_init_0 : decode cX6_init 0 = .ok (.aload_n 0, 1) := by decide +kernel
theorem dX6_init_1 : decode cX6_init 1 = .ok (.invokespecial 1, 3) := by decide +kernel
theorem dX6_init_4 : decode cX6_init 4 = .ok (.aload_n 0, 1) := by decide +kernel
theorem dX6_init_5 : decode cX6_init 5 = .ok (.new 7, 3) := by decide +kernel
theorem dX6_init_8 : decode cX6_init 8 = .ok (.dup, 1) := by decide +kernel
theorem dX6_init_9 : decode cX6_init 9 = .ok (.bipush 6, 2) := by decide +kernel
theorem dX6_init_11 : decode cX6_init 11 = .ok (.bipush 40, 2) := by decide +kernel
theorem dX6_init_13 : decode cX6_init 13 = .ok (.iconst 0, 1) := by decide +kernel
theorem dX6_init_14 : decode cX6_init 14 = .ok (.invokespecial 11, 3) := by decide +kernel
theorem dX6_init_17 : decode cX6_init 17 = .ok (.putfield 14, 3) := by decide +kernel
theorem dX6_init_20 : decode cX6_init 20 = .ok (.aload_n 0, 1) := by decide +kernel
theorem dX6_init_21 : decode cX6_init 21 = .ok (.new 7, 3) := by decide +kernel
theorem dX6_init_24 : decode cX6_init 24 = .ok (.dup, 1) := by decide +kernel
theorem dX6_init_25 : decode cX6_init 25 = .ok (.iconst 4, 1) := by decide +kernel
theorem dX6_init_26 : decode cX6_init 26 = .ok (.bipush 60, 2) := by decide +kernel
theorem dX6_init_28 : decode cX6_init 28 = .ok (.bipush 32, 2) := by decide +kernel
theorem dX6_init_30 : decode cX6_init 30 = .ok (.invokespecial 11, 3) := by decide +kernel
theorem dX6_init_33 : decode cX6_init 33 = .ok (.putfield 18, 3) := by decide +kernel
theorem dX6_init_36 : decode cX6_init 36 = .ok (.aload_n 0, 1) := by decide +kernel
theorem dX6_init_37 : decode cX6_init 37 = .ok (.new 21, 3) := by decide +kernel
theorem dX6_init_40 : decode cX6_init 40 = .ok (.dup, 1) := by decide +kernel
theorem dX6_init_41 : decode cX6_init 41 = .ok (.invokespecial 23, 3) := by decide +kernel
theorem dX6_init_44 : decode cX6_init 44 = .ok (.putfield 24, 3) := by decide +kernel
theorem dX6_init_47 : decode cX6_init 47 = .ok (.aload_n 0, 1) := by decide +kernel
theorem dX6_init_48 : decode cX6_init 48 = .ok (.new 28, 3) := by decide +kernel
theorem dX6_init_51 : decode cX6_init 51 = .ok (.dup, 1) := by decide +kernel
theorem dX6_init_52 : decode cX6_init 52 = .ok (.invokespecial 30, 3) := by decide +kernel
theorem dX6_init_55 : decode cX6_init 55 = .ok (.putfield 31, 3) := by decide +kernel
theorem dX6_init_58 : decode cX6_init 58 = .ok (.aload_n 0, 1) := by decide +kernel
theorem dX6_init_59 : decode cX6_init 59 = .ok (.iconst 4, 1) := by decide +kernel
theorem dX6_init_60 : decode cX6_init 60 = .ok (.newarray .int, 2) := by decide +kernel
theorem dX6_init_62 : decode cX6_init 62 = .ok (.putfield 35, 3) := by decide +kernel
theorem dX6_init_65 : decode cX6_init 65 = .ok (.aload_n 0, 1) := by decide +kernel
theorem dX6_init_66 : decode cX6_init 66 = .ok (.bipush 6, 2) := by decide +kernel
theorem dX6_init_68 : decode cX6_init 68 = .ok (.newarray .int, 2) := by decide +kernel
theorem dX6_init_70 : decode cX6_init 70 = .ok (.putfield 39, 3) := by decide +kernel
theorem dX6_init_73 : decode cX6_init 73 = .ok (.aload_n 0, 1) := by decide +kernel
theorem dX6_init_74 : decode cX6_init 74 = .ok (.new 42, 3) := by decide +kernel
theorem dX6_init_77 : decode cX6_init 77 = .ok (.dup, 1) := by decide +kernel
theorem dX6_init_78 : decode cX6_init 78 = .ok (.invokespecial 44, 3) := by decide +kernel
theorem dX6_init_81 : decode cX6_init 81 = .ok (.putfield 45, 3) := by decide +kernel
theorem dX6_init_84 : decode cX6_init 84 = .ok (.aload_n 0, 1) := by decide +kernel
theorem dX6_init_85 : decode cX6_init 85 = .ok (.new 42, 3) := by decide +kernel
theorem dX6_init_88 : decode cX6_init 88 = .ok (.dup, 1) := by decide +kernel
theorem dX6_init_89 : decode cX6_init 89 = .ok (.invokespecial 44, 3) := by decide +kernel
theorem dX6_init_92 : decode cX6_init 92 = .ok (.putfield 49, 3) := by decide +kernel
theorem dX6_init_95 : decode cX6_init 95 = .ok (.aload_n 0, 1) := by decide +kernel
theorem dX6_init_96 : decode cX6_init 96 = .ok (.iconst 0, 1) := by decide +kernel
theorem dX6_init_97 : decode cX6_init 97 = .ok (.putfield 52, 3) := by decide +kernel
theorem dX6_init_100 : decode cX6_init 100 = .ok (.aload_n 0, 1) := by decide +kernel
theorem dX6_init_101 : decode cX6_init 101 = .ok (.iconst 0, 1) := by decide +kernel
theorem dX6_init_102 : decode cX6_init 102 = .ok (.putfield 56, 3) := by decide +kernel
theorem dX6_init_105 : decode cX6_init 105 = .ok (.aload_n 0, 1) := by decide +kernel
theorem dX6_init_106 : decode cX6_init 106 = .ok (.lconst 0, 1) := by decide +kernel
theorem dX6_init_107 : decode cX6_init 107 = .ok (.putfield 59, 3) := by decide +kernel
theorem dX6_init_110 : decode cX6_init 110 = .ok (.aload_n 0, 1) := by decide +kernel
theorem dX6_init_111 : decode cX6_init 111 = .ok (.lconst 1, 1) := by decide +kernel
theorem dX6_init_112 : decode cX6_init 112 = .ok (.putfield 63, 3) := by decide +kernel
theorem dX6_init_115 : decode cX6_init 115 = .ok (.return_, 1) := by decide +kernel
theorem dX6_row_0 : decode cX6_row 0 = .ok (.aload_n 0, 1) := by decide +kernel
theorem dX6_row_1 : decode cX6_row 1 = .ok (.aload_n 0, 1) := by decide +kernel
theorem dX6_row_2 : decode cX6_row 2 = .ok (.getfield 14, 3) := by decide +kernel
theorem dX6_row_5 : decode cX6_row 5 = .ok (.iload_n 1, 1) := by decide +kernel
theorem dX6_row_6 : decode cX6_row 6 = .ok (.iload_n 2, 1) := by decide +kernel
theorem dX6_row_7 : decode cX6_row 7 = .ok (.invokevirtual 66, 3) := by decide +kernel
theorem dX6_row_10 : decode cX6_row 10 = .ok (.ireturn, 1) := by decide +kernel
theorem dX6_lay_0 : decode cX6_lay 0 = .ok (.aload_n 0, 1) := by decide +kernel
theorem dX6_lay_1 : decode cX6_lay 1 = .ok (.aload_n 0, 1) := by decide +kernel
theorem dX6_lay_2 : decode cX6_lay 2 = .ok (.getfield 14, 3) := by decide +kernel
theorem dX6_lay_5 : decode cX6_lay 5 = .ok (.iload_n 1, 1) := by decide +kernel
theorem dX6_lay_6 : decode cX6_lay 6 = .ok (.iload_n 2, 1) := by decide +kernel
theorem dX6_lay_7 : decode cX6_lay 7 = .ok (.invokevirtual 70, 3) := by decide +kernel
theorem dX6_lay_10 : decode cX6_lay 10 = .ok (.istore 4, 2) := by decide +kernel
theorem dX6_lay_12 : decode cX6_lay 12 = .ok (.iload 4, 2) := by decide +kernel
theorem dX6_lay_14 : decode cX6_lay 14 = .ok (.ifCond .eq 6, 3) := by decide +kernel
theorem dX6_lay_17 : decode cX6_lay 17 = .ok (.iload 4, 2) := by decide +kernel
theorem dX6_lay_19 : decode cX6_lay 19 = .ok (.ireturn, 1) := by decide +kernel
theorem dX6_lay_20 : decode cX6_lay 20 = .ok (.aload_n 0, 1) := by decide +kernel
theorem dX6_lay_21 : decode cX6_lay 21 = .ok (.getfield 14, 3) := by decide +kernel
theorem dX6_lay_24 : decode cX6_lay 24 = .ok (.iload_n 1, 1) := by decide +kernel
theorem dX6_lay_25 : decode cX6_lay 25 = .ok (.iload_n 2, 1) := by decide +kernel
theorem dX6_lay_26 : decode cX6_lay 26 = .ok (.invokevirtual 73, 3) := by decide +kernel
theorem dX6_lay_29 : decode cX6_lay 29 = .ok (.istore 5, 2) := by decide +kernel
theorem dX6_lay_31 : decode cX6_lay 31 = .ok (.aload_n 0, 1) := by decide +kernel
