theorem dX0_init_0 : decode cX0_init 0 = .ok (.aload_n 0, 1) := by decide +kernel
theorem dX0_init_1 : decode cX0_init 1 = .ok (.invokespecial 3, 3) := by decide +kernel
theorem dX0_init_4 : decode cX0_init 4 = .ok (.aload_n 0, 1) := by decide +kernel
theorem dX0_init_5 : decode cX0_init 5 = .ok (.bipush 41, 2) := by decide +kernel
theorem dX0_init_7 : decode cX0_init 7 = .ok (.newarray .long, 2) := by decide +kernel
theorem dX0_init_9 : decode cX0_init 9 = .ok (.putfield 9, 3) := by decide +kernel
theorem dX0_init_12 : decode cX0_init 12 = .ok (.aload_n 0, 1) := by decide +kernel
theorem dX0_init_13 : decode cX0_init 13 = .ok (.iconst 0, 1) := by decide +kernel
theorem dX0_init_14 : decode cX0_init 14 = .ok (.putfield 15, 3) := by decide +kernel
theorem dX0_init_17 : decode cX0_init 17 = .ok (.aload_n 0, 1) := by decide +kernel
theorem dX0_init_18 : decode cX0_init 18 = .ok (.iconst 3, 1) := by decide +kernel
theorem dX0_init_19 : decode cX0_init 19 = .ok (.bipush 41, 2) := by decide +kernel
theorem dX0_init_21 : decode cX0_init 21 = .ok (.multianewarray 19 2, 4) := by decide +kernel
theorem dX0_init_25 : decode cX0_init 25 = .ok (.putfield 21, 3) := by decide +kernel
theorem dX0_init_28 : decode cX0_init 28 = .ok (.aload_n 0, 1) := by decide +kernel
theorem dX0_init_29 : decode cX0_init 29 = .ok (.iconst 3, 1) := by decide +kernel
theorem dX0_init_30 : decode cX0_init 30 = .ok (.newarray .int, 2) := by decide +kernel
theorem dX0_init_32 : decode cX0_init 32 = .ok (.putfield 24, 3) := by decide +kernel
theorem dX0_init_35 : decode cX0_init 35 = .ok (.iconst 0, 1) := by decide +kernel
theorem dX0_init_36 : decode cX0_init 36 = .ok (.istore_n 1, 1) := by decide +kernel
theorem dX0_init_37 : decode cX0_init 37 = .ok (.iload_n 1, 1) := by decide +kernel
theorem dX0_init_38 : decode cX0_init 38 = .ok (.iconst 3, 1) := by decide +kernel
theorem dX0_init_39 : decode cX0_init 39 = .ok (.if_icmp .ge 16, 3) := by decide +kernel
theorem dX0_init_42 : decode cX0_init 42 = .ok (.aload_n 0, 1) := by decide +kernel
theorem dX0_init_43 : decode cX0_init 43 = .ok (.getfield 24, 3) := by decide +kernel
theorem dX0_init_46 : decode cX0_init 46 = .ok (.iload_n 1, 1) := by decide +kernel
theorem dX0_init_47 : decode cX0_init 47 = .ok (.iconst (-1), 1) := by decide +kernel
theorem dX0_init_48 : decode cX0_init 48 = .ok (.iastore, 1) := by decide +kernel
theorem dX0_init_49 : decode cX0_init 49 = .ok (.iinc 1 1, 3) := by decide +kernel
theorem dX0_init_52 : decode cX0_init 52 = .ok (.goto (-15), 3) := by decide +kernel
theorem dX0_init_55 : decode cX0_init 55 = .ok (.return_, 1) := by decide +kernel
theorem dX0_begin_0 : decode cX0_begin 0 = .ok (.aload_n 0, 1) := by decide +kernel
theorem dX0_begin_1 : decode cX0_begin 1 = .ok (.iconst 0, 1) := by decide +kernel
theorem dX0_begin_2 : decode cX0_begin 2 = .ok (.putfield 15, 3) := by decide +kernel
theorem dX0_begin_5 : decode cX0_begin 5 = .ok (.aload_n 0, 1) := by decide +kernel
theorem dX0_begin_6 : decode cX0_begin 6 = .ok (.getfield 9, 3) := by decide +kernel
theorem dX0_begin_9 : decode cX0_begin 9 = .ok (.iconst 0, 1) := by decide +kernel
theorem dX0_begin_10 : decode cX0_begin 10 = .ok (.lload_n 1, 1) := by decide +kernel
theorem dX0_begin_11 : decode cX0_begin 11 = .ok (.lastore, 1) := by decide +kernel
theorem dX0_begin_12 : decode cX0_begin 12 = .ok (.iconst 0, 1) := by decide +kernel
theorem dX0_begin_13 : decode cX0_begin 13 = .ok (.istore_n 3, 1) := by decide +kernel
theorem dX0_begin_14 : decode cX0_begin 14 = .ok (.iload_n 3, 1) := by decide +kernel
theorem dX0_begin_15 : decode cX0_begin 15 = .ok (.iconst 3, 1) := by decide +kernel
theorem dX0_begin_16 : decode cX0_begin 16 = .ok (.if_icmp .ge 16, 3) := by decide +kernel
theorem dX0_begin_19 : decode cX0_begin 19 = .ok (.aload_n 0, 1) := by decide +kernel
theorem dX0_begin_20 : decode cX0_begin 20 = .ok (.getfield 24, 3) := by decide +kernel
theorem dX0_begin_23 : decode cX0_begin 23 = .ok (.iload_n 3, 1) := by decide +kernel
theorem dX0_begin_24 : decode cX0_begin 24 = .ok (.iconst (-1), 1) := by decide +kernel
theorem dX0_begin_25 : decode cX0_begin 25 = .ok (.iastore, 1) := by decide +kernel
theorem dX0_begin_26 : decode cX0_begin 26 = .ok (.iinc 3 1, 3) := by decide +kernel
theorem dX0_begin_29 : decode cX0_begin 29 = .ok (.goto (-15), 3) := by decide +kernel
theorem dX0_begin_32 : decode cX0_begin 32 = .ok (.return_, 1) := by decide +kernel
theorem dX0_deeds_0 : decode cX0_deeds 0 = .ok (.aload_n 0, 1) := by decide +kernel
theorem dX0_deeds_1 : decode cX0_deeds 1 = .ok (.getfield 15, 3) := by decide +kernel
theorem dX0_deeds_4 : decode cX0_deeds 4 = .ok (.ireturn, 1) := by decide +kernel
theorem dX0_now_0 : decode cX0_now 0 = .ok (.aload_n 0, 1) := by decide +kernel
theorem dX0_now_1 : decode cX0_now 1 = .ok (.getfield 15, 3) := by decide +kernel
theorem dX0_now_4 : decode cX0_now 4 = .ok (.ifCond .lt 24, 3) := by decide +kernel
theorem dX0_now_7 : decode cX0_now 7 = .ok (.aload_n 0, 1) := by decide +kernel
theorem dX0_now_8 : decode cX0_now 8 = .ok (.getfield 15, 3) := by decide +kernel
theorem dX0_now_11 : decode cX0_now 11 = .ok (.bipush 40, 2) := by decide +kernel
theorem dX0_now_13 : decode cX0_now 13 = .ok (.if_icmp .gt 15, 3) := by decide +kernel
theorem dX0_now_16 : decode cX0_now 16 = .ok (.aload_n 0, 1) := by decide +kernel
theorem dX0_now_17 : decode cX0_now 17 = .ok (.getfield 9, 3) := by decide +kernel
theorem dX0_now_20 : decode cX0_now 20 = .ok (.aload_n 0, 1) := by decide +kernel
theorem dX0_now_21 : decode cX0_now 21 = .ok (.getfield 15, 3) := by decide +kernel
theorem dX0_now_24 : decode cX0_now 24 = .ok (.laload, 1) := by decide +kernel
theorem dX0_now_25 : decode cX0_now 25 = .ok (.goto 4, 3) := by decide +kernel
theorem dX0_now_28 : decode cX0_now 28 = .ok (.lconst 0, 1) := by decide +kernel
theorem dX0_now_29 : decode cX0_now 29 = .ok (.lreturn, 1) := by decide +kernel
theorem dX0_isFull_0 : decode cX0_isFull 0 = .ok (.aload_n 0, 1) := by decide +kernel
theorem dX0_isFull_1 : decode cX0_isFull 1 = .ok (.getfield 15, 3) := by decide +kernel
theorem dX0_isFull_4 : decode cX0_isFull 4 = .ok (.iload_n 1, 1) := by decide +kernel
theorem dX0_isFull_5 : decode cX0_isFull 5 = .ok (.iadd, 1) := by decide +kernel
theorem dX0_isFull_6 : decode cX0_isFull 6 = .ok (.bipush 40, 2) := by decide +kernel
theorem dX0_isFull_8 : decode cX0_isFull 8 = .ok (.if_icmp .le 7, 3) := by decide +kernel
theorem dX0_isFull_11 : decode cX0_isFull 11 = .ok (.iconst 1, 1) := by decide +kernel
theorem dX0_isFull_12 : decode cX0_isFull 12 = .ok (.goto 4, 3) := by decide +kernel
theorem dX0_isFull_15 : decode cX0_isFull 15 = .ok (.iconst 0, 1) := by decide +kernel
theorem dX0_isFull_16 : decode cX0_isFull 16 = .ok (.ireturn, 1) := by decide +kernel
theorem dX0_add_0 : decode cX0_add 0 = .ok (.aload_n 0, 1) := by decide +kernel
theorem dX0_add_1 : decode cX0_add 1 = .ok (.getfield 15, 3) := by decide +kernel
theorem dX0_add_4 : decode cX0_add 4 = .ok (.ifCond .lt 32, 3) := by decide +kernel
theorem dX0_add_7 : decode cX0_add 7 = .ok (.aload_n 0, 1) := by decide +kernel
theorem dX0_add_8 : decode cX0_add 8 = .ok (.getfield 15, 3) := by decide +kernel
theorem dX0_add_11 : decode cX0_add 11 = .ok (.bipush 40, 2) := by decide +kernel
theorem dX0_add_13 : decode cX0_add 13 = .ok (.if_icmp .ge 23, 3) := by decide +kernel
theorem dX0_add_16 : decode cX0_add 16 = .ok (.aload_n 0, 1) := by decide +kernel
theorem dX0_add_17 : decode cX0_add 17 = .ok (.dup, 1) := by decide +kernel
theorem dX0_add_18 : decode cX0_add 18 = .ok (.getfield 15, 3) := by decide +kernel
theorem dX0_add_21 : decode cX0_add 21 = .ok (.iconst 1, 1) := by decide +kernel
theorem dX0_add_22 : decode cX0_add 22 = .ok (.iadd, 1) := by decide +kernel
theorem dX0_add_23 : decode cX0_add 23 = .ok (.putfield 15, 3) := by decide +kernel
theorem dX0_add_26 : decode cX0_add 26 = .ok (.aload_n 0, 1) := by decide +kernel
theorem dX0_add_27 : decode cX0_add 27 = .ok (.getfield 9, 3) := by decide +kernel
theorem dX0_add_30 : decode cX0_add 30 = .ok (.aload_n 0, 1) := by decide +kernel
theorem dX0_add_31 : decode cX0_add 31 = .ok (.getfield 15, 3) := by decide +kernel
theorem dX0_add_34 : decode cX0_add 34 = .ok (.lload_n 1, 1) := by decide +kernel
theorem dX0_add_35 : decode cX0_add 35 = .ok (.lastore, 1) := by decide +kernel
theorem dX0_add_36 : decode cX0_add 36 = .ok (.return_, 1) := by decide +kernel
theorem dX0_goBack_0 : decode cX0_goBack 0 = .ok (.iload_n 1, 1) := by decide +kernel
theorem dX0_goBack_1 : decode cX0_goBack 1 = .ok (.ifCond .lt 16, 3) := by decide +kernel
theorem dX0_goBack_4 : decode cX0_goBack 4 = .ok (.iload_n 1, 1) := by decide +kernel
theorem dX0_goBack_5 : decode cX0_goBack 5 = .ok (.aload_n 0, 1) := by decide +kernel
theorem dX0_goBack_6 : decode cX0_goBack 6 = .ok (.getfield 15, 3) := by decide +kernel
theorem dX0_goBack_9 : decode cX0_goBack 9 = .ok (.if_icmp .gt 8, 3) := by decide +kernel
theorem dX0_goBack_12 : decode cX0_goBack 12 = .ok (.aload_n 0, 1) := by decide +kernel
theorem dX0_goBack_13 : decode cX0_goBack 13 = .ok (.iload_n 1, 1) := by decide +kernel
theorem dX0_goBack_14 : decode cX0_goBack 14 = .ok (.putfield 15, 3) := by decide +kernel
theorem dX0_goBack_17 : decode cX0_goBack 17 = .ok (.return_, 1) := by decide +kernel
theorem dX0_isKeepingPlace_0 : decode cX0_isKeepingPlace 0 = .ok (.iload_n 1, 1) := by decide +kernel
theorem dX0_isKeepingPlace_1 : decode cX0_isKeepingPlace 1 = .ok (.ifCond .lt 12, 3) := by decide +kernel
theorem dX0_isKeepingPlace_4 : decode cX0_isKeepingPlace 4 = .ok (.iload_n 1, 1) := by decide +kernel
theorem dX0_isKeepingPlace_5 : decode cX0_isKeepingPlace 5 = .ok (.iconst 3, 1) := by decide +kernel
theorem dX0_isKeepingPlace_6 : decode cX0_isKeepingPlace 6 = .ok (.if_icmp .ge 7, 3) := by decide +kernel
theorem dX0_isKeepingPlace_9 : decode cX0_isKeepingPlace 9 = .ok (.iconst 1, 1) := by decide +kernel
theorem dX0_isKeepingPlace_10 : decode cX0_isKeepingPlace 10 = .ok (.goto 4, 3) := by decide +kernel
theorem dX0_isKeepingPlace_13 : decode cX0_isKeepingPlace 13 = .ok (.iconst 0, 1) := by decide +kernel
theorem dX0_isKeepingPlace_14 : decode cX0_isKeepingPlace 14 = .ok (.ireturn, 1) := by decide +kernel
theorem dX0_deedsKept_0 : decode cX0_deedsKept 0 = .ok (.aload_n 0, 1) := by decide +kernel
theorem dX0_deedsKept_1 : decode cX0_deedsKept 1 = .ok (.iload_n 1, 1) := by decide +kernel
theorem dX0_deedsKept_2 : decode cX0_deedsKept 2 = .ok (.invokevirtual 28, 3) := by decide +kernel
theorem dX0_deedsKept_5 : decode cX0_deedsKept 5 = .ok (.ifCond .eq 12, 3) := by decide +kernel
theorem dX0_deedsKept_8 : decode cX0_deedsKept 8 = .ok (.aload_n 0, 1) := by decide +kernel
theorem dX0_deedsKept_9 : decode cX0_deedsKept 9 = .ok (.getfield 24, 3) := by decide +kernel
theorem dX0_deedsKept_12 : decode cX0_deedsKept 12 = .ok (.iload_n 1, 1) := by decide +kernel
theorem dX0_deedsKept_13 : decode cX0_deedsKept 13 = .ok (.iaload, 1) := by decide +kernel
theorem dX0_deedsKept_14 : decode cX0_deedsKept 14 = .ok (.goto 4, 3) := by decide +kernel
theorem dX0_deedsKept_17 : decode cX0_deedsKept 17 = .ok (.iconst (-1), 1) := by decide +kernel
theorem dX0_deedsKept_18 : decode cX0_deedsKept 18 = .ok (.ireturn, 1) := by decide +kernel
theorem dX0_countKept_0 : decode cX0_countKept 0 = .ok (.iconst 0, 1) := by decide +kernel
theorem dX0_countKept_1 : decode cX0_countKept 1 = .ok (.istore_n 1, 1) := by decide +kernel
theorem dX0_countKept_2 : decode cX0_countKept 2 = .ok (.iconst 0, 1) := by decide +kernel
theorem dX0_countKept_3 : decode cX0_countKept 3 = .ok (.istore_n 2, 1) := by decide +kernel
theorem dX0_countKept_4 : decode cX0_countKept 4 = .ok (.iload_n 2, 1) := by decide +kernel
theorem dX0_countKept_5 : decode cX0_countKept 5 = .ok (.iconst 3, 1) := by decide +kernel
theorem dX0_countKept_6 : decode cX0_countKept 6 = .ok (.if_icmp .ge 22, 3) := by decide +kernel
theorem dX0_countKept_9 : decode cX0_countKept 9 = .ok (.aload_n 0, 1) := by decide +kernel
theorem dX0_countKept_10 : decode cX0_countKept 10 = .ok (.getfield 24, 3) := by decide +kernel
theorem dX0_countKept_13 : decode cX0_countKept 13 = .ok (.iload_n 2, 1) := by decide +kernel
theorem dX0_countKept_14 : decode cX0_countKept 14 = .ok (.iaload, 1) := by decide +kernel
theorem dX0_countKept_15 : decode cX0_countKept 15 = .ok (.iconst (-1), 1) := by decide +kernel
theorem dX0_countKept_16 : decode cX0_countKept 16 = .ok (.if_icmp .eq 6, 3) := by decide +kernel
theorem dX0_countKept_19 : decode cX0_countKept 19 = .ok (.iinc 1 1, 3) := by decide +kernel
theorem dX0_countKept_22 : decode cX0_countKept 22 = .ok (.iinc 2 1, 3) := by decide +kernel
theorem dX0_countKept_25 : decode cX0_countKept 25 = .ok (.goto (-21), 3) := by decide +kernel
theorem dX0_countKept_28 : decode cX0_countKept 28 = .ok (.iload_n 1, 1) := by decide +kernel
theorem dX0_countKept_29 : decode cX0_countKept 29 = .ok (.ireturn, 1) := by decide +kernel
theorem dX0_store_0 : decode cX0_store 0 = .ok (.aload_n 0, 1) := by decide +kernel
theorem dX0_store_1 : decode cX0_store 1 = .ok (.iload_n 1, 1) := by decide +kernel
theorem dX0_store_2 : decode cX0_store 2 = .ok (.invokevirtual 28, 3) := by decide +kernel
theorem dX0_store_5 : decode cX0_store 5 = .ok (.ifCond .eq 49, 3) := by decide +kernel
theorem dX0_store_8 : decode cX0_store 8 = .ok (.iconst 0, 1) := by decide +kernel
theorem dX0_store_9 : decode cX0_store 9 = .ok (.istore_n 2, 1) := by decide +kernel
theorem dX0_store_10 : decode cX0_store 10 = .ok (.iload_n 2, 1) := by decide +kernel
theorem dX0_store_11 : decode cX0_store 11 = .ok (.aload_n 0, 1) := by decide +kernel
theorem dX0_store_12 : decode cX0_store 12 = .ok (.getfield 15, 3) := by decide +kernel
theorem dX0_store_15 : decode cX0_store 15 = .ok (.if_icmp .gt 29, 3) := by decide +kernel
theorem dX0_store_18 : decode cX0_store 18 = .ok (.iload_n 2, 1) := by decide +kernel
theorem dX0_store_19 : decode cX0_store 19 = .ok (.bipush 40, 2) := by decide +kernel
theorem dX0_store_21 : decode cX0_store 21 = .ok (.if_icmp .gt 23, 3) := by decide +kernel
theorem dX0_store_24 : decode cX0_store 24 = .ok (.aload_n 0, 1) := by decide +kernel
theorem dX0_store_25 : decode cX0_store 25 = .ok (.getfield 21, 3) := by decide +kernel
theorem dX0_store_28 : decode cX0_store 28 = .ok (.iload_n 1, 1) := by decide +kernel
theorem dX0_store_29 : decode cX0_store 29 = .ok (.aaload, 1) := by decide +kernel
theorem dX0_store_30 : decode cX0_store 30 = .ok (.iload_n 2, 1) := by decide +kernel
theorem dX0_store_31 : decode cX0_store 31 = .ok (.aload_n 0, 1) := by decide +kernel
theorem dX0_store_32 : decode cX0_store 32 = .ok (.getfield 9, 3) := by decide +kernel
theorem dX0_store_35 : decode cX0_store 35 = .ok (.iload_n 2, 1) := by decide +kernel
theorem dX0_store_36 : decode cX0_store 36 = .ok (.laload, 1) := by decide +kernel
theorem dX0_store_37 : decode cX0_store 37 = .ok (.lastore, 1) := by decide +kernel
theorem dX0_store_38 : decode cX0_store 38 = .ok (.iinc 2 1, 3) := by decide +kernel
theorem dX0_store_41 : decode cX0_store 41 = .ok (.goto (-31), 3) := by decide +kernel
theorem dX0_store_44 : decode cX0_store 44 = .ok (.aload_n 0, 1) := by decide +kernel
theorem dX0_store_45 : decode cX0_store 45 = .ok (.getfield 24, 3) := by decide +kernel
theorem dX0_store_48 : decode cX0_store 48 = .ok (.iload_n 1, 1) := by decide +kernel
theorem dX0_store_49 : decode cX0_store 49 = .ok (.aload_n 0, 1) := by decide +kernel
theorem dX0_store_50 : decode cX0_store 50 = .ok (.getfield 15, 3) := by decide +kernel
theorem dX0_store_53 : decode cX0_store 53 = .ok (.iastore, 1) := by decide +kernel
theorem dX0_store_54 : decode cX0_store 54 = .ok (.return_, 1) := by decide +kernel
theorem dX0_restore_0 : decode cX0_restore 0 = .ok (.aload_n 0, 1) := by decide +kernel
theorem dX0_restore_1 : decode cX0_restore 1 = .ok (.iload_n 1, 1) := by decide +kernel
theorem dX0_restore_2 : decode cX0_restore 2 = .ok (.invokevirtual 28, 3) := by decide +kernel
theorem dX0_restore_5 : decode cX0_restore 5 = .ok (.ifCond .eq 59, 3) := by decide +kernel
theorem dX0_restore_8 : decode cX0_restore 8 = .ok (.aload_n 0, 1) := by decide +kernel
theorem dX0_restore_9 : decode cX0_restore 9 = .ok (.getfield 24, 3) := by decide +kernel
theorem dX0_restore_12 : decode cX0_restore 12 = .ok (.iload_n 1, 1) := by decide +kernel
theorem dX0_restore_13 : decode cX0_restore 13 = .ok (.iaload, 1) := by decide +kernel
theorem dX0_restore_14 : decode cX0_restore 14 = .ok (.iconst (-1), 1) := by decide +kernel
theorem dX0_restore_15 : decode cX0_restore 15 = .ok (.if_icmp .eq 49, 3) := by decide +kernel
theorem dX0_restore_18 : decode cX0_restore 18 = .ok (.aload_n 0, 1) := by decide +kernel
theorem dX0_restore_19 : decode cX0_restore 19 = .ok (.aload_n 0, 1) := by decide +kernel
theorem dX0_restore_20 : decode cX0_restore 20 = .ok (.getfield 24, 3) := by decide +kernel
theorem dX0_restore_23 : decode cX0_restore 23 = .ok (.iload_n 1, 1) := by decide +kernel
theorem dX0_restore_24 : decode cX0_restore 24 = .ok (.iaload, 1) := by decide +kernel
theorem dX0_restore_25 : decode cX0_restore 25 = .ok (.putfield 15, 3) := by decide +kernel
theorem dX0_restore_28 : decode cX0_restore 28 = .ok (.iconst 0, 1) := by decide +kernel
theorem dX0_restore_29 : decode cX0_restore 29 = .ok (.istore_n 2, 1) := by decide +kernel
theorem dX0_restore_30 : decode cX0_restore 30 = .ok (.iload_n 2, 1) := by decide +kernel
theorem dX0_restore_31 : decode cX0_restore 31 = .ok (.aload_n 0, 1) := by decide +kernel
theorem dX0_restore_32 : decode cX0_restore 32 = .ok (.getfield 15, 3) := by decide +kernel
theorem dX0_restore_35 : decode cX0_restore 35 = .ok (.if_icmp .gt 29, 3) := by decide +kernel
theorem dX0_restore_38 : decode cX0_restore 38 = .ok (.iload_n 2, 1) := by decide +kernel
theorem dX0_restore_39 : decode cX0_restore 39 = .ok (.bipush 40, 2) := by decide +kernel
theorem dX0_restore_41 : decode cX0_restore 41 = .ok (.if_icmp .gt 23, 3) := by decide +kernel
theorem dX0_restore_44 : decode cX0_restore 44 = .ok (.aload_n 0, 1) := by decide +kernel
theorem dX0_restore_45 : decode cX0_restore 45 = .ok (.getfield 9, 3) := by decide +kernel
theorem dX0_restore_48 : decode cX0_restore 48 = .ok (.iload_n 2, 1) := by decide +kernel
theorem dX0_restore_49 : decode cX0_restore 49 = .ok (.aload_n 0, 1) := by decide +kernel
theorem dX0_restore_50 : decode cX0_restore 50 = .ok (.getfield 21, 3) := by decide +kernel
theorem dX0_restore_53 : decode cX0_restore 53 = .ok (.iload_n 1, 1) := by decide +kernel
theorem dX0_restore_54 : decode cX0_restore 54 = .ok (.aaload, 1) := by decide +kernel
theorem dX0_restore_55 : decode cX0_restore 55 = .ok (.iload_n 2, 1) := by decide +kernel
theorem dX0_restore_56 : decode cX0_restore 56 = .ok (.laload, 1) := by decide +kernel
theorem dX0_restore_57 : decode cX0_restore 57 = .ok (.lastore, 1) := by decide +kernel
theorem dX0_restore_58 : decode cX0_restore 58 = .ok (.iinc 2 1, 3) := by decide +kernel
theorem dX0_restore_61 : decode cX0_restore 61 = .ok (.goto (-31), 3) := by decide +kernel
theorem dX0_restore_64 : decode cX0_restore 64 = .ok (.return_, 1) := by decide +kernel
theorem dX1_init_0 : decode cX1_init 0 = .ok (.aload_n 0, 1) := by decide +kernel
theorem dX1_init_1 : decode cX1_init 1 = .ok (.invokespecial 3, 3) := by decide +kernel
theorem dX1_init_4 : decode cX1_init 4 = .ok (.aload_n 0, 1) := by decide +kernel
theorem dX1_init_5 : decode cX1_init 5 = .ok (.bipush 60, 2) := by decide +kernel
theorem dX1_init_7 : decode cX1_init 7 = .ok (.newarray .int, 2) := by decide +kernel
theorem dX1_init_9 : decode cX1_init 9 = .ok (.putfield 9, 3) := by decide +kernel
theorem dX1_init_12 : decode cX1_init 12 = .ok (.aload_n 0, 1) := by decide +kernel
theorem dX1_init_13 : decode cX1_init 13 = .ok (.iconst 0, 1) := by decide +kernel
theorem dX1_init_14 : decode cX1_init 14 = .ok (.putfield 15, 3) := by decide +kernel
theorem dX1_init_17 : decode cX1_init 17 = .ok (.aload_n 0, 1) := by decide +kernel
theorem dX1_init_18 : decode cX1_init 18 = .ok (.iconst 0, 1) := by decide +kernel
theorem dX1_init_19 : decode cX1_init 19 = .ok (.putfield 19, 3) := by decide +kernel
theorem dX1_init_22 : decode cX1_init 22 = .ok (.aload_n 0, 1) := by decide +kernel
theorem dX1_init_23 : decode cX1_init 23 = .ok (.bipush (-9), 2) := by decide +kernel
theorem dX1_init_25 : decode cX1_init 25 = .ok (.putfield 22, 3) := by decide +kernel
theorem dX1_init_28 : decode cX1_init 28 = .ok (.aload_n 0, 1) := by decide +kernel
theorem dX1_init_29 : decode cX1_init 29 = .ok (.iconst 0, 1) := by decide +kernel
theorem dX1_init_30 : decode cX1_init 30 = .ok (.putfield 25, 3) := by decide +kernel
theorem dX1_init_33 : decode cX1_init 33 = .ok (.return_, 1) := by decide +kernel
theorem dX1_read_0 : decode cX1_read 0 = .ok (.aload_n 0, 1) := by decide +kernel
theorem dX1_read_1 : decode cX1_read 1 = .ok (.aload_n 1, 1) := by decide +kernel
theorem dX1_read_2 : decode cX1_read 2 = .ok (.iload_n 2, 1) := by decide +kernel
theorem dX1_read_3 : decode cX1_read 3 = .ok (.invokevirtual 29, 3) := by decide +kernel
theorem dX1_read_6 : decode cX1_read 6 = .ok (.aload_n 3, 1) := by decide +kernel
theorem dX1_read_7 : decode cX1_read 7 = .ok (.invokevirtual 33, 3) := by decide +kernel
theorem dX1_read_10 : decode cX1_read 10 = .ok (.iconst 0, 1) := by decide +kernel
theorem dX1_read_11 : decode cX1_read 11 = .ok (.istore 4, 2) := by decide +kernel
theorem dX1_read_13 : decode cX1_read 13 = .ok (.iload 4, 2) := by decide +kernel
theorem dX1_read_15 : decode cX1_read 15 = .ok (.bipush 60, 2) := by decide +kernel
theorem dX1_read_17 : decode cX1_read 17 = .ok (.if_icmp .ge 30, 3) := by decide +kernel
theorem dX1_read_20 : decode cX1_read 20 = .ok (.aload_n 0, 1) := by decide +kernel
theorem dX1_read_21 : decode cX1_read 21 = .ok (.getfield 22, 3) := by decide +kernel
theorem dX1_read_24 : decode cX1_read 24 = .ok (.bipush (-9), 2) := by decide +kernel
theorem dX1_read_26 : decode cX1_read 26 = .ok (.if_icmp .ne 21, 3) := by decide +kernel
theorem dX1_read_29 : decode cX1_read 29 = .ok (.aload_n 0, 1) := by decide +kernel
theorem dX1_read_30 : decode cX1_read 30 = .ok (.invokevirtual 38, 3) := by decide +kernel
theorem dX1_read_33 : decode cX1_read 33 = .ok (.ifCond .eq 14, 3) := by decide +kernel
theorem dX1_read_36 : decode cX1_read 36 = .ok (.aload_n 0, 1) := by decide +kernel
theorem dX1_read_37 : decode cX1_read 37 = .ok (.aload_n 3, 1) := by decide +kernel
theorem dX1_read_38 : decode cX1_read 38 = .ok (.invokevirtual 42, 3) := by decide +kernel
theorem dX1_read_41 : decode cX1_read 41 = .ok (.iinc 4 1, 3) := by decide +kernel
theorem dX1_read_44 : decode cX1_read 44 = .ok (.goto (-31), 3) := by decide +kernel
theorem dX1_read_47 : decode cX1_read 47 = .ok (.aload_n 0, 1) := by decide +kernel
theorem dX1_read_48 : decode cX1_read 48 = .ok (.getfield 22, 3) := by decide +kernel
theorem dX1_read_51 : decode cX1_read 51 = .ok (.bipush (-9), 2) := by decide +kernel
theorem dX1_read_53 : decode cX1_read 53 = .ok (.if_icmp .ne 18, 3) := by decide +kernel
theorem dX1_read_56 : decode cX1_read 56 = .ok (.aload_n 3, 1) := by decide +kernel
theorem dX1_read_57 : decode cX1_read 57 = .ok (.getfield 46, 3) := by decide +kernel
theorem dX1_read_60 : decode cX1_read 60 = .ok (.ifCond .ne 11, 3) := by decide +kernel
theorem dX1_read_63 : decode cX1_read 63 = .ok (.aload_n 0, 1) := by decide +kernel
theorem dX1_read_64 : decode cX1_read 64 = .ok (.aload_n 0, 1) := by decide +kernel
theorem dX1_read_65 : decode cX1_read 65 = .ok (.getfield 15, 3) := by decide +kernel
theorem dX1_read_68 : decode cX1_read 68 = .ok (.putfield 22, 3) := by decide +kernel
theorem dX1_read_71 : decode cX1_read 71 = .ok (.aload_n 0, 1) := by decide +kernel
theorem dX1_read_72 : decode cX1_read 72 = .ok (.getfield 22, 3) := by decide +kernel
theorem dX1_read_75 : decode cX1_read 75 = .ok (.ireturn, 1) := by decide +kernel
theorem dX1_take_0 : decode cX1_take 0 = .ok (.aload_n 0, 1) := by decide +kernel
theorem dX1_take_1 : decode cX1_take 1 = .ok (.aload_n 1, 1) := by decide +kernel
theorem dX1_take_2 : decode cX1_take 2 = .ok (.iload_n 2, 1) := by decide +kernel
theorem dX1_take_3 : decode cX1_take 3 = .ok (.invokevirtual 49, 3) := by decide +kernel
theorem dX1_take_6 : decode cX1_take 6 = .ok (.aload_n 0, 1) := by decide +kernel
theorem dX1_take_7 : decode cX1_take 7 = .ok (.getfield 9, 3) := by decide +kernel
theorem dX1_take_10 : decode cX1_take 10 = .ok (.arraylength, 1) := by decide +kernel
theorem dX1_take_11 : decode cX1_take 11 = .ok (.invokestatic 54, 3) := by decide +kernel
theorem dX1_take_14 : decode cX1_take 14 = .ok (.putfield 15, 3) := by decide +kernel
theorem dX1_take_17 : decode cX1_take 17 = .ok (.iconst 0, 1) := by decide +kernel
theorem dX1_take_18 : decode cX1_take 18 = .ok (.istore_n 3, 1) := by decide +kernel
theorem dX1_take_19 : decode cX1_take 19 = .ok (.iload_n 3, 1) := by decide +kernel
theorem dX1_take_20 : decode cX1_take 20 = .ok (.aload_n 0, 1) := by decide +kernel
theorem dX1_take_21 : decode cX1_take 21 = .ok (.getfield 15, 3) := by decide +kernel
theorem dX1_take_24 : decode cX1_take 24 = .ok (.if_icmp .ge 21, 3) := by decide +kernel
theorem dX1_take_27 : decode cX1_take 27 = .ok (.aload_n 0, 1) := by decide +kernel
theorem dX1_take_28 : decode cX1_take 28 = .ok (.getfield 9, 3) := by decide +kernel
theorem dX1_take_31 : decode cX1_take 31 = .ok (.iload_n 3, 1) := by decide +kernel
theorem dX1_take_32 : decode cX1_take 32 = .ok (.aload_n 1, 1) := by decide +kernel
theorem dX1_take_33 : decode cX1_take 33 = .ok (.iload_n 2, 1) := by decide +kernel
theorem dX1_take_34 : decode cX1_take 34 = .ok (.iload_n 3, 1) := by decide +kernel
theorem dX1_take_35 : decode cX1_take 35 = .ok (.invokevirtual 60, 3) := by decide +kernel
theorem dX1_take_38 : decode cX1_take 38 = .ok (.iastore, 1) := by decide +kernel
theorem dX1_take_39 : decode cX1_take 39 = .ok (.iinc 3 1, 3) := by decide +kernel
theorem dX1_take_42 : decode cX1_take 42 = .ok (.goto (-23), 3) := by decide +kernel
theorem dX1_take_45 : decode cX1_take 45 = .ok (.aload_n 0, 1) := by decide +kernel
theorem dX1_take_46 : decode cX1_take 46 = .ok (.iconst 0, 1) := by decide +kernel
theorem dX1_take_47 : decode cX1_take 47 = .ok (.putfield 19, 3) := by decide +kernel
theorem dX1_take_50 : decode cX1_take 50 = .ok (.aload_n 0, 1) := by decide +kernel
theorem dX1_take_51 : decode cX1_take 51 = .ok (.bipush (-9), 2) := by decide +kernel
theorem dX1_take_53 : decode cX1_take 53 = .ok (.putfield 22, 3) := by decide +kernel
theorem dX1_take_56 : decode cX1_take 56 = .ok (.aload_n 0, 1) := by decide +kernel
theorem dX1_take_57 : decode cX1_take 57 = .ok (.iconst 0, 1) := by decide +kernel
theorem dX1_take_58 : decode cX1_take 58 = .ok (.putfield 25, 3) := by decide +kernel
theorem dX1_take_61 : decode cX1_take 61 = .ok (.return_, 1) := by decide +kernel
theorem dX1_isMoreAhead_0 : decode cX1_isMoreAhead 0 = .ok (.aload_n 0, 1) := by decide +kernel
theorem dX1_isMoreAhead_1 : decode cX1_isMoreAhead 1 = .ok (.getfield 19, 3) := by decide +kernel
theorem dX1_isMoreAhead_4 : decode cX1_isMoreAhead 4 = .ok (.aload_n 0, 1) := by decide +kernel
theorem dX1_isMoreAhead_5 : decode cX1_isMoreAhead 5 = .ok (.getfield 15, 3) := by decide +kernel
theorem dX1_isMoreAhead_8 : decode cX1_isMoreAhead 8 = .ok (.if_icmp .ge 25, 3) := by decide +kernel
theorem dX1_isMoreAhead_11 : decode cX1_isMoreAhead 11 = .ok (.aload_n 0, 1) := by decide +kernel
theorem dX1_isMoreAhead_12 : decode cX1_isMoreAhead 12 = .ok (.invokevirtual 63, 3) := by decide +kernel
theorem dX1_isMoreAhead_15 : decode cX1_isMoreAhead 15 = .ok (.bipush 32, 2) := by decide +kernel
theorem dX1_isMoreAhead_17 : decode cX1_isMoreAhead 17 = .ok (.if_icmp .ne 16, 3) := by decide +kernel
theorem dX1_isMoreAhead_20 : decode cX1_isMoreAhead 20 = .ok (.aload_n 0, 1) := by decide +kernel
theorem dX1_isMoreAhead_21 : decode cX1_isMoreAhead 21 = .ok (.dup, 1) := by decide +kernel
theorem dX1_isMoreAhead_22 : decode cX1_isMoreAhead 22 = .ok (.getfield 19, 3) := by decide +kernel
theorem dX1_isMoreAhead_25 : decode cX1_isMoreAhead 25 = .ok (.iconst 1, 1) := by decide +kernel
theorem dX1_isMoreAhead_26 : decode cX1_isMoreAhead 26 = .ok (.iadd, 1) := by decide +kernel
theorem dX1_isMoreAhead_27 : decode cX1_isMoreAhead 27 = .ok (.putfield 19, 3) := by decide +kernel
theorem dX1_isMoreAhead_30 : decode cX1_isMoreAhead 30 = .ok (.goto (-30), 3) := by decide +kernel
theorem dX1_isMoreAhead_33 : decode cX1_isMoreAhead 33 = .ok (.aload_n 0, 1) := by decide +kernel
theorem dX1_isMoreAhead_34 : decode cX1_isMoreAhead 34 = .ok (.getfield 19, 3) := by decide +kernel
theorem dX1_isMoreAhead_37 : decode cX1_isMoreAhead 37 = .ok (.aload_n 0, 1) := by decide +kernel
theorem dX1_isMoreAhead_38 : decode cX1_isMoreAhead 38 = .ok (.getfield 15, 3) := by decide +kernel
theorem dX1_isMoreAhead_41 : decode cX1_isMoreAhead 41 = .ok (.if_icmp .ge 7, 3) := by decide +kernel
theorem dX1_isMoreAhead_44 : decode cX1_isMoreAhead 44 = .ok (.iconst 1, 1) := by decide +kernel
theorem dX1_isMoreAhead_45 : decode cX1_isMoreAhead 45 = .ok (.goto 4, 3) := by decide +kernel
theorem dX1_isMoreAhead_48 : decode cX1_isMoreAhead 48 = .ok (.iconst 0, 1) := by decide +kernel
theorem dX1_isMoreAhead_49 : decode cX1_isMoreAhead 49 = .ok (.ireturn, 1) := by decide +kernel
theorem dX1_sign_0 : decode cX1_sign 0 = .ok (.aload_n 0, 1) := by decide +kernel
theorem dX1_sign_1 : decode cX1_sign 1 = .ok (.getfield 19, 3) := by decide +kernel
theorem dX1_sign_4 : decode cX1_sign 4 = .ok (.ifCond .lt 38, 3) := by decide +kernel
theorem dX1_sign_7 : decode cX1_sign 7 = .ok (.aload_n 0, 1) := by decide +kernel
theorem dX1_sign_8 : decode cX1_sign 8 = .ok (.getfield 19, 3) := by decide +kernel
theorem dX1_sign_11 : decode cX1_sign 11 = .ok (.aload_n 0, 1) := by decide +kernel
theorem dX1_sign_12 : decode cX1_sign 12 = .ok (.getfield 15, 3) := by decide +kernel
theorem dX1_sign_15 : decode cX1_sign 15 = .ok (.if_icmp .ge 27, 3) := by decide +kernel
theorem dX1_sign_18 : decode cX1_sign 18 = .ok (.aload_n 0, 1) := by decide +kernel
theorem dX1_sign_19 : decode cX1_sign 19 = .ok (.getfield 19, 3) := by decide +kernel
theorem dX1_sign_22 : decode cX1_sign 22 = .ok (.aload_n 0, 1) := by decide +kernel
theorem dX1_sign_23 : decode cX1_sign 23 = .ok (.getfield 9, 3) := by decide +kernel
theorem dX1_sign_26 : decode cX1_sign 26 = .ok (.arraylength, 1) := by decide +kernel
theorem dX1_sign_27 : decode cX1_sign 27 = .ok (.if_icmp .ge 15, 3) := by decide +kernel
theorem dX1_sign_30 : decode cX1_sign 30 = .ok (.aload_n 0, 1) := by decide +kernel
theorem dX1_sign_31 : decode cX1_sign 31 = .ok (.getfield 9, 3) := by decide +kernel
theorem dX1_sign_34 : decode cX1_sign 34 = .ok (.aload_n 0, 1) := by decide +kernel
theorem dX1_sign_35 : decode cX1_sign 35 = .ok (.getfield 19, 3) := by decide +kernel
theorem dX1_sign_38 : decode cX1_sign 38 = .ok (.iaload, 1) := by decide +kernel
theorem dX1_sign_39 : decode cX1_sign 39 = .ok (.goto 5, 3) := by decide +kernel
theorem dX1_sign_42 : decode cX1_sign 42 = .ok (.bipush 32, 2) := by decide +kernel
theorem dX1_sign_44 : decode cX1_sign 44 = .ok (.ireturn, 1) := by decide +kernel
theorem dX1_readItem_0 : decode cX1_readItem 0 = .ok (.aload_n 0, 1) := by decide +kernel
theorem dX1_readItem_1 : decode cX1_readItem 1 = .ok (.invokevirtual 63, 3) := by decide +kernel
theorem dX1_readItem_4 : decode cX1_readItem 4 = .ok (.istore_n 2, 1) := by decide +kernel
theorem dX1_readItem_5 : decode cX1_readItem 5 = .ok (.iload_n 2, 1) := by decide +kernel
theorem dX1_readItem_6 : decode cX1_readItem 6 = .ok (.invokestatic 67, 3) := by decide +kernel
theorem dX1_readItem_9 : decode cX1_readItem 9 = .ok (.istore_n 3, 1) := by decide +kernel
theorem dX1_readItem_10 : decode cX1_readItem 10 = .ok (.aload_n 0, 1) := by decide +kernel
theorem dX1_readItem_11 : decode cX1_readItem 11 = .ok (.getfield 25, 3) := by decide +kernel
theorem dX1_readItem_14 : decode cX1_readItem 14 = .ok (.ifCond .ne 17, 3) := by decide +kernel
theorem dX1_readItem_17 : decode cX1_readItem 17 = .ok (.iload_n 2, 1) := by decide +kernel
theorem dX1_readItem_18 : decode cX1_readItem 18 = .ok (.bipush 104, 2) := by decide +kernel
theorem dX1_readItem_20 : decode cX1_readItem 20 = .ok (.if_icmp .ne 11, 3) := by decide +kernel
theorem dX1_readItem_23 : decode cX1_readItem 23 = .ok (.aload_n 0, 1) := by decide +kernel
theorem dX1_readItem_24 : decode cX1_readItem 24 = .ok (.aload_n 1, 1) := by decide +kernel
theorem dX1_readItem_25 : decode cX1_readItem 25 = .ok (.invokevirtual 70, 3) := by decide +kernel
theorem dX1_readItem_28 : decode cX1_readItem 28 = .ok (.goto 85, 3) := by decide +kernel
theorem dX1_readItem_31 : decode cX1_readItem 31 = .ok (.aload_n 0, 1) := by decide +kernel
theorem dX1_readItem_32 : decode cX1_readItem 32 = .ok (.getfield 25, 3) := by decide +kernel
theorem dX1_readItem_35 : decode cX1_readItem 35 = .ok (.ifCond .eq 32, 3) := by decide +kernel
theorem dX1_readItem_38 : decode cX1_readItem 38 = .ok (.iload_n 2, 1) := by decide +kernel
theorem dX1_readItem_39 : decode cX1_readItem 39 = .ok (.bipush 97, 2) := by decide +kernel
theorem dX1_readItem_41 : decode cX1_readItem 41 = .ok (.if_icmp .ne 26, 3) := by decide +kernel
theorem dX1_readItem_44 : decode cX1_readItem 44 = .ok (.aload_n 1, 1) := by decide +kernel
theorem dX1_readItem_45 : decode cX1_readItem 45 = .ok (.getfield 73, 3) := by decide +kernel
theorem dX1_readItem_48 : decode cX1_readItem 48 = .ok (.ifCond .le 19, 3) := by decide +kernel
theorem dX1_readItem_51 : decode cX1_readItem 51 = .ok (.aload_n 1, 1) := by decide +kernel
theorem dX1_readItem_52 : decode cX1_readItem 52 = .ok (.getfield 46, 3) := by decide +kernel
theorem dX1_readItem_55 : decode cX1_readItem 55 = .ok (.iconst 4, 1) := by decide +kernel
theorem dX1_readItem_56 : decode cX1_readItem 56 = .ok (.if_icmp .ge 11, 3) := by decide +kernel
theorem dX1_readItem_59 : decode cX1_readItem 59 = .ok (.aload_n 0, 1) := by decide +kernel
theorem dX1_readItem_60 : decode cX1_readItem 60 = .ok (.aload_n 1, 1) := by decide +kernel
theorem dX1_readItem_61 : decode cX1_readItem 61 = .ok (.invokevirtual 76, 3) := by decide +kernel
theorem dX1_readItem_64 : decode cX1_readItem 64 = .ok (.goto 49, 3) := by decide +kernel
theorem dX1_readItem_67 : decode cX1_readItem 67 = .ok (.aload_n 0, 1) := by decide +kernel
theorem dX1_readItem_68 : decode cX1_readItem 68 = .ok (.getfield 25, 3) := by decide +kernel
theorem dX1_readItem_71 : decode cX1_readItem 71 = .ok (.ifCond .eq 34, 3) := by decide +kernel
theorem dX1_readItem_74 : decode cX1_readItem 74 = .ok (.iload_n 3, 1) := by decide +kernel
theorem dX1_readItem_75 : decode cX1_readItem 75 = .ok (.bipush (-9), 2) := by decide +kernel
theorem dX1_readItem_77 : decode cX1_readItem 77 = .ok (.if_icmp .eq 28, 3) := by decide +kernel
theorem dX1_readItem_80 : decode cX1_readItem 80 = .ok (.aload_n 1, 1) := by decide +kernel
theorem dX1_readItem_81 : decode cX1_readItem 81 = .ok (.getfield 46, 3) := by decide +kernel
theorem dX1_readItem_84 : decode cX1_readItem 84 = .ok (.ifCond .ne 21, 3) := by decide +kernel
theorem dX1_readItem_87 : decode cX1_readItem 87 = .ok (.aload_n 1, 1) := by decide +kernel
theorem dX1_readItem_88 : decode cX1_readItem 88 = .ok (.getfield 73, 3) := by decide +kernel
theorem dX1_readItem_91 : decode cX1_readItem 91 = .ok (.bipush 6, 2) := by decide +kernel
theorem dX1_readItem_93 : decode cX1_readItem 93 = .ok (.if_icmp .ge 12, 3) := by decide +kernel
theorem dX1_readItem_96 : decode cX1_readItem 96 = .ok (.aload_n 0, 1) := by decide +kernel
theorem dX1_readItem_97 : decode cX1_readItem 97 = .ok (.aload_n 1, 1) := by decide +kernel
theorem dX1_readItem_98 : decode cX1_readItem 98 = .ok (.iload_n 3, 1) := by decide +kernel
theorem dX1_readItem_99 : decode cX1_readItem 99 = .ok (.invokevirtual 79, 3) := by decide +kernel
theorem dX1_readItem_102 : decode cX1_readItem 102 = .ok (.goto 11, 3) := by decide +kernel
theorem dX1_readItem_105 : decode cX1_readItem 105 = .ok (.aload_n 0, 1) := by decide +kernel
theorem dX1_readItem_106 : decode cX1_readItem 106 = .ok (.aload_n 0, 1) := by decide +kernel
theorem dX1_readItem_107 : decode cX1_readItem 107 = .ok (.getfield 19, 3) := by decide +kernel
theorem dX1_readItem_110 : decode cX1_readItem 110 = .ok (.putfield 22, 3) := by decide +kernel
theorem dX1_readItem_113 : decode cX1_readItem 113 = .ok (.return_, 1) := by decide +kernel
theorem dX1_readHead_0 : decode cX1_readHead 0 = .ok (.aload_n 0, 1) := by decide +kernel
theorem dX1_readHead_1 : decode cX1_readHead 1 = .ok (.dup, 1) := by decide +kernel
theorem dX1_readHead_2 : decode cX1_readHead 2 = .ok (.getfield 19, 3) := by decide +kernel
theorem dX1_readHead_5 : decode cX1_readHead 5 = .ok (.iconst 1, 1) := by decide +kernel
theorem dX1_readHead_6 : decode cX1_readHead 6 = .ok (.iadd, 1) := by decide +kernel
theorem dX1_readHead_7 : decode cX1_readHead 7 = .ok (.putfield 19, 3) := by decide +kernel
theorem dX1_readHead_10 : decode cX1_readHead 10 = .ok (.aload_n 0, 1) := by decide +kernel
theorem dX1_readHead_11 : decode cX1_readHead 11 = .ok (.iconst 0, 1) := by decide +kernel
theorem dX1_readHead_12 : decode cX1_readHead 12 = .ok (.iconst 1, 1) := by decide +kernel
theorem dX1_readHead_13 : decode cX1_readHead 13 = .ok (.invokevirtual 83, 3) := by decide +kernel
theorem dX1_readHead_16 : decode cX1_readHead 16 = .ok (.istore_n 2, 1) := by decide +kernel
theorem dX1_readHead_17 : decode cX1_readHead 17 = .ok (.aload_n 0, 1) := by decide +kernel
theorem dX1_readHead_18 : decode cX1_readHead 18 = .ok (.iconst 1, 1) := by decide +kernel
theorem dX1_readHead_19 : decode cX1_readHead 19 = .ok (.putfield 25, 3) := by decide +kernel
theorem dX1_readHead_22 : decode cX1_readHead 22 = .ok (.aload_n 1, 1) := by decide +kernel
theorem dX1_readHead_23 : decode cX1_readHead 23 = .ok (.aload_n 1, 1) := by decide +kernel
theorem dX1_readHead_24 : decode cX1_readHead 24 = .ok (.getfield 86, 3) := by decide +kernel
theorem dX1_readHead_27 : decode cX1_readHead 27 = .ok (.iload_n 2, 1) := by decide +kernel
theorem dX1_readHead_28 : decode cX1_readHead 28 = .ok (.invokestatic 90, 3) := by decide +kernel
theorem dX1_readHead_31 : decode cX1_readHead 31 = .ok (.putfield 86, 3) := by decide +kernel
theorem dX1_readHead_34 : decode cX1_readHead 34 = .ok (.return_, 1) := by decide +kernel
theorem dX1_readRope_0 : decode cX1_readRope 0 = .ok (.aload_n 0, 1) := by decide +kernel
theorem dX1_readRope_1 : decode cX1_readRope 1 = .ok (.dup, 1) := by decide +kernel
theorem dX1_readRope_2 : decode cX1_readRope 2 = .ok (.getfield 19, 3) := by decide +kernel
theorem dX1_readRope_5 : decode cX1_readRope 5 = .ok (.iconst 1, 1) := by decide +kernel
theorem dX1_readRope_6 : decode cX1_readRope 6 = .ok (.iadd, 1) := by decide +kernel
theorem dX1_readRope_7 : decode cX1_readRope 7 = .ok (.putfield 19, 3) := by decide +kernel
theorem dX1_readRope_10 : decode cX1_readRope 10 = .ok (.aload_n 0, 1) := by decide +kernel
theorem dX1_readRope_11 : decode cX1_readRope 11 = .ok (.iconst 1, 1) := by decide +kernel
theorem dX1_readRope_12 : decode cX1_readRope 12 = .ok (.bipush 9, 2) := by decide +kernel
theorem dX1_readRope_14 : decode cX1_readRope 14 = .ok (.invokevirtual 83, 3) := by decide +kernel
theorem dX1_readRope_17 : decode cX1_readRope 17 = .ok (.istore_n 3, 1) := by decide +kernel
theorem dX1_readRope_18 : decode cX1_readRope 18 = .ok (.aload_n 0, 1) := by decide +kernel
theorem dX1_readRope_19 : decode cX1_readRope 19 = .ok (.iconst 0, 1) := by decide +kernel
theorem dX1_readRope_20 : decode cX1_readRope 20 = .ok (.iconst 5, 1) := by decide +kernel
theorem dX1_readRope_21 : decode cX1_readRope 21 = .ok (.invokevirtual 83, 3) := by decide +kernel
theorem dX1_readRope_24 : decode cX1_readRope 24 = .ok (.istore 4, 2) := by decide +kernel
theorem dX1_readRope_26 : decode cX1_readRope 26 = .ok (.aload_n 0, 1) := by decide +kernel
theorem dX1_readRope_27 : decode cX1_readRope 27 = .ok (.iconst 0, 1) := by decide +kernel
theorem dX1_readRope_28 : decode cX1_readRope 28 = .ok (.iload_n 3, 1) := by decide +kernel
theorem dX1_readRope_29 : decode cX1_readRope 29 = .ok (.invokevirtual 83, 3) := by decide +kernel
theorem dX1_readRope_32 : decode cX1_readRope 32 = .ok (.istore 5, 2) := by decide +kernel
theorem dX1_readRope_34 : decode cX1_readRope 34 = .ok (.aload_n 0, 1) := by decide +kernel
theorem dX1_readRope_35 : decode cX1_readRope 35 = .ok (.getfield 22, 3) := by decide +kernel
theorem dX1_readRope_38 : decode cX1_readRope 38 = .ok (.bipush (-9), 2) := by decide +kernel
theorem dX1_readRope_40 : decode cX1_readRope 40 = .ok (.if_icmp .ne 13, 3) := by decide +kernel
theorem dX1_readRope_43 : decode cX1_readRope 43 = .ok (.aload_n 1, 1) := by decide +kernel
theorem dX1_readRope_44 : decode cX1_readRope 44 = .ok (.iload_n 2, 1) := by decide +kernel
theorem dX1_readRope_45 : decode cX1_readRope 45 = .ok (.iload_n 3, 1) := by decide +kernel
theorem dX1_readRope_46 : decode cX1_readRope 46 = .ok (.iload 4, 2) := by decide +kernel
theorem dX1_readRope_48 : decode cX1_readRope 48 = .ok (.iload 5, 2) := by decide +kernel
theorem dX1_readRope_50 : decode cX1_readRope 50 = .ok (.invokevirtual 96, 3) := by decide +kernel
theorem dX1_readRope_53 : decode cX1_readRope 53 = .ok (.return_, 1) := by decide +kernel
theorem dX1_readAct_0 : decode cX1_readAct 0 = .ok (.aload_n 0, 1) := by decide +kernel
theorem dX1_readAct_1 : decode cX1_readAct 1 = .ok (.dup, 1) := by decide +kernel
theorem dX1_readAct_2 : decode cX1_readAct 2 = .ok (.getfield 19, 3) := by decide +kernel
theorem dX1_readAct_5 : decode cX1_readAct 5 = .ok (.iconst 1, 1) := by decide +kernel
theorem dX1_readAct_6 : decode cX1_readAct 6 = .ok (.iadd, 1) := by decide +kernel
theorem dX1_readAct_7 : decode cX1_readAct 7 = .ok (.putfield 19, 3) := by decide +kernel
theorem dX1_readAct_10 : decode cX1_readAct 10 = .ok (.aload_n 0, 1) := by decide +kernel
theorem dX1_readAct_11 : decode cX1_readAct 11 = .ok (.invokevirtual 100, 3) := by decide +kernel
theorem dX1_readAct_14 : decode cX1_readAct 14 = .ok (.istore_n 2, 1) := by decide +kernel
theorem dX1_readAct_15 : decode cX1_readAct 15 = .ok (.aload_n 0, 1) := by decide +kernel
theorem dX1_readAct_16 : decode cX1_readAct 16 = .ok (.invokevirtual 100, 3) := by decide +kernel
theorem dX1_readAct_19 : decode cX1_readAct 19 = .ok (.istore_n 3, 1) := by decide +kernel
theorem dX1_readAct_20 : decode cX1_readAct 20 = .ok (.aload_n 0, 1) := by decide +kernel
theorem dX1_readAct_21 : decode cX1_readAct 21 = .ok (.getfield 22, 3) := by decide +kernel
theorem dX1_readAct_24 : decode cX1_readAct 24 = .ok (.bipush (-9), 2) := by decide +kernel
theorem dX1_readAct_26 : decode cX1_readAct 26 = .ok (.if_icmp .ne 9, 3) := by decide +kernel
theorem dX1_readAct_29 : decode cX1_readAct 29 = .ok (.aload_n 1, 1) := by decide +kernel
theorem dX1_readAct_30 : decode cX1_readAct 30 = .ok (.iload_n 2, 1) := by decide +kernel
theorem dX1_readAct_31 : decode cX1_readAct 31 = .ok (.iload_n 3, 1) := by decide +kernel
theorem dX1_readAct_32 : decode cX1_readAct 32 = .ok (.invokevirtual 103, 3) := by decide +kernel
theorem dX1_readAct_35 : decode cX1_readAct 35 = .ok (.return_, 1) := by decide +kernel
theorem dX1_ropeSet_0 : decode cX1_ropeSet 0 = .ok (.aload_n 0, 1) := by decide +kernel
theorem dX1_ropeSet_1 : decode cX1_ropeSet 1 = .ok (.getfield 19, 3) := by decide +kernel
theorem dX1_ropeSet_4 : decode cX1_ropeSet 4 = .ok (.istore_n 1, 1) := by decide +kernel
theorem dX1_ropeSet_5 : decode cX1_ropeSet 5 = .ok (.aload_n 0, 1) := by decide +kernel
theorem dX1_ropeSet_6 : decode cX1_ropeSet 6 = .ok (.iconst 0, 1) := by decide +kernel
theorem dX1_ropeSet_7 : decode cX1_ropeSet 7 = .ok (.bipush 9, 2) := by decide +kernel
theorem dX1_ropeSet_9 : decode cX1_ropeSet 9 = .ok (.invokevirtual 83, 3) := by decide +kernel
theorem dX1_ropeSet_12 : decode cX1_ropeSet 12 = .ok (.istore_n 2, 1) := by decide +kernel
theorem dX1_ropeSet_13 : decode cX1_ropeSet 13 = .ok (.bipush 10, 2) := by decide +kernel
theorem dX1_ropeSet_15 : decode cX1_ropeSet 15 = .ok (.iload_n 2, 1) := by decide +kernel
theorem dX1_ropeSet_16 : decode cX1_ropeSet 16 = .ok (.imul, 1) := by decide +kernel
theorem dX1_ropeSet_17 : decode cX1_ropeSet 17 = .ok (.aload_n 0, 1) := by decide +kernel
theorem dX1_ropeSet_18 : decode cX1_ropeSet 18 = .ok (.iconst 0, 1) := by decide +kernel
theorem dX1_ropeSet_19 : decode cX1_ropeSet 19 = .ok (.bipush 9, 2) := by decide +kernel
theorem dX1_ropeSet_21 : decode cX1_ropeSet 21 = .ok (.invokevirtual 83, 3) := by decide +kernel
theorem dX1_ropeSet_24 : decode cX1_ropeSet 24 = .ok (.iadd, 1) := by decide +kernel
theorem dX1_ropeSet_25 : decode cX1_ropeSet 25 = .ok (.istore_n 3, 1) := by decide +kernel
theorem dX1_ropeSet_26 : decode cX1_ropeSet 26 = .ok (.aload_n 0, 1) := by decide +kernel
theorem dX1_ropeSet_27 : decode cX1_ropeSet 27 = .ok (.getfield 22, 3) := by decide +kernel
theorem dX1_ropeSet_30 : decode cX1_ropeSet 30 = .ok (.bipush (-9), 2) := by decide +kernel
theorem dX1_ropeSet_32 : decode cX1_ropeSet 32 = .ok (.if_icmp .ne 14, 3) := by decide +kernel
theorem dX1_ropeSet_35 : decode cX1_ropeSet 35 = .ok (.iload_n 3, 1) := by decide +kernel
theorem dX1_ropeSet_36 : decode cX1_ropeSet 36 = .ok (.bipush 63, 2) := by decide +kernel
theorem dX1_ropeSet_38 : decode cX1_ropeSet 38 = .ok (.if_icmp .le 8, 3) := by decide +kernel
theorem dX1_ropeSet_41 : decode cX1_ropeSet 41 = .ok (.aload_n 0, 1) := by decide +kernel
theorem dX1_ropeSet_42 : decode cX1_ropeSet 42 = .ok (.iload_n 1, 1) := by decide +kernel
theorem dX1_ropeSet_43 : decode cX1_ropeSet 43 = .ok (.putfield 22, 3) := by decide +kernel
theorem dX1_ropeSet_46 : decode cX1_ropeSet 46 = .ok (.iload_n 3, 1) := by decide +kernel
theorem dX1_ropeSet_47 : decode cX1_ropeSet 47 = .ok (.ireturn, 1) := by decide +kernel
theorem dX1_figure_0 : decode cX1_figure 0 = .ok (.aload_n 0, 1) := by decide +kernel
theorem dX1_figure_1 : decode cX1_figure 1 = .ok (.getfield 22, 3) := by decide +kernel
theorem dX1_figure_4 : decode cX1_figure 4 = .ok (.bipush (-9), 2) := by decide +kernel
theorem dX1_figure_6 : decode cX1_figure 6 = .ok (.if_icmp .eq 5, 3) := by decide +kernel
theorem dX1_figure_9 : decode cX1_figure 9 = .ok (.iconst 0, 1) := by decide +kernel
theorem dX1_figure_10 : decode cX1_figure 10 = .ok (.ireturn, 1) := by decide +kernel
theorem dX1_figure_11 : decode cX1_figure 11 = .ok (.aload_n 0, 1) := by decide +kernel
theorem dX1_figure_12 : decode cX1_figure 12 = .ok (.getfield 19, 3) := by decide +kernel
theorem dX1_figure_15 : decode cX1_figure 15 = .ok (.aload_n 0, 1) := by decide +kernel
theorem dX1_figure_16 : decode cX1_figure 16 = .ok (.getfield 15, 3) := by decide +kernel
theorem dX1_figure_19 : decode cX1_figure 19 = .ok (.if_icmp .lt 13, 3) := by decide +kernel
theorem dX1_figure_22 : decode cX1_figure 22 = .ok (.aload_n 0, 1) := by decide +kernel
theorem dX1_figure_23 : decode cX1_figure 23 = .ok (.aload_n 0, 1) := by decide +kernel
theorem dX1_figure_24 : decode cX1_figure 24 = .ok (.getfield 15, 3) := by decide +kernel
theorem dX1_figure_27 : decode cX1_figure 27 = .ok (.putfield 22, 3) := by decide +kernel
theorem dX1_figure_30 : decode cX1_figure 30 = .ok (.iconst 0, 1) := by decide +kernel
theorem dX1_figure_31 : decode cX1_figure 31 = .ok (.ireturn, 1) := by decide +kernel
theorem dX1_figure_32 : decode cX1_figure 32 = .ok (.aload_n 0, 1) := by decide +kernel
theorem dX1_figure_33 : decode cX1_figure 33 = .ok (.invokevirtual 63, 3) := by decide +kernel
theorem dX1_figure_36 : decode cX1_figure 36 = .ok (.bipush 48, 2) := by decide +kernel
theorem dX1_figure_38 : decode cX1_figure 38 = .ok (.isub, 1) := by decide +kernel
theorem dX1_figure_39 : decode cX1_figure 39 = .ok (.istore_n 3, 1) := by decide +kernel
theorem dX1_figure_40 : decode cX1_figure 40 = .ok (.iload_n 3, 1) := by decide +kernel
theorem dX1_figure_41 : decode cX1_figure 41 = .ok (.iload_n 1, 1) := by decide +kernel
theorem dX1_figure_42 : decode cX1_figure 42 = .ok (.if_icmp .lt 8, 3) := by decide +kernel
theorem dX1_figure_45 : decode cX1_figure 45 = .ok (.iload_n 3, 1) := by decide +kernel
theorem dX1_figure_46 : decode cX1_figure 46 = .ok (.iload_n 2, 1) := by decide +kernel
theorem dX1_figure_47 : decode cX1_figure 47 = .ok (.if_icmp .le 13, 3) := by decide +kernel
theorem dX1_figure_50 : decode cX1_figure 50 = .ok (.aload_n 0, 1) := by decide +kernel
theorem dX1_figure_51 : decode cX1_figure 51 = .ok (.aload_n 0, 1) := by decide +kernel
theorem dX1_figure_52 : decode cX1_figure 52 = .ok (.getfield 19, 3) := by decide +kernel
theorem dX1_figure_55 : decode cX1_figure 55 = .ok (.putfield 22, 3) := by decide +kernel
theorem dX1_figure_58 : decode cX1_figure 58 = .ok (.iconst 0, 1) := by decide +kernel
theorem dX1_figure_59 : decode cX1_figure 59 = .ok (.ireturn, 1) := by decide +kernel
theorem dX1_figure_60 : decode cX1_figure 60 = .ok (.aload_n 0, 1) := by decide +kernel
theorem dX1_figure_61 : decode cX1_figure 61 = .ok (.dup, 1) := by decide +kernel
theorem dX1_figure_62 : decode cX1_figure 62 = .ok (.getfield 19, 3) := by decide +kernel
theorem dX1_figure_65 : decode cX1_figure 65 = .ok (.iconst 1, 1) := by decide +kernel
theorem dX1_figure_66 : decode cX1_figure 66 = .ok (.iadd, 1) := by decide +kernel
theorem dX1_figure_67 : decode cX1_figure 67 = .ok (.putfield 19, 3) := by decide +kernel
theorem dX1_figure_70 : decode cX1_figure 70 = .ok (.iload_n 3, 1) := by decide +kernel
theorem dX1_figure_71 : decode cX1_figure 71 = .ok (.ireturn, 1) := by decide +kernel
theorem dX1_kindOfLetter_0 : decode cX1_kindOfLetter 0 = .ok (.iload_n 0, 1) := by decide +kernel
theorem dX1_kindOfLetter_1 : decode cX1_kindOfLetter 1 = .ok (.tableswitch 67 110 119 #[61, 67, 59, 67, 55, 57, 63, 67, 67, 65], 55) := by decide +kernel
theorem dX1_kindOfLetter_56 : decode cX1_kindOfLetter 56 = .ok (.iconst 0, 1) := by decide +kernel
theorem dX1_kindOfLetter_57 : decode cX1_kindOfLetter 57 = .ok (.ireturn, 1) := by decide +kernel
theorem dX1_kindOfLetter_58 : decode cX1_kindOfLetter 58 = .ok (.iconst 1, 1) := by decide +kernel
theorem dX1_kindOfLetter_59 : decode cX1_kindOfLetter 59 = .ok (.ireturn, 1) := by decide +kernel
theorem dX1_kindOfLetter_60 : decode cX1_kindOfLetter 60 = .ok (.iconst 2, 1) := by decide +kernel
theorem dX1_kindOfLetter_61 : decode cX1_kindOfLetter 61 = .ok (.ireturn, 1) := by decide +kernel
theorem dX1_kindOfLetter_62 : decode cX1_kindOfLetter 62 = .ok (.iconst 3, 1) := by decide +kernel
theorem dX1_kindOfLetter_63 : decode cX1_kindOfLetter 63 = .ok (.ireturn, 1) := by decide +kernel
theorem dX1_kindOfLetter_64 : decode cX1_kindOfLetter 64 = .ok (.iconst 4, 1) := by decide +kernel
theorem dX1_kindOfLetter_65 : decode cX1_kindOfLetter 65 = .ok (.ireturn, 1) := by decide +kernel
theorem dX1_kindOfLetter_66 : decode cX1_kindOfLetter 66 = .ok (.iconst 5, 1) := by decide +kernel
theorem dX1_kindOfLetter_67 : decode cX1_kindOfLetter 67 = .ok (.ireturn, 1) := by decide +kernel
theorem dX1_kindOfLetter_68 : decode cX1_kindOfLetter 68 = .ok (.bipush (-9), 2) := by decide +kernel
theorem dX1_kindOfLetter_70 : decode cX1_kindOfLetter 70 = .ok (.ireturn, 1) := by decide +kernel
theorem dX2_init_0 : decode cX2_init 0 = .ok (.aload_n 0, 1) := by decide +kernel
theorem dX2_init_1 : decode cX2_init 1 = .ok (.invokespecial 3, 3) := by decide +kernel
theorem dX2_init_4 : decode cX2_init 4 = .ok (.aload_n 0, 1) := by decide +kernel
theorem dX2_init_5 : decode cX2_init 5 = .ok (.iconst 0, 1) := by decide +kernel
theorem dX2_init_6 : decode cX2_init 6 = .ok (.putfield 9, 3) := by decide +kernel
theorem dX2_init_9 : decode cX2_init 9 = .ok (.aload_n 0, 1) := by decide +kernel
theorem dX2_init_10 : decode cX2_init 10 = .ok (.iconst 0, 1) := by decide +kernel
theorem dX2_init_11 : decode cX2_init 11 = .ok (.putfield 15, 3) := by decide +kernel
theorem dX2_init_14 : decode cX2_init 14 = .ok (.aload_n 0, 1) := by decide +kernel
theorem dX2_init_15 : decode cX2_init 15 = .ok (.lconst 0, 1) := by decide +kernel
theorem dX2_init_16 : decode cX2_init 16 = .ok (.putfield 18, 3) := by decide +kernel
theorem dX2_init_19 : decode cX2_init 19 = .ok (.aload_n 0, 1) := by decide +kernel
theorem dX2_init_20 : decode cX2_init 20 = .ok (.iconst 0, 1) := by decide +kernel
theorem dX2_init_21 : decode cX2_init 21 = .ok (.putfield 22, 3) := by decide +kernel
theorem dX2_init_24 : decode cX2_init 24 = .ok (.aload_n 0, 1) := by decide +kernel
theorem dX2_init_25 : decode cX2_init 25 = .ok (.bipush 6, 2) := by decide +kernel
theorem dX2_init_27 : decode cX2_init 27 = .ok (.newarray .int, 2) := by decide +kernel
theorem dX2_init_29 : decode cX2_init 29 = .ok (.putfield 25, 3) := by decide +kernel
theorem dX2_init_32 : decode cX2_init 32 = .ok (.aload_n 0, 1) := by decide +kernel
theorem dX2_init_33 : decode cX2_init 33 = .ok (.bipush 6, 2) := by decide +kernel
theorem dX2_init_35 : decode cX2_init 35 = .ok (.newarray .int, 2) := by decide +kernel
theorem dX2_init_37 : decode cX2_init 37 = .ok (.putfield 29, 3) := by decide +kernel
theorem dX2_init_40 : decode cX2_init 40 = .ok (.aload_n 0, 1) := by decide +kernel
theorem dX2_init_41 : decode cX2_init 41 = .ok (.bipush 6, 2) := by decide +kernel
theorem dX2_init_43 : decode cX2_init 43 = .ok (.newarray .int, 2) := by decide +kernel
theorem dX2_init_45 : decode cX2_init 45 = .ok (.putfield 32, 3) := by decide +kernel
theorem dX2_init_48 : decode cX2_init 48 = .ok (.aload_n 0, 1) := by decide +kernel
theorem dX2_init_49 : decode cX2_init 49 = .ok (.iconst 4, 1) := by decide +kernel
theorem dX2_init_50 : decode cX2_init 50 = .ok (.newarray .int, 2) := by decide +kernel
theorem dX2_init_52 : decode cX2_init 52 = .ok (.putfield 35, 3) := by decide +kernel
theorem dX2_init_55 : decode cX2_init 55 = .ok (.aload_n 0, 1) := by decide +kernel
theorem dX2_init_56 : decode cX2_init 56 = .ok (.iconst 4, 1) := by decide +kernel
theorem dX2_init_57 : decode cX2_init 57 = .ok (.newarray .int, 2) := by decide +kernel
theorem dX2_init_59 : decode cX2_init 59 = .ok (.putfield 38, 3) := by decide +kernel
theorem dX2_init_62 : decode cX2_init 62 = .ok (.return_, 1) := by decide +kernel
theorem dX2_clear_0 : decode cX2_clear 0 = .ok (.aload_n 0, 1) := by decide +kernel
theorem dX2_clear_1 : decode cX2_clear 1 = .ok (.iconst 0, 1) := by decide +kernel
theorem dX2_clear_2 : decode cX2_clear 2 = .ok (.putfield 9, 3) := by decide +kernel
theorem dX2_clear_5 : decode cX2_clear 5 = .ok (.aload_n 0, 1) := by decide +kernel
theorem dX2_clear_6 : decode cX2_clear 6 = .ok (.iconst 0, 1) := by decide +kernel
theorem dX2_clear_7 : decode cX2_clear 7 = .ok (.putfield 15, 3) := by decide +kernel
theorem dX2_clear_10 : decode cX2_clear 10 = .ok (.aload_n 0, 1) := by decide +kernel
theorem dX2_clear_11 : decode cX2_clear 11 = .ok (.lconst 0, 1) := by decide +kernel
theorem dX2_clear_12 : decode cX2_clear 12 = .ok (.putfield 18, 3) := by decide +kernel
theorem dX2_clear_15 : decode cX2_clear 15 = .ok (.aload_n 0, 1) := by decide +kernel
theorem dX2_clear_16 : decode cX2_clear 16 = .ok (.iconst 0, 1) := by decide +kernel
theorem dX2_clear_17 : decode cX2_clear 17 = .ok (.putfield 22, 3) := by decide +kernel
theorem dX2_clear_20 : decode cX2_clear 20 = .ok (.return_, 1) := by decide +kernel
theorem dX2_addRope_0 : decode cX2_addRope 0 = .ok (.aload_n 0, 1) := by decide +kernel
theorem dX2_addRope_1 : decode cX2_addRope 1 = .ok (.getfield 9, 3) := by decide +kernel
theorem dX2_addRope_4 : decode cX2_addRope 4 = .ok (.ifCond .lt 69, 3) := by decide +kernel
theorem dX2_addRope_7 : decode cX2_addRope 7 = .ok (.aload_n 0, 1) := by decide +kernel
theorem dX2_addRope_8 : decode cX2_addRope 8 = .ok (.getfield 9, 3) := by decide +kernel
theorem dX2_addRope_11 : decode cX2_addRope 11 = .ok (.bipush 6, 2) := by decide +kernel
theorem dX2_addRope_13 : decode cX2_addRope 13 = .ok (.if_icmp .ge 60, 3) := by decide +kernel
theorem dX2_addRope_16 : decode cX2_addRope 16 = .ok (.aload_n 0, 1) := by decide +kernel
theorem dX2_addRope_17 : decode cX2_addRope 17 = .ok (.getfield 25, 3) := by decide +kernel
theorem dX2_addRope_20 : decode cX2_addRope 20 = .ok (.aload_n 0, 1) := by decide +kernel
theorem dX2_addRope_21 : decode cX2_addRope 21 = .ok (.getfield 9, 3) := by decide +kernel
theorem dX2_addRope_24 : decode cX2_addRope 24 = .ok (.iload_n 1, 1) := by decide +kernel
theorem dX2_addRope_25 : decode cX2_addRope 25 = .ok (.iastore, 1) := by decide +kernel
theorem dX2_addRope_26 : decode cX2_addRope 26 = .ok (.aload_n 0, 1) := by decide +kernel
theorem dX2_addRope_27 : decode cX2_addRope 27 = .ok (.getfield 29, 3) := by decide +kernel
theorem dX2_addRope_30 : decode cX2_addRope 30 = .ok (.aload_n 0, 1) := by decide +kernel
theorem dX2_addRope_31 : decode cX2_addRope 31 = .ok (.getfield 9, 3) := by decide +kernel
theorem dX2_addRope_34 : decode cX2_addRope 34 = .ok (.iload_n 2, 1) := by decide +kernel
theorem dX2_addRope_35 : decode cX2_addRope 35 = .ok (.iastore, 1) := by decide +kernel
theorem dX2_addRope_36 : decode cX2_addRope 36 = .ok (.aload_n 0, 1) := by decide +kernel
theorem dX2_addRope_37 : decode cX2_addRope 37 = .ok (.getfield 32, 3) := by decide +kernel
theorem dX2_addRope_40 : decode cX2_addRope 40 = .ok (.aload_n 0, 1) := by decide +kernel
theorem dX2_addRope_41 : decode cX2_addRope 41 = .ok (.getfield 9, 3) := by decide +kernel
theorem dX2_addRope_44 : decode cX2_addRope 44 = .ok (.iload_n 3, 1) := by decide +kernel
theorem dX2_addRope_45 : decode cX2_addRope 45 = .ok (.iastore, 1) := by decide +kernel
theorem dX2_addRope_46 : decode cX2_addRope 46 = .ok (.aload_n 0, 1) := by decide +kernel
theorem dX2_addRope_47 : decode cX2_addRope 47 = .ok (.aload_n 0, 1) := by decide +kernel
theorem dX2_addRope_48 : decode cX2_addRope 48 = .ok (.getfield 18, 3) := by decide +kernel
theorem dX2_addRope_51 : decode cX2_addRope 51 = .ok (.aload_n 0, 1) := by decide +kernel
theorem dX2_addRope_52 : decode cX2_addRope 52 = .ok (.getfield 9, 3) := by decide +kernel
theorem dX2_addRope_55 : decode cX2_addRope 55 = .ok (.iload 4, 2) := by decide +kernel
theorem dX2_addRope_57 : decode cX2_addRope 57 = .ok (.invokestatic 41, 3) := by decide +kernel
theorem dX2_addRope_60 : decode cX2_addRope 60 = .ok (.putfield 18, 3) := by decide +kernel
theorem dX2_addRope_63 : decode cX2_addRope 63 = .ok (.aload_n 0, 1) := by decide +kernel
theorem dX2_addRope_64 : decode cX2_addRope 64 = .ok (.dup, 1) := by decide +kernel
theorem dX2_addRope_65 : decode cX2_addRope 65 = .ok (.getfield 9, 3) := by decide +kernel
theorem dX2_addRope_68 : decode cX2_addRope 68 = .ok (.iconst 1, 1) := by decide +kernel
theorem dX2_addRope_69 : decode cX2_addRope 69 = .ok (.iadd, 1) := by decide +kernel
theorem dX2_addRope_70 : decode cX2_addRope 70 = .ok (.putfield 9, 3) := by decide +kernel
theorem dX2_addRope_73 : decode cX2_addRope 73 = .ok (.return_, 1) := by decide +kernel
theorem dX2_addAct_0 : decode cX2_addAct 0 = .ok (.aload_n 0, 1) := by decide +kernel
theorem dX2_addAct_1 : decode cX2_addAct 1 = .ok (.getfield 15, 3) := by decide +kernel
theorem dX2_addAct_4 : decode cX2_addAct 4 = .ok (.ifCond .lt 41, 3) := by decide +kernel
theorem dX2_addAct_7 : decode cX2_addAct 7 = .ok (.aload_n 0, 1) := by decide +kernel
theorem dX2_addAct_8 : decode cX2_addAct 8 = .ok (.getfield 15, 3) := by decide +kernel
theorem dX2_addAct_11 : decode cX2_addAct 11 = .ok (.iconst 4, 1) := by decide +kernel
theorem dX2_addAct_12 : decode cX2_addAct 12 = .ok (.if_icmp .ge 33, 3) := by decide +kernel
theorem dX2_addAct_15 : decode cX2_addAct 15 = .ok (.aload_n 0, 1) := by decide +kernel
theorem dX2_addAct_16 : decode cX2_addAct 16 = .ok (.getfield 35, 3) := by decide +kernel
theorem dX2_addAct_19 : decode cX2_addAct 19 = .ok (.aload_n 0, 1) := by decide +kernel
theorem dX2_addAct_20 : decode cX2_addAct 20 = .ok (.getfield 15, 3) := by decide +kernel
theorem dX2_addAct_23 : decode cX2_addAct 23 = .ok (.iload_n 1, 1) := by decide +kernel
theorem dX2_addAct_24 : decode cX2_addAct 24 = .ok (.iastore, 1) := by decide +kernel
theorem dX2_addAct_25 : decode cX2_addAct 25 = .ok (.aload_n 0, 1) := by decide +kernel
theorem dX2_addAct_26 : decode cX2_addAct 26 = .ok (.getfield 38, 3) := by decide +kernel
theorem dX2_addAct_29 : decode cX2_addAct 29 = .ok (.aload_n 0, 1) := by decide +kernel
theorem dX2_addAct_30 : decode cX2_addAct 30 = .ok (.getfield 15, 3) := by decide +kernel
theorem dX2_addAct_33 : decode cX2_addAct 33 = .ok (.iload_n 2, 1) := by decide +kernel
theorem dX2_addAct_34 : decode cX2_addAct 34 = .ok (.iastore, 1) := by decide +kernel
theorem dX2_addAct_35 : decode cX2_addAct 35 = .ok (.aload_n 0, 1) := by decide +kernel
theorem dX2_addAct_36 : decode cX2_addAct 36 = .ok (.dup, 1) := by decide +kernel
theorem dX2_addAct_37 : decode cX2_addAct 37 = .ok (.getfield 15, 3) := by decide +kernel
theorem dX2_addAct_40 : decode cX2_addAct 40 = .ok (.iconst 1, 1) := by decide +kernel
theorem dX2_addAct_41 : decode cX2_addAct 41 = .ok (.iadd, 1) := by decide +kernel
theorem dX2_addAct_42 : decode cX2_addAct 42 = .ok (.putfield 15, 3) := by decide +kernel
theorem dX2_addAct_45 : decode cX2_addAct 45 = .ok (.return_, 1) := by decide +kernel
theorem dX2_isEmpty_0 : decode cX2_isEmpty 0 = .ok (.aload_n 0, 1) := by decide +kernel
theorem dX2_isEmpty_1 : decode cX2_isEmpty 1 = .ok (.getfield 9, 3) := by decide +kernel
theorem dX2_isEmpty_4 : decode cX2_isEmpty 4 = .ok (.ifCond .ne 7, 3) := by decide +kernel
theorem dX2_isEmpty_7 : decode cX2_isEmpty 7 = .ok (.iconst 1, 1) := by decide +kernel
theorem dX2_isEmpty_8 : decode cX2_isEmpty 8 = .ok (.goto 4, 3) := by decide +kernel
theorem dX2_isEmpty_11 : decode cX2_isEmpty 11 = .ok (.iconst 0, 1) := by decide +kernel
theorem dX2_isEmpty_12 : decode cX2_isEmpty 12 = .ok (.ireturn, 1) := by decide +kernel
theorem dX2_allRopes_0 : decode cX2_allRopes 0 = .ok (.iconst 1, 1) := by decide +kernel
theorem dX2_allRopes_1 : decode cX2_allRopes 1 = .ok (.aload_n 0, 1) := by decide +kernel
theorem dX2_allRopes_2 : decode cX2_allRopes 2 = .ok (.getfield 9, 3) := by decide +kernel
theorem dX2_allRopes_5 : decode cX2_allRopes 5 = .ok (.ishl, 1) := by decide +kernel
theorem dX2_allRopes_6 : decode cX2_allRopes 6 = .ok (.iconst 1, 1) := by decide +kernel
theorem dX2_allRopes_7 : decode cX2_allRopes 7 = .ok (.isub, 1) := by decide +kernel
theorem dX2_allRopes_8 : decode cX2_allRopes 8 = .ok (.ireturn, 1) := by decide +kernel
theorem dX2_isRope_0 : decode cX2_isRope 0 = .ok (.iload_n 1, 1) := by decide +kernel
theorem dX2_isRope_1 : decode cX2_isRope 1 = .ok (.ifCond .lt 21, 3) := by decide +kernel
theorem dX2_isRope_4 : decode cX2_isRope 4 = .ok (.iload_n 1, 1) := by decide +kernel
theorem dX2_isRope_5 : decode cX2_isRope 5 = .ok (.aload_n 0, 1) := by decide +kernel
theorem dX2_isRope_6 : decode cX2_isRope 6 = .ok (.getfield 9, 3) := by decide +kernel
theorem dX2_isRope_9 : decode cX2_isRope 9 = .ok (.if_icmp .ge 13, 3) := by decide +kernel
theorem dX2_isRope_12 : decode cX2_isRope 12 = .ok (.iload_n 1, 1) := by decide +kernel
theorem dX2_isRope_13 : decode cX2_isRope 13 = .ok (.bipush 6, 2) := by decide +kernel
theorem dX2_isRope_15 : decode cX2_isRope 15 = .ok (.if_icmp .ge 7, 3) := by decide +kernel
theorem dX2_isRope_18 : decode cX2_isRope 18 = .ok (.iconst 1, 1) := by decide +kernel
theorem dX2_isRope_19 : decode cX2_isRope 19 = .ok (.goto 4, 3) := by decide +kernel
theorem dX2_isRope_22 : decode cX2_isRope 22 = .ok (.iconst 0, 1) := by decide +kernel
theorem dX2_isRope_23 : decode cX2_isRope 23 = .ok (.ireturn, 1) := by decide +kernel
theorem dX2_isAct_0 : decode cX2_isAct 0 = .ok (.iload_n 1, 1) := by decide +kernel
theorem dX2_isAct_1 : decode cX2_isAct 1 = .ok (.ifCond .lt 20, 3) := by decide +kernel
theorem dX2_isAct_4 : decode cX2_isAct 4 = .ok (.iload_n 1, 1) := by decide +kernel
theorem dX2_isAct_5 : decode cX2_isAct 5 = .ok (.aload_n 0, 1) := by decide +kernel
theorem dX2_isAct_6 : decode cX2_isAct 6 = .ok (.getfield 15, 3) := by decide +kernel
theorem dX2_isAct_9 : decode cX2_isAct 9 = .ok (.if_icmp .ge 12, 3) := by decide +kernel
theorem dX2_isAct_12 : decode cX2_isAct 12 = .ok (.iload_n 1, 1) := by decide +kernel
theorem dX2_isAct_13 : decode cX2_isAct 13 = .ok (.iconst 4, 1) := by decide +kernel
theorem dX2_isAct_14 : decode cX2_isAct 14 = .ok (.if_icmp .ge 7, 3) := by decide +kernel
theorem dX2_isAct_17 : decode cX2_isAct 17 = .ok (.iconst 1, 1) := by decide +kernel
theorem dX2_isAct_18 : decode cX2_isAct 18 = .ok (.goto 4, 3) := by decide +kernel
theorem dX2_isAct_21 : decode cX2_isAct 21 = .ok (.iconst 0, 1) := by decide +kernel
theorem dX2_isAct_22 : decode cX2_isAct 22 = .ok (.ireturn, 1) := by decide +kernel
theorem dX2_kind_0 : decode cX2_kind 0 = .ok (.aload_n 0, 1) := by decide +kernel
theorem dX2_kind_1 : decode cX2_kind 1 = .ok (.iload_n 1, 1) := by decide +kernel
theorem dX2_kind_2 : decode cX2_kind 2 = .ok (.invokevirtual 47, 3) := by decide +kernel
theorem dX2_kind_5 : decode cX2_kind 5 = .ok (.ifCond .eq 12, 3) := by decide +kernel
theorem dX2_kind_8 : decode cX2_kind 8 = .ok (.aload_n 0, 1) := by decide +kernel
theorem dX2_kind_9 : decode cX2_kind 9 = .ok (.getfield 25, 3) := by decide +kernel
theorem dX2_kind_12 : decode cX2_kind 12 = .ok (.iload_n 1, 1) := by decide +kernel
theorem dX2_kind_13 : decode cX2_kind 13 = .ok (.iaload, 1) := by decide +kernel
theorem dX2_kind_14 : decode cX2_kind 14 = .ok (.goto 4, 3) := by decide +kernel
theorem dX2_kind_17 : decode cX2_kind 17 = .ok (.iconst 0, 1) := by decide +kernel
theorem dX2_kind_18 : decode cX2_kind 18 = .ok (.ireturn, 1) := by decide +kernel
theorem dX2_holds_0 : decode cX2_holds 0 = .ok (.aload_n 0, 1) := by decide +kernel
theorem dX2_holds_1 : decode cX2_holds 1 = .ok (.iload_n 1, 1) := by decide +kernel
theorem dX2_holds_2 : decode cX2_holds 2 = .ok (.invokevirtual 47, 3) := by decide +kernel
theorem dX2_holds_5 : decode cX2_holds 5 = .ok (.ifCond .ne 7, 3) := by decide +kernel
theorem dX2_holds_8 : decode cX2_holds 8 = .ok (.iconst 0, 1) := by decide +kernel
theorem dX2_holds_9 : decode cX2_holds 9 = .ok (.goto 29, 3) := by decide +kernel
theorem dX2_holds_12 : decode cX2_holds 12 = .ok (.aload_n 0, 1) := by decide +kernel
theorem dX2_holds_13 : decode cX2_holds 13 = .ok (.iload_n 1, 1) := by decide +kernel
theorem dX2_holds_14 : decode cX2_holds 14 = .ok (.invokevirtual 51, 3) := by decide +kernel
theorem dX2_holds_17 : decode cX2_holds 17 = .ok (.iconst 2, 1) := by decide +kernel
theorem dX2_holds_18 : decode cX2_holds 18 = .ok (.if_icmp .ne 14, 3) := by decide +kernel
theorem dX2_holds_21 : decode cX2_holds 21 = .ok (.aload_n 0, 1) := by decide +kernel
theorem dX2_holds_22 : decode cX2_holds 22 = .ok (.getfield 29, 3) := by decide +kernel
theorem dX2_holds_25 : decode cX2_holds 25 = .ok (.iload_n 1, 1) := by decide +kernel
theorem dX2_holds_26 : decode cX2_holds 26 = .ok (.iaload, 1) := by decide +kernel
theorem dX2_holds_27 : decode cX2_holds 27 = .ok (.iconst 1, 1) := by decide +kernel
theorem dX2_holds_28 : decode cX2_holds 28 = .ok (.isub, 1) := by decide +kernel
theorem dX2_holds_29 : decode cX2_holds 29 = .ok (.goto 9, 3) := by decide +kernel
theorem dX2_holds_32 : decode cX2_holds 32 = .ok (.aload_n 0, 1) := by decide +kernel
theorem dX2_holds_33 : decode cX2_holds 33 = .ok (.getfield 29, 3) := by decide +kernel
theorem dX2_holds_36 : decode cX2_holds 36 = .ok (.iload_n 1, 1) := by decide +kernel
theorem dX2_holds_37 : decode cX2_holds 37 = .ok (.iaload, 1) := by decide +kernel
theorem dX2_holds_38 : decode cX2_holds 38 = .ok (.ireturn, 1) := by decide +kernel
theorem dX2_target_0 : decode cX2_target 0 = .ok (.aload_n 0, 1) := by decide +kernel
theorem dX2_target_1 : decode cX2_target 1 = .ok (.iload_n 1, 1) := by decide +kernel
theorem dX2_target_2 : decode cX2_target 2 = .ok (.invokevirtual 47, 3) := by decide +kernel
theorem dX2_target_5 : decode cX2_target 5 = .ok (.ifCond .eq 35, 3) := by decide +kernel
theorem dX2_target_8 : decode cX2_target 8 = .ok (.aload_n 0, 1) := by decide +kernel
theorem dX2_target_9 : decode cX2_target 9 = .ok (.getfield 32, 3) := by decide +kernel
theorem dX2_target_12 : decode cX2_target 12 = .ok (.iload_n 1, 1) := by decide +kernel
theorem dX2_target_13 : decode cX2_target 13 = .ok (.iaload, 1) := by decide +kernel
theorem dX2_target_14 : decode cX2_target 14 = .ok (.iload_n 1, 1) := by decide +kernel
theorem dX2_target_15 : decode cX2_target 15 = .ok (.if_icmp .eq 25, 3) := by decide +kernel
theorem dX2_target_18 : decode cX2_target 18 = .ok (.aload_n 0, 1) := by decide +kernel
theorem dX2_target_19 : decode cX2_target 19 = .ok (.aload_n 0, 1) := by decide +kernel
theorem dX2_target_20 : decode cX2_target 20 = .ok (.getfield 32, 3) := by decide +kernel
theorem dX2_target_23 : decode cX2_target 23 = .ok (.iload_n 1, 1) := by decide +kernel
theorem dX2_target_24 : decode cX2_target 24 = .ok (.iaload, 1) := by decide +kernel
theorem dX2_target_25 : decode cX2_target 25 = .ok (.invokevirtual 47, 3) := by decide +kernel
theorem dX2_target_28 : decode cX2_target 28 = .ok (.ifCond .eq 12, 3) := by decide +kernel
theorem dX2_target_31 : decode cX2_target 31 = .ok (.aload_n 0, 1) := by decide +kernel
theorem dX2_target_32 : decode cX2_target 32 = .ok (.getfield 32, 3) := by decide +kernel
theorem dX2_target_35 : decode cX2_target 35 = .ok (.iload_n 1, 1) := by decide +kernel
theorem dX2_target_36 : decode cX2_target 36 = .ok (.iaload, 1) := by decide +kernel
theorem dX2_target_37 : decode cX2_target 37 = .ok (.goto 5, 3) := by decide +kernel
theorem dX2_target_40 : decode cX2_target 40 = .ok (.bipush (-9), 2) := by decide +kernel
theorem dX2_target_42 : decode cX2_target 42 = .ok (.ireturn, 1) := by decide +kernel
theorem dX2_moversOf_0 : decode cX2_moversOf 0 = .ok (.iconst 0, 1) := by decide +kernel
theorem dX2_moversOf_1 : decode cX2_moversOf 1 = .ok (.istore_n 2, 1) := by decide +kernel
theorem dX2_moversOf_2 : decode cX2_moversOf 2 = .ok (.iconst 0, 1) := by decide +kernel
theorem dX2_moversOf_3 : decode cX2_moversOf 3 = .ok (.istore_n 3, 1) := by decide +kernel
theorem dX2_moversOf_4 : decode cX2_moversOf 4 = .ok (.iload_n 3, 1) := by decide +kernel
theorem dX2_moversOf_5 : decode cX2_moversOf 5 = .ok (.aload_n 0, 1) := by decide +kernel
theorem dX2_moversOf_6 : decode cX2_moversOf 6 = .ok (.getfield 9, 3) := by decide +kernel
theorem dX2_moversOf_9 : decode cX2_moversOf 9 = .ok (.if_icmp .ge 21, 3) := by decide +kernel
theorem dX2_moversOf_12 : decode cX2_moversOf 12 = .ok (.aload_n 0, 1) := by decide +kernel
theorem dX2_moversOf_13 : decode cX2_moversOf 13 = .ok (.iload_n 3, 1) := by decide +kernel
theorem dX2_moversOf_14 : decode cX2_moversOf 14 = .ok (.invokevirtual 55, 3) := by decide +kernel
theorem dX2_moversOf_17 : decode cX2_moversOf 17 = .ok (.iload_n 1, 1) := by decide +kernel
theorem dX2_moversOf_18 : decode cX2_moversOf 18 = .ok (.if_icmp .ne 6, 3) := by decide +kernel
theorem dX2_moversOf_21 : decode cX2_moversOf 21 = .ok (.iinc 2 1, 3) := by decide +kernel
theorem dX2_moversOf_24 : decode cX2_moversOf 24 = .ok (.iinc 3 1, 3) := by decide +kernel
theorem dX2_moversOf_27 : decode cX2_moversOf 27 = .ok (.goto (-23), 3) := by decide +kernel
theorem dX2_moversOf_30 : decode cX2_moversOf 30 = .ok (.iload_n 2, 1) := by decide +kernel
theorem dX2_moversOf_31 : decode cX2_moversOf 31 = .ok (.ireturn, 1) := by decide +kernel
theorem dX2_countOf_0 : decode cX2_countOf 0 = .ok (.iconst 0, 1) := by decide +kernel
theorem dX2_countOf_1 : decode cX2_countOf 1 = .ok (.istore_n 2, 1) := by decide +kernel
theorem dX2_countOf_2 : decode cX2_countOf 2 = .ok (.iconst 0, 1) := by decide +kernel
theorem dX2_countOf_3 : decode cX2_countOf 3 = .ok (.istore_n 3, 1) := by decide +kernel
theorem dX2_countOf_4 : decode cX2_countOf 4 = .ok (.iload_n 3, 1) := by decide +kernel
theorem dX2_countOf_5 : decode cX2_countOf 5 = .ok (.aload_n 0, 1) := by decide +kernel
theorem dX2_countOf_6 : decode cX2_countOf 6 = .ok (.getfield 9, 3) := by decide +kernel
theorem dX2_countOf_9 : decode cX2_countOf 9 = .ok (.if_icmp .ge 24, 3) := by decide +kernel
theorem dX2_countOf_12 : decode cX2_countOf 12 = .ok (.aload_n 0, 1) := by decide +kernel
theorem dX2_countOf_13 : decode cX2_countOf 13 = .ok (.iload_n 3, 1) := by decide +kernel
theorem dX2_countOf_14 : decode cX2_countOf 14 = .ok (.invokevirtual 51, 3) := by decide +kernel
theorem dX2_countOf_17 : decode cX2_countOf 17 = .ok (.iload_n 1, 1) := by decide +kernel
theorem dX2_countOf_18 : decode cX2_countOf 18 = .ok (.invokestatic 58, 3) := by decide +kernel
theorem dX2_countOf_21 : decode cX2_countOf 21 = .ok (.ifCond .eq 6, 3) := by decide +kernel
theorem dX2_countOf_24 : decode cX2_countOf 24 = .ok (.iinc 2 1, 3) := by decide +kernel
theorem dX2_countOf_27 : decode cX2_countOf 27 = .ok (.iinc 3 1, 3) := by decide +kernel
theorem dX2_countOf_30 : decode cX2_countOf 30 = .ok (.goto (-26), 3) := by decide +kernel
theorem dX2_countOf_33 : decode cX2_countOf 33 = .ok (.iload_n 2, 1) := by decide +kernel
theorem dX2_countOf_34 : decode cX2_countOf 34 = .ok (.ireturn, 1) := by decide +kernel
theorem dX2_needed_0 : decode cX2_needed 0 = .ok (.aload_n 0, 1) := by decide +kernel
theorem dX2_needed_1 : decode cX2_needed 1 = .ok (.iload_n 1, 1) := by decide +kernel
theorem dX2_needed_2 : decode cX2_needed 2 = .ok (.invokevirtual 62, 3) := by decide +kernel
theorem dX2_needed_5 : decode cX2_needed 5 = .ok (.ifCond .eq 17, 3) := by decide +kernel
theorem dX2_needed_8 : decode cX2_needed 8 = .ok (.aload_n 0, 1) := by decide +kernel
theorem dX2_needed_9 : decode cX2_needed 9 = .ok (.getfield 35, 3) := by decide +kernel
theorem dX2_needed_12 : decode cX2_needed 12 = .ok (.iload_n 1, 1) := by decide +kernel
theorem dX2_needed_13 : decode cX2_needed 13 = .ok (.iaload, 1) := by decide +kernel
theorem dX2_needed_14 : decode cX2_needed 14 = .ok (.aload_n 0, 1) := by decide +kernel
theorem dX2_needed_15 : decode cX2_needed 15 = .ok (.invokevirtual 65, 3) := by decide +kernel
theorem dX2_needed_18 : decode cX2_needed 18 = .ok (.iand, 1) := by decide +kernel
theorem dX2_needed_19 : decode cX2_needed 19 = .ok (.goto 4, 3) := by decide +kernel
theorem dX2_needed_22 : decode cX2_needed 22 = .ok (.iconst 0, 1) := by decide +kernel
theorem dX2_needed_23 : decode cX2_needed 23 = .ok (.ireturn, 1) := by decide +kernel
theorem dX2_forbidden_0 : decode cX2_forbidden 0 = .ok (.aload_n 0, 1) := by decide +kernel
theorem dX2_forbidden_1 : decode cX2_forbidden 1 = .ok (.iload_n 1, 1) := by decide +kernel
theorem dX2_forbidden_2 : decode cX2_forbidden 2 = .ok (.invokevirtual 62, 3) := by decide +kernel
theorem dX2_forbidden_5 : decode cX2_forbidden 5 = .ok (.ifCond .eq 17, 3) := by decide +kernel
theorem dX2_forbidden_8 : decode cX2_forbidden 8 = .ok (.aload_n 0, 1) := by decide +kernel
theorem dX2_forbidden_9 : decode cX2_forbidden 9 = .ok (.getfield 38, 3) := by decide +kernel
theorem dX2_forbidden_12 : decode cX2_forbidden 12 = .ok (.iload_n 1, 1) := by decide +kernel
theorem dX2_forbidden_13 : decode cX2_forbidden 13 = .ok (.iaload, 1) := by decide +kernel
theorem dX2_forbidden_14 : decode cX2_forbidden 14 = .ok (.aload_n 0, 1) := by decide +kernel
theorem dX2_forbidden_15 : decode cX2_forbidden 15 = .ok (.invokevirtual 65, 3) := by decide +kernel
theorem dX2_forbidden_18 : decode cX2_forbidden 18 = .ok (.iand, 1) := by decide +kernel
theorem dX2_forbidden_19 : decode cX2_forbidden 19 = .ok (.goto 4, 3) := by decide +kernel
theorem dX2_forbidden_22 : decode cX2_forbidden 22 = .ok (.iconst 0, 1) := by decide +kernel
theorem dX2_forbidden_23 : decode cX2_forbidden 23 = .ok (.ireturn, 1) := by decide +kernel
theorem dX2_lawfulActs_0 : decode cX2_lawfulActs 0 = .ok (.lload_n 1, 1) := by decide +kernel
theorem dX2_lawfulActs_1 : decode cX2_lawfulActs 1 = .ok (.invokestatic 69, 3) := by decide +kernel
theorem dX2_lawfulActs_4 : decode cX2_lawfulActs 4 = .ok (.istore_n 3, 1) := by decide +kernel
theorem dX2_lawfulActs_5 : decode cX2_lawfulActs 5 = .ok (.iconst 0, 1) := by decide +kernel
theorem dX2_lawfulActs_6 : decode cX2_lawfulActs 6 = .ok (.istore 4, 2) := by decide +kernel
theorem dX2_lawfulActs_8 : decode cX2_lawfulActs 8 = .ok (.iconst 0, 1) := by decide +kernel
theorem dX2_lawfulActs_9 : decode cX2_lawfulActs 9 = .ok (.istore 5, 2) := by decide +kernel
theorem dX2_lawfulActs_11 : decode cX2_lawfulActs 11 = .ok (.iload 5, 2) := by decide +kernel
theorem dX2_lawfulActs_13 : decode cX2_lawfulActs 13 = .ok (.aload_n 0, 1) := by decide +kernel
theorem dX2_lawfulActs_14 : decode cX2_lawfulActs 14 = .ok (.getfield 15, 3) := by decide +kernel
theorem dX2_lawfulActs_17 : decode cX2_lawfulActs 17 = .ok (.if_icmp .ge 42, 3) := by decide +kernel
theorem dX2_lawfulActs_20 : decode cX2_lawfulActs 20 = .ok (.aload_n 0, 1) := by decide +kernel
theorem dX2_lawfulActs_21 : decode cX2_lawfulActs 21 = .ok (.iload 5, 2) := by decide +kernel
theorem dX2_lawfulActs_23 : decode cX2_lawfulActs 23 = .ok (.invokevirtual 73, 3) := by decide +kernel
theorem dX2_lawfulActs_26 : decode cX2_lawfulActs 26 = .ok (.iload_n 3, 1) := by decide +kernel
theorem dX2_lawfulActs_27 : decode cX2_lawfulActs 27 = .ok (.iconst (-1), 1) := by decide +kernel
theorem dX2_lawfulActs_28 : decode cX2_lawfulActs 28 = .ok (.ixor, 1) := by decide +kernel
theorem dX2_lawfulActs_29 : decode cX2_lawfulActs 29 = .ok (.iand, 1) := by decide +kernel
theorem dX2_lawfulActs_30 : decode cX2_lawfulActs 30 = .ok (.ifCond .ne 23, 3) := by decide +kernel
theorem dX2_lawfulActs_33 : decode cX2_lawfulActs 33 = .ok (.aload_n 0, 1) := by decide +kernel
theorem dX2_lawfulActs_34 : decode cX2_lawfulActs 34 = .ok (.iload 5, 2) := by decide +kernel
theorem dX2_lawfulActs_36 : decode cX2_lawfulActs 36 = .ok (.invokevirtual 76, 3) := by decide +kernel
theorem dX2_lawfulActs_39 : decode cX2_lawfulActs 39 = .ok (.iload_n 3, 1) := by decide +kernel
theorem dX2_lawfulActs_40 : decode cX2_lawfulActs 40 = .ok (.iand, 1) := by decide +kernel
theorem dX2_lawfulActs_41 : decode cX2_lawfulActs 41 = .ok (.ifCond .ne 12, 3) := by decide +kernel
theorem dX2_lawfulActs_44 : decode cX2_lawfulActs 44 = .ok (.iload 4, 2) := by decide +kernel
theorem dX2_lawfulActs_46 : decode cX2_lawfulActs 46 = .ok (.iconst 1, 1) := by decide +kernel
theorem dX2_lawfulActs_47 : decode cX2_lawfulActs 47 = .ok (.iload 5, 2) := by decide +kernel
theorem dX2_lawfulActs_49 : decode cX2_lawfulActs 49 = .ok (.ishl, 1) := by decide +kernel
theorem dX2_lawfulActs_50 : decode cX2_lawfulActs 50 = .ok (.ior, 1) := by decide +kernel
theorem dX2_lawfulActs_51 : decode cX2_lawfulActs 51 = .ok (.istore 4, 2) := by decide +kernel
theorem dX2_lawfulActs_53 : decode cX2_lawfulActs 53 = .ok (.iinc 5 1, 3) := by decide +kernel
theorem dX2_lawfulActs_56 : decode cX2_lawfulActs 56 = .ok (.goto (-45), 3) := by decide +kernel
theorem dX2_lawfulActs_59 : decode cX2_lawfulActs 59 = .ok (.iload 4, 2) := by decide +kernel
theorem dX2_lawfulActs_61 : decode cX2_lawfulActs 61 = .ok (.ireturn, 1) := by decide +kernel
theorem dX2_hauled_0 : decode cX2_hauled 0 = .ok (.lload_n 1, 1) := by decide +kernel
theorem dX2_hauled_1 : decode cX2_hauled 1 = .ok (.lstore 5, 2) := by decide +kernel
theorem dX2_hauled_3 : decode cX2_hauled 3 = .ok (.iload_n 3, 1) := by decide +kernel
theorem dX2_hauled_4 : decode cX2_hauled 4 = .ok (.istore 7, 2) := by decide +kernel
theorem dX2_hauled_6 : decode cX2_hauled 6 = .ok (.lload_n 1, 1) := by decide +kernel
theorem dX2_hauled_7 : decode cX2_hauled 7 = .ok (.invokestatic 79, 3) := by decide +kernel
theorem dX2_hauled_10 : decode cX2_hauled 10 = .ok (.ifCond .eq 19, 3) := by decide +kernel
theorem dX2_hauled_13 : decode cX2_hauled 13 = .ok (.aload_n 0, 1) := by decide +kernel
theorem dX2_hauled_14 : decode cX2_hauled 14 = .ok (.iload_n 3, 1) := by decide +kernel
theorem dX2_hauled_15 : decode cX2_hauled 15 = .ok (.invokevirtual 51, 3) := by decide +kernel
theorem dX2_hauled_18 : decode cX2_hauled 18 = .ok (.iconst 4, 1) := by decide +kernel
theorem dX2_hauled_19 : decode cX2_hauled 19 = .ok (.if_icmp .eq 10, 3) := by decide +kernel
theorem dX2_hauled_22 : decode cX2_hauled 22 = .ok (.iload 4, 2) := by decide +kernel
theorem dX2_hauled_24 : decode cX2_hauled 24 = .ok (.iconst 1, 1) := by decide +kernel
theorem dX2_hauled_25 : decode cX2_hauled 25 = .ok (.iadd, 1) := by decide +kernel
theorem dX2_hauled_26 : decode cX2_hauled 26 = .ok (.goto 5, 3) := by decide +kernel
theorem dX2_hauled_29 : decode cX2_hauled 29 = .ok (.iload 4, 2) := by decide +kernel
theorem dX2_hauled_31 : decode cX2_hauled 31 = .ok (.istore 8, 2) := by decide +kernel
theorem dX2_hauled_33 : decode cX2_hauled 33 = .ok (.aload_n 0, 1) := by decide +kernel
theorem dX2_hauled_34 : decode cX2_hauled 34 = .ok (.iconst 0, 1) := by decide +kernel
theorem dX2_hauled_35 : decode cX2_hauled 35 = .ok (.putfield 22, 3) := by decide +kernel
theorem dX2_hauled_38 : decode cX2_hauled 38 = .ok (.iconst 0, 1) := by decide +kernel
theorem dX2_hauled_39 : decode cX2_hauled 39 = .ok (.istore 9, 2) := by decide +kernel
theorem dX2_hauled_41 : decode cX2_hauled 41 = .ok (.iload 9, 2) := by decide +kernel
theorem dX2_hauled_43 : decode cX2_hauled 43 = .ok (.bipush 6, 2) := by decide +kernel
theorem dX2_hauled_45 : decode cX2_hauled 45 = .ok (.if_icmp .ge 103, 3) := by decide +kernel
theorem dX2_hauled_48 : decode cX2_hauled 48 = .ok (.iload 8, 2) := by decide +kernel
theorem dX2_hauled_50 : decode cX2_hauled 50 = .ok (.ifCond .le 98, 3) := by decide +kernel
theorem dX2_hauled_53 : decode cX2_hauled 53 = .ok (.aload_n 0, 1) := by decide +kernel
theorem dX2_hauled_54 : decode cX2_hauled 54 = .ok (.lload 5, 2) := by decide +kernel
theorem dX2_hauled_56 : decode cX2_hauled 56 = .ok (.iload 7, 2) := by decide +kernel
theorem dX2_hauled_58 : decode cX2_hauled 58 = .ok (.invokevirtual 82, 3) := by decide +kernel
theorem dX2_hauled_61 : decode cX2_hauled 61 = .ok (.ifCond .eq 87, 3) := by decide +kernel
theorem dX2_hauled_64 : decode cX2_hauled 64 = .ok (.aload_n 0, 1) := by decide +kernel
theorem dX2_hauled_65 : decode cX2_hauled 65 = .ok (.dup, 1) := by decide +kernel
theorem dX2_hauled_66 : decode cX2_hauled 66 = .ok (.getfield 22, 3) := by decide +kernel
theorem dX2_hauled_69 : decode cX2_hauled 69 = .ok (.iconst 1, 1) := by decide +kernel
theorem dX2_hauled_70 : decode cX2_hauled 70 = .ok (.iload 7, 2) := by decide +kernel
theorem dX2_hauled_72 : decode cX2_hauled 72 = .ok (.ishl, 1) := by decide +kernel
theorem dX2_hauled_73 : decode cX2_hauled 73 = .ok (.ior, 1) := by decide +kernel
theorem dX2_hauled_74 : decode cX2_hauled 74 = .ok (.putfield 22, 3) := by decide +kernel
theorem dX2_hauled_77 : decode cX2_hauled 77 = .ok (.lload 5, 2) := by decide +kernel
theorem dX2_hauled_79 : decode cX2_hauled 79 = .ok (.iload 7, 2) := by decide +kernel
theorem dX2_hauled_81 : decode cX2_hauled 81 = .ok (.invokestatic 86, 3) := by decide +kernel
theorem dX2_hauled_84 : decode cX2_hauled 84 = .ok (.iload 8, 2) := by decide +kernel
theorem dX2_hauled_86 : decode cX2_hauled 86 = .ok (.iadd, 1) := by decide +kernel
theorem dX2_hauled_87 : decode cX2_hauled 87 = .ok (.istore 10, 2) := by decide +kernel
theorem dX2_hauled_89 : decode cX2_hauled 89 = .ok (.iload 10, 2) := by decide +kernel
theorem dX2_hauled_91 : decode cX2_hauled 91 = .ok (.aload_n 0, 1) := by decide +kernel
theorem dX2_hauled_92 : decode cX2_hauled 92 = .ok (.iload 7, 2) := by decide +kernel
theorem dX2_hauled_94 : decode cX2_hauled 94 = .ok (.invokevirtual 90, 3) := by decide +kernel
theorem dX2_hauled_97 : decode cX2_hauled 97 = .ok (.if_icmp .le 13, 3) := by decide +kernel
theorem dX2_hauled_100 : decode cX2_hauled 100 = .ok (.lload 5, 2) := by decide +kernel
theorem dX2_hauled_102 : decode cX2_hauled 102 = .ok (.iconst 1, 1) := by decide +kernel
theorem dX2_hauled_103 : decode cX2_hauled 103 = .ok (.iload 7, 2) := by decide +kernel
theorem dX2_hauled_105 : decode cX2_hauled 105 = .ok (.ishl, 1) := by decide +kernel
theorem dX2_hauled_106 : decode cX2_hauled 106 = .ok (.invokestatic 93, 3) := by decide +kernel
theorem dX2_hauled_109 : decode cX2_hauled 109 = .ok (.lreturn, 1) := by decide +kernel
theorem dX2_hauled_110 : decode cX2_hauled 110 = .ok (.lload 5, 2) := by decide +kernel
theorem dX2_hauled_112 : decode cX2_hauled 112 = .ok (.iload 7, 2) := by decide +kernel
theorem dX2_hauled_114 : decode cX2_hauled 114 = .ok (.iload 10, 2) := by decide +kernel
theorem dX2_hauled_116 : decode cX2_hauled 116 = .ok (.invokestatic 41, 3) := by decide +kernel
theorem dX2_hauled_119 : decode cX2_hauled 119 = .ok (.lstore 5, 2) := by decide +kernel
theorem dX2_hauled_121 : decode cX2_hauled 121 = .ok (.aload_n 0, 1) := by decide +kernel
theorem dX2_hauled_122 : decode cX2_hauled 122 = .ok (.iload 7, 2) := by decide +kernel
theorem dX2_hauled_124 : decode cX2_hauled 124 = .ok (.invokevirtual 51, 3) := by decide +kernel
theorem dX2_hauled_127 : decode cX2_hauled 127 = .ok (.iload 8, 2) := by decide +kernel
theorem dX2_hauled_129 : decode cX2_hauled 129 = .ok (.invokestatic 97, 3) := by decide +kernel
theorem dX2_hauled_132 : decode cX2_hauled 132 = .ok (.istore 8, 2) := by decide +kernel
theorem dX2_hauled_134 : decode cX2_hauled 134 = .ok (.aload_n 0, 1) := by decide +kernel
theorem dX2_hauled_135 : decode cX2_hauled 135 = .ok (.iload 7, 2) := by decide +kernel
theorem dX2_hauled_137 : decode cX2_hauled 137 = .ok (.invokevirtual 55, 3) := by decide +kernel
theorem dX2_hauled_140 : decode cX2_hauled 140 = .ok (.istore 7, 2) := by decide +kernel
theorem dX2_hauled_142 : decode cX2_hauled 142 = .ok (.iinc 9 1, 3) := by decide +kernel
theorem dX2_hauled_145 : decode cX2_hauled 145 = .ok (.goto (-104), 3) := by decide +kernel
theorem dX2_hauled_148 : decode cX2_hauled 148 = .ok (.lload 5, 2) := by decide +kernel
theorem dX2_hauled_150 : decode cX2_hauled 150 = .ok (.lreturn, 1) := by decide +kernel
theorem dX2_canReach_0 : decode cX2_canReach 0 = .ok (.aload_n 0, 1) := by decide +kernel
theorem dX2_canReach_1 : decode cX2_canReach 1 = .ok (.iload_n 3, 1) := by decide +kernel
theorem dX2_canReach_2 : decode cX2_canReach 2 = .ok (.invokevirtual 47, 3) := by decide +kernel
theorem dX2_canReach_5 : decode cX2_canReach 5 = .ok (.ifCond .eq 26, 3) := by decide +kernel
theorem dX2_canReach_8 : decode cX2_canReach 8 = .ok (.lload_n 1, 1) := by decide +kernel
theorem dX2_canReach_9 : decode cX2_canReach 9 = .ok (.iload_n 3, 1) := by decide +kernel
theorem dX2_canReach_10 : decode cX2_canReach 10 = .ok (.invokestatic 101, 3) := by decide +kernel
theorem dX2_canReach_13 : decode cX2_canReach 13 = .ok (.ifCond .eq 18, 3) := by decide +kernel
theorem dX2_canReach_16 : decode cX2_canReach 16 = .ok (.aload_n 0, 1) := by decide +kernel
theorem dX2_canReach_17 : decode cX2_canReach 17 = .ok (.getfield 22, 3) := by decide +kernel
theorem dX2_canReach_20 : decode cX2_canReach 20 = .ok (.iload_n 3, 1) := by decide +kernel
theorem dX2_canReach_21 : decode cX2_canReach 21 = .ok (.ishr, 1) := by decide +kernel
theorem dX2_canReach_22 : decode cX2_canReach 22 = .ok (.iconst 1, 1) := by decide +kernel
theorem dX2_canReach_23 : decode cX2_canReach 23 = .ok (.iand, 1) := by decide +kernel
theorem dX2_canReach_24 : decode cX2_canReach 24 = .ok (.ifCond .ne 7, 3) := by decide +kernel
theorem dX2_canReach_27 : decode cX2_canReach 27 = .ok (.iconst 1, 1) := by decide +kernel
theorem dX2_canReach_28 : decode cX2_canReach 28 = .ok (.goto 4, 3) := by decide +kernel
theorem dX2_canReach_31 : decode cX2_canReach 31 = .ok (.iconst 0, 1) := by decide +kernel
theorem dX2_canReach_32 : decode cX2_canReach 32 = .ok (.ireturn, 1) := by decide +kernel
theorem dX2_byLot_0 : decode cX2_byLot 0 = .ok (.aload_n 0, 1) := by decide +kernel
theorem dX2_byLot_1 : decode cX2_byLot 1 = .ok (.getfield 9, 3) := by decide +kernel
theorem dX2_byLot_4 : decode cX2_byLot 4 = .ok (.ifCond .gt 5, 3) := by decide +kernel
theorem dX2_byLot_7 : decode cX2_byLot 7 = .ok (.lload_n 1, 1) := by decide +kernel
theorem dX2_byLot_8 : decode cX2_byLot 8 = .ok (.lreturn, 1) := by decide +kernel
theorem dX2_byLot_9 : decode cX2_byLot 9 = .ok (.iload_n 3, 1) := by decide +kernel
theorem dX2_byLot_10 : decode cX2_byLot 10 = .ok (.aload_n 0, 1) := by decide +kernel
theorem dX2_byLot_11 : decode cX2_byLot 11 = .ok (.getfield 9, 3) := by decide +kernel
theorem dX2_byLot_14 : decode cX2_byLot 14 = .ok (.irem, 1) := by decide +kernel
theorem dX2_byLot_15 : decode cX2_byLot 15 = .ok (.istore 4, 2) := by decide +kernel
theorem dX2_byLot_17 : decode cX2_byLot 17 = .ok (.iload_n 3, 1) := by decide +kernel
theorem dX2_byLot_18 : decode cX2_byLot 18 = .ok (.bipush 8, 2) := by decide +kernel
theorem dX2_byLot_20 : decode cX2_byLot 20 = .ok (.idiv, 1) := by decide +kernel
theorem dX2_byLot_21 : decode cX2_byLot 21 = .ok (.bipush 8, 2) := by decide +kernel
theorem dX2_byLot_23 : decode cX2_byLot 23 = .ok (.irem, 1) := by decide +kernel
theorem dX2_byLot_24 : decode cX2_byLot 24 = .ok (.istore 5, 2) := by decide +kernel
theorem dX2_byLot_26 : decode cX2_byLot 26 = .ok (.iload 5, 2) := by decide +kernel
theorem dX2_byLot_28 : decode cX2_byLot 28 = .ok (.tableswitch 95 5 7 #[28, 64, 84], 28) := by decide +kernel
theorem dX2_byLot_56 : decode cX2_byLot 56 = .ok (.lload_n 1, 1) := by decide +kernel
theorem dX2_byLot_57 : decode cX2_byLot 57 = .ok (.iload 4, 2) := by decide +kernel
theorem dX2_byLot_59 : decode cX2_byLot 59 = .ok (.invokestatic 104, 3) := by decide +kernel
theorem dX2_byLot_62 : decode cX2_byLot 62 = .ok (.ifCond .eq 5, 3) := by decide +kernel
theorem dX2_byLot_65 : decode cX2_byLot 65 = .ok (.lload_n 1, 1) := by decide +kernel
theorem dX2_byLot_66 : decode cX2_byLot 66 = .ok (.lreturn, 1) := by decide +kernel
theorem dX2_byLot_67 : decode cX2_byLot 67 = .ok (.lload_n 1, 1) := by decide +kernel
theorem dX2_byLot_68 : decode cX2_byLot 68 = .ok (.iload 4, 2) := by decide +kernel
theorem dX2_byLot_70 : decode cX2_byLot 70 = .ok (.invokestatic 107, 3) := by decide +kernel
theorem dX2_byLot_73 : decode cX2_byLot 73 = .ok (.ifCond .eq 12, 3) := by decide +kernel
theorem dX2_byLot_76 : decode cX2_byLot 76 = .ok (.lload_n 1, 1) := by decide +kernel
theorem dX2_byLot_77 : decode cX2_byLot 77 = .ok (.iload 4, 2) := by decide +kernel
theorem dX2_byLot_79 : decode cX2_byLot 79 = .ok (.invokestatic 110, 3) := by decide +kernel
theorem dX2_byLot_82 : decode cX2_byLot 82 = .ok (.goto 9, 3) := by decide +kernel
theorem dX2_byLot_85 : decode cX2_byLot 85 = .ok (.lload_n 1, 1) := by decide +kernel
theorem dX2_byLot_86 : decode cX2_byLot 86 = .ok (.iload 4, 2) := by decide +kernel
theorem dX2_byLot_88 : decode cX2_byLot 88 = .ok (.invokestatic 113, 3) := by decide +kernel
theorem dX2_byLot_91 : decode cX2_byLot 91 = .ok (.lreturn, 1) := by decide +kernel
theorem dX2_byLot_92 : decode cX2_byLot 92 = .ok (.lload_n 1, 1) := by decide +kernel
theorem dX2_byLot_93 : decode cX2_byLot 93 = .ok (.iload 4, 2) := by decide +kernel
theorem dX2_byLot_95 : decode cX2_byLot 95 = .ok (.invokestatic 104, 3) := by decide +kernel
theorem dX2_byLot_98 : decode cX2_byLot 98 = .ok (.ifCond .eq 12, 3) := by decide +kernel
theorem dX2_byLot_101 : decode cX2_byLot 101 = .ok (.lload_n 1, 1) := by decide +kernel
theorem dX2_byLot_102 : decode cX2_byLot 102 = .ok (.iload 4, 2) := by decide +kernel
theorem dX2_byLot_104 : decode cX2_byLot 104 = .ok (.invokestatic 116, 3) := by decide +kernel
theorem dX2_byLot_107 : decode cX2_byLot 107 = .ok (.goto 4, 3) := by decide +kernel
theorem dX2_byLot_110 : decode cX2_byLot 110 = .ok (.lload_n 1, 1) := by decide +kernel
theorem dX2_byLot_111 : decode cX2_byLot 111 = .ok (.lreturn, 1) := by decide +kernel
theorem dX2_byLot_112 : decode cX2_byLot 112 = .ok (.lload_n 1, 1) := by decide +kernel
theorem dX2_byLot_113 : decode cX2_byLot 113 = .ok (.iconst 1, 1) := by decide +kernel
theorem dX2_byLot_114 : decode cX2_byLot 114 = .ok (.lload_n 1, 1) := by decide +kernel
theorem dX2_byLot_115 : decode cX2_byLot 115 = .ok (.invokestatic 79, 3) := by decide +kernel
theorem dX2_byLot_118 : decode cX2_byLot 118 = .ok (.isub, 1) := by decide +kernel
theorem dX2_byLot_119 : decode cX2_byLot 119 = .ok (.invokestatic 119, 3) := by decide +kernel
theorem dX2_byLot_122 : decode cX2_byLot 122 = .ok (.lreturn, 1) := by decide +kernel
theorem dX2_byLot_123 : decode cX2_byLot 123 = .ok (.lload_n 1, 1) := by decide +kernel
theorem dX2_byLot_124 : decode cX2_byLot 124 = .ok (.iload 4, 2) := by decide +kernel
theorem dX2_byLot_126 : decode cX2_byLot 126 = .ok (.invokestatic 101, 3) := by decide +kernel
theorem dX2_byLot_129 : decode cX2_byLot 129 = .ok (.ifCond .eq 21, 3) := by decide +kernel
theorem dX2_byLot_132 : decode cX2_byLot 132 = .ok (.aload_n 0, 1) := by decide +kernel
theorem dX2_byLot_133 : decode cX2_byLot 133 = .ok (.lload_n 1, 1) := by decide +kernel
theorem dX2_byLot_134 : decode cX2_byLot 134 = .ok (.iload 4, 2) := by decide +kernel
theorem dX2_byLot_136 : decode cX2_byLot 136 = .ok (.iconst 1, 1) := by decide +kernel
theorem dX2_byLot_137 : decode cX2_byLot 137 = .ok (.iload_n 3, 1) := by decide +kernel
theorem dX2_byLot_138 : decode cX2_byLot 138 = .ok (.bipush 64, 2) := by decide +kernel
theorem dX2_byLot_140 : decode cX2_byLot 140 = .ok (.idiv, 1) := by decide +kernel
theorem dX2_byLot_141 : decode cX2_byLot 141 = .ok (.iconst 4, 1) := by decide +kernel
theorem dX2_byLot_142 : decode cX2_byLot 142 = .ok (.irem, 1) := by decide +kernel
theorem dX2_byLot_143 : decode cX2_byLot 143 = .ok (.iadd, 1) := by decide +kernel
theorem dX2_byLot_144 : decode cX2_byLot 144 = .ok (.invokevirtual 122, 3) := by decide +kernel
theorem dX2_byLot_147 : decode cX2_byLot 147 = .ok (.goto 4, 3) := by decide +kernel
theorem dX2_byLot_150 : decode cX2_byLot 150 = .ok (.lload_n 1, 1) := by decide +kernel
theorem dX2_byLot_151 : decode cX2_byLot 151 = .ok (.lreturn, 1) := by decide +kernel
theorem dX3_fewest_0 : decode cX3_fewest 0 = .ok (.iconst 0, 1) := by decide +kernel
theorem dX3_fewest_1 : decode cX3_fewest 1 = .ok (.istore 5, 2) := by decide +kernel
theorem dX3_fewest_3 : decode cX3_fewest 3 = .ok (.iload 5, 2) := by decide +kernel
theorem dX3_fewest_5 : decode cX3_fewest 5 = .ok (.iconst 4, 1) := by decide +kernel
theorem dX3_fewest_6 : decode cX3_fewest 6 = .ok (.if_icmp .gt 27, 3) := by decide +kernel
theorem dX3_fewest_9 : decode cX3_fewest 9 = .ok (.aload_n 0, 1) := by decide +kernel
theorem dX3_fewest_10 : decode cX3_fewest 10 = .ok (.iload_n 1, 1) := by decide +kernel
theorem dX3_fewest_11 : decode cX3_fewest 11 = .ok (.lload_n 2, 1) := by decide +kernel
theorem dX3_fewest_12 : decode cX3_fewest 12 = .ok (.aload 4, 2) := by decide +kernel
theorem dX3_fewest_14 : decode cX3_fewest 14 = .ok (.iload 5, 2) := by decide +kernel
theorem dX3_fewest_16 : decode cX3_fewest 16 = .ok (.iload 5, 2) := by decide +kernel
theorem dX3_fewest_18 : decode cX3_fewest 18 = .ok (.invokestatic 9, 3) := by decide +kernel
theorem dX3_fewest_21 : decode cX3_fewest 21 = .ok (.ifCond .eq 6, 3) := by decide +kernel
theorem dX3_fewest_24 : decode cX3_fewest 24 = .ok (.iload 5, 2) := by decide +kernel
theorem dX3_fewest_26 : decode cX3_fewest 26 = .ok (.ireturn, 1) := by decide +kernel
theorem dX3_fewest_27 : decode cX3_fewest 27 = .ok (.iinc 5 1, 3) := by decide +kernel
theorem dX3_fewest_30 : decode cX3_fewest 30 = .ok (.goto (-27), 3) := by decide +kernel
theorem dX3_fewest_33 : decode cX3_fewest 33 = .ok (.bipush (-9), 2) := by decide +kernel
theorem dX3_fewest_35 : decode cX3_fewest 35 = .ok (.ireturn, 1) := by decide +kernel
theorem dX3_isReached_0 : decode cX3_isReached 0 = .ok (.iload 6, 2) := by decide +kernel
theorem dX3_isReached_2 : decode cX3_isReached 2 = .ok (.ifCond .lt 21, 3) := by decide +kernel
theorem dX3_isReached_5 : decode cX3_isReached 5 = .ok (.iload 6, 2) := by decide +kernel
theorem dX3_isReached_7 : decode cX3_isReached 7 = .ok (.iload 5, 2) := by decide +kernel
theorem dX3_isReached_9 : decode cX3_isReached 9 = .ok (.if_icmp .gt 14, 3) := by decide +kernel
theorem dX3_isReached_12 : decode cX3_isReached 12 = .ok (.aload_n 0, 1) := by decide +kernel
theorem dX3_isReached_13 : decode cX3_isReached 13 = .ok (.iload_n 1, 1) := by decide +kernel
theorem dX3_isReached_14 : decode cX3_isReached 14 = .ok (.lload_n 2, 1) := by decide +kernel
theorem dX3_isReached_15 : decode cX3_isReached 15 = .ok (.iload 6, 2) := by decide +kernel
theorem dX3_isReached_17 : decode cX3_isReached 17 = .ok (.invokestatic 15, 3) := by decide +kernel
theorem dX3_isReached_20 : decode cX3_isReached 20 = .ok (.ifCond .eq 5, 3) := by decide +kernel
theorem dX3_isReached_23 : decode cX3_isReached 23 = .ok (.iconst 0, 1) := by decide +kernel
theorem dX3_isReached_24 : decode cX3_isReached 24 = .ok (.ireturn, 1) := by decide +kernel
theorem dX3_isReached_25 : decode cX3_isReached 25 = .ok (.iload 6, 2) := by decide +kernel
theorem dX3_isReached_27 : decode cX3_isReached 27 = .ok (.ifCond .ne 5, 3) := by decide +kernel
theorem dX3_isReached_30 : decode cX3_isReached 30 = .ok (.iconst 1, 1) := by decide +kernel
theorem dX3_isReached_31 : decode cX3_isReached 31 = .ok (.ireturn, 1) := by decide +kernel
theorem dX3_isReached_32 : decode cX3_isReached 32 = .ok (.iload 5, 2) := by decide +kernel
theorem dX3_isReached_34 : decode cX3_isReached 34 = .ok (.iload 6, 2) := by decide +kernel
theorem dX3_isReached_36 : decode cX3_isReached 36 = .ok (.isub, 1) := by decide +kernel
theorem dX3_isReached_37 : decode cX3_isReached 37 = .ok (.istore 7, 2) := by decide +kernel
theorem dX3_isReached_39 : decode cX3_isReached 39 = .ok (.iload 7, 2) := by decide +kernel
theorem dX3_isReached_41 : decode cX3_isReached 41 = .ok (.aload 4, 2) := by decide +kernel
theorem dX3_isReached_43 : decode cX3_isReached 43 = .ok (.arraylength, 1) := by decide +kernel
theorem dX3_isReached_44 : decode cX3_isReached 44 = .ok (.if_icmp .lt 5, 3) := by decide +kernel
theorem dX3_isReached_47 : decode cX3_isReached 47 = .ok (.iconst 0, 1) := by decide +kernel
theorem dX3_isReached_48 : decode cX3_isReached 48 = .ok (.ireturn, 1) := by decide +kernel
theorem dX3_isReached_49 : decode cX3_isReached 49 = .ok (.iconst 0, 1) := by decide +kernel
theorem dX3_isReached_50 : decode cX3_isReached 50 = .ok (.istore 8, 2) := by decide +kernel
theorem dX3_isReached_52 : decode cX3_isReached 52 = .ok (.iload 8, 2) := by decide +kernel
theorem dX3_isReached_54 : decode cX3_isReached 54 = .ok (.bipush 12, 2) := by decide +kernel
theorem dX3_isReached_56 : decode cX3_isReached 56 = .ok (.if_icmp .ge 99, 3) := by decide +kernel
theorem dX3_isReached_59 : decode cX3_isReached 59 = .ok (.iload 8, 2) := by decide +kernel
theorem dX3_isReached_61 : decode cX3_isReached 61 = .ok (.bipush 6, 2) := by decide +kernel
theorem dX3_isReached_63 : decode cX3_isReached 63 = .ok (.irem, 1) := by decide +kernel
theorem dX3_isReached_64 : decode cX3_isReached 64 = .ok (.istore 9, 2) := by decide +kernel
theorem dX3_isReached_66 : decode cX3_isReached 66 = .ok (.aload_n 0, 1) := by decide +kernel
theorem dX3_isReached_67 : decode cX3_isReached 67 = .ok (.iload 9, 2) := by decide +kernel
theorem dX3_isReached_69 : decode cX3_isReached 69 = .ok (.invokevirtual 19, 3) := by decide +kernel
theorem dX3_isReached_72 : decode cX3_isReached 72 = .ok (.ifCond .eq 77, 3) := by decide +kernel
theorem dX3_isReached_75 : decode cX3_isReached 75 = .ok (.lload_n 2, 1) := by decide +kernel
theorem dX3_isReached_76 : decode cX3_isReached 76 = .ok (.iload 9, 2) := by decide +kernel
theorem dX3_isReached_78 : decode cX3_isReached 78 = .ok (.invokestatic 25, 3) := by decide +kernel
theorem dX3_isReached_81 : decode cX3_isReached 81 = .ok (.ifCond .eq 68, 3) := by decide +kernel
theorem dX3_isReached_84 : decode cX3_isReached 84 = .ok (.iload 8, 2) := by decide +kernel
theorem dX3_isReached_86 : decode cX3_isReached 86 = .ok (.bipush 6, 2) := by decide +kernel
theorem dX3_isReached_88 : decode cX3_isReached 88 = .ok (.if_icmp .ge 14, 3) := by decide +kernel
theorem dX3_isReached_91 : decode cX3_isReached 91 = .ok (.aload_n 0, 1) := by decide +kernel
theorem dX3_isReached_92 : decode cX3_isReached 92 = .ok (.lload_n 2, 1) := by decide +kernel
theorem dX3_isReached_93 : decode cX3_isReached 93 = .ok (.iload 9, 2) := by decide +kernel
theorem dX3_isReached_95 : decode cX3_isReached 95 = .ok (.iconst 1, 1) := by decide +kernel
theorem dX3_isReached_96 : decode cX3_isReached 96 = .ok (.invokevirtual 31, 3) := by decide +kernel
theorem dX3_isReached_99 : decode cX3_isReached 99 = .ok (.goto 9, 3) := by decide +kernel
theorem dX3_isReached_102 : decode cX3_isReached 102 = .ok (.lload_n 2, 1) := by decide +kernel
theorem dX3_isReached_103 : decode cX3_isReached 103 = .ok (.iload 9, 2) := by decide +kernel
theorem dX3_isReached_105 : decode cX3_isReached 105 = .ok (.invokestatic 35, 3) := by decide +kernel
theorem dX3_isReached_108 : decode cX3_isReached 108 = .ok (.lstore 10, 2) := by decide +kernel
theorem dX3_isReached_110 : decode cX3_isReached 110 = .ok (.aload 4, 2) := by decide +kernel
theorem dX3_isReached_112 : decode cX3_isReached 112 = .ok (.iload 7, 2) := by decide +kernel
theorem dX3_isReached_114 : decode cX3_isReached 114 = .ok (.iload 8, 2) := by decide +kernel
theorem dX3_isReached_116 : decode cX3_isReached 116 = .ok (.iastore, 1) := by decide +kernel
theorem dX3_isReached_117 : decode cX3_isReached 117 = .ok (.lload 10, 2) := by decide +kernel
theorem dX3_isReached_119 : decode cX3_isReached 119 = .ok (.invokestatic 39, 3) := by decide +kernel
theorem dX3_isReached_122 : decode cX3_isReached 122 = .ok (.lload_n 2, 1) := by decide +kernel
theorem dX3_isReached_123 : decode cX3_isReached 123 = .ok (.invokestatic 39, 3) := by decide +kernel
theorem dX3_isReached_126 : decode cX3_isReached 126 = .ok (.if_icmp .ne 23, 3) := by decide +kernel
theorem dX3_isReached_129 : decode cX3_isReached 129 = .ok (.aload_n 0, 1) := by decide +kernel
theorem dX3_isReached_130 : decode cX3_isReached 130 = .ok (.iload_n 1, 1) := by decide +kernel
theorem dX3_isReached_131 : decode cX3_isReached 131 = .ok (.lload 10, 2) := by decide +kernel
theorem dX3_isReached_133 : decode cX3_isReached 133 = .ok (.aload 4, 2) := by decide +kernel
theorem dX3_isReached_135 : decode cX3_isReached 135 = .ok (.iload 5, 2) := by decide +kernel
theorem dX3_isReached_137 : decode cX3_isReached 137 = .ok (.iload 6, 2) := by decide +kernel
theorem dX3_isReached_139 : decode cX3_isReached 139 = .ok (.iconst 1, 1) := by decide +kernel
theorem dX3_isReached_140 : decode cX3_isReached 140 = .ok (.isub, 1) := by decide +kernel
theorem dX3_isReached_141 : decode cX3_isReached 141 = .ok (.invokestatic 9, 3) := by decide +kernel
theorem dX3_isReached_144 : decode cX3_isReached 144 = .ok (.ifCond .eq 5, 3) := by decide +kernel
theorem dX3_isReached_147 : decode cX3_isReached 147 = .ok (.iconst 1, 1) := by decide +kernel
theorem dX3_isReached_148 : decode cX3_isReached 148 = .ok (.ireturn, 1) := by decide +kernel
theorem dX3_isReached_149 : decode cX3_isReached 149 = .ok (.iinc 8 1, 3) := by decide +kernel
theorem dX3_isReached_152 : decode cX3_isReached 152 = .ok (.goto (-100), 3) := by decide +kernel
theorem dX3_isReached_155 : decode cX3_isReached 155 = .ok (.iconst 0, 1) := by decide +kernel
theorem dX3_isReached_156 : decode cX3_isReached 156 = .ok (.ireturn, 1) := by decide +kernel
theorem dX3_isTooFar_0 : decode cX3_isTooFar 0 = .ok (.lload_n 2, 1) := by decide +kernel
theorem dX3_isTooFar_1 : decode cX3_isTooFar 1 = .ok (.invokestatic 43, 3) := by decide +kernel
theorem dX3_isTooFar_4 : decode cX3_isTooFar 4 = .ok (.istore 5, 2) := by decide +kernel
theorem dX3_isTooFar_6 : decode cX3_isTooFar 6 = .ok (.lload_n 2, 1) := by decide +kernel
theorem dX3_isTooFar_7 : decode cX3_isTooFar 7 = .ok (.invokestatic 46, 3) := by decide +kernel
theorem dX3_isTooFar_10 : decode cX3_isTooFar 10 = .ok (.lload_n 2, 1) := by decide +kernel
theorem dX3_isTooFar_11 : decode cX3_isTooFar 11 = .ok (.invokestatic 39, 3) := by decide +kernel
theorem dX3_isTooFar_14 : decode cX3_isTooFar 14 = .ok (.ior, 1) := by decide +kernel
theorem dX3_isTooFar_15 : decode cX3_isTooFar 15 = .ok (.istore 6, 2) := by decide +kernel
theorem dX3_isTooFar_17 : decode cX3_isTooFar 17 = .ok (.aload_n 0, 1) := by decide +kernel
theorem dX3_isTooFar_18 : decode cX3_isTooFar 18 = .ok (.iload_n 1, 1) := by decide +kernel
theorem dX3_isTooFar_19 : decode cX3_isTooFar 19 = .ok (.invokevirtual 49, 3) := by decide +kernel
theorem dX3_isTooFar_22 : decode cX3_isTooFar 22 = .ok (.iload 5, 2) := by decide +kernel
theorem dX3_isTooFar_24 : decode cX3_isTooFar 24 = .ok (.iconst (-1), 1) := by decide +kernel
theorem dX3_isTooFar_25 : decode cX3_isTooFar 25 = .ok (.ixor, 1) := by decide +kernel
theorem dX3_isTooFar_26 : decode cX3_isTooFar 26 = .ok (.iand, 1) := by decide +kernel
theorem dX3_isTooFar_27 : decode cX3_isTooFar 27 = .ok (.istore 7, 2) := by decide +kernel
theorem dX3_isTooFar_29 : decode cX3_isTooFar 29 = .ok (.aload_n 0, 1) := by decide +kernel
theorem dX3_isTooFar_30 : decode cX3_isTooFar 30 = .ok (.iload_n 1, 1) := by decide +kernel
theorem dX3_isTooFar_31 : decode cX3_isTooFar 31 = .ok (.invokevirtual 53, 3) := by decide +kernel
theorem dX3_isTooFar_34 : decode cX3_isTooFar 34 = .ok (.iload 5, 2) := by decide +kernel
theorem dX3_isTooFar_36 : decode cX3_isTooFar 36 = .ok (.iand, 1) := by decide +kernel
theorem dX3_isTooFar_37 : decode cX3_isTooFar 37 = .ok (.invokestatic 56, 3) := by decide +kernel
theorem dX3_isTooFar_40 : decode cX3_isTooFar 40 = .ok (.istore 8, 2) := by decide +kernel
theorem dX3_isTooFar_42 : decode cX3_isTooFar 42 = .ok (.iload 7, 2) := by decide +kernel
theorem dX3_isTooFar_44 : decode cX3_isTooFar 44 = .ok (.iload 6, 2) := by decide +kernel
theorem dX3_isTooFar_46 : decode cX3_isTooFar 46 = .ok (.iand, 1) := by decide +kernel
theorem dX3_isTooFar_47 : decode cX3_isTooFar 47 = .ok (.ifCond .ne 21, 3) := by decide +kernel
theorem dX3_isTooFar_50 : decode cX3_isTooFar 50 = .ok (.iload 8, 2) := by decide +kernel
theorem dX3_isTooFar_52 : decode cX3_isTooFar 52 = .ok (.iload 7, 2) := by decide +kernel
theorem dX3_isTooFar_54 : decode cX3_isTooFar 54 = .ok (.ifCond .eq 7, 3) := by decide +kernel
theorem dX3_isTooFar_57 : decode cX3_isTooFar 57 = .ok (.iconst 1, 1) := by decide +kernel
theorem dX3_isTooFar_58 : decode cX3_isTooFar 58 = .ok (.goto 4, 3) := by decide +kernel
theorem dX3_isTooFar_61 : decode cX3_isTooFar 61 = .ok (.iconst 0, 1) := by decide +kernel
theorem dX3_isTooFar_62 : decode cX3_isTooFar 62 = .ok (.iadd, 1) := by decide +kernel
theorem dX3_isTooFar_63 : decode cX3_isTooFar 63 = .ok (.iload 4, 2) := by decide +kernel
theorem dX3_isTooFar_65 : decode cX3_isTooFar 65 = .ok (.if_icmp .le 7, 3) := by decide +kernel
theorem dX3_isTooFar_68 : decode cX3_isTooFar 68 = .ok (.iconst 1, 1) := by decide +kernel
theorem dX3_isTooFar_69 : decode cX3_isTooFar 69 = .ok (.goto 4, 3) := by decide +kernel
theorem dX3_isTooFar_72 : decode cX3_isTooFar 72 = .ok (.iconst 0, 1) := by decide +kernel
theorem dX3_isTooFar_73 : decode cX3_isTooFar 73 = .ok (.ireturn, 1) := by decide +kernel
theorem dX3_outcome_0 : decode cX3_outcome 0 = .ok (.aload_n 0, 1) := by decide +kernel
theorem dX3_outcome_1 : decode cX3_outcome 1 = .ok (.lload_n 1, 1) := by decide +kernel
theorem dX3_outcome_2 : decode cX3_outcome 2 = .ok (.iload_n 3, 1) := by decide +kernel
theorem dX3_outcome_3 : decode cX3_outcome 3 = .ok (.bipush 6, 2) := by decide +kernel
theorem dX3_outcome_5 : decode cX3_outcome 5 = .ok (.invokestatic 61, 3) := by decide +kernel
theorem dX3_outcome_8 : decode cX3_outcome 8 = .ok (.invokestatic 67, 3) := by decide +kernel
theorem dX3_outcome_11 : decode cX3_outcome 11 = .ok (.ireturn, 1) := by decide +kernel
theorem dX3_played_0 : decode cX3_played 0 = .ok (.iload_n 3, 1) := by decide +kernel
theorem dX3_played_1 : decode cX3_played 1 = .ok (.ifCond .gt 27, 3) := by decide +kernel
theorem dX3_played_4 : decode cX3_played 4 = .ok (.lload_n 1, 1) := by decide +kernel
theorem dX3_played_5 : decode cX3_played 5 = .ok (.invokestatic 39, 3) := by decide +kernel
theorem dX3_played_8 : decode cX3_played 8 = .ok (.istore 4, 2) := by decide +kernel
theorem dX3_played_10 : decode cX3_played 10 = .ok (.iload 4, 2) := by decide +kernel
theorem dX3_played_12 : decode cX3_played 12 = .ok (.bipush 42, 2) := by decide +kernel
theorem dX3_played_14 : decode cX3_played 14 = .ok (.iand, 1) := by decide +kernel
theorem dX3_played_15 : decode cX3_played 15 = .ok (.invokestatic 56, 3) := by decide +kernel
theorem dX3_played_18 : decode cX3_played 18 = .ok (.iload 4, 2) := by decide +kernel
theorem dX3_played_20 : decode cX3_played 20 = .ok (.bipush 21, 2) := by decide +kernel
theorem dX3_played_22 : decode cX3_played 22 = .ok (.iand, 1) := by decide +kernel
theorem dX3_played_23 : decode cX3_played 23 = .ok (.invokestatic 56, 3) := by decide +kernel
theorem dX3_played_26 : decode cX3_played 26 = .ok (.isub, 1) := by decide +kernel
theorem dX3_played_27 : decode cX3_played 27 = .ok (.ireturn, 1) := by decide +kernel
theorem dX3_played_28 : decode cX3_played 28 = .ok (.iload_n 3, 1) := by decide +kernel
theorem dX3_played_29 : decode cX3_played 29 = .ok (.iconst 2, 1) := by decide +kernel
theorem dX3_played_30 : decode cX3_played 30 = .ok (.irem, 1) := by decide +kernel
theorem dX3_played_31 : decode cX3_played 31 = .ok (.ifCond .ne 7, 3) := by decide +kernel
theorem dX3_played_34 : decode cX3_played 34 = .ok (.iconst 1, 1) := by decide +kernel
theorem dX3_played_35 : decode cX3_played 35 = .ok (.goto 4, 3) := by decide +kernel
theorem dX3_played_38 : decode cX3_played 38 = .ok (.iconst 0, 1) := by decide +kernel
theorem dX3_played_39 : decode cX3_played 39 = .ok (.istore 4, 2) := by decide +kernel
theorem dX3_played_41 : decode cX3_played 41 = .ok (.aload_n 0, 1) := by decide +kernel
theorem dX3_played_42 : decode cX3_played 42 = .ok (.lload_n 1, 1) := by decide +kernel
theorem dX3_played_43 : decode cX3_played 43 = .ok (.iload_n 3, 1) := by decide +kernel
theorem dX3_played_44 : decode cX3_played 44 = .ok (.iconst 1, 1) := by decide +kernel
theorem dX3_played_45 : decode cX3_played 45 = .ok (.isub, 1) := by decide +kernel
theorem dX3_played_46 : decode cX3_played 46 = .ok (.invokestatic 67, 3) := by decide +kernel
theorem dX3_played_49 : decode cX3_played 49 = .ok (.istore 5, 2) := by decide +kernel
theorem dX3_played_51 : decode cX3_played 51 = .ok (.iload 4, 2) := by decide +kernel
theorem dX3_played_53 : decode cX3_played 53 = .ok (.ifCond .eq 7, 3) := by decide +kernel
theorem dX3_played_56 : decode cX3_played 56 = .ok (.iconst 0, 1) := by decide +kernel
theorem dX3_played_57 : decode cX3_played 57 = .ok (.goto 4, 3) := by decide +kernel
theorem dX3_played_60 : decode cX3_played 60 = .ok (.iconst 1, 1) := by decide +kernel
theorem dX3_played_61 : decode cX3_played 61 = .ok (.istore 6, 2) := by decide +kernel
theorem dX3_played_63 : decode cX3_played 63 = .ok (.iload 6, 2) := by decide +kernel
theorem dX3_played_65 : decode cX3_played 65 = .ok (.aload_n 0, 1) := by decide +kernel
theorem dX3_played_66 : decode cX3_played 66 = .ok (.getfield 71, 3) := by decide +kernel
theorem dX3_played_69 : decode cX3_played 69 = .ok (.if_icmp .ge 59, 3) := by decide +kernel
theorem dX3_played_72 : decode cX3_played 72 = .ok (.lload_n 1, 1) := by decide +kernel
theorem dX3_played_73 : decode cX3_played 73 = .ok (.iload 6, 2) := by decide +kernel
theorem dX3_played_75 : decode cX3_played 75 = .ok (.invokestatic 25, 3) := by decide +kernel
theorem dX3_played_78 : decode cX3_played 78 = .ok (.ifCond .eq 44, 3) := by decide +kernel
theorem dX3_played_81 : decode cX3_played 81 = .ok (.aload_n 0, 1) := by decide +kernel
theorem dX3_played_82 : decode cX3_played 82 = .ok (.aload_n 0, 1) := by decide +kernel
theorem dX3_played_83 : decode cX3_played 83 = .ok (.lload_n 1, 1) := by decide +kernel
theorem dX3_played_84 : decode cX3_played 84 = .ok (.iload 6, 2) := by decide +kernel
theorem dX3_played_86 : decode cX3_played 86 = .ok (.iconst 1, 1) := by decide +kernel
theorem dX3_played_87 : decode cX3_played 87 = .ok (.invokevirtual 31, 3) := by decide +kernel
theorem dX3_played_90 : decode cX3_played 90 = .ok (.iload_n 3, 1) := by decide +kernel
theorem dX3_played_91 : decode cX3_played 91 = .ok (.iconst 1, 1) := by decide +kernel
theorem dX3_played_92 : decode cX3_played 92 = .ok (.isub, 1) := by decide +kernel
theorem dX3_played_93 : decode cX3_played 93 = .ok (.invokestatic 67, 3) := by decide +kernel
theorem dX3_played_96 : decode cX3_played 96 = .ok (.istore 7, 2) := by decide +kernel
theorem dX3_played_98 : decode cX3_played 98 = .ok (.iload 4, 2) := by decide +kernel
theorem dX3_played_100 : decode cX3_played 100 = .ok (.ifCond .eq 13, 3) := by decide +kernel
theorem dX3_played_103 : decode cX3_played 103 = .ok (.iload 5, 2) := by decide +kernel
theorem dX3_played_105 : decode cX3_played 105 = .ok (.iload 7, 2) := by decide +kernel
theorem dX3_played_107 : decode cX3_played 107 = .ok (.invokestatic 75, 3) := by decide +kernel
theorem dX3_played_110 : decode cX3_played 110 = .ok (.goto 10, 3) := by decide +kernel
theorem dX3_played_113 : decode cX3_played 113 = .ok (.iload 5, 2) := by decide +kernel
theorem dX3_played_115 : decode cX3_played 115 = .ok (.iload 7, 2) := by decide +kernel
theorem dX3_played_117 : decode cX3_played 117 = .ok (.invokestatic 61, 3) := by decide +kernel
theorem dX3_played_120 : decode cX3_played 120 = .ok (.istore 5, 2) := by decide +kernel
theorem dX3_played_122 : decode cX3_played 122 = .ok (.iinc 6 2, 3) := by decide +kernel
theorem dX3_played_125 : decode cX3_played 125 = .ok (.goto (-62), 3) := by decide +kernel
theorem dX3_played_128 : decode cX3_played 128 = .ok (.iload 5, 2) := by decide +kernel
theorem dX3_played_130 : decode cX3_played 130 = .ok (.ireturn, 1) := by decide +kernel
theorem dX4_init_0 : decode cX4_init 0 = .ok (.aload_n 0, 1) := by decide +kernel
theorem dX4_init_1 : decode cX4_init 1 = .ok (.invokespecial 3, 3) := by decide +kernel
theorem dX4_init_4 : decode cX4_init 4 = .ok (.aload_n 0, 1) := by decide +kernel
theorem dX4_init_5 : decode cX4_init 5 = .ok (.iload_n 2, 1) := by decide +kernel
theorem dX4_init_6 : decode cX4_init 6 = .ok (.putfield 9, 3) := by decide +kernel
theorem dX4_init_9 : decode cX4_init 9 = .ok (.aload_n 0, 1) := by decide +kernel
theorem dX4_init_10 : decode cX4_init 10 = .ok (.iload_n 3, 1) := by decide +kernel
theorem dX4_init_11 : decode cX4_init 11 = .ok (.putfield 15, 3) := by decide +kernel
theorem dX4_init_14 : decode cX4_init 14 = .ok (.aload_n 0, 1) := by decide +kernel
theorem dX4_init_15 : decode cX4_init 15 = .ok (.iload_n 1, 1) := by decide +kernel
theorem dX4_init_16 : decode cX4_init 16 = .ok (.iconst 0, 1) := by decide +kernel
theorem dX4_init_17 : decode cX4_init 17 = .ok (.invokestatic 18, 3) := by decide +kernel
theorem dX4_init_20 : decode cX4_init 20 = .ok (.iload_n 2, 1) := by decide +kernel
theorem dX4_init_21 : decode cX4_init 21 = .ok (.iconst 0, 1) := by decide +kernel
theorem dX4_init_22 : decode cX4_init 22 = .ok (.invokestatic 18, 3) := by decide +kernel
theorem dX4_init_25 : decode cX4_init 25 = .ok (.multianewarray 24 2, 4) := by decide +kernel
theorem dX4_init_29 : decode cX4_init 29 = .ok (.putfield 26, 3) := by decide +kernel
theorem dX4_init_32 : decode cX4_init 32 = .ok (.aload_n 0, 1) := by decide +kernel
theorem dX4_init_33 : decode cX4_init 33 = .ok (.aload_n 0, 1) := by decide +kernel
theorem dX4_init_34 : decode cX4_init 34 = .ok (.getfield 26, 3) := by decide +kernel
theorem dX4_init_37 : decode cX4_init 37 = .ok (.arraylength, 1) := by decide +kernel
theorem dX4_init_38 : decode cX4_init 38 = .ok (.newarray .int, 2) := by decide +kernel
theorem dX4_init_40 : decode cX4_init 40 = .ok (.putfield 29, 3) := by decide +kernel
theorem dX4_init_43 : decode cX4_init 43 = .ok (.iconst 0, 1) := by decide +kernel
theorem dX4_init_44 : decode cX4_init 44 = .ok (.istore 4, 2) := by decide +kernel
theorem dX4_init_46 : decode cX4_init 46 = .ok (.iload 4, 2) := by decide +kernel
theorem dX4_init_48 : decode cX4_init 48 = .ok (.aload_n 0, 1) := by decide +kernel
theorem dX4_init_49 : decode cX4_init 49 = .ok (.getfield 29, 3) := by decide +kernel
theorem dX4_init_52 : decode cX4_init 52 = .ok (.arraylength, 1) := by decide +kernel
theorem dX4_init_53 : decode cX4_init 53 = .ok (.if_icmp .ge 17, 3) := by decide +kernel
theorem dX4_init_56 : decode cX4_init 56 = .ok (.aload_n 0, 1) := by decide +kernel
theorem dX4_init_57 : decode cX4_init 57 = .ok (.getfield 29, 3) := by decide +kernel
theorem dX4_init_60 : decode cX4_init 60 = .ok (.iload 4, 2) := by decide +kernel
theorem dX4_init_62 : decode cX4_init 62 = .ok (.iconst (-1), 1) := by decide +kernel
theorem dX4_init_63 : decode cX4_init 63 = .ok (.iastore, 1) := by decide +kernel
theorem dX4_init_64 : decode cX4_init 64 = .ok (.iinc 4 1, 3) := by decide +kernel
theorem dX4_init_67 : decode cX4_init 67 = .ok (.goto (-21), 3) := by decide +kernel
theorem dX4_init_70 : decode cX4_init 70 = .ok (.return_, 1) := by decide +kernel
theorem dX4_isNumber_0 : decode cX4_isNumber 0 = .ok (.iload_n 1, 1) := by decide +kernel
theorem dX4_isNumber_1 : decode cX4_isNumber 1 = .ok (.ifCond .lt 16, 3) := by decide +kernel
theorem dX4_isNumber_4 : decode cX4_isNumber 4 = .ok (.iload_n 1, 1) := by decide +kernel
theorem dX4_isNumber_5 : decode cX4_isNumber 5 = .ok (.aload_n 0, 1) := by decide +kernel
theorem dX4_isNumber_6 : decode cX4_isNumber 6 = .ok (.getfield 29, 3) := by decide +kernel
theorem dX4_isNumber_9 : decode cX4_isNumber 9 = .ok (.arraylength, 1) := by decide +kernel
theorem dX4_isNumber_10 : decode cX4_isNumber 10 = .ok (.if_icmp .ge 7, 3) := by decide +kernel
theorem dX4_isNumber_13 : decode cX4_isNumber 13 = .ok (.iconst 1, 1) := by decide +kernel
theorem dX4_isNumber_14 : decode cX4_isNumber 14 = .ok (.goto 4, 3) := by decide +kernel
theorem dX4_isNumber_17 : decode cX4_isNumber 17 = .ok (.iconst 0, 1) := by decide +kernel
theorem dX4_isNumber_18 : decode cX4_isNumber 18 = .ok (.ireturn, 1) := by decide +kernel
theorem dX4_isThere_0 : decode cX4_isThere 0 = .ok (.aload_n 0, 1) := by decide +kernel
theorem dX4_isThere_1 : decode cX4_isThere 1 = .ok (.iload_n 1, 1) := by decide +kernel
theorem dX4_isThere_2 : decode cX4_isThere 2 = .ok (.invokevirtual 33, 3) := by decide +kernel
theorem dX4_isThere_5 : decode cX4_isThere 5 = .ok (.iconst (-1), 1) := by decide +kernel
theorem dX4_isThere_6 : decode cX4_isThere 6 = .ok (.if_icmp .eq 7, 3) := by decide +kernel
theorem dX4_isThere_9 : decode cX4_isThere 9 = .ok (.iconst 1, 1) := by decide +kernel
theorem dX4_isThere_10 : decode cX4_isThere 10 = .ok (.goto 4, 3) := by decide +kernel
theorem dX4_isThere_13 : decode cX4_isThere 13 = .ok (.iconst 0, 1) := by decide +kernel
theorem dX4_isThere_14 : decode cX4_isThere 14 = .ok (.ireturn, 1) := by decide +kernel
theorem dX4_size_0 : decode cX4_size 0 = .ok (.aload_n 0, 1) := by decide +kernel
theorem dX4_size_1 : decode cX4_size 1 = .ok (.iload_n 1, 1) := by decide +kernel
theorem dX4_size_2 : decode cX4_size 2 = .ok (.invokevirtual 37, 3) := by decide +kernel
theorem dX4_size_5 : decode cX4_size 5 = .ok (.ifCond .eq 12, 3) := by decide +kernel
theorem dX4_size_8 : decode cX4_size 8 = .ok (.aload_n 0, 1) := by decide +kernel
theorem dX4_size_9 : decode cX4_size 9 = .ok (.getfield 29, 3) := by decide +kernel
theorem dX4_size_12 : decode cX4_size 12 = .ok (.iload_n 1, 1) := by decide +kernel
theorem dX4_size_13 : decode cX4_size 13 = .ok (.iaload, 1) := by decide +kernel
theorem dX4_size_14 : decode cX4_size 14 = .ok (.goto 4, 3) := by decide +kernel
theorem dX4_size_17 : decode cX4_size 17 = .ok (.iconst (-1), 1) := by decide +kernel
theorem dX4_size_18 : decode cX4_size 18 = .ok (.ireturn, 1) := by decide +kernel
theorem dX4_hasPlace_0 : decode cX4_hasPlace 0 = .ok (.iload_n 2, 1) := by decide +kernel
theorem dX4_hasPlace_1 : decode cX4_hasPlace 1 = .ok (.ifCond .lt 16, 3) := by decide +kernel
theorem dX4_hasPlace_4 : decode cX4_hasPlace 4 = .ok (.iload_n 2, 1) := by decide +kernel
theorem dX4_hasPlace_5 : decode cX4_hasPlace 5 = .ok (.aload_n 0, 1) := by decide +kernel
theorem dX4_hasPlace_6 : decode cX4_hasPlace 6 = .ok (.iload_n 1, 1) := by decide +kernel
theorem dX4_hasPlace_7 : decode cX4_hasPlace 7 = .ok (.invokevirtual 33, 3) := by decide +kernel
theorem dX4_hasPlace_10 : decode cX4_hasPlace 10 = .ok (.if_icmp .ge 7, 3) := by decide +kernel
theorem dX4_hasPlace_13 : decode cX4_hasPlace 13 = .ok (.iconst 1, 1) := by decide +kernel
theorem dX4_hasPlace_14 : decode cX4_hasPlace 14 = .ok (.goto 4, 3) := by decide +kernel
theorem dX4_hasPlace_17 : decode cX4_hasPlace 17 = .ok (.iconst 0, 1) := by decide +kernel
theorem dX4_hasPlace_18 : decode cX4_hasPlace 18 = .ok (.ireturn, 1) := by decide +kernel
theorem dX4_hasPlaces_0 : decode cX4_hasPlaces 0 = .ok (.iload_n 2, 1) := by decide +kernel
theorem dX4_hasPlaces_1 : decode cX4_hasPlaces 1 = .ok (.ifCond .lt 31, 3) := by decide +kernel
theorem dX4_hasPlaces_4 : decode cX4_hasPlaces 4 = .ok (.iload_n 2, 1) := by decide +kernel
theorem dX4_hasPlaces_5 : decode cX4_hasPlaces 5 = .ok (.aload_n 0, 1) := by decide +kernel
theorem dX4_hasPlaces_6 : decode cX4_hasPlaces 6 = .ok (.iload_n 1, 1) := by decide +kernel
theorem dX4_hasPlaces_7 : decode cX4_hasPlaces 7 = .ok (.invokevirtual 33, 3) := by decide +kernel
theorem dX4_hasPlaces_10 : decode cX4_hasPlaces 10 = .ok (.if_icmp .gt 22, 3) := by decide +kernel
theorem dX4_hasPlaces_13 : decode cX4_hasPlaces 13 = .ok (.iload_n 3, 1) := by decide +kernel
theorem dX4_hasPlaces_14 : decode cX4_hasPlaces 14 = .ok (.ifCond .lt 18, 3) := by decide +kernel
theorem dX4_hasPlaces_17 : decode cX4_hasPlaces 17 = .ok (.iload_n 3, 1) := by decide +kernel
theorem dX4_hasPlaces_18 : decode cX4_hasPlaces 18 = .ok (.aload_n 0, 1) := by decide +kernel
theorem dX4_hasPlaces_19 : decode cX4_hasPlaces 19 = .ok (.iload_n 1, 1) := by decide +kernel
theorem dX4_hasPlaces_20 : decode cX4_hasPlaces 20 = .ok (.invokevirtual 33, 3) := by decide +kernel
theorem dX4_hasPlaces_23 : decode cX4_hasPlaces 23 = .ok (.iload_n 2, 1) := by decide +kernel
theorem dX4_hasPlaces_24 : decode cX4_hasPlaces 24 = .ok (.isub, 1) := by decide +kernel
theorem dX4_hasPlaces_25 : decode cX4_hasPlaces 25 = .ok (.if_icmp .gt 7, 3) := by decide +kernel
theorem dX4_hasPlaces_28 : decode cX4_hasPlaces 28 = .ok (.iconst 1, 1) := by decide +kernel
theorem dX4_hasPlaces_29 : decode cX4_hasPlaces 29 = .ok (.goto 4, 3) := by decide +kernel
theorem dX4_hasPlaces_32 : decode cX4_hasPlaces 32 = .ok (.iconst 0, 1) := by decide +kernel
theorem dX4_hasPlaces_33 : decode cX4_hasPlaces 33 = .ok (.ireturn, 1) := by decide +kernel
theorem dX4_get_0 : decode cX4_get 0 = .ok (.aload_n 0, 1) := by decide +kernel
theorem dX4_get_1 : decode cX4_get 1 = .ok (.iload_n 1, 1) := by decide +kernel
theorem dX4_get_2 : decode cX4_get 2 = .ok (.iload_n 2, 1) := by decide +kernel
theorem dX4_get_3 : decode cX4_get 3 = .ok (.invokevirtual 41, 3) := by decide +kernel
theorem dX4_get_6 : decode cX4_get 6 = .ok (.ifCond .eq 14, 3) := by decide +kernel
theorem dX4_get_9 : decode cX4_get 9 = .ok (.aload_n 0, 1) := by decide +kernel
theorem dX4_get_10 : decode cX4_get 10 = .ok (.getfield 26, 3) := by decide +kernel
theorem dX4_get_13 : decode cX4_get 13 = .ok (.iload_n 1, 1) := by decide +kernel
theorem dX4_get_14 : decode cX4_get 14 = .ok (.aaload, 1) := by decide +kernel
theorem dX4_get_15 : decode cX4_get 15 = .ok (.iload_n 2, 1) := by decide +kernel
theorem dX4_get_16 : decode cX4_get 16 = .ok (.iaload, 1) := by decide +kernel
theorem dX4_get_17 : decode cX4_get 17 = .ok (.goto 4, 3) := by decide +kernel
theorem dX4_get_20 : decode cX4_get 20 = .ok (.iconst 0, 1) := by decide +kernel
theorem dX4_get_21 : decode cX4_get 21 = .ok (.ireturn, 1) := by decide +kernel
theorem dX4_set_0 : decode cX4_set 0 = .ok (.aload_n 0, 1) := by decide +kernel
theorem dX4_set_1 : decode cX4_set 1 = .ok (.iload_n 1, 1) := by decide +kernel
theorem dX4_set_2 : decode cX4_set 2 = .ok (.iload_n 2, 1) := by decide +kernel
theorem dX4_set_3 : decode cX4_set 3 = .ok (.invokevirtual 41, 3) := by decide +kernel
theorem dX4_set_6 : decode cX4_set 6 = .ok (.ifCond .eq 12, 3) := by decide +kernel
theorem dX4_set_9 : decode cX4_set 9 = .ok (.aload_n 0, 1) := by decide +kernel
theorem dX4_set_10 : decode cX4_set 10 = .ok (.getfield 26, 3) := by decide +kernel
theorem dX4_set_13 : decode cX4_set 13 = .ok (.iload_n 1, 1) := by decide +kernel
theorem dX4_set_14 : decode cX4_set 14 = .ok (.aaload, 1) := by decide +kernel
theorem dX4_set_15 : decode cX4_set 15 = .ok (.iload_n 2, 1) := by decide +kernel
theorem dX4_set_16 : decode cX4_set 16 = .ok (.iload_n 3, 1) := by decide +kernel
theorem dX4_set_17 : decode cX4_set 17 = .ok (.iastore, 1) := by decide +kernel
theorem dX4_set_18 : decode cX4_set 18 = .ok (.return_, 1) := by decide +kernel
theorem dX4_make_0 : decode cX4_make 0 = .ok (.aload_n 0, 1) := by decide +kernel
theorem dX4_make_1 : decode cX4_make 1 = .ok (.iload_n 1, 1) := by decide +kernel
theorem dX4_make_2 : decode cX4_make 2 = .ok (.invokevirtual 37, 3) := by decide +kernel
theorem dX4_make_5 : decode cX4_make 5 = .ok (.ifCond .eq 47, 3) := by decide +kernel
theorem dX4_make_8 : decode cX4_make 8 = .ok (.iload_n 2, 1) := by decide +kernel
theorem dX4_make_9 : decode cX4_make 9 = .ok (.ifCond .lt 43, 3) := by decide +kernel
theorem dX4_make_12 : decode cX4_make 12 = .ok (.iload_n 2, 1) := by decide +kernel
theorem dX4_make_13 : decode cX4_make 13 = .ok (.aload_n 0, 1) := by decide +kernel
theorem dX4_make_14 : decode cX4_make 14 = .ok (.getfield 9, 3) := by decide +kernel
theorem dX4_make_17 : decode cX4_make 17 = .ok (.if_icmp .gt 35, 3) := by decide +kernel
theorem dX4_make_20 : decode cX4_make 20 = .ok (.aload_n 0, 1) := by decide +kernel
theorem dX4_make_21 : decode cX4_make 21 = .ok (.getfield 29, 3) := by decide +kernel
theorem dX4_make_24 : decode cX4_make 24 = .ok (.iload_n 1, 1) := by decide +kernel
theorem dX4_make_25 : decode cX4_make 25 = .ok (.iload_n 2, 1) := by decide +kernel
theorem dX4_make_26 : decode cX4_make 26 = .ok (.iastore, 1) := by decide +kernel
theorem dX4_make_27 : decode cX4_make 27 = .ok (.iconst 0, 1) := by decide +kernel
theorem dX4_make_28 : decode cX4_make 28 = .ok (.istore_n 3, 1) := by decide +kernel
theorem dX4_make_29 : decode cX4_make 29 = .ok (.iload_n 3, 1) := by decide +kernel
theorem dX4_make_30 : decode cX4_make 30 = .ok (.iload_n 2, 1) := by decide +kernel
theorem dX4_make_31 : decode cX4_make 31 = .ok (.if_icmp .ge 21, 3) := by decide +kernel
theorem dX4_make_34 : decode cX4_make 34 = .ok (.aload_n 0, 1) := by decide +kernel
theorem dX4_make_35 : decode cX4_make 35 = .ok (.getfield 26, 3) := by decide +kernel
theorem dX4_make_38 : decode cX4_make 38 = .ok (.iload_n 1, 1) := by decide +kernel
theorem dX4_make_39 : decode cX4_make 39 = .ok (.aaload, 1) := by decide +kernel
theorem dX4_make_40 : decode cX4_make 40 = .ok (.iload_n 3, 1) := by decide +kernel
theorem dX4_make_41 : decode cX4_make 41 = .ok (.aload_n 0, 1) := by decide +kernel
theorem dX4_make_42 : decode cX4_make 42 = .ok (.getfield 15, 3) := by decide +kernel
theorem dX4_make_45 : decode cX4_make 45 = .ok (.iastore, 1) := by decide +kernel
theorem dX4_make_46 : decode cX4_make 46 = .ok (.iinc 3 1, 3) := by decide +kernel
theorem dX4_make_49 : decode cX4_make 49 = .ok (.goto (-20), 3) := by decide +kernel
theorem dX4_make_52 : decode cX4_make 52 = .ok (.return_, 1) := by decide +kernel
theorem dX4_drop_0 : decode cX4_drop 0 = .ok (.aload_n 0, 1) := by decide +kernel
theorem dX4_drop_1 : decode cX4_drop 1 = .ok (.iload_n 1, 1) := by decide +kernel
theorem dX4_drop_2 : decode cX4_drop 2 = .ok (.invokevirtual 37, 3) := by decide +kernel
theorem dX4_drop_5 : decode cX4_drop 5 = .ok (.ifCond .eq 10, 3) := by decide +kernel
theorem dX4_drop_8 : decode cX4_drop 8 = .ok (.aload_n 0, 1) := by decide +kernel
theorem dX4_drop_9 : decode cX4_drop 9 = .ok (.getfield 29, 3) := by decide +kernel
theorem dX4_drop_12 : decode cX4_drop 12 = .ok (.iload_n 1, 1) := by decide +kernel
theorem dX4_drop_13 : decode cX4_drop 13 = .ok (.iconst (-1), 1) := by decide +kernel
theorem dX4_drop_14 : decode cX4_drop 14 = .ok (.iastore, 1) := by decide +kernel
theorem dX4_drop_15 : decode cX4_drop 15 = .ok (.return_, 1) := by decide +kernel
theorem dX4_carry_0 : decode cX4_carry 0 = .ok (.aload_n 0, 1) := by decide +kernel
theorem dX4_carry_1 : decode cX4_carry 1 = .ok (.iload_n 1, 1) := by decide +kernel
theorem dX4_carry_2 : decode cX4_carry 2 = .ok (.iload_n 2, 1) := by decide +kernel
theorem dX4_carry_3 : decode cX4_carry 3 = .ok (.iload 5, 2) := by decide +kernel
theorem dX4_carry_5 : decode cX4_carry 5 = .ok (.invokevirtual 45, 3) := by decide +kernel
theorem dX4_carry_8 : decode cX4_carry 8 = .ok (.ifCond .eq 35, 3) := by decide +kernel
theorem dX4_carry_11 : decode cX4_carry 11 = .ok (.aload_n 0, 1) := by decide +kernel
theorem dX4_carry_12 : decode cX4_carry 12 = .ok (.iload_n 3, 1) := by decide +kernel
theorem dX4_carry_13 : decode cX4_carry 13 = .ok (.iload 4, 2) := by decide +kernel
theorem dX4_carry_15 : decode cX4_carry 15 = .ok (.iload 5, 2) := by decide +kernel
theorem dX4_carry_17 : decode cX4_carry 17 = .ok (.invokevirtual 45, 3) := by decide +kernel
theorem dX4_carry_20 : decode cX4_carry 20 = .ok (.ifCond .eq 23, 3) := by decide +kernel
theorem dX4_carry_23 : decode cX4_carry 23 = .ok (.aload_n 0, 1) := by decide +kernel
theorem dX4_carry_24 : decode cX4_carry 24 = .ok (.getfield 26, 3) := by decide +kernel
theorem dX4_carry_27 : decode cX4_carry 27 = .ok (.iload_n 1, 1) := by decide +kernel
theorem dX4_carry_28 : decode cX4_carry 28 = .ok (.aaload, 1) := by decide +kernel
theorem dX4_carry_29 : decode cX4_carry 29 = .ok (.iload_n 2, 1) := by decide +kernel
theorem dX4_carry_30 : decode cX4_carry 30 = .ok (.aload_n 0, 1) := by decide +kernel
theorem dX4_carry_31 : decode cX4_carry 31 = .ok (.getfield 26, 3) := by decide +kernel
theorem dX4_carry_34 : decode cX4_carry 34 = .ok (.iload_n 3, 1) := by decide +kernel
theorem dX4_carry_35 : decode cX4_carry 35 = .ok (.aaload, 1) := by decide +kernel
theorem dX4_carry_36 : decode cX4_carry 36 = .ok (.iload 4, 2) := by decide +kernel
theorem dX4_carry_38 : decode cX4_carry 38 = .ok (.iload 5, 2) := by decide +kernel
theorem dX4_carry_40 : decode cX4_carry 40 = .ok (.invokestatic 49, 3) := by decide +kernel
theorem dX4_carry_43 : decode cX4_carry 43 = .ok (.return_, 1) := by decide +kernel
theorem dX4_sum_0 : decode cX4_sum 0 = .ok (.lconst 0, 1) := by decide +kernel
theorem dX4_sum_1 : decode cX4_sum 1 = .ok (.lstore_n 2, 1) := by decide +kernel
theorem dX4_sum_2 : decode cX4_sum 2 = .ok (.iconst 0, 1) := by decide +kernel
theorem dX4_sum_3 : decode cX4_sum 3 = .ok (.istore 4, 2) := by decide +kernel
theorem dX4_sum_5 : decode cX4_sum 5 = .ok (.iload 4, 2) := by decide +kernel
theorem dX4_sum_7 : decode cX4_sum 7 = .ok (.aload_n 0, 1) := by decide +kernel
theorem dX4_sum_8 : decode cX4_sum 8 = .ok (.iload_n 1, 1) := by decide +kernel
theorem dX4_sum_9 : decode cX4_sum 9 = .ok (.invokevirtual 33, 3) := by decide +kernel
theorem dX4_sum_12 : decode cX4_sum 12 = .ok (.if_icmp .ge 20, 3) := by decide +kernel
theorem dX4_sum_15 : decode cX4_sum 15 = .ok (.lload_n 2, 1) := by decide +kernel
theorem dX4_sum_16 : decode cX4_sum 16 = .ok (.aload_n 0, 1) := by decide +kernel
theorem dX4_sum_17 : decode cX4_sum 17 = .ok (.iload_n 1, 1) := by decide +kernel
theorem dX4_sum_18 : decode cX4_sum 18 = .ok (.iload 4, 2) := by decide +kernel
theorem dX4_sum_20 : decode cX4_sum 20 = .ok (.invokevirtual 55, 3) := by decide +kernel
theorem dX4_sum_23 : decode cX4_sum 23 = .ok (.i2l, 1) := by decide +kernel
theorem dX4_sum_24 : decode cX4_sum 24 = .ok (.ladd, 1) := by decide +kernel
theorem dX4_sum_25 : decode cX4_sum 25 = .ok (.lstore_n 2, 1) := by decide +kernel
theorem dX4_sum_26 : decode cX4_sum 26 = .ok (.iinc 4 1, 3) := by decide +kernel
theorem dX4_sum_29 : decode cX4_sum 29 = .ok (.goto (-24), 3) := by decide +kernel
theorem dX4_sum_32 : decode cX4_sum 32 = .ok (.lload_n 2, 1) := by decide +kernel
theorem dX4_sum_33 : decode cX4_sum 33 = .ok (.lreturn, 1) := by decide +kernel
theorem dX4_countThere_0 : decode cX4_countThere 0 = .ok (.iconst 0, 1) := by decide +kernel
theorem dX4_countThere_1 : decode cX4_countThere 1 = .ok (.istore_n 1, 1) := by decide +kernel
theorem dX4_countThere_2 : decode cX4_countThere 2 = .ok (.iconst 0, 1) := by decide +kernel
theorem dX4_countThere_3 : decode cX4_countThere 3 = .ok (.istore_n 2, 1) := by decide +kernel
theorem dX4_countThere_4 : decode cX4_countThere 4 = .ok (.iload_n 2, 1) := by decide +kernel
theorem dX4_countThere_5 : decode cX4_countThere 5 = .ok (.aload_n 0, 1) := by decide +kernel
theorem dX4_countThere_6 : decode cX4_countThere 6 = .ok (.getfield 29, 3) := by decide +kernel
theorem dX4_countThere_9 : decode cX4_countThere 9 = .ok (.arraylength, 1) := by decide +kernel
theorem dX4_countThere_10 : decode cX4_countThere 10 = .ok (.if_icmp .ge 20, 3) := by decide +kernel
theorem dX4_countThere_13 : decode cX4_countThere 13 = .ok (.aload_n 0, 1) := by decide +kernel
theorem dX4_countThere_14 : decode cX4_countThere 14 = .ok (.iload_n 2, 1) := by decide +kernel
theorem dX4_countThere_15 : decode cX4_countThere 15 = .ok (.invokevirtual 58, 3) := by decide +kernel
theorem dX4_countThere_18 : decode cX4_countThere 18 = .ok (.ifCond .eq 6, 3) := by decide +kernel
theorem dX4_countThere_21 : decode cX4_countThere 21 = .ok (.iinc 1 1, 3) := by decide +kernel
theorem dX4_countThere_24 : decode cX4_countThere 24 = .ok (.iinc 2 1, 3) := by decide +kernel
theorem dX4_countThere_27 : decode cX4_countThere 27 = .ok (.goto (-23), 3) := by decide +kernel
theorem dX4_countThere_30 : decode cX4_countThere 30 = .ok (.iload_n 1, 1) := by decide +kernel
theorem dX4_countThere_31 : decode cX4_countThere 31 = .ok (.ireturn, 1) := by decide +kernel
theorem dX4_digestFrom_0 : decode cX4_digestFrom 0 = .ok (.lload_n 1, 1) := by decide +kernel
theorem dX4_digestFrom_1 : decode cX4_digestFrom 1 = .ok (.lstore_n 3, 1) := by decide +kernel
theorem dX4_digestFrom_2 : decode cX4_digestFrom 2 = .ok (.iconst 0, 1) := by decide +kernel
theorem dX4_digestFrom_3 : decode cX4_digestFrom 3 = .ok (.istore 5, 2) := by decide +kernel
theorem dX4_digestFrom_5 : decode cX4_digestFrom 5 = .ok (.iload 5, 2) := by decide +kernel
theorem dX4_digestFrom_7 : decode cX4_digestFrom 7 = .ok (.aload_n 0, 1) := by decide +kernel
theorem dX4_digestFrom_8 : decode cX4_digestFrom 8 = .ok (.getfield 29, 3) := by decide +kernel
theorem dX4_digestFrom_11 : decode cX4_digestFrom 11 = .ok (.arraylength, 1) := by decide +kernel
theorem dX4_digestFrom_12 : decode cX4_digestFrom 12 = .ok (.if_icmp .ge 59, 3) := by decide +kernel
theorem dX4_digestFrom_15 : decode cX4_digestFrom 15 = .ok (.ldc2_w 61, 3) := by decide +kernel
theorem dX4_digestFrom_18 : decode cX4_digestFrom 18 = .ok (.lload_n 3, 1) := by decide +kernel
theorem dX4_digestFrom_19 : decode cX4_digestFrom 19 = .ok (.lmul, 1) := by decide +kernel
theorem dX4_digestFrom_20 : decode cX4_digestFrom 20 = .ok (.aload_n 0, 1) := by decide +kernel
theorem dX4_digestFrom_21 : decode cX4_digestFrom 21 = .ok (.iload 5, 2) := by decide +kernel
theorem dX4_digestFrom_23 : decode cX4_digestFrom 23 = .ok (.invokevirtual 33, 3) := by decide +kernel
theorem dX4_digestFrom_26 : decode cX4_digestFrom 26 = .ok (.i2l, 1) := by decide +kernel
theorem dX4_digestFrom_27 : decode cX4_digestFrom 27 = .ok (.ladd, 1) := by decide +kernel
theorem dX4_digestFrom_28 : decode cX4_digestFrom 28 = .ok (.lstore_n 3, 1) := by decide +kernel
theorem dX4_digestFrom_29 : decode cX4_digestFrom 29 = .ok (.iconst 0, 1) := by decide +kernel
theorem dX4_digestFrom_30 : decode cX4_digestFrom 30 = .ok (.istore 6, 2) := by decide +kernel
theorem dX4_digestFrom_32 : decode cX4_digestFrom 32 = .ok (.iload 6, 2) := by decide +kernel
theorem dX4_digestFrom_34 : decode cX4_digestFrom 34 = .ok (.aload_n 0, 1) := by decide +kernel
theorem dX4_digestFrom_35 : decode cX4_digestFrom 35 = .ok (.iload 5, 2) := by decide +kernel
theorem dX4_digestFrom_37 : decode cX4_digestFrom 37 = .ok (.invokevirtual 33, 3) := by decide +kernel
theorem dX4_digestFrom_40 : decode cX4_digestFrom 40 = .ok (.if_icmp .ge 25, 3) := by decide +kernel
theorem dX4_digestFrom_43 : decode cX4_digestFrom 43 = .ok (.ldc2_w 61, 3) := by decide +kernel
theorem dX4_digestFrom_46 : decode cX4_digestFrom 46 = .ok (.lload_n 3, 1) := by decide +kernel
theorem dX4_digestFrom_47 : decode cX4_digestFrom 47 = .ok (.lmul, 1) := by decide +kernel
theorem dX4_digestFrom_48 : decode cX4_digestFrom 48 = .ok (.aload_n 0, 1) := by decide +kernel
theorem dX4_digestFrom_49 : decode cX4_digestFrom 49 = .ok (.iload 5, 2) := by decide +kernel
theorem dX4_digestFrom_51 : decode cX4_digestFrom 51 = .ok (.iload 6, 2) := by decide +kernel
theorem dX4_digestFrom_53 : decode cX4_digestFrom 53 = .ok (.invokevirtual 55, 3) := by decide +kernel
theorem dX4_digestFrom_56 : decode cX4_digestFrom 56 = .ok (.i2l, 1) := by decide +kernel
theorem dX4_digestFrom_57 : decode cX4_digestFrom 57 = .ok (.ladd, 1) := by decide +kernel
theorem dX4_digestFrom_58 : decode cX4_digestFrom 58 = .ok (.lstore_n 3, 1) := by decide +kernel
theorem dX4_digestFrom_59 : decode cX4_digestFrom 59 = .ok (.iinc 6 1, 3) := by decide +kernel
theorem dX4_digestFrom_62 : decode cX4_digestFrom 62 = .ok (.goto (-30), 3) := by decide +kernel
theorem dX4_digestFrom_65 : decode cX4_digestFrom 65 = .ok (.iinc 5 1, 3) := by decide +kernel
theorem dX4_digestFrom_68 : decode cX4_digestFrom 68 = .ok (.goto (-63), 3) := by decide +kernel
theorem dX4_digestFrom_71 : decode cX4_digestFrom 71 = .ok (.lload_n 3, 1) := by decide +kernel
theorem dX4_digestFrom_72 : decode cX4_digestFrom 72 = .ok (.lreturn, 1) := by decide +kernel
theorem dX5_strain_0 : decode cX5_strain 0 = .ok (.lload_n 0, 1) := by decide +kernel
theorem dX5_strain_1 : decode cX5_strain 1 = .ok (.iconst 4, 1) := by decide +kernel
theorem dX5_strain_2 : decode cX5_strain 2 = .ok (.iload_n 2, 1) := by decide +kernel
theorem dX5_strain_3 : decode cX5_strain 3 = .ok (.imul, 1) := by decide +kernel
theorem dX5_strain_4 : decode cX5_strain 4 = .ok (.lshr, 1) := by decide +kernel
theorem dX5_strain_5 : decode cX5_strain 5 = .ok (.l2i, 1) := by decide +kernel
theorem dX5_strain_6 : decode cX5_strain 6 = .ok (.bipush 15, 2) := by decide +kernel
theorem dX5_strain_8 : decode cX5_strain 8 = .ok (.iand, 1) := by decide +kernel
theorem dX5_strain_9 : decode cX5_strain 9 = .ok (.ireturn, 1) := by decide +kernel
theorem dX5_letGo_0 : decode cX5_letGo 0 = .ok (.lload_n 0, 1) := by decide +kernel
theorem dX5_letGo_1 : decode cX5_letGo 1 = .ok (.bipush 24, 2) := by decide +kernel
theorem dX5_letGo_3 : decode cX5_letGo 3 = .ok (.lshr, 1) := by decide +kernel
theorem dX5_letGo_4 : decode cX5_letGo 4 = .ok (.l2i, 1) := by decide +kernel
theorem dX5_letGo_5 : decode cX5_letGo 5 = .ok (.bipush 63, 2) := by decide +kernel
theorem dX5_letGo_7 : decode cX5_letGo 7 = .ok (.iand, 1) := by decide +kernel
theorem dX5_letGo_8 : decode cX5_letGo 8 = .ok (.ireturn, 1) := by decide +kernel
theorem dX5_parted_0 : decode cX5_parted 0 = .ok (.lload_n 0, 1) := by decide +kernel
theorem dX5_parted_1 : decode cX5_parted 1 = .ok (.bipush 30, 2) := by decide +kernel
theorem dX5_parted_3 : decode cX5_parted 3 = .ok (.lshr, 1) := by decide +kernel
theorem dX5_parted_4 : decode cX5_parted 4 = .ok (.l2i, 1) := by decide +kernel
theorem dX5_parted_5 : decode cX5_parted 5 = .ok (.bipush 63, 2) := by decide +kernel
theorem dX5_parted_7 : decode cX5_parted 7 = .ok (.iand, 1) := by decide +kernel
theorem dX5_parted_8 : decode cX5_parted 8 = .ok (.ireturn, 1) := by decide +kernel
theorem dX5_frostIn_0 : decode cX5_frostIn 0 = .ok (.lload_n 0, 1) := by decide +kernel
theorem dX5_frostIn_1 : decode cX5_frostIn 1 = .ok (.bipush 36, 2) := by decide +kernel
theorem dX5_frostIn_3 : decode cX5_frostIn 3 = .ok (.lshr, 1) := by decide +kernel
theorem dX5_frostIn_4 : decode cX5_frostIn 4 = .ok (.l2i, 1) := by decide +kernel
theorem dX5_frostIn_5 : decode cX5_frostIn 5 = .ok (.iconst 1, 1) := by decide +kernel
theorem dX5_frostIn_6 : decode cX5_frostIn 6 = .ok (.iand, 1) := by decide +kernel
theorem dX5_frostIn_7 : decode cX5_frostIn 7 = .ok (.ireturn, 1) := by decide +kernel
theorem dX5_isLetGo_0 : decode cX5_isLetGo 0 = .ok (.lload_n 0, 1) := by decide +kernel
theorem dX5_isLetGo_1 : decode cX5_isLetGo 1 = .ok (.invokestatic 11, 3) := by decide +kernel
theorem dX5_isLetGo_4 : decode cX5_isLetGo 4 = .ok (.iload_n 2, 1) := by decide +kernel
theorem dX5_isLetGo_5 : decode cX5_isLetGo 5 = .ok (.ishr, 1) := by decide +kernel
theorem dX5_isLetGo_6 : decode cX5_isLetGo 6 = .ok (.iconst 1, 1) := by decide +kernel
theorem dX5_isLetGo_7 : decode cX5_isLetGo 7 = .ok (.iand, 1) := by decide +kernel
theorem dX5_isLetGo_8 : decode cX5_isLetGo 8 = .ok (.ifCond .eq 7, 3) := by decide +kernel
theorem dX5_isLetGo_11 : decode cX5_isLetGo 11 = .ok (.iconst 1, 1) := by decide +kernel
theorem dX5_isLetGo_12 : decode cX5_isLetGo 12 = .ok (.goto 4, 3) := by decide +kernel
theorem dX5_isLetGo_15 : decode cX5_isLetGo 15 = .ok (.iconst 0, 1) := by decide +kernel
theorem dX5_isLetGo_16 : decode cX5_isLetGo 16 = .ok (.ireturn, 1) := by decide +kernel
theorem dX5_isParted_0 : decode cX5_isParted 0 = .ok (.lload_n 0, 1) := by decide +kernel
theorem dX5_isParted_1 : decode cX5_isParted 1 = .ok (.invokestatic 15, 3) := by decide +kernel
theorem dX5_isParted_4 : decode cX5_isParted 4 = .ok (.iload_n 2, 1) := by decide +kernel
theorem dX5_isParted_5 : decode cX5_isParted 5 = .ok (.ishr, 1) := by decide +kernel
theorem dX5_isParted_6 : decode cX5_isParted 6 = .ok (.iconst 1, 1) := by decide +kernel
theorem dX5_isParted_7 : decode cX5_isParted 7 = .ok (.iand, 1) := by decide +kernel
theorem dX5_isParted_8 : decode cX5_isParted 8 = .ok (.ifCond .eq 7, 3) := by decide +kernel
theorem dX5_isParted_11 : decode cX5_isParted 11 = .ok (.iconst 1, 1) := by decide +kernel
theorem dX5_isParted_12 : decode cX5_isParted 12 = .ok (.goto 4, 3) := by decide +kernel
theorem dX5_isParted_15 : decode cX5_isParted 15 = .ok (.iconst 0, 1) := by decide +kernel
theorem dX5_isParted_16 : decode cX5_isParted 16 = .ok (.ireturn, 1) := by decide +kernel
theorem dX5_isFast_0 : decode cX5_isFast 0 = .ok (.lload_n 0, 1) := by decide +kernel
theorem dX5_isFast_1 : decode cX5_isFast 1 = .ok (.iload_n 2, 1) := by decide +kernel
theorem dX5_isFast_2 : decode cX5_isFast 2 = .ok (.invokestatic 18, 3) := by decide +kernel
theorem dX5_isFast_5 : decode cX5_isFast 5 = .ok (.ifCond .ne 15, 3) := by decide +kernel
theorem dX5_isFast_8 : decode cX5_isFast 8 = .ok (.lload_n 0, 1) := by decide +kernel
theorem dX5_isFast_9 : decode cX5_isFast 9 = .ok (.iload_n 2, 1) := by decide +kernel
theorem dX5_isFast_10 : decode cX5_isFast 10 = .ok (.invokestatic 22, 3) := by decide +kernel
theorem dX5_isFast_13 : decode cX5_isFast 13 = .ok (.ifCond .ne 7, 3) := by decide +kernel
theorem dX5_isFast_16 : decode cX5_isFast 16 = .ok (.iconst 1, 1) := by decide +kernel
theorem dX5_isFast_17 : decode cX5_isFast 17 = .ok (.goto 4, 3) := by decide +kernel
theorem dX5_isFast_20 : decode cX5_isFast 20 = .ok (.iconst 0, 1) := by decide +kernel
theorem dX5_isFast_21 : decode cX5_isFast 21 = .ok (.ireturn, 1) := by decide +kernel
theorem dX5_taut_0 : decode cX5_taut 0 = .ok (.iconst 0, 1) := by decide +kernel
theorem dX5_taut_1 : decode cX5_taut 1 = .ok (.istore_n 2, 1) := by decide +kernel
theorem dX5_taut_2 : decode cX5_taut 2 = .ok (.iconst 0, 1) := by decide +kernel
theorem dX5_taut_3 : decode cX5_taut 3 = .ok (.istore_n 3, 1) := by decide +kernel
theorem dX5_taut_4 : decode cX5_taut 4 = .ok (.iload_n 3, 1) := by decide +kernel
theorem dX5_taut_5 : decode cX5_taut 5 = .ok (.bipush 6, 2) := by decide +kernel
theorem dX5_taut_7 : decode cX5_taut 7 = .ok (.if_icmp .ge 23, 3) := by decide +kernel
theorem dX5_taut_10 : decode cX5_taut 10 = .ok (.lload_n 0, 1) := by decide +kernel
theorem dX5_taut_11 : decode cX5_taut 11 = .ok (.iload_n 3, 1) := by decide +kernel
theorem dX5_taut_12 : decode cX5_taut 12 = .ok (.invokestatic 25, 3) := by decide +kernel
theorem dX5_taut_15 : decode cX5_taut 15 = .ok (.ifCond .le 9, 3) := by decide +kernel
theorem dX5_taut_18 : decode cX5_taut 18 = .ok (.iload_n 2, 1) := by decide +kernel
theorem dX5_taut_19 : decode cX5_taut 19 = .ok (.iconst 1, 1) := by decide +kernel
theorem dX5_taut_20 : decode cX5_taut 20 = .ok (.iload_n 3, 1) := by decide +kernel
theorem dX5_taut_21 : decode cX5_taut 21 = .ok (.ishl, 1) := by decide +kernel
theorem dX5_taut_22 : decode cX5_taut 22 = .ok (.ior, 1) := by decide +kernel
theorem dX5_taut_23 : decode cX5_taut 23 = .ok (.istore_n 2, 1) := by decide +kernel
theorem dX5_taut_24 : decode cX5_taut 24 = .ok (.iinc 3 1, 3) := by decide +kernel
theorem dX5_taut_27 : decode cX5_taut 27 = .ok (.goto (-23), 3) := by decide +kernel
theorem dX5_taut_30 : decode cX5_taut 30 = .ok (.iload_n 2, 1) := by decide +kernel
theorem dX5_taut_31 : decode cX5_taut 31 = .ok (.ireturn, 1) := by decide +kernel
theorem dX5_allStrains_0 : decode cX5_allStrains 0 = .ok (.iconst 0, 1) := by decide +kernel
theorem dX5_allStrains_1 : decode cX5_allStrains 1 = .ok (.istore_n 2, 1) := by decide +kernel
theorem dX5_allStrains_2 : decode cX5_allStrains 2 = .ok (.iconst 0, 1) := by decide +kernel
theorem dX5_allStrains_3 : decode cX5_allStrains 3 = .ok (.istore_n 3, 1) := by decide +kernel
theorem dX5_allStrains_4 : decode cX5_allStrains 4 = .ok (.iload_n 3, 1) := by decide +kernel
theorem dX5_allStrains_5 : decode cX5_allStrains 5 = .ok (.bipush 6, 2) := by decide +kernel
theorem dX5_allStrains_7 : decode cX5_allStrains 7 = .ok (.if_icmp .ge 17, 3) := by decide +kernel
theorem dX5_allStrains_10 : decode cX5_allStrains 10 = .ok (.iload_n 2, 1) := by decide +kernel
theorem dX5_allStrains_11 : decode cX5_allStrains 11 = .ok (.lload_n 0, 1) := by decide +kernel
theorem dX5_allStrains_12 : decode cX5_allStrains 12 = .ok (.iload_n 3, 1) := by decide +kernel
theorem dX5_allStrains_13 : decode cX5_allStrains 13 = .ok (.invokestatic 25, 3) := by decide +kernel
theorem dX5_allStrains_16 : decode cX5_allStrains 16 = .ok (.iadd, 1) := by decide +kernel
theorem dX5_allStrains_17 : decode cX5_allStrains 17 = .ok (.istore_n 2, 1) := by decide +kernel
theorem dX5_allStrains_18 : decode cX5_allStrains 18 = .ok (.iinc 3 1, 3) := by decide +kernel
theorem dX5_allStrains_21 : decode cX5_allStrains 21 = .ok (.goto (-17), 3) := by decide +kernel
theorem dX5_allStrains_24 : decode cX5_allStrains 24 = .ok (.iload_n 2, 1) := by decide +kernel
theorem dX5_allStrains_25 : decode cX5_allStrains 25 = .ok (.ireturn, 1) := by decide +kernel
theorem dX5_afterStrain_0 : decode cX5_afterStrain 0 = .ok (.lload_n 0, 1) := by decide +kernel
theorem dX5_afterStrain_1 : decode cX5_afterStrain 1 = .ok (.ldc2_w 29, 3) := by decide +kernel
theorem dX5_afterStrain_4 : decode cX5_afterStrain 4 = .ok (.iconst 4, 1) := by decide +kernel
theorem dX5_afterStrain_5 : decode cX5_afterStrain 5 = .ok (.iload_n 2, 1) := by decide +kernel
theorem dX5_afterStrain_6 : decode cX5_afterStrain 6 = .ok (.imul, 1) := by decide +kernel
theorem dX5_afterStrain_7 : decode cX5_afterStrain 7 = .ok (.lshl, 1) := by decide +kernel
theorem dX5_afterStrain_8 : decode cX5_afterStrain 8 = .ok (.ldc2_w 31, 3) := by decide +kernel
theorem dX5_afterStrain_11 : decode cX5_afterStrain 11 = .ok (.lxor, 1) := by decide +kernel
theorem dX5_afterStrain_12 : decode cX5_afterStrain 12 = .ok (.land, 1) := by decide +kernel
theorem dX5_afterStrain_13 : decode cX5_afterStrain 13 = .ok (.iload_n 3, 1) := by decide +kernel
theorem dX5_afterStrain_14 : decode cX5_afterStrain 14 = .ok (.bipush 15, 2) := by decide +kernel
theorem dX5_afterStrain_16 : decode cX5_afterStrain 16 = .ok (.iand, 1) := by decide +kernel
theorem dX5_afterStrain_17 : decode cX5_afterStrain 17 = .ok (.i2l, 1) := by decide +kernel
theorem dX5_afterStrain_18 : decode cX5_afterStrain 18 = .ok (.iconst 4, 1) := by decide +kernel
theorem dX5_afterStrain_19 : decode cX5_afterStrain 19 = .ok (.iload_n 2, 1) := by decide +kernel
theorem dX5_afterStrain_20 : decode cX5_afterStrain 20 = .ok (.imul, 1) := by decide +kernel
theorem dX5_afterStrain_21 : decode cX5_afterStrain 21 = .ok (.lshl, 1) := by decide +kernel
theorem dX5_afterStrain_22 : decode cX5_afterStrain 22 = .ok (.lor, 1) := by decide +kernel
theorem dX5_afterStrain_23 : decode cX5_afterStrain 23 = .ok (.lreturn, 1) := by decide +kernel
theorem dX5_afterLetGo_0 : decode cX5_afterLetGo 0 = .ok (.lload_n 0, 1) := by decide +kernel
theorem dX5_afterLetGo_1 : decode cX5_afterLetGo 1 = .ok (.iload_n 2, 1) := by decide +kernel
theorem dX5_afterLetGo_2 : decode cX5_afterLetGo 2 = .ok (.iconst 0, 1) := by decide +kernel
theorem dX5_afterLetGo_3 : decode cX5_afterLetGo 3 = .ok (.invokestatic 33, 3) := by decide +kernel
theorem dX5_afterLetGo_6 : decode cX5_afterLetGo 6 = .ok (.lconst 1, 1) := by decide +kernel
theorem dX5_afterLetGo_7 : decode cX5_afterLetGo 7 = .ok (.bipush 24, 2) := by decide +kernel
theorem dX5_afterLetGo_9 : decode cX5_afterLetGo 9 = .ok (.iload_n 2, 1) := by decide +kernel
theorem dX5_afterLetGo_10 : decode cX5_afterLetGo 10 = .ok (.iadd, 1) := by decide +kernel
theorem dX5_afterLetGo_11 : decode cX5_afterLetGo 11 = .ok (.lshl, 1) := by decide +kernel
theorem dX5_afterLetGo_12 : decode cX5_afterLetGo 12 = .ok (.lor, 1) := by decide +kernel
theorem dX5_afterLetGo_13 : decode cX5_afterLetGo 13 = .ok (.lreturn, 1) := by decide +kernel
theorem dX5_afterMadeOff_0 : decode cX5_afterMadeOff 0 = .ok (.lload_n 0, 1) := by decide +kernel
theorem dX5_afterMadeOff_1 : decode cX5_afterMadeOff 1 = .ok (.lconst 1, 1) := by decide +kernel
theorem dX5_afterMadeOff_2 : decode cX5_afterMadeOff 2 = .ok (.bipush 24, 2) := by decide +kernel
theorem dX5_afterMadeOff_4 : decode cX5_afterMadeOff 4 = .ok (.iload_n 2, 1) := by decide +kernel
theorem dX5_afterMadeOff_5 : decode cX5_afterMadeOff 5 = .ok (.iadd, 1) := by decide +kernel
theorem dX5_afterMadeOff_6 : decode cX5_afterMadeOff 6 = .ok (.lshl, 1) := by decide +kernel
theorem dX5_afterMadeOff_7 : decode cX5_afterMadeOff 7 = .ok (.ldc2_w 31, 3) := by decide +kernel
theorem dX5_afterMadeOff_10 : decode cX5_afterMadeOff 10 = .ok (.lxor, 1) := by decide +kernel
theorem dX5_afterMadeOff_11 : decode cX5_afterMadeOff 11 = .ok (.land, 1) := by decide +kernel
theorem dX5_afterMadeOff_12 : decode cX5_afterMadeOff 12 = .ok (.lreturn, 1) := by decide +kernel
theorem dX5_afterParted_0 : decode cX5_afterParted 0 = .ok (.lload_n 0, 1) := by decide +kernel
theorem dX5_afterParted_1 : decode cX5_afterParted 1 = .ok (.lstore_n 3, 1) := by decide +kernel
theorem dX5_afterParted_2 : decode cX5_afterParted 2 = .ok (.iconst 0, 1) := by decide +kernel
theorem dX5_afterParted_3 : decode cX5_afterParted 3 = .ok (.istore 5, 2) := by decide +kernel
theorem dX5_afterParted_5 : decode cX5_afterParted 5 = .ok (.iload 5, 2) := by decide +kernel
theorem dX5_afterParted_7 : decode cX5_afterParted 7 = .ok (.bipush 6, 2) := by decide +kernel
theorem dX5_afterParted_9 : decode cX5_afterParted 9 = .ok (.if_icmp .ge 34, 3) := by decide +kernel
theorem dX5_afterParted_12 : decode cX5_afterParted 12 = .ok (.iload_n 2, 1) := by decide +kernel
theorem dX5_afterParted_13 : decode cX5_afterParted 13 = .ok (.iload 5, 2) := by decide +kernel
theorem dX5_afterParted_15 : decode cX5_afterParted 15 = .ok (.ishr, 1) := by decide +kernel
theorem dX5_afterParted_16 : decode cX5_afterParted 16 = .ok (.iconst 1, 1) := by decide +kernel
theorem dX5_afterParted_17 : decode cX5_afterParted 17 = .ok (.iand, 1) := by decide +kernel
theorem dX5_afterParted_18 : decode cX5_afterParted 18 = .ok (.ifCond .eq 19, 3) := by decide +kernel
theorem dX5_afterParted_21 : decode cX5_afterParted 21 = .ok (.lload_n 3, 1) := by decide +kernel
theorem dX5_afterParted_22 : decode cX5_afterParted 22 = .ok (.iload 5, 2) := by decide +kernel
theorem dX5_afterParted_24 : decode cX5_afterParted 24 = .ok (.iconst 0, 1) := by decide +kernel
theorem dX5_afterParted_25 : decode cX5_afterParted 25 = .ok (.invokestatic 33, 3) := by decide +kernel
theorem dX5_afterParted_28 : decode cX5_afterParted 28 = .ok (.lconst 1, 1) := by decide +kernel
theorem dX5_afterParted_29 : decode cX5_afterParted 29 = .ok (.bipush 30, 2) := by decide +kernel
theorem dX5_afterParted_31 : decode cX5_afterParted 31 = .ok (.iload 5, 2) := by decide +kernel
theorem dX5_afterParted_33 : decode cX5_afterParted 33 = .ok (.iadd, 1) := by decide +kernel
theorem dX5_afterParted_34 : decode cX5_afterParted 34 = .ok (.lshl, 1) := by decide +kernel
theorem dX5_afterParted_35 : decode cX5_afterParted 35 = .ok (.lor, 1) := by decide +kernel
theorem dX5_afterParted_36 : decode cX5_afterParted 36 = .ok (.lstore_n 3, 1) := by decide +kernel
theorem dX5_afterParted_37 : decode cX5_afterParted 37 = .ok (.iinc 5 1, 3) := by decide +kernel
theorem dX5_afterParted_40 : decode cX5_afterParted 40 = .ok (.goto (-35), 3) := by decide +kernel
theorem dX5_afterParted_43 : decode cX5_afterParted 43 = .ok (.lload_n 3, 1) := by decide +kernel
theorem dX5_afterParted_44 : decode cX5_afterParted 44 = .ok (.lreturn, 1) := by decide +kernel
theorem dX5_afterSpliced_0 : decode cX5_afterSpliced 0 = .ok (.lload_n 0, 1) := by decide +kernel
theorem dX5_afterSpliced_1 : decode cX5_afterSpliced 1 = .ok (.iload_n 2, 1) := by decide +kernel
theorem dX5_afterSpliced_2 : decode cX5_afterSpliced 2 = .ok (.iconst 0, 1) := by decide +kernel
theorem dX5_afterSpliced_3 : decode cX5_afterSpliced 3 = .ok (.invokestatic 33, 3) := by decide +kernel
theorem dX5_afterSpliced_6 : decode cX5_afterSpliced 6 = .ok (.iload_n 2, 1) := by decide +kernel
theorem dX5_afterSpliced_7 : decode cX5_afterSpliced 7 = .ok (.invokestatic 37, 3) := by decide +kernel
theorem dX5_afterSpliced_10 : decode cX5_afterSpliced 10 = .ok (.lconst 1, 1) := by decide +kernel
theorem dX5_afterSpliced_11 : decode cX5_afterSpliced 11 = .ok (.bipush 30, 2) := by decide +kernel
theorem dX5_afterSpliced_13 : decode cX5_afterSpliced 13 = .ok (.iload_n 2, 1) := by decide +kernel
theorem dX5_afterSpliced_14 : decode cX5_afterSpliced 14 = .ok (.iadd, 1) := by decide +kernel
theorem dX5_afterSpliced_15 : decode cX5_afterSpliced 15 = .ok (.lshl, 1) := by decide +kernel
theorem dX5_afterSpliced_16 : decode cX5_afterSpliced 16 = .ok (.ldc2_w 31, 3) := by decide +kernel
theorem dX5_afterSpliced_19 : decode cX5_afterSpliced 19 = .ok (.lxor, 1) := by decide +kernel
theorem dX5_afterSpliced_20 : decode cX5_afterSpliced 20 = .ok (.land, 1) := by decide +kernel
theorem dX5_afterSpliced_21 : decode cX5_afterSpliced 21 = .ok (.lreturn, 1) := by decide +kernel
theorem dX5_afterFrost_0 : decode cX5_afterFrost 0 = .ok (.lload_n 0, 1) := by decide +kernel
theorem dX5_afterFrost_1 : decode cX5_afterFrost 1 = .ok (.ldc2_w 41, 3) := by decide +kernel
theorem dX5_afterFrost_4 : decode cX5_afterFrost 4 = .ok (.land, 1) := by decide +kernel
theorem dX5_afterFrost_5 : decode cX5_afterFrost 5 = .ok (.iload_n 2, 1) := by decide +kernel
theorem dX5_afterFrost_6 : decode cX5_afterFrost 6 = .ok (.iconst 1, 1) := by decide +kernel
theorem dX5_afterFrost_7 : decode cX5_afterFrost 7 = .ok (.iand, 1) := by decide +kernel
theorem dX5_afterFrost_8 : decode cX5_afterFrost 8 = .ok (.i2l, 1) := by decide +kernel
theorem dX5_afterFrost_9 : decode cX5_afterFrost 9 = .ok (.bipush 36, 2) := by decide +kernel
theorem dX5_afterFrost_11 : decode cX5_afterFrost 11 = .ok (.lshl, 1) := by decide +kernel
theorem dX5_afterFrost_12 : decode cX5_afterFrost 12 = .ok (.lor, 1) := by decide +kernel
theorem dX5_afterFrost_13 : decode cX5_afterFrost 13 = .ok (.lreturn, 1) := by decide +kernel
theorem dX6_init_0 : decode cX6_init 0 = .ok (.aload_n 0, 1) := by decide +kernel
theorem dX6_init_1 : decode cX6_init 1 = .ok (.invokespecial 1, 3) := by decide +kernel
theorem dX6_init_4 : decode cX6_init 4 = .ok (.aload_n 0, 1) := by decide +kernel
theorem dX6_init_5 : decode cX6_init 5 = .ok (.new 7, 3) := by decide +kernel
theorem dX6_init_8 : decode cX6_init 8 = .ok (.dup, 1) := by decide +kernel
theorem dX6_init_9 : decode cX6_init 9 = .ok (.bipush 6, 2) := by decide +kernel
theorem dX6_init_11 : decode cX6_init 11 = .ok (.bipush 40, 2) := by decide +kernel
theorem dX6_init_13 : decode cX6_init 13 = .ok (.iconst 0, 1) := by decide +kernel
theorem dX6_init_14 : decode cX6_init 14 = .ok (.invokespecial 11, 3) := by decide +kernel
theorem dX6_init_17 : decode cX6_init 17 = .ok (.putfield 14, 3) := by decide +kernel
theorem dX6_init_20 : decode cX6_init 20 = .ok (.aload_n 0, 1) := by decide +kernel
theorem dX6_init_21 : decode cX6_init 21 = .ok (.new 7, 3) := by decide +kernel
theorem dX6_init_24 : decode cX6_init 24 = .ok (.dup, 1) := by decide +kernel
theorem dX6_init_25 : decode cX6_init 25 = .ok (.iconst 4, 1) := by decide +kernel
theorem dX6_init_26 : decode cX6_init 26 = .ok (.bipush 60, 2) := by decide +kernel
theorem dX6_init_28 : decode cX6_init 28 = .ok (.bipush 32, 2) := by decide +kernel
theorem dX6_init_30 : decode cX6_init 30 = .ok (.invokespecial 11, 3) := by decide +kernel
theorem dX6_init_33 : decode cX6_init 33 = .ok (.putfield 18, 3) := by decide +kernel
theorem dX6_init_36 : decode cX6_init 36 = .ok (.aload_n 0, 1) := by decide +kernel
theorem dX6_init_37 : decode cX6_init 37 = .ok (.new 21, 3) := by decide +kernel
theorem dX6_init_40 : decode cX6_init 40 = .ok (.dup, 1) := by decide +kernel
theorem dX6_init_41 : decode cX6_init 41 = .ok (.invokespecial 23, 3) := by decide +kernel
theorem dX6_init_44 : decode cX6_init 44 = .ok (.putfield 24, 3) := by decide +kernel
theorem dX6_init_47 : decode cX6_init 47 = .ok (.aload_n 0, 1) := by decide +kernel
theorem dX6_init_48 : decode cX6_init 48 = .ok (.new 28, 3) := by decide +kernel
theorem dX6_init_51 : decode cX6_init 51 = .ok (.dup, 1) := by decide +kernel
theorem dX6_init_52 : decode cX6_init 52 = .ok (.invokespecial 30, 3) := by decide +kernel
theorem dX6_init_55 : decode cX6_init 55 = .ok (.putfield 31, 3) := by decide +kernel
theorem dX6_init_58 : decode cX6_init 58 = .ok (.aload_n 0, 1) := by decide +kernel
theorem dX6_init_59 : decode cX6_init 59 = .ok (.iconst 4, 1) := by decide +kernel
theorem dX6_init_60 : decode cX6_init 60 = .ok (.newarray .int, 2) := by decide +kernel
theorem dX6_init_62 : decode cX6_init 62 = .ok (.putfield 35, 3) := by decide +kernel
theorem dX6_init_65 : decode cX6_init 65 = .ok (.aload_n 0, 1) := by decide +kernel
theorem dX6_init_66 : decode cX6_init 66 = .ok (.bipush 6, 2) := by decide +kernel
theorem dX6_init_68 : decode cX6_init 68 = .ok (.newarray .int, 2) := by decide +kernel
theorem dX6_init_70 : decode cX6_init 70 = .ok (.putfield 39, 3) := by decide +kernel
theorem dX6_init_73 : decode cX6_init 73 = .ok (.aload_n 0, 1) := by decide +kernel
theorem dX6_init_74 : decode cX6_init 74 = .ok (.new 42, 3) := by decide +kernel
theorem dX6_init_77 : decode cX6_init 77 = .ok (.dup, 1) := by decide +kernel
theorem dX6_init_78 : decode cX6_init 78 = .ok (.invokespecial 44, 3) := by decide +kernel
theorem dX6_init_81 : decode cX6_init 81 = .ok (.putfield 45, 3) := by decide +kernel
theorem dX6_init_84 : decode cX6_init 84 = .ok (.aload_n 0, 1) := by decide +kernel
theorem dX6_init_85 : decode cX6_init 85 = .ok (.new 42, 3) := by decide +kernel
theorem dX6_init_88 : decode cX6_init 88 = .ok (.dup, 1) := by decide +kernel
theorem dX6_init_89 : decode cX6_init 89 = .ok (.invokespecial 44, 3) := by decide +kernel
theorem dX6_init_92 : decode cX6_init 92 = .ok (.putfield 49, 3) := by decide +kernel
theorem dX6_init_95 : decode cX6_init 95 = .ok (.aload_n 0, 1) := by decide +kernel
theorem dX6_init_96 : decode cX6_init 96 = .ok (.iconst 0, 1) := by decide +kernel
theorem dX6_init_97 : decode cX6_init 97 = .ok (.putfield 52, 3) := by decide +kernel
theorem dX6_init_100 : decode cX6_init 100 = .ok (.aload_n 0, 1) := by decide +kernel
theorem dX6_init_101 : decode cX6_init 101 = .ok (.iconst 0, 1) := by decide +kernel
theorem dX6_init_102 : decode cX6_init 102 = .ok (.putfield 56, 3) := by decide +kernel
theorem dX6_init_105 : decode cX6_init 105 = .ok (.aload_n 0, 1) := by decide +kernel
theorem dX6_init_106 : decode cX6_init 106 = .ok (.lconst 0, 1) := by decide +kernel
theorem dX6_init_107 : decode cX6_init 107 = .ok (.putfield 59, 3) := by decide +kernel
theorem dX6_init_110 : decode cX6_init 110 = .ok (.aload_n 0, 1) := by decide +kernel
theorem dX6_init_111 : decode cX6_init 111 = .ok (.lconst 1, 1) := by decide +kernel
theorem dX6_init_112 : decode cX6_init 112 = .ok (.putfield 63, 3) := by decide +kernel
theorem dX6_init_115 : decode cX6_init 115 = .ok (.return_, 1) := by decide +kernel
theorem dX6_row_0 : decode cX6_row 0 = .ok (.aload_n 0, 1) := by decide +kernel
theorem dX6_row_1 : decode cX6_row 1 = .ok (.aload_n 0, 1) := by decide +kernel
theorem dX6_row_2 : decode cX6_row 2 = .ok (.getfield 14, 3) := by decide +kernel
theorem dX6_row_5 : decode cX6_row 5 = .ok (.iload_n 1, 1) := by decide +kernel
theorem dX6_row_6 : decode cX6_row 6 = .ok (.iload_n 2, 1) := by decide +kernel
theorem dX6_row_7 : decode cX6_row 7 = .ok (.invokevirtual 66, 3) := by decide +kernel
theorem dX6_row_10 : decode cX6_row 10 = .ok (.ireturn, 1) := by decide +kernel
theorem dX6_lay_0 : decode cX6_lay 0 = .ok (.aload_n 0, 1) := by decide +kernel
theorem dX6_lay_1 : decode cX6_lay 1 = .ok (.aload_n 0, 1) := by decide +kernel
theorem dX6_lay_2 : decode cX6_lay 2 = .ok (.getfield 14, 3) := by decide +kernel
theorem dX6_lay_5 : decode cX6_lay 5 = .ok (.iload_n 1, 1) := by decide +kernel
theorem dX6_lay_6 : decode cX6_lay 6 = .ok (.iload_n 2, 1) := by decide +kernel
theorem dX6_lay_7 : decode cX6_lay 7 = .ok (.invokevirtual 70, 3) := by decide +kernel
theorem dX6_lay_10 : decode cX6_lay 10 = .ok (.istore 4, 2) := by decide +kernel
theorem dX6_lay_12 : decode cX6_lay 12 = .ok (.iload 4, 2) := by decide +kernel
theorem dX6_lay_14 : decode cX6_lay 14 = .ok (.ifCond .eq 6, 3) := by decide +kernel
theorem dX6_lay_17 : decode cX6_lay 17 = .ok (.iload 4, 2) := by decide +kernel
theorem dX6_lay_19 : decode cX6_lay 19 = .ok (.ireturn, 1) := by decide +kernel
theorem dX6_lay_20 : decode cX6_lay 20 = .ok (.aload_n 0, 1) := by decide +kernel
theorem dX6_lay_21 : decode cX6_lay 21 = .ok (.getfield 14, 3) := by decide +kernel
theorem dX6_lay_24 : decode cX6_lay 24 = .ok (.iload_n 1, 1) := by decide +kernel
theorem dX6_lay_25 : decode cX6_lay 25 = .ok (.iload_n 2, 1) := by decide +kernel
theorem dX6_lay_26 : decode cX6_lay 26 = .ok (.invokevirtual 73, 3) := by decide +kernel
theorem dX6_lay_29 : decode cX6_lay 29 = .ok (.istore 5, 2) := by decide +kernel
theorem dX6_lay_31 : decode cX6_lay 31 = .ok (.aload_n 0, 1) := by decide +kernel
theorem dX6_lay_32 : decode cX6_lay 32 = .ok (.getfield 14, 3) := by decide +kernel
theorem dX6_lay_35 : decode cX6_lay 35 = .ok (.iload_n 1, 1) := by decide +kernel
theorem dX6_lay_36 : decode cX6_lay 36 = .ok (.iload_n 2, 1) := by decide +kernel
theorem dX6_lay_37 : decode cX6_lay 37 = .ok (.iload_n 3, 1) := by decide +kernel
theorem dX6_lay_38 : decode cX6_lay 38 = .ok (.invokevirtual 77, 3) := by decide +kernel
theorem dX6_lay_41 : decode cX6_lay 41 = .ok (.aload_n 0, 1) := by decide +kernel
theorem dX6_lay_42 : decode cX6_lay 42 = .ok (.iload 5, 2) := by decide +kernel
theorem dX6_lay_44 : decode cX6_lay 44 = .ok (.invokevirtual 80, 3) := by decide +kernel
theorem dX6_lay_47 : decode cX6_lay 47 = .ok (.ireturn, 1) := by decide +kernel
theorem dX6_at_0 : decode cX6_at 0 = .ok (.aload_n 0, 1) := by decide +kernel
theorem dX6_at_1 : decode cX6_at 1 = .ok (.aload_n 0, 1) := by decide +kernel
theorem dX6_at_2 : decode cX6_at 2 = .ok (.getfield 14, 3) := by decide +kernel
theorem dX6_at_5 : decode cX6_at 5 = .ok (.iload_n 1, 1) := by decide +kernel
theorem dX6_at_6 : decode cX6_at 6 = .ok (.iload_n 2, 1) := by decide +kernel
theorem dX6_at_7 : decode cX6_at 7 = .ok (.invokevirtual 70, 3) := by decide +kernel
theorem dX6_at_10 : decode cX6_at 10 = .ok (.istore_n 3, 1) := by decide +kernel
theorem dX6_at_11 : decode cX6_at 11 = .ok (.iload_n 3, 1) := by decide +kernel
theorem dX6_at_12 : decode cX6_at 12 = .ok (.ifCond .eq 7, 3) := by decide +kernel
theorem dX6_at_15 : decode cX6_at 15 = .ok (.iload_n 3, 1) := by decide +kernel
theorem dX6_at_16 : decode cX6_at 16 = .ok (.goto 16, 3) := by decide +kernel
theorem dX6_at_19 : decode cX6_at 19 = .ok (.aload_n 0, 1) := by decide +kernel
theorem dX6_at_20 : decode cX6_at 20 = .ok (.aload_n 0, 1) := by decide +kernel
theorem dX6_at_21 : decode cX6_at 21 = .ok (.getfield 14, 3) := by decide +kernel
theorem dX6_at_24 : decode cX6_at 24 = .ok (.iload_n 1, 1) := by decide +kernel
theorem dX6_at_25 : decode cX6_at 25 = .ok (.iload_n 2, 1) := by decide +kernel
theorem dX6_at_26 : decode cX6_at 26 = .ok (.invokevirtual 73, 3) := by decide +kernel
theorem dX6_at_29 : decode cX6_at 29 = .ok (.invokevirtual 80, 3) := by decide +kernel
theorem dX6_at_32 : decode cX6_at 32 = .ok (.ireturn, 1) := by decide +kernel
theorem dX6_tear_0 : decode cX6_tear 0 = .ok (.aload_n 0, 1) := by decide +kernel
theorem dX6_tear_1 : decode cX6_tear 1 = .ok (.aload_n 0, 1) := by decide +kernel
theorem dX6_tear_2 : decode cX6_tear 2 = .ok (.getfield 14, 3) := by decide +kernel
theorem dX6_tear_5 : decode cX6_tear 5 = .ok (.iload_n 1, 1) := by decide +kernel
theorem dX6_tear_6 : decode cX6_tear 6 = .ok (.invokevirtual 84, 3) := by decide +kernel
theorem dX6_tear_9 : decode cX6_tear 9 = .ok (.istore_n 2, 1) := by decide +kernel
theorem dX6_tear_10 : decode cX6_tear 10 = .ok (.iload_n 2, 1) := by decide +kernel
theorem dX6_tear_11 : decode cX6_tear 11 = .ok (.ifCond .eq 5, 3) := by decide +kernel
theorem dX6_tear_14 : decode cX6_tear 14 = .ok (.iload_n 2, 1) := by decide +kernel
theorem dX6_tear_15 : decode cX6_tear 15 = .ok (.ireturn, 1) := by decide +kernel
theorem dX6_tear_16 : decode cX6_tear 16 = .ok (.aload_n 0, 1) := by decide +kernel
theorem dX6_tear_17 : decode cX6_tear 17 = .ok (.getfield 14, 3) := by decide +kernel
theorem dX6_tear_20 : decode cX6_tear 20 = .ok (.iload_n 1, 1) := by decide +kernel
theorem dX6_tear_21 : decode cX6_tear 21 = .ok (.invokevirtual 88, 3) := by decide +kernel
theorem dX6_tear_24 : decode cX6_tear 24 = .ok (.iconst 1, 1) := by decide +kernel
theorem dX6_tear_25 : decode cX6_tear 25 = .ok (.ireturn, 1) := by decide +kernel
theorem dX6_copy_0 : decode cX6_copy 0 = .ok (.aload_n 0, 1) := by decide +kernel
theorem dX6_copy_1 : decode cX6_copy 1 = .ok (.getfield 14, 3) := by decide +kernel
theorem dX6_copy_4 : decode cX6_copy 4 = .ok (.iload_n 1, 1) := by decide +kernel
theorem dX6_copy_5 : decode cX6_copy 5 = .ok (.invokevirtual 92, 3) := by decide +kernel
theorem dX6_copy_8 : decode cX6_copy 8 = .ok (.ifCond .eq 14, 3) := by decide +kernel
theorem dX6_copy_11 : decode cX6_copy 11 = .ok (.aload_n 0, 1) := by decide +kernel
theorem dX6_copy_12 : decode cX6_copy 12 = .ok (.getfield 14, 3) := by decide +kernel
theorem dX6_copy_15 : decode cX6_copy 15 = .ok (.iload_n 3, 1) := by decide +kernel
theorem dX6_copy_16 : decode cX6_copy 16 = .ok (.invokevirtual 92, 3) := by decide +kernel
theorem dX6_copy_19 : decode cX6_copy 19 = .ok (.ifCond .ne 5, 3) := by decide +kernel
theorem dX6_copy_22 : decode cX6_copy 22 = .ok (.iconst (-1), 1) := by decide +kernel
theorem dX6_copy_23 : decode cX6_copy 23 = .ok (.ireturn, 1) := by decide +kernel
theorem dX6_copy_24 : decode cX6_copy 24 = .ok (.iload 5, 2) := by decide +kernel
theorem dX6_copy_26 : decode cX6_copy 26 = .ok (.ifCond .ge 9, 3) := by decide +kernel
theorem dX6_copy_29 : decode cX6_copy 29 = .ok (.aload_n 0, 1) := by decide +kernel
theorem dX6_copy_30 : decode cX6_copy 30 = .ok (.iconst 5, 1) := by decide +kernel
theorem dX6_copy_31 : decode cX6_copy 31 = .ok (.invokevirtual 96, 3) := by decide +kernel
theorem dX6_copy_34 : decode cX6_copy 34 = .ok (.ireturn, 1) := by decide +kernel
theorem dX6_copy_35 : decode cX6_copy 35 = .ok (.aload_n 0, 1) := by decide +kernel
theorem dX6_copy_36 : decode cX6_copy 36 = .ok (.getfield 14, 3) := by decide +kernel
theorem dX6_copy_39 : decode cX6_copy 39 = .ok (.iload_n 1, 1) := by decide +kernel
theorem dX6_copy_40 : decode cX6_copy 40 = .ok (.invokevirtual 99, 3) := by decide +kernel
theorem dX6_copy_43 : decode cX6_copy 43 = .ok (.ifCond .eq 14, 3) := by decide +kernel
theorem dX6_copy_46 : decode cX6_copy 46 = .ok (.aload_n 0, 1) := by decide +kernel
theorem dX6_copy_47 : decode cX6_copy 47 = .ok (.getfield 14, 3) := by decide +kernel
theorem dX6_copy_50 : decode cX6_copy 50 = .ok (.iload_n 3, 1) := by decide +kernel
theorem dX6_copy_51 : decode cX6_copy 51 = .ok (.invokevirtual 99, 3) := by decide +kernel
theorem dX6_copy_54 : decode cX6_copy 54 = .ok (.ifCond .ne 9, 3) := by decide +kernel
theorem dX6_copy_57 : decode cX6_copy 57 = .ok (.aload_n 0, 1) := by decide +kernel
theorem dX6_copy_58 : decode cX6_copy 58 = .ok (.iconst 1, 1) := by decide +kernel
theorem dX6_copy_59 : decode cX6_copy 59 = .ok (.invokevirtual 96, 3) := by decide +kernel
theorem dX6_copy_62 : decode cX6_copy 62 = .ok (.ireturn, 1) := by decide +kernel
theorem dX6_copy_63 : decode cX6_copy 63 = .ok (.aload_n 0, 1) := by decide +kernel
theorem dX6_copy_64 : decode cX6_copy 64 = .ok (.getfield 14, 3) := by decide +kernel
theorem dX6_copy_67 : decode cX6_copy 67 = .ok (.iload_n 1, 1) := by decide +kernel
theorem dX6_copy_68 : decode cX6_copy 68 = .ok (.iload_n 2, 1) := by decide +kernel
theorem dX6_copy_69 : decode cX6_copy 69 = .ok (.iload 5, 2) := by decide +kernel
theorem dX6_copy_71 : decode cX6_copy 71 = .ok (.invokevirtual 102, 3) := by decide +kernel
theorem dX6_copy_74 : decode cX6_copy 74 = .ok (.ifCond .eq 18, 3) := by decide +kernel
theorem dX6_copy_77 : decode cX6_copy 77 = .ok (.aload_n 0, 1) := by decide +kernel
theorem dX6_copy_78 : decode cX6_copy 78 = .ok (.getfield 14, 3) := by decide +kernel
theorem dX6_copy_81 : decode cX6_copy 81 = .ok (.iload_n 3, 1) := by decide +kernel
theorem dX6_copy_82 : decode cX6_copy 82 = .ok (.iload 4, 2) := by decide +kernel
theorem dX6_copy_84 : decode cX6_copy 84 = .ok (.iload 5, 2) := by decide +kernel
theorem dX6_copy_86 : decode cX6_copy 86 = .ok (.invokevirtual 102, 3) := by decide +kernel
theorem dX6_copy_89 : decode cX6_copy 89 = .ok (.ifCond .ne 9, 3) := by decide +kernel
theorem dX6_copy_92 : decode cX6_copy 92 = .ok (.aload_n 0, 1) := by decide +kernel
theorem dX6_copy_93 : decode cX6_copy 93 = .ok (.iconst 2, 1) := by decide +kernel
theorem dX6_copy_94 : decode cX6_copy 94 = .ok (.invokevirtual 96, 3) := by decide +kernel
theorem dX6_copy_97 : decode cX6_copy 97 = .ok (.ireturn, 1) := by decide +kernel
theorem dX6_copy_98 : decode cX6_copy 98 = .ok (.aload_n 0, 1) := by decide +kernel
theorem dX6_copy_99 : decode cX6_copy 99 = .ok (.getfield 14, 3) := by decide +kernel
theorem dX6_copy_102 : decode cX6_copy 102 = .ok (.iload_n 1, 1) := by decide +kernel
theorem dX6_copy_103 : decode cX6_copy 103 = .ok (.iload_n 2, 1) := by decide +kernel
theorem dX6_copy_104 : decode cX6_copy 104 = .ok (.iload_n 3, 1) := by decide +kernel
theorem dX6_copy_105 : decode cX6_copy 105 = .ok (.iload 4, 2) := by decide +kernel
theorem dX6_copy_107 : decode cX6_copy 107 = .ok (.iload 5, 2) := by decide +kernel
theorem dX6_copy_109 : decode cX6_copy 109 = .ok (.invokevirtual 106, 3) := by decide +kernel
theorem dX6_copy_112 : decode cX6_copy 112 = .ok (.iconst 1, 1) := by decide +kernel
theorem dX6_copy_113 : decode cX6_copy 113 = .ok (.ireturn, 1) := by decide +kernel
theorem dX6_mean_0 : decode cX6_mean 0 = .ok (.aload_n 0, 1) := by decide +kernel
theorem dX6_mean_1 : decode cX6_mean 1 = .ok (.aload_n 0, 1) := by decide +kernel
theorem dX6_mean_2 : decode cX6_mean 2 = .ok (.getfield 14, 3) := by decide +kernel
theorem dX6_mean_5 : decode cX6_mean 5 = .ok (.iload_n 1, 1) := by decide +kernel
theorem dX6_mean_6 : decode cX6_mean 6 = .ok (.invokevirtual 84, 3) := by decide +kernel
theorem dX6_mean_9 : decode cX6_mean 9 = .ok (.istore_n 2, 1) := by decide +kernel
theorem dX6_mean_10 : decode cX6_mean 10 = .ok (.iload_n 2, 1) := by decide +kernel
theorem dX6_mean_11 : decode cX6_mean 11 = .ok (.ifCond .eq 5, 3) := by decide +kernel
theorem dX6_mean_14 : decode cX6_mean 14 = .ok (.iload_n 2, 1) := by decide +kernel
theorem dX6_mean_15 : decode cX6_mean 15 = .ok (.ireturn, 1) := by decide +kernel
theorem dX6_mean_16 : decode cX6_mean 16 = .ok (.aload_n 0, 1) := by decide +kernel
theorem dX6_mean_17 : decode cX6_mean 17 = .ok (.getfield 14, 3) := by decide +kernel
theorem dX6_mean_20 : decode cX6_mean 20 = .ok (.iload_n 1, 1) := by decide +kernel
theorem dX6_mean_21 : decode cX6_mean 21 = .ok (.invokevirtual 110, 3) := by decide +kernel
theorem dX6_mean_24 : decode cX6_mean 24 = .ok (.istore_n 3, 1) := by decide +kernel
theorem dX6_mean_25 : decode cX6_mean 25 = .ok (.iload_n 3, 1) := by decide +kernel
theorem dX6_mean_26 : decode cX6_mean 26 = .ok (.ifCond .gt 9, 3) := by decide +kernel
theorem dX6_mean_29 : decode cX6_mean 29 = .ok (.aload_n 0, 1) := by decide +kernel
theorem dX6_mean_30 : decode cX6_mean 30 = .ok (.iconst 4, 1) := by decide +kernel
theorem dX6_mean_31 : decode cX6_mean 31 = .ok (.invokevirtual 96, 3) := by decide +kernel
theorem dX6_mean_34 : decode cX6_mean 34 = .ok (.ireturn, 1) := by decide +kernel
theorem dX6_mean_35 : decode cX6_mean 35 = .ok (.aload_n 0, 1) := by decide +kernel
theorem dX6_mean_36 : decode cX6_mean 36 = .ok (.aload_n 0, 1) := by decide +kernel
theorem dX6_mean_37 : decode cX6_mean 37 = .ok (.getfield 14, 3) := by decide +kernel
theorem dX6_mean_40 : decode cX6_mean 40 = .ok (.iload_n 1, 1) := by decide +kernel
theorem dX6_mean_41 : decode cX6_mean 41 = .ok (.invokevirtual 113, 3) := by decide +kernel
theorem dX6_mean_44 : decode cX6_mean 44 = .ok (.iload_n 3, 1) := by decide +kernel
theorem dX6_mean_45 : decode cX6_mean 45 = .ok (.i2l, 1) := by decide +kernel
theorem dX6_mean_46 : decode cX6_mean 46 = .ok (.ldiv, 1) := by decide +kernel
theorem dX6_mean_47 : decode cX6_mean 47 = .ok (.l2i, 1) := by decide +kernel
theorem dX6_mean_48 : decode cX6_mean 48 = .ok (.invokevirtual 80, 3) := by decide +kernel
theorem dX6_mean_51 : decode cX6_mean 51 = .ok (.ireturn, 1) := by decide +kernel
theorem dX6_text_0 : decode cX6_text 0 = .ok (.aload_n 0, 1) := by decide +kernel
theorem dX6_text_1 : decode cX6_text 1 = .ok (.aload_n 0, 1) := by decide +kernel
theorem dX6_text_2 : decode cX6_text 2 = .ok (.getfield 18, 3) := by decide +kernel
theorem dX6_text_5 : decode cX6_text 5 = .ok (.iload_n 1, 1) := by decide +kernel
theorem dX6_text_6 : decode cX6_text 6 = .ok (.iload_n 2, 1) := by decide +kernel
theorem dX6_text_7 : decode cX6_text 7 = .ok (.invokevirtual 66, 3) := by decide +kernel
theorem dX6_text_10 : decode cX6_text 10 = .ok (.ireturn, 1) := by decide +kernel
theorem dX6_put_0 : decode cX6_put 0 = .ok (.aload_n 0, 1) := by decide +kernel
theorem dX6_put_1 : decode cX6_put 1 = .ok (.aload_n 0, 1) := by decide +kernel
theorem dX6_put_2 : decode cX6_put 2 = .ok (.getfield 18, 3) := by decide +kernel
theorem dX6_put_5 : decode cX6_put 5 = .ok (.iload_n 1, 1) := by decide +kernel
theorem dX6_put_6 : decode cX6_put 6 = .ok (.iload_n 2, 1) := by decide +kernel
theorem dX6_put_7 : decode cX6_put 7 = .ok (.invokevirtual 70, 3) := by decide +kernel
theorem dX6_put_10 : decode cX6_put 10 = .ok (.istore 4, 2) := by decide +kernel
theorem dX6_put_12 : decode cX6_put 12 = .ok (.iload 4, 2) := by decide +kernel
theorem dX6_put_14 : decode cX6_put 14 = .ok (.ifCond .eq 6, 3) := by decide +kernel
theorem dX6_put_17 : decode cX6_put 17 = .ok (.iload 4, 2) := by decide +kernel
theorem dX6_put_19 : decode cX6_put 19 = .ok (.ireturn, 1) := by decide +kernel
theorem dX6_put_20 : decode cX6_put 20 = .ok (.aload_n 0, 1) := by decide +kernel
theorem dX6_put_21 : decode cX6_put 21 = .ok (.getfield 18, 3) := by decide +kernel
theorem dX6_put_24 : decode cX6_put 24 = .ok (.iload_n 1, 1) := by decide +kernel
theorem dX6_put_25 : decode cX6_put 25 = .ok (.iload_n 2, 1) := by decide +kernel
theorem dX6_put_26 : decode cX6_put 26 = .ok (.invokevirtual 73, 3) := by decide +kernel
theorem dX6_put_29 : decode cX6_put 29 = .ok (.istore 5, 2) := by decide +kernel
theorem dX6_put_31 : decode cX6_put 31 = .ok (.aload_n 0, 1) := by decide +kernel
theorem dX6_put_32 : decode cX6_put 32 = .ok (.getfield 18, 3) := by decide +kernel
theorem dX6_put_35 : decode cX6_put 35 = .ok (.iload_n 1, 1) := by decide +kernel
theorem dX6_put_36 : decode cX6_put 36 = .ok (.iload_n 2, 1) := by decide +kernel
theorem dX6_put_37 : decode cX6_put 37 = .ok (.iload_n 3, 1) := by decide +kernel
theorem dX6_put_38 : decode cX6_put 38 = .ok (.i2b, 1) := by decide +kernel
theorem dX6_put_39 : decode cX6_put 39 = .ok (.invokevirtual 77, 3) := by decide +kernel
theorem dX6_put_42 : decode cX6_put 42 = .ok (.iload 5, 2) := by decide +kernel
theorem dX6_put_44 : decode cX6_put 44 = .ok (.sipush 1000, 3) := by decide +kernel
theorem dX6_put_47 : decode cX6_put 47 = .ok (.iadd, 1) := by decide +kernel
theorem dX6_put_48 : decode cX6_put 48 = .ok (.ireturn, 1) := by decide +kernel
theorem dX6_fault_0 : decode cX6_fault 0 = .ok (.aload_n 0, 1) := by decide +kernel
theorem dX6_fault_1 : decode cX6_fault 1 = .ok (.aload_n 0, 1) := by decide +kernel
theorem dX6_fault_2 : decode cX6_fault 2 = .ok (.getfield 18, 3) := by decide +kernel
theorem dX6_fault_5 : decode cX6_fault 5 = .ok (.iload_n 1, 1) := by decide +kernel
theorem dX6_fault_6 : decode cX6_fault 6 = .ok (.invokevirtual 84, 3) := by decide +kernel
theorem dX6_fault_9 : decode cX6_fault 9 = .ok (.istore_n 2, 1) := by decide +kernel
theorem dX6_fault_10 : decode cX6_fault 10 = .ok (.iload_n 2, 1) := by decide +kernel
theorem dX6_fault_11 : decode cX6_fault 11 = .ok (.ifCond .eq 7, 3) := by decide +kernel
theorem dX6_fault_14 : decode cX6_fault 14 = .ok (.iload_n 2, 1) := by decide +kernel
theorem dX6_fault_15 : decode cX6_fault 15 = .ok (.goto 19, 3) := by decide +kernel
theorem dX6_fault_18 : decode cX6_fault 18 = .ok (.aload_n 0, 1) := by decide +kernel
theorem dX6_fault_19 : decode cX6_fault 19 = .ok (.getfield 24, 3) := by decide +kernel
theorem dX6_fault_22 : decode cX6_fault 22 = .ok (.aload_n 0, 1) := by decide +kernel
theorem dX6_fault_23 : decode cX6_fault 23 = .ok (.getfield 18, 3) := by decide +kernel
theorem dX6_fault_26 : decode cX6_fault 26 = .ok (.iload_n 1, 1) := by decide +kernel
theorem dX6_fault_27 : decode cX6_fault 27 = .ok (.aload_n 0, 1) := by decide +kernel
theorem dX6_fault_28 : decode cX6_fault 28 = .ok (.getfield 49, 3) := by decide +kernel
theorem dX6_fault_31 : decode cX6_fault 31 = .ok (.invokevirtual 117, 3) := by decide +kernel
theorem dX6_fault_34 : decode cX6_fault 34 = .ok (.ireturn, 1) := by decide +kernel
theorem dX6_court_0 : decode cX6_court 0 = .ok (.aload_n 0, 1) := by decide +kernel
theorem dX6_court_1 : decode cX6_court 1 = .ok (.aload_n 0, 1) := by decide +kernel
theorem dX6_court_2 : decode cX6_court 2 = .ok (.getfield 18, 3) := by decide +kernel
theorem dX6_court_5 : decode cX6_court 5 = .ok (.iload_n 1, 1) := by decide +kernel
theorem dX6_court_6 : decode cX6_court 6 = .ok (.invokevirtual 84, 3) := by decide +kernel
theorem dX6_court_9 : decode cX6_court 9 = .ok (.istore_n 2, 1) := by decide +kernel
theorem dX6_court_10 : decode cX6_court 10 = .ok (.iload_n 2, 1) := by decide +kernel
theorem dX6_court_11 : decode cX6_court 11 = .ok (.ifCond .eq 5, 3) := by decide +kernel
theorem dX6_court_14 : decode cX6_court 14 = .ok (.iload_n 2, 1) := by decide +kernel
theorem dX6_court_15 : decode cX6_court 15 = .ok (.ireturn, 1) := by decide +kernel
theorem dX6_court_16 : decode cX6_court 16 = .ok (.aload_n 0, 1) := by decide +kernel
theorem dX6_court_17 : decode cX6_court 17 = .ok (.getfield 24, 3) := by decide +kernel
theorem dX6_court_20 : decode cX6_court 20 = .ok (.aload_n 0, 1) := by decide +kernel
theorem dX6_court_21 : decode cX6_court 21 = .ok (.getfield 18, 3) := by decide +kernel
theorem dX6_court_24 : decode cX6_court 24 = .ok (.iload_n 1, 1) := by decide +kernel
theorem dX6_court_25 : decode cX6_court 25 = .ok (.aload_n 0, 1) := by decide +kernel
theorem dX6_court_26 : decode cX6_court 26 = .ok (.getfield 49, 3) := by decide +kernel
theorem dX6_court_29 : decode cX6_court 29 = .ok (.invokevirtual 117, 3) := by decide +kernel
theorem dX6_court_32 : decode cX6_court 32 = .ok (.bipush (-9), 2) := by decide +kernel
theorem dX6_court_34 : decode cX6_court 34 = .ok (.if_icmp .eq 6, 3) := by decide +kernel
theorem dX6_court_37 : decode cX6_court 37 = .ok (.bipush (-4), 2) := by decide +kernel
theorem dX6_court_39 : decode cX6_court 39 = .ok (.ireturn, 1) := by decide +kernel
theorem dX6_court_40 : decode cX6_court 40 = .ok (.aload_n 0, 1) := by decide +kernel
theorem dX6_court_41 : decode cX6_court 41 = .ok (.getfield 49, 3) := by decide +kernel
theorem dX6_court_44 : decode cX6_court 44 = .ok (.astore_n 3, 1) := by decide +kernel
theorem dX6_court_45 : decode cX6_court 45 = .ok (.aload_n 0, 1) := by decide +kernel
theorem dX6_court_46 : decode cX6_court 46 = .ok (.aload_n 0, 1) := by decide +kernel
theorem dX6_court_47 : decode cX6_court 47 = .ok (.getfield 45, 3) := by decide +kernel
theorem dX6_court_50 : decode cX6_court 50 = .ok (.putfield 49, 3) := by decide +kernel
theorem dX6_court_53 : decode cX6_court 53 = .ok (.aload_n 0, 1) := by decide +kernel
theorem dX6_court_54 : decode cX6_court 54 = .ok (.aload_n 3, 1) := by decide +kernel
theorem dX6_court_55 : decode cX6_court 55 = .ok (.putfield 45, 3) := by decide +kernel
theorem dX6_court_58 : decode cX6_court 58 = .ok (.aload_n 0, 1) := by decide +kernel
theorem dX6_court_59 : decode cX6_court 59 = .ok (.getfield 31, 3) := by decide +kernel
theorem dX6_court_62 : decode cX6_court 62 = .ok (.aload_n 0, 1) := by decide +kernel
theorem dX6_court_63 : decode cX6_court 63 = .ok (.getfield 45, 3) := by decide +kernel
theorem dX6_court_66 : decode cX6_court 66 = .ok (.getfield 121, 3) := by decide +kernel
theorem dX6_court_69 : decode cX6_court 69 = .ok (.invokevirtual 124, 3) := by decide +kernel
theorem dX6_court_72 : decode cX6_court 72 = .ok (.aload_n 0, 1) := by decide +kernel
theorem dX6_court_73 : decode cX6_court 73 = .ok (.getfield 45, 3) := by decide +kernel
theorem dX6_court_76 : decode cX6_court 76 = .ok (.getfield 128, 3) := by decide +kernel
theorem dX6_court_79 : decode cX6_court 79 = .ok (.ireturn, 1) := by decide +kernel
theorem dX6_rope_0 : decode cX6_rope 0 = .ok (.aload_n 0, 1) := by decide +kernel
theorem dX6_rope_1 : decode cX6_rope 1 = .ok (.getfield 45, 3) := by decide +kernel
theorem dX6_rope_4 : decode cX6_rope 4 = .ok (.iload_n 1, 1) := by decide +kernel
theorem dX6_rope_5 : decode cX6_rope 5 = .ok (.invokevirtual 131, 3) := by decide +kernel
theorem dX6_rope_8 : decode cX6_rope 8 = .ok (.ifCond .eq 12, 3) := by decide +kernel
theorem dX6_rope_11 : decode cX6_rope 11 = .ok (.iload_n 2, 1) := by decide +kernel
theorem dX6_rope_12 : decode cX6_rope 12 = .ok (.ifCond .lt 8, 3) := by decide +kernel
theorem dX6_rope_15 : decode cX6_rope 15 = .ok (.iload_n 2, 1) := by decide +kernel
theorem dX6_rope_16 : decode cX6_rope 16 = .ok (.iconst 5, 1) := by decide +kernel
theorem dX6_rope_17 : decode cX6_rope 17 = .ok (.if_icmp .le 5, 3) := by decide +kernel
theorem dX6_rope_20 : decode cX6_rope 20 = .ok (.iconst (-1), 1) := by decide +kernel
theorem dX6_rope_21 : decode cX6_rope 21 = .ok (.ireturn, 1) := by decide +kernel
theorem dX6_rope_22 : decode cX6_rope 22 = .ok (.aload_n 0, 1) := by decide +kernel
theorem dX6_rope_23 : decode cX6_rope 23 = .ok (.aload_n 0, 1) := by decide +kernel
theorem dX6_rope_24 : decode cX6_rope 24 = .ok (.iload_n 1, 1) := by decide +kernel
theorem dX6_rope_25 : decode cX6_rope 25 = .ok (.iload_n 2, 1) := by decide +kernel
theorem dX6_rope_26 : decode cX6_rope 26 = .ok (.invokevirtual 134, 3) := by decide +kernel
theorem dX6_rope_29 : decode cX6_rope 29 = .ok (.invokevirtual 80, 3) := by decide +kernel
theorem dX6_rope_32 : decode cX6_rope 32 = .ok (.ireturn, 1) := by decide +kernel
theorem dX6_mark_0 : decode cX6_mark 0 = .ok (.aload_n 0, 1) := by decide +kernel
theorem dX6_mark_1 : decode cX6_mark 1 = .ok (.getfield 45, 3) := by decide +kernel
theorem dX6_mark_4 : decode cX6_mark 4 = .ok (.iload_n 1, 1) := by decide +kernel
theorem dX6_mark_5 : decode cX6_mark 5 = .ok (.invokevirtual 131, 3) := by decide +kernel
theorem dX6_mark_8 : decode cX6_mark 8 = .ok (.ifCond .eq 13, 3) := by decide +kernel
theorem dX6_mark_11 : decode cX6_mark 11 = .ok (.iload_n 2, 1) := by decide +kernel
theorem dX6_mark_12 : decode cX6_mark 12 = .ok (.ifCond .le 9, 3) := by decide +kernel
theorem dX6_mark_15 : decode cX6_mark 15 = .ok (.iload_n 2, 1) := by decide +kernel
theorem dX6_mark_16 : decode cX6_mark 16 = .ok (.bipush 6, 2) := by decide +kernel
theorem dX6_mark_18 : decode cX6_mark 18 = .ok (.if_icmp .lt 5, 3) := by decide +kernel
theorem dX6_mark_21 : decode cX6_mark 21 = .ok (.iconst (-1), 1) := by decide +kernel
theorem dX6_mark_22 : decode cX6_mark 22 = .ok (.ireturn, 1) := by decide +kernel
theorem dX6_mark_23 : decode cX6_mark 23 = .ok (.aload_n 0, 1) := by decide +kernel
theorem dX6_mark_24 : decode cX6_mark 24 = .ok (.getfield 45, 3) := by decide +kernel
theorem dX6_mark_27 : decode cX6_mark 27 = .ok (.iload_n 1, 1) := by decide +kernel
theorem dX6_mark_28 : decode cX6_mark 28 = .ok (.invokevirtual 137, 3) := by decide +kernel
theorem dX6_mark_31 : decode cX6_mark 31 = .ok (.iload_n 2, 1) := by decide +kernel
theorem dX6_mark_32 : decode cX6_mark 32 = .ok (.invokestatic 140, 3) := by decide +kernel
theorem dX6_mark_35 : decode cX6_mark 35 = .ok (.ifCond .ne 9, 3) := by decide +kernel
theorem dX6_mark_38 : decode cX6_mark 38 = .ok (.aload_n 0, 1) := by decide +kernel
theorem dX6_mark_39 : decode cX6_mark 39 = .ok (.iconst 3, 1) := by decide +kernel
theorem dX6_mark_40 : decode cX6_mark 40 = .ok (.invokevirtual 96, 3) := by decide +kernel
theorem dX6_mark_43 : decode cX6_mark 43 = .ok (.ireturn, 1) := by decide +kernel
theorem dX6_mark_44 : decode cX6_mark 44 = .ok (.aload_n 0, 1) := by decide +kernel
theorem dX6_mark_45 : decode cX6_mark 45 = .ok (.getfield 31, 3) := by decide +kernel
theorem dX6_mark_48 : decode cX6_mark 48 = .ok (.invokevirtual 144, 3) := by decide +kernel
theorem dX6_mark_51 : decode cX6_mark 51 = .ok (.lstore_n 3, 1) := by decide +kernel
theorem dX6_mark_52 : decode cX6_mark 52 = .ok (.iload_n 2, 1) := by decide +kernel
theorem dX6_mark_53 : decode cX6_mark 53 = .ok (.tableswitch 107 1 4 #[31, 46, 81, 98], 31) := by decide +kernel
theorem dX6_mark_84 : decode cX6_mark 84 = .ok (.aload_n 0, 1) := by decide +kernel
theorem dX6_mark_85 : decode cX6_mark 85 = .ok (.getfield 45, 3) := by decide +kernel
theorem dX6_mark_88 : decode cX6_mark 88 = .ok (.iload_n 1, 1) := by decide +kernel
theorem dX6_mark_89 : decode cX6_mark 89 = .ok (.invokevirtual 148, 3) := by decide +kernel
theorem dX6_mark_92 : decode cX6_mark 92 = .ok (.lload_n 3, 1) := by decide +kernel
theorem dX6_mark_93 : decode cX6_mark 93 = .ok (.iload_n 1, 1) := by decide +kernel
theorem dX6_mark_94 : decode cX6_mark 94 = .ok (.invokestatic 151, 3) := by decide +kernel
theorem dX6_mark_97 : decode cX6_mark 97 = .ok (.isub, 1) := by decide +kernel
theorem dX6_mark_98 : decode cX6_mark 98 = .ok (.ireturn, 1) := by decide +kernel
theorem dX6_mark_99 : decode cX6_mark 99 = .ok (.aload_n 0, 1) := by decide +kernel
theorem dX6_mark_100 : decode cX6_mark 100 = .ok (.getfield 45, 3) := by decide +kernel
theorem dX6_mark_103 : decode cX6_mark 103 = .ok (.iload_n 1, 1) := by decide +kernel
theorem dX6_mark_104 : decode cX6_mark 104 = .ok (.invokevirtual 157, 3) := by decide +kernel
theorem dX6_mark_107 : decode cX6_mark 107 = .ok (.bipush (-9), 2) := by decide +kernel
theorem dX6_mark_109 : decode cX6_mark 109 = .ok (.if_icmp .ne 7, 3) := by decide +kernel
theorem dX6_mark_112 : decode cX6_mark 112 = .ok (.iconst 0, 1) := by decide +kernel
theorem dX6_mark_113 : decode cX6_mark 113 = .ok (.goto 20, 3) := by decide +kernel
theorem dX6_mark_116 : decode cX6_mark 116 = .ok (.aload_n 0, 1) := by decide +kernel
theorem dX6_mark_117 : decode cX6_mark 117 = .ok (.getfield 45, 3) := by decide +kernel
theorem dX6_mark_120 : decode cX6_mark 120 = .ok (.aload_n 0, 1) := by decide +kernel
theorem dX6_mark_121 : decode cX6_mark 121 = .ok (.getfield 45, 3) := by decide +kernel
theorem dX6_mark_124 : decode cX6_mark 124 = .ok (.iload_n 1, 1) := by decide +kernel
theorem dX6_mark_125 : decode cX6_mark 125 = .ok (.invokevirtual 157, 3) := by decide +kernel
theorem dX6_mark_128 : decode cX6_mark 128 = .ok (.invokevirtual 160, 3) := by decide +kernel
theorem dX6_mark_131 : decode cX6_mark 131 = .ok (.iconst 1, 1) := by decide +kernel
theorem dX6_mark_132 : decode cX6_mark 132 = .ok (.isub, 1) := by decide +kernel
theorem dX6_mark_133 : decode cX6_mark 133 = .ok (.ireturn, 1) := by decide +kernel
theorem dX6_mark_134 : decode cX6_mark 134 = .ok (.aload_n 0, 1) := by decide +kernel
theorem dX6_mark_135 : decode cX6_mark 135 = .ok (.getfield 45, 3) := by decide +kernel
theorem dX6_mark_138 : decode cX6_mark 138 = .ok (.iload_n 1, 1) := by decide +kernel
theorem dX6_mark_139 : decode cX6_mark 139 = .ok (.invokevirtual 137, 3) := by decide +kernel
theorem dX6_mark_142 : decode cX6_mark 142 = .ok (.lload_n 3, 1) := by decide +kernel
theorem dX6_mark_143 : decode cX6_mark 143 = .ok (.iload_n 1, 1) := by decide +kernel
theorem dX6_mark_144 : decode cX6_mark 144 = .ok (.invokestatic 151, 3) := by decide +kernel
theorem dX6_mark_147 : decode cX6_mark 147 = .ok (.invokestatic 163, 3) := by decide +kernel
theorem dX6_mark_150 : decode cX6_mark 150 = .ok (.ireturn, 1) := by decide +kernel
theorem dX6_mark_151 : decode cX6_mark 151 = .ok (.aload_n 0, 1) := by decide +kernel
theorem dX6_mark_152 : decode cX6_mark 152 = .ok (.getfield 45, 3) := by decide +kernel
theorem dX6_mark_155 : decode cX6_mark 155 = .ok (.iload_n 1, 1) := by decide +kernel
theorem dX6_mark_156 : decode cX6_mark 156 = .ok (.invokevirtual 160, 3) := by decide +kernel
theorem dX6_mark_159 : decode cX6_mark 159 = .ok (.ireturn, 1) := by decide +kernel
theorem dX6_mark_160 : decode cX6_mark 160 = .ok (.lload_n 3, 1) := by decide +kernel
theorem dX6_mark_161 : decode cX6_mark 161 = .ok (.invokestatic 166, 3) := by decide +kernel
theorem dX6_mark_164 : decode cX6_mark 164 = .ok (.iconst 1, 1) := by decide +kernel
theorem dX6_mark_165 : decode cX6_mark 165 = .ok (.iload_n 1, 1) := by decide +kernel
theorem dX6_mark_166 : decode cX6_mark 166 = .ok (.ishl, 1) := by decide +kernel
theorem dX6_mark_167 : decode cX6_mark 167 = .ok (.iconst (-1), 1) := by decide +kernel
theorem dX6_mark_168 : decode cX6_mark 168 = .ok (.ixor, 1) := by decide +kernel
theorem dX6_mark_169 : decode cX6_mark 169 = .ok (.iand, 1) := by decide +kernel
theorem dX6_mark_170 : decode cX6_mark 170 = .ok (.invokestatic 170, 3) := by decide +kernel
theorem dX6_mark_173 : decode cX6_mark 173 = .ok (.ireturn, 1) := by decide +kernel
theorem dX6_haul_0 : decode cX6_haul 0 = .ok (.aload_n 0, 1) := by decide +kernel
theorem dX6_haul_1 : decode cX6_haul 1 = .ok (.iload_n 1, 1) := by decide +kernel
theorem dX6_haul_2 : decode cX6_haul 2 = .ok (.iload_n 2, 1) := by decide +kernel
theorem dX6_haul_3 : decode cX6_haul 3 = .ok (.invokevirtual 175, 3) := by decide +kernel
theorem dX6_haul_6 : decode cX6_haul 6 = .ok (.istore_n 3, 1) := by decide +kernel
theorem dX6_haul_7 : decode cX6_haul 7 = .ok (.iload_n 3, 1) := by decide +kernel
theorem dX6_haul_8 : decode cX6_haul 8 = .ok (.ifCond .eq 5, 3) := by decide +kernel
theorem dX6_haul_11 : decode cX6_haul 11 = .ok (.iload_n 3, 1) := by decide +kernel
theorem dX6_haul_12 : decode cX6_haul 12 = .ok (.ireturn, 1) := by decide +kernel
theorem dX6_haul_13 : decode cX6_haul 13 = .ok (.aload_n 0, 1) := by decide +kernel
theorem dX6_haul_14 : decode cX6_haul 14 = .ok (.getfield 31, 3) := by decide +kernel
theorem dX6_haul_17 : decode cX6_haul 17 = .ok (.invokevirtual 144, 3) := by decide +kernel
theorem dX6_haul_20 : decode cX6_haul 20 = .ok (.lstore 4, 2) := by decide +kernel
theorem dX6_haul_22 : decode cX6_haul 22 = .ok (.aload_n 0, 1) := by decide +kernel
theorem dX6_haul_23 : decode cX6_haul 23 = .ok (.getfield 45, 3) := by decide +kernel
theorem dX6_haul_26 : decode cX6_haul 26 = .ok (.lload 4, 2) := by decide +kernel
theorem dX6_haul_28 : decode cX6_haul 28 = .ok (.iload_n 1, 1) := by decide +kernel
theorem dX6_haul_29 : decode cX6_haul 29 = .ok (.iload_n 2, 1) := by decide +kernel
theorem dX6_haul_30 : decode cX6_haul 30 = .ok (.invokevirtual 178, 3) := by decide +kernel
theorem dX6_haul_33 : decode cX6_haul 33 = .ok (.lstore 6, 2) := by decide +kernel
theorem dX6_haul_35 : decode cX6_haul 35 = .ok (.aload_n 0, 1) := by decide +kernel
theorem dX6_haul_36 : decode cX6_haul 36 = .ok (.lload 6, 2) := by decide +kernel
theorem dX6_haul_38 : decode cX6_haul 38 = .ok (.lload 4, 2) := by decide +kernel
theorem dX6_haul_40 : decode cX6_haul 40 = .ok (.lload 6, 2) := by decide +kernel
theorem dX6_haul_42 : decode cX6_haul 42 = .ok (.invokestatic 182, 3) := by decide +kernel
theorem dX6_haul_45 : decode cX6_haul 45 = .ok (.bipush (-9), 2) := by decide +kernel
theorem dX6_haul_47 : decode cX6_haul 47 = .ok (.if_icmp .ne 7, 3) := by decide +kernel
theorem dX6_haul_50 : decode cX6_haul 50 = .ok (.iconst 0, 1) := by decide +kernel
theorem dX6_haul_51 : decode cX6_haul 51 = .ok (.goto 4, 3) := by decide +kernel
theorem dX6_haul_54 : decode cX6_haul 54 = .ok (.iconst 1, 1) := by decide +kernel
theorem dX6_haul_55 : decode cX6_haul 55 = .ok (.invokevirtual 186, 3) := by decide +kernel
theorem dX6_haul_58 : decode cX6_haul 58 = .ok (.ireturn, 1) := by decide +kernel
theorem dX6_slack_0 : decode cX6_slack 0 = .ok (.aload_n 0, 1) := by decide +kernel
theorem dX6_slack_1 : decode cX6_slack 1 = .ok (.iload_n 1, 1) := by decide +kernel
theorem dX6_slack_2 : decode cX6_slack 2 = .ok (.invokevirtual 189, 3) := by decide +kernel
theorem dX6_slack_5 : decode cX6_slack 5 = .ok (.istore_n 2, 1) := by decide +kernel
theorem dX6_slack_6 : decode cX6_slack 6 = .ok (.iload_n 2, 1) := by decide +kernel
theorem dX6_slack_7 : decode cX6_slack 7 = .ok (.ifCond .eq 5, 3) := by decide +kernel
theorem dX6_slack_10 : decode cX6_slack 10 = .ok (.iload_n 2, 1) := by decide +kernel
theorem dX6_slack_11 : decode cX6_slack 11 = .ok (.ireturn, 1) := by decide +kernel
theorem dX6_slack_12 : decode cX6_slack 12 = .ok (.aload_n 0, 1) := by decide +kernel
theorem dX6_slack_13 : decode cX6_slack 13 = .ok (.getfield 31, 3) := by decide +kernel
theorem dX6_slack_16 : decode cX6_slack 16 = .ok (.invokevirtual 144, 3) := by decide +kernel
theorem dX6_slack_19 : decode cX6_slack 19 = .ok (.lstore_n 3, 1) := by decide +kernel
theorem dX6_slack_20 : decode cX6_slack 20 = .ok (.aload_n 0, 1) := by decide +kernel
theorem dX6_slack_21 : decode cX6_slack 21 = .ok (.lload_n 3, 1) := by decide +kernel
theorem dX6_slack_22 : decode cX6_slack 22 = .ok (.iload_n 1, 1) := by decide +kernel
theorem dX6_slack_23 : decode cX6_slack 23 = .ok (.invokestatic 192, 3) := by decide +kernel
theorem dX6_slack_26 : decode cX6_slack 26 = .ok (.lload_n 3, 1) := by decide +kernel
theorem dX6_slack_27 : decode cX6_slack 27 = .ok (.iload_n 1, 1) := by decide +kernel
theorem dX6_slack_28 : decode cX6_slack 28 = .ok (.invokestatic 151, 3) := by decide +kernel
theorem dX6_slack_31 : decode cX6_slack 31 = .ok (.invokevirtual 186, 3) := by decide +kernel
theorem dX6_slack_34 : decode cX6_slack 34 = .ok (.ireturn, 1) := by decide +kernel
theorem dX6_belay_0 : decode cX6_belay 0 = .ok (.aload_n 0, 1) := by decide +kernel
theorem dX6_belay_1 : decode cX6_belay 1 = .ok (.getfield 45, 3) := by decide +kernel
theorem dX6_belay_4 : decode cX6_belay 4 = .ok (.iload_n 1, 1) := by decide +kernel
theorem dX6_belay_5 : decode cX6_belay 5 = .ok (.invokevirtual 131, 3) := by decide +kernel
theorem dX6_belay_8 : decode cX6_belay 8 = .ok (.ifCond .ne 5, 3) := by decide +kernel
theorem dX6_belay_11 : decode cX6_belay 11 = .ok (.iconst (-1), 1) := by decide +kernel
theorem dX6_belay_12 : decode cX6_belay 12 = .ok (.ireturn, 1) := by decide +kernel
theorem dX6_belay_13 : decode cX6_belay 13 = .ok (.aload_n 0, 1) := by decide +kernel
theorem dX6_belay_14 : decode cX6_belay 14 = .ok (.getfield 31, 3) := by decide +kernel
theorem dX6_belay_17 : decode cX6_belay 17 = .ok (.invokevirtual 144, 3) := by decide +kernel
theorem dX6_belay_20 : decode cX6_belay 20 = .ok (.lstore_n 2, 1) := by decide +kernel
theorem dX6_belay_21 : decode cX6_belay 21 = .ok (.lload_n 2, 1) := by decide +kernel
theorem dX6_belay_22 : decode cX6_belay 22 = .ok (.iload_n 1, 1) := by decide +kernel
theorem dX6_belay_23 : decode cX6_belay 23 = .ok (.invokestatic 196, 3) := by decide +kernel
theorem dX6_belay_26 : decode cX6_belay 26 = .ok (.ifCond .ne 11, 3) := by decide +kernel
theorem dX6_belay_29 : decode cX6_belay 29 = .ok (.lload_n 2, 1) := by decide +kernel
theorem dX6_belay_30 : decode cX6_belay 30 = .ok (.iload_n 1, 1) := by decide +kernel
theorem dX6_belay_31 : decode cX6_belay 31 = .ok (.invokestatic 200, 3) := by decide +kernel
theorem dX6_belay_34 : decode cX6_belay 34 = .ok (.ifCond .ne 6, 3) := by decide +kernel
theorem dX6_belay_37 : decode cX6_belay 37 = .ok (.bipush (-4), 2) := by decide +kernel
theorem dX6_belay_39 : decode cX6_belay 39 = .ok (.ireturn, 1) := by decide +kernel
theorem dX6_belay_40 : decode cX6_belay 40 = .ok (.lload_n 2, 1) := by decide +kernel
theorem dX6_belay_41 : decode cX6_belay 41 = .ok (.iload_n 1, 1) := by decide +kernel
theorem dX6_belay_42 : decode cX6_belay 42 = .ok (.invokestatic 203, 3) := by decide +kernel
theorem dX6_belay_45 : decode cX6_belay 45 = .ok (.lstore 4, 2) := by decide +kernel
theorem dX6_belay_47 : decode cX6_belay 47 = .ok (.aload_n 0, 1) := by decide +kernel
theorem dX6_belay_48 : decode cX6_belay 48 = .ok (.lload 4, 2) := by decide +kernel
theorem dX6_belay_50 : decode cX6_belay 50 = .ok (.lload 4, 2) := by decide +kernel
theorem dX6_belay_52 : decode cX6_belay 52 = .ok (.invokestatic 206, 3) := by decide +kernel
theorem dX6_belay_55 : decode cX6_belay 55 = .ok (.invokestatic 170, 3) := by decide +kernel
theorem dX6_belay_58 : decode cX6_belay 58 = .ok (.invokevirtual 186, 3) := by decide +kernel
theorem dX6_belay_61 : decode cX6_belay 61 = .ok (.ireturn, 1) := by decide +kernel
theorem dX6_cut_0 : decode cX6_cut 0 = .ok (.aload_n 0, 1) := by decide +kernel
theorem dX6_cut_1 : decode cX6_cut 1 = .ok (.getfield 45, 3) := by decide +kernel
theorem dX6_cut_4 : decode cX6_cut 4 = .ok (.iload_n 1, 1) := by decide +kernel
theorem dX6_cut_5 : decode cX6_cut 5 = .ok (.invokevirtual 131, 3) := by decide +kernel
theorem dX6_cut_8 : decode cX6_cut 8 = .ok (.ifCond .ne 5, 3) := by decide +kernel
theorem dX6_cut_11 : decode cX6_cut 11 = .ok (.iconst (-1), 1) := by decide +kernel
theorem dX6_cut_12 : decode cX6_cut 12 = .ok (.ireturn, 1) := by decide +kernel
theorem dX6_cut_13 : decode cX6_cut 13 = .ok (.aload_n 0, 1) := by decide +kernel
theorem dX6_cut_14 : decode cX6_cut 14 = .ok (.getfield 31, 3) := by decide +kernel
theorem dX6_cut_17 : decode cX6_cut 17 = .ok (.invokevirtual 144, 3) := by decide +kernel
theorem dX6_cut_20 : decode cX6_cut 20 = .ok (.lstore_n 2, 1) := by decide +kernel
theorem dX6_cut_21 : decode cX6_cut 21 = .ok (.lload_n 2, 1) := by decide +kernel
theorem dX6_cut_22 : decode cX6_cut 22 = .ok (.iload_n 1, 1) := by decide +kernel
theorem dX6_cut_23 : decode cX6_cut 23 = .ok (.invokestatic 196, 3) := by decide +kernel
theorem dX6_cut_26 : decode cX6_cut 26 = .ok (.ifCond .eq 6, 3) := by decide +kernel
theorem dX6_cut_29 : decode cX6_cut 29 = .ok (.bipush (-4), 2) := by decide +kernel
theorem dX6_cut_31 : decode cX6_cut 31 = .ok (.ireturn, 1) := by decide +kernel
theorem dX6_cut_32 : decode cX6_cut 32 = .ok (.lload_n 2, 1) := by decide +kernel
theorem dX6_cut_33 : decode cX6_cut 33 = .ok (.iconst 1, 1) := by decide +kernel
theorem dX6_cut_34 : decode cX6_cut 34 = .ok (.iload_n 1, 1) := by decide +kernel
theorem dX6_cut_35 : decode cX6_cut 35 = .ok (.ishl, 1) := by decide +kernel
theorem dX6_cut_36 : decode cX6_cut 36 = .ok (.invokestatic 209, 3) := by decide +kernel
theorem dX6_cut_39 : decode cX6_cut 39 = .ok (.lstore 4, 2) := by decide +kernel
theorem dX6_cut_41 : decode cX6_cut 41 = .ok (.aload_n 0, 1) := by decide +kernel
theorem dX6_cut_42 : decode cX6_cut 42 = .ok (.lload 4, 2) := by decide +kernel
theorem dX6_cut_44 : decode cX6_cut 44 = .ok (.lload 4, 2) := by decide +kernel
theorem dX6_cut_46 : decode cX6_cut 46 = .ok (.invokestatic 212, 3) := by decide +kernel
theorem dX6_cut_49 : decode cX6_cut 49 = .ok (.invokestatic 170, 3) := by decide +kernel
theorem dX6_cut_52 : decode cX6_cut 52 = .ok (.invokevirtual 186, 3) := by decide +kernel
theorem dX6_cut_55 : decode cX6_cut 55 = .ok (.ireturn, 1) := by decide +kernel
theorem dX6_splice_0 : decode cX6_splice 0 = .ok (.aload_n 0, 1) := by decide +kernel
theorem dX6_splice_1 : decode cX6_splice 1 = .ok (.getfield 45, 3) := by decide +kernel
theorem dX6_splice_4 : decode cX6_splice 4 = .ok (.iload_n 1, 1) := by decide +kernel
theorem dX6_splice_5 : decode cX6_splice 5 = .ok (.invokevirtual 131, 3) := by decide +kernel
theorem dX6_splice_8 : decode cX6_splice 8 = .ok (.ifCond .ne 5, 3) := by decide +kernel
theorem dX6_splice_11 : decode cX6_splice 11 = .ok (.iconst (-1), 1) := by decide +kernel
theorem dX6_splice_12 : decode cX6_splice 12 = .ok (.ireturn, 1) := by decide +kernel
theorem dX6_splice_13 : decode cX6_splice 13 = .ok (.aload_n 0, 1) := by decide +kernel
theorem dX6_splice_14 : decode cX6_splice 14 = .ok (.getfield 31, 3) := by decide +kernel
theorem dX6_splice_17 : decode cX6_splice 17 = .ok (.invokevirtual 144, 3) := by decide +kernel
theorem dX6_splice_20 : decode cX6_splice 20 = .ok (.lstore_n 2, 1) := by decide +kernel
theorem dX6_splice_21 : decode cX6_splice 21 = .ok (.lload_n 2, 1) := by decide +kernel
theorem dX6_splice_22 : decode cX6_splice 22 = .ok (.iload_n 1, 1) := by decide +kernel
theorem dX6_splice_23 : decode cX6_splice 23 = .ok (.invokestatic 196, 3) := by decide +kernel
theorem dX6_splice_26 : decode cX6_splice 26 = .ok (.ifCond .ne 6, 3) := by decide +kernel
theorem dX6_splice_29 : decode cX6_splice 29 = .ok (.bipush (-4), 2) := by decide +kernel
theorem dX6_splice_31 : decode cX6_splice 31 = .ok (.ireturn, 1) := by decide +kernel
theorem dX6_splice_32 : decode cX6_splice 32 = .ok (.lload_n 2, 1) := by decide +kernel
theorem dX6_splice_33 : decode cX6_splice 33 = .ok (.iload_n 1, 1) := by decide +kernel
theorem dX6_splice_34 : decode cX6_splice 34 = .ok (.invokestatic 215, 3) := by decide +kernel
theorem dX6_splice_37 : decode cX6_splice 37 = .ok (.lstore 4, 2) := by decide +kernel
theorem dX6_splice_39 : decode cX6_splice 39 = .ok (.aload_n 0, 1) := by decide +kernel
theorem dX6_splice_40 : decode cX6_splice 40 = .ok (.lload 4, 2) := by decide +kernel
theorem dX6_splice_42 : decode cX6_splice 42 = .ok (.lload 4, 2) := by decide +kernel
theorem dX6_splice_44 : decode cX6_splice 44 = .ok (.invokestatic 212, 3) := by decide +kernel
theorem dX6_splice_47 : decode cX6_splice 47 = .ok (.invokestatic 170, 3) := by decide +kernel
theorem dX6_splice_50 : decode cX6_splice 50 = .ok (.invokevirtual 186, 3) := by decide +kernel
theorem dX6_splice_53 : decode cX6_splice 53 = .ok (.ireturn, 1) := by decide +kernel
theorem dX6_frost_0 : decode cX6_frost 0 = .ok (.iload_n 1, 1) := by decide +kernel
theorem dX6_frost_1 : decode cX6_frost 1 = .ok (.ifCond .eq 10, 3) := by decide +kernel
theorem dX6_frost_4 : decode cX6_frost 4 = .ok (.iload_n 1, 1) := by decide +kernel
theorem dX6_frost_5 : decode cX6_frost 5 = .ok (.iconst 1, 1) := by decide +kernel
theorem dX6_frost_6 : decode cX6_frost 6 = .ok (.if_icmp .eq 5, 3) := by decide +kernel
theorem dX6_frost_9 : decode cX6_frost 9 = .ok (.iconst (-1), 1) := by decide +kernel
theorem dX6_frost_10 : decode cX6_frost 10 = .ok (.ireturn, 1) := by decide +kernel
theorem dX6_frost_11 : decode cX6_frost 11 = .ok (.aload_n 0, 1) := by decide +kernel
theorem dX6_frost_12 : decode cX6_frost 12 = .ok (.getfield 31, 3) := by decide +kernel
theorem dX6_frost_15 : decode cX6_frost 15 = .ok (.invokevirtual 144, 3) := by decide +kernel
theorem dX6_frost_18 : decode cX6_frost 18 = .ok (.lstore_n 2, 1) := by decide +kernel
theorem dX6_frost_19 : decode cX6_frost 19 = .ok (.aload_n 0, 1) := by decide +kernel
theorem dX6_frost_20 : decode cX6_frost 20 = .ok (.getfield 45, 3) := by decide +kernel
theorem dX6_frost_23 : decode cX6_frost 23 = .ok (.invokevirtual 218, 3) := by decide +kernel
theorem dX6_frost_26 : decode cX6_frost 26 = .ok (.ifCond .ne 11, 3) := by decide +kernel
theorem dX6_frost_29 : decode cX6_frost 29 = .ok (.lload_n 2, 1) := by decide +kernel
theorem dX6_frost_30 : decode cX6_frost 30 = .ok (.invokestatic 222, 3) := by decide +kernel
theorem dX6_frost_33 : decode cX6_frost 33 = .ok (.iload_n 1, 1) := by decide +kernel
theorem dX6_frost_34 : decode cX6_frost 34 = .ok (.if_icmp .ne 6, 3) := by decide +kernel
theorem dX6_frost_37 : decode cX6_frost 37 = .ok (.bipush (-4), 2) := by decide +kernel
theorem dX6_frost_39 : decode cX6_frost 39 = .ok (.ireturn, 1) := by decide +kernel
theorem dX6_frost_40 : decode cX6_frost 40 = .ok (.aload_n 0, 1) := by decide +kernel
theorem dX6_frost_41 : decode cX6_frost 41 = .ok (.lload_n 2, 1) := by decide +kernel
theorem dX6_frost_42 : decode cX6_frost 42 = .ok (.iload_n 1, 1) := by decide +kernel
theorem dX6_frost_43 : decode cX6_frost 43 = .ok (.invokestatic 225, 3) := by decide +kernel
theorem dX6_frost_46 : decode cX6_frost 46 = .ok (.iload_n 1, 1) := by decide +kernel
theorem dX6_frost_47 : decode cX6_frost 47 = .ok (.invokevirtual 186, 3) := by decide +kernel
theorem dX6_frost_50 : decode cX6_frost 50 = .ok (.ireturn, 1) := by decide +kernel
theorem dX6_undo_0 : decode cX6_undo 0 = .ok (.aload_n 0, 1) := by decide +kernel
theorem dX6_undo_1 : decode cX6_undo 1 = .ok (.getfield 31, 3) := by decide +kernel
theorem dX6_undo_4 : decode cX6_undo 4 = .ok (.invokevirtual 228, 3) := by decide +kernel
theorem dX6_undo_7 : decode cX6_undo 7 = .ok (.istore_n 2, 1) := by decide +kernel
theorem dX6_undo_8 : decode cX6_undo 8 = .ok (.iload_n 1, 1) := by decide +kernel
theorem dX6_undo_9 : decode cX6_undo 9 = .ok (.ifCond .lt 8, 3) := by decide +kernel
theorem dX6_undo_12 : decode cX6_undo 12 = .ok (.iload_n 1, 1) := by decide +kernel
theorem dX6_undo_13 : decode cX6_undo 13 = .ok (.iload_n 2, 1) := by decide +kernel
theorem dX6_undo_14 : decode cX6_undo 14 = .ok (.if_icmp .le 5, 3) := by decide +kernel
theorem dX6_undo_17 : decode cX6_undo 17 = .ok (.iconst (-1), 1) := by decide +kernel
theorem dX6_undo_18 : decode cX6_undo 18 = .ok (.ireturn, 1) := by decide +kernel
theorem dX6_undo_19 : decode cX6_undo 19 = .ok (.aload_n 0, 1) := by decide +kernel
theorem dX6_undo_20 : decode cX6_undo 20 = .ok (.getfield 31, 3) := by decide +kernel
theorem dX6_undo_23 : decode cX6_undo 23 = .ok (.iload_n 1, 1) := by decide +kernel
theorem dX6_undo_24 : decode cX6_undo 24 = .ok (.invokevirtual 232, 3) := by decide +kernel
theorem dX6_undo_27 : decode cX6_undo 27 = .ok (.iload_n 2, 1) := by decide +kernel
theorem dX6_undo_28 : decode cX6_undo 28 = .ok (.iload_n 1, 1) := by decide +kernel
theorem dX6_undo_29 : decode cX6_undo 29 = .ok (.isub, 1) := by decide +kernel
theorem dX6_undo_30 : decode cX6_undo 30 = .ok (.ireturn, 1) := by decide +kernel
theorem dX6_keep_0 : decode cX6_keep 0 = .ok (.aload_n 0, 1) := by decide +kernel
theorem dX6_keep_1 : decode cX6_keep 1 = .ok (.getfield 31, 3) := by decide +kernel
theorem dX6_keep_4 : decode cX6_keep 4 = .ok (.iload_n 1, 1) := by decide +kernel
theorem dX6_keep_5 : decode cX6_keep 5 = .ok (.invokevirtual 235, 3) := by decide +kernel
theorem dX6_keep_8 : decode cX6_keep 8 = .ok (.ifCond .ne 5, 3) := by decide +kernel
theorem dX6_keep_11 : decode cX6_keep 11 = .ok (.iconst (-1), 1) := by decide +kernel
theorem dX6_keep_12 : decode cX6_keep 12 = .ok (.ireturn, 1) := by decide +kernel
theorem dX6_keep_13 : decode cX6_keep 13 = .ok (.aload_n 0, 1) := by decide +kernel
theorem dX6_keep_14 : decode cX6_keep 14 = .ok (.getfield 45, 3) := by decide +kernel
theorem dX6_keep_17 : decode cX6_keep 17 = .ok (.invokevirtual 218, 3) := by decide +kernel
theorem dX6_keep_20 : decode cX6_keep 20 = .ok (.ifCond .eq 6, 3) := by decide +kernel
theorem dX6_keep_23 : decode cX6_keep 23 = .ok (.bipush (-4), 2) := by decide +kernel
theorem dX6_keep_25 : decode cX6_keep 25 = .ok (.ireturn, 1) := by decide +kernel
theorem dX6_keep_26 : decode cX6_keep 26 = .ok (.aload_n 0, 1) := by decide +kernel
theorem dX6_keep_27 : decode cX6_keep 27 = .ok (.getfield 31, 3) := by decide +kernel
theorem dX6_keep_30 : decode cX6_keep 30 = .ok (.iload_n 1, 1) := by decide +kernel
theorem dX6_keep_31 : decode cX6_keep 31 = .ok (.invokevirtual 238, 3) := by decide +kernel
theorem dX6_keep_34 : decode cX6_keep 34 = .ok (.aload_n 0, 1) := by decide +kernel
theorem dX6_keep_35 : decode cX6_keep 35 = .ok (.getfield 31, 3) := by decide +kernel
theorem dX6_keep_38 : decode cX6_keep 38 = .ok (.invokevirtual 228, 3) := by decide +kernel
theorem dX6_keep_41 : decode cX6_keep 41 = .ok (.ireturn, 1) := by decide +kernel
theorem dX6_on_0 : decode cX6_on 0 = .ok (.aload_n 0, 1) := by decide +kernel
theorem dX6_on_1 : decode cX6_on 1 = .ok (.getfield 31, 3) := by decide +kernel
theorem dX6_on_4 : decode cX6_on 4 = .ok (.iload_n 1, 1) := by decide +kernel
theorem dX6_on_5 : decode cX6_on 5 = .ok (.invokevirtual 235, 3) := by decide +kernel
theorem dX6_on_8 : decode cX6_on 8 = .ok (.ifCond .ne 5, 3) := by decide +kernel
theorem dX6_on_11 : decode cX6_on 11 = .ok (.iconst (-1), 1) := by decide +kernel
theorem dX6_on_12 : decode cX6_on 12 = .ok (.ireturn, 1) := by decide +kernel
theorem dX6_on_13 : decode cX6_on 13 = .ok (.aload_n 0, 1) := by decide +kernel
theorem dX6_on_14 : decode cX6_on 14 = .ok (.getfield 31, 3) := by decide +kernel
theorem dX6_on_17 : decode cX6_on 17 = .ok (.iload_n 1, 1) := by decide +kernel
theorem dX6_on_18 : decode cX6_on 18 = .ok (.invokevirtual 241, 3) := by decide +kernel
theorem dX6_on_21 : decode cX6_on 21 = .ok (.iconst (-1), 1) := by decide +kernel
theorem dX6_on_22 : decode cX6_on 22 = .ok (.if_icmp .ne 9, 3) := by decide +kernel
theorem dX6_on_25 : decode cX6_on 25 = .ok (.aload_n 0, 1) := by decide +kernel
theorem dX6_on_26 : decode cX6_on 26 = .ok (.iconst 1, 1) := by decide +kernel
theorem dX6_on_27 : decode cX6_on 27 = .ok (.invokevirtual 96, 3) := by decide +kernel
theorem dX6_on_30 : decode cX6_on 30 = .ok (.ireturn, 1) := by decide +kernel
theorem dX6_on_31 : decode cX6_on 31 = .ok (.aload_n 0, 1) := by decide +kernel
theorem dX6_on_32 : decode cX6_on 32 = .ok (.getfield 31, 3) := by decide +kernel
theorem dX6_on_35 : decode cX6_on 35 = .ok (.iload_n 1, 1) := by decide +kernel
theorem dX6_on_36 : decode cX6_on 36 = .ok (.invokevirtual 244, 3) := by decide +kernel
theorem dX6_on_39 : decode cX6_on 39 = .ok (.aload_n 0, 1) := by decide +kernel
theorem dX6_on_40 : decode cX6_on 40 = .ok (.getfield 31, 3) := by decide +kernel
theorem dX6_on_43 : decode cX6_on 43 = .ok (.invokevirtual 228, 3) := by decide +kernel
theorem dX6_on_46 : decode cX6_on 46 = .ok (.ireturn, 1) := by decide +kernel
theorem dX6_passes_0 : decode cX6_passes 0 = .ok (.aload_n 0, 1) := by decide +kernel
theorem dX6_passes_1 : decode cX6_passes 1 = .ok (.getfield 45, 3) := by decide +kernel
theorem dX6_passes_4 : decode cX6_passes 4 = .ok (.iload_n 1, 1) := by decide +kernel
theorem dX6_passes_5 : decode cX6_passes 5 = .ok (.invokevirtual 131, 3) := by decide +kernel
theorem dX6_passes_8 : decode cX6_passes 8 = .ok (.ifCond .eq 13, 3) := by decide +kernel
theorem dX6_passes_11 : decode cX6_passes 11 = .ok (.iload_n 2, 1) := by decide +kernel
theorem dX6_passes_12 : decode cX6_passes 12 = .ok (.ifCond .lt 9, 3) := by decide +kernel
theorem dX6_passes_15 : decode cX6_passes 15 = .ok (.iload_n 2, 1) := by decide +kernel
theorem dX6_passes_16 : decode cX6_passes 16 = .ok (.bipush 99, 2) := by decide +kernel
theorem dX6_passes_18 : decode cX6_passes 18 = .ok (.if_icmp .le 5, 3) := by decide +kernel
theorem dX6_passes_21 : decode cX6_passes 21 = .ok (.iconst (-1), 1) := by decide +kernel
theorem dX6_passes_22 : decode cX6_passes 22 = .ok (.ireturn, 1) := by decide +kernel
theorem dX6_passes_23 : decode cX6_passes 23 = .ok (.aload_n 0, 1) := by decide +kernel
theorem dX6_passes_24 : decode cX6_passes 24 = .ok (.getfield 45, 3) := by decide +kernel
theorem dX6_passes_27 : decode cX6_passes 27 = .ok (.iload_n 1, 1) := by decide +kernel
theorem dX6_passes_28 : decode cX6_passes 28 = .ok (.invokevirtual 137, 3) := by decide +kernel
theorem dX6_passes_31 : decode cX6_passes 31 = .ok (.iload_n 2, 1) := by decide +kernel
theorem dX6_passes_32 : decode cX6_passes 32 = .ok (.invokestatic 163, 3) := by decide +kernel
theorem dX6_passes_35 : decode cX6_passes 35 = .ok (.ireturn, 1) := by decide +kernel
theorem dX6_moves_0 : decode cX6_moves 0 = .ok (.aload_n 0, 1) := by decide +kernel
theorem dX6_moves_1 : decode cX6_moves 1 = .ok (.iload_n 1, 1) := by decide +kernel
theorem dX6_moves_2 : decode cX6_moves 2 = .ok (.iload_n 2, 1) := by decide +kernel
theorem dX6_moves_3 : decode cX6_moves 3 = .ok (.invokevirtual 175, 3) := by decide +kernel
theorem dX6_moves_6 : decode cX6_moves 6 = .ok (.istore_n 3, 1) := by decide +kernel
theorem dX6_moves_7 : decode cX6_moves 7 = .ok (.iload_n 3, 1) := by decide +kernel
theorem dX6_moves_8 : decode cX6_moves 8 = .ok (.ifCond .eq 5, 3) := by decide +kernel
theorem dX6_moves_11 : decode cX6_moves 11 = .ok (.iload_n 3, 1) := by decide +kernel
theorem dX6_moves_12 : decode cX6_moves 12 = .ok (.ireturn, 1) := by decide +kernel
theorem dX6_moves_13 : decode cX6_moves 13 = .ok (.aload_n 0, 1) := by decide +kernel
theorem dX6_moves_14 : decode cX6_moves 14 = .ok (.getfield 31, 3) := by decide +kernel
theorem dX6_moves_17 : decode cX6_moves 17 = .ok (.invokevirtual 144, 3) := by decide +kernel
theorem dX6_moves_20 : decode cX6_moves 20 = .ok (.lstore 4, 2) := by decide +kernel
theorem dX6_moves_22 : decode cX6_moves 22 = .ok (.aload_n 0, 1) := by decide +kernel
theorem dX6_moves_23 : decode cX6_moves 23 = .ok (.lload 4, 2) := by decide +kernel
theorem dX6_moves_25 : decode cX6_moves 25 = .ok (.aload_n 0, 1) := by decide +kernel
theorem dX6_moves_26 : decode cX6_moves 26 = .ok (.getfield 45, 3) := by decide +kernel
theorem dX6_moves_29 : decode cX6_moves 29 = .ok (.lload 4, 2) := by decide +kernel
theorem dX6_moves_31 : decode cX6_moves 31 = .ok (.iload_n 1, 1) := by decide +kernel
theorem dX6_moves_32 : decode cX6_moves 32 = .ok (.iload_n 2, 1) := by decide +kernel
theorem dX6_moves_33 : decode cX6_moves 33 = .ok (.invokevirtual 178, 3) := by decide +kernel
theorem dX6_moves_36 : decode cX6_moves 36 = .ok (.invokestatic 182, 3) := by decide +kernel
theorem dX6_moves_39 : decode cX6_moves 39 = .ok (.invokevirtual 80, 3) := by decide +kernel
theorem dX6_moves_42 : decode cX6_moves 42 = .ok (.pop, 1) := by decide +kernel
theorem dX6_moves_43 : decode cX6_moves 43 = .ok (.aload_n 0, 1) := by decide +kernel
theorem dX6_moves_44 : decode cX6_moves 44 = .ok (.getfield 45, 3) := by decide +kernel
theorem dX6_moves_47 : decode cX6_moves 47 = .ok (.getfield 247, 3) := by decide +kernel
theorem dX6_moves_50 : decode cX6_moves 50 = .ok (.ireturn, 1) := by decide +kernel
theorem dX6_parts_0 : decode cX6_parts 0 = .ok (.aload_n 0, 1) := by decide +kernel
theorem dX6_parts_1 : decode cX6_parts 1 = .ok (.iload_n 1, 1) := by decide +kernel
theorem dX6_parts_2 : decode cX6_parts 2 = .ok (.invokevirtual 189, 3) := by decide +kernel
theorem dX6_parts_5 : decode cX6_parts 5 = .ok (.istore_n 2, 1) := by decide +kernel
theorem dX6_parts_6 : decode cX6_parts 6 = .ok (.iload_n 2, 1) := by decide +kernel
theorem dX6_parts_7 : decode cX6_parts 7 = .ok (.ifCond .eq 5, 3) := by decide +kernel
theorem dX6_parts_10 : decode cX6_parts 10 = .ok (.iload_n 2, 1) := by decide +kernel
theorem dX6_parts_11 : decode cX6_parts 11 = .ok (.ireturn, 1) := by decide +kernel
theorem dX6_parts_12 : decode cX6_parts 12 = .ok (.aload_n 0, 1) := by decide +kernel
theorem dX6_parts_13 : decode cX6_parts 13 = .ok (.getfield 31, 3) := by decide +kernel
theorem dX6_parts_16 : decode cX6_parts 16 = .ok (.invokevirtual 144, 3) := by decide +kernel
theorem dX6_parts_19 : decode cX6_parts 19 = .ok (.lstore_n 3, 1) := by decide +kernel
theorem dX6_parts_20 : decode cX6_parts 20 = .ok (.iconst 1, 1) := by decide +kernel
theorem dX6_parts_21 : decode cX6_parts 21 = .ok (.istore 5, 2) := by decide +kernel
theorem dX6_parts_23 : decode cX6_parts 23 = .ok (.iload 5, 2) := by decide +kernel
theorem dX6_parts_25 : decode cX6_parts 25 = .ok (.bipush 20, 2) := by decide +kernel
theorem dX6_parts_27 : decode cX6_parts 27 = .ok (.if_icmp .gt 43, 3) := by decide +kernel
theorem dX6_parts_30 : decode cX6_parts 30 = .ok (.lload_n 3, 1) := by decide +kernel
theorem dX6_parts_31 : decode cX6_parts 31 = .ok (.aload_n 0, 1) := by decide +kernel
theorem dX6_parts_32 : decode cX6_parts 32 = .ok (.getfield 45, 3) := by decide +kernel
theorem dX6_parts_35 : decode cX6_parts 35 = .ok (.lload_n 3, 1) := by decide +kernel
theorem dX6_parts_36 : decode cX6_parts 36 = .ok (.iload_n 1, 1) := by decide +kernel
theorem dX6_parts_37 : decode cX6_parts 37 = .ok (.iload 5, 2) := by decide +kernel
theorem dX6_parts_39 : decode cX6_parts 39 = .ok (.invokevirtual 178, 3) := by decide +kernel
theorem dX6_parts_42 : decode cX6_parts 42 = .ok (.invokestatic 182, 3) := by decide +kernel
theorem dX6_parts_45 : decode cX6_parts 45 = .ok (.istore 6, 2) := by decide +kernel
theorem dX6_parts_47 : decode cX6_parts 47 = .ok (.iload 6, 2) := by decide +kernel
theorem dX6_parts_49 : decode cX6_parts 49 = .ok (.bipush (-9), 2) := by decide +kernel
theorem dX6_parts_51 : decode cX6_parts 51 = .ok (.if_icmp .eq 13, 3) := by decide +kernel
theorem dX6_parts_54 : decode cX6_parts 54 = .ok (.aload_n 0, 1) := by decide +kernel
theorem dX6_parts_55 : decode cX6_parts 55 = .ok (.iload 6, 2) := by decide +kernel
theorem dX6_parts_57 : decode cX6_parts 57 = .ok (.invokevirtual 80, 3) := by decide +kernel
theorem dX6_parts_60 : decode cX6_parts 60 = .ok (.pop, 1) := by decide +kernel
theorem dX6_parts_61 : decode cX6_parts 61 = .ok (.iload 5, 2) := by decide +kernel
theorem dX6_parts_63 : decode cX6_parts 63 = .ok (.ireturn, 1) := by decide +kernel
theorem dX6_parts_64 : decode cX6_parts 64 = .ok (.iinc 5 1, 3) := by decide +kernel
theorem dX6_parts_67 : decode cX6_parts 67 = .ok (.goto (-44), 3) := by decide +kernel
theorem dX6_parts_70 : decode cX6_parts 70 = .ok (.bipush (-9), 2) := by decide +kernel
theorem dX6_parts_72 : decode cX6_parts 72 = .ok (.ireturn, 1) := by decide +kernel
theorem dX6_lawful_0 : decode cX6_lawful 0 = .ok (.aload_n 0, 1) := by decide +kernel
theorem dX6_lawful_1 : decode cX6_lawful 1 = .ok (.getfield 45, 3) := by decide +kernel
theorem dX6_lawful_4 : decode cX6_lawful 4 = .ok (.invokevirtual 218, 3) := by decide +kernel
theorem dX6_lawful_7 : decode cX6_lawful 7 = .ok (.ifCond .eq 8, 3) := by decide +kernel
theorem dX6_lawful_10 : decode cX6_lawful 10 = .ok (.bipush (-4), 2) := by decide +kernel
theorem dX6_lawful_12 : decode cX6_lawful 12 = .ok (.goto 17, 3) := by decide +kernel
theorem dX6_lawful_15 : decode cX6_lawful 15 = .ok (.aload_n 0, 1) := by decide +kernel
theorem dX6_lawful_16 : decode cX6_lawful 16 = .ok (.getfield 45, 3) := by decide +kernel
theorem dX6_lawful_19 : decode cX6_lawful 19 = .ok (.aload_n 0, 1) := by decide +kernel
theorem dX6_lawful_20 : decode cX6_lawful 20 = .ok (.getfield 31, 3) := by decide +kernel
theorem dX6_lawful_23 : decode cX6_lawful 23 = .ok (.invokevirtual 144, 3) := by decide +kernel
theorem dX6_lawful_26 : decode cX6_lawful 26 = .ok (.invokevirtual 250, 3) := by decide +kernel
theorem dX6_lawful_29 : decode cX6_lawful 29 = .ok (.ireturn, 1) := by decide +kernel
theorem dX6_least_0 : decode cX6_least 0 = .ok (.aload_n 0, 1) := by decide +kernel
theorem dX6_least_1 : decode cX6_least 1 = .ok (.getfield 45, 3) := by decide +kernel
theorem dX6_least_4 : decode cX6_least 4 = .ok (.iload_n 1, 1) := by decide +kernel
theorem dX6_least_5 : decode cX6_least 5 = .ok (.invokevirtual 253, 3) := by decide +kernel
theorem dX6_least_8 : decode cX6_least 8 = .ok (.ifCond .eq 14, 3) := by decide +kernel
theorem dX6_least_11 : decode cX6_least 11 = .ok (.aload_n 0, 1) := by decide +kernel
theorem dX6_least_12 : decode cX6_least 12 = .ok (.getfield 14, 3) := by decide +kernel
theorem dX6_least_15 : decode cX6_least 15 = .ok (.iload_n 2, 1) := by decide +kernel
theorem dX6_least_16 : decode cX6_least 16 = .ok (.invokevirtual 92, 3) := by decide +kernel
theorem dX6_least_19 : decode cX6_least 19 = .ok (.ifCond .ne 5, 3) := by decide +kernel
theorem dX6_least_22 : decode cX6_least 22 = .ok (.iconst (-1), 1) := by decide +kernel
theorem dX6_least_23 : decode cX6_least 23 = .ok (.ireturn, 1) := by decide +kernel
theorem dX6_least_24 : decode cX6_least 24 = .ok (.aload_n 0, 1) := by decide +kernel
theorem dX6_least_25 : decode cX6_least 25 = .ok (.getfield 45, 3) := by decide +kernel
theorem dX6_least_28 : decode cX6_least 28 = .ok (.iload_n 1, 1) := by decide +kernel
theorem dX6_least_29 : decode cX6_least 29 = .ok (.aload_n 0, 1) := by decide +kernel
theorem dX6_least_30 : decode cX6_least 30 = .ok (.getfield 31, 3) := by decide +kernel
theorem dX6_least_33 : decode cX6_least 33 = .ok (.invokevirtual 144, 3) := by decide +kernel
theorem dX6_least_36 : decode cX6_least 36 = .ok (.aload_n 0, 1) := by decide +kernel
theorem dX6_least_37 : decode cX6_least 37 = .ok (.getfield 35, 3) := by decide +kernel
theorem dX6_least_40 : decode cX6_least 40 = .ok (.invokestatic 256, 3) := by decide +kernel
theorem dX6_least_43 : decode cX6_least 43 = .ok (.istore_n 3, 1) := by decide +kernel
theorem dX6_least_44 : decode cX6_least 44 = .ok (.iload_n 3, 1) := by decide +kernel
theorem dX6_least_45 : decode cX6_least 45 = .ok (.bipush (-9), 2) := by decide +kernel
theorem dX6_least_47 : decode cX6_least 47 = .ok (.if_icmp .ne 6, 3) := by decide +kernel
theorem dX6_least_50 : decode cX6_least 50 = .ok (.bipush (-9), 2) := by decide +kernel
theorem dX6_least_52 : decode cX6_least 52 = .ok (.ireturn, 1) := by decide +kernel
theorem dX6_least_53 : decode cX6_least 53 = .ok (.aload_n 0, 1) := by decide +kernel
theorem dX6_least_54 : decode cX6_least 54 = .ok (.getfield 14, 3) := by decide +kernel
theorem dX6_least_57 : decode cX6_least 57 = .ok (.iload_n 2, 1) := by decide +kernel
theorem dX6_least_58 : decode cX6_least 58 = .ok (.iload_n 3, 1) := by decide +kernel
theorem dX6_least_59 : decode cX6_least 59 = .ok (.invokevirtual 262, 3) := by decide +kernel
theorem dX6_least_62 : decode cX6_least 62 = .ok (.iconst 0, 1) := by decide +kernel
theorem dX6_least_63 : decode cX6_least 63 = .ok (.istore 4, 2) := by decide +kernel
theorem dX6_least_65 : decode cX6_least 65 = .ok (.iload 4, 2) := by decide +kernel
theorem dX6_least_67 : decode cX6_least 67 = .ok (.iload_n 3, 1) := by decide +kernel
theorem dX6_least_68 : decode cX6_least 68 = .ok (.if_icmp .ge 36, 3) := by decide +kernel
theorem dX6_least_71 : decode cX6_least 71 = .ok (.iload 4, 2) := by decide +kernel
theorem dX6_least_73 : decode cX6_least 73 = .ok (.aload_n 0, 1) := by decide +kernel
theorem dX6_least_74 : decode cX6_least 74 = .ok (.getfield 35, 3) := by decide +kernel
theorem dX6_least_77 : decode cX6_least 77 = .ok (.arraylength, 1) := by decide +kernel
theorem dX6_least_78 : decode cX6_least 78 = .ok (.if_icmp .ge 26, 3) := by decide +kernel
theorem dX6_least_81 : decode cX6_least 81 = .ok (.aload_n 0, 1) := by decide +kernel
theorem dX6_least_82 : decode cX6_least 82 = .ok (.getfield 14, 3) := by decide +kernel
theorem dX6_least_85 : decode cX6_least 85 = .ok (.iload_n 2, 1) := by decide +kernel
theorem dX6_least_86 : decode cX6_least 86 = .ok (.iload 4, 2) := by decide +kernel
theorem dX6_least_88 : decode cX6_least 88 = .ok (.aload_n 0, 1) := by decide +kernel
theorem dX6_least_89 : decode cX6_least 89 = .ok (.getfield 35, 3) := by decide +kernel
theorem dX6_least_92 : decode cX6_least 92 = .ok (.iload 4, 2) := by decide +kernel
theorem dX6_least_94 : decode cX6_least 94 = .ok (.iaload, 1) := by decide +kernel
theorem dX6_least_95 : decode cX6_least 95 = .ok (.invokevirtual 77, 3) := by decide +kernel
theorem dX6_least_98 : decode cX6_least 98 = .ok (.iinc 4 1, 3) := by decide +kernel
theorem dX6_least_101 : decode cX6_least 101 = .ok (.goto (-36), 3) := by decide +kernel
theorem dX6_least_104 : decode cX6_least 104 = .ok (.iload_n 3, 1) := by decide +kernel
theorem dX6_least_105 : decode cX6_least 105 = .ok (.ireturn, 1) := by decide +kernel
theorem dX6_fall_0 : decode cX6_fall 0 = .ok (.aload_n 0, 1) := by decide +kernel
theorem dX6_fall_1 : decode cX6_fall 1 = .ok (.getfield 45, 3) := by decide +kernel
theorem dX6_fall_4 : decode cX6_fall 4 = .ok (.invokevirtual 218, 3) := by decide +kernel
theorem dX6_fall_7 : decode cX6_fall 7 = .ok (.ifCond .eq 6, 3) := by decide +kernel
theorem dX6_fall_10 : decode cX6_fall 10 = .ok (.bipush (-4), 2) := by decide +kernel
theorem dX6_fall_12 : decode cX6_fall 12 = .ok (.ireturn, 1) := by decide +kernel
theorem dX6_fall_13 : decode cX6_fall 13 = .ok (.bipush (-9), 2) := by decide +kernel
theorem dX6_fall_15 : decode cX6_fall 15 = .ok (.istore_n 1, 1) := by decide +kernel
theorem dX6_fall_16 : decode cX6_fall 16 = .ok (.iconst 0, 1) := by decide +kernel
theorem dX6_fall_17 : decode cX6_fall 17 = .ok (.istore_n 2, 1) := by decide +kernel
theorem dX6_fall_18 : decode cX6_fall 18 = .ok (.iload_n 2, 1) := by decide +kernel
theorem dX6_fall_19 : decode cX6_fall 19 = .ok (.bipush 64, 2) := by decide +kernel
theorem dX6_fall_21 : decode cX6_fall 21 = .ok (.if_icmp .ge 67, 3) := by decide +kernel
theorem dX6_fall_24 : decode cX6_fall 24 = .ok (.iload_n 1, 1) := by decide +kernel
theorem dX6_fall_25 : decode cX6_fall 25 = .ok (.bipush (-9), 2) := by decide +kernel
theorem dX6_fall_27 : decode cX6_fall 27 = .ok (.if_icmp .eq 14, 3) := by decide +kernel
theorem dX6_fall_30 : decode cX6_fall 30 = .ok (.iload_n 2, 1) := by decide +kernel
theorem dX6_fall_31 : decode cX6_fall 31 = .ok (.invokestatic 170, 3) := by decide +kernel
theorem dX6_fall_34 : decode cX6_fall 34 = .ok (.iload_n 1, 1) := by decide +kernel
theorem dX6_fall_35 : decode cX6_fall 35 = .ok (.invokestatic 170, 3) := by decide +kernel
theorem dX6_fall_38 : decode cX6_fall 38 = .ok (.if_icmp .ge 7, 3) := by decide +kernel
theorem dX6_fall_41 : decode cX6_fall 41 = .ok (.iconst 1, 1) := by decide +kernel
theorem dX6_fall_42 : decode cX6_fall 42 = .ok (.goto 4, 3) := by decide +kernel
theorem dX6_fall_45 : decode cX6_fall 45 = .ok (.iconst 0, 1) := by decide +kernel
theorem dX6_fall_46 : decode cX6_fall 46 = .ok (.istore_n 3, 1) := by decide +kernel
theorem dX6_fall_47 : decode cX6_fall 47 = .ok (.iload_n 3, 1) := by decide +kernel
theorem dX6_fall_48 : decode cX6_fall 48 = .ok (.ifCond .eq 34, 3) := by decide +kernel
theorem dX6_fall_51 : decode cX6_fall 51 = .ok (.aload_n 0, 1) := by decide +kernel
theorem dX6_fall_52 : decode cX6_fall 52 = .ok (.iload_n 2, 1) := by decide +kernel
theorem dX6_fall_53 : decode cX6_fall 53 = .ok (.invokevirtual 266, 3) := by decide +kernel
theorem dX6_fall_56 : decode cX6_fall 56 = .ok (.ifCond .eq 26, 3) := by decide +kernel
theorem dX6_fall_59 : decode cX6_fall 59 = .ok (.aload_n 0, 1) := by decide +kernel
theorem dX6_fall_60 : decode cX6_fall 60 = .ok (.getfield 45, 3) := by decide +kernel
theorem dX6_fall_63 : decode cX6_fall 63 = .ok (.aload_n 0, 1) := by decide +kernel
theorem dX6_fall_64 : decode cX6_fall 64 = .ok (.getfield 31, 3) := by decide +kernel
theorem dX6_fall_67 : decode cX6_fall 67 = .ok (.invokevirtual 144, 3) := by decide +kernel
theorem dX6_fall_70 : decode cX6_fall 70 = .ok (.iload_n 2, 1) := by decide +kernel
theorem dX6_fall_71 : decode cX6_fall 71 = .ok (.invokestatic 209, 3) := by decide +kernel
theorem dX6_fall_74 : decode cX6_fall 74 = .ok (.invokevirtual 250, 3) := by decide +kernel
theorem dX6_fall_77 : decode cX6_fall 77 = .ok (.ifCond .ne 5, 3) := by decide +kernel
theorem dX6_fall_80 : decode cX6_fall 80 = .ok (.iload_n 2, 1) := by decide +kernel
theorem dX6_fall_81 : decode cX6_fall 81 = .ok (.istore_n 1, 1) := by decide +kernel
theorem dX6_fall_82 : decode cX6_fall 82 = .ok (.iinc 2 1, 3) := by decide +kernel
theorem dX6_fall_85 : decode cX6_fall 85 = .ok (.goto (-67), 3) := by decide +kernel
theorem dX6_fall_88 : decode cX6_fall 88 = .ok (.iload_n 1, 1) := by decide +kernel
theorem dX6_fall_89 : decode cX6_fall 89 = .ok (.bipush (-9), 2) := by decide +kernel
theorem dX6_fall_91 : decode cX6_fall 91 = .ok (.if_icmp .ne 6, 3) := by decide +kernel
theorem dX6_fall_94 : decode cX6_fall 94 = .ok (.bipush (-9), 2) := by decide +kernel
theorem dX6_fall_96 : decode cX6_fall 96 = .ok (.ireturn, 1) := by decide +kernel
theorem dX6_fall_97 : decode cX6_fall 97 = .ok (.aload_n 0, 1) := by decide +kernel
theorem dX6_fall_98 : decode cX6_fall 98 = .ok (.iload_n 1, 1) := by decide +kernel
theorem dX6_fall_99 : decode cX6_fall 99 = .ok (.invokevirtual 80, 3) := by decide +kernel
theorem dX6_fall_102 : decode cX6_fall 102 = .ok (.pop, 1) := by decide +kernel
theorem dX6_fall_103 : decode cX6_fall 103 = .ok (.iload_n 1, 1) := by decide +kernel
theorem dX6_fall_104 : decode cX6_fall 104 = .ok (.invokestatic 170, 3) := by decide +kernel
theorem dX6_fall_107 : decode cX6_fall 107 = .ok (.ireturn, 1) := by decide +kernel
theorem dX6_idle_0 : decode cX6_idle 0 = .ok (.aload_n 0, 1) := by decide +kernel
theorem dX6_idle_1 : decode cX6_idle 1 = .ok (.getfield 45, 3) := by decide +kernel
theorem dX6_idle_4 : decode cX6_idle 4 = .ok (.invokevirtual 218, 3) := by decide +kernel
theorem dX6_idle_7 : decode cX6_idle 7 = .ok (.ifCond .eq 6, 3) := by decide +kernel
theorem dX6_idle_10 : decode cX6_idle 10 = .ok (.bipush (-4), 2) := by decide +kernel
theorem dX6_idle_12 : decode cX6_idle 12 = .ok (.ireturn, 1) := by decide +kernel
theorem dX6_idle_13 : decode cX6_idle 13 = .ok (.aload_n 0, 1) := by decide +kernel
theorem dX6_idle_14 : decode cX6_idle 14 = .ok (.getfield 31, 3) := by decide +kernel
theorem dX6_idle_17 : decode cX6_idle 17 = .ok (.invokevirtual 144, 3) := by decide +kernel
theorem dX6_idle_20 : decode cX6_idle 20 = .ok (.lstore_n 1, 1) := by decide +kernel
theorem dX6_idle_21 : decode cX6_idle 21 = .ok (.iconst 0, 1) := by decide +kernel
theorem dX6_idle_22 : decode cX6_idle 22 = .ok (.istore_n 3, 1) := by decide +kernel
theorem dX6_idle_23 : decode cX6_idle 23 = .ok (.iconst 0, 1) := by decide +kernel
theorem dX6_idle_24 : decode cX6_idle 24 = .ok (.istore 4, 2) := by decide +kernel
theorem dX6_idle_26 : decode cX6_idle 26 = .ok (.iload 4, 2) := by decide +kernel
theorem dX6_idle_28 : decode cX6_idle 28 = .ok (.aload_n 0, 1) := by decide +kernel
theorem dX6_idle_29 : decode cX6_idle 29 = .ok (.getfield 45, 3) := by decide +kernel
theorem dX6_idle_32 : decode cX6_idle 32 = .ok (.getfield 128, 3) := by decide +kernel
theorem dX6_idle_35 : decode cX6_idle 35 = .ok (.if_icmp .ge 53, 3) := by decide +kernel
theorem dX6_idle_38 : decode cX6_idle 38 = .ok (.iconst 1, 1) := by decide +kernel
theorem dX6_idle_39 : decode cX6_idle 39 = .ok (.iload 4, 2) := by decide +kernel
theorem dX6_idle_41 : decode cX6_idle 41 = .ok (.ishl, 1) := by decide +kernel
theorem dX6_idle_42 : decode cX6_idle 42 = .ok (.istore 5, 2) := by decide +kernel
theorem dX6_idle_44 : decode cX6_idle 44 = .ok (.aload_n 0, 1) := by decide +kernel
theorem dX6_idle_45 : decode cX6_idle 45 = .ok (.iload 5, 2) := by decide +kernel
theorem dX6_idle_47 : decode cX6_idle 47 = .ok (.invokevirtual 266, 3) := by decide +kernel
theorem dX6_idle_50 : decode cX6_idle 50 = .ok (.ifCond .eq 32, 3) := by decide +kernel
theorem dX6_idle_53 : decode cX6_idle 53 = .ok (.aload_n 0, 1) := by decide +kernel
theorem dX6_idle_54 : decode cX6_idle 54 = .ok (.getfield 45, 3) := by decide +kernel
theorem dX6_idle_57 : decode cX6_idle 57 = .ok (.lload_n 1, 1) := by decide +kernel
theorem dX6_idle_58 : decode cX6_idle 58 = .ok (.iload 5, 2) := by decide +kernel
theorem dX6_idle_60 : decode cX6_idle 60 = .ok (.invokestatic 209, 3) := by decide +kernel
theorem dX6_idle_63 : decode cX6_idle 63 = .ok (.invokevirtual 250, 3) := by decide +kernel
theorem dX6_idle_66 : decode cX6_idle 66 = .ok (.aload_n 0, 1) := by decide +kernel
theorem dX6_idle_67 : decode cX6_idle 67 = .ok (.getfield 45, 3) := by decide +kernel
theorem dX6_idle_70 : decode cX6_idle 70 = .ok (.lload_n 1, 1) := by decide +kernel
theorem dX6_idle_71 : decode cX6_idle 71 = .ok (.invokevirtual 250, 3) := by decide +kernel
theorem dX6_idle_74 : decode cX6_idle 74 = .ok (.if_icmp .ne 8, 3) := by decide +kernel
theorem dX6_idle_77 : decode cX6_idle 77 = .ok (.iload_n 3, 1) := by decide +kernel
theorem dX6_idle_78 : decode cX6_idle 78 = .ok (.iload 5, 2) := by decide +kernel
theorem dX6_idle_80 : decode cX6_idle 80 = .ok (.ior, 1) := by decide +kernel
theorem dX6_idle_81 : decode cX6_idle 81 = .ok (.istore_n 3, 1) := by decide +kernel
theorem dX6_idle_82 : decode cX6_idle 82 = .ok (.iinc 4 1, 3) := by decide +kernel
theorem dX6_idle_85 : decode cX6_idle 85 = .ok (.goto (-59), 3) := by decide +kernel
theorem dX6_idle_88 : decode cX6_idle 88 = .ok (.iload_n 3, 1) := by decide +kernel
theorem dX6_idle_89 : decode cX6_idle 89 = .ok (.ireturn, 1) := by decide +kernel
theorem dX6_share_0 : decode cX6_share 0 = .ok (.iload_n 1, 1) := by decide +kernel
theorem dX6_share_1 : decode cX6_share 1 = .ok (.ifCond .lt 20, 3) := by decide +kernel
theorem dX6_share_4 : decode cX6_share 4 = .ok (.iload_n 1, 1) := by decide +kernel
theorem dX6_share_5 : decode cX6_share 5 = .ok (.bipush 60, 2) := by decide +kernel
theorem dX6_share_7 : decode cX6_share 7 = .ok (.if_icmp .gt 14, 3) := by decide +kernel
theorem dX6_share_10 : decode cX6_share 10 = .ok (.aload_n 0, 1) := by decide +kernel
theorem dX6_share_11 : decode cX6_share 11 = .ok (.getfield 14, 3) := by decide +kernel
theorem dX6_share_14 : decode cX6_share 14 = .ok (.iload_n 2, 1) := by decide +kernel
theorem dX6_share_15 : decode cX6_share 15 = .ok (.invokevirtual 92, 3) := by decide +kernel
theorem dX6_share_18 : decode cX6_share 18 = .ok (.ifCond .ne 5, 3) := by decide +kernel
theorem dX6_share_21 : decode cX6_share 21 = .ok (.iconst (-1), 1) := by decide +kernel
theorem dX6_share_22 : decode cX6_share 22 = .ok (.ireturn, 1) := by decide +kernel
theorem dX6_share_23 : decode cX6_share 23 = .ok (.aload_n 0, 1) := by decide +kernel
theorem dX6_share_24 : decode cX6_share 24 = .ok (.getfield 45, 3) := by decide +kernel
theorem dX6_share_27 : decode cX6_share 27 = .ok (.invokevirtual 218, 3) := by decide +kernel
theorem dX6_share_30 : decode cX6_share 30 = .ok (.ifCond .eq 6, 3) := by decide +kernel
theorem dX6_share_33 : decode cX6_share 33 = .ok (.bipush (-4), 2) := by decide +kernel
theorem dX6_share_35 : decode cX6_share 35 = .ok (.ireturn, 1) := by decide +kernel
theorem dX6_share_36 : decode cX6_share 36 = .ok (.aload_n 0, 1) := by decide +kernel
theorem dX6_share_37 : decode cX6_share 37 = .ok (.getfield 14, 3) := by decide +kernel
theorem dX6_share_40 : decode cX6_share 40 = .ok (.iload_n 2, 1) := by decide +kernel
theorem dX6_share_41 : decode cX6_share 41 = .ok (.aload_n 0, 1) := by decide +kernel
theorem dX6_share_42 : decode cX6_share 42 = .ok (.getfield 45, 3) := by decide +kernel
theorem dX6_share_45 : decode cX6_share 45 = .ok (.getfield 128, 3) := by decide +kernel
theorem dX6_share_48 : decode cX6_share 48 = .ok (.invokevirtual 262, 3) := by decide +kernel
theorem dX6_share_51 : decode cX6_share 51 = .ok (.iconst 0, 1) := by decide +kernel
theorem dX6_share_52 : decode cX6_share 52 = .ok (.istore_n 3, 1) := by decide +kernel
theorem dX6_share_53 : decode cX6_share 53 = .ok (.iload_n 3, 1) := by decide +kernel
theorem dX6_share_54 : decode cX6_share 54 = .ok (.iload_n 1, 1) := by decide +kernel
theorem dX6_share_55 : decode cX6_share 55 = .ok (.if_icmp .ge 49, 3) := by decide +kernel
theorem dX6_share_58 : decode cX6_share 58 = .ok (.aload_n 0, 1) := by decide +kernel
theorem dX6_share_59 : decode cX6_share 59 = .ok (.iload_n 2, 1) := by decide +kernel
theorem dX6_share_60 : decode cX6_share 60 = .ok (.invokevirtual 269, 3) := by decide +kernel
theorem dX6_share_63 : decode cX6_share 63 = .ok (.istore 4, 2) := by decide +kernel
theorem dX6_share_65 : decode cX6_share 65 = .ok (.iload 4, 2) := by decide +kernel
theorem dX6_share_67 : decode cX6_share 67 = .ok (.bipush (-9), 2) := by decide +kernel
theorem dX6_share_69 : decode cX6_share 69 = .ok (.if_icmp .ne 7, 3) := by decide +kernel
theorem dX6_share_72 : decode cX6_share 72 = .ok (.iload_n 1, 1) := by decide +kernel
theorem dX6_share_73 : decode cX6_share 73 = .ok (.iload_n 3, 1) := by decide +kernel
theorem dX6_share_74 : decode cX6_share 74 = .ok (.isub, 1) := by decide +kernel
theorem dX6_share_75 : decode cX6_share 75 = .ok (.ireturn, 1) := by decide +kernel
theorem dX6_share_76 : decode cX6_share 76 = .ok (.aload_n 0, 1) := by decide +kernel
theorem dX6_share_77 : decode cX6_share 77 = .ok (.getfield 14, 3) := by decide +kernel
theorem dX6_share_80 : decode cX6_share 80 = .ok (.iload_n 2, 1) := by decide +kernel
theorem dX6_share_81 : decode cX6_share 81 = .ok (.iload 4, 2) := by decide +kernel
theorem dX6_share_83 : decode cX6_share 83 = .ok (.aload_n 0, 1) := by decide +kernel
theorem dX6_share_84 : decode cX6_share 84 = .ok (.getfield 14, 3) := by decide +kernel
theorem dX6_share_87 : decode cX6_share 87 = .ok (.iload_n 2, 1) := by decide +kernel
theorem dX6_share_88 : decode cX6_share 88 = .ok (.iload 4, 2) := by decide +kernel
theorem dX6_share_90 : decode cX6_share 90 = .ok (.invokevirtual 73, 3) := by decide +kernel
theorem dX6_share_93 : decode cX6_share 93 = .ok (.iconst 1, 1) := by decide +kernel
theorem dX6_share_94 : decode cX6_share 94 = .ok (.iadd, 1) := by decide +kernel
theorem dX6_share_95 : decode cX6_share 95 = .ok (.invokevirtual 77, 3) := by decide +kernel
theorem dX6_share_98 : decode cX6_share 98 = .ok (.iinc 3 1, 3) := by decide +kernel
theorem dX6_share_101 : decode cX6_share 101 = .ok (.goto (-48), 3) := by decide +kernel
theorem dX6_share_104 : decode cX6_share 104 = .ok (.iconst 0, 1) := by decide +kernel
theorem dX6_share_105 : decode cX6_share 105 = .ok (.ireturn, 1) := by decide +kernel
theorem dX6_who_0 : decode cX6_who 0 = .ok (.aload_n 0, 1) := by decide +kernel
theorem dX6_who_1 : decode cX6_who 1 = .ok (.iload_n 1, 1) := by decide +kernel
theorem dX6_who_2 : decode cX6_who 2 = .ok (.invokevirtual 272, 3) := by decide +kernel
theorem dX6_who_5 : decode cX6_who 5 = .ok (.istore_n 2, 1) := by decide +kernel
theorem dX6_who_6 : decode cX6_who 6 = .ok (.iload_n 2, 1) := by decide +kernel
theorem dX6_who_7 : decode cX6_who 7 = .ok (.ifCond .eq 5, 3) := by decide +kernel
theorem dX6_who_10 : decode cX6_who 10 = .ok (.iload_n 2, 1) := by decide +kernel
theorem dX6_who_11 : decode cX6_who 11 = .ok (.ireturn, 1) := by decide +kernel
theorem dX6_who_12 : decode cX6_who 12 = .ok (.aload_n 0, 1) := by decide +kernel
theorem dX6_who_13 : decode cX6_who 13 = .ok (.iload_n 1, 1) := by decide +kernel
theorem dX6_who_14 : decode cX6_who 14 = .ok (.invokevirtual 275, 3) := by decide +kernel
theorem dX6_who_17 : decode cX6_who 17 = .ok (.istore_n 3, 1) := by decide +kernel
theorem dX6_who_18 : decode cX6_who 18 = .ok (.iconst 0, 1) := by decide +kernel
theorem dX6_who_19 : decode cX6_who 19 = .ok (.istore 4, 2) := by decide +kernel
theorem dX6_who_21 : decode cX6_who 21 = .ok (.iconst 0, 1) := by decide +kernel
theorem dX6_who_22 : decode cX6_who 22 = .ok (.istore 5, 2) := by decide +kernel
theorem dX6_who_24 : decode cX6_who 24 = .ok (.iload 5, 2) := by decide +kernel
theorem dX6_who_26 : decode cX6_who 26 = .ok (.aload_n 0, 1) := by decide +kernel
theorem dX6_who_27 : decode cX6_who 27 = .ok (.getfield 45, 3) := by decide +kernel
theorem dX6_who_30 : decode cX6_who 30 = .ok (.getfield 128, 3) := by decide +kernel
theorem dX6_who_33 : decode cX6_who 33 = .ok (.if_icmp .ge 34, 3) := by decide +kernel
theorem dX6_who_36 : decode cX6_who 36 = .ok (.iload_n 3, 1) := by decide +kernel
theorem dX6_who_37 : decode cX6_who 37 = .ok (.aload_n 0, 1) := by decide +kernel
theorem dX6_who_38 : decode cX6_who 38 = .ok (.getfield 45, 3) := by decide +kernel
theorem dX6_who_41 : decode cX6_who 41 = .ok (.iload 5, 2) := by decide +kernel
theorem dX6_who_43 : decode cX6_who 43 = .ok (.invokevirtual 137, 3) := by decide +kernel
theorem dX6_who_46 : decode cX6_who 46 = .ok (.ishr, 1) := by decide +kernel
theorem dX6_who_47 : decode cX6_who 47 = .ok (.iconst 1, 1) := by decide +kernel
theorem dX6_who_48 : decode cX6_who 48 = .ok (.iand, 1) := by decide +kernel
theorem dX6_who_49 : decode cX6_who 49 = .ok (.ifCond .eq 12, 3) := by decide +kernel
theorem dX6_who_52 : decode cX6_who 52 = .ok (.iload 4, 2) := by decide +kernel
theorem dX6_who_54 : decode cX6_who 54 = .ok (.iconst 1, 1) := by decide +kernel
theorem dX6_who_55 : decode cX6_who 55 = .ok (.iload 5, 2) := by decide +kernel
theorem dX6_who_57 : decode cX6_who 57 = .ok (.ishl, 1) := by decide +kernel
theorem dX6_who_58 : decode cX6_who 58 = .ok (.ior, 1) := by decide +kernel
theorem dX6_who_59 : decode cX6_who 59 = .ok (.istore 4, 2) := by decide +kernel
theorem dX6_who_61 : decode cX6_who 61 = .ok (.iinc 5 1, 3) := by decide +kernel
theorem dX6_who_64 : decode cX6_who 64 = .ok (.goto (-40), 3) := by decide +kernel
theorem dX6_who_67 : decode cX6_who 67 = .ok (.iload 4, 2) := by decide +kernel
theorem dX6_who_69 : decode cX6_who 69 = .ok (.ireturn, 1) := by decide +kernel
theorem dX6_kinds_0 : decode cX6_kinds 0 = .ok (.aload_n 0, 1) := by decide +kernel
theorem dX6_kinds_1 : decode cX6_kinds 1 = .ok (.iload_n 1, 1) := by decide +kernel
theorem dX6_kinds_2 : decode cX6_kinds 2 = .ok (.invokevirtual 272, 3) := by decide +kernel
theorem dX6_kinds_5 : decode cX6_kinds 5 = .ok (.istore_n 2, 1) := by decide +kernel
theorem dX6_kinds_6 : decode cX6_kinds 6 = .ok (.iload_n 2, 1) := by decide +kernel
theorem dX6_kinds_7 : decode cX6_kinds 7 = .ok (.ifCond .eq 7, 3) := by decide +kernel
theorem dX6_kinds_10 : decode cX6_kinds 10 = .ok (.iload_n 2, 1) := by decide +kernel
theorem dX6_kinds_11 : decode cX6_kinds 11 = .ok (.goto 8, 3) := by decide +kernel
theorem dX6_kinds_14 : decode cX6_kinds 14 = .ok (.aload_n 0, 1) := by decide +kernel
theorem dX6_kinds_15 : decode cX6_kinds 15 = .ok (.iload_n 1, 1) := by decide +kernel
theorem dX6_kinds_16 : decode cX6_kinds 16 = .ok (.invokevirtual 275, 3) := by decide +kernel
theorem dX6_kinds_19 : decode cX6_kinds 19 = .ok (.ireturn, 1) := by decide +kernel
theorem dX6_test_0 : decode cX6_test 0 = .ok (.aload_n 0, 1) := by decide +kernel
theorem dX6_test_1 : decode cX6_test 1 = .ok (.iload_n 1, 1) := by decide +kernel
theorem dX6_test_2 : decode cX6_test 2 = .ok (.invokevirtual 272, 3) := by decide +kernel
theorem dX6_test_5 : decode cX6_test 5 = .ok (.istore_n 2, 1) := by decide +kernel
theorem dX6_test_6 : decode cX6_test 6 = .ok (.iload_n 2, 1) := by decide +kernel
theorem dX6_test_7 : decode cX6_test 7 = .ok (.ifCond .eq 5, 3) := by decide +kernel
theorem dX6_test_10 : decode cX6_test 10 = .ok (.iload_n 2, 1) := by decide +kernel
theorem dX6_test_11 : decode cX6_test 11 = .ok (.ireturn, 1) := by decide +kernel
theorem dX6_test_12 : decode cX6_test 12 = .ok (.aload_n 0, 1) := by decide +kernel
theorem dX6_test_13 : decode cX6_test 13 = .ok (.iload_n 1, 1) := by decide +kernel
theorem dX6_test_14 : decode cX6_test 14 = .ok (.invokevirtual 275, 3) := by decide +kernel
theorem dX6_test_17 : decode cX6_test 17 = .ok (.istore_n 3, 1) := by decide +kernel
theorem dX6_test_18 : decode cX6_test 18 = .ok (.iload_n 3, 1) := by decide +kernel
theorem dX6_test_19 : decode cX6_test 19 = .ok (.ifCond .ne 6, 3) := by decide +kernel
theorem dX6_test_22 : decode cX6_test 22 = .ok (.bipush (-9), 2) := by decide +kernel
theorem dX6_test_24 : decode cX6_test 24 = .ok (.ireturn, 1) := by decide +kernel
theorem dX6_test_25 : decode cX6_test 25 = .ok (.iconst 0, 1) := by decide +kernel
theorem dX6_test_26 : decode cX6_test 26 = .ok (.istore 4, 2) := by decide +kernel
theorem dX6_test_28 : decode cX6_test 28 = .ok (.iconst 1, 1) := by decide +kernel
theorem dX6_test_29 : decode cX6_test 29 = .ok (.istore 5, 2) := by decide +kernel
theorem dX6_test_31 : decode cX6_test 31 = .ok (.iload 5, 2) := by decide +kernel
theorem dX6_test_33 : decode cX6_test 33 = .ok (.bipush 20, 2) := by decide +kernel
theorem dX6_test_35 : decode cX6_test 35 = .ok (.if_icmp .gt 28, 3) := by decide +kernel
theorem dX6_test_38 : decode cX6_test 38 = .ok (.iload_n 3, 1) := by decide +kernel
theorem dX6_test_39 : decode cX6_test 39 = .ok (.iload 5, 2) := by decide +kernel
theorem dX6_test_41 : decode cX6_test 41 = .ok (.invokestatic 278, 3) := by decide +kernel
theorem dX6_test_44 : decode cX6_test 44 = .ok (.iload_n 3, 1) := by decide +kernel
theorem dX6_test_45 : decode cX6_test 45 = .ok (.iload 4, 2) := by decide +kernel
theorem dX6_test_47 : decode cX6_test 47 = .ok (.invokestatic 278, 3) := by decide +kernel
theorem dX6_test_50 : decode cX6_test 50 = .ok (.if_icmp .ge 7, 3) := by decide +kernel
theorem dX6_test_53 : decode cX6_test 53 = .ok (.iload 5, 2) := by decide +kernel
theorem dX6_test_55 : decode cX6_test 55 = .ok (.istore 4, 2) := by decide +kernel
theorem dX6_test_57 : decode cX6_test 57 = .ok (.iinc 5 1, 3) := by decide +kernel
theorem dX6_test_60 : decode cX6_test 60 = .ok (.goto (-29), 3) := by decide +kernel
theorem dX6_test_63 : decode cX6_test 63 = .ok (.aload_n 0, 1) := by decide +kernel
theorem dX6_test_64 : decode cX6_test 64 = .ok (.iload_n 3, 1) := by decide +kernel
theorem dX6_test_65 : decode cX6_test 65 = .ok (.iload 4, 2) := by decide +kernel
theorem dX6_test_67 : decode cX6_test 67 = .ok (.invokestatic 278, 3) := by decide +kernel
theorem dX6_test_70 : decode cX6_test 70 = .ok (.invokevirtual 80, 3) := by decide +kernel
theorem dX6_test_73 : decode cX6_test 73 = .ok (.pop, 1) := by decide +kernel
theorem dX6_test_74 : decode cX6_test 74 = .ok (.iload 4, 2) := by decide +kernel
theorem dX6_test_76 : decode cX6_test 76 = .ok (.ireturn, 1) := by decide +kernel
theorem dX6_duel_0 : decode cX6_duel 0 = .ok (.iload_n 1, 1) := by decide +kernel
theorem dX6_duel_1 : decode cX6_duel 1 = .ok (.ifCond .lt 8, 3) := by decide +kernel
theorem dX6_duel_4 : decode cX6_duel 4 = .ok (.iload_n 1, 1) := by decide +kernel
theorem dX6_duel_5 : decode cX6_duel 5 = .ok (.iconst 3, 1) := by decide +kernel
theorem dX6_duel_6 : decode cX6_duel 6 = .ok (.if_icmp .le 5, 3) := by decide +kernel
theorem dX6_duel_9 : decode cX6_duel 9 = .ok (.iconst (-1), 1) := by decide +kernel
theorem dX6_duel_10 : decode cX6_duel 10 = .ok (.ireturn, 1) := by decide +kernel
theorem dX6_duel_11 : decode cX6_duel 11 = .ok (.aload_n 0, 1) := by decide +kernel
theorem dX6_duel_12 : decode cX6_duel 12 = .ok (.getfield 45, 3) := by decide +kernel
theorem dX6_duel_15 : decode cX6_duel 15 = .ok (.invokevirtual 218, 3) := by decide +kernel
theorem dX6_duel_18 : decode cX6_duel 18 = .ok (.ifCond .eq 6, 3) := by decide +kernel
theorem dX6_duel_21 : decode cX6_duel 21 = .ok (.bipush (-4), 2) := by decide +kernel
theorem dX6_duel_23 : decode cX6_duel 23 = .ok (.ireturn, 1) := by decide +kernel
theorem dX6_duel_24 : decode cX6_duel 24 = .ok (.aload_n 0, 1) := by decide +kernel
theorem dX6_duel_25 : decode cX6_duel 25 = .ok (.aload_n 0, 1) := by decide +kernel
theorem dX6_duel_26 : decode cX6_duel 26 = .ok (.getfield 45, 3) := by decide +kernel
theorem dX6_duel_29 : decode cX6_duel 29 = .ok (.aload_n 0, 1) := by decide +kernel
theorem dX6_duel_30 : decode cX6_duel 30 = .ok (.getfield 31, 3) := by decide +kernel
theorem dX6_duel_33 : decode cX6_duel 33 = .ok (.invokevirtual 144, 3) := by decide +kernel
theorem dX6_duel_36 : decode cX6_duel 36 = .ok (.iconst 2, 1) := by decide +kernel
theorem dX6_duel_37 : decode cX6_duel 37 = .ok (.iload_n 1, 1) := by decide +kernel
theorem dX6_duel_38 : decode cX6_duel 38 = .ok (.imul, 1) := by decide +kernel
theorem dX6_duel_39 : decode cX6_duel 39 = .ok (.invokestatic 281, 3) := by decide +kernel
theorem dX6_duel_42 : decode cX6_duel 42 = .ok (.invokevirtual 80, 3) := by decide +kernel
theorem dX6_duel_45 : decode cX6_duel 45 = .ok (.ireturn, 1) := by decide +kernel
theorem dX6_odds_0 : decode cX6_odds 0 = .ok (.aload_n 0, 1) := by decide +kernel
theorem dX6_odds_1 : decode cX6_odds 1 = .ok (.getfield 45, 3) := by decide +kernel
theorem dX6_odds_4 : decode cX6_odds 4 = .ok (.iload_n 1, 1) := by decide +kernel
theorem dX6_odds_5 : decode cX6_odds 5 = .ok (.invokevirtual 253, 3) := by decide +kernel
theorem dX6_odds_8 : decode cX6_odds 8 = .ok (.ifCond .eq 13, 3) := by decide +kernel
theorem dX6_odds_11 : decode cX6_odds 11 = .ok (.iload_n 2, 1) := by decide +kernel
theorem dX6_odds_12 : decode cX6_odds 12 = .ok (.ifCond .lt 9, 3) := by decide +kernel
theorem dX6_odds_15 : decode cX6_odds 15 = .ok (.iload_n 2, 1) := by decide +kernel
theorem dX6_odds_16 : decode cX6_odds 16 = .ok (.bipush 12, 2) := by decide +kernel
theorem dX6_odds_18 : decode cX6_odds 18 = .ok (.if_icmp .le 5, 3) := by decide +kernel
theorem dX6_odds_21 : decode cX6_odds 21 = .ok (.iconst (-1), 1) := by decide +kernel
theorem dX6_odds_22 : decode cX6_odds 22 = .ok (.ireturn, 1) := by decide +kernel
theorem dX6_odds_23 : decode cX6_odds 23 = .ok (.aload_n 0, 1) := by decide +kernel
theorem dX6_odds_24 : decode cX6_odds 24 = .ok (.iconst 1, 1) := by decide +kernel
theorem dX6_odds_25 : decode cX6_odds 25 = .ok (.iload_n 1, 1) := by decide +kernel
theorem dX6_odds_26 : decode cX6_odds 26 = .ok (.ishl, 1) := by decide +kernel
theorem dX6_odds_27 : decode cX6_odds 27 = .ok (.iload_n 2, 1) := by decide +kernel
theorem dX6_odds_28 : decode cX6_odds 28 = .ok (.invokevirtual 285, 3) := by decide +kernel
theorem dX6_odds_31 : decode cX6_odds 31 = .ok (.ireturn, 1) := by decide +kernel
theorem dX6_mid_0 : decode cX6_mid 0 = .ok (.iload_n 1, 1) := by decide +kernel
theorem dX6_mid_1 : decode cX6_mid 1 = .ok (.ifCond .lt 9, 3) := by decide +kernel
theorem dX6_mid_4 : decode cX6_mid 4 = .ok (.iload_n 1, 1) := by decide +kernel
theorem dX6_mid_5 : decode cX6_mid 5 = .ok (.bipush 12, 2) := by decide +kernel
theorem dX6_mid_7 : decode cX6_mid 7 = .ok (.if_icmp .le 5, 3) := by decide +kernel
theorem dX6_mid_10 : decode cX6_mid 10 = .ok (.iconst (-1), 1) := by decide +kernel
theorem dX6_mid_11 : decode cX6_mid 11 = .ok (.ireturn, 1) := by decide +kernel
theorem dX6_mid_12 : decode cX6_mid 12 = .ok (.aload_n 0, 1) := by decide +kernel
theorem dX6_mid_13 : decode cX6_mid 13 = .ok (.getfield 45, 3) := by decide +kernel
theorem dX6_mid_16 : decode cX6_mid 16 = .ok (.invokevirtual 218, 3) := by decide +kernel
theorem dX6_mid_19 : decode cX6_mid 19 = .ok (.ifCond .eq 6, 3) := by decide +kernel
theorem dX6_mid_22 : decode cX6_mid 22 = .ok (.bipush (-4), 2) := by decide +kernel
theorem dX6_mid_24 : decode cX6_mid 24 = .ok (.ireturn, 1) := by decide +kernel
theorem dX6_mid_25 : decode cX6_mid 25 = .ok (.aload_n 0, 1) := by decide +kernel
theorem dX6_mid_26 : decode cX6_mid 26 = .ok (.bipush 15, 2) := by decide +kernel
theorem dX6_mid_28 : decode cX6_mid 28 = .ok (.iload_n 1, 1) := by decide +kernel
theorem dX6_mid_29 : decode cX6_mid 29 = .ok (.invokevirtual 285, 3) := by decide +kernel
theorem dX6_mid_32 : decode cX6_mid 32 = .ok (.ireturn, 1) := by decide +kernel
theorem dX6_lots_0 : decode cX6_lots 0 = .ok (.iload_n 1, 1) := by decide +kernel
theorem dX6_lots_1 : decode cX6_lots 1 = .ok (.iconst 1, 1) := by decide +kernel
theorem dX6_lots_2 : decode cX6_lots 2 = .ok (.if_icmp .lt 21, 3) := by decide +kernel
theorem dX6_lots_5 : decode cX6_lots 5 = .ok (.iload_n 1, 1) := by decide +kernel
theorem dX6_lots_6 : decode cX6_lots 6 = .ok (.bipush 20, 2) := by decide +kernel
theorem dX6_lots_8 : decode cX6_lots 8 = .ok (.if_icmp .gt 15, 3) := by decide +kernel
theorem dX6_lots_11 : decode cX6_lots 11 = .ok (.iload_n 2, 1) := by decide +kernel
theorem dX6_lots_12 : decode cX6_lots 12 = .ok (.iconst 1, 1) := by decide +kernel
theorem dX6_lots_13 : decode cX6_lots 13 = .ok (.if_icmp .lt 10, 3) := by decide +kernel
theorem dX6_lots_16 : decode cX6_lots 16 = .ok (.iload_n 2, 1) := by decide +kernel
theorem dX6_lots_17 : decode cX6_lots 17 = .ok (.ldc_w 288, 3) := by decide +kernel
theorem dX6_lots_20 : decode cX6_lots 20 = .ok (.if_icmp .le 5, 3) := by decide +kernel
theorem dX6_lots_23 : decode cX6_lots 23 = .ok (.iconst (-1), 1) := by decide +kernel
theorem dX6_lots_24 : decode cX6_lots 24 = .ok (.ireturn, 1) := by decide +kernel
theorem dX6_lots_25 : decode cX6_lots 25 = .ok (.aload_n 0, 1) := by decide +kernel
theorem dX6_lots_26 : decode cX6_lots 26 = .ok (.getfield 45, 3) := by decide +kernel
theorem dX6_lots_29 : decode cX6_lots 29 = .ok (.invokevirtual 218, 3) := by decide +kernel
theorem dX6_lots_32 : decode cX6_lots 32 = .ok (.ifCond .eq 6, 3) := by decide +kernel
theorem dX6_lots_35 : decode cX6_lots 35 = .ok (.bipush (-4), 2) := by decide +kernel
theorem dX6_lots_37 : decode cX6_lots 37 = .ok (.ireturn, 1) := by decide +kernel
theorem dX6_lots_38 : decode cX6_lots 38 = .ok (.aload_n 0, 1) := by decide +kernel
theorem dX6_lots_39 : decode cX6_lots 39 = .ok (.getfield 31, 3) := by decide +kernel
theorem dX6_lots_42 : decode cX6_lots 42 = .ok (.iload_n 1, 1) := by decide +kernel
theorem dX6_lots_43 : decode cX6_lots 43 = .ok (.invokevirtual 289, 3) := by decide +kernel
theorem dX6_lots_46 : decode cX6_lots 46 = .ok (.ifCond .eq 6, 3) := by decide +kernel
theorem dX6_lots_49 : decode cX6_lots 49 = .ok (.bipush (-2), 2) := by decide +kernel
theorem dX6_lots_51 : decode cX6_lots 51 = .ok (.ireturn, 1) := by decide +kernel
theorem dX6_lots_52 : decode cX6_lots 52 = .ok (.iload_n 2, 1) := by decide +kernel
theorem dX6_lots_53 : decode cX6_lots 53 = .ok (.istore_n 3, 1) := by decide +kernel
theorem dX6_lots_54 : decode cX6_lots 54 = .ok (.iconst 0, 1) := by decide +kernel
theorem dX6_lots_55 : decode cX6_lots 55 = .ok (.istore 4, 2) := by decide +kernel
theorem dX6_lots_57 : decode cX6_lots 57 = .ok (.iload 4, 2) := by decide +kernel
theorem dX6_lots_59 : decode cX6_lots 59 = .ok (.iload_n 1, 1) := by decide +kernel
theorem dX6_lots_60 : decode cX6_lots 60 = .ok (.if_icmp .ge 43, 3) := by decide +kernel
theorem dX6_lots_63 : decode cX6_lots 63 = .ok (.ldc2_w 292, 3) := by decide +kernel
theorem dX6_lots_66 : decode cX6_lots 66 = .ok (.iload_n 3, 1) := by decide +kernel
theorem dX6_lots_67 : decode cX6_lots 67 = .ok (.i2l, 1) := by decide +kernel
theorem dX6_lots_68 : decode cX6_lots 68 = .ok (.lmul, 1) := by decide +kernel
theorem dX6_lots_69 : decode cX6_lots 69 = .ok (.ldc2_w 294, 3) := by decide +kernel
theorem dX6_lots_72 : decode cX6_lots 72 = .ok (.lrem, 1) := by decide +kernel
theorem dX6_lots_73 : decode cX6_lots 73 = .ok (.l2i, 1) := by decide +kernel
theorem dX6_lots_74 : decode cX6_lots 74 = .ok (.istore_n 3, 1) := by decide +kernel
theorem dX6_lots_75 : decode cX6_lots 75 = .ok (.aload_n 0, 1) := by decide +kernel
theorem dX6_lots_76 : decode cX6_lots 76 = .ok (.getfield 31, 3) := by decide +kernel
theorem dX6_lots_79 : decode cX6_lots 79 = .ok (.aload_n 0, 1) := by decide +kernel
theorem dX6_lots_80 : decode cX6_lots 80 = .ok (.getfield 45, 3) := by decide +kernel
theorem dX6_lots_83 : decode cX6_lots 83 = .ok (.aload_n 0, 1) := by decide +kernel
theorem dX6_lots_84 : decode cX6_lots 84 = .ok (.getfield 31, 3) := by decide +kernel
theorem dX6_lots_87 : decode cX6_lots 87 = .ok (.invokevirtual 144, 3) := by decide +kernel
theorem dX6_lots_90 : decode cX6_lots 90 = .ok (.iload_n 3, 1) := by decide +kernel
theorem dX6_lots_91 : decode cX6_lots 91 = .ok (.invokevirtual 296, 3) := by decide +kernel
theorem dX6_lots_94 : decode cX6_lots 94 = .ok (.invokevirtual 299, 3) := by decide +kernel
theorem dX6_lots_97 : decode cX6_lots 97 = .ok (.iinc 4 1, 3) := by decide +kernel
theorem dX6_lots_100 : decode cX6_lots 100 = .ok (.goto (-43), 3) := by decide +kernel
theorem dX6_lots_103 : decode cX6_lots 103 = .ok (.aload_n 0, 1) := by decide +kernel
theorem dX6_lots_104 : decode cX6_lots 104 = .ok (.getfield 45, 3) := by decide +kernel
theorem dX6_lots_107 : decode cX6_lots 107 = .ok (.aload_n 0, 1) := by decide +kernel
theorem dX6_lots_108 : decode cX6_lots 108 = .ok (.getfield 31, 3) := by decide +kernel
theorem dX6_lots_111 : decode cX6_lots 111 = .ok (.invokevirtual 144, 3) := by decide +kernel
theorem dX6_lots_114 : decode cX6_lots 114 = .ok (.invokevirtual 250, 3) := by decide +kernel
theorem dX6_lots_117 : decode cX6_lots 117 = .ok (.invokestatic 170, 3) := by decide +kernel
theorem dX6_lots_120 : decode cX6_lots 120 = .ok (.ireturn, 1) := by decide +kernel
theorem dX6_asked_0 : decode cX6_asked 0 = .ok (.aload_n 0, 1) := by decide +kernel
theorem dX6_asked_1 : decode cX6_asked 1 = .ok (.getfield 56, 3) := by decide +kernel
theorem dX6_asked_4 : decode cX6_asked 4 = .ok (.ireturn, 1) := by decide +kernel
theorem dX6_upper_0 : decode cX6_upper 0 = .ok (.aload_n 0, 1) := by decide +kernel
theorem dX6_upper_1 : decode cX6_upper 1 = .ok (.getfield 59, 3) := by decide +kernel
theorem dX6_upper_4 : decode cX6_upper 4 = .ok (.lreturn, 1) := by decide +kernel
theorem dX6_lower_0 : decode cX6_lower 0 = .ok (.aload_n 0, 1) := by decide +kernel
theorem dX6_lower_1 : decode cX6_lower 1 = .ok (.getfield 63, 3) := by decide +kernel
theorem dX6_lower_4 : decode cX6_lower 4 = .ok (.lreturn, 1) := by decide +kernel
theorem dX6_count_0 : decode cX6_count 0 = .ok (.iload_n 1, 1) := by decide +kernel
theorem dX6_count_1 : decode cX6_count 1 = .ok (.ifCond .lt 9, 3) := by decide +kernel
theorem dX6_count_4 : decode cX6_count 4 = .ok (.iload_n 1, 1) := by decide +kernel
theorem dX6_count_5 : decode cX6_count 5 = .ok (.bipush 12, 2) := by decide +kernel
theorem dX6_count_7 : decode cX6_count 7 = .ok (.if_icmp .le 5, 3) := by decide +kernel
theorem dX6_count_10 : decode cX6_count 10 = .ok (.iconst (-1), 1) := by decide +kernel
theorem dX6_count_11 : decode cX6_count 11 = .ok (.ireturn, 1) := by decide +kernel
theorem dX6_count_12 : decode cX6_count 12 = .ok (.aload_n 0, 1) := by decide +kernel
theorem dX6_count_13 : decode cX6_count 13 = .ok (.getfield 31, 3) := by decide +kernel
theorem dX6_count_16 : decode cX6_count 16 = .ok (.invokevirtual 144, 3) := by decide +kernel
theorem dX6_count_19 : decode cX6_count 19 = .ok (.lstore_n 2, 1) := by decide +kernel
theorem dX6_count_20 : decode cX6_count 20 = .ok (.iload_n 1, 1) := by decide +kernel
theorem dX6_count_21 : decode cX6_count 21 = .ok (.tableswitch 146 0 11 #[63, 71, 79, 87, 92, 97, 102, 107, 112, 121, 130, 138], 63) := by decide +kernel
theorem dX6_count_84 : decode cX6_count 84 = .ok (.aload_n 0, 1) := by decide +kernel
theorem dX6_count_85 : decode cX6_count 85 = .ok (.getfield 45, 3) := by decide +kernel
theorem dX6_count_88 : decode cX6_count 88 = .ok (.getfield 128, 3) := by decide +kernel
theorem dX6_count_91 : decode cX6_count 91 = .ok (.ireturn, 1) := by decide +kernel
theorem dX6_count_92 : decode cX6_count 92 = .ok (.aload_n 0, 1) := by decide +kernel
theorem dX6_count_93 : decode cX6_count 93 = .ok (.getfield 45, 3) := by decide +kernel
theorem dX6_count_96 : decode cX6_count 96 = .ok (.getfield 302, 3) := by decide +kernel
theorem dX6_count_99 : decode cX6_count 99 = .ok (.ireturn, 1) := by decide +kernel
theorem dX6_count_100 : decode cX6_count 100 = .ok (.aload_n 0, 1) := by decide +kernel
theorem dX6_count_101 : decode cX6_count 101 = .ok (.getfield 31, 3) := by decide +kernel
theorem dX6_count_104 : decode cX6_count 104 = .ok (.invokevirtual 228, 3) := by decide +kernel
theorem dX6_count_107 : decode cX6_count 107 = .ok (.ireturn, 1) := by decide +kernel
theorem dX6_count_108 : decode cX6_count 108 = .ok (.lload_n 2, 1) := by decide +kernel
theorem dX6_count_109 : decode cX6_count 109 = .ok (.invokestatic 222, 3) := by decide +kernel
theorem dX6_count_112 : decode cX6_count 112 = .ok (.ireturn, 1) := by decide +kernel
theorem dX6_count_113 : decode cX6_count 113 = .ok (.lload_n 2, 1) := by decide +kernel
theorem dX6_count_114 : decode cX6_count 114 = .ok (.invokestatic 166, 3) := by decide +kernel
theorem dX6_count_117 : decode cX6_count 117 = .ok (.ireturn, 1) := by decide +kernel
theorem dX6_count_118 : decode cX6_count 118 = .ok (.lload_n 2, 1) := by decide +kernel
theorem dX6_count_119 : decode cX6_count 119 = .ok (.invokestatic 206, 3) := by decide +kernel
theorem dX6_count_122 : decode cX6_count 122 = .ok (.ireturn, 1) := by decide +kernel
theorem dX6_count_123 : decode cX6_count 123 = .ok (.lload_n 2, 1) := by decide +kernel
theorem dX6_count_124 : decode cX6_count 124 = .ok (.invokestatic 212, 3) := by decide +kernel
theorem dX6_count_127 : decode cX6_count 127 = .ok (.ireturn, 1) := by decide +kernel
theorem dX6_count_128 : decode cX6_count 128 = .ok (.lload_n 2, 1) := by decide +kernel
theorem dX6_count_129 : decode cX6_count 129 = .ok (.invokestatic 305, 3) := by decide +kernel
theorem dX6_count_132 : decode cX6_count 132 = .ok (.ireturn, 1) := by decide +kernel
theorem dX6_count_133 : decode cX6_count 133 = .ok (.aload_n 0, 1) := by decide +kernel
theorem dX6_count_134 : decode cX6_count 134 = .ok (.getfield 45, 3) := by decide +kernel
theorem dX6_count_137 : decode cX6_count 137 = .ok (.iconst 1, 1) := by decide +kernel
theorem dX6_count_138 : decode cX6_count 138 = .ok (.invokevirtual 308, 3) := by decide +kernel
theorem dX6_count_141 : decode cX6_count 141 = .ok (.ireturn, 1) := by decide +kernel
theorem dX6_count_142 : decode cX6_count 142 = .ok (.aload_n 0, 1) := by decide +kernel
theorem dX6_count_143 : decode cX6_count 143 = .ok (.getfield 45, 3) := by decide +kernel
theorem dX6_count_146 : decode cX6_count 146 = .ok (.iconst 3, 1) := by decide +kernel
theorem dX6_count_147 : decode cX6_count 147 = .ok (.invokevirtual 308, 3) := by decide +kernel
theorem dX6_count_150 : decode cX6_count 150 = .ok (.ireturn, 1) := by decide +kernel
theorem dX6_count_151 : decode cX6_count 151 = .ok (.aload_n 0, 1) := by decide +kernel
theorem dX6_count_152 : decode cX6_count 152 = .ok (.getfield 14, 3) := by decide +kernel
theorem dX6_count_155 : decode cX6_count 155 = .ok (.invokevirtual 311, 3) := by decide +kernel
theorem dX6_count_158 : decode cX6_count 158 = .ok (.ireturn, 1) := by decide +kernel
theorem dX6_count_159 : decode cX6_count 159 = .ok (.aload_n 0, 1) := by decide +kernel
theorem dX6_count_160 : decode cX6_count 160 = .ok (.getfield 18, 3) := by decide +kernel
theorem dX6_count_163 : decode cX6_count 163 = .ok (.invokevirtual 311, 3) := by decide +kernel
theorem dX6_count_166 : decode cX6_count 166 = .ok (.ireturn, 1) := by decide +kernel
theorem dX6_count_167 : decode cX6_count 167 = .ok (.aload_n 0, 1) := by decide +kernel
theorem dX6_count_168 : decode cX6_count 168 = .ok (.getfield 31, 3) := by decide +kernel
theorem dX6_count_171 : decode cX6_count 171 = .ok (.invokevirtual 314, 3) := by decide +kernel
theorem dX6_count_174 : decode cX6_count 174 = .ok (.ireturn, 1) := by decide +kernel
theorem dX6_finding_0 : decode cX6_finding 0 = .ok (.aload_n 0, 1) := by decide +kernel
theorem dX6_finding_1 : decode cX6_finding 1 = .ok (.getfield 52, 3) := by decide +kernel
theorem dX6_finding_4 : decode cX6_finding 4 = .ok (.ireturn, 1) := by decide +kernel
theorem dX6_findings_0 : decode cX6_findings 0 = .ok (.iload_n 1, 1) := by decide +kernel
theorem dX6_findings_1 : decode cX6_findings 1 = .ok (.iconst 1, 1) := by decide +kernel
theorem dX6_findings_2 : decode cX6_findings 2 = .ok (.if_icmp .lt 8, 3) := by decide +kernel
theorem dX6_findings_5 : decode cX6_findings 5 = .ok (.iload_n 1, 1) := by decide +kernel
theorem dX6_findings_6 : decode cX6_findings 6 = .ok (.iconst 5, 1) := by decide +kernel
theorem dX6_findings_7 : decode cX6_findings 7 = .ok (.if_icmp .le 7, 3) := by decide +kernel
theorem dX6_findings_10 : decode cX6_findings 10 = .ok (.iconst (-1), 1) := by decide +kernel
theorem dX6_findings_11 : decode cX6_findings 11 = .ok (.goto 9, 3) := by decide +kernel
theorem dX6_findings_14 : decode cX6_findings 14 = .ok (.aload_n 0, 1) := by decide +kernel
theorem dX6_findings_15 : decode cX6_findings 15 = .ok (.getfield 39, 3) := by decide +kernel
theorem dX6_findings_18 : decode cX6_findings 18 = .ok (.iload_n 1, 1) := by decide +kernel
theorem dX6_findings_19 : decode cX6_findings 19 = .ok (.iaload, 1) := by decide +kernel
theorem dX6_findings_20 : decode cX6_findings 20 = .ok (.ireturn, 1) := by decide +kernel
theorem dX6_digest_0 : decode cX6_digest 0 = .ok (.ldc2_w 317, 3) := by decide +kernel
theorem dX6_digest_3 : decode cX6_digest 3 = .ok (.lstore_n 1, 1) := by decide +kernel
theorem dX6_digest_4 : decode cX6_digest 4 = .ok (.iconst 0, 1) := by decide +kernel
theorem dX6_digest_5 : decode cX6_digest 5 = .ok (.istore_n 3, 1) := by decide +kernel
theorem dX6_digest_6 : decode cX6_digest 6 = .ok (.iload_n 3, 1) := by decide +kernel
theorem dX6_digest_7 : decode cX6_digest 7 = .ok (.bipush 12, 2) := by decide +kernel
theorem dX6_digest_9 : decode cX6_digest 9 = .ok (.if_icmp .gt 22, 3) := by decide +kernel
theorem dX6_digest_12 : decode cX6_digest 12 = .ok (.ldc2_w 319, 3) := by decide +kernel
theorem dX6_digest_15 : decode cX6_digest 15 = .ok (.lload_n 1, 1) := by decide +kernel
theorem dX6_digest_16 : decode cX6_digest 16 = .ok (.lmul, 1) := by decide +kernel
theorem dX6_digest_17 : decode cX6_digest 17 = .ok (.aload_n 0, 1) := by decide +kernel
theorem dX6_digest_18 : decode cX6_digest 18 = .ok (.iload_n 3, 1) := by decide +kernel
theorem dX6_digest_19 : decode cX6_digest 19 = .ok (.invokevirtual 321, 3) := by decide +kernel
theorem dX6_digest_22 : decode cX6_digest 22 = .ok (.i2l, 1) := by decide +kernel
theorem dX6_digest_23 : decode cX6_digest 23 = .ok (.ladd, 1) := by decide +kernel
theorem dX6_digest_24 : decode cX6_digest 24 = .ok (.lstore_n 1, 1) := by decide +kernel
theorem dX6_digest_25 : decode cX6_digest 25 = .ok (.iinc 3 1, 3) := by decide +kernel
theorem dX6_digest_28 : decode cX6_digest 28 = .ok (.goto (-22), 3) := by decide +kernel
theorem dX6_digest_31 : decode cX6_digest 31 = .ok (.iconst 0, 1) := by decide +kernel
theorem dX6_digest_32 : decode cX6_digest 32 = .ok (.istore_n 3, 1) := by decide +kernel
theorem dX6_digest_33 : decode cX6_digest 33 = .ok (.iload_n 3, 1) := by decide +kernel
theorem dX6_digest_34 : decode cX6_digest 34 = .ok (.aload_n 0, 1) := by decide +kernel
theorem dX6_digest_35 : decode cX6_digest 35 = .ok (.getfield 45, 3) := by decide +kernel
theorem dX6_digest_38 : decode cX6_digest 38 = .ok (.getfield 128, 3) := by decide +kernel
theorem dX6_digest_41 : decode cX6_digest 41 = .ok (.if_icmp .ge 39, 3) := by decide +kernel
theorem dX6_digest_44 : decode cX6_digest 44 = .ok (.iconst 0, 1) := by decide +kernel
theorem dX6_digest_45 : decode cX6_digest 45 = .ok (.istore 4, 2) := by decide +kernel
theorem dX6_digest_47 : decode cX6_digest 47 = .ok (.iload 4, 2) := by decide +kernel
theorem dX6_digest_49 : decode cX6_digest 49 = .ok (.iconst 5, 1) := by decide +kernel
theorem dX6_digest_50 : decode cX6_digest 50 = .ok (.if_icmp .gt 24, 3) := by decide +kernel
theorem dX6_digest_53 : decode cX6_digest 53 = .ok (.ldc2_w 319, 3) := by decide +kernel
theorem dX6_digest_56 : decode cX6_digest 56 = .ok (.lload_n 1, 1) := by decide +kernel
theorem dX6_digest_57 : decode cX6_digest 57 = .ok (.lmul, 1) := by decide +kernel
theorem dX6_digest_58 : decode cX6_digest 58 = .ok (.aload_n 0, 1) := by decide +kernel
theorem dX6_digest_59 : decode cX6_digest 59 = .ok (.iload_n 3, 1) := by decide +kernel
theorem dX6_digest_60 : decode cX6_digest 60 = .ok (.iload 4, 2) := by decide +kernel
theorem dX6_digest_62 : decode cX6_digest 62 = .ok (.invokevirtual 134, 3) := by decide +kernel
theorem dX6_digest_65 : decode cX6_digest 65 = .ok (.i2l, 1) := by decide +kernel
theorem dX6_digest_66 : decode cX6_digest 66 = .ok (.ladd, 1) := by decide +kernel
theorem dX6_digest_67 : decode cX6_digest 67 = .ok (.lstore_n 1, 1) := by decide +kernel
theorem dX6_digest_68 : decode cX6_digest 68 = .ok (.iinc 4 1, 3) := by decide +kernel
theorem dX6_digest_71 : decode cX6_digest 71 = .ok (.goto (-24), 3) := by decide +kernel
theorem dX6_digest_74 : decode cX6_digest 74 = .ok (.iinc 3 1, 3) := by decide +kernel
theorem dX6_digest_77 : decode cX6_digest 77 = .ok (.goto (-44), 3) := by decide +kernel
theorem dX6_digest_80 : decode cX6_digest 80 = .ok (.aload_n 0, 1) := by decide +kernel
theorem dX6_digest_81 : decode cX6_digest 81 = .ok (.getfield 45, 3) := by decide +kernel
theorem dX6_digest_84 : decode cX6_digest 84 = .ok (.aload_n 0, 1) := by decide +kernel
theorem dX6_digest_85 : decode cX6_digest 85 = .ok (.getfield 31, 3) := by decide +kernel
theorem dX6_digest_88 : decode cX6_digest 88 = .ok (.invokevirtual 144, 3) := by decide +kernel
theorem dX6_digest_91 : decode cX6_digest 91 = .ok (.invokevirtual 250, 3) := by decide +kernel
theorem dX6_digest_94 : decode cX6_digest 94 = .ok (.istore_n 3, 1) := by decide +kernel
theorem dX6_digest_95 : decode cX6_digest 95 = .ok (.iconst 0, 1) := by decide +kernel
theorem dX6_digest_96 : decode cX6_digest 96 = .ok (.istore 4, 2) := by decide +kernel
theorem dX6_digest_98 : decode cX6_digest 98 = .ok (.iload 4, 2) := by decide +kernel
theorem dX6_digest_100 : decode cX6_digest 100 = .ok (.aload_n 0, 1) := by decide +kernel
theorem dX6_digest_101 : decode cX6_digest 101 = .ok (.getfield 45, 3) := by decide +kernel
theorem dX6_digest_104 : decode cX6_digest 104 = .ok (.getfield 302, 3) := by decide +kernel
theorem dX6_digest_107 : decode cX6_digest 107 = .ok (.if_icmp .ge 23, 3) := by decide +kernel
theorem dX6_digest_110 : decode cX6_digest 110 = .ok (.ldc2_w 319, 3) := by decide +kernel
theorem dX6_digest_113 : decode cX6_digest 113 = .ok (.lload_n 1, 1) := by decide +kernel
theorem dX6_digest_114 : decode cX6_digest 114 = .ok (.lmul, 1) := by decide +kernel
theorem dX6_digest_115 : decode cX6_digest 115 = .ok (.iload_n 3, 1) := by decide +kernel
theorem dX6_digest_116 : decode cX6_digest 116 = .ok (.iload 4, 2) := by decide +kernel
theorem dX6_digest_118 : decode cX6_digest 118 = .ok (.ishr, 1) := by decide +kernel
theorem dX6_digest_119 : decode cX6_digest 119 = .ok (.iconst 1, 1) := by decide +kernel
theorem dX6_digest_120 : decode cX6_digest 120 = .ok (.iand, 1) := by decide +kernel
theorem dX6_digest_121 : decode cX6_digest 121 = .ok (.i2l, 1) := by decide +kernel
theorem dX6_digest_122 : decode cX6_digest 122 = .ok (.ladd, 1) := by decide +kernel
theorem dX6_digest_123 : decode cX6_digest 123 = .ok (.lstore_n 1, 1) := by decide +kernel
theorem dX6_digest_124 : decode cX6_digest 124 = .ok (.iinc 4 1, 3) := by decide +kernel
theorem dX6_digest_127 : decode cX6_digest 127 = .ok (.goto (-29), 3) := by decide +kernel
theorem dX6_digest_130 : decode cX6_digest 130 = .ok (.iconst 0, 1) := by decide +kernel
theorem dX6_digest_131 : decode cX6_digest 131 = .ok (.istore 4, 2) := by decide +kernel
theorem dX6_digest_133 : decode cX6_digest 133 = .ok (.iload 4, 2) := by decide +kernel
theorem dX6_digest_135 : decode cX6_digest 135 = .ok (.iconst 3, 1) := by decide +kernel
theorem dX6_digest_136 : decode cX6_digest 136 = .ok (.if_icmp .ge 26, 3) := by decide +kernel
theorem dX6_digest_139 : decode cX6_digest 139 = .ok (.ldc2_w 319, 3) := by decide +kernel
theorem dX6_digest_142 : decode cX6_digest 142 = .ok (.lload_n 1, 1) := by decide +kernel
theorem dX6_digest_143 : decode cX6_digest 143 = .ok (.lmul, 1) := by decide +kernel
theorem dX6_digest_144 : decode cX6_digest 144 = .ok (.aload_n 0, 1) := by decide +kernel
theorem dX6_digest_145 : decode cX6_digest 145 = .ok (.getfield 31, 3) := by decide +kernel
theorem dX6_digest_148 : decode cX6_digest 148 = .ok (.iload 4, 2) := by decide +kernel
theorem dX6_digest_150 : decode cX6_digest 150 = .ok (.invokevirtual 241, 3) := by decide +kernel
theorem dX6_digest_153 : decode cX6_digest 153 = .ok (.i2l, 1) := by decide +kernel
theorem dX6_digest_154 : decode cX6_digest 154 = .ok (.ladd, 1) := by decide +kernel
theorem dX6_digest_155 : decode cX6_digest 155 = .ok (.lstore_n 1, 1) := by decide +kernel
theorem dX6_digest_156 : decode cX6_digest 156 = .ok (.iinc 4 1, 3) := by decide +kernel
theorem dX6_digest_159 : decode cX6_digest 159 = .ok (.goto (-26), 3) := by decide +kernel
theorem dX6_digest_162 : decode cX6_digest 162 = .ok (.aload_n 0, 1) := by decide +kernel
theorem dX6_digest_163 : decode cX6_digest 163 = .ok (.getfield 18, 3) := by decide +kernel
theorem dX6_digest_166 : decode cX6_digest 166 = .ok (.aload_n 0, 1) := by decide +kernel
theorem dX6_digest_167 : decode cX6_digest 167 = .ok (.getfield 14, 3) := by decide +kernel
theorem dX6_digest_170 : decode cX6_digest 170 = .ok (.lload_n 1, 1) := by decide +kernel
theorem dX6_digest_171 : decode cX6_digest 171 = .ok (.invokevirtual 324, 3) := by decide +kernel
theorem dX6_digest_174 : decode cX6_digest 174 = .ok (.invokevirtual 324, 3) := by decide +kernel
theorem dX6_digest_177 : decode cX6_digest 177 = .ok (.lreturn, 1) := by decide +kernel
theorem dX6_tell_0 : decode cX6_tell 0 = .ok (.aload_n 0, 1) := by decide +kernel
theorem dX6_tell_1 : decode cX6_tell 1 = .ok (.iload_n 1, 1) := by decide +kernel
theorem dX6_tell_2 : decode cX6_tell 2 = .ok (.putfield 56, 3) := by decide +kernel
theorem dX6_tell_5 : decode cX6_tell 5 = .ok (.iconst 1, 1) := by decide +kernel
theorem dX6_tell_6 : decode cX6_tell 6 = .ok (.ireturn, 1) := by decide +kernel
theorem dX6_found_0 : decode cX6_found 0 = .ok (.iload_n 1, 1) := by decide +kernel
theorem dX6_found_1 : decode cX6_found 1 = .ok (.iconst 1, 1) := by decide +kernel
theorem dX6_found_2 : decode cX6_found 2 = .ok (.if_icmp .lt 23, 3) := by decide +kernel
theorem dX6_found_5 : decode cX6_found 5 = .ok (.iload_n 1, 1) := by decide +kernel
theorem dX6_found_6 : decode cX6_found 6 = .ok (.iconst 5, 1) := by decide +kernel
theorem dX6_found_7 : decode cX6_found 7 = .ok (.if_icmp .gt 18, 3) := by decide +kernel
theorem dX6_found_10 : decode cX6_found 10 = .ok (.aload_n 0, 1) := by decide +kernel
theorem dX6_found_11 : decode cX6_found 11 = .ok (.iload_n 1, 1) := by decide +kernel
theorem dX6_found_12 : decode cX6_found 12 = .ok (.putfield 52, 3) := by decide +kernel
theorem dX6_found_15 : decode cX6_found 15 = .ok (.aload_n 0, 1) := by decide +kernel
theorem dX6_found_16 : decode cX6_found 16 = .ok (.getfield 39, 3) := by decide +kernel
theorem dX6_found_19 : decode cX6_found 19 = .ok (.iload_n 1, 1) := by decide +kernel
theorem dX6_found_20 : decode cX6_found 20 = .ok (.dup2, 1) := by decide +kernel
theorem dX6_found_21 : decode cX6_found 21 = .ok (.iaload, 1) := by decide +kernel
theorem dX6_found_22 : decode cX6_found 22 = .ok (.iconst 1, 1) := by decide +kernel
theorem dX6_found_23 : decode cX6_found 23 = .ok (.iadd, 1) := by decide +kernel
theorem dX6_found_24 : decode cX6_found 24 = .ok (.iastore, 1) := by decide +kernel
theorem dX6_found_25 : decode cX6_found 25 = .ok (.bipush (-3), 2) := by decide +kernel
theorem dX6_found_27 : decode cX6_found 27 = .ok (.ireturn, 1) := by decide +kernel
theorem dX6_made_0 : decode cX6_made 0 = .ok (.aload_n 1, 1) := by decide +kernel
theorem dX6_made_1 : decode cX6_made 1 = .ok (.iload_n 2, 1) := by decide +kernel
theorem dX6_made_2 : decode cX6_made 2 = .ok (.invokevirtual 92, 3) := by decide +kernel
theorem dX6_made_5 : decode cX6_made 5 = .ok (.ifCond .eq 11, 3) := by decide +kernel
theorem dX6_made_8 : decode cX6_made 8 = .ok (.iload_n 3, 1) := by decide +kernel
theorem dX6_made_9 : decode cX6_made 9 = .ok (.aload_n 1, 1) := by decide +kernel
theorem dX6_made_10 : decode cX6_made 10 = .ok (.getfield 328, 3) := by decide +kernel
theorem dX6_made_13 : decode cX6_made 13 = .ok (.if_icmp .le 5, 3) := by decide +kernel
theorem dX6_made_16 : decode cX6_made 16 = .ok (.iconst (-1), 1) := by decide +kernel
theorem dX6_made_17 : decode cX6_made 17 = .ok (.ireturn, 1) := by decide +kernel
theorem dX6_made_18 : decode cX6_made 18 = .ok (.iload_n 3, 1) := by decide +kernel
theorem dX6_made_19 : decode cX6_made 19 = .ok (.ifCond .ge 9, 3) := by decide +kernel
theorem dX6_made_22 : decode cX6_made 22 = .ok (.aload_n 0, 1) := by decide +kernel
theorem dX6_made_23 : decode cX6_made 23 = .ok (.iconst 5, 1) := by decide +kernel
theorem dX6_made_24 : decode cX6_made 24 = .ok (.invokevirtual 96, 3) := by decide +kernel
theorem dX6_made_27 : decode cX6_made 27 = .ok (.ireturn, 1) := by decide +kernel
theorem dX6_made_28 : decode cX6_made 28 = .ok (.aload_n 1, 1) := by decide +kernel
theorem dX6_made_29 : decode cX6_made 29 = .ok (.iload_n 2, 1) := by decide +kernel
theorem dX6_made_30 : decode cX6_made 30 = .ok (.iload_n 3, 1) := by decide +kernel
theorem dX6_made_31 : decode cX6_made 31 = .ok (.invokevirtual 262, 3) := by decide +kernel
theorem dX6_made_34 : decode cX6_made 34 = .ok (.iload_n 3, 1) := by decide +kernel
theorem dX6_made_35 : decode cX6_made 35 = .ok (.ireturn, 1) := by decide +kernel
theorem dX6_refusalOfMissing_0 : decode cX6_refusalOfMissing 0 = .ok (.aload_n 1, 1) := by decide +kernel
theorem dX6_refusalOfMissing_1 : decode cX6_refusalOfMissing 1 = .ok (.iload_n 2, 1) := by decide +kernel
theorem dX6_refusalOfMissing_2 : decode cX6_refusalOfMissing 2 = .ok (.invokevirtual 92, 3) := by decide +kernel
theorem dX6_refusalOfMissing_5 : decode cX6_refusalOfMissing 5 = .ok (.ifCond .ne 5, 3) := by decide +kernel
theorem dX6_refusalOfMissing_8 : decode cX6_refusalOfMissing 8 = .ok (.iconst (-1), 1) := by decide +kernel
theorem dX6_refusalOfMissing_9 : decode cX6_refusalOfMissing 9 = .ok (.ireturn, 1) := by decide +kernel
theorem dX6_refusalOfMissing_10 : decode cX6_refusalOfMissing 10 = .ok (.aload_n 1, 1) := by decide +kernel
theorem dX6_refusalOfMissing_11 : decode cX6_refusalOfMissing 11 = .ok (.iload_n 2, 1) := by decide +kernel
theorem dX6_refusalOfMissing_12 : decode cX6_refusalOfMissing 12 = .ok (.invokevirtual 99, 3) := by decide +kernel
theorem dX6_refusalOfMissing_15 : decode cX6_refusalOfMissing 15 = .ok (.ifCond .eq 7, 3) := by decide +kernel
theorem dX6_refusalOfMissing_18 : decode cX6_refusalOfMissing 18 = .ok (.iconst 0, 1) := by decide +kernel
theorem dX6_refusalOfMissing_19 : decode cX6_refusalOfMissing 19 = .ok (.goto 8, 3) := by decide +kernel
theorem dX6_refusalOfMissing_22 : decode cX6_refusalOfMissing 22 = .ok (.aload_n 0, 1) := by decide +kernel
theorem dX6_refusalOfMissing_23 : decode cX6_refusalOfMissing 23 = .ok (.iconst 1, 1) := by decide +kernel
theorem dX6_refusalOfMissing_24 : decode cX6_refusalOfMissing 24 = .ok (.invokevirtual 96, 3) := by decide +kernel
theorem dX6_refusalOfMissing_27 : decode cX6_refusalOfMissing 27 = .ok (.ireturn, 1) := by decide +kernel
theorem dX6_refusalOfPlace_0 : decode cX6_refusalOfPlace 0 = .ok (.aload_n 0, 1) := by decide +kernel
theorem dX6_refusalOfPlace_1 : decode cX6_refusalOfPlace 1 = .ok (.aload_n 1, 1) := by decide +kernel
theorem dX6_refusalOfPlace_2 : decode cX6_refusalOfPlace 2 = .ok (.iload_n 2, 1) := by decide +kernel
theorem dX6_refusalOfPlace_3 : decode cX6_refusalOfPlace 3 = .ok (.invokevirtual 84, 3) := by decide +kernel
theorem dX6_refusalOfPlace_6 : decode cX6_refusalOfPlace 6 = .ok (.istore 4, 2) := by decide +kernel
theorem dX6_refusalOfPlace_8 : decode cX6_refusalOfPlace 8 = .ok (.iload 4, 2) := by decide +kernel
theorem dX6_refusalOfPlace_10 : decode cX6_refusalOfPlace 10 = .ok (.ifCond .eq 6, 3) := by decide +kernel
theorem dX6_refusalOfPlace_13 : decode cX6_refusalOfPlace 13 = .ok (.iload 4, 2) := by decide +kernel
theorem dX6_refusalOfPlace_15 : decode cX6_refusalOfPlace 15 = .ok (.ireturn, 1) := by decide +kernel
theorem dX6_refusalOfPlace_16 : decode cX6_refusalOfPlace 16 = .ok (.aload_n 1, 1) := by decide +kernel
theorem dX6_refusalOfPlace_17 : decode cX6_refusalOfPlace 17 = .ok (.iload_n 2, 1) := by decide +kernel
theorem dX6_refusalOfPlace_18 : decode cX6_refusalOfPlace 18 = .ok (.iload_n 3, 1) := by decide +kernel
theorem dX6_refusalOfPlace_19 : decode cX6_refusalOfPlace 19 = .ok (.invokevirtual 331, 3) := by decide +kernel
theorem dX6_refusalOfPlace_22 : decode cX6_refusalOfPlace 22 = .ok (.ifCond .eq 7, 3) := by decide +kernel
theorem dX6_refusalOfPlace_25 : decode cX6_refusalOfPlace 25 = .ok (.iconst 0, 1) := by decide +kernel
theorem dX6_refusalOfPlace_26 : decode cX6_refusalOfPlace 26 = .ok (.goto 8, 3) := by decide +kernel
theorem dX6_refusalOfPlace_29 : decode cX6_refusalOfPlace 29 = .ok (.aload_n 0, 1) := by decide +kernel
theorem dX6_refusalOfPlace_30 : decode cX6_refusalOfPlace 30 = .ok (.iconst 2, 1) := by decide +kernel
theorem dX6_refusalOfPlace_31 : decode cX6_refusalOfPlace 31 = .ok (.invokevirtual 96, 3) := by decide +kernel
theorem dX6_refusalOfPlace_34 : decode cX6_refusalOfPlace 34 = .ok (.ireturn, 1) := by decide +kernel
theorem dX6_refusalOfFast_0 : decode cX6_refusalOfFast 0 = .ok (.aload_n 0, 1) := by decide +kernel
theorem dX6_refusalOfFast_1 : decode cX6_refusalOfFast 1 = .ok (.getfield 45, 3) := by decide +kernel
theorem dX6_refusalOfFast_4 : decode cX6_refusalOfFast 4 = .ok (.iload_n 1, 1) := by decide +kernel
theorem dX6_refusalOfFast_5 : decode cX6_refusalOfFast 5 = .ok (.invokevirtual 131, 3) := by decide +kernel
theorem dX6_refusalOfFast_8 : decode cX6_refusalOfFast 8 = .ok (.ifCond .ne 5, 3) := by decide +kernel
theorem dX6_refusalOfFast_11 : decode cX6_refusalOfFast 11 = .ok (.iconst (-1), 1) := by decide +kernel
theorem dX6_refusalOfFast_12 : decode cX6_refusalOfFast 12 = .ok (.ireturn, 1) := by decide +kernel
theorem dX6_refusalOfFast_13 : decode cX6_refusalOfFast 13 = .ok (.aload_n 0, 1) := by decide +kernel
theorem dX6_refusalOfFast_14 : decode cX6_refusalOfFast 14 = .ok (.getfield 31, 3) := by decide +kernel
theorem dX6_refusalOfFast_17 : decode cX6_refusalOfFast 17 = .ok (.invokevirtual 144, 3) := by decide +kernel
theorem dX6_refusalOfFast_20 : decode cX6_refusalOfFast 20 = .ok (.iload_n 1, 1) := by decide +kernel
theorem dX6_refusalOfFast_21 : decode cX6_refusalOfFast 21 = .ok (.invokestatic 334, 3) := by decide +kernel
theorem dX6_refusalOfFast_24 : decode cX6_refusalOfFast 24 = .ok (.ifCond .eq 7, 3) := by decide +kernel
theorem dX6_refusalOfFast_27 : decode cX6_refusalOfFast 27 = .ok (.iconst 0, 1) := by decide +kernel
theorem dX6_refusalOfFast_28 : decode cX6_refusalOfFast 28 = .ok (.goto 5, 3) := by decide +kernel
theorem dX6_refusalOfFast_31 : decode cX6_refusalOfFast 31 = .ok (.bipush (-4), 2) := by decide +kernel
theorem dX6_refusalOfFast_33 : decode cX6_refusalOfFast 33 = .ok (.ireturn, 1) := by decide +kernel
theorem dX6_refusalOfHaul_0 : decode cX6_refusalOfHaul 0 = .ok (.iload_n 2, 1) := by decide +kernel
theorem dX6_refusalOfHaul_1 : decode cX6_refusalOfHaul 1 = .ok (.iconst 1, 1) := by decide +kernel
theorem dX6_refusalOfHaul_2 : decode cX6_refusalOfHaul 2 = .ok (.if_icmp .lt 9, 3) := by decide +kernel
theorem dX6_refusalOfHaul_5 : decode cX6_refusalOfHaul 5 = .ok (.iload_n 2, 1) := by decide +kernel
theorem dX6_refusalOfHaul_6 : decode cX6_refusalOfHaul 6 = .ok (.bipush 9, 2) := by decide +kernel
theorem dX6_refusalOfHaul_8 : decode cX6_refusalOfHaul 8 = .ok (.if_icmp .le 7, 3) := by decide +kernel
theorem dX6_refusalOfHaul_11 : decode cX6_refusalOfHaul 11 = .ok (.iconst (-1), 1) := by decide +kernel
theorem dX6_refusalOfHaul_12 : decode cX6_refusalOfHaul 12 = .ok (.goto 8, 3) := by decide +kernel
theorem dX6_refusalOfHaul_15 : decode cX6_refusalOfHaul 15 = .ok (.aload_n 0, 1) := by decide +kernel
theorem dX6_refusalOfHaul_16 : decode cX6_refusalOfHaul 16 = .ok (.iload_n 1, 1) := by decide +kernel
theorem dX6_refusalOfHaul_17 : decode cX6_refusalOfHaul 17 = .ok (.invokevirtual 189, 3) := by decide +kernel
theorem dX6_refusalOfHaul_20 : decode cX6_refusalOfHaul 20 = .ok (.ireturn, 1) := by decide +kernel
theorem dX6_done_0 : decode cX6_done 0 = .ok (.aload_n 0, 1) := by decide +kernel
theorem dX6_done_1 : decode cX6_done 1 = .ok (.getfield 31, 3) := by decide +kernel
theorem dX6_done_4 : decode cX6_done 4 = .ok (.iconst 1, 1) := by decide +kernel
theorem dX6_done_5 : decode cX6_done 5 = .ok (.invokevirtual 289, 3) := by decide +kernel
theorem dX6_done_8 : decode cX6_done 8 = .ok (.ifCond .eq 6, 3) := by decide +kernel
theorem dX6_done_11 : decode cX6_done 11 = .ok (.bipush (-2), 2) := by decide +kernel
theorem dX6_done_13 : decode cX6_done 13 = .ok (.ireturn, 1) := by decide +kernel
theorem dX6_done_14 : decode cX6_done 14 = .ok (.aload_n 0, 1) := by decide +kernel
theorem dX6_done_15 : decode cX6_done 15 = .ok (.getfield 31, 3) := by decide +kernel
theorem dX6_done_18 : decode cX6_done 18 = .ok (.lload_n 1, 1) := by decide +kernel
theorem dX6_done_19 : decode cX6_done 19 = .ok (.invokevirtual 299, 3) := by decide +kernel
theorem dX6_done_22 : decode cX6_done 22 = .ok (.iload_n 3, 1) := by decide +kernel
theorem dX6_done_23 : decode cX6_done 23 = .ok (.ireturn, 1) := by decide +kernel
theorem dX6_detail_0 : decode cX6_detail 0 = .ok (.aload_n 0, 1) := by decide +kernel
theorem dX6_detail_1 : decode cX6_detail 1 = .ok (.getfield 31, 3) := by decide +kernel
theorem dX6_detail_4 : decode cX6_detail 4 = .ok (.invokevirtual 144, 3) := by decide +kernel
theorem dX6_detail_7 : decode cX6_detail 7 = .ok (.lstore_n 3, 1) := by decide +kernel
theorem dX6_detail_8 : decode cX6_detail 8 = .ok (.iload_n 2, 1) := by decide +kernel
theorem dX6_detail_9 : decode cX6_detail 9 = .ok (.tableswitch 82 0 4 #[35, 44, 53, 62, 68], 35) := by decide +kernel
theorem dX6_detail_44 : decode cX6_detail 44 = .ok (.aload_n 0, 1) := by decide +kernel
theorem dX6_detail_45 : decode cX6_detail 45 = .ok (.getfield 45, 3) := by decide +kernel
theorem dX6_detail_48 : decode cX6_detail 48 = .ok (.iload_n 1, 1) := by decide +kernel
theorem dX6_detail_49 : decode cX6_detail 49 = .ok (.invokevirtual 137, 3) := by decide +kernel
theorem dX6_detail_52 : decode cX6_detail 52 = .ok (.ireturn, 1) := by decide +kernel
theorem dX6_detail_53 : decode cX6_detail 53 = .ok (.aload_n 0, 1) := by decide +kernel
theorem dX6_detail_54 : decode cX6_detail 54 = .ok (.getfield 45, 3) := by decide +kernel
theorem dX6_detail_57 : decode cX6_detail 57 = .ok (.iload_n 1, 1) := by decide +kernel
theorem dX6_detail_58 : decode cX6_detail 58 = .ok (.invokevirtual 148, 3) := by decide +kernel
theorem dX6_detail_61 : decode cX6_detail 61 = .ok (.ireturn, 1) := by decide +kernel
theorem dX6_detail_62 : decode cX6_detail 62 = .ok (.aload_n 0, 1) := by decide +kernel
theorem dX6_detail_63 : decode cX6_detail 63 = .ok (.getfield 45, 3) := by decide +kernel
theorem dX6_detail_66 : decode cX6_detail 66 = .ok (.iload_n 1, 1) := by decide +kernel
theorem dX6_detail_67 : decode cX6_detail 67 = .ok (.invokevirtual 157, 3) := by decide +kernel
theorem dX6_detail_70 : decode cX6_detail 70 = .ok (.ireturn, 1) := by decide +kernel
theorem dX6_detail_71 : decode cX6_detail 71 = .ok (.lload_n 3, 1) := by decide +kernel
theorem dX6_detail_72 : decode cX6_detail 72 = .ok (.iload_n 1, 1) := by decide +kernel
theorem dX6_detail_73 : decode cX6_detail 73 = .ok (.invokestatic 151, 3) := by decide +kernel
theorem dX6_detail_76 : decode cX6_detail 76 = .ok (.ireturn, 1) := by decide +kernel
theorem dX6_detail_77 : decode cX6_detail 77 = .ok (.lload_n 3, 1) := by decide +kernel
theorem dX6_detail_78 : decode cX6_detail 78 = .ok (.iload_n 1, 1) := by decide +kernel
theorem dX6_detail_79 : decode cX6_detail 79 = .ok (.invokestatic 200, 3) := by decide +kernel
theorem dX6_detail_82 : decode cX6_detail 82 = .ok (.ifCond .eq 7, 3) := by decide +kernel
theorem dX6_detail_85 : decode cX6_detail 85 = .ok (.iconst 0, 1) := by decide +kernel
theorem dX6_detail_86 : decode cX6_detail 86 = .ok (.goto 4, 3) := by decide +kernel
theorem dX6_detail_89 : decode cX6_detail 89 = .ok (.iconst 1, 1) := by decide +kernel
theorem dX6_detail_90 : decode cX6_detail 90 = .ok (.ireturn, 1) := by decide +kernel
theorem dX6_detail_91 : decode cX6_detail 91 = .ok (.lload_n 3, 1) := by decide +kernel
theorem dX6_detail_92 : decode cX6_detail 92 = .ok (.iload_n 1, 1) := by decide +kernel
theorem dX6_detail_93 : decode cX6_detail 93 = .ok (.invokestatic 196, 3) := by decide +kernel
theorem dX6_detail_96 : decode cX6_detail 96 = .ok (.ifCond .eq 7, 3) := by decide +kernel
theorem dX6_detail_99 : decode cX6_detail 99 = .ok (.iconst 1, 1) := by decide +kernel
theorem dX6_detail_100 : decode cX6_detail 100 = .ok (.goto 4, 3) := by decide +kernel
theorem dX6_detail_103 : decode cX6_detail 103 = .ok (.iconst 0, 1) := by decide +kernel
theorem dX6_detail_104 : decode cX6_detail 104 = .ok (.ireturn, 1) := by decide +kernel
theorem dX6_firstParted_0 : decode cX6_firstParted 0 = .ok (.lload_n 2, 1) := by decide +kernel
theorem dX6_firstParted_1 : decode cX6_firstParted 1 = .ok (.invokestatic 212, 3) := by decide +kernel
theorem dX6_firstParted_4 : decode cX6_firstParted 4 = .ok (.lload_n 0, 1) := by decide +kernel
theorem dX6_firstParted_5 : decode cX6_firstParted 5 = .ok (.invokestatic 212, 3) := by decide +kernel
theorem dX6_firstParted_8 : decode cX6_firstParted 8 = .ok (.iconst (-1), 1) := by decide +kernel
theorem dX6_firstParted_9 : decode cX6_firstParted 9 = .ok (.ixor, 1) := by decide +kernel
theorem dX6_firstParted_10 : decode cX6_firstParted 10 = .ok (.iand, 1) := by decide +kernel
theorem dX6_firstParted_11 : decode cX6_firstParted 11 = .ok (.istore 4, 2) := by decide +kernel
theorem dX6_firstParted_13 : decode cX6_firstParted 13 = .ok (.iload 4, 2) := by decide +kernel
theorem dX6_firstParted_15 : decode cX6_firstParted 15 = .ok (.ifCond .ne 8, 3) := by decide +kernel
theorem dX6_firstParted_18 : decode cX6_firstParted 18 = .ok (.bipush (-9), 2) := by decide +kernel
theorem dX6_firstParted_20 : decode cX6_firstParted 20 = .ok (.goto 8, 3) := by decide +kernel
theorem dX6_firstParted_23 : decode cX6_firstParted 23 = .ok (.iload 4, 2) := by decide +kernel
theorem dX6_firstParted_25 : decode cX6_firstParted 25 = .ok (.invokestatic 337, 3) := by decide +kernel
theorem dX6_firstParted_28 : decode cX6_firstParted 28 = .ok (.ireturn, 1) := by decide +kernel
theorem dX6_canFall_0 : decode cX6_canFall 0 = .ok (.iload_n 1, 1) := by decide +kernel
theorem dX6_canFall_1 : decode cX6_canFall 1 = .ok (.aload_n 0, 1) := by decide +kernel
theorem dX6_canFall_2 : decode cX6_canFall 2 = .ok (.getfield 45, 3) := by decide +kernel
theorem dX6_canFall_5 : decode cX6_canFall 5 = .ok (.invokevirtual 340, 3) := by decide +kernel
theorem dX6_canFall_8 : decode cX6_canFall 8 = .ok (.aload_n 0, 1) := by decide +kernel
theorem dX6_canFall_9 : decode cX6_canFall 9 = .ok (.getfield 31, 3) := by decide +kernel
theorem dX6_canFall_12 : decode cX6_canFall 12 = .ok (.invokevirtual 144, 3) := by decide +kernel
theorem dX6_canFall_15 : decode cX6_canFall 15 = .ok (.invokestatic 212, 3) := by decide +kernel
theorem dX6_canFall_18 : decode cX6_canFall 18 = .ok (.iconst (-1), 1) := by decide +kernel
theorem dX6_canFall_19 : decode cX6_canFall 19 = .ok (.ixor, 1) := by decide +kernel
theorem dX6_canFall_20 : decode cX6_canFall 20 = .ok (.iand, 1) := by decide +kernel
theorem dX6_canFall_21 : decode cX6_canFall 21 = .ok (.iconst (-1), 1) := by decide +kernel
theorem dX6_canFall_22 : decode cX6_canFall 22 = .ok (.ixor, 1) := by decide +kernel
theorem dX6_canFall_23 : decode cX6_canFall 23 = .ok (.iand, 1) := by decide +kernel
theorem dX6_canFall_24 : decode cX6_canFall 24 = .ok (.ifCond .ne 7, 3) := by decide +kernel
theorem dX6_canFall_27 : decode cX6_canFall 27 = .ok (.iconst 1, 1) := by decide +kernel
theorem dX6_canFall_28 : decode cX6_canFall 28 = .ok (.goto 4, 3) := by decide +kernel
theorem dX6_canFall_31 : decode cX6_canFall 31 = .ok (.iconst 0, 1) := by decide +kernel
theorem dX6_canFall_32 : decode cX6_canFall 32 = .ok (.ireturn, 1) := by decide +kernel
theorem dX6_roomiest_0 : decode cX6_roomiest 0 = .ok (.aload_n 0, 1) := by decide +kernel
theorem dX6_roomiest_1 : decode cX6_roomiest 1 = .ok (.getfield 31, 3) := by decide +kernel
theorem dX6_roomiest_4 : decode cX6_roomiest 4 = .ok (.invokevirtual 144, 3) := by decide +kernel
theorem dX6_roomiest_7 : decode cX6_roomiest 7 = .ok (.lstore_n 2, 1) := by decide +kernel
theorem dX6_roomiest_8 : decode cX6_roomiest 8 = .ok (.bipush (-9), 2) := by decide +kernel
theorem dX6_roomiest_10 : decode cX6_roomiest 10 = .ok (.istore 4, 2) := by decide +kernel
theorem dX6_roomiest_12 : decode cX6_roomiest 12 = .ok (.iconst 0, 1) := by decide +kernel
theorem dX6_roomiest_13 : decode cX6_roomiest 13 = .ok (.istore 5, 2) := by decide +kernel
theorem dX6_roomiest_15 : decode cX6_roomiest 15 = .ok (.iconst 0, 1) := by decide +kernel
theorem dX6_roomiest_16 : decode cX6_roomiest 16 = .ok (.istore 6, 2) := by decide +kernel
theorem dX6_roomiest_18 : decode cX6_roomiest 18 = .ok (.iload 6, 2) := by decide +kernel
theorem dX6_roomiest_20 : decode cX6_roomiest 20 = .ok (.aload_n 0, 1) := by decide +kernel
theorem dX6_roomiest_21 : decode cX6_roomiest 21 = .ok (.getfield 45, 3) := by decide +kernel
theorem dX6_roomiest_24 : decode cX6_roomiest 24 = .ok (.getfield 128, 3) := by decide +kernel
theorem dX6_roomiest_27 : decode cX6_roomiest 27 = .ok (.if_icmp .ge 62, 3) := by decide +kernel
theorem dX6_roomiest_30 : decode cX6_roomiest 30 = .ok (.aload_n 0, 1) := by decide +kernel
theorem dX6_roomiest_31 : decode cX6_roomiest 31 = .ok (.getfield 45, 3) := by decide +kernel
theorem dX6_roomiest_34 : decode cX6_roomiest 34 = .ok (.iload 6, 2) := by decide +kernel
theorem dX6_roomiest_36 : decode cX6_roomiest 36 = .ok (.invokevirtual 148, 3) := by decide +kernel
theorem dX6_roomiest_39 : decode cX6_roomiest 39 = .ok (.lload_n 2, 1) := by decide +kernel
theorem dX6_roomiest_40 : decode cX6_roomiest 40 = .ok (.iload 6, 2) := by decide +kernel
theorem dX6_roomiest_42 : decode cX6_roomiest 42 = .ok (.invokestatic 151, 3) := by decide +kernel
theorem dX6_roomiest_45 : decode cX6_roomiest 45 = .ok (.isub, 1) := by decide +kernel
theorem dX6_roomiest_46 : decode cX6_roomiest 46 = .ok (.aload_n 0, 1) := by decide +kernel
theorem dX6_roomiest_47 : decode cX6_roomiest 47 = .ok (.getfield 14, 3) := by decide +kernel
theorem dX6_roomiest_50 : decode cX6_roomiest 50 = .ok (.iload_n 1, 1) := by decide +kernel
theorem dX6_roomiest_51 : decode cX6_roomiest 51 = .ok (.iload 6, 2) := by decide +kernel
theorem dX6_roomiest_53 : decode cX6_roomiest 53 = .ok (.invokevirtual 73, 3) := by decide +kernel
theorem dX6_roomiest_56 : decode cX6_roomiest 56 = .ok (.isub, 1) := by decide +kernel
theorem dX6_roomiest_57 : decode cX6_roomiest 57 = .ok (.istore 7, 2) := by decide +kernel
theorem dX6_roomiest_59 : decode cX6_roomiest 59 = .ok (.lload_n 2, 1) := by decide +kernel
theorem dX6_roomiest_60 : decode cX6_roomiest 60 = .ok (.iload 6, 2) := by decide +kernel
theorem dX6_roomiest_62 : decode cX6_roomiest 62 = .ok (.invokestatic 334, 3) := by decide +kernel
theorem dX6_roomiest_65 : decode cX6_roomiest 65 = .ok (.ifCond .eq 18, 3) := by decide +kernel
theorem dX6_roomiest_68 : decode cX6_roomiest 68 = .ok (.iload 7, 2) := by decide +kernel
theorem dX6_roomiest_70 : decode cX6_roomiest 70 = .ok (.iload 5, 2) := by decide +kernel
theorem dX6_roomiest_72 : decode cX6_roomiest 72 = .ok (.if_icmp .le 11, 3) := by decide +kernel
theorem dX6_roomiest_75 : decode cX6_roomiest 75 = .ok (.iload 6, 2) := by decide +kernel
theorem dX6_roomiest_77 : decode cX6_roomiest 77 = .ok (.istore 4, 2) := by decide +kernel
theorem dX6_roomiest_79 : decode cX6_roomiest 79 = .ok (.iload 7, 2) := by decide +kernel
theorem dX6_roomiest_81 : decode cX6_roomiest 81 = .ok (.istore 5, 2) := by decide +kernel
theorem dX6_roomiest_83 : decode cX6_roomiest 83 = .ok (.iinc 6 1, 3) := by decide +kernel
theorem dX6_roomiest_86 : decode cX6_roomiest 86 = .ok (.goto (-68), 3) := by decide +kernel
theorem dX6_roomiest_89 : decode cX6_roomiest 89 = .ok (.iload 4, 2) := by decide +kernel
theorem dX6_roomiest_91 : decode cX6_roomiest 91 = .ok (.ireturn, 1) := by decide +kernel
theorem dX6_refusalOfPairs_0 : decode cX6_refusalOfPairs 0 = .ok (.aload_n 0, 1) := by decide +kernel
theorem dX6_refusalOfPairs_1 : decode cX6_refusalOfPairs 1 = .ok (.aload_n 0, 1) := by decide +kernel
theorem dX6_refusalOfPairs_2 : decode cX6_refusalOfPairs 2 = .ok (.getfield 14, 3) := by decide +kernel
theorem dX6_refusalOfPairs_5 : decode cX6_refusalOfPairs 5 = .ok (.iload_n 1, 1) := by decide +kernel
theorem dX6_refusalOfPairs_6 : decode cX6_refusalOfPairs 6 = .ok (.invokevirtual 84, 3) := by decide +kernel
theorem dX6_refusalOfPairs_9 : decode cX6_refusalOfPairs 9 = .ok (.istore_n 2, 1) := by decide +kernel
theorem dX6_refusalOfPairs_10 : decode cX6_refusalOfPairs 10 = .ok (.iload_n 2, 1) := by decide +kernel
theorem dX6_refusalOfPairs_11 : decode cX6_refusalOfPairs 11 = .ok (.ifCond .eq 5, 3) := by decide +kernel
theorem dX6_refusalOfPairs_14 : decode cX6_refusalOfPairs 14 = .ok (.iload_n 2, 1) := by decide +kernel
theorem dX6_refusalOfPairs_15 : decode cX6_refusalOfPairs 15 = .ok (.ireturn, 1) := by decide +kernel
theorem dX6_refusalOfPairs_16 : decode cX6_refusalOfPairs 16 = .ok (.aload_n 0, 1) := by decide +kernel
theorem dX6_refusalOfPairs_17 : decode cX6_refusalOfPairs 17 = .ok (.getfield 14, 3) := by decide +kernel
theorem dX6_refusalOfPairs_20 : decode cX6_refusalOfPairs 20 = .ok (.iload_n 1, 1) := by decide +kernel
theorem dX6_refusalOfPairs_21 : decode cX6_refusalOfPairs 21 = .ok (.invokevirtual 110, 3) := by decide +kernel
theorem dX6_refusalOfPairs_24 : decode cX6_refusalOfPairs 24 = .ok (.istore_n 3, 1) := by decide +kernel
theorem dX6_refusalOfPairs_25 : decode cX6_refusalOfPairs 25 = .ok (.iload_n 3, 1) := by decide +kernel
theorem dX6_refusalOfPairs_26 : decode cX6_refusalOfPairs 26 = .ok (.bipush 16, 2) := by decide +kernel
theorem dX6_refusalOfPairs_28 : decode cX6_refusalOfPairs 28 = .ok (.if_icmp .gt 9, 3) := by decide +kernel
theorem dX6_refusalOfPairs_31 : decode cX6_refusalOfPairs 31 = .ok (.iload_n 3, 1) := by decide +kernel
theorem dX6_refusalOfPairs_32 : decode cX6_refusalOfPairs 32 = .ok (.iconst 2, 1) := by decide +kernel
theorem dX6_refusalOfPairs_33 : decode cX6_refusalOfPairs 33 = .ok (.irem, 1) := by decide +kernel
theorem dX6_refusalOfPairs_34 : decode cX6_refusalOfPairs 34 = .ok (.ifCond .eq 9, 3) := by decide +kernel
theorem dX6_refusalOfPairs_37 : decode cX6_refusalOfPairs 37 = .ok (.aload_n 0, 1) := by decide +kernel
theorem dX6_refusalOfPairs_38 : decode cX6_refusalOfPairs 38 = .ok (.iconst 5, 1) := by decide +kernel
theorem dX6_refusalOfPairs_39 : decode cX6_refusalOfPairs 39 = .ok (.invokevirtual 96, 3) := by decide +kernel
theorem dX6_refusalOfPairs_42 : decode cX6_refusalOfPairs 42 = .ok (.ireturn, 1) := by decide +kernel
theorem dX6_refusalOfPairs_43 : decode cX6_refusalOfPairs 43 = .ok (.iconst 0, 1) := by decide +kernel
theorem dX6_refusalOfPairs_44 : decode cX6_refusalOfPairs 44 = .ok (.istore 4, 2) := by decide +kernel
theorem dX6_refusalOfPairs_46 : decode cX6_refusalOfPairs 46 = .ok (.iload 4, 2) := by decide +kernel
theorem dX6_refusalOfPairs_48 : decode cX6_refusalOfPairs 48 = .ok (.iload_n 3, 1) := by decide +kernel
theorem dX6_refusalOfPairs_49 : decode cX6_refusalOfPairs 49 = .ok (.if_icmp .ge 43, 3) := by decide +kernel
theorem dX6_refusalOfPairs_52 : decode cX6_refusalOfPairs 52 = .ok (.aload_n 0, 1) := by decide +kernel
theorem dX6_refusalOfPairs_53 : decode cX6_refusalOfPairs 53 = .ok (.getfield 14, 3) := by decide +kernel
theorem dX6_refusalOfPairs_56 : decode cX6_refusalOfPairs 56 = .ok (.iload_n 1, 1) := by decide +kernel
theorem dX6_refusalOfPairs_57 : decode cX6_refusalOfPairs 57 = .ok (.iload 4, 2) := by decide +kernel
theorem dX6_refusalOfPairs_59 : decode cX6_refusalOfPairs 59 = .ok (.invokevirtual 73, 3) := by decide +kernel
theorem dX6_refusalOfPairs_62 : decode cX6_refusalOfPairs 62 = .ok (.ifCond .lt 18, 3) := by decide +kernel
theorem dX6_refusalOfPairs_65 : decode cX6_refusalOfPairs 65 = .ok (.aload_n 0, 1) := by decide +kernel
theorem dX6_refusalOfPairs_66 : decode cX6_refusalOfPairs 66 = .ok (.getfield 14, 3) := by decide +kernel
theorem dX6_refusalOfPairs_69 : decode cX6_refusalOfPairs 69 = .ok (.iload_n 1, 1) := by decide +kernel
theorem dX6_refusalOfPairs_70 : decode cX6_refusalOfPairs 70 = .ok (.iload 4, 2) := by decide +kernel
theorem dX6_refusalOfPairs_72 : decode cX6_refusalOfPairs 72 = .ok (.invokevirtual 73, 3) := by decide +kernel
theorem dX6_refusalOfPairs_75 : decode cX6_refusalOfPairs 75 = .ok (.bipush 99, 2) := by decide +kernel
theorem dX6_refusalOfPairs_77 : decode cX6_refusalOfPairs 77 = .ok (.if_icmp .le 9, 3) := by decide +kernel
theorem dX6_refusalOfPairs_80 : decode cX6_refusalOfPairs 80 = .ok (.aload_n 0, 1) := by decide +kernel
theorem dX6_refusalOfPairs_81 : decode cX6_refusalOfPairs 81 = .ok (.iconst 3, 1) := by decide +kernel
theorem dX6_refusalOfPairs_82 : decode cX6_refusalOfPairs 82 = .ok (.invokevirtual 96, 3) := by decide +kernel
theorem dX6_refusalOfPairs_85 : decode cX6_refusalOfPairs 85 = .ok (.ireturn, 1) := by decide +kernel
theorem dX6_refusalOfPairs_86 : decode cX6_refusalOfPairs 86 = .ok (.iinc 4 1, 3) := by decide +kernel
theorem dX6_refusalOfPairs_89 : decode cX6_refusalOfPairs 89 = .ok (.goto (-43), 3) := by decide +kernel
theorem dX6_refusalOfPairs_92 : decode cX6_refusalOfPairs 92 = .ok (.iconst 0, 1) := by decide +kernel
theorem dX6_refusalOfPairs_93 : decode cX6_refusalOfPairs 93 = .ok (.ireturn, 1) := by decide +kernel
theorem dX6_kindsThatFit_0 : decode cX6_kindsThatFit 0 = .ok (.iconst 0, 1) := by decide +kernel
theorem dX6_kindsThatFit_1 : decode cX6_kindsThatFit 1 = .ok (.istore_n 2, 1) := by decide +kernel
theorem dX6_kindsThatFit_2 : decode cX6_kindsThatFit 2 = .ok (.iconst 0, 1) := by decide +kernel
theorem dX6_kindsThatFit_3 : decode cX6_kindsThatFit 3 = .ok (.istore_n 3, 1) := by decide +kernel
theorem dX6_kindsThatFit_4 : decode cX6_kindsThatFit 4 = .ok (.iload_n 3, 1) := by decide +kernel
theorem dX6_kindsThatFit_5 : decode cX6_kindsThatFit 5 = .ok (.bipush 6, 2) := by decide +kernel
theorem dX6_kindsThatFit_7 : decode cX6_kindsThatFit 7 = .ok (.if_icmp .ge 88, 3) := by decide +kernel
theorem dX6_kindsThatFit_10 : decode cX6_kindsThatFit 10 = .ok (.iconst 1, 1) := by decide +kernel
theorem dX6_kindsThatFit_11 : decode cX6_kindsThatFit 11 = .ok (.istore 4, 2) := by decide +kernel
theorem dX6_kindsThatFit_13 : decode cX6_kindsThatFit 13 = .ok (.iconst 0, 1) := by decide +kernel
theorem dX6_kindsThatFit_14 : decode cX6_kindsThatFit 14 = .ok (.istore 5, 2) := by decide +kernel
theorem dX6_kindsThatFit_16 : decode cX6_kindsThatFit 16 = .ok (.iload 5, 2) := by decide +kernel
theorem dX6_kindsThatFit_18 : decode cX6_kindsThatFit 18 = .ok (.iconst 1, 1) := by decide +kernel
theorem dX6_kindsThatFit_19 : decode cX6_kindsThatFit 19 = .ok (.iadd, 1) := by decide +kernel
theorem dX6_kindsThatFit_20 : decode cX6_kindsThatFit 20 = .ok (.aload_n 0, 1) := by decide +kernel
theorem dX6_kindsThatFit_21 : decode cX6_kindsThatFit 21 = .ok (.getfield 14, 3) := by decide +kernel
theorem dX6_kindsThatFit_24 : decode cX6_kindsThatFit 24 = .ok (.iload_n 1, 1) := by decide +kernel
theorem dX6_kindsThatFit_25 : decode cX6_kindsThatFit 25 = .ok (.invokevirtual 110, 3) := by decide +kernel
theorem dX6_kindsThatFit_28 : decode cX6_kindsThatFit 28 = .ok (.if_icmp .ge 50, 3) := by decide +kernel
theorem dX6_kindsThatFit_31 : decode cX6_kindsThatFit 31 = .ok (.iload 4, 2) := by decide +kernel
theorem dX6_kindsThatFit_33 : decode cX6_kindsThatFit 33 = .ok (.ifCond .eq 36, 3) := by decide +kernel
theorem dX6_kindsThatFit_36 : decode cX6_kindsThatFit 36 = .ok (.iload_n 3, 1) := by decide +kernel
theorem dX6_kindsThatFit_37 : decode cX6_kindsThatFit 37 = .ok (.aload_n 0, 1) := by decide +kernel
theorem dX6_kindsThatFit_38 : decode cX6_kindsThatFit 38 = .ok (.getfield 14, 3) := by decide +kernel
theorem dX6_kindsThatFit_41 : decode cX6_kindsThatFit 41 = .ok (.iload_n 1, 1) := by decide +kernel
theorem dX6_kindsThatFit_42 : decode cX6_kindsThatFit 42 = .ok (.iload 5, 2) := by decide +kernel
theorem dX6_kindsThatFit_44 : decode cX6_kindsThatFit 44 = .ok (.invokevirtual 73, 3) := by decide +kernel
theorem dX6_kindsThatFit_47 : decode cX6_kindsThatFit 47 = .ok (.invokestatic 163, 3) := by decide +kernel
theorem dX6_kindsThatFit_50 : decode cX6_kindsThatFit 50 = .ok (.aload_n 0, 1) := by decide +kernel
theorem dX6_kindsThatFit_51 : decode cX6_kindsThatFit 51 = .ok (.getfield 14, 3) := by decide +kernel
theorem dX6_kindsThatFit_54 : decode cX6_kindsThatFit 54 = .ok (.iload_n 1, 1) := by decide +kernel
theorem dX6_kindsThatFit_55 : decode cX6_kindsThatFit 55 = .ok (.iload 5, 2) := by decide +kernel
theorem dX6_kindsThatFit_57 : decode cX6_kindsThatFit 57 = .ok (.iconst 1, 1) := by decide +kernel
theorem dX6_kindsThatFit_58 : decode cX6_kindsThatFit 58 = .ok (.iadd, 1) := by decide +kernel
theorem dX6_kindsThatFit_59 : decode cX6_kindsThatFit 59 = .ok (.invokevirtual 73, 3) := by decide +kernel
theorem dX6_kindsThatFit_62 : decode cX6_kindsThatFit 62 = .ok (.if_icmp .ne 7, 3) := by decide +kernel
theorem dX6_kindsThatFit_65 : decode cX6_kindsThatFit 65 = .ok (.iconst 1, 1) := by decide +kernel
theorem dX6_kindsThatFit_66 : decode cX6_kindsThatFit 66 = .ok (.goto 4, 3) := by decide +kernel
theorem dX6_kindsThatFit_69 : decode cX6_kindsThatFit 69 = .ok (.iconst 0, 1) := by decide +kernel
theorem dX6_kindsThatFit_70 : decode cX6_kindsThatFit 70 = .ok (.istore 4, 2) := by decide +kernel
theorem dX6_kindsThatFit_72 : decode cX6_kindsThatFit 72 = .ok (.iinc 5 2, 3) := by decide +kernel
theorem dX6_kindsThatFit_75 : decode cX6_kindsThatFit 75 = .ok (.goto (-59), 3) := by decide +kernel
theorem dX6_kindsThatFit_78 : decode cX6_kindsThatFit 78 = .ok (.iload 4, 2) := by decide +kernel
theorem dX6_kindsThatFit_80 : decode cX6_kindsThatFit 80 = .ok (.ifCond .eq 9, 3) := by decide +kernel
theorem dX6_kindsThatFit_83 : decode cX6_kindsThatFit 83 = .ok (.iload_n 2, 1) := by decide +kernel
theorem dX6_kindsThatFit_84 : decode cX6_kindsThatFit 84 = .ok (.iconst 1, 1) := by decide +kernel
theorem dX6_kindsThatFit_85 : decode cX6_kindsThatFit 85 = .ok (.iload_n 3, 1) := by decide +kernel
theorem dX6_kindsThatFit_86 : decode cX6_kindsThatFit 86 = .ok (.ishl, 1) := by decide +kernel
theorem dX6_kindsThatFit_87 : decode cX6_kindsThatFit 87 = .ok (.ior, 1) := by decide +kernel
theorem dX6_kindsThatFit_88 : decode cX6_kindsThatFit 88 = .ok (.istore_n 2, 1) := by decide +kernel
theorem dX6_kindsThatFit_89 : decode cX6_kindsThatFit 89 = .ok (.iinc 3 1, 3) := by decide +kernel
theorem dX6_kindsThatFit_92 : decode cX6_kindsThatFit 92 = .ok (.goto (-88), 3) := by decide +kernel
theorem dX6_kindsThatFit_95 : decode cX6_kindsThatFit 95 = .ok (.iload_n 2, 1) := by decide +kernel
theorem dX6_kindsThatFit_96 : decode cX6_kindsThatFit 96 = .ok (.ireturn, 1) := by decide +kernel
theorem dX6_greatestPart_0 : decode cX6_greatestPart 0 = .ok (.iconst 0, 1) := by decide +kernel
theorem dX6_greatestPart_1 : decode cX6_greatestPart 1 = .ok (.istore_n 2, 1) := by decide +kernel
theorem dX6_greatestPart_2 : decode cX6_greatestPart 2 = .ok (.iconst 0, 1) := by decide +kernel
theorem dX6_greatestPart_3 : decode cX6_greatestPart 3 = .ok (.istore_n 3, 1) := by decide +kernel
theorem dX6_greatestPart_4 : decode cX6_greatestPart 4 = .ok (.iload_n 3, 1) := by decide +kernel
theorem dX6_greatestPart_5 : decode cX6_greatestPart 5 = .ok (.bipush 6, 2) := by decide +kernel
theorem dX6_greatestPart_7 : decode cX6_greatestPart 7 = .ok (.if_icmp .ge 61, 3) := by decide +kernel
theorem dX6_greatestPart_10 : decode cX6_greatestPart 10 = .ok (.iconst 0, 1) := by decide +kernel
theorem dX6_greatestPart_11 : decode cX6_greatestPart 11 = .ok (.istore 4, 2) := by decide +kernel
theorem dX6_greatestPart_13 : decode cX6_greatestPart 13 = .ok (.iconst 0, 1) := by decide +kernel
theorem dX6_greatestPart_14 : decode cX6_greatestPart 14 = .ok (.istore 5, 2) := by decide +kernel
theorem dX6_greatestPart_16 : decode cX6_greatestPart 16 = .ok (.iload 5, 2) := by decide +kernel
theorem dX6_greatestPart_18 : decode cX6_greatestPart 18 = .ok (.bipush 6, 2) := by decide +kernel
theorem dX6_greatestPart_20 : decode cX6_greatestPart 20 = .ok (.if_icmp .ge 35, 3) := by decide +kernel
theorem dX6_greatestPart_23 : decode cX6_greatestPart 23 = .ok (.iload_n 0, 1) := by decide +kernel
theorem dX6_greatestPart_24 : decode cX6_greatestPart 24 = .ok (.iload 5, 2) := by decide +kernel
theorem dX6_greatestPart_26 : decode cX6_greatestPart 26 = .ok (.ishr, 1) := by decide +kernel
theorem dX6_greatestPart_27 : decode cX6_greatestPart 27 = .ok (.iconst 1, 1) := by decide +kernel
theorem dX6_greatestPart_28 : decode cX6_greatestPart 28 = .ok (.iand, 1) := by decide +kernel
theorem dX6_greatestPart_29 : decode cX6_greatestPart 29 = .ok (.ifCond .eq 20, 3) := by decide +kernel
theorem dX6_greatestPart_32 : decode cX6_greatestPart 32 = .ok (.iload 5, 2) := by decide +kernel
theorem dX6_greatestPart_34 : decode cX6_greatestPart 34 = .ok (.iload_n 1, 1) := by decide +kernel
theorem dX6_greatestPart_35 : decode cX6_greatestPart 35 = .ok (.invokestatic 163, 3) := by decide +kernel
theorem dX6_greatestPart_38 : decode cX6_greatestPart 38 = .ok (.iload_n 3, 1) := by decide +kernel
theorem dX6_greatestPart_39 : decode cX6_greatestPart 39 = .ok (.iload_n 1, 1) := by decide +kernel
theorem dX6_greatestPart_40 : decode cX6_greatestPart 40 = .ok (.invokestatic 163, 3) := by decide +kernel
theorem dX6_greatestPart_43 : decode cX6_greatestPart 43 = .ok (.if_icmp .ne 6, 3) := by decide +kernel
theorem dX6_greatestPart_46 : decode cX6_greatestPart 46 = .ok (.iinc 4 1, 3) := by decide +kernel
theorem dX6_greatestPart_49 : decode cX6_greatestPart 49 = .ok (.iinc 5 1, 3) := by decide +kernel
theorem dX6_greatestPart_52 : decode cX6_greatestPart 52 = .ok (.goto (-36), 3) := by decide +kernel
theorem dX6_greatestPart_55 : decode cX6_greatestPart 55 = .ok (.iload_n 2, 1) := by decide +kernel
theorem dX6_greatestPart_56 : decode cX6_greatestPart 56 = .ok (.iload 4, 2) := by decide +kernel
theorem dX6_greatestPart_58 : decode cX6_greatestPart 58 = .ok (.invokestatic 343, 3) := by decide +kernel
theorem dX6_greatestPart_61 : decode cX6_greatestPart 61 = .ok (.istore_n 2, 1) := by decide +kernel
theorem dX6_greatestPart_62 : decode cX6_greatestPart 62 = .ok (.iinc 3 1, 3) := by decide +kernel
theorem dX6_greatestPart_65 : decode cX6_greatestPart 65 = .ok (.goto (-61), 3) := by decide +kernel
theorem dX6_greatestPart_68 : decode cX6_greatestPart 68 = .ok (.iload_n 2, 1) := by decide +kernel
theorem dX6_greatestPart_69 : decode cX6_greatestPart 69 = .ok (.ireturn, 1) := by decide +kernel
theorem dX6_blow_0 : decode cX6_blow 0 = .ok (.aload_n 0, 1) := by decide +kernel
theorem dX6_blow_1 : decode cX6_blow 1 = .ok (.getfield 31, 3) := by decide +kernel
theorem dX6_blow_4 : decode cX6_blow 4 = .ok (.invokevirtual 144, 3) := by decide +kernel
theorem dX6_blow_7 : decode cX6_blow 7 = .ok (.lstore_n 3, 1) := by decide +kernel
theorem dX6_blow_8 : decode cX6_blow 8 = .ok (.aload_n 0, 1) := by decide +kernel
theorem dX6_blow_9 : decode cX6_blow 9 = .ok (.getfield 45, 3) := by decide +kernel
theorem dX6_blow_12 : decode cX6_blow 12 = .ok (.invokevirtual 340, 3) := by decide +kernel
theorem dX6_blow_15 : decode cX6_blow 15 = .ok (.lload_n 3, 1) := by decide +kernel
theorem dX6_blow_16 : decode cX6_blow 16 = .ok (.invokestatic 212, 3) := by decide +kernel
theorem dX6_blow_19 : decode cX6_blow 19 = .ok (.iconst (-1), 1) := by decide +kernel
theorem dX6_blow_20 : decode cX6_blow 20 = .ok (.ixor, 1) := by decide +kernel
theorem dX6_blow_21 : decode cX6_blow 21 = .ok (.iand, 1) := by decide +kernel
theorem dX6_blow_22 : decode cX6_blow 22 = .ok (.istore 5, 2) := by decide +kernel
theorem dX6_blow_24 : decode cX6_blow 24 = .ok (.iload 5, 2) := by decide +kernel
theorem dX6_blow_26 : decode cX6_blow 26 = .ok (.invokestatic 170, 3) := by decide +kernel
theorem dX6_blow_29 : decode cX6_blow 29 = .ok (.istore 6, 2) := by decide +kernel
theorem dX6_blow_31 : decode cX6_blow 31 = .ok (.lconst 0, 1) := by decide +kernel
theorem dX6_blow_32 : decode cX6_blow 32 = .ok (.lstore 7, 2) := by decide +kernel
theorem dX6_blow_34 : decode cX6_blow 34 = .ok (.iconst 0, 1) := by decide +kernel
theorem dX6_blow_35 : decode cX6_blow 35 = .ok (.istore 9, 2) := by decide +kernel
theorem dX6_blow_37 : decode cX6_blow 37 = .ok (.iload 9, 2) := by decide +kernel
theorem dX6_blow_39 : decode cX6_blow 39 = .ok (.bipush 64, 2) := by decide +kernel
theorem dX6_blow_41 : decode cX6_blow 41 = .ok (.if_icmp .ge 74, 3) := by decide +kernel
theorem dX6_blow_44 : decode cX6_blow 44 = .ok (.iload 9, 2) := by decide +kernel
theorem dX6_blow_46 : decode cX6_blow 46 = .ok (.iload 5, 2) := by decide +kernel
theorem dX6_blow_48 : decode cX6_blow 48 = .ok (.iconst (-1), 1) := by decide +kernel
theorem dX6_blow_49 : decode cX6_blow 49 = .ok (.ixor, 1) := by decide +kernel
theorem dX6_blow_50 : decode cX6_blow 50 = .ok (.iand, 1) := by decide +kernel
theorem dX6_blow_51 : decode cX6_blow 51 = .ok (.ifCond .ne 58, 3) := by decide +kernel
theorem dX6_blow_54 : decode cX6_blow 54 = .ok (.iload 9, 2) := by decide +kernel
theorem dX6_blow_56 : decode cX6_blow 56 = .ok (.invokestatic 170, 3) := by decide +kernel
theorem dX6_blow_59 : decode cX6_blow 59 = .ok (.istore 10, 2) := by decide +kernel
theorem dX6_blow_61 : decode cX6_blow 61 = .ok (.iload_n 2, 1) := by decide +kernel
theorem dX6_blow_62 : decode cX6_blow 62 = .ok (.iload 10, 2) := by decide +kernel
theorem dX6_blow_64 : decode cX6_blow 64 = .ok (.invokestatic 348, 3) := by decide +kernel
theorem dX6_blow_67 : decode cX6_blow 67 = .ok (.bipush 12, 2) := by decide +kernel
theorem dX6_blow_69 : decode cX6_blow 69 = .ok (.iload_n 2, 1) := by decide +kernel
theorem dX6_blow_70 : decode cX6_blow 70 = .ok (.isub, 1) := by decide +kernel
theorem dX6_blow_71 : decode cX6_blow 71 = .ok (.iload 6, 2) := by decide +kernel
theorem dX6_blow_73 : decode cX6_blow 73 = .ok (.iload 10, 2) := by decide +kernel
theorem dX6_blow_75 : decode cX6_blow 75 = .ok (.isub, 1) := by decide +kernel
theorem dX6_blow_76 : decode cX6_blow 76 = .ok (.invokestatic 348, 3) := by decide +kernel
theorem dX6_blow_79 : decode cX6_blow 79 = .ok (.lmul, 1) := by decide +kernel
theorem dX6_blow_80 : decode cX6_blow 80 = .ok (.lstore 11, 2) := by decide +kernel
theorem dX6_blow_82 : decode cX6_blow 82 = .ok (.lload 7, 2) := by decide +kernel
theorem dX6_blow_84 : decode cX6_blow 84 = .ok (.lload 11, 2) := by decide +kernel
theorem dX6_blow_86 : decode cX6_blow 86 = .ok (.aload_n 0, 1) := by decide +kernel
theorem dX6_blow_87 : decode cX6_blow 87 = .ok (.getfield 45, 3) := by decide +kernel
theorem dX6_blow_90 : decode cX6_blow 90 = .ok (.lload_n 3, 1) := by decide +kernel
theorem dX6_blow_91 : decode cX6_blow 91 = .ok (.iload 9, 2) := by decide +kernel
theorem dX6_blow_93 : decode cX6_blow 93 = .ok (.invokestatic 209, 3) := by decide +kernel
theorem dX6_blow_96 : decode cX6_blow 96 = .ok (.invokevirtual 250, 3) := by decide +kernel
theorem dX6_blow_99 : decode cX6_blow 99 = .ok (.iload_n 1, 1) := by decide +kernel
theorem dX6_blow_100 : decode cX6_blow 100 = .ok (.iand, 1) := by decide +kernel
theorem dX6_blow_101 : decode cX6_blow 101 = .ok (.invokestatic 170, 3) := by decide +kernel
theorem dX6_blow_104 : decode cX6_blow 104 = .ok (.i2l, 1) := by decide +kernel
theorem dX6_blow_105 : decode cX6_blow 105 = .ok (.lmul, 1) := by decide +kernel
theorem dX6_blow_106 : decode cX6_blow 106 = .ok (.ladd, 1) := by decide +kernel
theorem dX6_blow_107 : decode cX6_blow 107 = .ok (.lstore 7, 2) := by decide +kernel
theorem dX6_blow_109 : decode cX6_blow 109 = .ok (.iinc 9 1, 3) := by decide +kernel
theorem dX6_blow_112 : decode cX6_blow 112 = .ok (.goto (-75), 3) := by decide +kernel
theorem dX6_blow_115 : decode cX6_blow 115 = .ok (.aload_n 0, 1) := by decide +kernel
theorem dX6_blow_116 : decode cX6_blow 116 = .ok (.lload 7, 2) := by decide +kernel
theorem dX6_blow_118 : decode cX6_blow 118 = .ok (.bipush 12, 2) := by decide +kernel
theorem dX6_blow_120 : decode cX6_blow 120 = .ok (.iload 6, 2) := by decide +kernel
theorem dX6_blow_122 : decode cX6_blow 122 = .ok (.invokestatic 348, 3) := by decide +kernel
theorem dX6_blow_125 : decode cX6_blow 125 = .ok (.invokevirtual 352, 3) := by decide +kernel
theorem dX6_blow_128 : decode cX6_blow 128 = .ok (.ireturn, 1) := by decide +kernel
theorem dX6_tellPart_0 : decode cX6_tellPart 0 = .ok (.lload_n 1, 1) := by decide +kernel
theorem dX6_tellPart_1 : decode cX6_tellPart 1 = .ok (.lload_n 3, 1) := by decide +kernel
theorem dX6_tellPart_2 : decode cX6_tellPart 2 = .ok (.invokestatic 355, 3) := by decide +kernel
theorem dX6_tellPart_5 : decode cX6_tellPart 5 = .ok (.lstore 5, 2) := by decide +kernel
theorem dX6_tellPart_7 : decode cX6_tellPart 7 = .ok (.lload 5, 2) := by decide +kernel
theorem dX6_tellPart_9 : decode cX6_tellPart 9 = .ok (.lconst 0, 1) := by decide +kernel
theorem dX6_tellPart_10 : decode cX6_tellPart 10 = .ok (.lcmp, 1) := by decide +kernel
theorem dX6_tellPart_11 : decode cX6_tellPart 11 = .ok (.ifCond .le 19, 3) := by decide +kernel
theorem dX6_tellPart_14 : decode cX6_tellPart 14 = .ok (.aload_n 0, 1) := by decide +kernel
theorem dX6_tellPart_15 : decode cX6_tellPart 15 = .ok (.lload_n 1, 1) := by decide +kernel
theorem dX6_tellPart_16 : decode cX6_tellPart 16 = .ok (.lload 5, 2) := by decide +kernel
theorem dX6_tellPart_18 : decode cX6_tellPart 18 = .ok (.ldiv, 1) := by decide +kernel
theorem dX6_tellPart_19 : decode cX6_tellPart 19 = .ok (.putfield 59, 3) := by decide +kernel
theorem dX6_tellPart_22 : decode cX6_tellPart 22 = .ok (.aload_n 0, 1) := by decide +kernel
theorem dX6_tellPart_23 : decode cX6_tellPart 23 = .ok (.lload_n 3, 1) := by decide +kernel
theorem dX6_tellPart_24 : decode cX6_tellPart 24 = .ok (.lload 5, 2) := by decide +kernel
theorem dX6_tellPart_26 : decode cX6_tellPart 26 = .ok (.ldiv, 1) := by decide +kernel
theorem dX6_tellPart_27 : decode cX6_tellPart 27 = .ok (.putfield 63, 3) := by decide +kernel
theorem dX6_tellPart_30 : decode cX6_tellPart 30 = .ok (.iconst 1, 1) := by decide +kernel
theorem dX6_tellPart_31 : decode cX6_tellPart 31 = .ok (.ireturn, 1) := by decide +kernel
theorem dX6_greatestDivisor_0 : decode cX6_greatestDivisor 0 = .ok (.lload_n 0, 1) := by decide +kernel
theorem dX6_greatestDivisor_1 : decode cX6_greatestDivisor 1 = .ok (.lstore 4, 2) := by decide +kernel
theorem dX6_greatestDivisor_3 : decode cX6_greatestDivisor 3 = .ok (.lload_n 2, 1) := by decide +kernel
theorem dX6_greatestDivisor_4 : decode cX6_greatestDivisor 4 = .ok (.lstore 6, 2) := by decide +kernel
theorem dX6_greatestDivisor_6 : decode cX6_greatestDivisor 6 = .ok (.iconst 0, 1) := by decide +kernel
theorem dX6_greatestDivisor_7 : decode cX6_greatestDivisor 7 = .ok (.istore 8, 2) := by decide +kernel
theorem dX6_greatestDivisor_9 : decode cX6_greatestDivisor 9 = .ok (.iload 8, 2) := by decide +kernel
theorem dX6_greatestDivisor_11 : decode cX6_greatestDivisor 11 = .ok (.sipush 200, 3) := by decide +kernel
theorem dX6_greatestDivisor_14 : decode cX6_greatestDivisor 14 = .ok (.if_icmp .ge 31, 3) := by decide +kernel
theorem dX6_greatestDivisor_17 : decode cX6_greatestDivisor 17 = .ok (.lload 6, 2) := by decide +kernel
theorem dX6_greatestDivisor_19 : decode cX6_greatestDivisor 19 = .ok (.lconst 0, 1) := by decide +kernel
theorem dX6_greatestDivisor_20 : decode cX6_greatestDivisor 20 = .ok (.lcmp, 1) := by decide +kernel
theorem dX6_greatestDivisor_21 : decode cX6_greatestDivisor 21 = .ok (.ifCond .eq 24, 3) := by decide +kernel
theorem dX6_greatestDivisor_24 : decode cX6_greatestDivisor 24 = .ok (.lload 4, 2) := by decide +kernel
theorem dX6_greatestDivisor_26 : decode cX6_greatestDivisor 26 = .ok (.lload 6, 2) := by decide +kernel
theorem dX6_greatestDivisor_28 : decode cX6_greatestDivisor 28 = .ok (.lrem, 1) := by decide +kernel
theorem dX6_greatestDivisor_29 : decode cX6_greatestDivisor 29 = .ok (.lstore 9, 2) := by decide +kernel
theorem dX6_greatestDivisor_31 : decode cX6_greatestDivisor 31 = .ok (.lload 6, 2) := by decide +kernel
theorem dX6_greatestDivisor_33 : decode cX6_greatestDivisor 33 = .ok (.lstore 4, 2) := by decide +kernel
theorem dX6_greatestDivisor_35 : decode cX6_greatestDivisor 35 = .ok (.lload 9, 2) := by decide +kernel
theorem dX6_greatestDivisor_37 : decode cX6_greatestDivisor 37 = .ok (.lstore 6, 2) := by decide +kernel
theorem dX6_greatestDivisor_39 : decode cX6_greatestDivisor 39 = .ok (.iinc 8 1, 3) := by decide +kernel
theorem dX6_greatestDivisor_42 : decode cX6_greatestDivisor 42 = .ok (.goto (-33), 3) := by decide +kernel
theorem dX6_greatestDivisor_45 : decode cX6_greatestDivisor 45 = .ok (.lload 4, 2) := by decide +kernel
theorem dX6_greatestDivisor_47 : decode cX6_greatestDivisor 47 = .ok (.lreturn, 1) := by decide +kernel
theorem dX6_power_0 : decode cX6_power 0 = .ok (.lconst 1, 1) := by decide +kernel
theorem dX6_power_1 : decode cX6_power 1 = .ok (.lstore_n 2, 1) := by decide +kernel
theorem dX6_power_2 : decode cX6_power 2 = .ok (.iconst 0, 1) := by decide +kernel
theorem dX6_power_3 : decode cX6_power 3 = .ok (.istore 4, 2) := by decide +kernel
theorem dX6_power_5 : decode cX6_power 5 = .ok (.iload 4, 2) := by decide +kernel
theorem dX6_power_7 : decode cX6_power 7 = .ok (.iload_n 1, 1) := by decide +kernel
theorem dX6_power_8 : decode cX6_power 8 = .ok (.if_icmp .ge 14, 3) := by decide +kernel
theorem dX6_power_11 : decode cX6_power 11 = .ok (.lload_n 2, 1) := by decide +kernel
theorem dX6_power_12 : decode cX6_power 12 = .ok (.iload_n 0, 1) := by decide +kernel
theorem dX6_power_13 : decode cX6_power 13 = .ok (.i2l, 1) := by decide +kernel
theorem dX6_power_14 : decode cX6_power 14 = .ok (.lmul, 1) := by decide +kernel
theorem dX6_power_15 : decode cX6_power 15 = .ok (.lstore_n 2, 1) := by decide +kernel
theorem dX6_power_16 : decode cX6_power 16 = .ok (.iinc 4 1, 3) := by decide +kernel
theorem dX6_power_19 : decode cX6_power 19 = .ok (.goto (-14), 3) := by decide +kernel
theorem dX6_power_22 : decode cX6_power 22 = .ok (.lload_n 2, 1) := by decide +kernel
theorem dX6_power_23 : decode cX6_power 23 = .ok (.lreturn, 1) := by decide +kernel
theorem dX6_isOf_0 : decode cX6_isOf 0 = .ok (.iload_n 0, 1) := by decide +kernel
theorem dX6_isOf_1 : decode cX6_isOf 1 = .ok (.iload_n 1, 1) := by decide +kernel
theorem dX6_isOf_2 : decode cX6_isOf 2 = .ok (.if_icmp .eq 27, 3) := by decide +kernel
theorem dX6_isOf_5 : decode cX6_isOf 5 = .ok (.iload_n 1, 1) := by decide +kernel
theorem dX6_isOf_6 : decode cX6_isOf 6 = .ok (.ifCond .eq 23, 3) := by decide +kernel
theorem dX6_isOf_9 : decode cX6_isOf 9 = .ok (.iload_n 0, 1) := by decide +kernel
theorem dX6_isOf_10 : decode cX6_isOf 10 = .ok (.iconst 4, 1) := by decide +kernel
theorem dX6_isOf_11 : decode cX6_isOf 11 = .ok (.if_icmp .ne 8, 3) := by decide +kernel
theorem dX6_isOf_14 : decode cX6_isOf 14 = .ok (.iload_n 1, 1) := by decide +kernel
theorem dX6_isOf_15 : decode cX6_isOf 15 = .ok (.iconst 1, 1) := by decide +kernel
theorem dX6_isOf_16 : decode cX6_isOf 16 = .ok (.if_icmp .eq 13, 3) := by decide +kernel
theorem dX6_isOf_19 : decode cX6_isOf 19 = .ok (.iload_n 0, 1) := by decide +kernel
theorem dX6_isOf_20 : decode cX6_isOf 20 = .ok (.iconst 5, 1) := by decide +kernel
theorem dX6_isOf_21 : decode cX6_isOf 21 = .ok (.if_icmp .ne 12, 3) := by decide +kernel
theorem dX6_isOf_24 : decode cX6_isOf 24 = .ok (.iload_n 1, 1) := by decide +kernel
theorem dX6_isOf_25 : decode cX6_isOf 25 = .ok (.iconst 3, 1) := by decide +kernel
theorem dX6_isOf_26 : decode cX6_isOf 26 = .ok (.if_icmp .ne 7, 3) := by decide +kernel
theorem dX6_isOf_29 : decode cX6_isOf 29 = .ok (.iconst 1, 1) := by decide +kernel
theorem dX6_isOf_30 : decode cX6_isOf 30 = .ok (.goto 4, 3) := by decide +kernel
theorem dX6_isOf_33 : decode cX6_isOf 33 = .ok (.iconst 0, 1) := by decide +kernel
theorem dX6_isOf_34 : decode cX6_isOf 34 = .ok (.ireturn, 1) := by decide +kernel
theorem dX6_passed_0 : decode cX6_passed 0 = .ok (.iload_n 0, 1) := by decide +kernel
theorem dX6_passed_1 : decode cX6_passed 1 = .ok (.tableswitch 57 1 5 #[35, 37, 39, 35, 47], 35) := by decide +kernel
theorem dX6_passed_36 : decode cX6_passed 36 = .ok (.iconst 0, 1) := by decide +kernel
theorem dX6_passed_37 : decode cX6_passed 37 = .ok (.ireturn, 1) := by decide +kernel
theorem dX6_passed_38 : decode cX6_passed 38 = .ok (.iload_n 1, 1) := by decide +kernel
theorem dX6_passed_39 : decode cX6_passed 39 = .ok (.ireturn, 1) := by decide +kernel
theorem dX6_passed_40 : decode cX6_passed 40 = .ok (.iload_n 1, 1) := by decide +kernel
theorem dX6_passed_41 : decode cX6_passed 41 = .ok (.iconst 1, 1) := by decide +kernel
theorem dX6_passed_42 : decode cX6_passed 42 = .ok (.isub, 1) := by decide +kernel
theorem dX6_passed_43 : decode cX6_passed 43 = .ok (.iconst 0, 1) := by decide +kernel
theorem dX6_passed_44 : decode cX6_passed 44 = .ok (.invokestatic 343, 3) := by decide +kernel
theorem dX6_passed_47 : decode cX6_passed 47 = .ok (.ireturn, 1) := by decide +kernel
theorem dX6_passed_48 : decode cX6_passed 48 = .ok (.iload_n 1, 1) := by decide +kernel
theorem dX6_passed_49 : decode cX6_passed 49 = .ok (.iconst 1, 1) := by decide +kernel
theorem dX6_passed_50 : decode cX6_passed 50 = .ok (.isub, 1) := by decide +kernel
theorem dX6_passed_51 : decode cX6_passed 51 = .ok (.iconst 0, 1) := by decide +kernel
theorem dX6_passed_52 : decode cX6_passed 52 = .ok (.invokestatic 343, 3) := by decide +kernel
theorem dX6_passed_55 : decode cX6_passed 55 = .ok (.iconst 2, 1) := by decide +kernel
theorem dX6_passed_56 : decode cX6_passed 56 = .ok (.idiv, 1) := by decide +kernel
theorem dX6_passed_57 : decode cX6_passed 57 = .ok (.ireturn, 1) := by decide +kernel
theorem dX6_passed_58 : decode cX6_passed 58 = .ok (.iload_n 1, 1) := by decide +kernel
theorem dX6_passed_59 : decode cX6_passed 59 = .ok (.iconst 2, 1) := by decide +kernel
theorem dX6_passed_60 : decode cX6_passed 60 = .ok (.idiv, 1) := by decide +kernel
theorem dX6_passed_61 : decode cX6_passed 61 = .ok (.ireturn, 1) := by decide +kernel
theorem dJ6_numberOfTrailingZeros_0f7a4_0 : decode cJ6_numberOfTrailingZeros_0f7a4 0 = .ok (.iload_n 0, 1) := by decide +kernel
theorem dJ6_numberOfTrailingZeros_0f7a4_1 : decode cJ6_numberOfTrailingZeros_0f7a4 1 = .ok (.iconst (-1), 1) := by decide +kernel
theorem dJ6_numberOfTrailingZeros_0f7a4_2 : decode cJ6_numberOfTrailingZeros_0f7a4 2 = .ok (.ixor, 1) := by decide +kernel
theorem dJ6_numberOfTrailingZeros_0f7a4_3 : decode cJ6_numberOfTrailingZeros_0f7a4 3 = .ok (.iload_n 0, 1) := by decide +kernel
theorem dJ6_numberOfTrailingZeros_0f7a4_4 : decode cJ6_numberOfTrailingZeros_0f7a4 4 = .ok (.iconst 1, 1) := by decide +kernel
theorem dJ6_numberOfTrailingZeros_0f7a4_5 : decode cJ6_numberOfTrailingZeros_0f7a4 5 = .ok (.isub, 1) := by decide +kernel
theorem dJ6_numberOfTrailingZeros_0f7a4_6 : decode cJ6_numberOfTrailingZeros_0f7a4 6 = .ok (.iand, 1) := by decide +kernel
theorem dJ6_numberOfTrailingZeros_0f7a4_7 : decode cJ6_numberOfTrailingZeros_0f7a4 7 = .ok (.istore_n 0, 1) := by decide +kernel
theorem dJ6_numberOfTrailingZeros_0f7a4_8 : decode cJ6_numberOfTrailingZeros_0f7a4 8 = .ok (.iload_n 0, 1) := by decide +kernel
theorem dJ6_numberOfTrailingZeros_0f7a4_9 : decode cJ6_numberOfTrailingZeros_0f7a4 9 = .ok (.ifCond .gt 8, 3) := by decide +kernel
theorem dJ6_numberOfTrailingZeros_0f7a4_12 : decode cJ6_numberOfTrailingZeros_0f7a4 12 = .ok (.iload_n 0, 1) := by decide +kernel
theorem dJ6_numberOfTrailingZeros_0f7a4_13 : decode cJ6_numberOfTrailingZeros_0f7a4 13 = .ok (.bipush 32, 2) := by decide +kernel
theorem dJ6_numberOfTrailingZeros_0f7a4_15 : decode cJ6_numberOfTrailingZeros_0f7a4 15 = .ok (.iand, 1) := by decide +kernel
theorem dJ6_numberOfTrailingZeros_0f7a4_16 : decode cJ6_numberOfTrailingZeros_0f7a4 16 = .ok (.ireturn, 1) := by decide +kernel
theorem dJ6_numberOfTrailingZeros_0f7a4_17 : decode cJ6_numberOfTrailingZeros_0f7a4 17 = .ok (.iconst 1, 1) := by decide +kernel
theorem dJ6_numberOfTrailingZeros_0f7a4_18 : decode cJ6_numberOfTrailingZeros_0f7a4 18 = .ok (.istore_n 1, 1) := by decide +kernel
theorem dJ6_numberOfTrailingZeros_0f7a4_19 : decode cJ6_numberOfTrailingZeros_0f7a4 19 = .ok (.iload_n 0, 1) := by decide +kernel
theorem dJ6_numberOfTrailingZeros_0f7a4_20 : decode cJ6_numberOfTrailingZeros_0f7a4 20 = .ok (.ldc_w 264, 3) := by decide +kernel
theorem dJ6_numberOfTrailingZeros_0f7a4_23 : decode cJ6_numberOfTrailingZeros_0f7a4 23 = .ok (.if_icmp .le 11, 3) := by decide +kernel
theorem dJ6_numberOfTrailingZeros_0f7a4_26 : decode cJ6_numberOfTrailingZeros_0f7a4 26 = .ok (.iinc 1 16, 3) := by decide +kernel
theorem dJ6_numberOfTrailingZeros_0f7a4_29 : decode cJ6_numberOfTrailingZeros_0f7a4 29 = .ok (.iload_n 0, 1) := by decide +kernel
theorem dJ6_numberOfTrailingZeros_0f7a4_30 : decode cJ6_numberOfTrailingZeros_0f7a4 30 = .ok (.bipush 16, 2) := by decide +kernel
theorem dJ6_numberOfTrailingZeros_0f7a4_32 : decode cJ6_numberOfTrailingZeros_0f7a4 32 = .ok (.iushr, 1) := by decide +kernel
theorem dJ6_numberOfTrailingZeros_0f7a4_33 : decode cJ6_numberOfTrailingZeros_0f7a4 33 = .ok (.istore_n 0, 1) := by decide +kernel
theorem dJ6_numberOfTrailingZeros_0f7a4_34 : decode cJ6_numberOfTrailingZeros_0f7a4 34 = .ok (.iload_n 0, 1) := by decide +kernel
theorem dJ6_numberOfTrailingZeros_0f7a4_35 : decode cJ6_numberOfTrailingZeros_0f7a4 35 = .ok (.sipush 256, 3) := by decide +kernel
theorem dJ6_numberOfTrailingZeros_0f7a4_38 : decode cJ6_numberOfTrailingZeros_0f7a4 38 = .ok (.if_icmp .le 11, 3) := by decide +kernel
theorem dJ6_numberOfTrailingZeros_0f7a4_41 : decode cJ6_numberOfTrailingZeros_0f7a4 41 = .ok (.iinc 1 8, 3) := by decide +kernel
theorem dJ6_numberOfTrailingZeros_0f7a4_44 : decode cJ6_numberOfTrailingZeros_0f7a4 44 = .ok (.iload_n 0, 1) := by decide +kernel
theorem dJ6_numberOfTrailingZeros_0f7a4_45 : decode cJ6_numberOfTrailingZeros_0f7a4 45 = .ok (.bipush 8, 2) := by decide +kernel
theorem dJ6_numberOfTrailingZeros_0f7a4_47 : decode cJ6_numberOfTrailingZeros_0f7a4 47 = .ok (.iushr, 1) := by decide +kernel
theorem dJ6_numberOfTrailingZeros_0f7a4_48 : decode cJ6_numberOfTrailingZeros_0f7a4 48 = .ok (.istore_n 0, 1) := by decide +kernel
theorem dJ6_numberOfTrailingZeros_0f7a4_49 : decode cJ6_numberOfTrailingZeros_0f7a4 49 = .ok (.iload_n 0, 1) := by decide +kernel
theorem dJ6_numberOfTrailingZeros_0f7a4_50 : decode cJ6_numberOfTrailingZeros_0f7a4 50 = .ok (.bipush 16, 2) := by decide +kernel
theorem dJ6_numberOfTrailingZeros_0f7a4_52 : decode cJ6_numberOfTrailingZeros_0f7a4 52 = .ok (.if_icmp .le 10, 3) := by decide +kernel
theorem dJ6_numberOfTrailingZeros_0f7a4_55 : decode cJ6_numberOfTrailingZeros_0f7a4 55 = .ok (.iinc 1 4, 3) := by decide +kernel
theorem dJ6_numberOfTrailingZeros_0f7a4_58 : decode cJ6_numberOfTrailingZeros_0f7a4 58 = .ok (.iload_n 0, 1) := by decide +kernel
theorem dJ6_numberOfTrailingZeros_0f7a4_59 : decode cJ6_numberOfTrailingZeros_0f7a4 59 = .ok (.iconst 4, 1) := by decide +kernel
theorem dJ6_numberOfTrailingZeros_0f7a4_60 : decode cJ6_numberOfTrailingZeros_0f7a4 60 = .ok (.iushr, 1) := by decide +kernel
theorem dJ6_numberOfTrailingZeros_0f7a4_61 : decode cJ6_numberOfTrailingZeros_0f7a4 61 = .ok (.istore_n 0, 1) := by decide +kernel
theorem dJ6_numberOfTrailingZeros_0f7a4_62 : decode cJ6_numberOfTrailingZeros_0f7a4 62 = .ok (.iload_n 0, 1) := by decide +kernel
theorem dJ6_numberOfTrailingZeros_0f7a4_63 : decode cJ6_numberOfTrailingZeros_0f7a4 63 = .ok (.iconst 4, 1) := by decide +kernel
theorem dJ6_numberOfTrailingZeros_0f7a4_64 : decode cJ6_numberOfTrailingZeros_0f7a4 64 = .ok (.if_icmp .le 10, 3) := by decide +kernel
theorem dJ6_numberOfTrailingZeros_0f7a4_67 : decode cJ6_numberOfTrailingZeros_0f7a4 67 = .ok (.iinc 1 2, 3) := by decide +kernel
theorem dJ6_numberOfTrailingZeros_0f7a4_70 : decode cJ6_numberOfTrailingZeros_0f7a4 70 = .ok (.iload_n 0, 1) := by decide +kernel
theorem dJ6_numberOfTrailingZeros_0f7a4_71 : decode cJ6_numberOfTrailingZeros_0f7a4 71 = .ok (.iconst 2, 1) := by decide +kernel
theorem dJ6_numberOfTrailingZeros_0f7a4_72 : decode cJ6_numberOfTrailingZeros_0f7a4 72 = .ok (.iushr, 1) := by decide +kernel
theorem dJ6_numberOfTrailingZeros_0f7a4_73 : decode cJ6_numberOfTrailingZeros_0f7a4 73 = .ok (.istore_n 0, 1) := by decide +kernel
theorem dJ6_numberOfTrailingZeros_0f7a4_74 : decode cJ6_numberOfTrailingZeros_0f7a4 74 = .ok (.iload_n 1, 1) := by decide +kernel
theorem dJ6_numberOfTrailingZeros_0f7a4_75 : decode cJ6_numberOfTrailingZeros_0f7a4 75 = .ok (.iload_n 0, 1) := by decide +kernel
theorem dJ6_numberOfTrailingZeros_0f7a4_76 : decode cJ6_numberOfTrailingZeros_0f7a4 76 = .ok (.iconst 1, 1) := by decide +kernel
theorem dJ6_numberOfTrailingZeros_0f7a4_77 : decode cJ6_numberOfTrailingZeros_0f7a4 77 = .ok (.iushr, 1) := by decide +kernel
theorem dJ6_numberOfTrailingZeros_0f7a4_78 : decode cJ6_numberOfTrailingZeros_0f7a4 78 = .ok (.iadd, 1) := by decide +kernel
theorem dJ6_numberOfTrailingZeros_0f7a4_79 : decode cJ6_numberOfTrailingZeros_0f7a4 79 = .ok (.ireturn, 1) := by decide +kernel
theorem dJ6_bitCount_0f7a4_0 : decode cJ6_bitCount_0f7a4 0 = .ok (.iload_n 0, 1) := by decide +kernel
theorem dJ6_bitCount_0f7a4_1 : decode cJ6_bitCount_0f7a4 1 = .ok (.iload_n 0, 1) := by decide +kernel
theorem dJ6_bitCount_0f7a4_2 : decode cJ6_bitCount_0f7a4 2 = .ok (.iconst 1, 1) := by decide +kernel
theorem dJ6_bitCount_0f7a4_3 : decode cJ6_bitCount_0f7a4 3 = .ok (.iushr, 1) := by decide +kernel
theorem dJ6_bitCount_0f7a4_4 : decode cJ6_bitCount_0f7a4 4 = .ok (.ldc_w 265, 3) := by decide +kernel
theorem dJ6_bitCount_0f7a4_7 : decode cJ6_bitCount_0f7a4 7 = .ok (.iand, 1) := by decide +kernel
theorem dJ6_bitCount_0f7a4_8 : decode cJ6_bitCount_0f7a4 8 = .ok (.isub, 1) := by decide +kernel
theorem dJ6_bitCount_0f7a4_9 : decode cJ6_bitCount_0f7a4 9 = .ok (.istore_n 0, 1) := by decide +kernel
theorem dJ6_bitCount_0f7a4_10 : decode cJ6_bitCount_0f7a4 10 = .ok (.iload_n 0, 1) := by decide +kernel
theorem dJ6_bitCount_0f7a4_11 : decode cJ6_bitCount_0f7a4 11 = .ok (.ldc_w 266, 3) := by decide +kernel
theorem dJ6_bitCount_0f7a4_14 : decode cJ6_bitCount_0f7a4 14 = .ok (.iand, 1) := by decide +kernel
theorem dJ6_bitCount_0f7a4_15 : decode cJ6_bitCount_0f7a4 15 = .ok (.iload_n 0, 1) := by decide +kernel
theorem dJ6_bitCount_0f7a4_16 : decode cJ6_bitCount_0f7a4 16 = .ok (.iconst 2, 1) := by decide +kernel
theorem dJ6_bitCount_0f7a4_17 : decode cJ6_bitCount_0f7a4 17 = .ok (.iushr, 1) := by decide +kernel
theorem dJ6_bitCount_0f7a4_18 : decode cJ6_bitCount_0f7a4 18 = .ok (.ldc_w 266, 3) := by decide +kernel
theorem dJ6_bitCount_0f7a4_21 : decode cJ6_bitCount_0f7a4 21 = .ok (.iand, 1) := by decide +kernel
theorem dJ6_bitCount_0f7a4_22 : decode cJ6_bitCount_0f7a4 22 = .ok (.iadd, 1) := by decide +kernel
theorem dJ6_bitCount_0f7a4_23 : decode cJ6_bitCount_0f7a4 23 = .ok (.istore_n 0, 1) := by decide +kernel
theorem dJ6_bitCount_0f7a4_24 : decode cJ6_bitCount_0f7a4 24 = .ok (.iload_n 0, 1) := by decide +kernel
theorem dJ6_bitCount_0f7a4_25 : decode cJ6_bitCount_0f7a4 25 = .ok (.iload_n 0, 1) := by decide +kernel
theorem dJ6_bitCount_0f7a4_26 : decode cJ6_bitCount_0f7a4 26 = .ok (.iconst 4, 1) := by decide +kernel
theorem dJ6_bitCount_0f7a4_27 : decode cJ6_bitCount_0f7a4 27 = .ok (.iushr, 1) := by decide +kernel
theorem dJ6_bitCount_0f7a4_28 : decode cJ6_bitCount_0f7a4 28 = .ok (.iadd, 1) := by decide +kernel
theorem dJ6_bitCount_0f7a4_29 : decode cJ6_bitCount_0f7a4 29 = .ok (.ldc_w 267, 3) := by decide +kernel
theorem dJ6_bitCount_0f7a4_32 : decode cJ6_bitCount_0f7a4 32 = .ok (.iand, 1) := by decide +kernel
theorem dJ6_bitCount_0f7a4_33 : decode cJ6_bitCount_0f7a4 33 = .ok (.istore_n 0, 1) := by decide +kernel
theorem dJ6_bitCount_0f7a4_34 : decode cJ6_bitCount_0f7a4 34 = .ok (.iload_n 0, 1) := by decide +kernel
theorem dJ6_bitCount_0f7a4_35 : decode cJ6_bitCount_0f7a4 35 = .ok (.iload_n 0, 1) := by decide +kernel
theorem dJ6_bitCount_0f7a4_36 : decode cJ6_bitCount_0f7a4 36 = .ok (.bipush 8, 2) := by decide +kernel
theorem dJ6_bitCount_0f7a4_38 : decode cJ6_bitCount_0f7a4 38 = .ok (.iushr, 1) := by decide +kernel
theorem dJ6_bitCount_0f7a4_39 : decode cJ6_bitCount_0f7a4 39 = .ok (.iadd, 1) := by decide +kernel
theorem dJ6_bitCount_0f7a4_40 : decode cJ6_bitCount_0f7a4 40 = .ok (.istore_n 0, 1) := by decide +kernel
theorem dJ6_bitCount_0f7a4_41 : decode cJ6_bitCount_0f7a4 41 = .ok (.iload_n 0, 1) := by decide +kernel
theorem dJ6_bitCount_0f7a4_42 : decode cJ6_bitCount_0f7a4 42 = .ok (.iload_n 0, 1) := by decide +kernel
theorem dJ6_bitCount_0f7a4_43 : decode cJ6_bitCount_0f7a4 43 = .ok (.bipush 16, 2) := by decide +kernel
theorem dJ6_bitCount_0f7a4_45 : decode cJ6_bitCount_0f7a4 45 = .ok (.iushr, 1) := by decide +kernel
theorem dJ6_bitCount_0f7a4_46 : decode cJ6_bitCount_0f7a4 46 = .ok (.iadd, 1) := by decide +kernel
theorem dJ6_bitCount_0f7a4_47 : decode cJ6_bitCount_0f7a4 47 = .ok (.istore_n 0, 1) := by decide +kernel
theorem dJ6_bitCount_0f7a4_48 : decode cJ6_bitCount_0f7a4 48 = .ok (.iload_n 0, 1) := by decide +kernel
theorem dJ6_bitCount_0f7a4_49 : decode cJ6_bitCount_0f7a4 49 = .ok (.bipush 63, 2) := by decide +kernel
theorem dJ6_bitCount_0f7a4_51 : decode cJ6_bitCount_0f7a4 51 = .ok (.iand, 1) := by decide +kernel
theorem dJ6_bitCount_0f7a4_52 : decode cJ6_bitCount_0f7a4 52 = .ok (.ireturn, 1) := by decide +kernel
theorem dJ9_max_7cf53_0 : decode cJ9_max_7cf53 0 = .ok (.iload_n 0, 1) := by decide +kernel
theorem dJ9_max_7cf53_1 : decode cJ9_max_7cf53 1 = .ok (.iload_n 1, 1) := by decide +kernel
theorem dJ9_max_7cf53_2 : decode cJ9_max_7cf53 2 = .ok (.if_icmp .lt 7, 3) := by decide +kernel
theorem dJ9_max_7cf53_5 : decode cJ9_max_7cf53 5 = .ok (.iload_n 0, 1) := by decide +kernel
theorem dJ9_max_7cf53_6 : decode cJ9_max_7cf53 6 = .ok (.goto 4, 3) := by decide +kernel
theorem dJ9_max_7cf53_9 : decode cJ9_max_7cf53 9 = .ok (.iload_n 1, 1) := by decide +kernel
theorem dJ9_max_7cf53_10 : decode cJ9_max_7cf53 10 = .ok (.ireturn, 1) := by decide +kernel
theorem dJ9_min_7cf53_0 : decode cJ9_min_7cf53 0 = .ok (.iload_n 0, 1) := by decide +kernel
theorem dJ9_min_7cf53_1 : decode cJ9_min_7cf53 1 = .ok (.iload_n 1, 1) := by decide +kernel
theorem dJ9_min_7cf53_2 : decode cJ9_min_7cf53 2 = .ok (.if_icmp .gt 7, 3) := by decide +kernel
theorem dJ9_min_7cf53_5 : decode cJ9_min_7cf53 5 = .ok (.iload_n 0, 1) := by decide +kernel
theorem dJ9_min_7cf53_6 : decode cJ9_min_7cf53 6 = .ok (.goto 4, 3) := by decide +kernel
theorem dJ9_min_7cf53_9 : decode cJ9_min_7cf53 9 = .ok (.iload_n 1, 1) := by decide +kernel
theorem dJ9_min_7cf53_10 : decode cJ9_min_7cf53 10 = .ok (.ireturn, 1) := by decide +kernel
