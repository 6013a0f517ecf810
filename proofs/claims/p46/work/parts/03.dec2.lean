theorem dX6_lay_32 : decode cX6_lay 32 = .ok (.getfield 14, 3) := by decide +kernel
theorem dX6_lay_35 : decode cX6_lay 35 = .ok (.iload_n 1, 1) := by decide +kernel
theorem dX6_lay_36 : decode cX6_lay 36 = .ok (.iload_n 2, 1) := by decide +kernel
theorem dX6_lay_37 : decode cX6_lay 37 = .ok (.iload_n 3, 1) := by decide +kernel
theorem dX6_lay_38 : decode cX6_lay 38 = .ok (.invokevirtual 77, 3) := by decide +kernel
theorem dX6_lay_41 : decode cX6_lay 41 = .ok (.aload_n 0, 1) := by decide +kernel
theorem dX6_lay_42 : decode cX6_lay 42 = .ok (.iload 5, 2) := by decide +kernel
theorem dX6_lay_44 : decode cX6_lay 44 = .ok (.invokevirtual 80, 3) := by decide +kernel
theorem dX6_lay_47 : decode cX6_lay 47 = .ok (.ireturn, 1) := by decide +kernel
theorem dX6_at_0 : decode cX6_at 0 = .ok (.aload_n 0, 1) := by decide +kernel
theorem dX6_at_1 : decode cX6_at 1 = .ok (.aload_n 0, 1) := by decide +kernel
theorem dX6_at_2 : decode cX6_at 2 = .ok (.getfield 14, 3) := by decide +kernel
theorem dX6_at_5 : decode cX6_at 5 = .ok (.iload_n 1, 1) := by decide +kernel
theorem dX6_at_6 : decode cX6_at 6 = .ok (.iload_n 2, 1) := by decide +kernel
theorem dX6_at_7 : decode cX6_at 7 = .ok (.invokevirtual 70, 3) := by decide +kernel
theorem dX6_at_10 : decode cX6_at 10 = .ok (.istore_n 3, 1) := by decide +kernel
theorem dX6_at_11 : decode cX6_at 11 = .ok (.iload_n 3, 1) := by decide +kernel
theorem dX6_at_12 : decode cX6_at 12 = .ok (.ifCond .eq 7, 3) := by decide +kernel
theorem dX6_at_15 : decode cX6_at 15 = .ok (.iload_n 3, 1) := by decide +kernel
theorem dX6_at_16 : decode cX6_at 16 = .ok (.goto 16, 3) := by decide +kernel
theorem dX6_at_19 : decode cX6_at 19 = .ok (.aload_n 0, 1) := by decide +kernel
theorem dX6_at_20 : decode cX6_at 20 = .ok (.aload_n 0, 1) := by decide +kernel
theorem dX6_at_21 : decode cX6_at 21 = .ok (.getfield 14, 3) := by decide +kernel
theorem dX6_at_24 : decode cX6_at 24 = .ok (.iload_n 1, 1) := by decide +kernel
theorem dX6_at_25 : decode cX6_at 25 = .ok (.iload_n 2, 1) := by decide +kernel
theorem dX6_at_26 : decode cX6_at 26 = .ok (.invokevirtual 73, 3) := by decide +kernel
theorem dX6_at_29 : decode cX6_at 29 = .ok (.invokevirtual 80, 3) := by decide +kernel
theorem dX6_at_32 : decode cX6_at 32 = .ok (.ireturn, 1) := by decide +kernel
theorem dX6_text_0 : decode cX6_text 0 = .ok (.aload_n 0, 1) := by decide +kernel
theorem dX6_text_1 : decode cX6_text 1 = .ok (.aload_n 0, 1) := by decide +kernel
theorem dX6_text_2 : decode cX6_text 2 = .ok (.getfield 18, 3) := by decide +kernel
theorem dX6_text_5 : decode cX6_text 5 = .ok (.iload_n 1, 1) := by decide +kernel
theorem dX6_text_6 : decode cX6_text 6 = .ok (.iload_n 2, 1) := by decide +kernel
theorem dX6_text_7 : decode cX6_text 7 = .ok (.invokevirtual 66, 3) := by decide +kernel
theorem dX6_text_10 : decode cX6_text 10 = .ok (.ireturn, 1) := by decide +kernel
theorem dX6_put_0 : decode cX6_put 0 = .ok (.aload_n 0, 1) := by decide +kernel
theorem dX6_put_1 : decode cX6_put 1 = .ok (.aload_n 0, 1) := by decide +kernel
theorem dX6_put_2 : decode cX6_put 2 = .ok (.getfield 18, 3) := by decide +kernel
theorem dX6_put_5 : decode cX6_put 5 = .ok (.iload_n 1, 1) := by decide +kernel
theorem dX6_put_6 : decode cX6_put 6 = .ok (.iload_n 2, 1) := by decide +kernel
theorem dX6_put_7 : decode cX6_put 7 = .ok (.invokevirtual 70, 3) := by decide +kernel
theorem dX6_put_10 : decode cX6_put 10 = .ok (.istore 4, 2) := by decide +kernel
theorem dX6_put_12 : decode cX6_put 12 = .ok (.iload 4, 2) := by decide +kernel
theorem dX6_put_14 : decode cX6_put 14 = .ok (.ifCond .eq 6, 3) := by decide +kernel
theorem dX6_put_17 : decode cX6_put 17 = .ok (.iload 4, 2) := by decide +kernel
theorem dX6_put_19 : decode cX6_put 19 = .ok (.ireturn, 1) := by decide +kernel
theorem dX6_put_20 : decode cX6_put 20 = .ok (.aload_n 0, 1) := by decide +kernel
theorem dX6_put_21 : decode cX6_put 21 = .ok (.getfield 18, 3) := by decide +kernel
theorem dX6_put_24 : decode cX6_put 24 = .ok (.iload_n 1, 1) := by decide +kernel
theorem dX6_put_25 : decode cX6_put 25 = .ok (.iload_n 2, 1) := by decide +kernel
theorem dX6_put_26 : decode cX6_put 26 = .ok (.invokevirtual 73, 3) := by decide +kernel
theorem dX6_put_29 : decode cX6_put 29 = .ok (.istore 5, 2) := by decide +kernel
theorem dX6_put_31 : decode cX6_put 31 = .ok (.aload_n 0, 1) := by decide +kernel
theorem dX6_put_32 : decode cX6_put 32 = .ok (.getfield 18, 3) := by decide +kernel
theorem dX6_put_35 : decode cX6_put 35 = .ok (.iload_n 1, 1) := by decide +kernel
theorem dX6_put_36 : decode cX6_put 36 = .ok (.iload_n 2, 1) := by decide +kernel
theorem dX6_put_37 : decode cX6_put 37 = .ok (.iload_n 3, 1) := by decide +kernel
theorem dX6_put_38 : decode cX6_put 38 = .ok (.i2b, 1) := by decide +kernel
theorem dX6_put_39 : decode cX6_put 39 = .ok (.invokevirtual 77, 3) := by decide +kernel
theorem dX6_put_42 : decode cX6_put 42 = .ok (.iload 5, 2) := by decide +kernel
theorem dX6_put_44 : decode cX6_put 44 = .ok (.sipush 1000, 3) := by decide +kernel
theorem dX6_put_47 : decode cX6_put 47 = .ok (.iadd, 1) := by decide +kernel
theorem dX6_put_48 : decode cX6_put 48 = .ok (.ireturn, 1) := by decide +kernel
theorem dX6_court_0 : decode cX6_court 0 = .ok (.aload_n 0, 1) := by decide +kernel
theorem dX6_court_1 : decode cX6_court 1 = .ok (.aload_n 0, 1) := by decide +kernel
theorem dX6_court_2 : decode cX6_court 2 = .ok (.getfield 18, 3) := by decide +kernel
theorem dX6_court_5 : decode cX6_court 5 = .ok (.iload_n 1, 1) := by decide +kernel
theorem dX6_court_6 : decode cX6_court 6 = .ok (.invokevirtual 84, 3) := by decide +kernel
theorem dX6_court_9 : decode cX6_court 9 = .ok (.istore_n 2, 1) := by decide +kernel
theorem dX6_court_10 : decode cX6_court 10 = .ok (.iload_n 2, 1) := by decide +kernel
theorem dX6_court_11 : decode cX6_court 11 = .ok (.ifCond .eq 5, 3) := by decide +kernel
theorem dX6_court_14 : decode cX6_court 14 = .ok (.iload_n 2, 1) := by decide +kernel
theorem dX6_court_15 : decode cX6_court 15 = .ok (.ireturn, 1) := by decide +kernel
theorem dX6_court_16 : decode cX6_court 16 = .ok (.aload_n 0, 1) := by decide +kernel
theorem dX6_court_17 : decode cX6_court 17 = .ok (.getfield 24, 3) := by decide +kernel
theorem dX6_court_20 : decode cX6_court 20 = .ok (.aload_n 0, 1) := by decide +kernel
theorem dX6_court_21 : decode cX6_court 21 = .ok (.getfield 18, 3) := by decide +kernel
theorem dX6_court_24 : decode cX6_court 24 = .ok (.iload_n 1, 1) := by decide +kernel
theorem dX6_court_25 : decode cX6_court 25 = .ok (.aload_n 0, 1) := by decide +kernel
theorem dX6_court_26 : decode cX6_court 26 = .ok (.getfield 49, 3) := by decide +kernel
theorem dX6_court_29 : decode cX6_court 29 = .ok (.invokevirtual 117, 3) := by decide +kernel
theorem dX6_court_32 : decode cX6_court 32 = .ok (.bipush (-9), 2) := by decide +kernel
theorem dX6_court_34 : decode cX6_court 34 = .ok (.if_icmp .eq 6, 3) := by decide +kernel
theorem dX6_court_37 : decode cX6_court 37 = .ok (.bipush (-4), 2) := by decide +kernel
theorem dX6_court_39 : decode cX6_court 39 = .ok (.ireturn, 1) := by decide +kernel
theorem dX6_court_40 : decode cX6_court 40 = .ok (.aload_n 0, 1) := by decide +kernel
theorem dX6_court_41 : decode cX6_court 41 = .ok (.getfield 49, 3) := by decide +kernel
theorem dX6_court_44 : decode cX6_court 44 = .ok (.astore_n 3, 1) := by decide +kernel
theorem dX6_court_45 : decode cX6_court 45 = .ok (.aload_n 0, 1) := by decide +kernel
theorem dX6_court_46 : decode cX6_court 46 = .ok (.aload_n 0, 1) := by decide +kernel
theorem dX6_court_47 : decode cX6_court 47 = .ok (.getfield 45, 3) := by decide +kernel
theorem dX6_court_50 : decode cX6_court 50 = .ok (.putfield 49, 3) := by decide +kernel
theorem dX6_court_53 : decode cX6_court 53 = .ok (.aload_n 0, 1) := by decide +kernel
theorem dX6_court_54 : decode cX6_court 54 = .ok (.aload_n 3, 1) := by decide +kernel
theorem dX6_court_55 : decode cX6_court 55 = .ok (.putfield 45, 3) := by decide +kernel
theorem dX6_court_58 : decode cX6_court 58 = .ok (.aload_n 0, 1) := by decide +kernel
theorem dX6_court_59 : decode cX6_court 59 = .ok (.getfield 31, 3) := by decide +kernel
theorem dX6_court_62 : decode cX6_court 62 = .ok (.aload_n 0, 1) := by decide +kernel
theorem dX6_court_63 : decode cX6_court 63 = .ok (.getfield 45, 3) := by decide +kernel
theorem dX6_court_66 : decode cX6_court 66 = .ok (.getfield 121, 3) := by decide +kernel
theorem dX6_court_69 : decode cX6_court 69 = .ok (.invokevirtual 124, 3) := by decide +kernel
theorem dX6_court_72 : decode cX6_court 72 = .ok (.aload_n 0, 1) := by decide +kernel
theorem dX6_court_73 : decode cX6_court 73 = .ok (.getfield 45, 3) := by decide +kernel
theorem dX6_court_76 : decode cX6_court 76 = .ok (.getfield 128, 3) := by decide +kernel
theorem dX6_court_79 : decode cX6_court 79 = .ok (.ireturn, 1) := by decide +kernel
theorem dX6_rope_0 : decode cX6_rope 0 = .ok (.aload_n 0, 1) := by decide +kernel
theorem dX6_rope_1 : decode cX6_rope 1 = .ok (.getfield 45, 3) := by decide +kernel
theorem dX6_rope_4 : decode cX6_rope 4 = .ok (.iload_n 1, 1) := by decide +kernel
theorem dX6_rope_5 : decode cX6_rope 5 = .ok (.invokevirtual 131, 3) := by decide +kernel
theorem dX6_rope_8 : decode cX6_rope 8 = .ok (.ifCond .eq 12, 3) := by decide +kernel
theorem dX6_rope_11 : decode cX6_rope 11 = .ok (.iload_n 2, 1) := by decide +kernel
theorem dX6_rope_12 : decode cX6_rope 12 = .ok (.ifCond .lt 8, 3) := by decide +kernel
theorem dX6_rope_15 : decode cX6_rope 15 = .ok (.iload_n 2, 1) := by decide +kernel
theorem dX6_rope_16 : decode cX6_rope 16 = .ok (.iconst 5, 1) := by decide +kernel
theorem dX6_rope_17 : decode cX6_rope 17 = .ok (.if_icmp .le 5, 3) := by decide +kernel
theorem dX6_rope_20 : decode cX6_rope 20 = .ok (.iconst (-1), 1) := by decide +kernel
theorem dX6_rope_21 : decode cX6_rope 21 = .ok (.ireturn, 1) := by decide +kernel
theorem dX6_rope_22 : decode cX6_rope 22 = .ok (.aload_n 0, 1) := by decide +kernel
theorem dX6_rope_23 : decode cX6_rope 23 = .ok (.aload_n 0, 1) := by decide +kernel
theorem dX6_rope_24 : decode cX6_rope 24 = .ok (.iload_n 1, 1) := by decide +kernel
theorem dX6_rope_25 : decode cX6_rope 25 = .ok (.iload_n 2, 1) := by decide +kernel
theorem dX6_rope_26 : decode cX6_rope 26 = .ok (.invokevirtual 134, 3) := by decide +kernel
theorem dX6_rope_29 : decode cX6_rope 29 = .ok (.invokevirtual 80, 3) := by decide +kernel
theorem dX6_rope_32 : decode cX6_rope 32 = .ok (.ireturn, 1) := by decide +kernel
theorem dX6_haul_0 : decode cX6_haul 0 = .ok (.aload_n 0, 1) := by decide +kernel
theorem dX6_haul_1 : decode cX6_haul 1 = .ok (.iload_n 1, 1) := by decide +kernel
theorem dX6_haul_2 : decode cX6_haul 2 = .ok (.iload_n 2, 1) := by decide +kernel
theorem dX6_haul_3 : decode cX6_haul 3 = .ok (.invokevirtual 175, 3) := by decide +kernel
theorem dX6_haul_6 : decode cX6_haul 6 = .ok (.istore_n 3, 1) := by decide +kernel
theorem dX6_haul_7 : decode cX6_haul 7 = .ok (.iload_n 3, 1) := by decide +kernel
theorem dX6_haul_8 : decode cX6_haul 8 = .ok (.ifCond .eq 5, 3) := by decide +kernel
theorem dX6_haul_11 : decode cX6_haul 11 = .ok (.iload_n 3, 1) := by decide +kernel
theorem dX6_haul_12 : decode cX6_haul 12 = .ok (.ireturn, 1) := by decide +kernel
theorem dX6_haul_13 : decode cX6_haul 13 = .ok (.aload_n 0, 1) := by decide +kernel
theorem dX6_haul_14 : decode cX6_haul 14 = .ok (.getfield 31, 3) := by decide +kernel
theorem dX6_haul_17 : decode cX6_haul 17 = .ok (.invokevirtual 144, 3) := by decide +kernel
theorem dX6_haul_20 : decode cX6_haul 20 = .ok (.lstore 4, 2) := by decide +kernel
theorem dX6_haul_22 : decode cX6_haul 22 = .ok (.aload_n 0, 1) := by decide +kernel
theorem dX6_haul_23 : decode cX6_haul 23 = .ok (.getfield 45, 3) := by decide +kernel
theorem dX6_haul_26 : decode cX6_haul 26 = .ok (.lload 4, 2) := by decide +kernel
theorem dX6_haul_28 : decode cX6_haul 28 = .ok (.iload_n 1, 1) := by decide +kernel
theorem dX6_haul_29 : decode cX6_haul 29 = .ok (.iload_n 2, 1) := by decide +kernel
theorem dX6_haul_30 : decode cX6_haul 30 = .ok (.invokevirtual 178, 3) := by decide +kernel
theorem dX6_haul_33 : decode cX6_haul 33 = .ok (.lstore 6, 2) := by decide +kernel
theorem dX6_haul_35 : decode cX6_haul 35 = .ok (.aload_n 0, 1) := by decide +kernel
theorem dX6_haul_36 : decode cX6_haul 36 = .ok (.lload 6, 2) := by decide +kernel
theorem dX6_haul_38 : decode cX6_haul 38 = .ok (.lload 4, 2) := by decide +kernel
theorem dX6_haul_40 : decode cX6_haul 40 = .ok (.lload 6, 2) := by decide +kernel
theorem dX6_haul_42 : decode cX6_haul 42 = .ok (.invokestatic 182, 3) := by decide +kernel
theorem dX6_haul_45 : decode cX6_haul 45 = .ok (.bipush (-9), 2) := by decide +kernel
theorem dX6_haul_47 : decode cX6_haul 47 = .ok (.if_icmp .ne 7, 3) := by decide +kernel
theorem dX6_haul_50 : decode cX6_haul 50 = .ok (.iconst 0, 1) := by decide +kernel
theorem dX6_haul_51 : decode cX6_haul 51 = .ok (.goto 4, 3) := by decide +kernel
theorem dX6_haul_54 : decode cX6_haul 54 = .ok (.iconst 1, 1) := by decide +kernel
theorem dX6_haul_55 : decode cX6_haul 55 = .ok (.invokevirtual 186, 3) := by decide +kernel
theorem dX6_haul_58 : decode cX6_haul 58 = .ok (.ireturn, 1) := by decide +kernel
theorem dX6_slack_0 : decode cX6_slack 0 = .ok (.aload_n 0, 1) := by decide +kernel
theorem dX6_slack_1 : decode cX6_slack 1 = .ok (.iload_n 1, 1) := by decide +kernel
theorem dX6_slack_2 : decode cX6_slack 2 = .ok (.invokevirtual 189, 3) := by decide +kernel
theorem dX6_slack_5 : decode cX6_slack 5 = .ok (.istore_n 2, 1) := by decide +kernel
theorem dX6_slack_6 : decode cX6_slack 6 = .ok (.iload_n 2, 1) := by decide +kernel
theorem dX6_slack_7 : decode cX6_slack 7 = .ok (.ifCond .eq 5, 3) := by decide +kernel
theorem dX6_slack_10 : decode cX6_slack 10 = .ok (.iload_n 2, 1) := by decide +kernel
theorem dX6_slack_11 : decode cX6_slack 11 = .ok (.ireturn, 1) := by decide +kernel
theorem dX6_slack_12 : decode cX6_slack 12 = .ok (.aload_n 0, 1) := by decide +kernel
theorem dX6_slack_13 : decode cX6_slack 13 = .ok (.getfield 31, 3) := by decide +kernel
theorem dX6_slack_16 : decode cX6_slack 16 = .ok (.invokevirtual 144, 3) := by decide +kernel
theorem dX6_slack_19 : decode cX6_slack 19 = .ok (.lstore_n 3, 1) := by decide +kernel
theorem dX6_slack_20 : decode cX6_slack 20 = .ok (.aload_n 0, 1) := by decide +kernel
theorem dX6_slack_21 : decode cX6_slack 21 = .ok (.lload_n 3, 1) := by decide +kernel
theorem dX6_slack_22 : decode cX6_slack 22 = .ok (.iload_n 1, 1) := by decide +kernel
theorem dX6_slack_23 : decode cX6_slack 23 = .ok (.invokestatic 192, 3) := by decide +kernel
theorem dX6_slack_26 : decode cX6_slack 26 = .ok (.lload_n 3, 1) := by decide +kernel
theorem dX6_slack_27 : decode cX6_slack 27 = .ok (.iload_n 1, 1) := by decide +kernel
theorem dX6_slack_28 : decode cX6_slack 28 = .ok (.invokestatic 151, 3) := by decide +kernel
theorem dX6_slack_31 : decode cX6_slack 31 = .ok (.invokevirtual 186, 3) := by decide +kernel
theorem dX6_slack_34 : decode cX6_slack 34 = .ok (.ireturn, 1) := by decide +kernel
theorem dX6_belay_0 : decode cX6_belay 0 = .ok (.aload_n 0, 1) := by decide +kernel
theorem dX6_belay_1 : decode cX6_belay 1 = .ok (.getfield 45, 3) := by decide +kernel
theorem dX6_belay_4 : decode cX6_belay 4 = .ok (.iload_n 1, 1) := by decide +kernel
theorem dX6_belay_5 : decode cX6_belay 5 = .ok (.invokevirtual 131, 3) := by decide +kernel
theorem dX6_belay_8 : decode cX6_belay 8 = .ok (.ifCond .ne 5, 3) := by decide +kernel
theorem dX6_belay_11 : decode cX6_belay 11 = .ok (.iconst (-1), 1) := by decide +kernel
theorem dX6_belay_12 : decode cX6_belay 12 = .ok (.ireturn, 1) := by decide +kernel
theorem dX6_belay_13 : decode cX6_belay 13 = .ok (.aload_n 0, 1) := by decide +kernel
theorem dX6_belay_14 : decode cX6_belay 14 = .ok (.getfield 31, 3) := by decide +kernel
theorem dX6_belay_17 : decode cX6_belay 17 = .ok (.invokevirtual 144, 3) := by decide +kernel
theorem dX6_belay_20 : decode cX6_belay 20 = .ok (.lstore_n 2, 1) := by decide +kernel
theorem dX6_belay_21 : decode cX6_belay 21 = .ok (.lload_n 2, 1) := by decide +kernel
theorem dX6_belay_22 : decode cX6_belay 22 = .ok (.iload_n 1, 1) := by decide +kernel
theorem dX6_belay_23 : decode cX6_belay 23 = .ok (.invokestatic 196, 3) := by decide +kernel
theorem dX6_belay_26 : decode cX6_belay 26 = .ok (.ifCond .ne 11, 3) := by decide +kernel
theorem dX6_belay_29 : decode cX6_belay 29 = .ok (.lload_n 2, 1) := by decide +kernel
theorem dX6_belay_30 : decode cX6_belay 30 = .ok (.iload_n 1, 1) := by decide +kernel
theorem dX6_belay_31 : decode cX6_belay 31 = .ok (.invokestatic 200, 3) := by decide +kernel
theorem dX6_belay_34 : decode cX6_belay 34 = .ok (.ifCond .ne 6, 3) := by decide +kernel
theorem dX6_belay_37 : decode cX6_belay 37 = .ok (.bipush (-4), 2) := by decide +kernel
theorem dX6_belay_39 : decode cX6_belay 39 = .ok (.ireturn, 1) := by decide +kernel
theorem dX6_belay_40 : decode cX6_belay 40 = .ok (.lload_n 2, 1) := by decide +kernel
theorem dX6_belay_41 : decode cX6_belay 41 = .ok (.iload_n 1, 1) := by decide +kernel
theorem dX6_belay_42 : decode cX6_belay 42 = .ok (.invokestatic 203, 3) := by decide +kernel
theorem dX6_belay_45 : decode cX6_belay 45 = .ok (.lstore 4, 2) := by decide +kernel
theorem dX6_belay_47 : decode cX6_belay 47 = .ok (.aload_n 0, 1) := by decide +kernel
theorem dX6_belay_48 : decode cX6_belay 48 = .ok (.lload 4, 2) := by decide +kernel
theorem dX6_belay_50 : decode cX6_belay 50 = .ok (.lload 4, 2) := by decide +kernel
theorem dX6_belay_52 : decode cX6_belay 52 = .ok (.invokestatic 206, 3) := by decide +kernel
theorem dX6_belay_55 : decode cX6_belay 55 = .ok (.invokestatic 170, 3) := by decide +kernel
theorem dX6_belay_58 : decode cX6_belay 58 = .ok (.invokevirtual 186, 3) := by decide +kernel
theorem dX6_belay_61 : decode cX6_belay 61 = .ok (.ireturn, 1) := by decide +kernel
theorem dX6_cut_0 : decode cX6_cut 0 = .ok (.aload_n 0, 1) := by decide +kernel
theorem dX6_cut_1 : decode cX6_cut 1 = .ok (.getfield 45, 3) := by decide +kernel
theorem dX6_cut_4 : decode cX6_cut 4 = .ok (.iload_n 1, 1) := by decide +kernel
theorem dX6_cut_5 : decode cX6_cut 5 = .ok (.invokevirtual 131, 3) := by decide +kernel
theorem dX6_cut_8 : decode cX6_cut 8 = .ok (.ifCond .ne 5, 3) := by decide +kernel
theorem dX6_cut_11 : decode cX6_cut 11 = .ok (.iconst (-1), 1) := by decide +kernel
theorem dX6_cut_12 : decode cX6_cut 12 = .ok (.ireturn, 1) := by decide +kernel
theorem dX6_cut_13 : decode cX6_cut 13 = .ok (.aload_n 0, 1) := by decide +kernel
theorem dX6_cut_14 : decode cX6_cut 14 = .ok (.getfield 31, 3) := by decide +kernel
theorem dX6_cut_17 : decode cX6_cut 17 = .ok (.invokevirtual 144, 3) := by decide +kernel
theorem dX6_cut_20 : decode cX6_cut 20 = .ok (.lstore_n 2, 1) := by decide +kernel
theorem dX6_cut_21 : decode cX6_cut 21 = .ok (.lload_n 2, 1) := by decide +kernel
theorem dX6_cut_22 : decode cX6_cut 22 = .ok (.iload_n 1, 1) := by decide +kernel
theorem dX6_cut_23 : decode cX6_cut 23 = .ok (.invokestatic 196, 3) := by decide +kernel
theorem dX6_cut_26 : decode cX6_cut 26 = .ok (.ifCond .eq 6, 3) := by decide +kernel
theorem dX6_cut_29 : decode cX6_cut 29 = .ok (.bipush (-4), 2) := by decide +kernel
theorem dX6_cut_31 : decode cX6_cut 31 = .ok (.ireturn, 1) := by decide +kernel
theorem dX6_cut_32 : decode cX6_cut 32 = .ok (.lload_n 2, 1) := by decide +kernel
theorem dX6_cut_33 : decode cX6_cut 33 = .ok (.iconst 1, 1) := by decide +kernel
theorem dX6_cut_34 : decode cX6_cut 34 = .ok (.iload_n 1, 1) := by decide +kernel
theorem dX6_cut_35 : decode cX6_cut 35 = .ok (.ishl, 1) := by decide +kernel
theorem dX6_cut_36 : decode cX6_cut 36 = .ok (.invokestatic 209, 3) := by decide +kernel
theorem dX6_cut_39 : decode cX6_cut 39 = .ok (.lstore 4, 2) := by decide +kernel
theorem dX6_cut_41 : decode cX6_cut 41 = .ok (.aload_n 0, 1) := by decide +kernel
theorem dX6_cut_42 : decode cX6_cut 42 = .ok (.lload 4, 2) := by decide +kernel
theorem dX6_cut_44 : decode cX6_cut 44 = .ok (.lload 4, 2) := by decide +kernel
theorem dX6_cut_46 : decode cX6_cut 46 = .ok (.invokestatic 212, 3) := by decide +kernel
theorem dX6_cut_49 : decode cX6_cut 49 = .ok (.invokestatic 170, 3) := by decide +kernel
theorem dX6_cut_52 : decode cX6_cut 52 = .ok (.invokevirtual 186, 3) := by decide +kernel
theorem dX6_cut_55 : decode cX6_cut 55 = .ok (.ireturn, 1) := by decide +kernel
theorem dX6_splice_0 : decode cX6_splice 0 = .ok (.aload_n 0, 1) := by decide +kernel
theorem dX6_splice_1 : decode cX6_splice 1 = .ok (.getfield 45, 3) := by decide +kernel
theorem dX6_splice_4 : decode cX6_splice 4 = .ok (.iload_n 1, 1) := by decide +kernel
theorem dX6_splice_5 : decode cX6_splice 5 = .ok (.invokevirtual 131, 3) := by decide +kernel
theorem dX6_splice_8 : decode cX6_splice 8 = .ok (.ifCond .ne 5, 3) := by decide +kernel
theorem dX6_splice_11 : decode cX6_splice 11 = .ok (.iconst (-1), 1) := by decide +kernel
theorem dX6_splice_12 : decode cX6_splice 12 = .ok (.ireturn, 1) := by decide +kernel
theorem dX6_splice_13 : decode cX6_splice 13 = .ok (.aload_n 0, 1) := by decide +kernel
theorem dX6_splice_14 : decode cX6_splice 14 = .ok (.getfield 31, 3) := by decide +kernel
theorem dX6_splice_17 : decode cX6_splice 17 = .ok (.invokevirtual 144, 3) := by decide +kernel
theorem dX6_splice_20 : decode cX6_splice 20 = .ok (.lstore_n 2, 1) := by decide +kernel
theorem dX6_splice_21 : decode cX6_splice 21 = .ok (.lload_n 2, 1) := by decide +kernel
theorem dX6_splice_22 : decode cX6_splice 22 = .ok (.iload_n 1, 1) := by decide +kernel
theorem dX6_splice_23 : decode cX6_splice 23 = .ok (.invokestatic 196, 3) := by decide +kernel
theorem dX6_splice_26 : decode cX6_splice 26 = .ok (.ifCond .ne 6, 3) := by decide +kernel
theorem dX6_splice_29 : decode cX6_splice 29 = .ok (.bipush (-4), 2) := by decide +kernel
theorem dX6_splice_31 : decode cX6_splice 31 = .ok (.ireturn, 1) := by decide +kernel
theorem dX6_splice_32 : decode cX6_splice 32 = .ok (.lload_n 2, 1) := by decide +kernel
theorem dX6_splice_33 : decode cX6_splice 33 = .ok (.iload_n 1, 1) := by decide +kernel
theorem dX6_splice_34 : decode cX6_splice 34 = .ok (.invokestatic 215, 3) := by decide +kernel
theorem dX6_splice_37 : decode cX6_splice 37 = .ok (.lstore 4, 2) := by decide +kernel
theorem dX6_splice_39 : decode cX6_splice 39 = .ok (.aload_n 0, 1) := by decide +kernel
theorem dX6_splice_40 : decode cX6_splice 40 = .ok (.lload 4, 2) := by decide +kernel
theorem dX6_splice_42 : decode cX6_splice 42 = .ok (.lload 4, 2) := by decide +kernel
theorem dX6_splice_44 : decode cX6_splice 44 = .ok (.invokestatic 212, 3) := by decide +kernel
theorem dX6_splice_47 : decode cX6_splice 47 = .ok (.invokestatic 170, 3) := by decide +kernel
theorem dX6_splice_50 : decode cX6_splice 50 = .ok (.invokevirtual 186, 3) := by decide +kernel
theorem dX6_splice_53 : decode cX6_splice 53 = .ok (.ireturn, 1) := by decide +kernel
theorem dX6_frost_0 : decode cX6_frost 0 = .ok (.iload_n 1, 1) := by decide +kernel
theorem dX6_frost_1 : decode cX6_frost 1 = .ok (.ifCond .eq 10, 3) := by decide +kernel
theorem dX6_frost_4 : decode cX6_frost 4 = .ok (.iload_n 1, 1) := by decide +kernel
theorem dX6_frost_5 : decode cX6_frost 5 = .ok (.iconst 1, 1) := by decide +kernel
theorem dX6_frost_6 : decode cX6_frost 6 = .ok (.if_icmp .eq 5, 3) := by decide +kernel
theorem dX6_frost_9 : decode cX6_frost 9 = .ok (.iconst (-1), 1) := by decide +kernel
theorem dX6_frost_10 : decode cX6_frost 10 = .ok (.ireturn, 1) := by decide +kernel
theorem dX6_frost_11 : decode cX6_frost 11 = .ok (.aload_n 0, 1) := by decide +kernel
theorem dX6_frost_12 : decode cX6_frost 12 = .ok (.getfield 31, 3) := by decide +kernel
theorem dX6_frost_15 : decode cX6_frost 15 = .ok (.invokevirtual 144, 3) := by decide +kernel
theorem dX6_frost_18 : decode cX6_frost 18 = .ok (.lstore_n 2, 1) := by decide +kernel
theorem dX6_frost_19 : decode cX6_frost 19 = .ok (.aload_n 0, 1) := by decide +kernel
theorem dX6_frost_20 : decode cX6_frost 20 = .ok (.getfield 45, 3) := by decide +kernel
theorem dX6_frost_23 : decode cX6_frost 23 = .ok (.invokevirtual 218, 3) := by decide +kernel
theorem dX6_frost_26 : decode cX6_frost 26 = .ok (.ifCond .ne 11, 3) := by decide +kernel
theorem dX6_frost_29 : decode cX6_frost 29 = .ok (.lload_n 2, 1) := by decide +kernel
theorem dX6_frost_30 : decode cX6_frost 30 = .ok (.invokestatic 222, 3) := by decide +kernel
theorem dX6_frost_33 : decode cX6_frost 33 = .ok (.iload_n 1, 1) := by decide +kernel
theorem dX6_frost_34 : decode cX6_frost 34 = .ok (.if_icmp .ne 6, 3) := by decide +kernel
theorem dX6_frost_37 : decode cX6_frost 37 = .ok (.bipush (-4), 2) := by decide +kernel
theorem dX6_frost_39 : decode cX6_frost 39 = .ok (.ireturn, 1) := by decide +kernel
theorem dX6_frost_40 : decode cX6_frost 40 = .ok (.aload_n 0, 1) := by decide +kernel
theorem dX6_frost_41 : decode cX6_frost 41 = .ok (.lload_n 2, 1) := by decide +kernel
theorem dX6_frost_42 : decode cX6_frost 42 = .ok (.iload_n 1, 1) := by decide +kernel
theorem dX6_frost_43 : decode cX6_frost 43 = .ok (.invokestatic 225, 3) := by decide +kernel
theorem dX6_frost_46 : decode cX6_frost 46 = .ok (.iload_n 1, 1) := by decide +kernel
theorem dX6_frost_47 : decode cX6_frost 47 = .ok (.invokevirtual 186, 3) := by decide +kernel
theorem dX6_frost_50 : decode cX6_frost 50 = .ok (.ireturn, 1) := by decide +kernel
theorem dX6_undo_0 : decode cX6_undo 0 = .ok (.aload_n 0, 1) := by decide +kernel
theorem dX6_undo_1 : decode cX6_undo 1 = .ok (.getfield 31, 3) := by decide +kernel
theorem dX6_undo_4 : decode cX6_undo 4 = .ok (.invokevirtual 228, 3) := by decide +kernel
theorem dX6_undo_7 : decode cX6_undo 7 = .ok (.istore_n 2, 1) := by decide +kernel
theorem dX6_undo_8 : decode cX6_undo 8 = .ok (.iload_n 1, 1) := by decide +kernel
theorem dX6_undo_9 : decode cX6_undo 9 = .ok (.ifCond .lt 8, 3) := by decide +kernel
theorem dX6_undo_12 : decode cX6_undo 12 = .ok (.iload_n 1, 1) := by decide +kernel
theorem dX6_undo_13 : decode cX6_undo 13 = .ok (.iload_n 2, 1) := by decide +kernel
theorem dX6_undo_14 : decode cX6_undo 14 = .ok (.if_icmp .le 5, 3) := by decide +kernel
theorem dX6_undo_17 : decode cX6_undo 17 = .ok (.iconst (-1), 1) := by decide +kernel
theorem dX6_undo_18 : decode cX6_undo 18 = .ok (.ireturn, 1) := by decide +kernel
theorem dX6_undo_19 : decode cX6_undo 19 = .ok (.aload_n 0, 1) := by decide +kernel
theorem dX6_undo_20 : decode cX6_undo 20 = .ok (.getfield 31, 3) := by decide +kernel
theorem dX6_undo_23 : decode cX6_undo 23 = .ok (.iload_n 1, 1) := by decide +kernel
theorem dX6_undo_24 : decode cX6_undo 24 = .ok (.invokevirtual 232, 3) := by decide +kernel
theorem dX6_undo_27 : decode cX6_undo 27 = .ok (.iload_n 2, 1) := by decide +kernel
theorem dX6_undo_28 : decode cX6_undo 28 = .ok (.iload_n 1, 1) := by decide +kernel
theorem dX6_undo_29 : decode cX6_undo 29 = .ok (.isub, 1) := by decide +kernel
theorem dX6_undo_30 : decode cX6_undo 30 = .ok (.ireturn, 1) := by decide +kernel
theorem dX6_keep_0 : decode cX6_keep 0 = .ok (.aload_n 0, 1) := by decide +kernel
theorem dX6_keep_1 : decode cX6_keep 1 = .ok (.getfield 31, 3) := by decide +kernel
theorem dX6_keep_4 : decode cX6_keep 4 = .ok (.iload_n 1, 1) := by decide +kernel
theorem dX6_keep_5 : decode cX6_keep 5 = .ok (.invokevirtual 235, 3) := by decide +kernel
theorem dX6_keep_8 : decode cX6_keep 8 = .ok (.ifCond .ne 5, 3) := by decide +kernel
theorem dX6_keep_11 : decode cX6_keep 11 = .ok (.iconst (-1), 1) := by decide +kernel
theorem dX6_keep_12 : decode cX6_keep 12 = .ok (.ireturn, 1) := by decide +kernel
theorem dX6_keep_13 : decode cX6_keep 13 = .ok (.aload_n 0, 1) := by decide +kernel
theorem dX6_keep_14 : decode cX6_keep 14 = .ok (.getfield 45, 3) := by decide +kernel
theorem dX6_keep_17 : decode cX6_keep 17 = .ok (.invokevirtual 218, 3) := by decide +kernel
theorem dX6_keep_20 : decode cX6_keep 20 = .ok (.ifCond .eq 6, 3) := by decide +kernel
theorem dX6_keep_23 : decode cX6_keep 23 = .ok (.bipush (-4), 2) := by decide +kernel
theorem dX6_keep_25 : decode cX6_keep 25 = .ok (.ireturn, 1) := by decide +kernel
theorem dX6_keep_26 : decode cX6_keep 26 = .ok (.aload_n 0, 1) := by decide +kernel
theorem dX6_keep_27 : decode cX6_keep 27 = .ok (.getfield 31, 3) := by decide +kernel
theorem dX6_keep_30 : decode cX6_keep 30 = .ok (.iload_n 1, 1) := by decide +kernel
theorem dX6_keep_31 : decode cX6_keep 31 = .ok (.invokevirtual 238, 3) := by decide +kernel
theorem dX6_keep_34 : decode cX6_keep 34 = .ok (.aload_n 0, 1) := by decide +kernel
theorem dX6_keep_35 : decode cX6_keep 35 = .ok (.getfield 31, 3) := by decide +kernel
theorem dX6_keep_38 : decode cX6_keep 38 = .ok (.invokevirtual 228, 3) := by decide +kernel
theorem dX6_keep_41 : decode cX6_keep 41 = .ok (.ireturn, 1) := by decide +kernel
theorem dX6_on_0 : decode cX6_on 0 = .ok (.aload_n 0, 1) := by decide +kernel
theorem dX6_on_1 : decode cX6_on 1 = .ok (.getfield 31, 3) := by decide +kernel
theorem dX6_on_4 : decode cX6_on 4 = .ok (.iload_n 1, 1) := by decide +kernel
theorem dX6_on_5 : decode cX6_on 5 = .ok (.invokevirtual 235, 3) := by decide +kernel
theorem dX6_on_8 : decode cX6_on 8 = .ok (.ifCond .ne 5, 3) := by decide +kernel
theorem dX6_on_11 : decode cX6_on 11 = .ok (.iconst (-1), 1) := by decide +kernel
theorem dX6_on_12 : decode cX6_on 12 = .ok (.ireturn, 1) := by decide +kernel
theorem dX6_on_13 : decode cX6_on 13 = .ok (.aload_n 0, 1) := by decide +kernel
theorem dX6_on_14 : decode cX6_on 14 = .ok (.getfield 31, 3) := by decide +kernel
theorem dX6_on_17 : decode cX6_on 17 = .ok (.iload_n 1, 1) := by decide +kernel
theorem dX6_on_18 : decode cX6_on 18 = .ok (.invokevirtual 241, 3) := by decide +kernel
theorem dX6_on_21 : decode cX6_on 21 = .ok (.iconst (-1), 1) := by decide +kernel
theorem dX6_on_22 : decode cX6_on 22 = .ok (.if_icmp .ne 9, 3) := by decide +kernel
theorem dX6_on_25 : decode cX6_on 25 = .ok (.aload_n 0, 1) := by decide +kernel
theorem dX6_on_26 : decode cX6_on 26 = .ok (.iconst 1, 1) := by decide +kernel
theorem dX6_on_27 : decode cX6_on 27 = .ok (.invokevirtual 96, 3) := by decide +kernel
theorem dX6_on_30 : decode cX6_on 30 = .ok (.ireturn, 1) := by decide +kernel
theorem dX6_on_31 : decode cX6_on 31 = .ok (.aload_n 0, 1) := by decide +kernel
theorem dX6_on_32 : decode cX6_on 32 = .ok (.getfield 31, 3) := by decide +kernel
theorem dX6_on_35 : decode cX6_on 35 = .ok (.iload_n 1, 1) := by decide +kernel
theorem dX6_on_36 : decode cX6_on 36 = .ok (.invokevirtual 244, 3) := by decide +kernel
theorem dX6_on_39 : decode cX6_on 39 = .ok (.aload_n 0, 1) := by decide +kernel
theorem dX6_on_40 : decode cX6_on 40 = .ok (.getfield 31, 3) := by decide +kernel
theorem dX6_on_43 : decode cX6_on 43 = .ok (.invokevirtual 228, 3) := by decide +kernel
theorem dX6_on_46 : decode cX6_on 46 = .ok (.ireturn, 1) := by decide +kernel
theorem dX6_passes_0 : decode cX6_passes 0 = .ok (.aload_n 0, 1) := by decide +kernel
theorem dX6_passes_1 : decode cX6_passes 1 = .ok (.getfield 45, 3) := by decide +kernel
theorem dX6_passes_4 : decode cX6_passes 4 = .ok (.iload_n 1, 1) := by decide +kernel
theorem dX6_passes_5 : decode cX6_passes 5 = .ok (.invokevirtual 131, 3) := by decide +kernel
theorem dX6_passes_8 : decode cX6_passes 8 = .ok (.ifCond .eq 13, 3) := by decide +kernel
theorem dX6_passes_11 : decode cX6_passes 11 = .ok (.iload_n 2, 1) := by decide +kernel
theorem dX6_passes_12 : decode cX6_passes 12 = .ok (.ifCond .lt 9, 3) := by decide +kernel
theorem dX6_passes_15 : decode cX6_passes 15 = .ok (.iload_n 2, 1) := by decide +kernel
theorem dX6_passes_16 : decode cX6_passes 16 = .ok (.bipush 99, 2) := by decide +kernel
theorem dX6_passes_18 : decode cX6_passes 18 = .ok (.if_icmp .le 5, 3) := by decide +kernel
theorem dX6_passes_21 : decode cX6_passes 21 = .ok (.iconst (-1), 1) := by decide +kernel
theorem dX6_passes_22 : decode cX6_passes 22 = .ok (.ireturn, 1) := by decide +kernel
theorem dX6_passes_23 : decode cX6_passes 23 = .ok (.aload_n 0, 1) := by decide +kernel
theorem dX6_passes_24 : decode cX6_passes 24 = .ok (.getfield 45, 3) := by decide +kernel
theorem dX6_passes_27 : decode cX6_passes 27 = .ok (.iload_n 1, 1) := by decide +kernel
theorem dX6_passes_28 : decode cX6_passes 28 = .ok (.invokevirtual 137, 3) := by decide +kernel
theorem dX6_passes_31 : decode cX6_passes 31 = .ok (.iload_n 2, 1) := by decide +kernel
theorem dX6_passes_32 : decode cX6_passes 32 = .ok (.invokestatic 163, 3) := by decide +kernel
theorem dX6_passes_35 : decode cX6_passes 35 = .ok (.ireturn, 1) := by decide +kernel
theorem dX6_moves_0 : decode cX6_moves 0 = .ok (.aload_n 0, 1) := by decide +kernel
theorem dX6_moves_1 : decode cX6_moves 1 = .ok (.iload_n 1, 1) := by decide +kernel
theorem dX6_moves_2 : decode cX6_moves 2 = .ok (.iload_n 2, 1) := by decide +kernel
theorem dX6_moves_3 : decode cX6_moves 3 = .ok (.invokevirtual 175, 3) := by decide +kernel
theorem dX6_moves_6 : decode cX6_moves 6 = .ok (.istore_n 3, 1) := by decide +kernel
theorem dX6_moves_7 : decode cX6_moves 7 = .ok (.iload_n 3, 1) := by decide +kernel
theorem dX6_moves_8 : decode cX6_moves 8 = .ok (.ifCond .eq 5, 3) := by decide +kernel
theorem dX6_moves_11 : decode cX6_moves 11 = .ok (.iload_n 3, 1) := by decide +kernel
theorem dX6_moves_12 : decode cX6_moves 12 = .ok (.ireturn, 1) := by decide +kernel
theorem dX6_moves_13 : decode cX6_moves 13 = .ok (.aload_n 0, 1) := by decide +kernel
theorem dX6_moves_14 : decode cX6_moves 14 = .ok (.getfield 31, 3) := by decide +kernel
theorem dX6_moves_17 : decode cX6_moves 17 = .ok (.invokevirtual 144, 3) := by decide +kernel
theorem dX6_moves_20 : decode cX6_moves 20 = .ok (.lstore 4, 2) := by decide +kernel
theorem dX6_moves_22 : decode cX6_moves 22 = .ok (.aload_n 0, 1) := by decide +kernel
theorem dX6_moves_23 : decode cX6_moves 23 = .ok (.lload 4, 2) := by decide +kernel
theorem dX6_moves_25 : decode cX6_moves 25 = .ok (.aload_n 0, 1) := by decide +kernel
theorem dX6_moves_26 : decode cX6_moves 26 = .ok (.getfield 45, 3) := by decide +kernel
theorem dX6_moves_29 : decode cX6_moves 29 = .ok (.lload 4, 2) := by decide +kernel
theorem dX6_moves_31 : decode cX6_moves 31 = .ok (.iload_n 1, 1) := by decide +kernel
theorem dX6_moves_32 : decode cX6_moves 32 = .ok (.iload_n 2, 1) := by decide +kernel
theorem dX6_moves_33 : decode cX6_moves 33 = .ok (.invokevirtual 178, 3) := by decide +kernel
theorem dX6_moves_36 : decode cX6_moves 36 = .ok (.invokestatic 182, 3) := by decide +kernel
theorem dX6_moves_39 : decode cX6_moves 39 = .ok (.invokevirtual 80, 3) := by decide +kernel
theorem dX6_moves_42 : decode cX6_moves 42 = .ok (.pop, 1) := by decide +kernel
theorem dX6_moves_43 : decode cX6_moves 43 = .ok (.aload_n 0, 1) := by decide +kernel
theorem dX6_moves_44 : decode cX6_moves 44 = .ok (.getfield 45, 3) := by decide +kernel
theorem dX6_moves_47 : decode cX6_moves 47 = .ok (.getfield 247, 3) := by decide +kernel
theorem dX6_moves_50 : decode cX6_moves 50 = .ok (.ireturn, 1) := by decide +kernel
theorem dX6_parts_0 : decode cX6_parts 0 = .ok (.aload_n 0, 1) := by decide +kernel
theorem dX6_parts_1 : decode cX6_parts 1 = .ok (.iload_n 1, 1) := by decide +kernel
theorem dX6_parts_2 : decode cX6_parts 2 = .ok (.invokevirtual 189, 3) := by decide +kernel
theorem dX6_parts_5 : decode cX6_parts 5 = .ok (.istore_n 2, 1) := by decide +kernel
theorem dX6_parts_6 : decode cX6_parts 6 = .ok (.iload_n 2, 1) := by decide +kernel
theorem dX6_parts_7 : decode cX6_parts 7 = .ok (.ifCond .eq 5, 3) := by decide +kernel
theorem dX6_parts_10 : decode cX6_parts 10 = .ok (.iload_n 2, 1) := by decide +kernel
theorem dX6_parts_11 : decode cX6_parts 11 = .ok (.ireturn, 1) := by decide +kernel
theorem dX6_parts_12 : decode cX6_parts 12 = .ok (.aload_n 0, 1) := by decide +kernel
theorem dX6_parts_13 : decode cX6_parts 13 = .ok (.getfield 31, 3) := by decide +kernel
theorem dX6_parts_16 : decode cX6_parts 16 = .ok (.invokevirtual 144, 3) := by decide +kernel
theorem dX6_parts_19 : decode cX6_parts 19 = .ok (.lstore_n 3, 1) := by decide +kernel
theorem dX6_parts_20 : decode cX6_parts 20 = .ok (.iconst 1, 1) := by decide +kernel
theorem dX6_parts_21 : decode cX6_parts 21 = .ok (.istore 5, 2) := by decide +kernel
theorem dX6_parts_23 : decode cX6_parts 23 = .ok (.iload 5, 2) := by decide +kernel
theorem dX6_parts_25 : decode cX6_parts 25 = .ok (.bipush 20, 2) := by decide +kernel
theorem dX6_parts_27 : decode cX6_parts 27 = .ok (.if_icmp .gt 43, 3) := by decide +kernel
theorem dX6_parts_30 : decode cX6_parts 30 = .ok (.lload_n 3, 1) := by decide +kernel
theorem dX6_parts_31 : decode cX6_parts 31 = .ok (.aload_n 0, 1) := by decide +kernel
theorem dX6_parts_32 : decode cX6_parts 32 = .ok (.getfield 45, 3) := by decide +kernel
theorem dX6_parts_35 : decode cX6_parts 35 = .ok (.lload_n 3, 1) := by decide +kernel
theorem dX6_parts_36 : decode cX6_parts 36 = .ok (.iload_n 1, 1) := by decide +kernel
theorem dX6_parts_37 : decode cX6_parts 37 = .ok (.iload 5, 2) := by decide +kernel
theorem dX6_parts_39 : decode cX6_parts 39 = .ok (.invokevirtual 178, 3) := by decide +kernel
theorem dX6_parts_42 : decode cX6_parts 42 = .ok (.invokestatic 182, 3) := by decide +kernel
theorem dX6_parts_45 : decode cX6_parts 45 = .ok (.istore 6, 2) := by decide +kernel
theorem dX6_parts_47 : decode cX6_parts 47 = .ok (.iload 6, 2) := by decide +kernel
theorem dX6_parts_49 : decode cX6_parts 49 = .ok (.bipush (-9), 2) := by decide +kernel
theorem dX6_parts_51 : decode cX6_parts 51 = .ok (.if_icmp .eq 13, 3) := by decide +kernel
theorem dX6_parts_54 : decode cX6_parts 54 = .ok (.aload_n 0, 1) := by decide +kernel
theorem dX6_parts_55 : decode cX6_parts 55 = .ok (.iload 6, 2) := by decide +kernel
theorem dX6_parts_57 : decode cX6_parts 57 = .ok (.invokevirtual 80, 3) := by decide +kernel
theorem dX6_parts_60 : decode cX6_parts 60 = .ok (.pop, 1) := by decide +kernel
theorem dX6_parts_61 : decode cX6_parts 61 = .ok (.iload 5, 2) := by decide +kernel
theorem dX6_parts_63 : decode cX6_parts 63 = .ok (.ireturn, 1) := by decide +kernel
theorem dX6_parts_64 : decode cX6_parts 64 = .ok (.iinc 5 1, 3) := by decide +kernel
theorem dX6_parts_67 : decode cX6_parts 67 = .ok (.goto (-44), 3) := by decide +kernel
theorem dX6_parts_70 : decode cX6_parts 70 = .ok (.bipush (-9), 2) := by decide +kernel
theorem dX6_parts_72 : decode cX6_parts 72 = .ok (.ireturn, 1) := by decide +kernel
theorem dX6_lawful_0 : decode cX6_lawful 0 = .ok (.aload_n 0, 1) := by decide +kernel
theorem dX6_lawful_1 : decode cX6_lawful 1 = .ok (.getfield 45, 3) := by decide +kernel
theorem dX6_lawful_4 : decode cX6_lawful 4 = .ok (.invokevirtual 218, 3) := by decide +kernel
theorem dX6_lawful_7 : decode cX6_lawful 7 = .ok (.ifCond .eq 8, 3) := by decide +kernel
theorem dX6_lawful_10 : decode cX6_lawful 10 = .ok (.bipush (-4), 2) := by decide +kernel
theorem dX6_lawful_12 : decode cX6_lawful 12 = .ok (.goto 17, 3) := by decide +kernel
theorem dX6_lawful_15 : decode cX6_lawful 15 = .ok (.aload_n 0, 1) := by decide +kernel
theorem dX6_lawful_16 : decode cX6_lawful 16 = .ok (.getfield 45, 3) := by decide +kernel
theorem dX6_lawful_19 : decode cX6_lawful 19 = .ok (.aload_n 0, 1) := by decide +kernel
theorem dX6_lawful_20 : decode cX6_lawful 20 = .ok (.getfield 31, 3) := by decide +kernel
theorem dX6_lawful_23 : decode cX6_lawful 23 = .ok (.invokevirtual 144, 3) := by decide +kernel
theorem dX6_lawful_26 : decode cX6_lawful 26 = .ok (.invokevirtual 250, 3) := by decide +kernel
theorem dX6_lawful_29 : decode cX6_lawful 29 = .ok (.ireturn, 1) := by decide +kernel
theorem dX6_least_0 : decode cX6_least 0 = .ok (.aload_n 0, 1) := by decide +kernel
theorem dX6_least_1 : decode cX6_least 1 = .ok (.getfield 45, 3) := by decide +kernel
theorem dX6_least_4 : decode cX6_least 4 = .ok (.iload_n 1, 1) := by decide +kernel
theorem dX6_least_5 : decode cX6_least 5 = .ok (.invokevirtual 253, 3) := by decide +kernel
theorem dX6_least_8 : decode cX6_least 8 = .ok (.ifCond .eq 14, 3) := by decide +kernel
theorem dX6_least_11 : decode cX6_least 11 = .ok (.aload_n 0, 1) := by decide +kernel
theorem dX6_least_12 : decode cX6_least 12 = .ok (.getfield 14, 3) := by decide +kernel
theorem dX6_least_15 : decode cX6_least 15 = .ok (.iload_n 2, 1) := by decide +kernel
theorem dX6_least_16 : decode cX6_least 16 = .ok (.invokevirtual 92, 3) := by decide +kernel
theorem dX6_least_19 : decode cX6_least 19 = .ok (.ifCond .ne 5, 3) := by decide +kernel
theorem dX6_least_22 : decode cX6_least 22 = .ok (.iconst (-1), 1) := by decide +kernel
theorem dX6_least_23 : decode cX6_least 23 = .ok (.ireturn, 1) := by decide +kernel
theorem dX6_least_24 : decode cX6_least 24 = .ok (.aload_n 0, 1) := by decide +kernel
theorem dX6_least_25 : decode cX6_least 25 = .ok (.getfield 45, 3) := by decide +kernel
theorem dX6_least_28 : decode cX6_least 28 = .ok (.iload_n 1, 1) := by decide +kernel
theorem dX6_least_29 : decode cX6_least 29 = .ok (.aload_n 0, 1) := by decide +kernel
theorem dX6_least_30 : decode cX6_least 30 = .ok (.getfield 31, 3) := by decide +kernel
theorem dX6_least_33 : decode cX6_least 33 = .ok (.invokevirtual 144, 3) := by decide +kernel
theorem dX6_least_36 : decode cX6_least 36 = .ok (.aload_n 0, 1) := by decide +kernel
theorem dX6_least_37 : decode cX6_least 37 = .ok (.getfield 35, 3) := by decide +kernel
theorem dX6_least_40 : decode cX6_least 40 = .ok (.invokestatic 256, 3) := by decide +kernel
theorem dX6_least_43 : decode cX6_least 43 = .ok (.istore_n 3, 1) := by decide +kernel
theorem dX6_least_44 : decode cX6_least 44 = .ok (.iload_n 3, 1) := by decide +kernel
theorem dX6_least_45 : decode cX6_least 45 = .ok (.bipush (-9), 2) := by decide +kernel
theorem dX6_least_47 : decode cX6_least 47 = .ok (.if_icmp .ne 6, 3) := by decide +kernel
theorem dX6_least_50 : decode cX6_least 50 = .ok (.bipush (-9), 2) := by decide +kernel
theorem dX6_least_52 : decode cX6_least 52 = .ok (.ireturn, 1) := by decide +kernel
theorem dX6_least_53 : decode cX6_least 53 = .ok (.aload_n 0, 1) := by decide +kernel
theorem dX6_least_54 : decode cX6_least 54 = .ok (.getfield 14, 3) := by decide +kernel
theorem dX6_least_57 : decode cX6_least 57 = .ok (.iload_n 2, 1) := by decide +kernel
theorem dX6_least_58 : decode cX6_least 58 = .ok (.iload_n 3, 1) := by decide +kernel
theorem dX6_least_59 : decode cX6_least 59 = .ok (.invokevirtual 262, 3) := by decide +kernel
theorem dX6_least_62 : decode cX6_least 62 = .ok (.iconst 0, 1) := by decide +kernel
theorem dX6_least_63 : decode cX6_least 63 = .ok (.istore 4, 2) := by decide +kernel
theorem dX6_least_65 : decode cX6_least 65 = .ok (.iload 4, 2) := by decide +kernel
theorem dX6_least_67 : decode cX6_least 67 = .ok (.iload_n 3, 1) := by decide +kernel
theorem dX6_least_68 : decode cX6_least 68 = .ok (.if_icmp .ge 36, 3) := by decide +kernel
theorem dX6_least_71 : decode cX6_least 71 = .ok (.iload 4, 2) := by decide +kernel
theorem dX6_least_73 : decode cX6_least 73 = .ok (.aload_n 0, 1) := by decide +kernel
theorem dX6_least_74 : decode cX6_least 74 = .ok (.getfield 35, 3) := by decide +kernel
theorem dX6_least_77 : decode cX6_least 77 = .ok (.arraylength, 1) := by decide +kernel
theorem dX6_least_78 : decode cX6_least 78 = .ok (.if_icmp .ge 26, 3) := by decide +kernel
theorem dX6_least_81 : decode cX6_least 81 = .ok (.aload_n 0, 1) := by decide +kernel
theorem dX6_least_82 : decode cX6_least 82 = .ok (.getfield 14, 3) := by decide +kernel
theorem dX6_least_85 : decode cX6_least 85 = .ok (.iload_n 2, 1) := by decide +kernel
theorem dX6_least_86 : decode cX6_least 86 = .ok (.iload 4, 2) := by decide +kernel
theorem dX6_least_88 : decode cX6_least 88 = .ok (.aload_n 0, 1) := by decide +kernel
theorem dX6_least_89 : decode cX6_least 89 = .ok (.getfield 35, 3) := by decide +kernel
theorem dX6_least_92 : decode cX6_least 92 = .ok (.iload 4, 2) := by decide +kernel
theorem dX6_least_94 : decode cX6_least 94 = .ok (.iaload, 1) := by decide +kernel
theorem dX6_least_95 : decode cX6_least 95 = .ok (.invokevirtual 77, 3) := by decide +kernel
theorem dX6_least_98 : decode cX6_least 98 = .ok (.iinc 4 1, 3) := by decide +kernel
theorem dX6_least_101 : decode cX6_least 101 = .ok (.goto (-36), 3) := by decide +kernel
theorem dX6_least_104 : decode cX6_least 104 = .ok (.iload_n 3, 1) := by decide +kernel
theorem dX6_least_105 : decode cX6_least 105 = .ok (.ireturn, 1) := by decide +kernel
theorem dX6_fall_0 : decode cX6_fall 0 = .ok (.aload_n 0, 1) := by decide +kernel
theorem dX6_fall_1 : decode cX6_fall 1 = .ok (.getfield 45, 3) := by decide +kernel
theorem dX6_fall_4 : decode cX6_fall 4 = .ok (.invokevirtual 218, 3) := by decide +kernel
theorem dX6_fall_7 : decode cX6_fall 7 = .ok (.ifCond .eq 6, 3) := by decide +kernel
theorem dX6_fall_10 : decode cX6_fall 10 = .ok (.bipush (-4), 2) := by decide +kernel
theorem dX6_fall_12 : decode cX6_fall 12 = .ok (.ireturn, 1) := by decide +kernel
theorem dX6_fall_13 : decode cX6_fall 13 = .ok (.bipush (-9), 2) := by decide +kernel
theorem dX6_fall_15 : decode cX6_fall 15 = .ok (.istore_n 1, 1) := by decide +kernel
theorem dX6_fall_16 : decode cX6_fall 16 = .ok (.iconst 0, 1) := by decide +kernel
theorem dX6_fall_17 : decode cX6_fall 17 = .ok (.istore_n 2, 1) := by decide +kernel
theorem dX6_fall_18 : decode cX6_fall 18 = .ok (.iload_n 2, 1) := by decide +kernel
theorem dX6_fall_19 : decode cX6_fall 19 = .ok (.bipush 64, 2) := by decide +kernel
theorem dX6_fall_21 : decode cX6_fall 21 = .ok (.if_icmp .ge 67, 3) := by decide +kernel
theorem dX6_fall_24 : decode cX6_fall 24 = .ok (.iload_n 1, 1) := by decide +kernel
theorem dX6_fall_25 : decode cX6_fall 25 = .ok (.bipush (-9), 2) := by decide +kernel
theorem dX6_fall_27 : decode cX6_fall 27 = .ok (.if_icmp .eq 14, 3) := by decide +kernel
theorem dX6_fall_30 : decode cX6_fall 30 = .ok (.iload_n 2, 1) := by decide +kernel
theorem dX6_fall_31 : decode cX6_fall 31 = .ok (.invokestatic 170, 3) := by decide +kernel
theorem dX6_fall_34 : decode cX6_fall 34 = .ok (.iload_n 1, 1) := by decide +kernel
theorem dX6_fall_35 : decode cX6_fall 35 = .ok (.invokestatic 170, 3) := by decide +kernel
theorem dX6_fall_38 : decode cX6_fall 38 = .ok (.if_icmp .ge 7, 3) := by decide +kernel
theorem dX6_fall_41 : decode cX6_fall 41 = .ok (.iconst 1, 1) := by decide +kernel
theorem dX6_fall_42 : decode cX6_fall 42 = .ok (.goto 4, 3) := by decide +kernel
theorem dX6_fall_45 : decode cX6_fall 45 = .ok (.iconst 0, 1) := by decide +kernel
theorem dX6_fall_46 : decode cX6_fall 46 = .ok (.istore_n 3, 1) := by decide +kernel
theorem dX6_fall_47 : decode cX6_fall 47 = .ok (.iload_n 3, 1) := by decide +kernel
theorem dX6_fall_48 : decode cX6_fall 48 = .ok (.ifCond .eq 34, 3) := by decide +kernel
theorem dX6_fall_51 : decode cX6_fall 51 = .ok (.aload_n 0, 1) := by decide +kernel
theorem dX6_fall_52 : decode cX6_fall 52 = .ok (.iload_n 2, 1) := by decide +kernel
theorem dX6_fall_53 : decode cX6_fall 53 = .ok (.invokevirtual 266, 3) := by decide +kernel
theorem dX6_fall_56 : decode cX6_fall 56 = .ok (.ifCond .eq 26, 3) := by decide +kernel
theorem dX6_fall_59 : decode cX6_fall 59 = .ok (.aload_n 0, 1) := by decide +kernel
theorem dX6_fall_60 : decode cX6_fall 60 = .ok (.getfield 45, 3) := by decide +kernel
theorem dX6_fall_63 : decode cX6_fall 63 = .ok (.aload_n 0, 1) := by decide +kernel
theorem dX6_fall_64 : decode cX6_fall 64 = .ok (.getfield 31, 3) := by decide +kernel
theorem dX6_fall_67 : decode cX6_fall 67 = .ok (.invokevirtual 144, 3) := by decide +kernel
theorem dX6_fall_70 : decode cX6_fall 70 = .ok (.iload_n 2, 1) := by decide +kernel
theorem dX6_fall_71 : decode cX6_fall 71 = .ok (.invokestatic 209, 3) := by decide +kernel
theorem dX6_fall_74 : decode cX6_fall 74 = .ok (.invokevirtual 250, 3) := by decide +kernel
theorem dX6_fall_77 : decode cX6_fall 77 = .ok (.ifCond .ne 5, 3) := by decide +kernel
theorem dX6_fall_80 : decode cX6_fall 80 = .ok (.iload_n 2, 1) := by decide +kernel
theorem dX6_fall_81 : decode cX6_fall 81 = .ok (.istore_n 1, 1) := by decide +kernel
theorem dX6_fall_82 : decode cX6_fall 82 = .ok (.iinc 2 1, 3) := by decide +kernel
theorem dX6_fall_85 : decode cX6_fall 85 = .ok (.goto (-67), 3) := by decide +kernel
theorem dX6_fall_88 : decode cX6_fall 88 = .ok (.iload_n 1, 1) := by decide +kernel
theorem dX6_fall_89 : decode cX6_fall 89 = .ok (.bipush (-9), 2) := by decide +kernel
theorem dX6_fall_91 : decode cX6_fall 91 = .ok (.if_icmp .ne 6, 3) := by decide +kernel
theorem dX6_fall_94 : decode cX6_fall 94 = .ok (.bipush (-9), 2) := by decide +kernel
theorem dX6_fall_96 : decode cX6_fall 96 = .ok (.ireturn, 1) := by decide +kernel
theorem dX6_fall_97 : decode cX6_fall 97 = .ok (.aload_n 0, 1) := by decide +kernel
theorem dX6_fall_98 : decode cX6_fall 98 = .ok (.iload_n 1, 1) := by decide +kernel
theorem dX6_fall_99 : decode cX6_fall 99 = .ok (.invokevirtual 80, 3) := by decide +kernel
theorem dX6_fall_102 : decode cX6_fall 102 = .ok (.pop, 1) := by decide +kernel
theorem dX6_fall_103 : decode cX6_fall 103 = .ok (.iload_n 1, 1) := by decide +kernel
theorem dX6_fall_104 : decode cX6_fall 104 = .ok (.invokestatic 170, 3) := by decide +kernel
theorem dX6_fall_107 : decode cX6_fall 107 = .ok (.ireturn, 1) := by decide +kernel
theorem dX6_idle_0 : decode cX6_idle 0 = .ok (.aload_n 0, 1) := by decide +kernel
theorem dX6_idle_1 : decode cX6_idle 1 = .ok (.getfield 45, 3) := by decide +kernel
theorem dX6_idle_4 : decode cX6_idle 4 = .ok (.invokevirtual 218, 3) := by decide +kernel
theorem dX6_idle_7 : decode cX6_idle 7 = .ok (.ifCond .eq 6, 3) := by decide +kernel
theorem dX6_idle_10 : decode cX6_idle 10 = .ok (.bipush (-4), 2) := by decide +kernel
theorem dX6_idle_12 : decode cX6_idle 12 = .ok (.ireturn, 1) := by decide +kernel
theorem dX6_idle_13 : decode cX6_idle 13 = .ok (.aload_n 0, 1) := by decide +kernel
theorem dX6_idle_14 : decode cX6_idle 14 = .ok (.getfield 31, 3) := by decide +kernel
theorem dX6_idle_17 : decode cX6_idle 17 = .ok (.invokevirtual 144, 3) := by decide +kernel
theorem dX6_idle_20 : decode cX6_idle 20 = .ok (.lstore_n 1, 1) := by decide +kernel
theorem dX6_idle_21 : decode cX6_idle 21 = .ok (.iconst 0, 1) := by decide +kernel
theorem dX6_idle_22 : decode cX6_idle 22 = .ok (.istore_n 3, 1) := by decide +kernel
theorem dX6_idle_23 : decode cX6_idle 23 = .ok (.iconst 0, 1) := by decide +kernel
theorem dX6_idle_24 : decode cX6_idle 24 = .ok (.istore 4, 2) := by decide +kernel
theorem dX6_idle_26 : decode cX6_idle 26 = .ok (.iload 4, 2) := by decide +kernel
theorem dX6_idle_28 : decode cX6_idle 28 = .ok (.aload_n 0, 1) := by decide +kernel
theorem dX6_idle_29 : decode cX6_idle 29 = .ok (.getfield 45, 3) := by decide +kernel
theorem dX6_idle_32 : decode cX6_idle 32 = .ok (.getfield 128, 3) := by decide +kernel
theorem dX6_idle_35 : decode cX6_idle 35 = .ok (.if_icmp .ge 53, 3) := by decide +kernel
theorem dX6_idle_38 : decode cX6_idle 38 = .ok (.iconst 1, 1) := by decide +kernel
theorem dX6_idle_39 : decode cX6_idle 39 = .ok (.iload 4, 2) := by decide +kernel
theorem dX6_idle_41 : decode cX6_idle 41 = .ok (.ishl, 1) := by decide +kernel
theorem dX6_idle_42 : decode cX6_idle 42 = .ok (.istore 5, 2) := by decide +kernel
theorem dX6_idle_44 : decode cX6_idle 44 = .ok (.aload_n 0, 1) := by decide +kernel
theorem dX6_idle_45 : decode cX6_idle 45 = .ok (.iload 5, 2) := by decide +kernel
theorem dX6_idle_47 : decode cX6_idle 47 = .ok (.invokevirtual 266, 3) := by decide +kernel
theorem dX6_idle_50 : decode cX6_idle 50 = .ok (.ifCond .eq 32, 3) := by decide +kernel
theorem dX6_idle_53 : decode cX6_idle 53 = .ok (.aload_n 0, 1) := by decide +kernel
theorem dX6_idle_54 : decode cX6_idle 54 = .ok (.getfield 45, 3) := by decide +kernel
theorem dX6_idle_57 : decode cX6_idle 57 = .ok (.lload_n 1, 1) := by decide +kernel
theorem dX6_idle_58 : decode cX6_idle 58 = .ok (.iload 5, 2) := by decide +kernel
theorem dX6_idle_60 : decode cX6_idle 60 = .ok (.invokestatic 209, 3) := by decide +kernel
theorem dX6_idle_63 : decode cX6_idle 63 = .ok (.invokevirtual 250, 3) := by decide +kernel
theorem dX6_idle_66 : decode cX6_idle 66 = .ok (.aload_n 0, 1) := by decide +kernel
theorem dX6_idle_67 : decode cX6_idle 67 = .ok (.getfield 45, 3) := by decide +kernel
theorem dX6_idle_70 : decode cX6_idle 70 = .ok (.lload_n 1, 1) := by decide +kernel
theorem dX6_idle_71 : decode cX6_idle 71 = .ok (.invokevirtual 250, 3) := by decide +kernel
theorem dX6_idle_74 : decode cX6_idle 74 = .ok (.if_icmp .ne 8, 3) := by decide +kernel
theorem dX6_idle_77 : decode cX6_idle 77 = .ok (.iload_n 3, 1) := by decide +kernel
theorem dX6_idle_78 : decode cX6_idle 78 = .ok (.iload 5, 2) := by decide +kernel
theorem dX6_idle_80 : decode cX6_idle 80 = .ok (.ior, 1) := by decide +kernel
theorem dX6_idle_81 : decode cX6_idle 81 = .ok (.istore_n 3, 1) := by decide +kernel
theorem dX6_idle_82 : decode cX6_idle 82 = .ok (.iinc 4 1, 3) := by decide +kernel
theorem dX6_idle_85 : decode cX6_idle 85 = .ok (.goto (-59), 3) := by decide +kernel
theorem dX6_idle_88 : decode cX6_idle 88 = .ok (.iload_n 3, 1) := by decide +kernel
theorem dX6_idle_89 : decode cX6_idle 89 = .ok (.ireturn, 1) := by decide +kernel
theorem dX6_share_0 : decode cX6_share 0 = .ok (.iload_n 1, 1) := by decide +kernel
theorem dX6_share_1 : decode cX6_share 1 = .ok (.ifCond .lt 20, 3) := by decide +kernel
theorem dX6_share_4 : decode cX6_share 4 = .ok (.iload_n 1, 1) := by decide +kernel
theorem dX6_share_5 : decode cX6_share 5 = .ok (.bipush 60, 2) := by decide +kernel
theorem dX6_share_7 : decode cX6_share 7 = .ok (.if_icmp .gt 14, 3) := by decide +kernel
theorem dX6_share_10 : decode cX6_share 10 = .ok (.aload_n 0, 1) := by decide +kernel
theorem dX6_share_11 : decode cX6_share 11 = .ok (.getfield 14, 3) := by decide +kernel
theorem dX6_share_14 : decode cX6_share 14 = .ok (.iload_n 2, 1) := by decide +kernel
theorem dX6_share_15 : decode cX6_share 15 = .ok (.invokevirtual 92, 3) := by decide +kernel
theorem dX6_share_18 : decode cX6_share 18 = .ok (.ifCond .ne 5, 3) := by decide +kernel
theorem dX6_share_21 : decode cX6_share 21 = .ok (.iconst (-1), 1) := by decide +kernel
theorem dX6_share_22 : decode cX6_share 22 = .ok (.ireturn, 1) := by decide +kernel
theorem dX6_share_23 : decode cX6_share 23 = .ok (.aload_n 0, 1) := by decide +kernel
theorem dX6_share_24 : decode cX6_share 24 = .ok (.getfield 45, 3) := by decide +kernel
theorem dX6_share_27 : decode cX6_share 27 = .ok (.invokevirtual 218, 3) := by decide +kernel
theorem dX6_share_30 : decode cX6_share 30 = .ok (.ifCond .eq 6, 3) := by decide +kernel
theorem dX6_share_33 : decode cX6_share 33 = .ok (.bipush (-4), 2) := by decide +kernel
theorem dX6_share_35 : decode cX6_share 35 = .ok (.ireturn, 1) := by decide +kernel
theorem dX6_share_36 : decode cX6_share 36 = .ok (.aload_n 0, 1) := by decide +kernel
theorem dX6_share_37 : decode cX6_share 37 = .ok (.getfield 14, 3) := by decide +kernel
theorem dX6_share_40 : decode cX6_share 40 = .ok (.iload_n 2, 1) := by decide +kernel
theorem dX6_share_41 : decode cX6_share 41 = .ok (.aload_n 0, 1) := by decide +kernel
theorem dX6_share_42 : decode cX6_share 42 = .ok (.getfield 45, 3) := by decide +kernel
theorem dX6_share_45 : decode cX6_share 45 = .ok (.getfield 128, 3) := by decide +kernel
theorem dX6_share_48 : decode cX6_share 48 = .ok (.invokevirtual 262, 3) := by decide +kernel
theorem dX6_share_51 : decode cX6_share 51 = .ok (.iconst 0, 1) := by decide +kernel
theorem dX6_share_52 : decode cX6_share 52 = .ok (.istore_n 3, 1) := by decide +kernel
theorem dX6_share_53 : decode cX6_share 53 = .ok (.iload_n 3, 1) := by decide +kernel
theorem dX6_share_54 : decode cX6_share 54 = .ok (.iload_n 1, 1) := by decide +kernel
theorem dX6_share_55 : decode cX6_share 55 = .ok (.if_icmp .ge 49, 3) := by decide +kernel
theorem dX6_share_58 : decode cX6_share 58 = .ok (.aload_n 0, 1) := by decide +kernel
theorem dX6_share_59 : decode cX6_share 59 = .ok (.iload_n 2, 1) := by decide +kernel
theorem dX6_share_60 : decode cX6_share 60 = .ok (.invokevirtual 269, 3) := by decide +kernel
theorem dX6_share_63 : decode cX6_share 63 = .ok (.istore 4, 2) := by decide +kernel
theorem dX6_share_65 : decode cX6_share 65 = .ok (.iload 4, 2) := by decide +kernel
theorem dX6_share_67 : decode cX6_share 67 = .ok (.bipush (-9), 2) := by decide +kernel
theorem dX6_share_69 : decode cX6_share 69 = .ok (.if_icmp .ne 7, 3) := by decide +kernel
theorem dX6_share_72 : decode cX6_share 72 = .ok (.iload_n 1, 1) := by decide +kernel
theorem dX6_share_73 : decode cX6_share 73 = .ok (.iload_n 3, 1) := by decide +kernel
theorem dX6_share_74 : decode cX6_share 74 = .ok (.isub, 1) := by decide +kernel
theorem dX6_share_75 : decode cX6_share 75 = .ok (.ireturn, 1) := by decide +kernel
theorem dX6_share_76 : decode cX6_share 76 = .ok (.aload_n 0, 1) := by decide +kernel
theorem dX6_share_77 : decode cX6_share 77 = .ok (.getfield 14, 3) := by decide +kernel
theorem dX6_share_80 : decode cX6_share 80 = .ok (.iload_n 2, 1) := by decide +kernel
theorem dX6_share_81 : decode cX6_share 81 = .ok (.iload 4, 2) := by decide +kernel
theorem dX6_share_83 : decode cX6_share 83 = .ok (.aload_n 0, 1) := by decide +kernel
theorem dX6_share_84 : decode cX6_share 84 = .ok (.getfield 14, 3) := by decide +kernel
theorem dX6_share_87 : decode cX6_share 87 = .ok (.iload_n 2, 1) := by decide +kernel
theorem dX6_share_88 : decode cX6_share 88 = .ok (.iload 4, 2) := by decide +kernel
theorem dX6_share_90 : decode cX6_share 90 = .ok (.invokevirtual 73, 3) := by decide +kernel
theorem dX6_share_93 : decode cX6_share 93 = .ok (.iconst 1, 1) := by decide +kernel
theorem dX6_share_94 : decode cX6_share 94 = .ok (.iadd, 1) := by decide +kernel
theorem dX6_share_95 : decode cX6_share 95 = .ok (.invokevirtual 77, 3) := by decide +kernel
theorem dX6_share_98 : decode cX6_share 98 = .ok (.iinc 3 1, 3) := by decide +kernel
theorem dX6_share_101 : decode cX6_share 101 = .ok (.goto (-48), 3) := by decide +kernel
theorem dX6_share_104 : decode cX6_share 104 = .ok (.iconst 0, 1) := by decide +kernel
theorem dX6_share_105 : decode cX6_share 105 = .ok (.ireturn, 1) := by decide +kernel
theorem dX6_who_0 : decode cX6_who 0 = .ok (.aload_n 0, 1) := by decide +kernel
theorem dX6_who_1 : decode cX6_who 1 = .ok (.iload_n 1, 1) := by decide +kernel
theorem dX6_who_2 : decode cX6_who 2 = .ok (.invokevirtual 272, 3) := by decide +kernel
theorem dX6_who_5 : decode cX6_who 5 = .ok (.istore_n 2, 1) := by decide +kernel
theorem dX6_who_6 : decode cX6_who 6 = .ok (.iload_n 2, 1) := by decide +kernel
theorem dX6_who_7 : decode cX6_who 7 = .ok (.ifCond .eq 5, 3) := by decide +kernel
theorem dX6_who_10 : decode cX6_who 10 = .ok (.iload_n 2, 1) := by decide +kernel
theorem dX6_who_11 : decode cX6_who 11 = .ok (.ireturn, 1) := by decide +kernel
theorem dX6_who_12 : decode cX6_who 12 = .ok (.aload_n 0, 1) := by decide +kernel
theorem dX6_who_13 : decode cX6_who 13 = .ok (.iload_n 1, 1) := by decide +kernel
theorem dX6_who_14 : decode cX6_who 14 = .ok (.invokevirtual 275, 3) := by decide +kernel
theorem dX6_who_17 : decode cX6_who 17 = .ok (.istore_n 3, 1) := by decide +kernel
theorem dX6_who_18 : decode cX6_who 18 = .ok (.iconst 0, 1) := by decide +kernel
theorem dX6_who_19 : decode cX6_who 19 = .ok (.istore 4, 2) := by decide +kernel
theorem dX6_who_21 : decode cX6_who 21 = .ok (.iconst 0, 1) := by decide +kernel
theorem dX6_who_22 : decode cX6_who 22 = .ok (.istore 5, 2) := by decide +kernel
theorem dX6_who_24 : decode cX6_who 24 = .ok (.iload 5, 2) := by decide +kernel
theorem dX6_who_26 : decode cX6_who 26 = .ok (.aload_n 0, 1) := by decide +kernel
theorem dX6_who_27 : decode cX6_who 27 = .ok (.getfield 45, 3) := by decide +kernel
theorem dX6_who_30 : decode cX6_who 30 = .ok (.getfield 128, 3) := by decide +kernel
theorem dX6_who_33 : decode cX6_who 33 = .ok (.if_icmp .ge 34, 3) := by decide +kernel
theorem dX6_who_36 : decode cX6_who 36 = .ok (.iload_n 3, 1) := by decide +kernel
theorem dX6_who_37 : decode cX6_who 37 = .ok (.aload_n 0, 1) := by decide +kernel
theorem dX6_who_38 : decode cX6_who 38 = .ok (.getfield 45, 3) := by decide +kernel
theorem dX6_who_41 : decode cX6_who 41 = .ok (.iload 5, 2) := by decide +kernel
theorem dX6_who_43 : decode cX6_who 43 = .ok (.invokevirtual 137, 3) := by decide +kernel
theorem dX6_who_46 : decode cX6_who 46 = .ok (.ishr, 1) := by decide +kernel
theorem dX6_who_47 : decode cX6_who 47 = .ok (.iconst 1, 1) := by decide +kernel
theorem dX6_who_48 : decode cX6_who 48 = .ok (.iand, 1) := by decide +kernel
theorem dX6_who_49 : decode cX6_who 49 = .ok (.ifCond .eq 12, 3) := by decide +kernel
theorem dX6_who_52 : decode cX6_who 52 = .ok (.iload 4, 2) := by decide +kernel
theorem dX6_who_54 : decode cX6_who 54 = .ok (.iconst 1, 1) := by decide +kernel
theorem dX6_who_55 : decode cX6_who 55 = .ok (.iload 5, 2) := by decide +kernel
theorem dX6_who_57 : decode cX6_who 57 = .ok (.ishl, 1) := by decide +kernel
theorem dX6_who_58 : decode cX6_who 58 = .ok (.ior, 1) := by decide +kernel
theorem dX6_who_59 : decode cX6_who 59 = .ok (.istore 4, 2) := by decide +kernel
theorem dX6_who_61 : decode cX6_who 61 = .ok (.iinc 5 1, 3) := by decide +kernel
theorem dX6_who_64 : decode cX6_who 64 = .ok (.goto (-40), 3) := by decide +kernel
theorem dX6_who_67 : decode cX6_who 67 = .ok (.iload 4, 2) := by decide +kernel
theorem dX6_who_69 : decode cX6_who 69 = .ok (.ireturn, 1) := by decide +kernel
theorem dX6_kinds_0 : decode cX6_kinds 0 = .ok (.aload_n 0, 1) := by decide +kernel
theorem dX6_kinds_1 : decode cX6_kinds 1 = .ok (.iload_n 1, 1) := by decide +kernel
theorem dX6_kinds_2 : decode cX6_kinds 2 = .ok (.invokevirtual 272, 3) := by decide +kernel
theorem dX6_kinds_5 : decode cX6_kinds 5 = .ok (.istore_n 2, 1) := by decide +kernel
theorem dX6_kinds_6 : decode cX6_kinds 6 = .ok (.iload_n 2, 1) := by decide +kernel
theorem dX6_kinds_7 : decode cX6_kinds 7 = .ok (.ifCond .eq 7, 3) := by decide +kernel
theorem dX6_kinds_10 : decode cX6_kinds 10 = .ok (.iload_n 2, 1) := by decide +kernel
theorem dX6_kinds_11 : decode cX6_kinds 11 = .ok (.goto 8, 3) := by decide +kernel
theorem dX6_kinds_14 : decode cX6_kinds 14 = .ok (.aload_n 0, 1) := by decide +kernel
theorem dX6_kinds_15 : decode cX6_kinds 15 = .ok (.iload_n 1, 1) := by decide +kernel
theorem dX6_kinds_16 : decode cX6_kinds 16 = .ok (.invokevirtual 275, 3) := by decide +kernel
theorem dX6_kinds_19 : decode cX6_kinds 19 = .ok (.ireturn, 1) := by decide +kernel
theorem dX6_test_0 : decode cX6_test 0 = .ok (.aload_n 0, 1) := by decide +kernel
theorem dX6_test_1 : decode cX6_test 1 = .ok (.iload_n 1, 1) := by decide +kernel
theorem dX6_test_2 : decode cX6_test 2 = .ok (.invokevirtual 272, 3) := by decide +kernel
theorem dX6_test_5 : decode cX6_test 5 = .ok (.istore_n 2, 1) := by decide +kernel
theorem dX6_test_6 : decode cX6_test 6 = .ok (.iload_n 2, 1) := by decide +kernel
theorem dX6_test_7 : decode cX6_test 7 = .ok (.ifCond .eq 5, 3) := by decide +kernel
theorem dX6_test_10 : decode cX6_test 10 = .ok (.iload_n 2, 1) := by decide +kernel
theorem dX6_test_11 : decode cX6_test 11 = .ok (.ireturn, 1) := by decide +kernel
theorem dX6_test_12 : decode cX6_test 12 = .ok (.aload_n 0, 1) := by decide +kernel
theorem dX6_test_13 : decode cX6_test 13 = .ok (.iload_n 1, 1) := by decide +kernel
theorem dX6_test_14 : decode cX6_test 14 = .ok (.invokevirtual 275, 3) := by decide +kernel
theorem dX6_test_17 : decode cX6_test 17 = .ok (.istore_n 3, 1) := by decide +kernel
theorem dX6_test_18 : decode cX6_test 18 = .ok (.iload_n 3, 1) := by decide +kernel
theorem dX6_test_19 : decode cX6_test 19 = .ok (.ifCond .ne 6, 3) := by decide +kernel
theorem dX6_test_22 : decode cX6_test 22 = .ok (.bipush (-9), 2) := by decide +kernel
theorem dX6_test_24 : decode cX6_test 24 = .ok (.ireturn, 1) := by decide +kernel
theorem dX6_test_25 : decode cX6_test 25 = .ok (.iconst 0, 1) := by decide +kernel
theorem dX6_test_26 : decode cX6_test 26 = .ok (.istore 4, 2) := by decide +kernel
theorem dX6_test_28 : decode cX6_test 28 = .ok (.iconst 1, 1) := by decide +kernel
theorem dX6_test_29 : decode cX6_test 29 = .ok (.istore 5, 2) := by decide +kernel
theorem dX6_test_31 : decode cX6_test 31 = .ok (.iload 5, 2) := by decide +kernel
theorem dX6_test_33 : decode cX6_test 33 = .ok (.bipush 20, 2) := by decide +kernel
theorem dX6_test_35 : decode cX6_test 35 = .ok (.if_icmp .gt 28, 3) := by decide +kernel
theorem dX6_test_38 : decode cX6_test 38 = .ok (.iload_n 3, 1) := by decide +kernel
theorem dX6_test_39 : decode cX6_test 39 = .ok (.iload 5, 2) := by decide +kernel
theorem dX6_test_41 : decode cX6_test 41 = .ok (.invokestatic 278, 3) := by decide +kernel
theorem dX6_test_44 : decode cX6_test 44 = .ok (.iload_n 3, 1) := by decide +kernel
theorem dX6_test_45 : decode cX6_test 45 = .ok (.iload 4, 2) := by decide +kernel
theorem dX6_test_47 : decode cX6_test 47 = .ok (.invokestatic 278, 3) := by decide +kernel
theorem dX6_test_50 : decode cX6_test 50 = .ok (.if_icmp .ge 7, 3) := by decide +kernel
theorem dX6_test_53 : decode cX6_test 53 = .ok (.iload 5, 2) := by decide +kernel
theorem dX6_test_55 : decode cX6_test 55 = .ok (.istore 4, 2) := by decide +kernel
theorem dX6_test_57 : decode cX6_test 57 = .ok (.iinc 5 1, 3) := by decide +kernel
theorem dX6_test_60 : decode cX6_test 60 = .ok (.goto (-29), 3) := by decide +kernel
theorem dX6_test_63 : decode cX6_test 63 = .ok (.aload_n 0, 1) := by decide +kernel
theorem dX6_test_64 : decode cX6_test 64 = .ok (.iload_n 3, 1) := by decide +kernel
theorem dX6_test_65 : decode cX6_test 65 = .ok (.iload 4, 2) := by decide +kernel
theorem dX6_test_67 : decode cX6_test 67 = .ok (.invokestatic 278, 3) := by decide +kernel
theorem dX6_test_70 : decode cX6_test 70 = .ok (.invokevirtual 80, 3) := by decide +kernel
theorem dX6_test_73 : decode cX6_test 73 = .ok (.pop, 1) := by decide +kernel
theorem dX6_test_74 : decode cX6_test 74 = .ok (.iload 4, 2) := by decide +kernel
theorem dX6_test_76 : decode cX6_test 76 = .ok (.ireturn, 1) := by decide +kernel
theorem dX6_duel_0 : decode cX6_duel 0 = .ok (.iload_n 1, 1) := by decide +kernel
theorem dX6_duel_1 : decode cX6_duel 1 = .ok (.ifCond .lt 8, 3) := by decide +kernel
theorem dX6_duel_4 : decode cX6_duel 4 = .ok (.iload_n 1, 1) := by decide +kernel
theorem dX6_duel_5 : decode cX6_duel 5 = .ok (.iconst 3, 1) := by decide +kernel
theorem dX6_duel_6 : decode cX6_duel 6 = .ok (.if_icmp .le 5, 3) := by decide +kernel
theorem dX6_duel_9 : decode cX6_duel 9 = .ok (.iconst (-1), 1) := by decide +kernel
theorem dX6_duel_10 : decode cX6_duel 10 = .ok (.ireturn, 1) := by decide +kernel
theorem dX6_duel_11 : decode cX6_duel 11 = .ok (.aload_n 0, 1) := by decide +kernel
theorem dX6_duel_12 : decode cX6_duel 12 = .ok (.getfield 45, 3) := by decide +kernel
theorem dX6_duel_15 : decode cX6_duel 15 = .ok (.invokevirtual 218, 3) := by decide +kernel
theorem dX6_duel_18 : decode cX6_duel 18 = .ok (.ifCond .eq 6, 3) := by decide +kernel
theorem dX6_duel_21 : decode cX6_duel 21 = .ok (.bipush (-4), 2) := by decide +kernel
theorem dX6_duel_23 : decode cX6_duel 23 = .ok (.ireturn, 1) := by decide +kernel
theorem dX6_duel_24 : decode cX6_duel 24 = .ok (.aload_n 0, 1) := by decide +kernel
theorem dX6_duel_25 : decode cX6_duel 25 = .ok (.aload_n 0, 1) := by decide +kernel
theorem dX6_duel_26 : decode cX6_duel 26 = .ok (.getfield 45, 3) := by decide +kernel
theorem dX6_duel_29 : decode cX6_duel 29 = .ok (.aload_n 0, 1) := by decide +kernel
theorem dX6_duel_30 : decode cX6_duel 30 = .ok (.getfield 31, 3) := by decide +kernel
theorem dX6_duel_33 : decode cX6_duel 33 = .ok (.invokevirtual 144, 3) := by decide +kernel
theorem dX6_duel_36 : decode cX6_duel 36 = .ok (.iconst 2, 1) := by decide +kernel
theorem dX6_duel_37 : decode cX6_duel 37 = .ok (.iload_n 1, 1) := by decide +kernel
theorem dX6_duel_38 : decode cX6_duel 38 = .ok (.imul, 1) := by decide +kernel
theorem dX6_duel_39 : decode cX6_duel 39 = .ok (.invokestatic 281, 3) := by decide +kernel
theorem dX6_duel_42 : decode cX6_duel 42 = .ok (.invokevirtual 80, 3) := by decide +kernel
theorem dX6_duel_45 : decode cX6_duel 45 = .ok (.ireturn, 1) := by decide +kernel
theorem dX6_odds_0 : decode cX6_odds 0 = .ok (.aload_n 0, 1) := by decide +kernel
theorem dX6_odds_1 : decode cX6_odds 1 = .ok (.getfield 45, 3) := by decide +kernel
theorem dX6_odds_4 : decode cX6_odds 4 = .ok (.iload_n 1, 1) := by decide +kernel
theorem dX6_odds_5 : decode cX6_odds 5 = .ok (.invokevirtual 253, 3) := by decide +kernel
theorem dX6_odds_8 : decode cX6_odds 8 = .ok (.ifCond .eq 13, 3) := by decide +kernel
theorem dX6_odds_11 : decode cX6_odds 11 = .ok (.iload_n 2, 1) := by decide +kernel
theorem dX6_odds_12 : decode cX6_odds 12 = .ok (.ifCond .lt 9, 3) := by decide +kernel
theorem dX6_odds_15 : decode cX6_odds 15 = .ok (.iload_n 2, 1) := by decide +kernel
theorem dX6_odds_16 : decode cX6_odds 16 = .ok (.bipush 12, 2) := by decide +kernel
theorem dX6_odds_18 : decode cX6_odds 18 = .ok (.if_icmp .le 5, 3) := by decide +kernel
theorem dX6_odds_21 : decode cX6_odds 21 = .ok (.iconst (-1), 1) := by decide +kernel
theorem dX6_odds_22 : decode cX6_odds 22 = .ok (.ireturn, 1) := by decide +kernel
theorem dX6_odds_23 : decode cX6_odds 23 = .ok (.aload_n 0, 1) := by decide +kernel
theorem dX6_odds_24 : decode cX6_odds 24 = .ok (.iconst 1, 1) := by decide +kernel
theorem dX6_odds_25 : decode cX6_odds 25 = .ok (.iload_n 1, 1) := by decide +kernel
theorem dX6_odds_26 : decode cX6_odds 26 = .ok (.ishl, 1) := by decide +kernel
theorem dX6_odds_27 : decode cX6_odds 27 = .ok (.iload_n 2, 1) := by decide +kernel
theorem dX6_odds_28 : decode cX6_odds 28 = .ok (.invokevirtual 285, 3) := by decide +kernel
theorem dX6_odds_31 : decode cX6_odds 31 = .ok (.ireturn, 1) := by decide +kernel
theorem dX6_mid_0 : decode cX6_mid 0 = .ok (.iload_n 1, 1) := by decide +kernel
theorem dX6_mid_1 : decode cX6_mid 1 = .ok (.ifCond .lt 9, 3) := by decide +kernel
theorem dX6_mid_4 : decode cX6_mid 4 = .ok (.iload_n 1, 1) := by decide +kernel
theorem dX6_mid_5 : decode cX6_mid 5 = .ok (.bipush 12, 2) := by decide +kernel
theorem dX6_mid_7 : decode cX6_mid 7 = .ok (.if_icmp .le 5, 3) := by decide +kernel
theorem dX6_mid_10 : decode cX6_mid 10 = .ok (.iconst (-1), 1) := by decide +kernel
theorem dX6_mid_11 : decode cX6_mid 11 = .ok (.ireturn, 1) := by decide +kernel
theorem dX6_mid_12 : decode cX6_mid 12 = .ok (.aload_n 0, 1) := by decide +kernel
theorem dX6_mid_13 : decode cX6_mid 13 = .ok (.getfield 45, 3) := by decide +kernel
theorem dX6_mid_16 : decode cX6_mid 16 = .ok (.invokevirtual 218, 3) := by decide +kernel
theorem dX6_mid_19 : decode cX6_mid 19 = .ok (.ifCond .eq 6, 3) := by decide +kernel
theorem dX6_mid_22 : decode cX6_mid 22 = .ok (.bipush (-4), 2) := by decide +kernel
theorem dX6_mid_24 : decode cX6_mid 24 = .ok (.ireturn, 1) := by decide +kernel
theorem dX6_mid_25 : decode cX6_mid 25 = .ok (.aload_n 0, 1) := by decide +kernel
theorem dX6_mid_26 : decode cX6_mid 26 = .ok (.bipush 15, 2) := by decide +kernel
theorem dX6_mid_28 : decode cX6_mid 28 = .ok (.iload_n 1, 1) := by decide +kernel
theorem dX6_mid_29 : decode cX6_mid 29 = .ok (.invokevirtual 285, 3) := by decide +kernel
theorem dX6_mid_32 : decode cX6_mid 32 = .ok (.ireturn, 1) := by decide +kernel
theorem dX6_lots_0 : decode cX6_lots 0 = .ok (.iload_n 1, 1) := by decide +kernel
theorem dX6_lots_1 : decode cX6_lots 1 = .ok (.iconst 1, 1) := by decide +kernel
theorem dX6_lots_2 : decode cX6_lots 2 = .ok (.if_icmp .lt 21, 3) := by decide +kernel
theorem dX6_lots_5 : decode cX6_lots 5 = .ok (.iload_n 1, 1) := by decide +kernel
theorem dX6_lots_6 : decode cX6_lots 6 = .ok (.bipush 20, 2) := by decide +kernel
theorem dX6_lots_8 : decode cX6_lots 8 = .ok (.if_icmp .gt 15, 3) := by decide +kernel
theorem dX6_lots_11 : decode cX6_lots 11 = .ok (.iload_n 2, 1) := by decide +kernel
theorem dX6_lots_12 : decode cX6_lots 12 = .ok (.iconst 1, 1) := by decide +kernel
theorem dX6_lots_13 : decode cX6_lots 13 = .ok (.if_icmp .lt 10, 3) := by decide +kernel
theorem dX6_lots_16 : decode cX6_lots 16 = .ok (.iload_n 2, 1) := by decide +kernel
theorem dX6_lots_17 : decode cX6_lots 17 = .ok (.ldc_w 288, 3) := by decide +kernel
theorem dX6_lots_20 : decode cX6_lots 20 = .ok (.if_icmp .le 5, 3) := by decide +kernel
theorem dX6_lots_23 : decode cX6_lots 23 = .ok (.iconst (-1), 1) := by decide +kernel
theorem dX6_lots_24 : decode cX6_lots 24 = .ok (.ireturn, 1) := by decide +kernel
theorem dX6_lots_25 : decode cX6_lots 25 = .ok (.aload_n 0, 1) := by decide +kernel
theorem dX6_lots_26 : decode cX6_lots 26 = .ok (.getfield 45, 3) := by decide +kernel
theorem dX6_lots_29 : decode cX6_lots 29 = .ok (.invokevirtual 218, 3) := by decide +kernel
theorem dX6_lots_32 : decode cX6_lots 32 = .ok (.ifCond .eq 6, 3) := by decide +kernel
theorem dX6_lots_35 : decode cX6_lots 35 = .ok (.bipush (-4), 2) := by decide +kernel
theorem dX6_lots_37 : decode cX6_lots 37 = .ok (.ireturn, 1) := by decide +kernel
theorem dX6_lots_38 : decode cX6_lots 38 = .ok (.aload_n 0, 1) := by decide +kernel
theorem dX6_lots_39 : decode cX6_lots 39 = .ok (.getfield 31, 3) := by decide +kernel
theorem dX6_lots_42 : decode cX6_lots 42 = .ok (.iload_n 1, 1) := by decide +kernel
theorem dX6_lots_43 : decode cX6_lots 43 = .ok (.invokevirtual 289, 3) := by decide +kernel
theorem dX6_lots_46 : decode cX6_lots 46 = .ok (.ifCond .eq 6, 3) := by decide +kernel
theorem dX6_lots_49 : decode cX6_lots 49 = .ok (.bipush (-2), 2) := by decide +kernel
theorem dX6_lots_51 : decode cX6_lots 51 = .ok (.ireturn, 1) := by decide +kernel
theorem dX6_lots_52 : decode cX6_lots 52 = .ok (.iload_n 2, 1) := by decide +kernel
theorem dX6_lots_53 : decode cX6_lots 53 = .ok (.istore_n 3, 1) := by decide +kernel
theorem dX6_lots_54 : decode cX6_lots 54 = .ok (.iconst 0, 1) := by decide +kernel
theorem dX6_lots_55 : decode cX6_lots 55 = .ok (.istore 4, 2) := by decide +kernel
theorem dX6_lots_57 : decode cX6_lots 57 = .ok (.iload 4, 2) := by decide +kernel
theorem dX6_lots_59 : decode cX6_lots 59 = .ok (.iload_n 1, 1) := by decide +kernel
theorem dX6_lots_60 : decode cX6_lots 60 = .ok (.if_icmp .ge 43, 3) := by decide +kernel
theorem dX6_lots_63 : decode cX6_lots 63 = .ok (.ldc2_w 292, 3) := by decide +kernel
theorem dX6_lots_66 : decode cX6_lots 66 = .ok (.iload_n 3, 1) := by decide +kernel
theorem dX6_lots_67 : decode cX6_lots 67 = .ok (.i2l, 1) := by decide +kernel
theorem dX6_lots_68 : decode cX6_lots 68 = .ok (.lmul, 1) := by decide +kernel
theorem dX6_lots_69 : decode cX6_lots 69 = .ok (.ldc2_w 294, 3) := by decide +kernel
theorem dX6_lots_72 : decode cX6_lots 72 = .ok (.lrem, 1) := by decide +kernel
theorem dX6_lots_73 : decode cX6_lots 73 = .ok (.l2i, 1) := by decide +kernel
theorem dX6_lots_74 : decode cX6_lots 74 = .ok (.istore_n 3, 1) := by decide +kernel
theorem dX6_lots_75 : decode cX6_lots 75 = .ok (.aload_n 0, 1) := by decide +kernel
theorem dX6_lots_76 : decode cX6_lots 76 = .ok (.getfield 31, 3) := by decide +kernel
theorem dX6_lots_79 : decode cX6_lots 79 = .ok (.aload_n 0, 1) := by decide +kernel
theorem dX6_lots_80 : decode cX6_lots 80 = .ok (.getfield 45, 3) := by decide +kernel
theorem dX6_lots_83 : decode cX6_lots 83 = .ok (.aload_n 0, 1) := by decide +kernel
theorem dX6_lots_84 : decode cX6_lots 84 = .ok (.getfield 31, 3) := by decide +kernel
theorem dX6_lots_87 : decode cX6_lots 87 = .ok (.invokevirtual 144, 3) := by decide +kernel
theorem dX6_lots_90 : decode cX6_lots 90 = .ok (.iload_n 3, 1) := by decide +kernel
theorem dX6_lots_91 : decode cX6_lots 91 = .ok (.invokevirtual 296, 3) := by decide +kernel
theorem dX6_lots_94 : decode cX6_lots 94 = .ok (.invokevirtual 299, 3) := by decide +kernel
theorem dX6_lots_97 : decode cX6_lots 97 = .ok (.iinc 4 1, 3) := by decide +kernel
theorem dX6_lots_100 : decode cX6_lots 100 = .ok (.goto (-43), 3) := by decide +kernel
theorem dX6_lots_103 : decode cX6_lots 103 = .ok (.aload_n 0, 1) := by decide +kernel
theorem dX6_lots_104 : decode cX6_lots 104 = .ok (.getfield 45, 3) := by decide +kernel
theorem dX6_lots_107 : decode cX6_lots 107 = .ok (.aload_n 0, 1) := by decide +kernel
theorem dX6_lots_108 : decode cX6_lots 108 = .ok (.getfield 31, 3) := by decide +kernel
theorem dX6_lots_111 : decode cX6_lots 111 = .ok (.invokevirtual 144, 3) := by decide +kernel
theorem dX6_lots_114 : decode cX6_lots 114 = .ok (.invokevirtual 250, 3) := by decide +kernel
theorem dX6_lots_117 : decode cX6_lots 117 = .ok (.invokestatic 170, 3) := by decide +kernel
theorem dX6_lots_120 : decode cX6_lots 120 = .ok (.ireturn, 1) := by decide +kernel
theorem dX6_asked_0 : decode cX6_asked 0 = .ok (.aload_n 0, 1) := by decide +kernel
theorem dX6_asked_1 : decode cX6_asked 1 = .ok (.getfield 56, 3) := by decide +kernel
theorem dX6_asked_4 : decode cX6_asked 4 = .ok (.ireturn, 1) := by decide +kernel
theorem dX6_upper_0 : decode cX6_upper 0 = .ok (.aload_n 0, 1) := by decide +kernel
theorem dX6_upper_1 : decode cX6_upper 1 = .ok (.getfield 59, 3) := by decide +kernel
theorem dX6_upper_4 : decode cX6_upper 4 = .ok (.lreturn, 1) := by decide +kernel
theorem dX6_lower_0 : decode cX6_lower 0 = .ok (.aload_n 0, 1) := by decide +kernel
theorem dX6_lower_1 : decode cX6_lower 1 = .ok (.getfield 63, 3) := by decide +kernel
theorem dX6_lower_4 : decode cX6_lower 4 = .ok (.lreturn, 1) := by decide +kernel
theorem dX6_count_0 : decode cX6_count 0 = .ok (.iload_n 1, 1) := by decide +kernel
theorem dX6_count_1 : decode cX6_count 1 = .ok (.ifCond .lt 9, 3) := by decide +kernel
theorem dX6_count_4 : decode cX6_count 4 = .ok (.iload_n 1, 1) := by decide +kernel
theorem dX6_count_5 : decode cX6_count 5 = .ok (.bipush 12, 2) := by decide +kernel
theorem dX6_count_7 : decode cX6_count 7 = .ok (.if_icmp .le 5, 3) := by decide +kernel
theorem dX6_count_10 : decode cX6_count 10 = .ok (.iconst (-1), 1) := by decide +kernel
theorem dX6_count_11 : decode cX6_count 11 = .ok (.ireturn, 1) := by decide +kernel
theorem dX6_count_12 : decode cX6_count 12 = .ok (.aload_n 0, 1) := by decide +kernel
theorem dX6_count_13 : decode cX6_count 13 = .ok (.getfield 31, 3) := by decide +kernel
theorem dX6_count_16 : decode cX6_count 16 = .ok (.invokevirtual 144, 3) := by decide +kernel
theorem dX6_count_19 : decode cX6_count 19 = .ok (.lstore_n 2, 1) := by decide +kernel
theorem dX6_count_20 : decode cX6_count 20 = .ok (.iload_n 1, 1) := by decide +kernel
theorem dX6_count_21 : decode cX6_count 21 = .ok (.tableswitch 146 0 11 #[63, 71, 79, 87, 92, 97, 102, 107, 112, 121, 130, 138], 63) := by decide +kernel
theorem dX6_count_84 : decode cX6_count 84 = .ok (.aload_n 0, 1) := by decide +kernel
theorem dX6_count_85 : decode cX6_count 85 = .ok (.getfield 45, 3) := by decide +kernel
theorem dX6_count_88 : decode cX6_count 88 = .ok (.getfield 128, 3) := by decide +kernel
theorem dX6_count_91 : decode cX6_count 91 = .ok (.ireturn, 1) := by decide +kernel
theorem dX6_count_92 : decode cX6_count 92 = .ok (.aload_n 0, 1) := by decide +kernel
theorem dX6_count_93 : decode cX6_count 93 = .ok (.getfield 45, 3) := by decide +kernel
theorem dX6_count_96 : decode cX6_count 96 = .ok (.getfield 302, 3) := by decide +kernel
theorem dX6_count_99 : decode cX6_count 99 = .ok (.ireturn, 1) := by decide +kernel
theorem dX6_count_100 : decode cX6_count 100 = .ok (.aload_n 0, 1) := by decide +kernel
theorem dX6_count_101 : decode cX6_count 101 = .ok (.getfield 31, 3) := by decide +kernel
theorem dX6_count_104 : decode cX6_count 104 = .ok (.invokevirtual 228, 3) := by decide +kernel
theorem dX6_count_107 : decode cX6_count 107 = .ok (.ireturn, 1) := by decide +kernel
theorem dX6_count_108 : decode cX6_count 108 = .ok (.lload_n 2, 1) := by decide +kernel
theorem dX6_count_109 : decode cX6_count 109 = .ok (.invokestatic 222, 3) := by decide +kernel
theorem dX6_count_112 : decode cX6_count 112 = .ok (.ireturn, 1) := by decide +kernel
theorem dX6_count_113 : decode cX6_count 113 = .ok (.lload_n 2, 1) := by decide +kernel
theorem dX6_count_114 : decode cX6_count 114 = .ok (.invokestatic 166, 3) := by decide +kernel
theorem dX6_count_117 : decode cX6_count 117 = .ok (.ireturn, 1) := by decide +kernel
theorem dX6_count_118 : decode cX6_count 118 = .ok (.lload_n 2, 1) := by decide +kernel
theorem dX6_count_119 : decode cX6_count 119 = .ok (.invokestatic 206, 3) := by decide +kernel
theorem dX6_count_122 : decode cX6_count 122 = .ok (.ireturn, 1) := by decide +kernel
theorem dX6_count_123 : decode cX6_count 123 = .ok (.lload_n 2, 1) := by decide +kernel
theorem dX6_count_124 : decode cX6_count 124 = .ok (.invokestatic 212, 3) := by decide +kernel
theorem dX6_count_127 : decode cX6_count 127 = .ok (.ireturn, 1) := by decide +kernel
theorem dX6_count_128 : decode cX6_count 128 = .ok (.lload_n 2, 1) := by decide +kernel
theorem dX6_count_129 : decode cX6_count 129 = .ok (.invokestatic 305, 3) := by decide +kernel
theorem dX6_count_132 : decode cX6_count 132 = .ok (.ireturn, 1) := by decide +kernel
theorem dX6_count_133 : decode cX6_count 133 = .ok (.aload_n 0, 1) := by decide +kernel
theorem dX6_count_134 : decode cX6_count 134 = .ok (.getfield 45, 3) := by decide +kernel
theorem dX6_count_137 : decode cX6_count 137 = .ok (.iconst 1, 1) := by decide +kernel
theorem dX6_count_138 : decode cX6_count 138 = .ok (.invokevirtual 308, 3) := by decide +kernel
theorem dX6_count_141 : decode cX6_count 141 = .ok (.ireturn, 1) := by decide +kernel
theorem dX6_count_142 : decode cX6_count 142 = .ok (.aload_n 0, 1) := by decide +kernel
theorem dX6_count_143 : decode cX6_count 143 = .ok (.getfield 45, 3) := by decide +kernel
theorem dX6_count_146 : decode cX6_count 146 = .ok (.iconst 3, 1) := by decide +kernel
theorem dX6_count_147 : decode cX6_count 147 = .ok (.invokevirtual 308, 3) := by decide +kernel
theorem dX6_count_150 : decode cX6_count 150 = .ok (.ireturn, 1) := by decide +kernel
theorem dX6_count_151 : decode cX6_count 151 = .ok (.aload_n 0, 1) := by decide +kernel
theorem dX6_count_152 : decode cX6_count 152 = .ok (.getfield 14, 3) := by decide +kernel
theorem dX6_count_155 : decode cX6_count 155 = .ok (.invokevirtual 311, 3) := by decide +kernel
theorem dX6_count_158 : decode cX6_count 158 = .ok (.ireturn, 1) := by decide +kernel
theorem dX6_count_159 : decode cX6_count 159 = .ok (.aload_n 0, 1) := by decide +kernel
theorem dX6_count_160 : decode cX6_count 160 = .ok (.getfield 18, 3) := by decide +kernel
theorem dX6_count_163 : decode cX6_count 163 = .ok (.invokevirtual 311, 3) := by decide +kernel
theorem dX6_count_166 : decode cX6_count 166 = .ok (.ireturn, 1) := by decide +kernel
theorem dX6_count_167 : decode cX6_count 167 = .ok (.aload_n 0, 1) := by decide +kernel
theorem dX6_count_168 : decode cX6_count 168 = .ok (.getfield 31, 3) := by decide +kernel
theorem dX6_count_171 : decode cX6_count 171 = .ok (.invokevirtual 314, 3) := by decide +kernel
theorem dX6_count_174 : decode cX6_count 174 = .ok (.ireturn, 1) := by decide +kernel
theorem dX6_digest_0 : decode cX6_digest 0 = .ok (.ldc2_w 317, 3) := by decide +kernel
theorem dX6_digest_3 : decode cX6_digest 3 = .ok (.lstore_n 1, 1) := by decide +kernel
theorem dX6_digest_4 : decode cX6_digest 4 = .ok (.iconst 0, 1) := by decide +kernel
theorem dX6_digest_5 : decode cX6_digest 5 = .ok (.istore_n 3, 1) := by decide +kernel
theorem dX6_digest_6 : decode cX6_digest 6 = .ok (.iload_n 3, 1) := by decide +kernel
theorem dX6_digest_7 : decode cX6_digest 7 = .ok (.bipush 12, 2) := by decide +kernel
theorem dX6_digest_9 : decode cX6_digest 9 = .ok (.if_icmp .gt 22, 3) := by decide +kernel
theorem dX6_digest_12 : decode cX6_digest 12 = .ok (.ldc2_w 319, 3) := by decide +kernel
theorem dX6_digest_15 : decode cX6_digest 15 = .ok (.lload_n 1, 1) := by decide +kernel
theorem dX6_digest_16 : decode cX6_digest 16 = .ok (.lmul, 1) := by decide +kernel
theorem dX6_digest_17 : decode cX6_digest 17 = .ok (.aload_n 0, 1) := by decide +kernel
theorem dX6_digest_18 : decode cX6_digest 18 = .ok (.iload_n 3, 1) := by decide +kernel
theorem dX6_digest_19 : decode cX6_digest 19 = .ok (.invokevirtual 321, 3) := by decide +kernel
theorem dX6_digest_22 : decode cX6_digest 22 = .ok (.i2l, 1) := by decide +kernel
theorem dX6_digest_23 : decode cX6_digest 23 = .ok (.ladd, 1) := by decide +kernel
theorem dX6_digest_24 : decode cX6_digest 24 = .ok (.lstore_n 1, 1) := by decide +kernel
theorem dX6_digest_25 : decode cX6_digest 25 = .ok (.iinc 3 1, 3) := by decide +kernel
theorem dX6_digest_28 : decode cX6_digest 28 = .ok (.goto (-22), 3) := by decide +kernel
theorem dX6_digest_31 : decode cX6_digest 31 = .ok (.iconst 0, 1) := by decide +kernel
theorem dX6_digest_32 : decode cX6_digest 32 = .ok (.istore_n 3, 1) := by decide +kernel
theorem dX6_digest_33 : decode cX6_digest 33 = .ok (.iload_n 3, 1) := by decide +kernel
theorem dX6_digest_34 : decode cX6_digest 34 = .ok (.aload_n 0, 1) := by decide +kernel
theorem dX6_digest_35 : decode cX6_digest 35 = .ok (.getfield 45, 3) := by decide +kernel
theorem dX6_digest_38 : decode cX6_digest 38 = .ok (.getfield 128, 3) := by decide +kernel
theorem dX6_digest_41 : decode cX6_digest 41 = .ok (.if_icmp .ge 39, 3) := by decide +kernel
theorem dX6_digest_44 : decode cX6_digest 44 = .ok (.iconst 0, 1) := by decide +kernel
theorem dX6_digest_45 : decode cX6_digest 45 = .ok (.istore 4, 2) := by decide +kernel
theorem dX6_digest_47 : decode cX6_digest 47 = .ok (.iload 4, 2) := by decide +kernel
theorem dX6_digest_49 : decode cX6_digest 49 = .ok (.iconst 5, 1) := by decide +kernel
theorem dX6_digest_50 : decode cX6_digest 50 = .ok (.if_icmp .gt 24, 3) := by decide +kernel
theorem dX6_digest_53 : decode cX6_digest 53 = .ok (.ldc2_w 319, 3) := by decide +kernel
theorem dX6_digest_56 : decode cX6_digest 56 = .ok (.lload_n 1, 1) := by decide +kernel
theorem dX6_digest_57 : decode cX6_digest 57 = .ok (.lmul, 1) := by decide +kernel
theorem dX6_digest_58 : decode cX6_digest 58 = .ok (.aload_n 0, 1) := by decide +kernel
theorem dX6_digest_59 : decode cX6_digest 59 = .ok (.iload_n 3, 1) := by decide +kernel
theorem dX6_digest_60 : decode cX6_digest 60 = .ok (.iload 4, 2) := by decide +kernel
theorem dX6_digest_62 : decode cX6_digest 62 = .ok (.invokevirtual 134, 3) := by decide +kernel
theorem dX6_digest_65 : decode cX6_digest 65 = .ok (.i2l, 1) := by decide +kernel
theorem dX6_digest_66 : decode cX6_digest 66 = .ok (.ladd, 1) := by decide +kernel
theorem dX6_digest_67 : decode cX6_digest 67 = .ok (.lstore_n 1, 1) := by decide +kernel
theorem dX6_digest_68 : decode cX6_digest 68 = .ok (.iinc 4 1, 3) := by decide +kernel
theorem dX6_digest_71 : decode cX6_digest 71 = .ok (.goto (-24), 3) := by decide +kernel
theorem dX6_digest_74 : decode cX6_digest 74 = .ok (.iinc 3 1, 3) := by decide +kernel
theorem dX6_digest_77 : decode cX6_digest 77 = .ok (.goto (-44), 3) := by decide +kernel
theorem dX6_digest_80 : decode cX6_digest 80 = .ok (.aload_n 0, 1) := by decide +kernel
theorem dX6_digest_81 : decode cX6_digest 81 = .ok (.getfield 45, 3) := by decide +kernel
theorem dX6_digest_84 : decode cX6_digest 84 = .ok (.aload_n 0, 1) := by decide +kernel
theorem dX6_digest_85 : decode cX6_digest 85 = .ok (.getfield 31, 3) := by decide +kernel
theorem dX6_digest_88 : decode cX6_digest 88 = .ok (.invokevirtual 144, 3) := by decide +kernel
theorem dX6_digest_91 : decode cX6_digest 91 = .ok (.invokevirtual 250, 3) := by decide +kernel
theorem dX6_digest_94 : decode cX6_digest 94 = .ok (.istore_n 3, 1) := by decide +kernel
theorem dX6_digest_95 : decode cX6_digest 95 = .ok (.iconst 0, 1) := by decide +kernel
theorem dX6_digest_96 : decode cX6_digest 96 = .ok (.istore 4, 2) := by decide +kernel
theorem dX6_digest_98 : decode cX6_digest 98 = .ok (.iload 4, 2) := by decide +kernel
theorem dX6_digest_100 : decode cX6_digest 100 = .ok (.aload_n 0, 1) := by decide +kernel
theorem dX6_digest_101 : decode cX6_digest 101 = .ok (.getfield 45, 3) := by decide +kernel
theorem dX6_digest_104 : decode cX6_digest 104 = .ok (.getfield 302, 3) := by decide +kernel
theorem dX6_digest_107 : decode cX6_digest 107 = .ok (.if_icmp .ge 23, 3) := by decide +kernel
theorem dX6_digest_110 : decode cX6_digest 110 = .ok (.ldc2_w 319, 3) := by decide +kernel
theorem dX6_digest_113 : decode cX6_digest 113 = .ok (.lload_n 1, 1) := by decide +kernel
theorem dX6_digest_114 : decode cX6_digest 114 = .ok (.lmul, 1) := by decide +kernel
theorem dX6_digest_115 : decode cX6_digest 115 = .ok (.iload_n 3, 1) := by decide +kernel
theorem dX6_digest_116 : decode cX6_digest 116 = .ok (.iload 4, 2) := by decide +kernel
theorem dX6_digest_118 : decode cX6_digest 118 = .ok (.ishr, 1) := by decide +kernel
theorem dX6_digest_119 : decode cX6_digest 119 = .ok (.iconst 1, 1) := by decide +kernel
theorem dX6_digest_120 : decode cX6_digest 120 = .ok (.iand, 1) := by decide +kernel
theorem dX6_digest_121 : decode cX6_digest 121 = .ok (.i2l, 1) := by decide +kernel
theorem dX6_digest_122 : decode cX6_digest 122 = .ok (.ladd, 1) := by decide +kernel
theorem dX6_digest_123 : decode cX6_digest 123 = .ok (.lstore_n 1, 1) := by decide +kernel
theorem dX6_digest_124 : decode cX6_digest 124 = .ok (.iinc 4 1, 3) := by decide +kernel
theorem dX6_digest_127 : decode cX6_digest 127 = .ok (.goto (-29), 3) := by decide +kernel
theorem dX6_digest_130 : decode cX6_digest 130 = .ok (.iconst 0, 1) := by decide +kernel
theorem dX6_digest_131 : decode cX6_digest 131 = .ok (.istore 4, 2) := by decide +kernel
theorem dX6_digest_133 : decode cX6_digest 133 = .ok (.iload 4, 2) := by decide +kernel
theorem dX6_digest_135 : decode cX6_digest 135 = .ok (.iconst 3, 1) := by decide +kernel
theorem dX6_digest_136 : decode cX6_digest 136 = .ok (.if_icmp .ge 26, 3) := by decide +kernel
theorem dX6_digest_139 : decode cX6_digest 139 = .ok (.ldc2_w 319, 3) := by decide +kernel
theorem dX6_digest_142 : decode cX6_digest 142 = .ok (.lload_n 1, 1) := by decide +kernel
theorem dX6_digest_143 : decode cX6_digest 143 = .ok (.lmul, 1) := by decide +kernel
theorem dX6_digest_144 : decode cX6_digest 144 = .ok (.aload_n 0, 1) := by decide +kernel
theorem dX6_digest_145 : decode cX6_digest 145 = .ok (.getfield 31, 3) := by decide +kernel
theorem dX6_digest_148 : decode cX6_digest 148 = .ok (.iload 4, 2) := by decide +kernel
theorem dX6_digest_150 : decode cX6_digest 150 = .ok (.invokevirtual 241, 3) := by decide +kernel
theorem dX6_digest_153 : decode cX6_digest 153 = .ok (.i2l, 1) := by decide +kernel
theorem dX6_digest_154 : decode cX6_digest 154 = .ok (.ladd, 1) := by decide +kernel
theorem dX6_digest_155 : decode cX6_digest 155 = .ok (.lstore_n 1, 1) := by decide +kernel
theorem dX6_digest_156 : decode cX6_digest 156 = .ok (.iinc 4 1, 3) := by decide +kernel
theorem dX6_digest_159 : decode cX6_digest 159 = .ok (.goto (-26), 3) := by decide +kernel
theorem dX6_digest_162 : decode cX6_digest 162 = .ok (.aload_n 0, 1) := by decide +kernel
theorem dX6_digest_163 : decode cX6_digest 163 = .ok (.getfield 18, 3) := by decide +kernel
theorem dX6_digest_166 : decode cX6_digest 166 = .ok (.aload_n 0, 1) := by decide +kernel
theorem dX6_digest_167 : decode cX6_digest 167 = .ok (.getfield 14, 3) := by decide +kernel
theorem dX6_digest_170 : decode cX6_digest 170 = .ok (.lload_n 1, 1) := by decide +kernel
theorem dX6_digest_171 : decode cX6_digest 171 = .ok (.invokevirtual 324, 3) := by decide +kernel
theorem dX6_digest_174 : decode cX6_digest 174 = .ok (.invokevirtual 324, 3) := by decide +kernel
theorem dX6_digest_177 : decode cX6_digest 177 = .ok (.lreturn, 1) := by decide +kernel
theorem dX6_tell_0 : decode cX6_tell 0 = .ok (.aload_n 0, 1) := by decide +kernel
theorem dX6_tell_1 : decode cX6_tell 1 = .ok (.iload_n 1, 1) := by decide +kernel
theorem dX6_tell_2 : decode cX6_tell 2 = .ok (.putfield 56, 3) := by decide +kernel
theorem dX6_tell_5 : decode cX6_tell 5 = .ok (.iconst 1, 1) := by decide +kernel
theorem dX6_tell_6 : decode cX6_tell 6 = .ok (.ireturn, 1) := by decide +kernel
theorem dX6_found_0 : decode cX6_found 0 = .ok (.iload_n 1, 1) := by decide +kernel
theorem dX6_found_1 : decode cX6_found 1 = .ok (.iconst 1, 1) := by decide +kernel
theorem dX6_found_2 : decode cX6_found 2 = .ok (.if_icmp .lt 23, 3) := by decide +kernel
theorem dX6_found_5 : decode cX6_found 5 = .ok (.iload_n 1, 1) := by decide +kernel
theorem dX6_found_6 : decode cX6_found 6 = .ok (.iconst 5, 1) := by decide +kernel
theorem dX6_found_7 : decode cX6_found 7 = .ok (.if_icmp .gt 18, 3) := by decide +kernel
theorem dX6_found_10 : decode cX6_found 10 = .ok (.aload_n 0, 1) := by decide +kernel
theorem dX6_found_11 : decode cX6_found 11 = .ok (.iload_n 1, 1) := by decide +kernel
theorem dX6_found_12 : decode cX6_found 12 = .ok (.putfield 52, 3) := by decide +kernel
theorem dX6_found_15 : decode cX6_found 15 = .ok (.aload_n 0, 1) := by decide +kernel
theorem dX6_found_16 : decode cX6_found 16 = .ok (.getfield 39, 3) := by decide +kernel
theorem dX6_found_19 : decode cX6_found 19 = .ok (.iload_n 1, 1) := by decide +kernel
theorem dX6_found_20 : decode cX6_found 20 = .ok (.dup2, 1) := by decide +kernel
theorem dX6_found_21 : decode cX6_found 21 = .ok (.iaload, 1) := by decide +kernel
theorem dX6_found_22 : decode cX6_found 22 = .ok (.iconst 1, 1) := by decide +kernel
theorem dX6_found_23 : decode cX6_found 23 = .ok (.iadd, 1) := by decide +kernel
theorem dX6_found_24 : decode cX6_found 24 = .ok (.iastore, 1) := by decide +kernel
theorem dX6_found_25 : decode cX6_found 25 = .ok (.bipush (-3), 2) := by decide +kernel
theorem dX6_found_27 : decode cX6_found 27 = .ok (.ireturn, 1) := by decide +kernel
theorem dX6_made_0 : decode cX6_made 0 = .ok (.aload_n 1, 1) := by decide +kernel
theorem dX6_made_1 : decode cX6_made 1 = .ok (.iload_n 2, 1) := by decide +kernel
theorem dX6_made_2 : decode cX6_made 2 = .ok (.invokevirtual 92, 3) := by decide +kernel
theorem dX6_made_5 : decode cX6_made 5 = .ok (.ifCond .eq 11, 3) := by decide +kernel
theorem dX6_made_8 : decode cX6_made 8 = .ok (.iload_n 3, 1) := by decide +kernel
theorem dX6_made_9 : decode cX6_made 9 = .ok (.aload_n 1, 1) := by decide +kernel
theorem dX6_made_10 : decode cX6_made 10 = .ok (.getfield 328, 3) := by decide +kernel
theorem dX6_made_13 : decode cX6_made 13 = .ok (.if_icmp .le 5, 3) := by decide +kernel
theorem dX6_made_16 : decode cX6_made 16 = .ok (.iconst (-1), 1) := by decide +kernel
theorem dX6_made_17 : decode cX6_made 17 = .ok (.ireturn, 1) := by decide +kernel
theorem dX6_made_18 : decode cX6_made 18 = .ok (.iload_n 3, 1) := by decide +kernel
theorem dX6_made_19 : decode cX6_made 19 = .ok (.ifCond .ge 9, 3) := by decide +kernel
theorem dX6_made_22 : decode cX6_made 22 = .ok (.aload_n 0, 1) := by decide +kernel
theorem dX6_made_23 : decode cX6_made 23 = .ok (.iconst 5, 1) := by decide +kernel
theorem dX6_made_24 : decode cX6_made 24 = .ok (.invokevirtual 96, 3) := by decide +kernel
theorem dX6_made_27 : decode cX6_made 27 = .ok (.ireturn, 1) := by decide +kernel
theorem dX6_made_28 : decode cX6_made 28 = .ok (.aload_n 1, 1) := by decide +kernel
theorem dX6_made_29 : decode cX6_made 29 = .ok (.iload_n 2, 1) := by decide +kernel
theorem dX6_made_30 : decode cX6_made 30 = .ok (.iload_n 3, 1) := by decide +kernel
theorem dX6_made_31 : decode cX6_made 31 = .ok (.invokevirtual 262, 3) := by decide +kernel
theorem dX6_made_34 : decode cX6_made 34 = .ok (.iload_n 3, 1) := by decide +kernel
theorem dX6_made_35 : decode cX6_made 35 = .ok (.ireturn, 1) := by decide +kernel
theorem dX6_refusalOfMissing_0 : decode cX6_refusalOfMissing 0 = .ok (.aload_n 1, 1) := by decide +kernel
theorem dX6_refusalOfMissing_1 : decode cX6_refusalOfMissing 1 = .ok (.iload_n 2, 1) := by decide +kernel
theorem dX6_refusalOfMissing_2 : decode cX6_refusalOfMissing 2 = .ok (.invokevirtual 92, 3) := by decide +kernel
theorem dX6_refusalOfMissing_5 : decode cX6_refusalOfMissing 5 = .ok (.ifCond .ne 5, 3) := by decide +kernel
theorem dX6_refusalOfMissing_8 : decode cX6_refusalOfMissing 8 = .ok (.iconst (-1), 1) := by decide +kernel
theorem dX6_refusalOfMissing_9 : decode cX6_refusalOfMissing 9 = .ok (.ireturn, 1) := by decide +kernel
theorem dX6_refusalOfMissing_10 : decode cX6_refusalOfMissing 10 = .ok (.aload_n 1, 1) := by decide +kernel
theorem dX6_refusalOfMissing_11 : decode cX6_refusalOfMissing 11 = .ok (.iload_n 2, 1) := by decide +kernel
theorem dX6_refusalOfMissing_12 : decode cX6_refusalOfMissing 12 = .ok (.invokevirtual 99, 3) := by decide +kernel
theorem dX6_refusalOfMissing_15 : decode cX6_refusalOfMissing 15 = .ok (.ifCond .eq 7, 3) := by decide +kernel
theorem dX6_refusalOfMissing_18 : decode cX6_refusalOfMissing 18 = .ok (.iconst 0, 1) := by decide +kernel
theorem dX6_refusalOfMissing_19 : decode cX6_refusalOfMissing 19 = .ok (.goto 8, 3) := by decide +kernel
theorem dX6_refusalOfMissing_22 : decode cX6_refusalOfMissing 22 = .ok (.aload_n 0, 1) := by decide +kernel
theorem dX6_refusalOfMissing_23 : decode cX6_refusalOfMissing 23 = .ok (.iconst 1, 1) := by decide +kernel
theorem dX6_refusalOfMissing_24 : decode cX6_refusalOfMissing 24 = .ok (.invokevirtual 96, 3) := by decide +kernel
theorem dX6_refusalOfMissing_27 : decode cX6_refusalOfMissing 27 = .ok (.ireturn, 1) := by decide +kernel
theorem dX6_refusalOfPlace_0 : decode cX6_refusalOfPlace 0 = .ok (.aload_n 0, 1) := by decide +kernel
theorem dX6_refusalOfPlace_1 : decode cX6_refusalOfPlace 1 = .ok (.aload_n 1, 1) := by decide +kernel
theorem dX6_refusalOfPlace_2 : decode cX6_refusalOfPlace 2 = .ok (.iload_n 2, 1) := by decide +kernel
theorem dX6_refusalOfPlace_3 : decode cX6_refusalOfPlace 3 = .ok (.invokevirtual 84, 3) := by decide +kernel
theorem dX6_refusalOfPlace_6 : decode cX6_refusalOfPlace 6 = .ok (.istore 4, 2) := by decide +kernel
theorem dX6_refusalOfPlace_8 : decode cX6_refusalOfPlace 8 = .ok (.iload 4, 2) := by decide +kernel
theorem dX6_refusalOfPlace_10 : decode cX6_refusalOfPlace 10 = .ok (.ifCond .eq 6, 3) := by decide +kernel
theorem dX6_refusalOfPlace_13 : decode cX6_refusalOfPlace 13 = .ok (.iload 4, 2) := by decide +kernel
theorem dX6_refusalOfPlace_15 : decode cX6_refusalOfPlace 15 = .ok (.ireturn, 1) := by decide +kernel
theorem dX6_refusalOfPlace_16 : decode cX6_refusalOfPlace 16 = .ok (.aload_n 1, 1) := by decide +kernel
theorem dX6_refusalOfPlace_17 : decode cX6_refusalOfPlace 17 = .ok (.iload_n 2, 1) := by decide +kernel
theorem dX6_refusalOfPlace_18 : decode cX6_refusalOfPlace 18 = .ok (.iload_n 3, 1) := by decide +kernel
theorem dX6_refusalOfPlace_19 : decode cX6_refusalOfPlace 19 = .ok (.invokevirtual 331, 3) := by decide +kernel
theorem dX6_refusalOfPlace_22 : decode cX6_refusalOfPlace 22 = .ok (.ifCond .eq 7, 3) := by decide +kernel
theorem dX6_refusalOfPlace_25 : decode cX6_refusalOfPlace 25 = .ok (.iconst 0, 1) := by decide +kernel
theorem dX6_refusalOfPlace_26 : decode cX6_refusalOfPlace 26 = .ok (.goto 8, 3) := by decide +kernel
theorem dX6_refusalOfPlace_29 : decode cX6_refusalOfPlace 29 = .ok (.aload_n 0, 1) := by decide +kernel
theorem dX6_refusalOfPlace_30 : decode cX6_refusalOfPlace 30 = .ok (.iconst 2, 1) := by decide +kernel
theorem dX6_refusalOfPlace_31 : decode cX6_refusalOfPlace 31 = .ok (.invokevirtual 96, 3) := by decide +kernel
theorem dX6_refusalOfPlace_34 : decode cX6_refusalOfPlace 34 = .ok (.ireturn, 1) := by decide +kernel
theorem dX6_refusalOfFast_0 : decode cX6_refusalOfFast 0 = .ok (.aload_n 0, 1) := by decide +kernel
theorem dX6_refusalOfFast_1 : decode cX6_refusalOfFast 1 = .ok (.getfield 45, 3) := by decide +kernel
theorem dX6_refusalOfFast_4 : decode cX6_refusalOfFast 4 = .ok (.iload_n 1, 1) := by decide +kernel
theorem dX6_refusalOfFast_5 : decode cX6_refusalOfFast 5 = .ok (.invokevirtual 131, 3) := by decide +kernel
theorem dX6_refusalOfFast_8 : decode cX6_refusalOfFast 8 = .ok (.ifCond .ne 5, 3) := by decide +kernel
theorem dX6_refusalOfFast_11 : decode cX6_refusalOfFast 11 = .ok (.iconst (-1), 1) := by decide +kernel
theorem dX6_refusalOfFast_12 : decode cX6_refusalOfFast 12 = .ok (.ireturn, 1) := by decide +kernel
theorem dX6_refusalOfFast_13 : decode cX6_refusalOfFast 13 = .ok (.aload_n 0, 1) := by decide +kernel
theorem dX6_refusalOfFast_14 : decode cX6_refusalOfFast 14 = .ok (.getfield 31, 3) := by decide +kernel
theorem dX6_refusalOfFast_17 : decode cX6_refusalOfFast 17 = .ok (.invokevirtual 144, 3) := by decide +kernel
theorem dX6_refusalOfFast_20 : decode cX6_refusalOfFast 20 = .ok (.iload_n 1, 1) := by decide +kernel
theorem dX6_refusalOfFast_21 : decode cX6_refusalOfFast 21 = .ok (.invokestatic 334, 3) := by decide +kernel
theorem dX6_refusalOfFast_24 : decode cX6_refusalOfFast 24 = .ok (.ifCond .eq 7, 3) := by decide +kernel
theorem dX6_refusalOfFast_27 : decode cX6_refusalOfFast 27 = .ok (.iconst 0, 1) := by decide +kernel
theorem dX6_refusalOfFast_28 : decode cX6_refusalOfFast 28 = .ok (.goto 5, 3) := by decide +kernel
theorem dX6_refusalOfFast_31 : decode cX6_refusalOfFast 31 = .ok (.bipush (-4), 2) := by decide +kernel
theorem dX6_refusalOfFast_33 : decode cX6_refusalOfFast 33 = .ok (.ireturn, 1) := by decide +kernel
theorem dX6_refusalOfHaul_0 : decode cX6_refusalOfHaul 0 = .ok (.iload_n 2, 1) := by decide +kernel
theorem dX6_refusalOfHaul_1 : decode cX6_refusalOfHaul 1 = .ok (.iconst 1, 1) := by decide +kernel
theorem dX6_refusalOfHaul_2 : decode cX6_refusalOfHaul 2 = .ok (.if_icmp .lt 9, 3) := by decide +kernel
theorem dX6_refusalOfHaul_5 : decode cX6_refusalOfHaul 5 = .ok (.iload_n 2, 1) := by decide +kernel
theorem dX6_refusalOfHaul_6 : decode cX6_refusalOfHaul 6 = .ok (.bipush 9, 2) := by decide +kernel
theorem dX6_refusalOfHaul_8 : decode cX6_refusalOfHaul 8 = .ok (.if_icmp .le 7, 3) := by decide +kernel
theorem dX6_refusalOfHaul_11 : decode cX6_refusalOfHaul 11 = .ok (.iconst (-1), 1) := by decide +kernel
theorem dX6_refusalOfHaul_12 : decode cX6_refusalOfHaul 12 = .ok (.goto 8, 3) := by decide +kernel
theorem dX6_refusalOfHaul_15 : decode cX6_refusalOfHaul 15 = .ok (.aload_n 0, 1) := by decide +kernel
theorem dX6_refusalOfHaul_16 : decode cX6_refusalOfHaul 16 = .ok (.iload_n 1, 1) := by decide +kernel
theorem dX6_refusalOfHaul_17 : decode cX6_refusalOfHaul 17 = .ok (.invokevirtual 189, 3) := by decide +kernel
theorem dX6_refusalOfHaul_20 : decode cX6_refusalOfHaul 20 = .ok (.ireturn, 1) := by decide +kernel
theorem dX6_done_0 : decode cX6_done 0 = .ok (.aload_n 0, 1) := by decide +kernel
theorem dX6_done_1 : decode cX6_done 1 = .ok (.getfield 31, 3) := by decide +kernel
theorem dX6_done_4 : decode cX6_done 4 = .ok (.iconst 1, 1) := by decide +kernel
theorem dX6_done_5 : decode cX6_done 5 = .ok (.invokevirtual 289, 3) := by decide +kernel
theorem dX6_done_8 : decode cX6_done 8 = .ok (.ifCond .eq 6, 3) := by decide +kernel
theorem dX6_done_11 : decode cX6_done 11 = .ok (.bipush (-2), 2) := by decide +kernel
theorem dX6_done_13 : decode cX6_done 13 = .ok (.ireturn, 1) := by decide +kernel
theorem dX6_done_14 : decode cX6_done 14 = .ok (.aload_n 0, 1) := by decide +kernel
theorem dX6_done_15 : decode cX6_done 15 = .ok (.getfield 31, 3) := by decide +kernel
theorem dX6_done_18 : decode cX6_done 18 = .ok (.lload_n 1, 1) := by decide +kernel
theorem dX6_done_19 : decode cX6_done 19 = .ok (.invokevirtual 299, 3) := by decide +kernel
theorem dX6_done_22 : decode cX6_done 22 = .ok (.iload_n 3, 1) := by decide +kernel
theorem dX6_done_23 : decode cX6_done 23 = .ok (.ireturn, 1) := by decide +kernel
theorem dX6_detail_0 : decode cX6_detail 0 = .ok (.aload_n 0, 1) := by decide +kernel
theorem dX6_detail_1 : decode cX6_detail 1 = .ok (.getfield 31, 3) := by decide +kernel
theorem dX6_detail_4 : decode cX6_detail 4 = .ok (.invokevirtual 144, 3) := by decide +kernel
theorem dX6_detail_7 : decode cX6_detail 7 = .ok (.lstore_n 3, 1) := by decide +kernel
theorem dX6_detail_8 : decode cX6_detail 8 = .ok (.iload_n 2, 1) := by decide +kernel
theorem dX6_detail_9 : decode cX6_detail 9 = .ok (.tableswitch 82 0 4 #[35, 44, 53, 62, 68], 35) := by decide +kernel
theorem dX6_detail_44 : decode cX6_detail 44 = .ok (.aload_n 0, 1) := by decide +kernel
theorem dX6_detail_45 : decode cX6_detail 45 = .ok (.getfield 45, 3) := by decide +kernel
theorem dX6_detail_48 : decode cX6_detail 48 = .ok (.iload_n 1, 1) := by decide +kernel
theorem dX6_detail_49 : decode cX6_detail 49 = .ok (.invokevirtual 137, 3) := by decide +kernel
theorem dX6_detail_52 : decode cX6_detail 52 = .ok (.ireturn, 1) := by decide +kernel
theorem dX6_detail_53 : decode cX6_detail 53 = .ok (.aload_n 0, 1) := by decide +kernel
theorem dX6_detail_54 : decode cX6_detail 54 = .ok (.getfield 45, 3) := by decide +kernel
theorem dX6_detail_57 : decode cX6_detail 57 = .ok (.iload_n 1, 1) := by decide +kernel
theorem dX6_detail_58 : decode cX6_detail 58 = .ok (.invokevirtual 148, 3) := by decide +kernel
theorem dX6_detail_61 : decode cX6_detail 61 = .ok (.ireturn, 1) := by decide +kernel
theorem dX6_detail_62 : decode cX6_detail 62 = .ok (.aload_n 0, 1) := by decide +kernel
theorem dX6_detail_63 : decode cX6_detail 63 = .ok (.getfield 45, 3) := by decide +kernel
theorem dX6_detail_66 : decode cX6_detail 66 = .ok (.iload_n 1, 1) := by decide +kernel
theorem dX6_detail_67 : decode cX6_detail 67 = .ok (.invokevirtual 157, 3) := by decide +kernel
theorem dX6_detail_70 : decode cX6_detail 70 = .ok (.ireturn, 1) := by decide +kernel
theorem dX6_detail_71 : decode cX6_detail 71 = .ok (.lload_n 3, 1) := by decide +kernel
theorem dX6_detail_72 : decode cX6_detail 72 = .ok (.iload_n 1, 1) := by decide +kernel
theorem dX6_detail_73 : decode cX6_detail 73 = .ok (.invokestatic 151, 3) := by decide +kernel
theorem dX6_detail_76 : decode cX6_detail 76 = .ok (.ireturn, 1) := by decide +kernel
theorem dX6_detail_77 : decode cX6_detail 77 = .ok (.lload_n 3, 1) := by decide +kernel
theorem dX6_detail_78 : decode cX6_detail 78 = .ok (.iload_n 1, 1) := by decide +kernel
theorem dX6_detail_79 : decode cX6_detail 79 = .ok (.invokestatic 200, 3) := by decide +kernel
theorem dX6_detail_82 : decode cX6_detail 82 = .ok (.ifCond .eq 7, 3) := by decide +kernel
theorem dX6_detail_85 : decode cX6_detail 85 = .ok (.iconst 0, 1) := by decide +kernel
theorem dX6_detail_86 : decode cX6_detail 86 = .ok (.goto 4, 3) := by decide +kernel
theorem dX6_detail_89 : decode cX6_detail 89 = .ok (.iconst 1, 1) := by decide +kernel
theorem dX6_detail_90 : decode cX6_detail 90 = .ok (.ireturn, 1) := by decide +kernel
theorem dX6_detail_91 : decode cX6_detail 91 = .ok (.lload_n 3, 1) := by decide +kernel
theorem dX6_detail_92 : decode cX6_detail 92 = .ok (.iload_n 1, 1) := by decide +kernel
theorem dX6_detail_93 : decode cX6_detail 93 = .ok (.invokestatic 196, 3) := by decide +kernel
theorem dX6_detail_96 : decode cX6_detail 96 = .ok (.ifCond .eq 7, 3) := by decide +kernel
theorem dX6_detail_99 : decode cX6_detail 99 = .ok (.iconst 1, 1) := by decide +kernel
theorem dX6_detail_100 : decode cX6_detail 100 = .ok (.goto 4, 3) := by decide +kernel
theorem dX6_detail_103 : decode cX6_detail 103 = .ok (.iconst 0, 1) := by decide +kernel
theorem dX6_detail_104 : decode cX6_detail 104 = .ok (.ireturn, 1) := by decide +kernel
theorem dX6_firstParted_0 : decode cX6_firstParted 0 = .ok (.lload_n 2, 1) := by decide +kernel
theorem dX6_firstParted_1 : decode cX6_firstParted 1 = .ok (.invokestatic 212, 3) := by decide +kernel
theorem dX6_firstParted_4 : decode cX6_firstParted 4 = .ok (.lload_n 0, 1) := by decide +kernel
theorem dX6_firstParted_5 : decode cX6_firstParted 5 = .ok (.invokestatic 212, 3) := by decide +kernel
theorem dX6_firstParted_8 : decode cX6_firstParted 8 = .ok (.iconst (-1), 1) := by decide +kernel
theorem dX6_firstParted_9 : decode cX6_firstParted 9 = .ok (.ixor, 1) := by decide +kernel
theorem dX6_firstParted_10 : decode cX6_firstParted 10 = .ok (.iand, 1) := by decide +kernel
theorem dX6_firstParted_11 : decode cX6_firstParted 11 = .ok (.istore 4, 2) := by decide +kernel
theorem dX6_firstParted_13 : decode cX6_firstParted 13 = .ok (.iload 4, 2) := by decide +kernel
theorem dX6_firstParted_15 : decode cX6_firstParted 15 = .ok (.ifCond .ne 8, 3) := by decide +kernel
theorem dX6_firstParted_18 : decode cX6_firstParted 18 = .ok (.bipush (-9), 2) := by decide +kernel
theorem dX6_firstParted_20 : decode cX6_firstParted 20 = .ok (.goto 8, 3) := by decide +kernel
theorem dX6_firstParted_23 : decode cX6_firstParted 23 = .ok (.iload 4, 2) := by decide +kernel
theorem dX6_firstParted_25 : decode cX6_firstParted 25 = .ok (.invokestatic 337, 3) := by decide +kernel
theorem dX6_firstParted_28 : decode cX6_firstParted 28 = .ok (.ireturn, 1) := by decide +kernel
theorem dX6_canFall_0 : decode cX6_canFall 0 = .ok (.iload_n 1, 1) := by decide +kernel
theorem dX6_canFall_1 : decode cX6_canFall 1 = .ok (.aload_n 0, 1) := by decide +kernel
theorem dX6_canFall_2 : decode cX6_canFall 2 = .ok (.getfield 45, 3) := by decide +kernel
theorem dX6_canFall_5 : decode cX6_canFall 5 = .ok (.invokevirtual 340, 3) := by decide +kernel
theorem dX6_canFall_8 : decode cX6_canFall 8 = .ok (.aload_n 0, 1) := by decide +kernel
theorem dX6_canFall_9 : decode cX6_canFall 9 = .ok (.getfield 31, 3) := by decide +kernel
theorem dX6_canFall_12 : decode cX6_canFall 12 = .ok (.invokevirtual 144, 3) := by decide +kernel
theorem dX6_canFall_15 : decode cX6_canFall 15 = .ok (.invokestatic 212, 3) := by decide +kernel
theorem dX6_canFall_18 : decode cX6_canFall 18 = .ok (.iconst (-1), 1) := by decide +kernel
theorem dX6_canFall_19 : decode cX6_canFall 19 = .ok (.ixor, 1) := by decide +kernel
theorem dX6_canFall_20 : decode cX6_canFall 20 = .ok (.iand, 1) := by decide +kernel
theorem dX6_canFall_21 : decode cX6_canFall 21 = .ok (.iconst (-1), 1) := by decide +kernel
theorem dX6_canFall_22 : decode cX6_canFall 22 = .ok (.ixor, 1) := by decide +kernel
theorem dX6_canFall_23 : decode cX6_canFall 23 = .ok (.iand, 1) := by decide +kernel
theorem dX6_canFall_24 : decode cX6_canFall 24 = .ok (.ifCond .ne 7, 3) := by decide +kernel
theorem dX6_canFall_27 : decode cX6_canFall 27 = .ok (.iconst 1, 1) := by decide +kernel
theorem dX6_canFall_28 : decode cX6_canFall 28 = .ok (.goto 4, 3) := by decide +kernel
theorem dX6_canFall_31 : decode cX6_canFall 31 = .ok (.iconst 0, 1) := by decide +kernel
theorem dX6_canFall_32 : decode cX6_canFall 32 = .ok (.ireturn, 1) := by decide +kernel
theorem dX6_roomiest_0 : decode cX6_roomiest 0 = .ok (.aload_n 0, 1) := by decide +kernel
theorem dX6_roomiest_1 : decode cX6_roomiest 1 = .ok (.getfield 31, 3) := by decide +kernel
theorem dX6_roomiest_4 : decode cX6_roomiest 4 = .ok (.invokevirtual 144, 3) := by decide +kernel
theorem dX6_roomiest_7 : decode cX6_roomiest 7 = .ok (.lstore_n 2, 1) := by decide +kernel
theorem dX6_roomiest_8 : decode cX6_roomiest 8 = .ok (.bipush (-9), 2) := by decide +kernel
theorem dX6_roomiest_10 : decode cX6_roomiest 10 = .ok (.istore 4, 2) := by decide +kernel
theorem dX6_roomiest_12 : decode cX6_roomiest 12 = .ok (.iconst 0, 1) := by decide +kernel
theorem dX6_roomiest_13 : decode cX6_roomiest 13 = .ok (.istore 5, 2) := by decide +kernel
theorem dX6_roomiest_15 : decode cX6_roomiest 15 = .ok (.iconst 0, 1) := by decide +kernel
theorem dX6_roomiest_16 : decode cX6_roomiest 16 = .ok (.istore 6, 2) := by decide +kernel
theorem dX6_roomiest_18 : decode cX6_roomiest 18 = .ok (.iload 6, 2) := by decide +kernel
theorem dX6_roomiest_20 : decode cX6_roomiest 20 = .ok (.aload_n 0, 1) := by decide +kernel
theorem dX6_roomiest_21 : decode cX6_roomiest 21 = .ok (.getfield 45, 3) := by decide +kernel
theorem dX6_roomiest_24 : decode cX6_roomiest 24 = .ok (.getfield 128, 3) := by decide +kernel
theorem dX6_roomiest_27 : decode cX6_roomiest 27 = .ok (.if_icmp .ge 62, 3) := by decide +kernel
theorem dX6_roomiest_30 : decode cX6_roomiest 30 = .ok (.aload_n 0, 1) := by decide +kernel
theorem dX6_roomiest_31 : decode cX6_roomiest 31 = .ok (.getfield 45, 3) := by decide +kernel
theorem dX6_roomiest_34 : decode cX6_roomiest 34 = .ok (.iload 6, 2) := by decide +kernel
theorem dX6_roomiest_36 : decode cX6_roomiest 36 = .ok (.invokevirtual 148, 3) := by decide +kernel
theorem dX6_roomiest_39 : decode cX6_roomiest 39 = .ok (.lload_n 2, 1) := by decide +kernel
theorem dX6_roomiest_40 : decode cX6_roomiest 40 = .ok (.iload 6, 2) := by decide +kernel
theorem dX6_roomiest_42 : decode cX6_roomiest 42 = .ok (.invokestatic 151, 3) := by decide +kernel
theorem dX6_roomiest_45 : decode cX6_roomiest 45 = .ok (.isub, 1) := by decide +kernel
theorem dX6_roomiest_46 : decode cX6_roomiest 46 = .ok (.aload_n 0, 1) := by decide +kernel
theorem dX6_roomiest_47 : decode cX6_roomiest 47 = .ok (.getfield 14, 3) := by decide +kernel
theorem dX6_roomiest_50 : decode cX6_roomiest 50 = .ok (.iload_n 1, 1) := by decide +kernel
theorem dX6_roomiest_51 : decode cX6_roomiest 51 = .ok (.iload 6, 2) := by decide +kernel
theorem dX6_roomiest_53 : decode cX6_roomiest 53 = .ok (.invokevirtual 73, 3) := by decide +kernel
theorem dX6_roomiest_56 : decode cX6_roomiest 56 = .ok (.isub, 1) := by decide +kernel
theorem dX6_roomiest_57 : decode cX6_roomiest 57 = .ok (.istore 7, 2) := by decide +kernel
theorem dX6_roomiest_59 : decode cX6_roomiest 59 = .ok (.lload_n 2, 1) := by decide +kernel
theorem dX6_roomiest_60 : decode cX6_roomiest 60 = .ok (.iload 6, 2) := by decide +kernel
theorem dX6_roomiest_62 : decode cX6_roomiest 62 = .ok (.invokestatic 334, 3) := by decide +kernel
theorem dX6_roomiest_65 : decode cX6_roomiest 65 = .ok (.ifCond .eq 18, 3) := by decide +kernel
theorem dX6_roomiest_68 : decode cX6_roomiest 68 = .ok (.iload 7, 2) := by decide +kernel
theorem dX6_roomiest_70 : decode cX6_roomiest 70 = .ok (.iload 5, 2) := by decide +kernel
theorem dX6_roomiest_72 : decode cX6_roomiest 72 = .ok (.if_icmp .le 11, 3) := by decide +kernel
theorem dX6_roomiest_75 : decode cX6_roomiest 75 = .ok (.iload 6, 2) := by decide +kernel
theorem dX6_roomiest_77 : decode cX6_roomiest 77 = .ok (.istore 4, 2) := by decide +kernel
theorem dX6_roomiest_79 : decode cX6_roomiest 79 = .ok (.iload 7, 2) := by decide +kernel
theorem dX6_roomiest_81 : decode cX6_roomiest 81 = .ok (.istore 5, 2) := by decide +kernel
theorem dX6_roomiest_83 : decode cX6_roomiest 83 = .ok (.iinc 6 1, 3) := by decide +kernel
theorem dX6_roomiest_86 : decode cX6_roomiest 86 = .ok (.goto (-68), 3) := by decide +kernel
theorem dX6_roomiest_89 : decode cX6_roomiest 89 = .ok (.iload 4, 2) := by decide +kernel
theorem dX6_roomiest_91 : decode cX6_roomiest 91 = .ok (.ireturn, 1) := by decide +kernel
theorem dX6_refusalOfPairs_0 : decode cX6_refusalOfPairs 0 = .ok (.aload_n 0, 1) := by decide +kernel
theorem dX6_refusalOfPairs_1 : decode cX6_refusalOfPairs 1 = .ok (.aload_n 0, 1) := by decide +kernel
theorem dX6_refusalOfPairs_2 : decode cX6_refusalOfPairs 2 = .ok (.getfield 14, 3) := by decide +kernel
theorem dX6_refusalOfPairs_5 : decode cX6_refusalOfPairs 5 = .ok (.iload_n 1, 1) := by decide +kernel
theorem dX6_refusalOfPairs_6 : decode cX6_refusalOfPairs 6 = .ok (.invokevirtual 84, 3) := by decide +kernel
theorem dX6_refusalOfPairs_9 : decode cX6_refusalOfPairs 9 = .ok (.istore_n 2, 1) := by decide +kernel
theorem dX6_refusalOfPairs_10 : decode cX6_refusalOfPairs 10 = .ok (.iload_n 2, 1) := by decide +kernel
theorem dX6_refusalOfPairs_11 : decode cX6_refusalOfPairs 11 = .ok (.ifCond .eq 5, 3) := by decide +kernel
theorem dX6_refusalOfPairs_14 : decode cX6_refusalOfPairs 14 = .ok (.iload_n 2, 1) := by decide +kernel
theorem dX6_refusalOfPairs_15 : decode cX6_refusalOfPairs 15 = .ok (.ireturn, 1) := by decide +kernel
theorem dX6_refusalOfPairs_16 : decode cX6_refusalOfPairs 16 = .ok (.aload_n 0, 1) := by decide +kernel
theorem dX6_refusalOfPairs_17 : decode cX6_refusalOfPairs 17 = .ok (.getfield 14, 3) := by decide +kernel
theorem dX6_refusalOfPairs_20 : decode cX6_refusalOfPairs 20 = .ok (.iload_n 1, 1) := by decide +kernel
theorem dX6_refusalOfPairs_21 : decode cX6_refusalOfPairs 21 = .ok (.invokevirtual 110, 3) := by decide +kernel
theorem dX6_refusalOfPairs_24 : decode cX6_refusalOfPairs 24 = .ok (.istore_n 3, 1) := by decide +kernel
theorem dX6_refusalOfPairs_25 : decode cX6_refusalOfPairs 25 = .ok (.iload_n 3, 1) := by decide +kernel
theorem dX6_refusalOfPairs_26 : decode cX6_refusalOfPairs 26 = .ok (.bipush 16, 2) := by decide +kernel
theorem dX6_refusalOfPairs_28 : decode cX6_refusalOfPairs 28 = .ok (.if_icmp .gt 9, 3) := by decide +kernel
theorem dX6_refusalOfPairs_31 : decode cX6_refusalOfPairs 31 = .ok (.iload_n 3, 1) := by decide +kernel
theorem dX6_refusalOfPairs_32 : decode cX6_refusalOfPairs 32 = .ok (.iconst 2, 1) := by decide +kernel
theorem dX6_refusalOfPairs_33 : decode cX6_refusalOfPairs 33 = .ok (.irem, 1) := by decide +kernel
theorem dX6_refusalOfPairs_34 : decode cX6_refusalOfPairs 34 = .ok (.ifCond .eq 9, 3) := by decide +kernel
theorem dX6_refusalOfPairs_37 : decode cX6_refusalOfPairs 37 = .ok (.aload_n 0, 1) := by decide +kernel
theorem dX6_refusalOfPairs_38 : decode cX6_refusalOfPairs 38 = .ok (.iconst 5, 1) := by decide +kernel
theorem dX6_refusalOfPairs_39 : decode cX6_refusalOfPairs 39 = .ok (.invokevirtual 96, 3) := by decide +kernel
theorem dX6_refusalOfPairs_42 : decode cX6_refusalOfPairs 42 = .ok (.ireturn, 1) := by decide +kernel
theorem dX6_refusalOfPairs_43 : decode cX6_refusalOfPairs 43 = .ok (.iconst 0, 1) := by decide +kernel
theorem dX6_refusalOfPairs_44 : decode cX6_refusalOfPairs 44 = .ok (.istore 4, 2) := by decide +kernel
theorem dX6_refusalOfPairs_46 : decode cX6_refusalOfPairs 46 = .ok (.iload 4, 2) := by decide +kernel
theorem dX6_refusalOfPairs_48 : decode cX6_refusalOfPairs 48 = .ok (.iload_n 3, 1) := by decide +kernel
theorem dX6_refusalOfPairs_49 : decode cX6_refusalOfPairs 49 = .ok (.if_icmp .ge 43, 3) := by decide +kernel
theorem dX6_refusalOfPairs_52 : decode cX6_refusalOfPairs 52 = .ok (.aload_n 0, 1) := by decide +kernel
theorem dX6_refusalOfPairs_53 : decode cX6_refusalOfPairs 53 = .ok (.getfield 14, 3) := by decide +kernel
theorem dX6_refusalOfPairs_56 : decode cX6_refusalOfPairs 56 = .ok (.iload_n 1, 1) := by decide +kernel
theorem dX6_refusalOfPairs_57 : decode cX6_refusalOfPairs 57 = .ok (.iload 4, 2) := by decide +kernel
theorem dX6_refusalOfPairs_59 : decode cX6_refusalOfPairs 59 = .ok (.invokevirtual 73, 3) := by decide +kernel
theorem dX6_refusalOfPairs_62 : decode cX6_refusalOfPairs 62 = .ok (.ifCond .lt 18, 3) := by decide +kernel
theorem dX6_refusalOfPairs_65 : decode cX6_refusalOfPairs 65 = .ok (.aload_n 0, 1) := by decide +kernel
theorem dX6_refusalOfPairs_66 : decode cX6_refusalOfPairs 66 = .ok (.getfield 14, 3) := by decide +kernel
theorem dX6_refusalOfPairs_69 : decode cX6_refusalOfPairs 69 = .ok (.iload_n 1, 1) := by decide +kernel
theorem dX6_refusalOfPairs_70 : decode cX6_refusalOfPairs 70 = .ok (.iload 4, 2) := by decide +kernel
theorem dX6_refusalOfPairs_72 : decode cX6_refusalOfPairs 72 = .ok (.invokevirtual 73, 3) := by decide +kernel
theorem dX6_refusalOfPairs_75 : decode cX6_refusalOfPairs 75 = .ok (.bipush 99, 2) := by decide +kernel
theorem dX6_refusalOfPairs_77 : decode cX6_refusalOfPairs 77 = .ok (.if_icmp .le 9, 3) := by decide +kernel
theorem dX6_refusalOfPairs_80 : decode cX6_refusalOfPairs 80 = .ok (.aload_n 0, 1) := by decide +kernel
theorem dX6_refusalOfPairs_81 : decode cX6_refusalOfPairs 81 = .ok (.iconst 3, 1) := by decide +kernel
theorem dX6_refusalOfPairs_82 : decode cX6_refusalOfPairs 82 = .ok (.invokevirtual 96, 3) := by decide +kernel
theorem dX6_refusalOfPairs_85 : decode cX6_refusalOfPairs 85 = .ok (.ireturn, 1) := by decide +kernel
theorem dX6_refusalOfPairs_86 : decode cX6_refusalOfPairs 86 = .ok (.iinc 4 1, 3) := by decide +kernel
theorem dX6_refusalOfPairs_89 : decode cX6_refusalOfPairs 89 = .ok (.goto (-43), 3) := by decide +kernel
theorem dX6_refusalOfPairs_92 : decode cX6_refusalOfPairs 92 = .ok (.iconst 0, 1) := by decide +kernel
theorem dX6_refusalOfPairs_93 : decode cX6_refusalOfPairs 93 = .ok (.ireturn, 1) := by decide +kernel
theorem dX6_kindsThatFit_0 : decode cX6_kindsThatFit 0 = .ok (.iconst 0, 1) := by decide +kernel
theorem dX6_kindsThatFit_1 : decode cX6_kindsThatFit 1 = .ok (.istore_n 2, 1) := by decide +kernel
theorem dX6_kindsThatFit_2 : decode cX6_kindsThatFit 2 = .ok (.iconst 0, 1) := by decide +kernel
theorem dX6_kindsThatFit_3 : decode cX6_kindsThatFit 3 = .ok (.istore_n 3, 1) := by decide +kernel
theorem dX6_kindsThatFit_4 : decode cX6_kindsThatFit 4 = .ok (.iload_n 3, 1) := by decide +kernel
theorem dX6_kindsThatFit_5 : decode cX6_kindsThatFit 5 = .ok (.bipush 6, 2) := by decide +kernel
theorem dX6_kindsThatFit_7 : decode cX6_kindsThatFit 7 = .ok (.if_icmp .ge 88, 3) := by decide +kernel
theorem dX6_kindsThatFit_10 : decode cX6_kindsThatFit 10 = .ok (.iconst 1, 1) := by decide +kernel
theorem dX6_kindsThatFit_11 : decode cX6_kindsThatFit 11 = .ok (.istore 4, 2) := by decide +kernel
theorem dX6_kindsThatFit_13 : decode cX6_kindsThatFit 13 = .ok (.iconst 0, 1) := by decide +kernel
theorem dX6_kindsThatFit_14 : decode cX6_kindsThatFit 14 = .ok (.istore 5, 2) := by decide +kernel
theorem dX6_kindsThatFit_16 : decode cX6_kindsThatFit 16 = .ok (.iload 5, 2) := by decide +kernel
theorem dX6_kindsThatFit_18 : decode cX6_kindsThatFit 18 = .ok (.iconst 1, 1) := by decide +kernel
theorem dX6_kindsThatFit_19 : decode cX6_kindsThatFit 19 = .ok (.iadd, 1) := by decide +kernel
theorem dX6_kindsThatFit_20 : decode cX6_kindsThatFit 20 = .ok (.aload_n 0, 1) := by decide +kernel
theorem dX6_kindsThatFit_21 : decode cX6_kindsThatFit 21 = .ok (.getfield 14, 3) := by decide +kernel
theorem dX6_kindsThatFit_24 : decode cX6_kindsThatFit 24 = .ok (.iload_n 1, 1) := by decide +kernel
theorem dX6_kindsThatFit_25 : decode cX6_kindsThatFit 25 = .ok (.invokevirtual 110, 3) := by decide +kernel
theorem dX6_kindsThatFit_28 : decode cX6_kindsThatFit 28 = .ok (.if_icmp .ge 50, 3) := by decide +kernel
theorem dX6_kindsThatFit_31 : decode cX6_kindsThatFit 31 = .ok (.iload 4, 2) := by decide +kernel
theorem dX6_kindsThatFit_33 : decode cX6_kindsThatFit 33 = .ok (.ifCond .eq 36, 3) := by decide +kernel
theorem dX6_kindsThatFit_36 : decode cX6_kindsThatFit 36 = .ok (.iload_n 3, 1) := by decide +kernel
theorem dX6_kindsThatFit_37 : decode cX6_kindsThatFit 37 = .ok (.aload_n 0, 1) := by decide +kernel
theorem dX6_kindsThatFit_38 : decode cX6_kindsThatFit 38 = .ok (.getfield 14, 3) := by decide +kernel
theorem dX6_kindsThatFit_41 : decode cX6_kindsThatFit 41 = .ok (.iload_n 1, 1) := by decide +kernel
theorem dX6_kindsThatFit_42 : decode cX6_kindsThatFit 42 = .ok (.iload 5, 2) := by decide +kernel
theorem dX6_kindsThatFit_44 : decode cX6_kindsThatFit 44 = .ok (.invokevirtual 73, 3) := by decide +kernel
theorem dX6_kindsThatFit_47 : decode cX6_kindsThatFit 47 = .ok (.invokestatic 163, 3) := by decide +kernel
theorem dX6_kindsThatFit_50 : decode cX6_kindsThatFit 50 = .ok (.aload_n 0, 1) := by decide +kernel
theorem dX6_kindsThatFit_51 : decode cX6_kindsThatFit 51 = .ok (.getfield 14, 3) := by decide +kernel
theorem dX6_kindsThatFit_54 : decode cX6_kindsThatFit 54 = .ok (.iload_n 1, 1) := by decide +kernel
theorem dX6_kindsThatFit_55 : decode cX6_kindsThatFit 55 = .ok (.iload 5, 2) := by decide +kernel
theorem dX6_kindsThatFit_57 : decode cX6_kindsThatFit 57 = .ok (.iconst 1, 1) := by decide +kernel
theorem dX6_kindsThatFit_58 : decode cX6_kindsThatFit 58 = .ok (.iadd, 1) := by decide +kernel
theorem dX6_kindsThatFit_59 : decode cX6_kindsThatFit 59 = .ok (.invokevirtual 73, 3) := by decide +kernel
theorem dX6_kindsThatFit_62 : decode cX6_kindsThatFit 62 = .ok (.if_icmp .ne 7, 3) := by decide +kernel
theorem dX6_kindsThatFit_65 : decode cX6_kindsThatFit 65 = .ok (.iconst 1, 1) := by decide +kernel
theorem dX6_kindsThatFit_66 : decode cX6_kindsThatFit 66 = .ok (.goto 4, 3) := by decide +kernel
theorem dX6_kindsThatFit_69 : decode cX6_kindsThatFit 69 = .ok (.iconst 0, 1) := by decide +kernel
theorem dX6_kindsThatFit_70 : decode cX6_kindsThatFit 70 = .ok (.istore 4, 2) := by decide +kernel
theorem dX6_kindsThatFit_72 : decode cX6_kindsThatFit 72 = .ok (.iinc 5 2, 3) := by decide +kernel
theorem dX6_kindsThatFit_75 : decode cX6_kindsThatFit 75 = .ok (.goto (-59), 3) := by decide +kernel
theorem dX6_kindsThatFit_78 : decode cX6_kindsThatFit 78 = .ok (.iload 4, 2) := by decide +kernel
theorem dX6_kindsThatFit_80 : decode cX6_kindsThatFit 80 = .ok (.ifCond .eq 9, 3) := by decide +kernel
theorem dX6_kindsThatFit_83 : decode cX6_kindsThatFit 83 = .ok (.iload_n 2, 1) := by decide +kernel
theorem dX6_kindsThatFit_84 : decode cX6_kindsThatFit 84 = .ok (.iconst 1, 1) := by decide +kernel
theorem dX6_kindsThatFit_85 : decode cX6_kindsThatFit 85 = .ok (.iload_n 3, 1) := by decide +kernel
theorem dX6_kindsThatFit_86 : decode cX6_kindsThatFit 86 = .ok (.ishl, 1) := by decide +kernel
theorem dX6_kindsThatFit_87 : decode cX6_kindsThatFit 87 = .ok (.ior, 1) := by decide +kernel
theorem dX6_kindsThatFit_88 : decode cX6_kindsThatFit 88 = .ok (.istore_n 2, 1) := by decide +kernel
theorem dX6_kindsThatFit_89 : decode cX6_kindsThatFit 89 = .ok (.iinc 3 1, 3) := by decide +kernel
theorem dX6_kindsThatFit_92 : decode cX6_kindsThatFit 92 = .ok (.goto (-88), 3) := by decide +kernel
theorem dX6_kindsThatFit_95 : decode cX6_kindsThatFit 95 = .ok (.iload_n 2, 1) := by decide +kernel
theorem dX6_kindsThatFit_96 : decode cX6_kindsThatFit 96 = .ok (.ireturn, 1) := by decide +kernel
theorem dX6_greatestPart_0 : decode cX6_greatestPart 0 = .ok (.iconst 0, 1) := by decide +kernel
theorem dX6_greatestPart_1 : decode cX6_greatestPart 1 = .ok (.istore_n 2, 1) := by decide +kernel
theorem dX6_greatestPart_2 : decode cX6_greatestPart 2 = .ok (.iconst 0, 1) := by decide +kernel
theorem dX6_greatestPart_3 : decode cX6_greatestPart 3 = .ok (.istore_n 3, 1) := by decide +kernel
theorem dX6_greatestPart_4 : decode cX6_greatestPart 4 = .ok (.iload_n 3, 1) := by decide +kernel
theorem dX6_greatestPart_5 : decode cX6_greatestPart 5 = .ok (.bipush 6, 2) := by decide +kernel
theorem dX6_greatestPart_7 : decode cX6_greatestPart 7 = .ok (.if_icmp .ge 61, 3) := by decide +kernel
theorem dX6_greatestPart_10 : decode cX6_greatestPart 10 = .ok (.iconst 0, 1) := by decide +kernel
theorem dX6_greatestPart_11 : decode cX6_greatestPart 11 = .ok (.istore 4, 2) := by decide +kernel
theorem dX6_greatestPart_13 : decode cX6_greatestPart 13 = .ok (.iconst 0, 1) := by decide +kernel
theorem dX6_greatestPart_14 : decode cX6_greatestPart 14 = .ok (.istore 5, 2) := by decide +kernel
theorem dX6_greatestPart_16 : decode cX6_greatestPart 16 = .ok (.iload 5, 2) := by decide +kernel
theorem dX6_greatestPart_18 : decode cX6_greatestPart 18 = .ok (.bipush 6, 2) := by decide +kernel
theorem dX6_greatestPart_20 : decode cX6_greatestPart 20 = .ok (.if_icmp .ge 35, 3) := by decide +kernel
theorem dX6_greatestPart_23 : decode cX6_greatestPart 23 = .ok (.iload_n 0, 1) := by decide +kernel
theorem dX6_greatestPart_24 : decode cX6_greatestPart 24 = .ok (.iload 5, 2) := by decide +kernel
theorem dX6_greatestPart_26 : decode cX6_greatestPart 26 = .ok (.ishr, 1) := by decide +kernel
theorem dX6_greatestPart_27 : decode cX6_greatestPart 27 = .ok (.iconst 1, 1) := by decide +kernel
theorem dX6_greatestPart_28 : decode cX6_greatestPart 28 = .ok (.iand, 1) := by decide +kernel
theorem dX6_greatestPart_29 : decode cX6_greatestPart 29 = .ok (.ifCond .eq 20, 3) := by decide +kernel
theorem dX6_greatestPart_32 : decode cX6_greatestPart 32 = .ok (.iload 5, 2) := by decide +kernel
theorem dX6_greatestPart_34 : decode cX6_greatestPart 34 = .ok (.iload_n 1, 1) := by decide +kernel
theorem dX6_greatestPart_35 : decode cX6_greatestPart 35 = .ok (.invokestatic 163, 3) := by decide +kernel
theorem dX6_greatestPart_38 : decode cX6_greatestPart 38 = .ok (.iload_n 3, 1) := by decide +kernel
theorem dX6_greatestPart_39 : decode cX6_greatestPart 39 = .ok (.iload_n 1, 1) := by decide +kernel
theorem dX6_greatestPart_40 : decode cX6_greatestPart 40 = .ok (.invokestatic 163, 3) := by decide +kernel
theorem dX6_greatestPart_43 : decode cX6_greatestPart 43 = .ok (.if_icmp .ne 6, 3) := by decide +kernel
theorem dX6_greatestPart_46 : decode cX6_greatestPart 46 = .ok (.iinc 4 1, 3) := by decide +kernel
theorem dX6_greatestPart_49 : decode cX6_greatestPart 49 = .ok (.iinc 5 1, 3) := by decide +kernel
theorem dX6_greatestPart_52 : decode cX6_greatestPart 52 = .ok (.goto (-36), 3) := by decide +kernel
theorem dX6_greatestPart_55 : decode cX6_greatestPart 55 = .ok (.iload_n 2, 1) := by decide +kernel
theorem dX6_greatestPart_56 : decode cX6_greatestPart 56 = .ok (.iload 4, 2) := by decide +kernel
theorem dX6_greatestPart_58 : decode cX6_greatestPart 58 = .ok (.invokestatic 343, 3) := by decide +kernel
theorem dX6_greatestPart_61 : decode cX6_greatestPart 61 = .ok (.istore_n 2, 1) := by decide +kernel
theorem dX6_greatestPart_62 : decode cX6_greatestPart 62 = .ok (.iinc 3 1, 3) := by decide +kernel
theorem dX6_greatestPart_65 : decode cX6_greatestPart 65 = .ok (.goto (-61), 3) := by decide +kernel
theorem dX6_greatestPart_68 : decode cX6_greatestPart 68 = .ok (.iload_n 2, 1) := by decide +kernel
theorem dX6_greatestPart_69 : decode cX6_greatestPart 69 = .ok (.ireturn, 1) := by decide +kernel
theorem dX6_blow_0 : decode cX6_blow 0 = .ok (.aload_n 0, 1) := by decide +kernel
theorem dX6_blow_1 : decode cX6_blow 1 = .ok (.getfield 31, 3) := by decide +kernel
theorem dX6_blow_4 : decode cX6_blow 4 = .ok (.invokevirtual 144, 3) := by decide +kernel
theorem dX6_blow_7 : decode cX6_blow 7 = .ok (.lstore_n 3, 1) := by decide +kernel
theorem dX6_blow_8 : decode cX6_blow 8 = .ok (.aload_n 0, 1) := by decide +kernel
theorem dX6_blow_9 : decode cX6_blow 9 = .ok (.getfield 45, 3) := by decide +kernel
theorem dX6_blow_12 : decode cX6_blow 12 = .ok (.invokevirtual 340, 3) := by decide +kernel
theorem dX6_blow_15 : decode cX6_blow 15 = .ok (.lload_n 3, 1) := by decide +kernel
theorem dX6_blow_16 : decode cX6_blow 16 = .ok (.invokestatic 212, 3) := by decide +kernel
theorem dX6_blow_19 : decode cX6_blow 19 = .ok (.iconst (-1), 1) := by decide +kernel
theorem dX6_blow_20 : decode cX6_blow 20 = .ok (.ixor, 1) := by decide +kernel
theorem dX6_blow_21 : decode cX6_blow 21 = .ok (.iand, 1) := by decide +kernel
theorem dX6_blow_22 : decode cX6_blow 22 = .ok (.istore 5, 2) := by decide +kernel
theorem dX6_blow_24 : decode cX6_blow 24 = .ok (.iload 5, 2) := by decide +kernel
theorem dX6_blow_26 : decode cX6_blow 26 = .ok (.invokestatic 170, 3) := by decide +kernel
theorem dX6_blow_29 : decode cX6_blow 29 = .ok (.istore 6, 2) := by decide +kernel
theorem dX6_blow_31 : decode cX6_blow 31 = .ok (.lconst 0, 1) := by decide +kernel
theorem dX6_blow_32 : decode cX6_blow 32 = .ok (.lstore 7, 2) := by decide +kernel
theorem dX6_blow_34 : decode cX6_blow 34 = .ok (.iconst 0, 1) := by decide +kernel
theorem dX6_blow_35 : decode cX6_blow 35 = .ok (.istore 9, 2) := by decide +kernel
theorem dX6_blow_37 : decode cX6_blow 37 = .ok (.iload 9, 2) := by decide +kernel
theorem dX6_blow_39 : decode cX6_blow 39 = .ok (.bipush 64, 2) := by decide +kernel
theorem dX6_blow_41 : decode cX6_blow 41 = .ok (.if_icmp .ge 74, 3) := by decide +kernel
theorem dX6_blow_44 : decode cX6_blow 44 = .ok (.iload 9, 2) := by decide +kernel
theorem dX6_blow_46 : decode cX6_blow 46 = .ok (.iload 5, 2) := by decide +kernel
theorem dX6_blow_48 : decode cX6_blow 48 = .ok (.iconst (-1), 1) := by decide +kernel
theorem dX6_blow_49 : decode cX6_blow 49 = .ok (.ixor, 1) := by decide +kernel
theorem dX6_blow_50 : decode cX6_blow 50 = .ok (.iand, 1) := by decide +kernel
theorem dX6_blow_51 : decode cX6_blow 51 = .ok (.ifCond .ne 58, 3) := by decide +kernel
theorem dX6_blow_54 : decode cX6_blow 54 = .ok (.iload 9, 2) := by decide +kernel
theorem dX6_blow_56 : decode cX6_blow 56 = .ok (.invokestatic 170, 3) := by decide +kernel
theorem dX6_blow_59 : decode cX6_blow 59 = .ok (.istore 10, 2) := by decide +kernel
theorem dX6_blow_61 : decode cX6_blow 61 = .ok (.iload_n 2, 1) := by decide +kernel
theorem dX6_blow_62 : decode cX6_blow 62 = .ok (.iload 10, 2) := by decide +kernel
theorem dX6_blow_64 : decode cX6_blow 64 = .ok (.invokestatic 348, 3) := by decide +kernel
theorem dX6_blow_67 : decode cX6_blow 67 = .ok (.bipush 12, 2) := by decide +kernel
theorem dX6_blow_69 : decode cX6_blow 69 = .ok (.iload_n 2, 1) := by decide +kernel
theorem dX6_blow_70 : decode cX6_blow 70 = .ok (.isub, 1) := by decide +kernel
theorem dX6_blow_71 : decode cX6_blow 71 = .ok (.iload 6, 2) := by decide +kernel
theorem dX6_blow_73 : decode cX6_blow 73 = .ok (.iload 10, 2) := by decide +kernel
theorem dX6_blow_75 : decode cX6_blow 75 = .ok (.isub, 1) := by decide +kernel
theorem dX6_blow_76 : decode cX6_blow 76 = .ok (.invokestatic 348, 3) := by decide +kernel
theorem dX6_blow_79 : decode cX6_blow 79 = .ok (.lmul, 1) := by decide +kernel
theorem dX6_blow_80 : decode cX6_blow 80 = .ok (.lstore 11, 2) := by decide +kernel
theorem dX6_blow_82 : decode cX6_blow 82 = .ok (.lload 7, 2) := by decide +kernel
theorem dX6_blow_84 : decode cX6_blow 84 = .ok (.lload 11, 2) := by decide +kernel
theorem dX6_blow_86 : decode cX6_blow 86 = .ok (.aload_n 0, 1) := by decide +kernel
theorem dX6_blow_87 : decode cX6_blow 87 = .ok (.getfield 45, 3) := by decide +kernel
theorem dX6_blow_90 : decode cX6_blow 90 = .ok (.lload_n 3, 1) := by decide +kernel
theorem dX6_blow_91 : decode cX6_blow 91 = .ok (.iload 9, 2) := by decide +kernel
theorem dX6_blow_93 : decode cX6_blow 93 = .ok (.invokestatic 209, 3) := by decide +kernel
theorem dX6_blow_96 : decode cX6_blow 96 = .ok (.invokevirtual 250, 3) := by decide +kernel
theorem dX6_blow_99 : decode cX6_blow 99 = .ok (.iload_n 1, 1) := by decide +kernel
theorem dX6_blow_100 : decode cX6_blow 100 = .ok (.iand, 1) := by decide +kernel
theorem dX6_blow_101 : decode cX6_blow 101 = .ok (.invokestatic 170, 3) := by decide +kernel
theorem dX6_blow_104 : decode cX6_blow 104 = .ok (.i2l, 1) := by decide +kernel
theorem dX6_blow_105 : decode cX6_blow 105 = .ok (.lmul, 1) := by decide +kernel
theorem dX6_blow_106 : decode cX6_blow 106 = .ok (.ladd, 1) := by decide +kernel
theorem dX6_blow_107 : decode cX6_blow 107 = .ok (.lstore 7, 2) := by decide +kernel
theorem dX6_blow_109 : decode cX6_blow 109 = .ok (.iinc 9 1, 3) := by decide +kernel
theorem dX6_blow_112 : decode cX6_blow 112 = .ok (.goto (-75), 3) := by decide +kernel
theorem dX6_blow_115 : decode cX6_blow 115 = .ok (.aload_n 0, 1) := by decide +kernel
theorem dX6_blow_116 : decode cX6_blow 116 = .ok (.lload 7, 2) := by decide +kernel
theorem dX6_blow_118 : decode cX6_blow 118 = .ok (.bipush 12, 2) := by decide +kernel
theorem dX6_blow_120 : decode cX6_blow 120 = .ok (.iload 6, 2) := by decide +kernel
theorem dX6_blow_122 : decode cX6_blow 122 = .ok (.invokestatic 348, 3) := by decide +kernel
theorem dX6_blow_125 : decode cX6_blow 125 = .ok (.invokevirtual 352, 3) := by decide +kernel
theorem dX6_blow_128 : decode cX6_blow 128 = .ok (.ireturn, 1) := by decide +kernel
theorem dX6_tellPart_0 : decode cX6_tellPart 0 = .ok (.lload_n 1, 1) := by decide +kernel
theorem dX6_tellPart_1 : decode cX6_tellPart 1 = .ok (.lload_n 3, 1) := by decide +kernel
theorem dX6_tellPart_2 : decode cX6_tellPart 2 = .ok (.invokestatic 355, 3) := by decide +kernel
theorem dX6_tellPart_5 : decode cX6_tellPart 5 = .ok (.lstore 5, 2) := by decide +kernel
theorem dX6_tellPart_7 : decode cX6_tellPart 7 = .ok (.lload 5, 2) := by decide +kernel
theorem dX6_tellPart_9 : decode cX6_tellPart 9 = .ok (.lconst 0, 1) := by decide +kernel
theorem dX6_tellPart_10 : decode cX6_tellPart 10 = .ok (.lcmp, 1) := by decide +kernel
theorem dX6_tellPart_11 : decode cX6_tellPart 11 = .ok (.ifCond .le 19, 3) := by decide +kernel
theorem dX6_tellPart_14 : decode cX6_tellPart 14 = .ok (.aload_n 0, 1) := by decide +kernel
theorem dX6_tellPart_15 : decode cX6_tellPart 15 = .ok (.lload_n 1, 1) := by decide +kernel
theorem dX6_tellPart_16 : decode cX6_tellPart 16 = .ok (.lload 5, 2) := by decide +kernel
theorem dX6_tellPart_18 : decode cX6_tellPart 18 = .ok (.ldiv, 1) := by decide +kernel
theorem dX6_tellPart_19 : decode cX6_tellPart 19 = .ok (.putfield 59, 3) := by decide +kernel
theorem dX6_tellPart_22 : decode cX6_tellPart 22 = .ok (.aload_n 0, 1) := by decide +kernel
theorem dX6_tellPart_23 : decode cX6_tellPart 23 = .ok (.lload_n 3, 1) := by decide +kernel
theorem dX6_tellPart_24 : decode cX6_tellPart 24 = .ok (.lload 5, 2) := by decide +kernel
theorem dX6_tellPart_26 : decode cX6_tellPart 26 = .ok (.ldiv, 1) := by decide +kernel
theorem dX6_tellPart_27 : decode cX6_tellPart 27 = .ok (.putfield 63, 3) := by decide +kernel
theorem dX6_tellPart_30 : decode cX6_tellPart 30 = .ok (.iconst 1, 1) := by decide +kernel
theorem dX6_tellPart_31 : decode cX6_tellPart 31 = .ok (.ireturn, 1) := by decide +kernel
theorem dX6_greatestDivisor_0 : decode cX6_greatestDivisor 0 = .ok (.lload_n 0, 1) := by decide +kernel
theorem dX6_greatestDivisor_1 : decode cX6_greatestDivisor 1 = .ok (.lstore 4, 2) := by decide +kernel
theorem dX6_greatestDivisor_3 : decode cX6_greatestDivisor 3 = .ok (.lload_n 2, 1) := by decide +kernel
theorem dX6_greatestDivisor_4 : decode cX6_greatestDivisor 4 = .ok (.lstore 6, 2) := by decide +kernel
theorem dX6_greatestDivisor_6 : decode cX6_greatestDivisor 6 = .ok (.iconst 0, 1) := by decide +kernel
theorem dX6_greatestDivisor_7 : decode cX6_greatestDivisor 7 = .ok (.istore 8, 2) := by decide +kernel
theorem dX6_greatestDivisor_9 : decode cX6_greatestDivisor 9 = .ok (.iload 8, 2) := by decide +kernel
theorem dX6_greatestDivisor_11 : decode cX6_greatestDivisor 11 = .ok (.sipush 200, 3) := by decide +kernel
theorem dX6_greatestDivisor_14 : decode cX6_greatestDivisor 14 = .ok (.if_icmp .ge 31, 3) := by decide +kernel
theorem dX6_greatestDivisor_17 : decode cX6_greatestDivisor 17 = .ok (.lload 6, 2) := by decide +kernel
theorem dX6_greatestDivisor_19 : decode cX6_greatestDivisor 19 = .ok (.lconst 0, 1) := by decide +kernel
theorem dX6_greatestDivisor_20 : decode cX6_greatestDivisor 20 = .ok (.lcmp, 1) := by decide +kernel
theorem dX6_greatestDivisor_21 : decode cX6_greatestDivisor 21 = .ok (.ifCond .eq 24, 3) := by decide +kernel
theorem dX6_greatestDivisor_24 : decode cX6_greatestDivisor 24 = .ok (.lload 4, 2) := by decide +kernel
theorem dX6_greatestDivisor_26 : decode cX6_greatestDivisor 26 = .ok (.lload 6, 2) := by decide +kernel
theorem dX6_greatestDivisor_28 : decode cX6_greatestDivisor 28 = .ok (.lrem, 1) := by decide +kernel
theorem dX6_greatestDivisor_29 : decode cX6_greatestDivisor 29 = .ok (.lstore 9, 2) := by decide +kernel
theorem dX6_greatestDivisor_31 : decode cX6_greatestDivisor 31 = .ok (.lload 6, 2) := by decide +kernel
theorem dX6_greatestDivisor_33 : decode cX6_greatestDivisor 33 = .ok (.lstore 4, 2) := by decide +kernel
theorem dX6_greatestDivisor_35 : decode cX6_greatestDivisor 35 = .ok (.lload 9, 2) := by decide +kernel
theorem dX6_greatestDivisor_37 : decode cX6_greatestDivisor 37 = .ok (.lstore 6, 2) := by decide +kernel
theorem dX6_greatestDivisor_39 : decode cX6_greatestDivisor 39 = .ok (.iinc 8 1, 3) := by decide +kernel
theorem dX6_greatestDivisor_42 : decode cX6_greatestDivisor 42 = .ok (.goto (-33), 3) := by decide +kernel
theorem dX6_greatestDivisor_45 : decode cX6_greatestDivisor 45 = .ok (.lload 4, 2) := by decide +kernel
theorem dX6_greatestDivisor_47 : decode cX6_greatestDivisor 47 = .ok (.lreturn, 1) := by decide +kernel
theorem dX6_power_0 : decode cX6_power 0 = .ok (.lconst 1, 1) := by decide +kernel
theorem dX6_power_1 : decode cX6_power 1 = .ok (.lstore_n 2, 1) := by decide +kernel
theorem dX6_power_2 : decode cX6_power 2 = .ok (.iconst 0, 1) := by decide +kernel
theorem dX6_power_3 : decode cX6_power 3 = .ok (.istore 4, 2) := by decide +kernel
theorem dX6_power_5 : decode cX6_power 5 = .ok (.iload 4, 2) := by decide +kernel
theorem dX6_power_7 : decode cX6_power 7 = .ok (.iload_n 1, 1) := by decide +kernel
theorem dX6_power_8 : decode cX6_power 8 = .ok (.if_icmp .ge 14, 3) := by decide +kernel
theorem dX6_power_11 : decode cX6_power 11 = .ok (.lload_n 2, 1) := by decide +kernel
theorem dX6_power_12 : decode cX6_power 12 = .ok (.iload_n 0, 1) := by decide +kernel
theorem dX6_power_13 : decode cX6_power 13 = .ok (.i2l, 1) := by decide +kernel
theorem dX6_power_14 : decode cX6_power 14 = .ok (.lmul, 1) := by decide +kernel
theorem dX6_power_15 : decode cX6_power 15 = .ok (.lstore_n 2, 1) := by decide +kernel
theorem dX6_power_16 : decode cX6_power 16 = .ok (.iinc 4 1, 3) := by decide +kernel
theorem dX6_power_19 : decode cX6_power 19 = .ok (.goto (-14), 3) := by decide +kernel
theorem dX6_power_22 : decode cX6_power 22 = .ok (.lload_n 2, 1) := by decide +kernel
theorem dX6_power_23 : decode cX6_power 23 = .ok (.lreturn, 1) := by decide +kernel
theorem dX6_isOf_0 : decode cX6_isOf 0 = .ok (.iload_n 0, 1) := by decide +kernel
theorem dX6_isOf_1 : decode cX6_isOf 1 = .ok (.iload_n 1, 1) := by decide +kernel
theorem dX6_isOf_2 : decode cX6_isOf 2 = .ok (.if_icmp .eq 27, 3) := by decide +kernel
theorem dX6_isOf_5 : decode cX6_isOf 5 = .ok (.iload_n 1, 1) := by decide +kernel
theorem dX6_isOf_6 : decode cX6_isOf 6 = .ok (.ifCond .eq 23, 3) := by decide +kernel
theorem dX6_isOf_9 : decode cX6_isOf 9 = .ok (.iload_n 0, 1) := by decide +kernel
theorem dX6_isOf_10 : decode cX6_isOf 10 = .ok (.iconst 4, 1) := by decide +kernel
theorem dX6_isOf_11 : decode cX6_isOf 11 = .ok (.if_icmp .ne 8, 3) := by decide +kernel
theorem dX6_isOf_14 : decode cX6_isOf 14 = .ok (.iload_n 1, 1) := by decide +kernel
theorem dX6_isOf_15 : decode cX6_isOf 15 = .ok (.iconst 1, 1) := by decide +kernel
theorem dX6_isOf_16 : decode cX6_isOf 16 = .ok (.if_icmp .eq 13, 3) := by decide +kernel
theorem dX6_isOf_19 : decode cX6_isOf 19 = .ok (.iload_n 0, 1) := by decide +kernel
theorem dX6_isOf_20 : decode cX6_isOf 20 = .ok (.iconst 5, 1) := by decide +kernel
theorem dX6_isOf_21 : decode cX6_isOf 21 = .ok (.if_icmp .ne 12, 3) := by decide +kernel
theorem dX6_isOf_24 : decode cX6_isOf 24 = .ok (.iload_n 1, 1) := by decide +kernel
theorem dX6_isOf_25 : decode cX6_isOf 25 = .ok (.iconst 3, 1) := by decide +kernel
theorem dX6_isOf_26 : decode cX6_isOf 26 = .ok (.if_icmp .ne 7, 3) := by decide +kernel
theorem dX6_isOf_29 : decode cX6_isOf 29 = .ok (.iconst 1, 1) := by decide +kernel
theorem dX6_isOf_30 : decode cX6_isOf 30 = .ok (.goto 4, 3) := by decide +kernel
theorem dX6_isOf_33 : decode cX6_isOf 33 = .ok (.iconst 0, 1) := by decide +kernel
theorem dX6_isOf_34 : decode cX6_isOf 34 = .ok (.ireturn, 1) := by decide +kernel
theorem dX6_passed_0 : decode cX6_passed 0 = .ok (.iload_n 0, 1) := by decide +kernel
theorem dX6_passed_1 : decode cX6_passed 1 = .ok (.tableswitch 57 1 5 #[35, 37, 39, 35, 47], 35) := by decide +kernel
theorem dX6_passed_36 : decode cX6_passed 36 = .ok (.iconst 0, 1) := by decide +kernel
theorem dX6_passed_37 : decode cX6_passed 37 = .ok (.ireturn, 1) := by decide +kernel
theorem dX6_passed_38 : decode cX6_passed 38 = .ok (.iload_n 1, 1) := by decide +kernel
theorem dX6_passed_39 : decode cX6_passed 39 = .ok (.ireturn, 1) := by decide +kernel
theorem dX6_passed_40 : decode cX6_passed 40 = .ok (.iload_n 1, 1) := by decide +kernel
theorem dX6_passed_41 : decode cX6_passed 41 = .ok (.iconst 1, 1) := by decide +kernel
theorem dX6_passed_42 : decode cX6_passed 42 = .ok (.isub, 1) := by decide +kernel
theorem dX6_passed_43 : decode cX6_passed 43 = .ok (.iconst 0, 1) := by decide +kernel
theorem dX6_passed_44 : decode cX6_passed 44 = .ok (.invokestatic 343, 3) := by decide +kernel
theorem dX6_passed_47 : decode cX6_passed 47 = .ok (.ireturn, 1) := by decide +kernel
theorem dX6_passed_48 : decode cX6_passed 48 = .ok (.iload_n 1, 1) := by decide +kernel
theorem dX6_passed_49 : decode cX6_passed 49 = .ok (.iconst 1, 1) := by decide +kernel
theorem dX6_passed_50 : decode cX6_passed 50 = .ok (.isub, 1) := by decide +kernel
theorem dX6_passed_51 : decode cX6_passed 51 = .ok (.iconst 0, 1) := by decide +kernel
theorem dX6_passed_52 : decode cX6_passed 52 = .ok (.invokestatic 343, 3) := by decide +kernel
theorem dX6_passed_55 : decode cX6_passed 55 = .ok (.iconst 2, 1) := by decide +kernel
theorem dX6_passed_56 : decode cX6_passed 56 = .ok (.idiv, 1) := by decide +kernel
theorem dX6_passed_57 : decode cX6_passed 57 = .ok (.ireturn, 1) := by decide +kernel
theorem dX6_passed_58 : decode cX6_passed 58 = .ok (.iload_n 1, 1) := by decide +kernel
theorem dX6_passed_59 : decode cX6_passed 59 = .ok (.iconst 2, 1) := by decide +kernel
theorem dX6_passed_60 : decode cX6_passed 60 = .ok (.idiv, 1) := by decide +kernel
theorem dX6_passed_61 : decode cX6_passed 61 = .ok (.ireturn, 1) := by decide +kernel
theorem dJ6_numberOfTrailingZeros_0f7a4_0 : decode cJ6_numberOfTrailingZeros_0f7a4 0 = .ok (.iload_n 0, 1) := by decide +kernel
theorem dJ6_numberOfTrailingZeros_0f7a4_1 : decode cJ6_numberOfTrailingZeros_0f7a4 1 = .ok (.iconst (-1), 1) := by decide +kernel
theorem dJ6_numberOfTrailingZeros_0f7a4_2 : decode cJ6_numberOfTrailingZeros_0f7a4 2 = .ok (.ixor, 1) := by decide +kernel
theorem dJ6_numberOfTrailingZeros_0f7a4_3 : decode cJ6_numberOfTrailingZeros_0f7a4 3 = .ok (.iload_n 0, 1) := by decide +kernel
theorem dJ6_numberOfTrailingZeros_0f7a4_4 : decode cJ6_numberOfTrailingZeros_0f7a4 4 = .ok (.iconst 1, 1) := by decide +kernel
theorem dJ6_numberOfTrailingZeros_0f7a4_5 : decode cJ6_numberOfTrailingZeros_0f7a4 5 = .ok (.isub, 1) := by decide +kernel
theorem dJ6_numberOfTrailingZeros_0f7a4_6 : decode cJ6_numberOfTrailingZeros_0f7a4 6 = .ok (.iand, 1) := by decide +kernel
theorem dJ6_numberOfTrailingZeros_0f7a4_7 : decode cJ6_numberOfTrailingZeros_0f7a4 7 = .ok (.istore_n 0, 1) := by decide +kernel
theorem dJ6_numberOfTrailingZeros_0f7a4_8 : decode cJ6_numberOfTrailingZeros_0f7a4 8 = .ok (.iload_n 0, 1) := by decide +kernel
theorem dJ6_numberOfTrailingZeros_0f7a4_9 : decode cJ6_numberOfTrailingZeros_0f7a4 9 = .ok (.ifCond .gt 8, 3) := by decide +kernel
theorem dJ6_numberOfTrailingZeros_0f7a4_12 : decode cJ6_numberOfTrailingZeros_0f7a4 12 = .ok (.iload_n 0, 1) := by decide +kernel
theorem dJ6_numberOfTrailingZeros_0f7a4_13 : decode cJ6_numberOfTrailingZeros_0f7a4 13 = .ok (.bipush 32, 2) := by decide +kernel
theorem dJ6_numberOfTrailingZeros_0f7a4_15 : decode cJ6_numberOfTrailingZeros_0f7a4 15 = .ok (.iand, 1) := by decide +kernel
theorem dJ6_numberOfTrailingZeros_0f7a4_16 : decode cJ6_numberOfTrailingZeros_0f7a4 16 = .ok (.ireturn, 1) := by decide +kernel
theorem dJ6_numberOfTrailingZeros_0f7a4_17 : decode cJ6_numberOfTrailingZeros_0f7a4 17 = .ok (.iconst 1, 1) := by decide +kernel
theorem dJ6_numberOfTrailingZeros_0f7a4_18 : decode cJ6_numberOfTrailingZeros_0f7a4 18 = .ok (.istore_n 1, 1) := by decide +kernel
theorem dJ6_numberOfTrailingZeros_0f7a4_19 : decode cJ6_numberOfTrailingZeros_0f7a4 19 = .ok (.iload_n 0, 1) := by decide +kernel
theorem dJ6_numberOfTrailingZeros_0f7a4_20 : decode cJ6_numberOfTrailingZeros_0f7a4 20 = .ok (.ldc_w 264, 3) := by decide +kernel
theorem dJ6_numberOfTrailingZeros_0f7a4_23 : decode cJ6_numberOfTrailingZeros_0f7a4 23 = .ok (.if_icmp .le 11, 3) := by decide +kernel
theorem dJ6_numberOfTrailingZeros_0f7a4_26 : decode cJ6_numberOfTrailingZeros_0f7a4 26 = .ok (.iinc 1 16, 3) := by decide +kernel
theorem dJ6_numberOfTrailingZeros_0f7a4_29 : decode cJ6_numberOfTrailingZeros_0f7a4 29 = .ok (.iload_n 0, 1) := by decide +kernel
theorem dJ6_numberOfTrailingZeros_0f7a4_30 : decode cJ6_numberOfTrailingZeros_0f7a4 30 = .ok (.bipush 16, 2) := by decide +kernel
theorem dJ6_numberOfTrailingZeros_0f7a4_32 : decode cJ6_numberOfTrailingZeros_0f7a4 32 = .ok (.iushr, 1) := by decide +kernel
theorem dJ6_numberOfTrailingZeros_0f7a4_33 : decode cJ6_numberOfTrailingZeros_0f7a4 33 = .ok (.istore_n 0, 1) := by decide +kernel
theorem dJ6_numberOfTrailingZeros_0f7a4_34 : decode cJ6_numberOfTrailingZeros_0f7a4 34 = .ok (.iload_n 0, 1) := by decide +kernel
theorem dJ6_numberOfTrailingZeros_0f7a4_35 : decode cJ6_numberOfTrailingZeros_0f7a4 35 = .ok (.sipush 256, 3) := by decide +kernel
theorem dJ6_numberOfTrailingZeros_0f7a4_38 : decode cJ6_numberOfTrailingZeros_0f7a4 38 = .ok (.if_icmp .le 11, 3) := by decide +kernel
theorem dJ6_numberOfTrailingZeros_0f7a4_41 : decode cJ6_numberOfTrailingZeros_0f7a4 41 = .ok (.iinc 1 8, 3) := by decide +kernel
theorem dJ6_numberOfTrailingZeros_0f7a4_44 : decode cJ6_numberOfTrailingZeros_0f7a4 44 = .ok (.iload_n 0, 1) := by decide +kernel
theorem dJ6_numberOfTrailingZeros_0f7a4_45 : decode cJ6_numberOfTrailingZeros_0f7a4 45 = .ok (.bipush 8, 2) := by decide +kernel
theorem dJ6_numberOfTrailingZeros_0f7a4_47 : decode cJ6_numberOfTrailingZeros_0f7a4 47 = .ok (.iushr, 1) := by decide +kernel
theorem dJ6_numberOfTrailingZeros_0f7a4_48 : decode cJ6_numberOfTrailingZeros_0f7a4 48 = .ok (.istore_n 0, 1) := by decide +kernel
theorem dJ6_numberOfTrailingZeros_0f7a4_49 : decode cJ6_numberOfTrailingZeros_0f7a4 49 = .ok (.iload_n 0, 1) := by decide +kernel
theorem dJ6_numberOfTrailingZeros_0f7a4_50 : decode cJ6_numberOfTrailingZeros_0f7a4 50 = .ok (.bipush 16, 2) := by decide +kernel
theorem dJ6_numberOfTrailingZeros_0f7a4_52 : decode cJ6_numberOfTrailingZeros_0f7a4 52 = .ok (.if_icmp .le 10, 3) := by decide +kernel
theorem dJ6_numberOfTrailingZeros_0f7a4_55 : decode cJ6_numberOfTrailingZeros_0f7a4 55 = .ok (.iinc 1 4, 3) := by decide +kernel
theorem dJ6_numberOfTrailingZeros_0f7a4_58 : decode cJ6_numberOfTrailingZeros_0f7a4 58 = .ok (.iload_n 0, 1) := by decide +kernel
theorem dJ6_numberOfTrailingZeros_0f7a4_59 : decode cJ6_numberOfTrailingZeros_0f7a4 59 = .ok (.iconst 4, 1) := by decide +kernel
theorem dJ6_numberOfTrailingZeros_0f7a4_60 : decode cJ6_numberOfTrailingZeros_0f7a4 60 = .ok (.iushr, 1) := by decide +kernel
theorem dJ6_numberOfTrailingZeros_0f7a4_61 : decode cJ6_numberOfTrailingZeros_0f7a4 61 = .ok (.istore_n 0, 1) := by decide +kernel
theorem dJ6_numberOfTrailingZeros_0f7a4_62 : decode cJ6_numberOfTrailingZeros_0f7a4 62 = .ok (.iload_n 0, 1) := by decide +kernel
theorem dJ6_numberOfTrailingZeros_0f7a4_63 : decode cJ6_numberOfTrailingZeros_0f7a4 63 = .ok (.iconst 4, 1) := by decide +kernel
theorem dJ6_numberOfTrailingZeros_0f7a4_64 : decode cJ6_numberOfTrailingZeros_0f7a4 64 = .ok (.if_icmp .le 10, 3) := by decide +kernel
theorem dJ6_numberOfTrailingZeros_0f7a4_67 : decode cJ6_numberOfTrailingZeros_0f7a4 67 = .ok (.iinc 1 2, 3) := by decide +kernel
theorem dJ6_numberOfTrailingZeros_0f7a4_70 : decode cJ6_numberOfTrailingZeros_0f7a4 70 = .ok (.iload_n 0, 1) := by decide +kernel
theorem dJ6_numberOfTrailingZeros_0f7a4_71 : decode cJ6_numberOfTrailingZeros_0f7a4 71 = .ok (.iconst 2, 1) := by decide +kernel
theorem dJ6_numberOfTrailingZeros_0f7a4_72 : decode cJ6_numberOfTrailingZeros_0f7a4 72 = .ok (.iushr, 1) := by decide +kernel
theorem dJ6_numberOfTrailingZeros_0f7a4_73 : decode cJ6_numberOfTrailingZeros_0f7a4 73 = .ok (.istore_n 0, 1) := by decide +kernel
theorem dJ6_numberOfTrailingZeros_0f7a4_74 : decode cJ6_numberOfTrailingZeros_0f7a4 74 = .ok (.iload_n 1, 1) := by decide +kernel
theorem dJ6_numberOfTrailingZeros_0f7a4_75 : decode cJ6_numberOfTrailingZeros_0f7a4 75 = .ok (.iload_n 0, 1) := by decide +kernel
theorem dJ6_numberOfTrailingZeros_0f7a4_76 : decode cJ6_numberOfTrailingZeros_0f7a4 76 = .ok (.iconst 1, 1) := by decide +kernel
theorem dJ6_numberOfTrailingZeros_0f7a4_77 : decode cJ6_numberOfTrailingZeros_0f7a4 77 = .ok (.iushr, 1) := by decide +kernel
theorem dJ6_numberOfTrailingZeros_0f7a4_78 : decode cJ6_numberOfTrailingZeros_0f7a4 78 = .ok (.iadd, 1) := by decide +kernel
theorem dJ6_numberOfTrailingZeros_0f7a4_79 : decode cJ6_numberOfTrailingZeros_0f7a4 79 = .ok (.ireturn, 1) := by decide +kernel
theorem dJ6_bitCount_0f7a4_0 : decode cJ6_bitCount_0f7a4 0 = .ok (.iload_n 0, 1) := by decide +kernel
theorem dJ6_bitCount_0f7a4_1 : decode cJ6_bitCount_0f7a4 1 = .ok (.iload_n 0, 1) := by decide +kernel
theorem dJ6_bitCount_0f7a4_2 : decode cJ6_bitCount_0f7a4 2 = .ok (.iconst 1, 1) := by decide +kernel
theorem dJ6_bitCount_0f7a4_3 : decode cJ6_bitCount_0f7a4 3 = .ok (.iushr, 1) := by decide +kernel
theorem dJ6_bitCount_0f7a4_4 : decode cJ6_bitCount_0f7a4 4 = .ok (.ldc_w 265, 3) := by decide +kernel
theorem dJ6_bitCount_0f7a4_7 : decode cJ6_bitCount_0f7a4 7 = .ok (.iand, 1) := by decide +kernel
theorem dJ6_bitCount_0f7a4_8 : decode cJ6_bitCount_0f7a4 8 = .ok (.isub, 1) := by decide +kernel
theorem dJ6_bitCount_0f7a4_9 : decode cJ6_bitCount_0f7a4 9 = .ok (.istore_n 0, 1) := by decide +kernel
theorem dJ6_bitCount_0f7a4_10 : decode cJ6_bitCount_0f7a4 10 = .ok (.iload_n 0, 1) := by decide +kernel
theorem dJ6_bitCount_0f7a4_11 : decode cJ6_bitCount_0f7a4 11 = .ok (.ldc_w 266, 3) := by decide +kernel
theorem dJ6_bitCount_0f7a4_14 : decode cJ6_bitCount_0f7a4 14 = .ok (.iand, 1) := by decide +kernel
theorem dJ6_bitCount_0f7a4_15 : decode cJ6_bitCount_0f7a4 15 = .ok (.iload_n 0, 1) := by decide +kernel
theorem dJ6_bitCount_0f7a4_16 : decode cJ6_bitCount_0f7a4 16 = .ok (.iconst 2, 1) := by decide +kernel
theorem dJ6_bitCount_0f7a4_17 : decode cJ6_bitCount_0f7a4 17 = .ok (.iushr, 1) := by decide +kernel
theorem dJ6_bitCount_0f7a4_18 : decode cJ6_bitCount_0f7a4 18 = .ok (.ldc_w 266, 3) := by decide +kernel
theorem dJ6_bitCount_0f7a4_21 : decode cJ6_bitCount_0f7a4 21 = .ok (.iand, 1) := by decide +kernel
theorem dJ6_bitCount_0f7a4_22 : decode cJ6_bitCount_0f7a4 22 = .ok (.iadd, 1) := by decide +kernel
theorem dJ6_bitCount_0f7a4_23 : decode cJ6_bitCount_0f7a4 23 = .ok (.istore_n 0, 1) := by decide +kernel
theorem dJ6_bitCount_0f7a4_24 : decode cJ6_bitCount_0f7a4 24 = .ok (.iload_n 0, 1) := by decide +kernel
theorem dJ6_bitCount_0f7a4_25 : decode cJ6_bitCount_0f7a4 25 = .ok (.iload_n 0, 1) := by decide +kernel
theorem dJ6_bitCount_0f7a4_26 : decode cJ6_bitCount_0f7a4 26 = .ok (.iconst 4, 1) := by decide +kernel
theorem dJ6_bitCount_0f7a4_27 : decode cJ6_bitCount_0f7a4 27 = .ok (.iushr, 1) := by decide +kernel
theorem dJ6_bitCount_0f7a4_28 : decode cJ6_bitCount_0f7a4 28 = .ok (.iadd, 1) := by decide +kernel
theorem dJ6_bitCount_0f7a4_29 : decode cJ6_bitCount_0f7a4 29 = .ok (.ldc_w 267, 3) := by decide +kernel
theorem dJ6_bitCount_0f7a4_32 : decode cJ6_bitCount_0f7a4 32 = .ok (.iand, 1) := by decide +kernel
theorem dJ6_bitCount_0f7a4_33 : decode cJ6_bitCount_0f7a4 33 = .ok (.istore_n 0, 1) := by decide +kernel
theorem dJ6_bitCount_0f7a4_34 : decode cJ6_bitCount_0f7a4 34 = .ok (.iload_n 0, 1) := by decide +kernel
theorem dJ6_bitCount_0f7a4_35 : decode cJ6_bitCount_0f7a4 35 = .ok (.iload_n 0, 1) := by decide +kernel
theorem dJ6_bitCount_0f7a4_36 : decode cJ6_bitCount_0f7a4 36 = .ok (.bipush 8, 2) := by decide +kernel
theorem dJ6_bitCount_0f7a4_38 : decode cJ6_bitCount_0f7a4 38 = .ok (.iushr, 1) := by decide +kernel
theorem dJ6_bitCount_0f7a4_39 : decode cJ6_bitCount_0f7a4 39 = .ok (.iadd, 1) := by decide +kernel
theorem dJ6_bitCount_0f7a4_40 : decode cJ6_bitCount_0f7a4 40 = .ok (.istore_n 0, 1) := by decide +kernel
theorem dJ6_bitCount_0f7a4_41 : decode cJ6_bitCount_0f7a4 41 = .ok (.iload_n 0, 1) := by decide +kernel
theorem dJ6_bitCount_0f7a4_42 : decode cJ6_bitCount_0f7a4 42 = .ok (.iload_n 0, 1) := by decide +kernel
theorem dJ6_bitCount_0f7a4_43 : decode cJ6_bitCount_0f7a4 43 = .ok (.bipush 16, 2) := by decide +kernel
theorem dJ6_bitCount_0f7a4_45 : decode cJ6_bitCount_0f7a4 45 = .ok (.iushr, 1) := by decide +kernel
theorem dJ6_bitCount_0f7a4_46 : decode cJ6_bitCount_0f7a4 46 = .ok (.iadd, 1) := by decide +kernel
theorem dJ6_bitCount_0f7a4_47 : decode cJ6_bitCount_0f7a4 47 = .ok (.istore_n 0, 1) := by decide +kernel
theorem dJ6_bitCount_0f7a4_48 : decode cJ6_bitCount_0f7a4 48 = .ok (.iload_n 0, 1) := by decide +kernel
theorem dJ6_bitCount_0f7a4_49 : decode cJ6_bitCount_0f7a4 49 = .ok (.bipush 63, 2) := by decide +kernel
theorem dJ6_bitCount_0f7a4_51 : decode cJ6_bitCount_0f7a4 51 = .ok (.iand, 1) := by decide +kernel
theorem dJ6_bitCount_0f7a4_52 : decode cJ6_bitCount_0f7a4 52 = .ok (.ireturn, 1) := by decide +kernel
theorem dJ9_max_7cf53_0 : decode cJ9_max_7cf53 0 = .ok (.iload_n 0, 1) := by decide +kernel
theorem dJ9_max_7cf53_1 : decode cJ9_max_7cf53 1 = .ok (.iload_n 1, 1) := by decide +kernel
theorem dJ9_max_7cf53_2 : decode cJ9_max_7cf53 2 = .ok (.if_icmp .lt 7, 3) := by decide +kernel
theorem dJ9_max_7cf53_5 : decode cJ9_max_7cf53 5 = .ok (.iload_n 0, 1) := by decide +kernel
theorem dJ9_max_7cf53_6 : decode cJ9_max_7cf53 6 = .ok (.goto 4, 3) := by decide +kernel
theorem dJ9_max_7cf53_9 : decode cJ9_max_7cf53 9 = .ok (.iload_n 1, 1) := by decide +kernel
theorem dJ9_max_7cf53_10 : decode cJ9_max_7cf53 10 = .ok (.ireturn, 1) := by decide +kernel
theorem dJ9_min_7cf53_0 : decode cJ9_min_7cf53 0 = .ok (.iload_n 0, 1) := by decide +kernel
theorem dJ9_min_7cf53_1 : decode cJ9_min_7cf53 1 = .ok (.iload_n 1, 1) := by decide +kernel
theorem dJ9_min_7cf53_2 : decode cJ9_min_7cf53 2 = .ok (.if_icmp .gt 7, 3) := by decide +kernel
theorem dJ9_min_7cf53_5 : decode cJ9_min_7cf53 5 = .ok (.iload_n 0, 1) := by decide +kernel
theorem dJ9_min_7cf53_6 : decode cJ9_min_7cf53 6 = .ok (.goto 4, 3) := by decide +kernel
theorem dJ9_min_7cf53_9 : decode cJ9_min_7cf53 9 = .ok (.iload_n 1, 1) := by decide +kernel
theorem dJ9_min_7cf53_10 : decode cJ9_min_7cf53 10 = .ok (.ireturn, 1) := by decide +kernel
