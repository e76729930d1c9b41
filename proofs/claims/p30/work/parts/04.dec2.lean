theorem dL_uses_12 : decode cL_uses 12 = .ok (.ldc 28, 2) := by decide +kernel
theorem dL_uses_14 : decode cL_uses 14 = .ok (.ireturn, 1) := by decide +kernel
theorem dL_uses_15 : decode cL_uses 15 = .ok (.astore 5, 2) := by decide +kernel
theorem dL_uses_17 : decode cL_uses 17 = .ok (.ldc 18, 2) := by decide +kernel
theorem dL_uses_19 : decode cL_uses 19 = .ok (.ireturn, 1) := by decide +kernel
theorem dL_uses_20 : decode cL_uses 20 = .ok (.astore 5, 2) := by decide +kernel
theorem dL_uses_22 : decode cL_uses 22 = .ok (.ldc 21, 2) := by decide +kernel
theorem dL_uses_24 : decode cL_uses 24 = .ok (.ireturn, 1) := by decide +kernel
theorem dL_cut_0 : decode cL_cut 0 = .ok (.aload_n 0, 1) := by decide +kernel
theorem dL_cut_1 : decode cL_cut 1 = .ok (.iload_n 1, 1) := by decide +kernel
theorem dL_cut_2 : decode cL_cut 2 = .ok (.invokevirtual 33, 3) := by decide +kernel
theorem dL_cut_5 : decode cL_cut 5 = .ok (.ireturn, 1) := by decide +kernel
theorem dL_cut_6 : decode cL_cut 6 = .ok (.astore_n 2, 1) := by decide +kernel
theorem dL_cut_7 : decode cL_cut 7 = .ok (.ldc 28, 2) := by decide +kernel
theorem dL_cut_9 : decode cL_cut 9 = .ok (.ireturn, 1) := by decide +kernel
theorem dL_cut_10 : decode cL_cut 10 = .ok (.astore_n 2, 1) := by decide +kernel
theorem dL_cut_11 : decode cL_cut 11 = .ok (.ldc 21, 2) := by decide +kernel
theorem dL_cut_13 : decode cL_cut 13 = .ok (.ireturn, 1) := by decide +kernel
theorem dL_swap_0 : decode cL_swap 0 = .ok (.aload_n 0, 1) := by decide +kernel
theorem dL_swap_1 : decode cL_swap 1 = .ok (.iload_n 1, 1) := by decide +kernel
theorem dL_swap_2 : decode cL_swap 2 = .ok (.iload_n 2, 1) := by decide +kernel
theorem dL_swap_3 : decode cL_swap 3 = .ok (.invokevirtual 37, 3) := by decide +kernel
theorem dL_swap_6 : decode cL_swap 6 = .ok (.ireturn, 1) := by decide +kernel
theorem dL_swap_7 : decode cL_swap 7 = .ok (.astore_n 3, 1) := by decide +kernel
theorem dL_swap_8 : decode cL_swap 8 = .ok (.ldc 18, 2) := by decide +kernel
theorem dL_swap_10 : decode cL_swap 10 = .ok (.ireturn, 1) := by decide +kernel
theorem dL_permit_0 : decode cL_permit 0 = .ok (.aload_n 0, 1) := by decide +kernel
theorem dL_permit_1 : decode cL_permit 1 = .ok (.iload_n 1, 1) := by decide +kernel
theorem dL_permit_2 : decode cL_permit 2 = .ok (.iload_n 2, 1) := by decide +kernel
theorem dL_permit_3 : decode cL_permit 3 = .ok (.iload_n 3, 1) := by decide +kernel
theorem dL_permit_4 : decode cL_permit 4 = .ok (.iload 4, 2) := by decide +kernel
theorem dL_permit_6 : decode cL_permit 6 = .ok (.invokevirtual 40, 3) := by decide +kernel
theorem dL_permit_9 : decode cL_permit 9 = .ok (.ireturn, 1) := by decide +kernel
theorem dL_permit_10 : decode cL_permit 10 = .ok (.astore 5, 2) := by decide +kernel
theorem dL_permit_12 : decode cL_permit 12 = .ok (.ldc 18, 2) := by decide +kernel
theorem dL_permit_14 : decode cL_permit 14 = .ok (.ireturn, 1) := by decide +kernel
theorem dL_permit_15 : decode cL_permit 15 = .ok (.astore 5, 2) := by decide +kernel
theorem dL_permit_17 : decode cL_permit 17 = .ok (.ldc 21, 2) := by decide +kernel
theorem dL_permit_19 : decode cL_permit 19 = .ok (.ireturn, 1) := by decide +kernel
theorem dL_revoke_0 : decode cL_revoke 0 = .ok (.aload_n 0, 1) := by decide +kernel
theorem dL_revoke_1 : decode cL_revoke 1 = .ok (.iload_n 1, 1) := by decide +kernel
theorem dL_revoke_2 : decode cL_revoke 2 = .ok (.invokevirtual 43, 3) := by decide +kernel
theorem dL_revoke_5 : decode cL_revoke 5 = .ok (.ireturn, 1) := by decide +kernel
theorem dL_revoke_6 : decode cL_revoke 6 = .ok (.astore_n 2, 1) := by decide +kernel
theorem dL_revoke_7 : decode cL_revoke 7 = .ok (.ldc 28, 2) := by decide +kernel
theorem dL_revoke_9 : decode cL_revoke 9 = .ok (.ireturn, 1) := by decide +kernel
theorem dL_revoke_10 : decode cL_revoke 10 = .ok (.astore_n 2, 1) := by decide +kernel
theorem dL_revoke_11 : decode cL_revoke 11 = .ok (.ldc 21, 2) := by decide +kernel
theorem dL_revoke_13 : decode cL_revoke 13 = .ok (.ireturn, 1) := by decide +kernel
theorem dL_away_0 : decode cL_away 0 = .ok (.aload_n 0, 1) := by decide +kernel
theorem dL_away_1 : decode cL_away 1 = .ok (.iload_n 1, 1) := by decide +kernel
theorem dL_away_2 : decode cL_away 2 = .ok (.iload_n 2, 1) := by decide +kernel
theorem dL_away_3 : decode cL_away 3 = .ok (.iload_n 3, 1) := by decide +kernel
theorem dL_away_4 : decode cL_away 4 = .ok (.invokevirtual 46, 3) := by decide +kernel
theorem dL_away_7 : decode cL_away 7 = .ok (.ifCond .eq 7, 3) := by decide +kernel
theorem dL_away_10 : decode cL_away 10 = .ok (.iconst 1, 1) := by decide +kernel
theorem dL_away_11 : decode cL_away 11 = .ok (.goto 4, 3) := by decide +kernel
theorem dL_away_14 : decode cL_away 14 = .ok (.iconst 0, 1) := by decide +kernel
theorem dL_away_15 : decode cL_away 15 = .ok (.ireturn, 1) := by decide +kernel
theorem dL_away_16 : decode cL_away 16 = .ok (.astore 4, 2) := by decide +kernel
theorem dL_away_18 : decode cL_away 18 = .ok (.ldc 28, 2) := by decide +kernel
theorem dL_away_20 : decode cL_away 20 = .ok (.ireturn, 1) := by decide +kernel
theorem dL_away_21 : decode cL_away 21 = .ok (.astore 4, 2) := by decide +kernel
theorem dL_away_23 : decode cL_away 23 = .ok (.ldc 18, 2) := by decide +kernel
theorem dL_away_25 : decode cL_away 25 = .ok (.ireturn, 1) := by decide +kernel
theorem dL_buy_0 : decode cL_buy 0 = .ok (.aload_n 0, 1) := by decide +kernel
theorem dL_buy_1 : decode cL_buy 1 = .ok (.iload_n 1, 1) := by decide +kernel
theorem dL_buy_2 : decode cL_buy 2 = .ok (.invokevirtual 50, 3) := by decide +kernel
theorem dL_buy_5 : decode cL_buy 5 = .ok (.ireturn, 1) := by decide +kernel
theorem dL_buy_6 : decode cL_buy 6 = .ok (.astore_n 2, 1) := by decide +kernel
theorem dL_buy_7 : decode cL_buy 7 = .ok (.ldc 28, 2) := by decide +kernel
theorem dL_buy_9 : decode cL_buy 9 = .ok (.ireturn, 1) := by decide +kernel
theorem dL_buy_10 : decode cL_buy 10 = .ok (.astore_n 2, 1) := by decide +kernel
theorem dL_buy_11 : decode cL_buy 11 = .ok (.ldc 21, 2) := by decide +kernel
theorem dL_buy_13 : decode cL_buy 13 = .ok (.ireturn, 1) := by decide +kernel
theorem dL_mishap_0 : decode cL_mishap 0 = .ok (.aload_n 0, 1) := by decide +kernel
theorem dL_mishap_1 : decode cL_mishap 1 = .ok (.iload_n 1, 1) := by decide +kernel
theorem dL_mishap_2 : decode cL_mishap 2 = .ok (.iload_n 2, 1) := by decide +kernel
theorem dL_mishap_3 : decode cL_mishap 3 = .ok (.invokevirtual 53, 3) := by decide +kernel
theorem dL_mishap_6 : decode cL_mishap 6 = .ok (.ireturn, 1) := by decide +kernel
theorem dL_mishap_7 : decode cL_mishap 7 = .ok (.astore_n 3, 1) := by decide +kernel
theorem dL_mishap_8 : decode cL_mishap 8 = .ok (.ldc 28, 2) := by decide +kernel
theorem dL_mishap_10 : decode cL_mishap 10 = .ok (.ireturn, 1) := by decide +kernel
theorem dL_mishap_11 : decode cL_mishap 11 = .ok (.astore_n 3, 1) := by decide +kernel
theorem dL_mishap_12 : decode cL_mishap 12 = .ok (.ldc 18, 2) := by decide +kernel
theorem dL_mishap_14 : decode cL_mishap 14 = .ok (.ireturn, 1) := by decide +kernel
theorem dL_mishap_15 : decode cL_mishap 15 = .ok (.astore_n 3, 1) := by decide +kernel
theorem dL_mishap_16 : decode cL_mishap 16 = .ok (.ldc 21, 2) := by decide +kernel
theorem dL_mishap_18 : decode cL_mishap 18 = .ok (.ireturn, 1) := by decide +kernel
theorem dL_shoot_0 : decode cL_shoot 0 = .ok (.aload_n 0, 1) := by decide +kernel
theorem dL_shoot_1 : decode cL_shoot 1 = .ok (.invokevirtual 56, 3) := by decide +kernel
theorem dL_shoot_4 : decode cL_shoot 4 = .ok (.ireturn, 1) := by decide +kernel
theorem dL_shoot_5 : decode cL_shoot 5 = .ok (.astore_n 1, 1) := by decide +kernel
theorem dL_shoot_6 : decode cL_shoot 6 = .ok (.ldc 21, 2) := by decide +kernel
theorem dL_shoot_8 : decode cL_shoot 8 = .ok (.ireturn, 1) := by decide +kernel
theorem dL_least_0 : decode cL_least 0 = .ok (.aload_n 0, 1) := by decide +kernel
theorem dL_least_1 : decode cL_least 1 = .ok (.invokevirtual 60, 3) := by decide +kernel
theorem dL_least_4 : decode cL_least 4 = .ok (.ireturn, 1) := by decide +kernel
theorem dL_least_5 : decode cL_least 5 = .ok (.astore_n 1, 1) := by decide +kernel
theorem dL_least_6 : decode cL_least 6 = .ok (.ldc 21, 2) := by decide +kernel
theorem dL_least_8 : decode cL_least 8 = .ok (.ireturn, 1) := by decide +kernel
theorem dL_stateOf_0 : decode cL_stateOf 0 = .ok (.aload_n 0, 1) := by decide +kernel
theorem dL_stateOf_1 : decode cL_stateOf 1 = .ok (.iload_n 1, 1) := by decide +kernel
theorem dL_stateOf_2 : decode cL_stateOf 2 = .ok (.invokevirtual 63, 3) := by decide +kernel
theorem dL_stateOf_5 : decode cL_stateOf 5 = .ok (.ireturn, 1) := by decide +kernel
theorem dL_stateOf_6 : decode cL_stateOf 6 = .ok (.astore_n 2, 1) := by decide +kernel
theorem dL_stateOf_7 : decode cL_stateOf 7 = .ok (.ldc 28, 2) := by decide +kernel
theorem dL_stateOf_9 : decode cL_stateOf 9 = .ok (.ireturn, 1) := by decide +kernel
theorem dL_dayOf_0 : decode cL_dayOf 0 = .ok (.aload_n 0, 1) := by decide +kernel
theorem dL_dayOf_1 : decode cL_dayOf 1 = .ok (.iload_n 1, 1) := by decide +kernel
theorem dL_dayOf_2 : decode cL_dayOf 2 = .ok (.invokevirtual 66, 3) := by decide +kernel
theorem dL_dayOf_5 : decode cL_dayOf 5 = .ok (.ireturn, 1) := by decide +kernel
theorem dL_dayOf_6 : decode cL_dayOf 6 = .ok (.astore_n 2, 1) := by decide +kernel
theorem dL_dayOf_7 : decode cL_dayOf 7 = .ok (.ldc 28, 2) := by decide +kernel
theorem dL_dayOf_9 : decode cL_dayOf 9 = .ok (.ireturn, 1) := by decide +kernel
theorem dL_sceneOn_0 : decode cL_sceneOn 0 = .ok (.aload_n 0, 1) := by decide +kernel
theorem dL_sceneOn_1 : decode cL_sceneOn 1 = .ok (.iload_n 1, 1) := by decide +kernel
theorem dL_sceneOn_2 : decode cL_sceneOn 2 = .ok (.invokevirtual 69, 3) := by decide +kernel
theorem dL_sceneOn_5 : decode cL_sceneOn 5 = .ok (.ireturn, 1) := by decide +kernel
theorem dL_sceneOn_6 : decode cL_sceneOn 6 = .ok (.astore_n 2, 1) := by decide +kernel
theorem dL_sceneOn_7 : decode cL_sceneOn 7 = .ok (.ldc 18, 2) := by decide +kernel
theorem dL_sceneOn_9 : decode cL_sceneOn 9 = .ok (.ireturn, 1) := by decide +kernel
theorem dL_isAllowed_0 : decode cL_isAllowed 0 = .ok (.aload_n 0, 1) := by decide +kernel
theorem dL_isAllowed_1 : decode cL_isAllowed 1 = .ok (.iload_n 1, 1) := by decide +kernel
theorem dL_isAllowed_2 : decode cL_isAllowed 2 = .ok (.iload_n 2, 1) := by decide +kernel
theorem dL_isAllowed_3 : decode cL_isAllowed 3 = .ok (.invokevirtual 72, 3) := by decide +kernel
theorem dL_isAllowed_6 : decode cL_isAllowed 6 = .ok (.ifCond .eq 7, 3) := by decide +kernel
theorem dL_isAllowed_9 : decode cL_isAllowed 9 = .ok (.iconst 1, 1) := by decide +kernel
theorem dL_isAllowed_10 : decode cL_isAllowed 10 = .ok (.goto 4, 3) := by decide +kernel
theorem dL_isAllowed_13 : decode cL_isAllowed 13 = .ok (.iconst 0, 1) := by decide +kernel
theorem dL_isAllowed_14 : decode cL_isAllowed 14 = .ok (.ireturn, 1) := by decide +kernel
theorem dL_isAllowed_15 : decode cL_isAllowed 15 = .ok (.astore_n 3, 1) := by decide +kernel
theorem dL_isAllowed_16 : decode cL_isAllowed 16 = .ok (.ldc 28, 2) := by decide +kernel
theorem dL_isAllowed_18 : decode cL_isAllowed 18 = .ok (.ireturn, 1) := by decide +kernel
theorem dL_isAllowed_19 : decode cL_isAllowed 19 = .ok (.astore_n 3, 1) := by decide +kernel
theorem dL_isAllowed_20 : decode cL_isAllowed 20 = .ok (.ldc 18, 2) := by decide +kernel
theorem dL_isAllowed_22 : decode cL_isAllowed 22 = .ok (.ireturn, 1) := by decide +kernel
theorem dL_ahead_0 : decode cL_ahead 0 = .ok (.aload_n 0, 1) := by decide +kernel
theorem dL_ahead_1 : decode cL_ahead 1 = .ok (.iload_n 1, 1) := by decide +kernel
theorem dL_ahead_2 : decode cL_ahead 2 = .ok (.iload_n 2, 1) := by decide +kernel
theorem dL_ahead_3 : decode cL_ahead 3 = .ok (.invokevirtual 76, 3) := by decide +kernel
theorem dL_ahead_6 : decode cL_ahead 6 = .ok (.ireturn, 1) := by decide +kernel
theorem dL_ahead_7 : decode cL_ahead 7 = .ok (.astore_n 3, 1) := by decide +kernel
theorem dL_ahead_8 : decode cL_ahead 8 = .ok (.ldc 28, 2) := by decide +kernel
theorem dL_ahead_10 : decode cL_ahead 10 = .ok (.ireturn, 1) := by decide +kernel
theorem dL_copies_0 : decode cL_copies 0 = .ok (.aload_n 0, 1) := by decide +kernel
theorem dL_copies_1 : decode cL_copies 1 = .ok (.iload_n 1, 1) := by decide +kernel
theorem dL_copies_2 : decode cL_copies 2 = .ok (.iload_n 2, 1) := by decide +kernel
theorem dL_copies_3 : decode cL_copies 3 = .ok (.invokevirtual 79, 3) := by decide +kernel
theorem dL_copies_6 : decode cL_copies 6 = .ok (.ireturn, 1) := by decide +kernel
theorem dL_copies_7 : decode cL_copies 7 = .ok (.astore_n 3, 1) := by decide +kernel
theorem dL_copies_8 : decode cL_copies 8 = .ok (.ldc 28, 2) := by decide +kernel
theorem dL_copies_10 : decode cL_copies 10 = .ok (.ireturn, 1) := by decide +kernel
theorem dL_copies_11 : decode cL_copies 11 = .ok (.astore_n 3, 1) := by decide +kernel
theorem dL_copies_12 : decode cL_copies 12 = .ok (.ldc 18, 2) := by decide +kernel
theorem dL_copies_14 : decode cL_copies 14 = .ok (.ireturn, 1) := by decide +kernel
theorem dL_growth_0 : decode cL_growth 0 = .ok (.aload_n 0, 1) := by decide +kernel
theorem dL_growth_1 : decode cL_growth 1 = .ok (.iload_n 1, 1) := by decide +kernel
theorem dL_growth_2 : decode cL_growth 2 = .ok (.invokevirtual 82, 3) := by decide +kernel
theorem dL_growth_5 : decode cL_growth 5 = .ok (.ireturn, 1) := by decide +kernel
theorem dL_growth_6 : decode cL_growth 6 = .ok (.astore_n 2, 1) := by decide +kernel
theorem dL_growth_7 : decode cL_growth 7 = .ok (.ldc 28, 2) := by decide +kernel
theorem dL_growth_9 : decode cL_growth 9 = .ok (.ireturn, 1) := by decide +kernel
theorem dL_isSo_0 : decode cL_isSo 0 = .ok (.iconst 0, 1) := by decide +kernel
theorem dL_isSo_1 : decode cL_isSo 1 = .ok (.istore_n 3, 1) := by decide +kernel
theorem dL_isSo_2 : decode cL_isSo 2 = .ok (.iconst 0, 1) := by decide +kernel
theorem dL_isSo_3 : decode cL_isSo 3 = .ok (.istore 4, 2) := by decide +kernel
theorem dL_isSo_5 : decode cL_isSo 5 = .ok (.iconst 0, 1) := by decide +kernel
theorem dL_isSo_6 : decode cL_isSo 6 = .ok (.istore 5, 2) := by decide +kernel
theorem dL_isSo_8 : decode cL_isSo 8 = .ok (.iload 5, 2) := by decide +kernel
theorem dL_isSo_10 : decode cL_isSo 10 = .ok (.bipush 30, 2) := by decide +kernel
theorem dL_isSo_12 : decode cL_isSo 12 = .ok (.if_icmp .ge 105, 3) := by decide +kernel
theorem dL_isSo_15 : decode cL_isSo 15 = .ok (.aload_n 0, 1) := by decide +kernel
theorem dL_isSo_16 : decode cL_isSo 16 = .ok (.iload 5, 2) := by decide +kernel
theorem dL_isSo_18 : decode cL_isSo 18 = .ok (.invokestatic 85, 3) := by decide +kernel
theorem dL_isSo_21 : decode cL_isSo 21 = .ok (.istore 6, 2) := by decide +kernel
theorem dL_isSo_23 : decode cL_isSo 23 = .ok (.iload 6, 2) := by decide +kernel
theorem dL_isSo_25 : decode cL_isSo 25 = .ok (.iconst (-1), 1) := by decide +kernel
theorem dL_isSo_26 : decode cL_isSo 26 = .ok (.if_icmp .lt 44, 3) := by decide +kernel
theorem dL_isSo_29 : decode cL_isSo 29 = .ok (.iload 6, 2) := by decide +kernel
theorem dL_isSo_31 : decode cL_isSo 31 = .ok (.aload_n 1, 1) := by decide +kernel
theorem dL_isSo_32 : decode cL_isSo 32 = .ok (.iconst 0, 1) := by decide +kernel
theorem dL_isSo_33 : decode cL_isSo 33 = .ok (.iaload, 1) := by decide +kernel
theorem dL_isSo_34 : decode cL_isSo 34 = .ok (.if_icmp .ge 36, 3) := by decide +kernel
theorem dL_isSo_37 : decode cL_isSo 37 = .ok (.iload 6, 2) := by decide +kernel
theorem dL_isSo_39 : decode cL_isSo 39 = .ok (.ifCond .lt 33, 3) := by decide +kernel
theorem dL_isSo_42 : decode cL_isSo 42 = .ok (.iload 5, 2) := by decide +kernel
theorem dL_isSo_44 : decode cL_isSo 44 = .ok (.aload_n 1, 1) := by decide +kernel
theorem dL_isSo_45 : decode cL_isSo 45 = .ok (.iconst 2, 1) := by decide +kernel
theorem dL_isSo_46 : decode cL_isSo 46 = .ok (.iaload, 1) := by decide +kernel
theorem dL_isSo_47 : decode cL_isSo 47 = .ok (.if_icmp .lt 23, 3) := by decide +kernel
theorem dL_isSo_50 : decode cL_isSo 50 = .ok (.aload_n 0, 1) := by decide +kernel
theorem dL_isSo_51 : decode cL_isSo 51 = .ok (.iload 6, 2) := by decide +kernel
theorem dL_isSo_53 : decode cL_isSo 53 = .ok (.invokestatic 90, 3) := by decide +kernel
theorem dL_isSo_56 : decode cL_isSo 56 = .ok (.ifCond .ne 14, 3) := by decide +kernel
theorem dL_isSo_59 : decode cL_isSo 59 = .ok (.aload_n 0, 1) := by decide +kernel
theorem dL_isSo_60 : decode cL_isSo 60 = .ok (.iload 6, 2) := by decide +kernel
theorem dL_isSo_62 : decode cL_isSo 62 = .ok (.invokestatic 92, 3) := by decide +kernel
theorem dL_isSo_65 : decode cL_isSo 65 = .ok (.iload 5, 2) := by decide +kernel
theorem dL_isSo_67 : decode cL_isSo 67 = .ok (.if_icmp .eq 5, 3) := by decide +kernel
theorem dL_isSo_70 : decode cL_isSo 70 = .ok (.iconst 0, 1) := by decide +kernel
theorem dL_isSo_71 : decode cL_isSo 71 = .ok (.ireturn, 1) := by decide +kernel
theorem dL_isSo_72 : decode cL_isSo 72 = .ok (.iload_n 3, 1) := by decide +kernel
theorem dL_isSo_73 : decode cL_isSo 73 = .ok (.iload 6, 2) := by decide +kernel
theorem dL_isSo_75 : decode cL_isSo 75 = .ok (.ifCond .lt 7, 3) := by decide +kernel
theorem dL_isSo_78 : decode cL_isSo 78 = .ok (.iconst 1, 1) := by decide +kernel
theorem dL_isSo_79 : decode cL_isSo 79 = .ok (.goto 4, 3) := by decide +kernel
theorem dL_isSo_82 : decode cL_isSo 82 = .ok (.iconst 0, 1) := by decide +kernel
theorem dL_isSo_83 : decode cL_isSo 83 = .ok (.iadd, 1) := by decide +kernel
theorem dL_isSo_84 : decode cL_isSo 84 = .ok (.istore_n 3, 1) := by decide +kernel
theorem dL_isSo_85 : decode cL_isSo 85 = .ok (.iload 4, 2) := by decide +kernel
theorem dL_isSo_87 : decode cL_isSo 87 = .ok (.iload 6, 2) := by decide +kernel
theorem dL_isSo_89 : decode cL_isSo 89 = .ok (.ifCond .lt 18, 3) := by decide +kernel
theorem dL_isSo_92 : decode cL_isSo 92 = .ok (.aload_n 0, 1) := by decide +kernel
theorem dL_isSo_93 : decode cL_isSo 93 = .ok (.iload 6, 2) := by decide +kernel
theorem dL_isSo_95 : decode cL_isSo 95 = .ok (.iload 5, 2) := by decide +kernel
theorem dL_isSo_97 : decode cL_isSo 97 = .ok (.invokestatic 94, 3) := by decide +kernel
theorem dL_isSo_100 : decode cL_isSo 100 = .ok (.ifCond .ne 7, 3) := by decide +kernel
theorem dL_isSo_103 : decode cL_isSo 103 = .ok (.iconst 1, 1) := by decide +kernel
theorem dL_isSo_104 : decode cL_isSo 104 = .ok (.goto 4, 3) := by decide +kernel
theorem dL_isSo_107 : decode cL_isSo 107 = .ok (.iconst 0, 1) := by decide +kernel
theorem dL_isSo_108 : decode cL_isSo 108 = .ok (.iadd, 1) := by decide +kernel
theorem dL_isSo_109 : decode cL_isSo 109 = .ok (.istore 4, 2) := by decide +kernel
theorem dL_isSo_111 : decode cL_isSo 111 = .ok (.iinc 5 1, 3) := by decide +kernel
theorem dL_isSo_114 : decode cL_isSo 114 = .ok (.goto (-106), 3) := by decide +kernel
theorem dL_isSo_117 : decode cL_isSo 117 = .ok (.iconst 0, 1) := by decide +kernel
theorem dL_isSo_118 : decode cL_isSo 118 = .ok (.istore 5, 2) := by decide +kernel
theorem dL_isSo_120 : decode cL_isSo 120 = .ok (.iload 5, 2) := by decide +kernel
theorem dL_isSo_122 : decode cL_isSo 122 = .ok (.aload_n 1, 1) := by decide +kernel
theorem dL_isSo_123 : decode cL_isSo 123 = .ok (.iconst 0, 1) := by decide +kernel
theorem dL_isSo_124 : decode cL_isSo 124 = .ok (.iaload, 1) := by decide +kernel
theorem dL_isSo_125 : decode cL_isSo 125 = .ok (.if_icmp .ge 103, 3) := by decide +kernel
theorem dL_isSo_128 : decode cL_isSo 128 = .ok (.aload_n 0, 1) := by decide +kernel
theorem dL_isSo_129 : decode cL_isSo 129 = .ok (.iload 5, 2) := by decide +kernel
theorem dL_isSo_131 : decode cL_isSo 131 = .ok (.invokestatic 90, 3) := by decide +kernel
theorem dL_isSo_134 : decode cL_isSo 134 = .ok (.istore 6, 2) := by decide +kernel
theorem dL_isSo_136 : decode cL_isSo 136 = .ok (.aload_n 0, 1) := by decide +kernel
theorem dL_isSo_137 : decode cL_isSo 137 = .ok (.iload 5, 2) := by decide +kernel
theorem dL_isSo_139 : decode cL_isSo 139 = .ok (.invokestatic 92, 3) := by decide +kernel
theorem dL_isSo_142 : decode cL_isSo 142 = .ok (.istore 7, 2) := by decide +kernel
theorem dL_isSo_144 : decode cL_isSo 144 = .ok (.iload_n 3, 1) := by decide +kernel
theorem dL_isSo_145 : decode cL_isSo 145 = .ok (.iload 6, 2) := by decide +kernel
theorem dL_isSo_147 : decode cL_isSo 147 = .ok (.ifCond .ne 7, 3) := by decide +kernel
theorem dL_isSo_150 : decode cL_isSo 150 = .ok (.iconst 1, 1) := by decide +kernel
theorem dL_isSo_151 : decode cL_isSo 151 = .ok (.goto 4, 3) := by decide +kernel
theorem dL_isSo_154 : decode cL_isSo 154 = .ok (.iconst 0, 1) := by decide +kernel
theorem dL_isSo_155 : decode cL_isSo 155 = .ok (.isub, 1) := by decide +kernel
theorem dL_isSo_156 : decode cL_isSo 156 = .ok (.istore_n 3, 1) := by decide +kernel
theorem dL_isSo_157 : decode cL_isSo 157 = .ok (.iload 6, 2) := by decide +kernel
theorem dL_isSo_159 : decode cL_isSo 159 = .ok (.ifCond .lt 61, 3) := by decide +kernel
theorem dL_isSo_162 : decode cL_isSo 162 = .ok (.iload 6, 2) := by decide +kernel
theorem dL_isSo_164 : decode cL_isSo 164 = .ok (.iconst 2, 1) := by decide +kernel
theorem dL_isSo_165 : decode cL_isSo 165 = .ok (.if_icmp .gt 55, 3) := by decide +kernel
theorem dL_isSo_168 : decode cL_isSo 168 = .ok (.iload 6, 2) := by decide +kernel
theorem dL_isSo_170 : decode cL_isSo 170 = .ok (.iconst 2, 1) := by decide +kernel
theorem dL_isSo_171 : decode cL_isSo 171 = .ok (.if_icmp .ne 12, 3) := by decide +kernel
theorem dL_isSo_174 : decode cL_isSo 174 = .ok (.iload 7, 2) := by decide +kernel
theorem dL_isSo_176 : decode cL_isSo 176 = .ok (.iconst (-1), 1) := by decide +kernel
theorem dL_isSo_177 : decode cL_isSo 177 = .ok (.if_icmp .eq 45, 3) := by decide +kernel
theorem dL_isSo_180 : decode cL_isSo 180 = .ok (.goto 40, 3) := by decide +kernel
theorem dL_isSo_183 : decode cL_isSo 183 = .ok (.iload 6, 2) := by decide +kernel
theorem dL_isSo_185 : decode cL_isSo 185 = .ok (.iconst 1, 1) := by decide +kernel
theorem dL_isSo_186 : decode cL_isSo 186 = .ok (.if_icmp .ne 19, 3) := by decide +kernel
theorem dL_isSo_189 : decode cL_isSo 189 = .ok (.iload 7, 2) := by decide +kernel
theorem dL_isSo_191 : decode cL_isSo 191 = .ok (.ifCond .lt 29, 3) := by decide +kernel
theorem dL_isSo_194 : decode cL_isSo 194 = .ok (.iload 7, 2) := by decide +kernel
theorem dL_isSo_196 : decode cL_isSo 196 = .ok (.aload_n 1, 1) := by decide +kernel
theorem dL_isSo_197 : decode cL_isSo 197 = .ok (.iconst 2, 1) := by decide +kernel
theorem dL_isSo_198 : decode cL_isSo 198 = .ok (.iaload, 1) := by decide +kernel
theorem dL_isSo_199 : decode cL_isSo 199 = .ok (.if_icmp .lt 23, 3) := by decide +kernel
theorem dL_isSo_202 : decode cL_isSo 202 = .ok (.goto 18, 3) := by decide +kernel
theorem dL_isSo_205 : decode cL_isSo 205 = .ok (.iload 7, 2) := by decide +kernel
theorem dL_isSo_207 : decode cL_isSo 207 = .ok (.aload_n 1, 1) := by decide +kernel
theorem dL_isSo_208 : decode cL_isSo 208 = .ok (.iconst 2, 1) := by decide +kernel
theorem dL_isSo_209 : decode cL_isSo 209 = .ok (.iaload, 1) := by decide +kernel
theorem dL_isSo_210 : decode cL_isSo 210 = .ok (.if_icmp .lt 10, 3) := by decide +kernel
theorem dL_isSo_213 : decode cL_isSo 213 = .ok (.iload 7, 2) := by decide +kernel
theorem dL_isSo_215 : decode cL_isSo 215 = .ok (.bipush 29, 2) := by decide +kernel
theorem dL_isSo_217 : decode cL_isSo 217 = .ok (.if_icmp .le 5, 3) := by decide +kernel
theorem dL_isSo_220 : decode cL_isSo 220 = .ok (.iconst 0, 1) := by decide +kernel
theorem dL_isSo_221 : decode cL_isSo 221 = .ok (.ireturn, 1) := by decide +kernel
theorem dL_isSo_222 : decode cL_isSo 222 = .ok (.iinc 5 1, 3) := by decide +kernel
theorem dL_isSo_225 : decode cL_isSo 225 = .ok (.goto (-105), 3) := by decide +kernel
theorem dL_isSo_228 : decode cL_isSo 228 = .ok (.iconst 0, 1) := by decide +kernel
theorem dL_isSo_229 : decode cL_isSo 229 = .ok (.istore 5, 2) := by decide +kernel
theorem dL_isSo_231 : decode cL_isSo 231 = .ok (.iload 5, 2) := by decide +kernel
theorem dL_isSo_233 : decode cL_isSo 233 = .ok (.iconst 5, 1) := by decide +kernel
theorem dL_isSo_234 : decode cL_isSo 234 = .ok (.if_icmp .ge 120, 3) := by decide +kernel
theorem dL_isSo_237 : decode cL_isSo 237 = .ok (.iconst 0, 1) := by decide +kernel
theorem dL_isSo_238 : decode cL_isSo 238 = .ok (.istore 6, 2) := by decide +kernel
theorem dL_isSo_240 : decode cL_isSo 240 = .ok (.iconst 0, 1) := by decide +kernel
theorem dL_isSo_241 : decode cL_isSo 241 = .ok (.istore 7, 2) := by decide +kernel
theorem dL_isSo_243 : decode cL_isSo 243 = .ok (.iload 7, 2) := by decide +kernel
theorem dL_isSo_245 : decode cL_isSo 245 = .ok (.aload_n 1, 1) := by decide +kernel
theorem dL_isSo_246 : decode cL_isSo 246 = .ok (.iconst 0, 1) := by decide +kernel
theorem dL_isSo_247 : decode cL_isSo 247 = .ok (.iaload, 1) := by decide +kernel
theorem dL_isSo_248 : decode cL_isSo 248 = .ok (.if_icmp .ge 100, 3) := by decide +kernel
theorem dL_isSo_251 : decode cL_isSo 251 = .ok (.aload_n 0, 1) := by decide +kernel
theorem dL_isSo_252 : decode cL_isSo 252 = .ok (.iload 7, 2) := by decide +kernel
theorem dL_isSo_254 : decode cL_isSo 254 = .ok (.iload 5, 2) := by decide +kernel
theorem dL_isSo_256 : decode cL_isSo 256 = .ok (.invokestatic 97, 3) := by decide +kernel
theorem dL_isSo_259 : decode cL_isSo 259 = .ok (.iload 6, 2) := by decide +kernel
theorem dL_isSo_261 : decode cL_isSo 261 = .ok (.if_icmp .eq 5, 3) := by decide +kernel
theorem dL_isSo_264 : decode cL_isSo 264 = .ok (.iconst 0, 1) := by decide +kernel
theorem dL_isSo_265 : decode cL_isSo 265 = .ok (.ireturn, 1) := by decide +kernel
theorem dL_isSo_266 : decode cL_isSo 266 = .ok (.aload_n 0, 1) := by decide +kernel
theorem dL_isSo_267 : decode cL_isSo 267 = .ok (.iload 7, 2) := by decide +kernel
theorem dL_isSo_269 : decode cL_isSo 269 = .ok (.invokestatic 90, 3) := by decide +kernel
theorem dL_isSo_272 : decode cL_isSo 272 = .ok (.iconst 2, 1) := by decide +kernel
theorem dL_isSo_273 : decode cL_isSo 273 = .ok (.if_icmp .ne 7, 3) := by decide +kernel
theorem dL_isSo_276 : decode cL_isSo 276 = .ok (.iconst 0, 1) := by decide +kernel
theorem dL_isSo_277 : decode cL_isSo 277 = .ok (.goto 12, 3) := by decide +kernel
theorem dL_isSo_280 : decode cL_isSo 280 = .ok (.aload_n 2, 1) := by decide +kernel
theorem dL_isSo_281 : decode cL_isSo 281 = .ok (.iconst 5, 1) := by decide +kernel
theorem dL_isSo_282 : decode cL_isSo 282 = .ok (.iload 7, 2) := by decide +kernel
theorem dL_isSo_284 : decode cL_isSo 284 = .ok (.imul, 1) := by decide +kernel
theorem dL_isSo_285 : decode cL_isSo 285 = .ok (.iload 5, 2) := by decide +kernel
theorem dL_isSo_287 : decode cL_isSo 287 = .ok (.iadd, 1) := by decide +kernel
theorem dL_isSo_288 : decode cL_isSo 288 = .ok (.iaload, 1) := by decide +kernel
theorem dL_isSo_289 : decode cL_isSo 289 = .ok (.istore 8, 2) := by decide +kernel
theorem dL_isSo_291 : decode cL_isSo 291 = .ok (.iload 8, 2) := by decide +kernel
theorem dL_isSo_293 : decode cL_isSo 293 = .ok (.ifCond .le 32, 3) := by decide +kernel
theorem dL_isSo_296 : decode cL_isSo 296 = .ok (.iload 8, 2) := by decide +kernel
theorem dL_isSo_298 : decode cL_isSo 298 = .ok (.bipush 8, 2) := by decide +kernel
theorem dL_isSo_300 : decode cL_isSo 300 = .ok (.irem, 1) := by decide +kernel
theorem dL_isSo_301 : decode cL_isSo 301 = .ok (.iconst 1, 1) := by decide +kernel
theorem dL_isSo_302 : decode cL_isSo 302 = .ok (.isub, 1) := by decide +kernel
theorem dL_isSo_303 : decode cL_isSo 303 = .ok (.iload 6, 2) := by decide +kernel
theorem dL_isSo_305 : decode cL_isSo 305 = .ok (.if_icmp .lt 18, 3) := by decide +kernel
theorem dL_isSo_308 : decode cL_isSo 308 = .ok (.iload 8, 2) := by decide +kernel
theorem dL_isSo_310 : decode cL_isSo 310 = .ok (.bipush 8, 2) := by decide +kernel
theorem dL_isSo_312 : decode cL_isSo 312 = .ok (.idiv, 1) := by decide +kernel
theorem dL_isSo_313 : decode cL_isSo 313 = .ok (.iload 8, 2) := by decide +kernel
theorem dL_isSo_315 : decode cL_isSo 315 = .ok (.bipush 8, 2) := by decide +kernel
theorem dL_isSo_317 : decode cL_isSo 317 = .ok (.irem, 1) := by decide +kernel
theorem dL_isSo_318 : decode cL_isSo 318 = .ok (.iconst 1, 1) := by decide +kernel
theorem dL_isSo_319 : decode cL_isSo 319 = .ok (.isub, 1) := by decide +kernel
theorem dL_isSo_320 : decode cL_isSo 320 = .ok (.if_icmp .ge 5, 3) := by decide +kernel
theorem dL_isSo_323 : decode cL_isSo 323 = .ok (.iconst 0, 1) := by decide +kernel
theorem dL_isSo_324 : decode cL_isSo 324 = .ok (.ireturn, 1) := by decide +kernel
theorem dL_isSo_325 : decode cL_isSo 325 = .ok (.iload 8, 2) := by decide +kernel
theorem dL_isSo_327 : decode cL_isSo 327 = .ok (.ifCond .le 11, 3) := by decide +kernel
theorem dL_isSo_330 : decode cL_isSo 330 = .ok (.iload 8, 2) := by decide +kernel
theorem dL_isSo_332 : decode cL_isSo 332 = .ok (.bipush 8, 2) := by decide +kernel
theorem dL_isSo_334 : decode cL_isSo 334 = .ok (.idiv, 1) := by decide +kernel
theorem dL_isSo_335 : decode cL_isSo 335 = .ok (.goto 5, 3) := by decide +kernel
theorem dL_isSo_338 : decode cL_isSo 338 = .ok (.iload 6, 2) := by decide +kernel
theorem dL_isSo_340 : decode cL_isSo 340 = .ok (.istore 6, 2) := by decide +kernel
theorem dL_isSo_342 : decode cL_isSo 342 = .ok (.iinc 7 1, 3) := by decide +kernel
theorem dL_isSo_345 : decode cL_isSo 345 = .ok (.goto (-102), 3) := by decide +kernel
theorem dL_isSo_348 : decode cL_isSo 348 = .ok (.iinc 5 1, 3) := by decide +kernel
theorem dL_isSo_351 : decode cL_isSo 351 = .ok (.goto (-120), 3) := by decide +kernel
theorem dL_isSo_354 : decode cL_isSo 354 = .ok (.iload_n 3, 1) := by decide +kernel
theorem dL_isSo_355 : decode cL_isSo 355 = .ok (.ifCond .ne 161, 3) := by decide +kernel
theorem dL_isSo_358 : decode cL_isSo 358 = .ok (.aload_n 0, 1) := by decide +kernel
theorem dL_isSo_359 : decode cL_isSo 359 = .ok (.invokevirtual 99, 3) := by decide +kernel
theorem dL_isSo_362 : decode cL_isSo 362 = .ok (.iload 4, 2) := by decide +kernel
theorem dL_isSo_364 : decode cL_isSo 364 = .ok (.if_icmp .ne 152, 3) := by decide +kernel
theorem dL_isSo_367 : decode cL_isSo 367 = .ok (.aload_n 0, 1) := by decide +kernel
theorem dL_isSo_368 : decode cL_isSo 368 = .ok (.invokevirtual 102, 3) := by decide +kernel
theorem dL_isSo_371 : decode cL_isSo 371 = .ok (.aload_n 1, 1) := by decide +kernel
theorem dL_isSo_372 : decode cL_isSo 372 = .ok (.iconst 2, 1) := by decide +kernel
theorem dL_isSo_373 : decode cL_isSo 373 = .ok (.iaload, 1) := by decide +kernel
theorem dL_isSo_374 : decode cL_isSo 374 = .ok (.if_icmp .ne 142, 3) := by decide +kernel
theorem dL_isSo_377 : decode cL_isSo 377 = .ok (.aload_n 0, 1) := by decide +kernel
theorem dL_isSo_378 : decode cL_isSo 378 = .ok (.invokevirtual 105, 3) := by decide +kernel
theorem dL_isSo_381 : decode cL_isSo 381 = .ok (.aload_n 1, 1) := by decide +kernel
theorem dL_isSo_382 : decode cL_isSo 382 = .ok (.iconst 3, 1) := by decide +kernel
theorem dL_isSo_383 : decode cL_isSo 383 = .ok (.iaload, 1) := by decide +kernel
theorem dL_isSo_384 : decode cL_isSo 384 = .ok (.if_icmp .ne 132, 3) := by decide +kernel
theorem dL_isSo_387 : decode cL_isSo 387 = .ok (.aload_n 0, 1) := by decide +kernel
theorem dL_isSo_388 : decode cL_isSo 388 = .ok (.invokevirtual 108, 3) := by decide +kernel
theorem dL_isSo_391 : decode cL_isSo 391 = .ok (.aload_n 1, 1) := by decide +kernel
theorem dL_isSo_392 : decode cL_isSo 392 = .ok (.iconst 0, 1) := by decide +kernel
theorem dL_isSo_393 : decode cL_isSo 393 = .ok (.iaload, 1) := by decide +kernel
theorem dL_isSo_394 : decode cL_isSo 394 = .ok (.if_icmp .ne 122, 3) := by decide +kernel
theorem dL_isSo_397 : decode cL_isSo 397 = .ok (.aload_n 0, 1) := by decide +kernel
theorem dL_isSo_398 : decode cL_isSo 398 = .ok (.invokevirtual 111, 3) := by decide +kernel
theorem dL_isSo_401 : decode cL_isSo 401 = .ok (.bipush 20, 2) := by decide +kernel
theorem dL_isSo_403 : decode cL_isSo 403 = .ok (.iload 4, 2) := by decide +kernel
theorem dL_isSo_405 : decode cL_isSo 405 = .ok (.imul, 1) := by decide +kernel
theorem dL_isSo_406 : decode cL_isSo 406 = .ok (.if_icmp .lt 110, 3) := by decide +kernel
theorem dL_isSo_409 : decode cL_isSo 409 = .ok (.aload_n 0, 1) := by decide +kernel
theorem dL_isSo_410 : decode cL_isSo 410 = .ok (.bipush 30, 2) := by decide +kernel
theorem dL_isSo_412 : decode cL_isSo 412 = .ok (.invokestatic 85, 3) := by decide +kernel
theorem dL_isSo_415 : decode cL_isSo 415 = .ok (.ldc 18, 2) := by decide +kernel
theorem dL_isSo_417 : decode cL_isSo 417 = .ok (.if_icmp .ne 99, 3) := by decide +kernel
theorem dL_isSo_420 : decode cL_isSo 420 = .ok (.aload_n 0, 1) := by decide +kernel
theorem dL_isSo_421 : decode cL_isSo 421 = .ok (.iconst (-1), 1) := by decide +kernel
theorem dL_isSo_422 : decode cL_isSo 422 = .ok (.invokestatic 85, 3) := by decide +kernel
theorem dL_isSo_425 : decode cL_isSo 425 = .ok (.ldc 18, 2) := by decide +kernel
theorem dL_isSo_427 : decode cL_isSo 427 = .ok (.if_icmp .ne 89, 3) := by decide +kernel
theorem dL_isSo_430 : decode cL_isSo 430 = .ok (.aload_n 0, 1) := by decide +kernel
theorem dL_isSo_431 : decode cL_isSo 431 = .ok (.aload_n 1, 1) := by decide +kernel
theorem dL_isSo_432 : decode cL_isSo 432 = .ok (.iconst 0, 1) := by decide +kernel
theorem dL_isSo_433 : decode cL_isSo 433 = .ok (.iaload, 1) := by decide +kernel
theorem dL_isSo_434 : decode cL_isSo 434 = .ok (.invokestatic 90, 3) := by decide +kernel
theorem dL_isSo_437 : decode cL_isSo 437 = .ok (.ldc 28, 2) := by decide +kernel
theorem dL_isSo_439 : decode cL_isSo 439 = .ok (.if_icmp .ne 77, 3) := by decide +kernel
theorem dL_isSo_442 : decode cL_isSo 442 = .ok (.aload_n 0, 1) := by decide +kernel
theorem dL_isSo_443 : decode cL_isSo 443 = .ok (.iconst (-1), 1) := by decide +kernel
theorem dL_isSo_444 : decode cL_isSo 444 = .ok (.invokestatic 92, 3) := by decide +kernel
theorem dL_isSo_447 : decode cL_isSo 447 = .ok (.ldc 28, 2) := by decide +kernel
theorem dL_isSo_449 : decode cL_isSo 449 = .ok (.if_icmp .ne 67, 3) := by decide +kernel
theorem dL_isSo_452 : decode cL_isSo 452 = .ok (.aload_n 0, 1) := by decide +kernel
theorem dL_isSo_453 : decode cL_isSo 453 = .ok (.aload_n 1, 1) := by decide +kernel
theorem dL_isSo_454 : decode cL_isSo 454 = .ok (.iconst 0, 1) := by decide +kernel
theorem dL_isSo_455 : decode cL_isSo 455 = .ok (.iaload, 1) := by decide +kernel
theorem dL_isSo_456 : decode cL_isSo 456 = .ok (.bipush 30, 2) := by decide +kernel
theorem dL_isSo_458 : decode cL_isSo 458 = .ok (.invokestatic 94, 3) := by decide +kernel
theorem dL_isSo_461 : decode cL_isSo 461 = .ok (.ldc 28, 2) := by decide +kernel
theorem dL_isSo_463 : decode cL_isSo 463 = .ok (.if_icmp .ne 53, 3) := by decide +kernel
theorem dL_isSo_466 : decode cL_isSo 466 = .ok (.aload_n 0, 1) := by decide +kernel
theorem dL_isSo_467 : decode cL_isSo 467 = .ok (.aload_n 1, 1) := by decide +kernel
theorem dL_isSo_468 : decode cL_isSo 468 = .ok (.iconst 0, 1) := by decide +kernel
theorem dL_isSo_469 : decode cL_isSo 469 = .ok (.iaload, 1) := by decide +kernel
theorem dL_isSo_470 : decode cL_isSo 470 = .ok (.iconst 0, 1) := by decide +kernel
theorem dL_isSo_471 : decode cL_isSo 471 = .ok (.invokestatic 97, 3) := by decide +kernel
theorem dL_isSo_474 : decode cL_isSo 474 = .ok (.ldc 28, 2) := by decide +kernel
theorem dL_isSo_476 : decode cL_isSo 476 = .ok (.if_icmp .ne 40, 3) := by decide +kernel
theorem dL_isSo_479 : decode cL_isSo 479 = .ok (.aload_n 0, 1) := by decide +kernel
theorem dL_isSo_480 : decode cL_isSo 480 = .ok (.iconst 5, 1) := by decide +kernel
theorem dL_isSo_481 : decode cL_isSo 481 = .ok (.invokestatic 114, 3) := by decide +kernel
theorem dL_isSo_484 : decode cL_isSo 484 = .ok (.ldc 28, 2) := by decide +kernel
theorem dL_isSo_486 : decode cL_isSo 486 = .ok (.if_icmp .ne 30, 3) := by decide +kernel
theorem dL_isSo_489 : decode cL_isSo 489 = .ok (.aload_n 0, 1) := by decide +kernel
theorem dL_isSo_490 : decode cL_isSo 490 = .ok (.iconst 5, 1) := by decide +kernel
theorem dL_isSo_491 : decode cL_isSo 491 = .ok (.bipush 9, 2) := by decide +kernel
theorem dL_isSo_493 : decode cL_isSo 493 = .ok (.invokestatic 116, 3) := by decide +kernel
theorem dL_isSo_496 : decode cL_isSo 496 = .ok (.ldc 28, 2) := by decide +kernel
theorem dL_isSo_498 : decode cL_isSo 498 = .ok (.if_icmp .ne 18, 3) := by decide +kernel
theorem dL_isSo_501 : decode cL_isSo 501 = .ok (.aload_n 0, 1) := by decide +kernel
theorem dL_isSo_502 : decode cL_isSo 502 = .ok (.iconst 0, 1) := by decide +kernel
theorem dL_isSo_503 : decode cL_isSo 503 = .ok (.iconst 4, 1) := by decide +kernel
theorem dL_isSo_504 : decode cL_isSo 504 = .ok (.invokestatic 116, 3) := by decide +kernel
theorem dL_isSo_507 : decode cL_isSo 507 = .ok (.ldc 18, 2) := by decide +kernel
theorem dL_isSo_509 : decode cL_isSo 509 = .ok (.if_icmp .ne 7, 3) := by decide +kernel
theorem dL_isSo_512 : decode cL_isSo 512 = .ok (.iconst 1, 1) := by decide +kernel
theorem dL_isSo_513 : decode cL_isSo 513 = .ok (.goto 4, 3) := by decide +kernel
theorem dL_isSo_516 : decode cL_isSo 516 = .ok (.iconst 0, 1) := by decide +kernel
theorem dL_isSo_517 : decode cL_isSo 517 = .ok (.ireturn, 1) := by decide +kernel
theorem dL_use_0 : decode cL_use 0 = .ok (.aload_n 1, 1) := by decide +kernel
theorem dL_use_1 : decode cL_use 1 = .ok (.iload_n 2, 1) := by decide +kernel
theorem dL_use_2 : decode cL_use 2 = .ok (.invokestatic 90, 3) := by decide +kernel
theorem dL_use_5 : decode cL_use 5 = .ok (.iconst 2, 1) := by decide +kernel
theorem dL_use_6 : decode cL_use 6 = .ok (.if_icmp .ne 7, 3) := by decide +kernel
theorem dL_use_9 : decode cL_use 9 = .ok (.iconst 0, 1) := by decide +kernel
theorem dL_use_10 : decode cL_use 10 = .ok (.goto 10, 3) := by decide +kernel
theorem dL_use_13 : decode cL_use 13 = .ok (.aload_n 0, 1) := by decide +kernel
theorem dL_use_14 : decode cL_use 14 = .ok (.iconst 5, 1) := by decide +kernel
theorem dL_use_15 : decode cL_use 15 = .ok (.iload_n 2, 1) := by decide +kernel
theorem dL_use_16 : decode cL_use 16 = .ok (.imul, 1) := by decide +kernel
theorem dL_use_17 : decode cL_use 17 = .ok (.iload_n 3, 1) := by decide +kernel
theorem dL_use_18 : decode cL_use 18 = .ok (.iadd, 1) := by decide +kernel
theorem dL_use_19 : decode cL_use 19 = .ok (.iaload, 1) := by decide +kernel
theorem dL_use_20 : decode cL_use 20 = .ok (.ireturn, 1) := by decide +kernel
theorem dL_scenes_0 : decode cL_scenes 0 = .ok (.aload_n 1, 1) := by decide +kernel
theorem dL_scenes_1 : decode cL_scenes 1 = .ok (.iconst 0, 1) := by decide +kernel
theorem dL_scenes_2 : decode cL_scenes 2 = .ok (.iaload, 1) := by decide +kernel
theorem dL_scenes_3 : decode cL_scenes 3 = .ok (.iconst 2, 1) := by decide +kernel
theorem dL_scenes_4 : decode cL_scenes 4 = .ok (.if_icmp .lt 11, 3) := by decide +kernel
theorem dL_scenes_7 : decode cL_scenes 7 = .ok (.iload_n 3, 1) := by decide +kernel
theorem dL_scenes_8 : decode cL_scenes 8 = .ok (.iconst 5, 1) := by decide +kernel
theorem dL_scenes_9 : decode cL_scenes 9 = .ok (.invokestatic 118, 3) := by decide +kernel
theorem dL_scenes_12 : decode cL_scenes 12 = .ok (.ifCond .ne 180, 3) := by decide +kernel
theorem dL_scenes_15 : decode cL_scenes 15 = .ok (.aload_n 1, 1) := by decide +kernel
theorem dL_scenes_16 : decode cL_scenes 16 = .ok (.iconst 2, 1) := by decide +kernel
theorem dL_scenes_17 : decode cL_scenes 17 = .ok (.iaload, 1) := by decide +kernel
theorem dL_scenes_18 : decode cL_scenes 18 = .ok (.iconst 1, 1) := by decide +kernel
theorem dL_scenes_19 : decode cL_scenes 19 = .ok (.isub, 1) := by decide +kernel
theorem dL_scenes_20 : decode cL_scenes 20 = .ok (.istore 5, 2) := by decide +kernel
theorem dL_scenes_22 : decode cL_scenes 22 = .ok (.iconst 0, 1) := by decide +kernel
theorem dL_scenes_23 : decode cL_scenes 23 = .ok (.istore 6, 2) := by decide +kernel
theorem dL_scenes_25 : decode cL_scenes 25 = .ok (.iload 6, 2) := by decide +kernel
theorem dL_scenes_27 : decode cL_scenes 27 = .ok (.bipush 30, 2) := by decide +kernel
theorem dL_scenes_29 : decode cL_scenes 29 = .ok (.if_icmp .ge 27, 3) := by decide +kernel
theorem dL_scenes_32 : decode cL_scenes 32 = .ok (.aload_n 0, 1) := by decide +kernel
theorem dL_scenes_33 : decode cL_scenes 33 = .ok (.iload 6, 2) := by decide +kernel
theorem dL_scenes_35 : decode cL_scenes 35 = .ok (.invokestatic 85, 3) := by decide +kernel
theorem dL_scenes_38 : decode cL_scenes 38 = .ok (.ifCond .lt 8, 3) := by decide +kernel
theorem dL_scenes_41 : decode cL_scenes 41 = .ok (.iload 6, 2) := by decide +kernel
theorem dL_scenes_43 : decode cL_scenes 43 = .ok (.goto 5, 3) := by decide +kernel
theorem dL_scenes_46 : decode cL_scenes 46 = .ok (.iload 5, 2) := by decide +kernel
theorem dL_scenes_48 : decode cL_scenes 48 = .ok (.istore 5, 2) := by decide +kernel
theorem dL_scenes_50 : decode cL_scenes 50 = .ok (.iinc 6 1, 3) := by decide +kernel
theorem dL_scenes_53 : decode cL_scenes 53 = .ok (.goto (-28), 3) := by decide +kernel
theorem dL_scenes_56 : decode cL_scenes 56 = .ok (.aload_n 1, 1) := by decide +kernel
theorem dL_scenes_57 : decode cL_scenes 57 = .ok (.iconst 0, 1) := by decide +kernel
theorem dL_scenes_58 : decode cL_scenes 58 = .ok (.iaload, 1) := by decide +kernel
theorem dL_scenes_59 : decode cL_scenes 59 = .ok (.bipush 10, 2) := by decide +kernel
theorem dL_scenes_61 : decode cL_scenes 61 = .ok (.if_icmp .eq 10, 3) := by decide +kernel
theorem dL_scenes_64 : decode cL_scenes 64 = .ok (.iload 5, 2) := by decide +kernel
theorem dL_scenes_66 : decode cL_scenes 66 = .ok (.bipush 29, 2) := by decide +kernel
theorem dL_scenes_68 : decode cL_scenes 68 = .ok (.if_icmp .ne 8, 3) := by decide +kernel
theorem dL_scenes_71 : decode cL_scenes 71 = .ok (.ldc 21, 2) := by decide +kernel
theorem dL_scenes_73 : decode cL_scenes 73 = .ok (.goto 6, 3) := by decide +kernel
theorem dL_scenes_76 : decode cL_scenes 76 = .ok (.aload_n 1, 1) := by decide +kernel
theorem dL_scenes_77 : decode cL_scenes 77 = .ok (.iconst 0, 1) := by decide +kernel
theorem dL_scenes_78 : decode cL_scenes 78 = .ok (.iaload, 1) := by decide +kernel
theorem dL_scenes_79 : decode cL_scenes 79 = .ok (.istore 6, 2) := by decide +kernel
theorem dL_scenes_81 : decode cL_scenes 81 = .ok (.aload_n 1, 1) := by decide +kernel
theorem dL_scenes_82 : decode cL_scenes 82 = .ok (.iconst 0, 1) := by decide +kernel
theorem dL_scenes_83 : decode cL_scenes 83 = .ok (.dup2, 1) := by decide +kernel
theorem dL_scenes_84 : decode cL_scenes 84 = .ok (.iaload, 1) := by decide +kernel
theorem dL_scenes_85 : decode cL_scenes 85 = .ok (.iload 6, 2) := by decide +kernel
theorem dL_scenes_87 : decode cL_scenes 87 = .ok (.ifCond .ge 7, 3) := by decide +kernel
theorem dL_scenes_90 : decode cL_scenes 90 = .ok (.iconst 0, 1) := by decide +kernel
theorem dL_scenes_91 : decode cL_scenes 91 = .ok (.goto 4, 3) := by decide +kernel
theorem dL_scenes_94 : decode cL_scenes 94 = .ok (.iconst 1, 1) := by decide +kernel
theorem dL_scenes_95 : decode cL_scenes 95 = .ok (.iadd, 1) := by decide +kernel
theorem dL_scenes_96 : decode cL_scenes 96 = .ok (.iastore, 1) := by decide +kernel
theorem dL_scenes_97 : decode cL_scenes 97 = .ok (.aload_n 0, 1) := by decide +kernel
theorem dL_scenes_98 : decode cL_scenes 98 = .ok (.iload 4, 2) := by decide +kernel
theorem dL_scenes_100 : decode cL_scenes 100 = .ok (.iconst 4, 1) := by decide +kernel
theorem dL_scenes_101 : decode cL_scenes 101 = .ok (.invokestatic 118, 3) := by decide +kernel
theorem dL_scenes_104 : decode cL_scenes 104 = .ok (.iload 4, 2) := by decide +kernel
theorem dL_scenes_106 : decode cL_scenes 106 = .ok (.iconst 2, 1) := by decide +kernel
theorem dL_scenes_107 : decode cL_scenes 107 = .ok (.ishr, 1) := by decide +kernel
theorem dL_scenes_108 : decode cL_scenes 108 = .ok (.iconst 3, 1) := by decide +kernel
theorem dL_scenes_109 : decode cL_scenes 109 = .ok (.invokestatic 118, 3) := by decide +kernel
theorem dL_scenes_112 : decode cL_scenes 112 = .ok (.ifCond .ne 15, 3) := by decide +kernel
theorem dL_scenes_115 : decode cL_scenes 115 = .ok (.iload 4, 2) := by decide +kernel
theorem dL_scenes_117 : decode cL_scenes 117 = .ok (.iconst 4, 1) := by decide +kernel
theorem dL_scenes_118 : decode cL_scenes 118 = .ok (.ishr, 1) := by decide +kernel
theorem dL_scenes_119 : decode cL_scenes 119 = .ok (.bipush 10, 2) := by decide +kernel
theorem dL_scenes_121 : decode cL_scenes 121 = .ok (.invokestatic 118, 3) := by decide +kernel
theorem dL_scenes_124 : decode cL_scenes 124 = .ok (.goto 4, 3) := by decide +kernel
theorem dL_scenes_127 : decode cL_scenes 127 = .ok (.iconst 0, 1) := by decide +kernel
theorem dL_scenes_128 : decode cL_scenes 128 = .ok (.invokestatic 121, 3) := by decide +kernel
theorem dL_scenes_131 : decode cL_scenes 131 = .ok (.iload 6, 2) := by decide +kernel
theorem dL_scenes_133 : decode cL_scenes 133 = .ok (.if_icmp .ne 57, 3) := by decide +kernel
theorem dL_scenes_136 : decode cL_scenes 136 = .ok (.iload 6, 2) := by decide +kernel
theorem dL_scenes_138 : decode cL_scenes 138 = .ok (.ifCond .lt 25, 3) := by decide +kernel
theorem dL_scenes_141 : decode cL_scenes 141 = .ok (.aload_n 0, 1) := by decide +kernel
theorem dL_scenes_142 : decode cL_scenes 142 = .ok (.iload 6, 2) := by decide +kernel
theorem dL_scenes_144 : decode cL_scenes 144 = .ok (.invokestatic 92, 3) := by decide +kernel
theorem dL_scenes_147 : decode cL_scenes 147 = .ok (.iload 5, 2) := by decide +kernel
theorem dL_scenes_149 : decode cL_scenes 149 = .ok (.iconst 1, 1) := by decide +kernel
theorem dL_scenes_150 : decode cL_scenes 150 = .ok (.iadd, 1) := by decide +kernel
theorem dL_scenes_151 : decode cL_scenes 151 = .ok (.if_icmp .ne 39, 3) := by decide +kernel
theorem dL_scenes_154 : decode cL_scenes 154 = .ok (.aload_n 0, 1) := by decide +kernel
theorem dL_scenes_155 : decode cL_scenes 155 = .ok (.iload 6, 2) := by decide +kernel
theorem dL_scenes_157 : decode cL_scenes 157 = .ok (.invokestatic 90, 3) := by decide +kernel
theorem dL_scenes_160 : decode cL_scenes 160 = .ok (.ifCond .ne 30, 3) := by decide +kernel
theorem dL_scenes_163 : decode cL_scenes 163 = .ok (.aload_n 0, 1) := by decide +kernel
theorem dL_scenes_164 : decode cL_scenes 164 = .ok (.iconst 4, 1) := by decide +kernel
theorem dL_scenes_165 : decode cL_scenes 165 = .ok (.iconst 0, 1) := by decide +kernel
theorem dL_scenes_166 : decode cL_scenes 166 = .ok (.invokestatic 121, 3) := by decide +kernel
theorem dL_scenes_169 : decode cL_scenes 169 = .ok (.ldc 18, 2) := by decide +kernel
theorem dL_scenes_171 : decode cL_scenes 171 = .ok (.if_icmp .ne 19, 3) := by decide +kernel
theorem dL_scenes_174 : decode cL_scenes 174 = .ok (.aload_n 0, 1) := by decide +kernel
theorem dL_scenes_175 : decode cL_scenes 175 = .ok (.iconst 0, 1) := by decide +kernel
theorem dL_scenes_176 : decode cL_scenes 176 = .ok (.bipush 10, 2) := by decide +kernel
theorem dL_scenes_178 : decode cL_scenes 178 = .ok (.invokestatic 121, 3) := by decide +kernel
theorem dL_scenes_181 : decode cL_scenes 181 = .ok (.ldc 18, 2) := by decide +kernel
theorem dL_scenes_183 : decode cL_scenes 183 = .ok (.if_icmp .ne 7, 3) := by decide +kernel
theorem dL_scenes_186 : decode cL_scenes 186 = .ok (.iconst 1, 1) := by decide +kernel
theorem dL_scenes_187 : decode cL_scenes 187 = .ok (.goto 4, 3) := by decide +kernel
theorem dL_scenes_190 : decode cL_scenes 190 = .ok (.iconst 0, 1) := by decide +kernel
theorem dL_scenes_191 : decode cL_scenes 191 = .ok (.ireturn, 1) := by decide +kernel
theorem dL_scenes_192 : decode cL_scenes 192 = .ok (.iload_n 3, 1) := by decide +kernel
theorem dL_scenes_193 : decode cL_scenes 193 = .ok (.iconst 3, 1) := by decide +kernel
theorem dL_scenes_194 : decode cL_scenes 194 = .ok (.ishr, 1) := by decide +kernel
theorem dL_scenes_195 : decode cL_scenes 195 = .ok (.aload_n 1, 1) := by decide +kernel
theorem dL_scenes_196 : decode cL_scenes 196 = .ok (.iconst 0, 1) := by decide +kernel
theorem dL_scenes_197 : decode cL_scenes 197 = .ok (.iaload, 1) := by decide +kernel
theorem dL_scenes_198 : decode cL_scenes 198 = .ok (.invokestatic 118, 3) := by decide +kernel
theorem dL_scenes_201 : decode cL_scenes 201 = .ok (.istore 5, 2) := by decide +kernel
theorem dL_scenes_203 : decode cL_scenes 203 = .ok (.aload_n 0, 1) := by decide +kernel
theorem dL_scenes_204 : decode cL_scenes 204 = .ok (.iload 5, 2) := by decide +kernel
theorem dL_scenes_206 : decode cL_scenes 206 = .ok (.invokestatic 90, 3) := by decide +kernel
theorem dL_scenes_209 : decode cL_scenes 209 = .ok (.ifCond .ne 7, 3) := by decide +kernel
theorem dL_scenes_212 : decode cL_scenes 212 = .ok (.iconst 1, 1) := by decide +kernel
theorem dL_scenes_213 : decode cL_scenes 213 = .ok (.goto 4, 3) := by decide +kernel
theorem dL_scenes_216 : decode cL_scenes 216 = .ok (.iconst 0, 1) := by decide +kernel
theorem dL_scenes_217 : decode cL_scenes 217 = .ok (.istore 6, 2) := by decide +kernel
theorem dL_scenes_219 : decode cL_scenes 219 = .ok (.iload 4, 2) := by decide +kernel
theorem dL_scenes_221 : decode cL_scenes 221 = .ok (.iconst 5, 1) := by decide +kernel
theorem dL_scenes_222 : decode cL_scenes 222 = .ok (.invokestatic 118, 3) := by decide +kernel
theorem dL_scenes_225 : decode cL_scenes 225 = .ok (.istore 7, 2) := by decide +kernel
theorem dL_scenes_227 : decode cL_scenes 227 = .ok (.iload_n 3, 1) := by decide +kernel
theorem dL_scenes_228 : decode cL_scenes 228 = .ok (.bipush 7, 2) := by decide +kernel
theorem dL_scenes_230 : decode cL_scenes 230 = .ok (.ishr, 1) := by decide +kernel
theorem dL_scenes_231 : decode cL_scenes 231 = .ok (.iconst 3, 1) := by decide +kernel
theorem dL_scenes_232 : decode cL_scenes 232 = .ok (.invokestatic 118, 3) := by decide +kernel
theorem dL_scenes_235 : decode cL_scenes 235 = .ok (.ifCond .ne 100, 3) := by decide +kernel
theorem dL_scenes_238 : decode cL_scenes 238 = .ok (.aload_n 0, 1) := by decide +kernel
theorem dL_scenes_239 : decode cL_scenes 239 = .ok (.iload 5, 2) := by decide +kernel
theorem dL_scenes_241 : decode cL_scenes 241 = .ok (.iload 7, 2) := by decide +kernel
theorem dL_scenes_243 : decode cL_scenes 243 = .ok (.iload 4, 2) := by decide +kernel
theorem dL_scenes_245 : decode cL_scenes 245 = .ok (.iconst 3, 1) := by decide +kernel
theorem dL_scenes_246 : decode cL_scenes 246 = .ok (.ishr, 1) := by decide +kernel
theorem dL_scenes_247 : decode cL_scenes 247 = .ok (.bipush 22, 2) := by decide +kernel
theorem dL_scenes_249 : decode cL_scenes 249 = .ok (.invokestatic 118, 3) := by decide +kernel
theorem dL_scenes_252 : decode cL_scenes 252 = .ok (.iconst 1, 1) := by decide +kernel
theorem dL_scenes_253 : decode cL_scenes 253 = .ok (.isub, 1) := by decide +kernel
theorem dL_scenes_254 : decode cL_scenes 254 = .ok (.invokestatic 123, 3) := by decide +kernel
theorem dL_scenes_257 : decode cL_scenes 257 = .ok (.istore 8, 2) := by decide +kernel
theorem dL_scenes_259 : decode cL_scenes 259 = .ok (.iload 6, 2) := by decide +kernel
theorem dL_scenes_261 : decode cL_scenes 261 = .ok (.ifCond .eq 18, 3) := by decide +kernel
theorem dL_scenes_264 : decode cL_scenes 264 = .ok (.iload 8, 2) := by decide +kernel
theorem dL_scenes_266 : decode cL_scenes 266 = .ok (.iconst 1, 1) := by decide +kernel
theorem dL_scenes_267 : decode cL_scenes 267 = .ok (.if_icmp .lt 66, 3) := by decide +kernel
theorem dL_scenes_270 : decode cL_scenes 270 = .ok (.iload 8, 2) := by decide +kernel
theorem dL_scenes_272 : decode cL_scenes 272 = .ok (.iconst 5, 1) := by decide +kernel
theorem dL_scenes_273 : decode cL_scenes 273 = .ok (.if_icmp .gt 60, 3) := by decide +kernel
theorem dL_scenes_276 : decode cL_scenes 276 = .ok (.goto 10, 3) := by decide +kernel
theorem dL_scenes_279 : decode cL_scenes 279 = .ok (.iload 8, 2) := by decide +kernel
theorem dL_scenes_281 : decode cL_scenes 281 = .ok (.ldc 21, 2) := by decide +kernel
theorem dL_scenes_283 : decode cL_scenes 283 = .ok (.if_icmp .ne 50, 3) := by decide +kernel
theorem dL_scenes_286 : decode cL_scenes 286 = .ok (.aload_n 0, 1) := by decide +kernel
theorem dL_scenes_287 : decode cL_scenes 287 = .ok (.iload 5, 2) := by decide +kernel
theorem dL_scenes_289 : decode cL_scenes 289 = .ok (.iload 7, 2) := by decide +kernel
theorem dL_scenes_291 : decode cL_scenes 291 = .ok (.bipush 21, 2) := by decide +kernel
theorem dL_scenes_293 : decode cL_scenes 293 = .ok (.invokestatic 123, 3) := by decide +kernel
theorem dL_scenes_296 : decode cL_scenes 296 = .ok (.ldc 18, 2) := by decide +kernel
theorem dL_scenes_298 : decode cL_scenes 298 = .ok (.if_icmp .ne 35, 3) := by decide +kernel
theorem dL_scenes_301 : decode cL_scenes 301 = .ok (.aload_n 0, 1) := by decide +kernel
theorem dL_scenes_302 : decode cL_scenes 302 = .ok (.iload 5, 2) := by decide +kernel
theorem dL_scenes_304 : decode cL_scenes 304 = .ok (.iconst 5, 1) := by decide +kernel
theorem dL_scenes_305 : decode cL_scenes 305 = .ok (.iconst 0, 1) := by decide +kernel
theorem dL_scenes_306 : decode cL_scenes 306 = .ok (.invokestatic 123, 3) := by decide +kernel
theorem dL_scenes_309 : decode cL_scenes 309 = .ok (.ldc 28, 2) := by decide +kernel
theorem dL_scenes_311 : decode cL_scenes 311 = .ok (.if_icmp .ne 22, 3) := by decide +kernel
theorem dL_scenes_314 : decode cL_scenes 314 = .ok (.aload_n 0, 1) := by decide +kernel
theorem dL_scenes_315 : decode cL_scenes 315 = .ok (.aload_n 1, 1) := by decide +kernel
theorem dL_scenes_316 : decode cL_scenes 316 = .ok (.iconst 0, 1) := by decide +kernel
theorem dL_scenes_317 : decode cL_scenes 317 = .ok (.iaload, 1) := by decide +kernel
theorem dL_scenes_318 : decode cL_scenes 318 = .ok (.iconst 0, 1) := by decide +kernel
theorem dL_scenes_319 : decode cL_scenes 319 = .ok (.bipush 99, 2) := by decide +kernel
theorem dL_scenes_321 : decode cL_scenes 321 = .ok (.invokestatic 123, 3) := by decide +kernel
theorem dL_scenes_324 : decode cL_scenes 324 = .ok (.ldc 28, 2) := by decide +kernel
theorem dL_scenes_326 : decode cL_scenes 326 = .ok (.if_icmp .ne 7, 3) := by decide +kernel
theorem dL_scenes_329 : decode cL_scenes 329 = .ok (.iconst 1, 1) := by decide +kernel
theorem dL_scenes_330 : decode cL_scenes 330 = .ok (.goto 4, 3) := by decide +kernel
theorem dL_scenes_333 : decode cL_scenes 333 = .ok (.iconst 0, 1) := by decide +kernel
theorem dL_scenes_334 : decode cL_scenes 334 = .ok (.ireturn, 1) := by decide +kernel
theorem dL_scenes_335 : decode cL_scenes 335 = .ok (.iload_n 3, 1) := by decide +kernel
theorem dL_scenes_336 : decode cL_scenes 336 = .ok (.bipush 7, 2) := by decide +kernel
theorem dL_scenes_338 : decode cL_scenes 338 = .ok (.ishr, 1) := by decide +kernel
theorem dL_scenes_339 : decode cL_scenes 339 = .ok (.iconst 3, 1) := by decide +kernel
theorem dL_scenes_340 : decode cL_scenes 340 = .ok (.invokestatic 118, 3) := by decide +kernel
theorem dL_scenes_343 : decode cL_scenes 343 = .ok (.iconst 1, 1) := by decide +kernel
theorem dL_scenes_344 : decode cL_scenes 344 = .ok (.if_icmp .ne 92, 3) := by decide +kernel
theorem dL_scenes_347 : decode cL_scenes 347 = .ok (.iload_n 3, 1) := by decide +kernel
theorem dL_scenes_348 : decode cL_scenes 348 = .ok (.bipush 9, 2) := by decide +kernel
theorem dL_scenes_350 : decode cL_scenes 350 = .ok (.ishr, 1) := by decide +kernel
theorem dL_scenes_351 : decode cL_scenes 351 = .ok (.iconst 5, 1) := by decide +kernel
theorem dL_scenes_352 : decode cL_scenes 352 = .ok (.invokestatic 118, 3) := by decide +kernel
theorem dL_scenes_355 : decode cL_scenes 355 = .ok (.ifCond .ne 81, 3) := by decide +kernel
theorem dL_scenes_358 : decode cL_scenes 358 = .ok (.aload_n 0, 1) := by decide +kernel
theorem dL_scenes_359 : decode cL_scenes 359 = .ok (.iload 5, 2) := by decide +kernel
theorem dL_scenes_361 : decode cL_scenes 361 = .ok (.invokestatic 92, 3) := by decide +kernel
theorem dL_scenes_364 : decode cL_scenes 364 = .ok (.istore 8, 2) := by decide +kernel
theorem dL_scenes_366 : decode cL_scenes 366 = .ok (.aload_n 0, 1) := by decide +kernel
theorem dL_scenes_367 : decode cL_scenes 367 = .ok (.iload 5, 2) := by decide +kernel
theorem dL_scenes_369 : decode cL_scenes 369 = .ok (.invokestatic 126, 3) := by decide +kernel
theorem dL_scenes_372 : decode cL_scenes 372 = .ok (.iload 6, 2) := by decide +kernel
theorem dL_scenes_374 : decode cL_scenes 374 = .ok (.ifCond .eq 8, 3) := by decide +kernel
theorem dL_scenes_377 : decode cL_scenes 377 = .ok (.iload 8, 2) := by decide +kernel
theorem dL_scenes_379 : decode cL_scenes 379 = .ok (.goto 5, 3) := by decide +kernel
theorem dL_scenes_382 : decode cL_scenes 382 = .ok (.ldc 21, 2) := by decide +kernel
theorem dL_scenes_384 : decode cL_scenes 384 = .ok (.if_icmp .ne 50, 3) := by decide +kernel
theorem dL_scenes_387 : decode cL_scenes 387 = .ok (.aload_n 0, 1) := by decide +kernel
theorem dL_scenes_388 : decode cL_scenes 388 = .ok (.iload 5, 2) := by decide +kernel
theorem dL_scenes_390 : decode cL_scenes 390 = .ok (.invokestatic 126, 3) := by decide +kernel
theorem dL_scenes_393 : decode cL_scenes 393 = .ok (.ldc 21, 2) := by decide +kernel
theorem dL_scenes_395 : decode cL_scenes 395 = .ok (.if_icmp .ne 39, 3) := by decide +kernel
theorem dL_scenes_398 : decode cL_scenes 398 = .ok (.aload_n 0, 1) := by decide +kernel
theorem dL_scenes_399 : decode cL_scenes 399 = .ok (.iload 5, 2) := by decide +kernel
theorem dL_scenes_401 : decode cL_scenes 401 = .ok (.invokestatic 92, 3) := by decide +kernel
theorem dL_scenes_404 : decode cL_scenes 404 = .ok (.iload 6, 2) := by decide +kernel
theorem dL_scenes_406 : decode cL_scenes 406 = .ok (.ifCond .eq 7, 3) := by decide +kernel
theorem dL_scenes_409 : decode cL_scenes 409 = .ok (.iconst (-1), 1) := by decide +kernel
theorem dL_scenes_410 : decode cL_scenes 410 = .ok (.goto 5, 3) := by decide +kernel
theorem dL_scenes_413 : decode cL_scenes 413 = .ok (.iload 8, 2) := by decide +kernel
theorem dL_scenes_415 : decode cL_scenes 415 = .ok (.if_icmp .ne 19, 3) := by decide +kernel
theorem dL_scenes_418 : decode cL_scenes 418 = .ok (.aload_n 0, 1) := by decide +kernel
theorem dL_scenes_419 : decode cL_scenes 419 = .ok (.aload_n 1, 1) := by decide +kernel
theorem dL_scenes_420 : decode cL_scenes 420 = .ok (.iconst 0, 1) := by decide +kernel
theorem dL_scenes_421 : decode cL_scenes 421 = .ok (.iaload, 1) := by decide +kernel
theorem dL_scenes_422 : decode cL_scenes 422 = .ok (.invokestatic 126, 3) := by decide +kernel
theorem dL_scenes_425 : decode cL_scenes 425 = .ok (.ldc 28, 2) := by decide +kernel
theorem dL_scenes_427 : decode cL_scenes 427 = .ok (.if_icmp .ne 7, 3) := by decide +kernel
theorem dL_scenes_430 : decode cL_scenes 430 = .ok (.iconst 1, 1) := by decide +kernel
theorem dL_scenes_431 : decode cL_scenes 431 = .ok (.goto 4, 3) := by decide +kernel
theorem dL_scenes_434 : decode cL_scenes 434 = .ok (.iconst 0, 1) := by decide +kernel
theorem dL_scenes_435 : decode cL_scenes 435 = .ok (.ireturn, 1) := by decide +kernel
theorem dL_scenes_436 : decode cL_scenes 436 = .ok (.iload 4, 2) := by decide +kernel
theorem dL_scenes_438 : decode cL_scenes 438 = .ok (.iconst 3, 1) := by decide +kernel
theorem dL_scenes_439 : decode cL_scenes 439 = .ok (.ishr, 1) := by decide +kernel
theorem dL_scenes_440 : decode cL_scenes 440 = .ok (.iconst 4, 1) := by decide +kernel
theorem dL_scenes_441 : decode cL_scenes 441 = .ok (.invokestatic 118, 3) := by decide +kernel
theorem dL_scenes_444 : decode cL_scenes 444 = .ok (.istore 8, 2) := by decide +kernel
theorem dL_scenes_446 : decode cL_scenes 446 = .ok (.iload 8, 2) := by decide +kernel
theorem dL_scenes_448 : decode cL_scenes 448 = .ok (.iload 4, 2) := by decide +kernel
theorem dL_scenes_450 : decode cL_scenes 450 = .ok (.iconst 5, 1) := by decide +kernel
theorem dL_scenes_451 : decode cL_scenes 451 = .ok (.ishr, 1) := by decide +kernel
theorem dL_scenes_452 : decode cL_scenes 452 = .ok (.iconst 4, 1) := by decide +kernel
theorem dL_scenes_453 : decode cL_scenes 453 = .ok (.iload 8, 2) := by decide +kernel
theorem dL_scenes_455 : decode cL_scenes 455 = .ok (.isub, 1) := by decide +kernel
theorem dL_scenes_456 : decode cL_scenes 456 = .ok (.invokestatic 118, 3) := by decide +kernel
theorem dL_scenes_459 : decode cL_scenes 459 = .ok (.iadd, 1) := by decide +kernel
theorem dL_scenes_460 : decode cL_scenes 460 = .ok (.istore 9, 2) := by decide +kernel
theorem dL_scenes_462 : decode cL_scenes 462 = .ok (.iload 6, 2) := by decide +kernel
theorem dL_scenes_464 : decode cL_scenes 464 = .ok (.istore 10, 2) := by decide +kernel
theorem dL_scenes_466 : decode cL_scenes 466 = .ok (.iconst 0, 1) := by decide +kernel
theorem dL_scenes_467 : decode cL_scenes 467 = .ok (.istore 11, 2) := by decide +kernel
theorem dL_scenes_469 : decode cL_scenes 469 = .ok (.iload 11, 2) := by decide +kernel
theorem dL_scenes_471 : decode cL_scenes 471 = .ok (.aload_n 1, 1) := by decide +kernel
theorem dL_scenes_472 : decode cL_scenes 472 = .ok (.iconst 0, 1) := by decide +kernel
theorem dL_scenes_473 : decode cL_scenes 473 = .ok (.iaload, 1) := by decide +kernel
theorem dL_scenes_474 : decode cL_scenes 474 = .ok (.if_icmp .ge 80, 3) := by decide +kernel
theorem dL_scenes_477 : decode cL_scenes 477 = .ok (.iload 11, 2) := by decide +kernel
theorem dL_scenes_479 : decode cL_scenes 479 = .ok (.iload 5, 2) := by decide +kernel
theorem dL_scenes_481 : decode cL_scenes 481 = .ok (.if_icmp .ne 7, 3) := by decide +kernel
theorem dL_scenes_484 : decode cL_scenes 484 = .ok (.iconst 0, 1) := by decide +kernel
theorem dL_scenes_485 : decode cL_scenes 485 = .ok (.goto 12, 3) := by decide +kernel
theorem dL_scenes_488 : decode cL_scenes 488 = .ok (.aload_n 2, 1) := by decide +kernel
theorem dL_scenes_489 : decode cL_scenes 489 = .ok (.aload_n 0, 1) := by decide +kernel
theorem dL_scenes_490 : decode cL_scenes 490 = .ok (.iload 11, 2) := by decide +kernel
theorem dL_scenes_492 : decode cL_scenes 492 = .ok (.iload 7, 2) := by decide +kernel
theorem dL_scenes_494 : decode cL_scenes 494 = .ok (.invokestatic 128, 3) := by decide +kernel
theorem dL_scenes_497 : decode cL_scenes 497 = .ok (.istore 12, 2) := by decide +kernel
theorem dL_scenes_499 : decode cL_scenes 499 = .ok (.iload 10, 2) := by decide +kernel
theorem dL_scenes_501 : decode cL_scenes 501 = .ok (.ifCond .eq 44, 3) := by decide +kernel
theorem dL_scenes_504 : decode cL_scenes 504 = .ok (.iload 12, 2) := by decide +kernel
theorem dL_scenes_506 : decode cL_scenes 506 = .ok (.ifCond .eq 35, 3) := by decide +kernel
theorem dL_scenes_509 : decode cL_scenes 509 = .ok (.iload 11, 2) := by decide +kernel
theorem dL_scenes_511 : decode cL_scenes 511 = .ok (.iload 5, 2) := by decide +kernel
theorem dL_scenes_513 : decode cL_scenes 513 = .ok (.if_icmp .ge 16, 3) := by decide +kernel
theorem dL_scenes_516 : decode cL_scenes 516 = .ok (.iload 12, 2) := by decide +kernel
theorem dL_scenes_518 : decode cL_scenes 518 = .ok (.bipush 8, 2) := by decide +kernel
theorem dL_scenes_520 : decode cL_scenes 520 = .ok (.idiv, 1) := by decide +kernel
theorem dL_scenes_521 : decode cL_scenes 521 = .ok (.iload 8, 2) := by decide +kernel
theorem dL_scenes_523 : decode cL_scenes 523 = .ok (.if_icmp .gt 22, 3) := by decide +kernel
theorem dL_scenes_526 : decode cL_scenes 526 = .ok (.goto 15, 3) := by decide +kernel
theorem dL_scenes_529 : decode cL_scenes 529 = .ok (.iload 9, 2) := by decide +kernel
theorem dL_scenes_531 : decode cL_scenes 531 = .ok (.iload 12, 2) := by decide +kernel
theorem dL_scenes_533 : decode cL_scenes 533 = .ok (.bipush 8, 2) := by decide +kernel
theorem dL_scenes_535 : decode cL_scenes 535 = .ok (.irem, 1) := by decide +kernel
theorem dL_scenes_536 : decode cL_scenes 536 = .ok (.iconst 1, 1) := by decide +kernel
theorem dL_scenes_537 : decode cL_scenes 537 = .ok (.isub, 1) := by decide +kernel
theorem dL_scenes_538 : decode cL_scenes 538 = .ok (.if_icmp .gt 7, 3) := by decide +kernel
theorem dL_scenes_541 : decode cL_scenes 541 = .ok (.iconst 1, 1) := by decide +kernel
theorem dL_scenes_542 : decode cL_scenes 542 = .ok (.goto 4, 3) := by decide +kernel
theorem dL_scenes_545 : decode cL_scenes 545 = .ok (.iconst 0, 1) := by decide +kernel
theorem dL_scenes_546 : decode cL_scenes 546 = .ok (.istore 10, 2) := by decide +kernel
theorem dL_scenes_548 : decode cL_scenes 548 = .ok (.iinc 11 1, 3) := by decide +kernel
theorem dL_scenes_551 : decode cL_scenes 551 = .ok (.goto (-82), 3) := by decide +kernel
theorem dL_scenes_554 : decode cL_scenes 554 = .ok (.aload_n 0, 1) := by decide +kernel
theorem dL_scenes_555 : decode cL_scenes 555 = .ok (.iload 5, 2) := by decide +kernel
theorem dL_scenes_557 : decode cL_scenes 557 = .ok (.iload 7, 2) := by decide +kernel
theorem dL_scenes_559 : decode cL_scenes 559 = .ok (.iload 8, 2) := by decide +kernel
theorem dL_scenes_561 : decode cL_scenes 561 = .ok (.iload 9, 2) := by decide +kernel
theorem dL_scenes_563 : decode cL_scenes 563 = .ok (.invokestatic 132, 3) := by decide +kernel
theorem dL_scenes_566 : decode cL_scenes 566 = .ok (.istore 11, 2) := by decide +kernel
theorem dL_scenes_568 : decode cL_scenes 568 = .ok (.aload_n 2, 1) := by decide +kernel
theorem dL_scenes_569 : decode cL_scenes 569 = .ok (.iconst 5, 1) := by decide +kernel
theorem dL_scenes_570 : decode cL_scenes 570 = .ok (.iload 5, 2) := by decide +kernel
theorem dL_scenes_572 : decode cL_scenes 572 = .ok (.imul, 1) := by decide +kernel
theorem dL_scenes_573 : decode cL_scenes 573 = .ok (.iload 7, 2) := by decide +kernel
theorem dL_scenes_575 : decode cL_scenes 575 = .ok (.iadd, 1) := by decide +kernel
theorem dL_scenes_576 : decode cL_scenes 576 = .ok (.iload 10, 2) := by decide +kernel
theorem dL_scenes_578 : decode cL_scenes 578 = .ok (.ifCond .eq 16, 3) := by decide +kernel
theorem dL_scenes_581 : decode cL_scenes 581 = .ok (.iconst 1, 1) := by decide +kernel
theorem dL_scenes_582 : decode cL_scenes 582 = .ok (.iload 8, 2) := by decide +kernel
theorem dL_scenes_584 : decode cL_scenes 584 = .ok (.iadd, 1) := by decide +kernel
theorem dL_scenes_585 : decode cL_scenes 585 = .ok (.bipush 8, 2) := by decide +kernel
theorem dL_scenes_587 : decode cL_scenes 587 = .ok (.iload 9, 2) := by decide +kernel
theorem dL_scenes_589 : decode cL_scenes 589 = .ok (.imul, 1) := by decide +kernel
theorem dL_scenes_590 : decode cL_scenes 590 = .ok (.iadd, 1) := by decide +kernel
theorem dL_scenes_591 : decode cL_scenes 591 = .ok (.goto 12, 3) := by decide +kernel
theorem dL_scenes_594 : decode cL_scenes 594 = .ok (.aload_n 2, 1) := by decide +kernel
theorem dL_scenes_595 : decode cL_scenes 595 = .ok (.iconst 5, 1) := by decide +kernel
theorem dL_scenes_596 : decode cL_scenes 596 = .ok (.iload 5, 2) := by decide +kernel
theorem dL_scenes_598 : decode cL_scenes 598 = .ok (.imul, 1) := by decide +kernel
theorem dL_scenes_599 : decode cL_scenes 599 = .ok (.iload 7, 2) := by decide +kernel
theorem dL_scenes_601 : decode cL_scenes 601 = .ok (.iadd, 1) := by decide +kernel
theorem dL_scenes_602 : decode cL_scenes 602 = .ok (.iaload, 1) := by decide +kernel
theorem dL_scenes_603 : decode cL_scenes 603 = .ok (.iastore, 1) := by decide +kernel
theorem dL_scenes_604 : decode cL_scenes 604 = .ok (.iload 10, 2) := by decide +kernel
theorem dL_scenes_606 : decode cL_scenes 606 = .ok (.ifCond .eq 18, 3) := by decide +kernel
theorem dL_scenes_609 : decode cL_scenes 609 = .ok (.iload 11, 2) := by decide +kernel
theorem dL_scenes_611 : decode cL_scenes 611 = .ok (.iconst 1, 1) := by decide +kernel
theorem dL_scenes_612 : decode cL_scenes 612 = .ok (.if_icmp .lt 67, 3) := by decide +kernel
theorem dL_scenes_615 : decode cL_scenes 615 = .ok (.iload 11, 2) := by decide +kernel
theorem dL_scenes_617 : decode cL_scenes 617 = .ok (.iconst 5, 1) := by decide +kernel
theorem dL_scenes_618 : decode cL_scenes 618 = .ok (.if_icmp .gt 61, 3) := by decide +kernel
theorem dL_scenes_621 : decode cL_scenes 621 = .ok (.goto 10, 3) := by decide +kernel
theorem dL_scenes_624 : decode cL_scenes 624 = .ok (.iload 11, 2) := by decide +kernel
theorem dL_scenes_626 : decode cL_scenes 626 = .ok (.ldc 21, 2) := by decide +kernel
theorem dL_scenes_628 : decode cL_scenes 628 = .ok (.if_icmp .ne 51, 3) := by decide +kernel
theorem dL_scenes_631 : decode cL_scenes 631 = .ok (.aload_n 0, 1) := by decide +kernel
theorem dL_scenes_632 : decode cL_scenes 632 = .ok (.iload 5, 2) := by decide +kernel
theorem dL_scenes_634 : decode cL_scenes 634 = .ok (.iload 7, 2) := by decide +kernel
theorem dL_scenes_636 : decode cL_scenes 636 = .ok (.iconst 4, 1) := by decide +kernel
theorem dL_scenes_637 : decode cL_scenes 637 = .ok (.iconst 4, 1) := by decide +kernel
theorem dL_scenes_638 : decode cL_scenes 638 = .ok (.invokestatic 132, 3) := by decide +kernel
theorem dL_scenes_641 : decode cL_scenes 641 = .ok (.ldc 18, 2) := by decide +kernel
theorem dL_scenes_643 : decode cL_scenes 643 = .ok (.if_icmp .ne 36, 3) := by decide +kernel
theorem dL_scenes_646 : decode cL_scenes 646 = .ok (.aload_n 0, 1) := by decide +kernel
theorem dL_scenes_647 : decode cL_scenes 647 = .ok (.iload 5, 2) := by decide +kernel
theorem dL_scenes_649 : decode cL_scenes 649 = .ok (.iload 7, 2) := by decide +kernel
theorem dL_scenes_651 : decode cL_scenes 651 = .ok (.iconst 2, 1) := by decide +kernel
theorem dL_scenes_652 : decode cL_scenes 652 = .ok (.iconst 1, 1) := by decide +kernel
theorem dL_scenes_653 : decode cL_scenes 653 = .ok (.invokestatic 132, 3) := by decide +kernel
theorem dL_scenes_656 : decode cL_scenes 656 = .ok (.ldc 18, 2) := by decide +kernel
theorem dL_scenes_658 : decode cL_scenes 658 = .ok (.if_icmp .ne 21, 3) := by decide +kernel
theorem dL_scenes_661 : decode cL_scenes 661 = .ok (.aload_n 0, 1) := by decide +kernel
theorem dL_scenes_662 : decode cL_scenes 662 = .ok (.iload 5, 2) := by decide +kernel
theorem dL_scenes_664 : decode cL_scenes 664 = .ok (.iconst (-1), 1) := by decide +kernel
theorem dL_scenes_665 : decode cL_scenes 665 = .ok (.iconst 0, 1) := by decide +kernel
theorem dL_scenes_666 : decode cL_scenes 666 = .ok (.iconst 0, 1) := by decide +kernel
theorem dL_scenes_667 : decode cL_scenes 667 = .ok (.invokestatic 132, 3) := by decide +kernel
theorem dL_scenes_670 : decode cL_scenes 670 = .ok (.ldc 28, 2) := by decide +kernel
theorem dL_scenes_672 : decode cL_scenes 672 = .ok (.if_icmp .ne 7, 3) := by decide +kernel
theorem dL_scenes_675 : decode cL_scenes 675 = .ok (.iconst 1, 1) := by decide +kernel
theorem dL_scenes_676 : decode cL_scenes 676 = .ok (.goto 4, 3) := by decide +kernel
theorem dL_scenes_679 : decode cL_scenes 679 = .ok (.iconst 0, 1) := by decide +kernel
theorem dL_scenes_680 : decode cL_scenes 680 = .ok (.ireturn, 1) := by decide +kernel
theorem dL_swaps_0 : decode cL_swaps 0 = .ok (.aload_n 1, 1) := by decide +kernel
theorem dL_swaps_1 : decode cL_swaps 1 = .ok (.iconst 2, 1) := by decide +kernel
theorem dL_swaps_2 : decode cL_swaps 2 = .ok (.iaload, 1) := by decide +kernel
theorem dL_swaps_3 : decode cL_swaps 3 = .ok (.bipush 30, 2) := by decide +kernel
theorem dL_swaps_5 : decode cL_swaps 5 = .ok (.if_icmp .ne 31, 3) := by decide +kernel
theorem dL_swaps_8 : decode cL_swaps 8 = .ok (.aload_n 0, 1) := by decide +kernel
theorem dL_swaps_9 : decode cL_swaps 9 = .ok (.bipush 29, 2) := by decide +kernel
theorem dL_swaps_11 : decode cL_swaps 11 = .ok (.bipush 29, 2) := by decide +kernel
theorem dL_swaps_13 : decode cL_swaps 13 = .ok (.invokestatic 135, 3) := by decide +kernel
theorem dL_swaps_16 : decode cL_swaps 16 = .ok (.ldc 18, 2) := by decide +kernel
theorem dL_swaps_18 : decode cL_swaps 18 = .ok (.if_icmp .ne 16, 3) := by decide +kernel
theorem dL_swaps_21 : decode cL_swaps 21 = .ok (.aload_n 0, 1) := by decide +kernel
theorem dL_swaps_22 : decode cL_swaps 22 = .ok (.invokestatic 137, 3) := by decide +kernel
theorem dL_swaps_25 : decode cL_swaps 25 = .ok (.ldc 21, 2) := by decide +kernel
theorem dL_swaps_27 : decode cL_swaps 27 = .ok (.if_icmp .ne 7, 3) := by decide +kernel
theorem dL_swaps_30 : decode cL_swaps 30 = .ok (.iconst 1, 1) := by decide +kernel
theorem dL_swaps_31 : decode cL_swaps 31 = .ok (.goto 4, 3) := by decide +kernel
theorem dL_swaps_34 : decode cL_swaps 34 = .ok (.iconst 0, 1) := by decide +kernel
theorem dL_swaps_35 : decode cL_swaps 35 = .ok (.ireturn, 1) := by decide +kernel
theorem dL_swaps_36 : decode cL_swaps 36 = .ok (.aload_n 1, 1) := by decide +kernel
theorem dL_swaps_37 : decode cL_swaps 37 = .ok (.iconst 2, 1) := by decide +kernel
theorem dL_swaps_38 : decode cL_swaps 38 = .ok (.iaload, 1) := by decide +kernel
theorem dL_swaps_39 : decode cL_swaps 39 = .ok (.iload_n 2, 1) := by decide +kernel
theorem dL_swaps_40 : decode cL_swaps 40 = .ok (.bipush 30, 2) := by decide +kernel
theorem dL_swaps_42 : decode cL_swaps 42 = .ok (.aload_n 1, 1) := by decide +kernel
theorem dL_swaps_43 : decode cL_swaps 43 = .ok (.iconst 2, 1) := by decide +kernel
theorem dL_swaps_44 : decode cL_swaps 44 = .ok (.iaload, 1) := by decide +kernel
theorem dL_swaps_45 : decode cL_swaps 45 = .ok (.isub, 1) := by decide +kernel
theorem dL_swaps_46 : decode cL_swaps 46 = .ok (.invokestatic 118, 3) := by decide +kernel
theorem dL_swaps_49 : decode cL_swaps 49 = .ok (.iadd, 1) := by decide +kernel
theorem dL_swaps_50 : decode cL_swaps 50 = .ok (.istore 4, 2) := by decide +kernel
theorem dL_swaps_52 : decode cL_swaps 52 = .ok (.iload_n 3, 1) := by decide +kernel
theorem dL_swaps_53 : decode cL_swaps 53 = .ok (.iconst 3, 1) := by decide +kernel
theorem dL_swaps_54 : decode cL_swaps 54 = .ok (.invokestatic 118, 3) := by decide +kernel
theorem dL_swaps_57 : decode cL_swaps 57 = .ok (.ifCond .ne 22, 3) := by decide +kernel
theorem dL_swaps_60 : decode cL_swaps 60 = .ok (.aload_n 1, 1) := by decide +kernel
theorem dL_swaps_61 : decode cL_swaps 61 = .ok (.iconst 2, 1) := by decide +kernel
theorem dL_swaps_62 : decode cL_swaps 62 = .ok (.iaload, 1) := by decide +kernel
theorem dL_swaps_63 : decode cL_swaps 63 = .ok (.iload_n 2, 1) := by decide +kernel
theorem dL_swaps_64 : decode cL_swaps 64 = .ok (.iconst 5, 1) := by decide +kernel
theorem dL_swaps_65 : decode cL_swaps 65 = .ok (.ishr, 1) := by decide +kernel
theorem dL_swaps_66 : decode cL_swaps 66 = .ok (.bipush 30, 2) := by decide +kernel
theorem dL_swaps_68 : decode cL_swaps 68 = .ok (.aload_n 1, 1) := by decide +kernel
theorem dL_swaps_69 : decode cL_swaps 69 = .ok (.iconst 2, 1) := by decide +kernel
theorem dL_swaps_70 : decode cL_swaps 70 = .ok (.iaload, 1) := by decide +kernel
theorem dL_swaps_71 : decode cL_swaps 71 = .ok (.isub, 1) := by decide +kernel
theorem dL_swaps_72 : decode cL_swaps 72 = .ok (.invokestatic 118, 3) := by decide +kernel
theorem dL_swaps_75 : decode cL_swaps 75 = .ok (.iadd, 1) := by decide +kernel
theorem dL_swaps_76 : decode cL_swaps 76 = .ok (.goto 35, 3) := by decide +kernel
theorem dL_swaps_79 : decode cL_swaps 79 = .ok (.aload_n 1, 1) := by decide +kernel
theorem dL_swaps_80 : decode cL_swaps 80 = .ok (.iconst 2, 1) := by decide +kernel
theorem dL_swaps_81 : decode cL_swaps 81 = .ok (.iaload, 1) := by decide +kernel
theorem dL_swaps_82 : decode cL_swaps 82 = .ok (.iload_n 2, 1) := by decide +kernel
theorem dL_swaps_83 : decode cL_swaps 83 = .ok (.iconst 5, 1) := by decide +kernel
theorem dL_swaps_84 : decode cL_swaps 84 = .ok (.ishr, 1) := by decide +kernel
theorem dL_swaps_85 : decode cL_swaps 85 = .ok (.bipush 30, 2) := by decide +kernel
theorem dL_swaps_87 : decode cL_swaps 87 = .ok (.aload_n 1, 1) := by decide +kernel
theorem dL_swaps_88 : decode cL_swaps 88 = .ok (.iconst 2, 1) := by decide +kernel
theorem dL_swaps_89 : decode cL_swaps 89 = .ok (.iaload, 1) := by decide +kernel
theorem dL_swaps_90 : decode cL_swaps 90 = .ok (.isub, 1) := by decide +kernel
theorem dL_swaps_91 : decode cL_swaps 91 = .ok (.bipush 8, 2) := by decide +kernel
theorem dL_swaps_93 : decode cL_swaps 93 = .ok (.if_icmp .ge 12, 3) := by decide +kernel
theorem dL_swaps_96 : decode cL_swaps 96 = .ok (.bipush 30, 2) := by decide +kernel
theorem dL_swaps_98 : decode cL_swaps 98 = .ok (.aload_n 1, 1) := by decide +kernel
theorem dL_swaps_99 : decode cL_swaps 99 = .ok (.iconst 2, 1) := by decide +kernel
theorem dL_swaps_100 : decode cL_swaps 100 = .ok (.iaload, 1) := by decide +kernel
theorem dL_swaps_101 : decode cL_swaps 101 = .ok (.isub, 1) := by decide +kernel
theorem dL_swaps_102 : decode cL_swaps 102 = .ok (.goto 5, 3) := by decide +kernel
theorem dL_swaps_105 : decode cL_swaps 105 = .ok (.bipush 8, 2) := by decide +kernel
theorem dL_swaps_107 : decode cL_swaps 107 = .ok (.invokestatic 118, 3) := by decide +kernel
theorem dL_swaps_110 : decode cL_swaps 110 = .ok (.iadd, 1) := by decide +kernel
theorem dL_swaps_111 : decode cL_swaps 111 = .ok (.istore 5, 2) := by decide +kernel
theorem dL_swaps_113 : decode cL_swaps 113 = .ok (.aload_n 0, 1) := by decide +kernel
theorem dL_swaps_114 : decode cL_swaps 114 = .ok (.invokevirtual 111, 3) := by decide +kernel
theorem dL_swaps_117 : decode cL_swaps 117 = .ok (.istore 6, 2) := by decide +kernel
theorem dL_swaps_119 : decode cL_swaps 119 = .ok (.aload_n 0, 1) := by decide +kernel
theorem dL_swaps_120 : decode cL_swaps 120 = .ok (.iload 4, 2) := by decide +kernel
theorem dL_swaps_122 : decode cL_swaps 122 = .ok (.invokestatic 85, 3) := by decide +kernel
theorem dL_swaps_125 : decode cL_swaps 125 = .ok (.istore 7, 2) := by decide +kernel
theorem dL_swaps_127 : decode cL_swaps 127 = .ok (.aload_n 0, 1) := by decide +kernel
theorem dL_swaps_128 : decode cL_swaps 128 = .ok (.iload 5, 2) := by decide +kernel
theorem dL_swaps_130 : decode cL_swaps 130 = .ok (.invokestatic 85, 3) := by decide +kernel
theorem dL_swaps_133 : decode cL_swaps 133 = .ok (.istore 8, 2) := by decide +kernel
theorem dL_swaps_135 : decode cL_swaps 135 = .ok (.aload_n 0, 1) := by decide +kernel
theorem dL_swaps_136 : decode cL_swaps 136 = .ok (.iload 4, 2) := by decide +kernel
theorem dL_swaps_138 : decode cL_swaps 138 = .ok (.iload 5, 2) := by decide +kernel
theorem dL_swaps_140 : decode cL_swaps 140 = .ok (.invokestatic 135, 3) := by decide +kernel
theorem dL_swaps_143 : decode cL_swaps 143 = .ok (.istore 9, 2) := by decide +kernel
theorem dL_swaps_145 : decode cL_swaps 145 = .ok (.iload 9, 2) := by decide +kernel
theorem dL_swaps_147 : decode cL_swaps 147 = .ok (.aload_n 0, 1) := by decide +kernel
theorem dL_swaps_148 : decode cL_swaps 148 = .ok (.invokevirtual 111, 3) := by decide +kernel
theorem dL_swaps_151 : decode cL_swaps 151 = .ok (.if_icmp .ne 43, 3) := by decide +kernel
theorem dL_swaps_154 : decode cL_swaps 154 = .ok (.aload_n 0, 1) := by decide +kernel
theorem dL_swaps_155 : decode cL_swaps 155 = .ok (.iload 4, 2) := by decide +kernel
theorem dL_swaps_157 : decode cL_swaps 157 = .ok (.invokestatic 85, 3) := by decide +kernel
theorem dL_swaps_160 : decode cL_swaps 160 = .ok (.iload 8, 2) := by decide +kernel
theorem dL_swaps_162 : decode cL_swaps 162 = .ok (.if_icmp .ne 32, 3) := by decide +kernel
theorem dL_swaps_165 : decode cL_swaps 165 = .ok (.aload_n 0, 1) := by decide +kernel
theorem dL_swaps_166 : decode cL_swaps 166 = .ok (.iload 5, 2) := by decide +kernel
theorem dL_swaps_168 : decode cL_swaps 168 = .ok (.invokestatic 85, 3) := by decide +kernel
theorem dL_swaps_171 : decode cL_swaps 171 = .ok (.iload 7, 2) := by decide +kernel
theorem dL_swaps_173 : decode cL_swaps 173 = .ok (.if_icmp .ne 21, 3) := by decide +kernel
theorem dL_swaps_176 : decode cL_swaps 176 = .ok (.iload 4, 2) := by decide +kernel
theorem dL_swaps_178 : decode cL_swaps 178 = .ok (.iload 5, 2) := by decide +kernel
theorem dL_swaps_180 : decode cL_swaps 180 = .ok (.if_icmp .ne 10, 3) := by decide +kernel
theorem dL_swaps_183 : decode cL_swaps 183 = .ok (.iload 9, 2) := by decide +kernel
theorem dL_swaps_185 : decode cL_swaps 185 = .ok (.iload 6, 2) := by decide +kernel
theorem dL_swaps_187 : decode cL_swaps 187 = .ok (.if_icmp .ne 7, 3) := by decide +kernel
theorem dL_swaps_190 : decode cL_swaps 190 = .ok (.iconst 1, 1) := by decide +kernel
theorem dL_swaps_191 : decode cL_swaps 191 = .ok (.goto 4, 3) := by decide +kernel
theorem dL_swaps_194 : decode cL_swaps 194 = .ok (.iconst 0, 1) := by decide +kernel
theorem dL_swaps_195 : decode cL_swaps 195 = .ok (.istore 10, 2) := by decide +kernel
theorem dL_swaps_197 : decode cL_swaps 197 = .ok (.iload 10, 2) := by decide +kernel
theorem dL_swaps_199 : decode cL_swaps 199 = .ok (.ifCond .eq 61, 3) := by decide +kernel
theorem dL_swaps_202 : decode cL_swaps 202 = .ok (.iload_n 3, 1) := by decide +kernel
theorem dL_swaps_203 : decode cL_swaps 203 = .ok (.iconst 2, 1) := by decide +kernel
theorem dL_swaps_204 : decode cL_swaps 204 = .ok (.ishr, 1) := by decide +kernel
