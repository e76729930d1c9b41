theorem dX4_mishap_33 : decode cX4_mishap 33 = .ok (.aload_n 3, 1) := by decide +kernel
theorem dX4_mishap_34 : decode cX4_mishap 34 = .ok (.iload_n 2, 1) := by decide +kernel
theorem dX4_mishap_35 : decode cX4_mishap 35 = .ok (.iaload, 1) := by decide +kernel
theorem dX4_mishap_36 : decode cX4_mishap 36 = .ok (.ifCond .gt 13, 3) := by decide +kernel
theorem dX4_mishap_39 : decode cX4_mishap 39 = .ok (.new 69, 3) := by decide +kernel
theorem dX4_mishap_42 : decode cX4_mishap 42 = .ok (.dup, 1) := by decide +kernel
theorem dX4_mishap_43 : decode cX4_mishap 43 = .ok (.ldc 179, 2) := by decide +kernel
theorem dX4_mishap_45 : decode cX4_mishap 45 = .ok (.invokespecial 73, 3) := by decide +kernel
theorem dX4_mishap_48 : decode cX4_mishap 48 = .ok (.athrow, 1) := by decide +kernel
theorem dX4_mishap_49 : decode cX4_mishap 49 = .ok (.aload_n 3, 1) := by decide +kernel
theorem dX4_mishap_50 : decode cX4_mishap 50 = .ok (.iload_n 2, 1) := by decide +kernel
theorem dX4_mishap_51 : decode cX4_mishap 51 = .ok (.dup2, 1) := by decide +kernel
theorem dX4_mishap_52 : decode cX4_mishap 52 = .ok (.iaload, 1) := by decide +kernel
theorem dX4_mishap_53 : decode cX4_mishap 53 = .ok (.iconst 1, 1) := by decide +kernel
theorem dX4_mishap_54 : decode cX4_mishap 54 = .ok (.isub, 1) := by decide +kernel
theorem dX4_mishap_55 : decode cX4_mishap 55 = .ok (.iastore, 1) := by decide +kernel
theorem dX4_mishap_56 : decode cX4_mishap 56 = .ok (.aload_n 3, 1) := by decide +kernel
theorem dX4_mishap_57 : decode cX4_mishap 57 = .ok (.iconst 3, 1) := by decide +kernel
theorem dX4_mishap_58 : decode cX4_mishap 58 = .ok (.dup2, 1) := by decide +kernel
theorem dX4_mishap_59 : decode cX4_mishap 59 = .ok (.iaload, 1) := by decide +kernel
theorem dX4_mishap_60 : decode cX4_mishap 60 = .ok (.iconst 1, 1) := by decide +kernel
theorem dX4_mishap_61 : decode cX4_mishap 61 = .ok (.iadd, 1) := by decide +kernel
theorem dX4_mishap_62 : decode cX4_mishap 62 = .ok (.iastore, 1) := by decide +kernel
theorem dX4_mishap_63 : decode cX4_mishap 63 = .ok (.aload_n 3, 1) := by decide +kernel
theorem dX4_mishap_64 : decode cX4_mishap 64 = .ok (.iconst 3, 1) := by decide +kernel
theorem dX4_mishap_65 : decode cX4_mishap 65 = .ok (.iaload, 1) := by decide +kernel
theorem dX4_mishap_66 : decode cX4_mishap 66 = .ok (.ireturn, 1) := by decide +kernel
theorem dX4_shoot_0 : decode cX4_shoot 0 = .ok (.aload_n 0, 1) := by decide +kernel
theorem dX4_shoot_1 : decode cX4_shoot 1 = .ok (.getfield 52, 3) := by decide +kernel
theorem dX4_shoot_4 : decode cX4_shoot 4 = .ok (.bipush 30, 2) := by decide +kernel
theorem dX4_shoot_6 : decode cX4_shoot 6 = .ok (.if_icmp .lt 13, 3) := by decide +kernel
theorem dX4_shoot_9 : decode cX4_shoot 9 = .ok (.new 69, 3) := by decide +kernel
theorem dX4_shoot_12 : decode cX4_shoot 12 = .ok (.dup, 1) := by decide +kernel
theorem dX4_shoot_13 : decode cX4_shoot 13 = .ok (.ldc 181, 2) := by decide +kernel
theorem dX4_shoot_15 : decode cX4_shoot 15 = .ok (.invokespecial 73, 3) := by decide +kernel
theorem dX4_shoot_18 : decode cX4_shoot 18 = .ok (.athrow, 1) := by decide +kernel
theorem dX4_shoot_19 : decode cX4_shoot 19 = .ok (.aload_n 0, 1) := by decide +kernel
theorem dX4_shoot_20 : decode cX4_shoot 20 = .ok (.getfield 15, 3) := by decide +kernel
theorem dX4_shoot_23 : decode cX4_shoot 23 = .ok (.aload_n 0, 1) := by decide +kernel
theorem dX4_shoot_24 : decode cX4_shoot 24 = .ok (.getfield 52, 3) := by decide +kernel
theorem dX4_shoot_27 : decode cX4_shoot 27 = .ok (.aaload, 1) := by decide +kernel
theorem dX4_shoot_28 : decode cX4_shoot 28 = .ok (.astore_n 1, 1) := by decide +kernel
theorem dX4_shoot_29 : decode cX4_shoot 29 = .ok (.aload_n 0, 1) := by decide +kernel
theorem dX4_shoot_30 : decode cX4_shoot 30 = .ok (.getfield 15, 3) := by decide +kernel
theorem dX4_shoot_33 : decode cX4_shoot 33 = .ok (.aload_n 0, 1) := by decide +kernel
theorem dX4_shoot_34 : decode cX4_shoot 34 = .ok (.getfield 52, 3) := by decide +kernel
theorem dX4_shoot_37 : decode cX4_shoot 37 = .ok (.aconst_null, 1) := by decide +kernel
theorem dX4_shoot_38 : decode cX4_shoot 38 = .ok (.aastore, 1) := by decide +kernel
theorem dX4_shoot_39 : decode cX4_shoot 39 = .ok (.iconst (-1), 1) := by decide +kernel
theorem dX4_shoot_40 : decode cX4_shoot 40 = .ok (.istore_n 2, 1) := by decide +kernel
theorem dX4_shoot_41 : decode cX4_shoot 41 = .ok (.aload_n 1, 1) := by decide +kernel
theorem dX4_shoot_42 : decode cX4_shoot 42 = .ok (.ifnull 53, 3) := by decide +kernel
theorem dX4_shoot_45 : decode cX4_shoot 45 = .ok (.aload_n 0, 1) := by decide +kernel
theorem dX4_shoot_46 : decode cX4_shoot 46 = .ok (.aload_n 1, 1) := by decide +kernel
theorem dX4_shoot_47 : decode cX4_shoot 47 = .ok (.aload_n 0, 1) := by decide +kernel
theorem dX4_shoot_48 : decode cX4_shoot 48 = .ok (.getfield 52, 3) := by decide +kernel
theorem dX4_shoot_51 : decode cX4_shoot 51 = .ok (.invokevirtual 183, 3) := by decide +kernel
theorem dX4_shoot_54 : decode cX4_shoot 54 = .ok (.ifCond .eq 41, 3) := by decide +kernel
theorem dX4_shoot_57 : decode cX4_shoot 57 = .ok (.aload_n 0, 1) := by decide +kernel
theorem dX4_shoot_58 : decode cX4_shoot 58 = .ok (.dup, 1) := by decide +kernel
theorem dX4_shoot_59 : decode cX4_shoot 59 = .ok (.getfield 55, 3) := by decide +kernel
theorem dX4_shoot_62 : decode cX4_shoot 62 = .ok (.aload_n 0, 1) := by decide +kernel
theorem dX4_shoot_63 : decode cX4_shoot 63 = .ok (.getfield 31, 3) := by decide +kernel
theorem dX4_shoot_66 : decode cX4_shoot 66 = .ok (.aload_n 1, 1) := by decide +kernel
theorem dX4_shoot_67 : decode cX4_shoot 67 = .ok (.invokevirtual 187, 3) := by decide +kernel
theorem dX4_shoot_70 : decode cX4_shoot 70 = .ok (.iadd, 1) := by decide +kernel
theorem dX4_shoot_71 : decode cX4_shoot 71 = .ok (.putfield 55, 3) := by decide +kernel
theorem dX4_shoot_74 : decode cX4_shoot 74 = .ok (.aload_n 1, 1) := by decide +kernel
theorem dX4_shoot_75 : decode cX4_shoot 75 = .ok (.iconst 1, 1) := by decide +kernel
theorem dX4_shoot_76 : decode cX4_shoot 76 = .ok (.putfield 128, 3) := by decide +kernel
theorem dX4_shoot_79 : decode cX4_shoot 79 = .ok (.aload_n 1, 1) := by decide +kernel
theorem dX4_shoot_80 : decode cX4_shoot 80 = .ok (.aload_n 0, 1) := by decide +kernel
theorem dX4_shoot_81 : decode cX4_shoot 81 = .ok (.getfield 52, 3) := by decide +kernel
theorem dX4_shoot_84 : decode cX4_shoot 84 = .ok (.putfield 190, 3) := by decide +kernel
theorem dX4_shoot_87 : decode cX4_shoot 87 = .ok (.aload_n 1, 1) := by decide +kernel
theorem dX4_shoot_88 : decode cX4_shoot 88 = .ok (.getfield 77, 3) := by decide +kernel
theorem dX4_shoot_91 : decode cX4_shoot 91 = .ok (.istore_n 2, 1) := by decide +kernel
theorem dX4_shoot_92 : decode cX4_shoot 92 = .ok (.goto 12, 3) := by decide +kernel
theorem dX4_shoot_95 : decode cX4_shoot 95 = .ok (.aload_n 1, 1) := by decide +kernel
theorem dX4_shoot_96 : decode cX4_shoot 96 = .ok (.ifnull 8, 3) := by decide +kernel
theorem dX4_shoot_99 : decode cX4_shoot 99 = .ok (.aload_n 0, 1) := by decide +kernel
theorem dX4_shoot_100 : decode cX4_shoot 100 = .ok (.aload_n 1, 1) := by decide +kernel
theorem dX4_shoot_101 : decode cX4_shoot 101 = .ok (.invokevirtual 193, 3) := by decide +kernel
theorem dX4_shoot_104 : decode cX4_shoot 104 = .ok (.aload_n 0, 1) := by decide +kernel
theorem dX4_shoot_105 : decode cX4_shoot 105 = .ok (.getfield 31, 3) := by decide +kernel
theorem dX4_shoot_108 : decode cX4_shoot 108 = .ok (.iconst 1, 1) := by decide +kernel
theorem dX4_shoot_109 : decode cX4_shoot 109 = .ok (.invokevirtual 196, 3) := by decide +kernel
theorem dX4_shoot_112 : decode cX4_shoot 112 = .ok (.aload_n 0, 1) := by decide +kernel
theorem dX4_shoot_113 : decode cX4_shoot 113 = .ok (.dup, 1) := by decide +kernel
theorem dX4_shoot_114 : decode cX4_shoot 114 = .ok (.getfield 52, 3) := by decide +kernel
theorem dX4_shoot_117 : decode cX4_shoot 117 = .ok (.iconst 1, 1) := by decide +kernel
theorem dX4_shoot_118 : decode cX4_shoot 118 = .ok (.iadd, 1) := by decide +kernel
theorem dX4_shoot_119 : decode cX4_shoot 119 = .ok (.putfield 52, 3) := by decide +kernel
theorem dX4_shoot_122 : decode cX4_shoot 122 = .ok (.iload_n 2, 1) := by decide +kernel
theorem dX4_shoot_123 : decode cX4_shoot 123 = .ok (.ireturn, 1) := by decide +kernel
theorem dX4_mend_0 : decode cX4_mend 0 = .ok (.iconst 0, 1) := by decide +kernel
theorem dX4_mend_1 : decode cX4_mend 1 = .ok (.istore_n 1, 1) := by decide +kernel
theorem dX4_mend_2 : decode cX4_mend 2 = .ok (.aload_n 0, 1) := by decide +kernel
theorem dX4_mend_3 : decode cX4_mend 3 = .ok (.getfield 52, 3) := by decide +kernel
theorem dX4_mend_6 : decode cX4_mend 6 = .ok (.istore_n 2, 1) := by decide +kernel
theorem dX4_mend_7 : decode cX4_mend 7 = .ok (.iload_n 2, 1) := by decide +kernel
theorem dX4_mend_8 : decode cX4_mend 8 = .ok (.bipush 30, 2) := by decide +kernel
theorem dX4_mend_10 : decode cX4_mend 10 = .ok (.if_icmp .ge 41, 3) := by decide +kernel
theorem dX4_mend_13 : decode cX4_mend 13 = .ok (.aload_n 0, 1) := by decide +kernel
theorem dX4_mend_14 : decode cX4_mend 14 = .ok (.iload_n 2, 1) := by decide +kernel
theorem dX4_mend_15 : decode cX4_mend 15 = .ok (.invokevirtual 199, 3) := by decide +kernel
theorem dX4_mend_18 : decode cX4_mend 18 = .ok (.ifCond .eq 11, 3) := by decide +kernel
theorem dX4_mend_21 : decode cX4_mend 21 = .ok (.aload_n 0, 1) := by decide +kernel
theorem dX4_mend_22 : decode cX4_mend 22 = .ok (.iload_n 2, 1) := by decide +kernel
theorem dX4_mend_23 : decode cX4_mend 23 = .ok (.invokevirtual 203, 3) := by decide +kernel
theorem dX4_mend_26 : decode cX4_mend 26 = .ok (.goto 4, 3) := by decide +kernel
theorem dX4_mend_29 : decode cX4_mend 29 = .ok (.iconst (-1), 1) := by decide +kernel
theorem dX4_mend_30 : decode cX4_mend 30 = .ok (.istore_n 3, 1) := by decide +kernel
theorem dX4_mend_31 : decode cX4_mend 31 = .ok (.iload_n 3, 1) := by decide +kernel
theorem dX4_mend_32 : decode cX4_mend 32 = .ok (.iconst (-1), 1) := by decide +kernel
theorem dX4_mend_33 : decode cX4_mend 33 = .ok (.if_icmp .eq 12, 3) := by decide +kernel
theorem dX4_mend_36 : decode cX4_mend 36 = .ok (.aload_n 0, 1) := by decide +kernel
theorem dX4_mend_37 : decode cX4_mend 37 = .ok (.iload_n 2, 1) := by decide +kernel
theorem dX4_mend_38 : decode cX4_mend 38 = .ok (.iload_n 3, 1) := by decide +kernel
theorem dX4_mend_39 : decode cX4_mend 39 = .ok (.invokevirtual 133, 3) := by decide +kernel
theorem dX4_mend_42 : decode cX4_mend 42 = .ok (.iinc 1 1, 3) := by decide +kernel
theorem dX4_mend_45 : decode cX4_mend 45 = .ok (.iinc 2 1, 3) := by decide +kernel
theorem dX4_mend_48 : decode cX4_mend 48 = .ok (.goto (-41), 3) := by decide +kernel
theorem dX4_mend_51 : decode cX4_mend 51 = .ok (.iload_n 1, 1) := by decide +kernel
theorem dX4_mend_52 : decode cX4_mend 52 = .ok (.ireturn, 1) := by decide +kernel
theorem dX4_better_0 : decode cX4_better 0 = .ok (.iconst 0, 1) := by decide +kernel
theorem dX4_better_1 : decode cX4_better 1 = .ok (.istore_n 1, 1) := by decide +kernel
theorem dX4_better_2 : decode cX4_better 2 = .ok (.iload_n 1, 1) := by decide +kernel
theorem dX4_better_3 : decode cX4_better 3 = .ok (.ldc 206, 2) := by decide +kernel
theorem dX4_better_5 : decode cX4_better 5 = .ok (.if_icmp .ge 16, 3) := by decide +kernel
theorem dX4_better_8 : decode cX4_better 8 = .ok (.aload_n 0, 1) := by decide +kernel
theorem dX4_better_9 : decode cX4_better 9 = .ok (.invokevirtual 207, 3) := by decide +kernel
theorem dX4_better_12 : decode cX4_better 12 = .ok (.ifCond .eq 9, 3) := by decide +kernel
theorem dX4_better_15 : decode cX4_better 15 = .ok (.iinc 1 1, 3) := by decide +kernel
theorem dX4_better_18 : decode cX4_better 18 = .ok (.goto (-16), 3) := by decide +kernel
theorem dX4_better_21 : decode cX4_better 21 = .ok (.iload_n 1, 1) := by decide +kernel
theorem dX4_better_22 : decode cX4_better 22 = .ok (.ireturn, 1) := by decide +kernel
theorem dX4_least_0 : decode cX4_least 0 = .ok (.aload_n 0, 1) := by decide +kernel
theorem dX4_least_1 : decode cX4_least 1 = .ok (.getfield 41, 3) := by decide +kernel
theorem dX4_least_4 : decode cX4_least 4 = .ok (.aload_n 0, 1) := by decide +kernel
theorem dX4_least_5 : decode cX4_least 5 = .ok (.getfield 15, 3) := by decide +kernel
theorem dX4_least_8 : decode cX4_least 8 = .ok (.invokevirtual 211, 3) := by decide +kernel
theorem dX4_least_11 : decode cX4_least 11 = .ok (.aload_n 0, 1) := by decide +kernel
theorem dX4_least_12 : decode cX4_least 12 = .ok (.getfield 41, 3) := by decide +kernel
theorem dX4_least_15 : decode cX4_least 15 = .ok (.getfield 215, 3) := by decide +kernel
theorem dX4_least_18 : decode cX4_least 18 = .ok (.iconst 5, 1) := by decide +kernel
theorem dX4_least_19 : decode cX4_least 19 = .ok (.if_icmp .le 13, 3) := by decide +kernel
theorem dX4_least_22 : decode cX4_least 22 = .ok (.new 69, 3) := by decide +kernel
theorem dX4_least_25 : decode cX4_least 25 = .ok (.dup, 1) := by decide +kernel
theorem dX4_least_26 : decode cX4_least 26 = .ok (.ldc 218, 2) := by decide +kernel
theorem dX4_least_28 : decode cX4_least 28 = .ok (.invokespecial 73, 3) := by decide +kernel
theorem dX4_least_31 : decode cX4_least 31 = .ok (.athrow, 1) := by decide +kernel
theorem dX4_least_32 : decode cX4_least 32 = .ok (.aload_n 0, 1) := by decide +kernel
theorem dX4_least_33 : decode cX4_least 33 = .ok (.invokevirtual 137, 3) := by decide +kernel
theorem dX4_least_36 : decode cX4_least 36 = .ok (.istore_n 1, 1) := by decide +kernel
theorem dX4_least_37 : decode cX4_least 37 = .ok (.aload_n 0, 1) := by decide +kernel
theorem dX4_least_38 : decode cX4_least 38 = .ok (.getfield 41, 3) := by decide +kernel
theorem dX4_least_41 : decode cX4_least 41 = .ok (.invokevirtual 220, 3) := by decide +kernel
theorem dX4_least_44 : decode cX4_least 44 = .ok (.istore_n 2, 1) := by decide +kernel
theorem dX4_least_45 : decode cX4_least 45 = .ok (.iconst 0, 1) := by decide +kernel
theorem dX4_least_46 : decode cX4_least 46 = .ok (.istore_n 3, 1) := by decide +kernel
theorem dX4_least_47 : decode cX4_least 47 = .ok (.iload_n 3, 1) := by decide +kernel
theorem dX4_least_48 : decode cX4_least 48 = .ok (.iload_n 2, 1) := by decide +kernel
theorem dX4_least_49 : decode cX4_least 49 = .ok (.if_icmp .ge 30, 3) := by decide +kernel
theorem dX4_least_52 : decode cX4_least 52 = .ok (.aload_n 0, 1) := by decide +kernel
theorem dX4_least_53 : decode cX4_least 53 = .ok (.getfield 41, 3) := by decide +kernel
theorem dX4_least_56 : decode cX4_least 56 = .ok (.aload_n 0, 1) := by decide +kernel
theorem dX4_least_57 : decode cX4_least 57 = .ok (.getfield 15, 3) := by decide +kernel
theorem dX4_least_60 : decode cX4_least 60 = .ok (.iload_n 3, 1) := by decide +kernel
theorem dX4_least_61 : decode cX4_least 61 = .ok (.invokevirtual 223, 3) := by decide +kernel
theorem dX4_least_64 : decode cX4_least 64 = .ok (.iload_n 1, 1) := by decide +kernel
theorem dX4_least_65 : decode cX4_least 65 = .ok (.aload_n 0, 1) := by decide +kernel
theorem dX4_least_66 : decode cX4_least 66 = .ok (.invokevirtual 137, 3) := by decide +kernel
theorem dX4_least_69 : decode cX4_least 69 = .ok (.invokestatic 227, 3) := by decide +kernel
theorem dX4_least_72 : decode cX4_least 72 = .ok (.istore_n 1, 1) := by decide +kernel
theorem dX4_least_73 : decode cX4_least 73 = .ok (.iinc 3 1, 3) := by decide +kernel
theorem dX4_least_76 : decode cX4_least 76 = .ok (.goto (-29), 3) := by decide +kernel
theorem dX4_least_79 : decode cX4_least 79 = .ok (.aload_n 0, 1) := by decide +kernel
theorem dX4_least_80 : decode cX4_least 80 = .ok (.getfield 41, 3) := by decide +kernel
theorem dX4_least_83 : decode cX4_least 83 = .ok (.aload_n 0, 1) := by decide +kernel
theorem dX4_least_84 : decode cX4_least 84 = .ok (.getfield 15, 3) := by decide +kernel
theorem dX4_least_87 : decode cX4_least 87 = .ok (.invokevirtual 233, 3) := by decide +kernel
theorem dX4_least_90 : decode cX4_least 90 = .ok (.iload_n 1, 1) := by decide +kernel
theorem dX4_least_91 : decode cX4_least 91 = .ok (.ireturn, 1) := by decide +kernel
theorem dX4_today_0 : decode cX4_today 0 = .ok (.aload_n 0, 1) := by decide +kernel
theorem dX4_today_1 : decode cX4_today 1 = .ok (.getfield 52, 3) := by decide +kernel
theorem dX4_today_4 : decode cX4_today 4 = .ok (.ireturn, 1) := by decide +kernel
theorem dX4_spent_0 : decode cX4_spent 0 = .ok (.aload_n 0, 1) := by decide +kernel
theorem dX4_spent_1 : decode cX4_spent 1 = .ok (.getfield 55, 3) := by decide +kernel
theorem dX4_spent_4 : decode cX4_spent 4 = .ok (.ireturn, 1) := by decide +kernel
theorem dX4_cost_0 : decode cX4_cost 0 = .ok (.aload_n 0, 1) := by decide +kernel
theorem dX4_cost_1 : decode cX4_cost 1 = .ok (.invokevirtual 137, 3) := by decide +kernel
theorem dX4_cost_4 : decode cX4_cost 4 = .ok (.ireturn, 1) := by decide +kernel
theorem dX4_scenes_0 : decode cX4_scenes 0 = .ok (.aload_n 0, 1) := by decide +kernel
theorem dX4_scenes_1 : decode cX4_scenes 1 = .ok (.getfield 45, 3) := by decide +kernel
theorem dX4_scenes_4 : decode cX4_scenes 4 = .ok (.ireturn, 1) := by decide +kernel
theorem dX4_stateOf_0 : decode cX4_stateOf 0 = .ok (.aload_n 0, 1) := by decide +kernel
theorem dX4_stateOf_1 : decode cX4_stateOf 1 = .ok (.iload_n 1, 1) := by decide +kernel
theorem dX4_stateOf_2 : decode cX4_stateOf 2 = .ok (.invokevirtual 80, 3) := by decide +kernel
theorem dX4_stateOf_5 : decode cX4_stateOf 5 = .ok (.getfield 128, 3) := by decide +kernel
theorem dX4_stateOf_8 : decode cX4_stateOf 8 = .ok (.ireturn, 1) := by decide +kernel
theorem dX4_dayOf_0 : decode cX4_dayOf 0 = .ok (.aload_n 0, 1) := by decide +kernel
theorem dX4_dayOf_1 : decode cX4_dayOf 1 = .ok (.iload_n 1, 1) := by decide +kernel
theorem dX4_dayOf_2 : decode cX4_dayOf 2 = .ok (.invokevirtual 80, 3) := by decide +kernel
theorem dX4_dayOf_5 : decode cX4_dayOf 5 = .ok (.astore_n 2, 1) := by decide +kernel
theorem dX4_dayOf_6 : decode cX4_dayOf 6 = .ok (.aload_n 2, 1) := by decide +kernel
theorem dX4_dayOf_7 : decode cX4_dayOf 7 = .ok (.getfield 128, 3) := by decide +kernel
theorem dX4_dayOf_10 : decode cX4_dayOf 10 = .ok (.iconst 1, 1) := by decide +kernel
theorem dX4_dayOf_11 : decode cX4_dayOf 11 = .ok (.if_icmp .ne 10, 3) := by decide +kernel
theorem dX4_dayOf_14 : decode cX4_dayOf 14 = .ok (.aload_n 2, 1) := by decide +kernel
theorem dX4_dayOf_15 : decode cX4_dayOf 15 = .ok (.getfield 190, 3) := by decide +kernel
theorem dX4_dayOf_18 : decode cX4_dayOf 18 = .ok (.goto 8, 3) := by decide +kernel
theorem dX4_dayOf_21 : decode cX4_dayOf 21 = .ok (.aload_n 0, 1) := by decide +kernel
theorem dX4_dayOf_22 : decode cX4_dayOf 22 = .ok (.aload_n 2, 1) := by decide +kernel
theorem dX4_dayOf_23 : decode cX4_dayOf 23 = .ok (.invokevirtual 120, 3) := by decide +kernel
theorem dX4_dayOf_26 : decode cX4_dayOf 26 = .ok (.ireturn, 1) := by decide +kernel
theorem dX4_sceneOn_0 : decode cX4_sceneOn 0 = .ok (.iload_n 1, 1) := by decide +kernel
theorem dX4_sceneOn_1 : decode cX4_sceneOn 1 = .ok (.invokestatic 160, 3) := by decide +kernel
theorem dX4_sceneOn_4 : decode cX4_sceneOn 4 = .ok (.aload_n 0, 1) := by decide +kernel
theorem dX4_sceneOn_5 : decode cX4_sceneOn 5 = .ok (.getfield 15, 3) := by decide +kernel
theorem dX4_sceneOn_8 : decode cX4_sceneOn 8 = .ok (.iload_n 1, 1) := by decide +kernel
theorem dX4_sceneOn_9 : decode cX4_sceneOn 9 = .ok (.aaload, 1) := by decide +kernel
theorem dX4_sceneOn_10 : decode cX4_sceneOn 10 = .ok (.astore_n 2, 1) := by decide +kernel
theorem dX4_sceneOn_11 : decode cX4_sceneOn 11 = .ok (.aload_n 2, 1) := by decide +kernel
theorem dX4_sceneOn_12 : decode cX4_sceneOn 12 = .ok (.ifnonnull 7, 3) := by decide +kernel
theorem dX4_sceneOn_15 : decode cX4_sceneOn 15 = .ok (.iconst (-1), 1) := by decide +kernel
theorem dX4_sceneOn_16 : decode cX4_sceneOn 16 = .ok (.goto 7, 3) := by decide +kernel
theorem dX4_sceneOn_19 : decode cX4_sceneOn 19 = .ok (.aload_n 2, 1) := by decide +kernel
theorem dX4_sceneOn_20 : decode cX4_sceneOn 20 = .ok (.getfield 77, 3) := by decide +kernel
theorem dX4_sceneOn_23 : decode cX4_sceneOn 23 = .ok (.ireturn, 1) := by decide +kernel
theorem dX4_refused_0 : decode cX4_refused 0 = .ok (.aload_n 0, 1) := by decide +kernel
theorem dX4_refused_1 : decode cX4_refused 1 = .ok (.invokevirtual 157, 3) := by decide +kernel
theorem dX4_refused_4 : decode cX4_refused 4 = .ok (.ireturn, 1) := by decide +kernel
theorem dX4_isAllowed_0 : decode cX4_isAllowed 0 = .ok (.aload_n 0, 1) := by decide +kernel
theorem dX4_isAllowed_1 : decode cX4_isAllowed 1 = .ok (.iload_n 1, 1) := by decide +kernel
theorem dX4_isAllowed_2 : decode cX4_isAllowed 2 = .ok (.invokevirtual 80, 3) := by decide +kernel
theorem dX4_isAllowed_5 : decode cX4_isAllowed 5 = .ok (.astore_n 3, 1) := by decide +kernel
theorem dX4_isAllowed_6 : decode cX4_isAllowed 6 = .ok (.iload_n 2, 1) := by decide +kernel
theorem dX4_isAllowed_7 : decode cX4_isAllowed 7 = .ok (.invokestatic 160, 3) := by decide +kernel
theorem dX4_isAllowed_10 : decode cX4_isAllowed 10 = .ok (.aload_n 0, 1) := by decide +kernel
theorem dX4_isAllowed_11 : decode cX4_isAllowed 11 = .ok (.aload_n 3, 1) := by decide +kernel
theorem dX4_isAllowed_12 : decode cX4_isAllowed 12 = .ok (.iload_n 2, 1) := by decide +kernel
theorem dX4_isAllowed_13 : decode cX4_isAllowed 13 = .ok (.invokevirtual 183, 3) := by decide +kernel
theorem dX4_isAllowed_16 : decode cX4_isAllowed 16 = .ok (.ireturn, 1) := by decide +kernel
theorem dX4_ahead_0 : decode cX4_ahead 0 = .ok (.aload_n 0, 1) := by decide +kernel
theorem dX4_ahead_1 : decode cX4_ahead 1 = .ok (.iload_n 1, 1) := by decide +kernel
theorem dX4_ahead_2 : decode cX4_ahead 2 = .ok (.invokevirtual 80, 3) := by decide +kernel
theorem dX4_ahead_5 : decode cX4_ahead 5 = .ok (.pop, 1) := by decide +kernel
theorem dX4_ahead_6 : decode cX4_ahead 6 = .ok (.iload_n 2, 1) := by decide +kernel
theorem dX4_ahead_7 : decode cX4_ahead 7 = .ok (.invokestatic 100, 3) := by decide +kernel
theorem dX4_ahead_10 : decode cX4_ahead 10 = .ok (.iconst 0, 1) := by decide +kernel
theorem dX4_ahead_11 : decode cX4_ahead 11 = .ok (.istore_n 3, 1) := by decide +kernel
theorem dX4_ahead_12 : decode cX4_ahead 12 = .ok (.aload_n 0, 1) := by decide +kernel
theorem dX4_ahead_13 : decode cX4_ahead 13 = .ok (.getfield 11, 3) := by decide +kernel
theorem dX4_ahead_16 : decode cX4_ahead 16 = .ok (.astore 4, 2) := by decide +kernel
theorem dX4_ahead_18 : decode cX4_ahead 18 = .ok (.aload 4, 2) := by decide +kernel
theorem dX4_ahead_20 : decode cX4_ahead 20 = .ok (.arraylength, 1) := by decide +kernel
theorem dX4_ahead_21 : decode cX4_ahead 21 = .ok (.istore 5, 2) := by decide +kernel
theorem dX4_ahead_23 : decode cX4_ahead 23 = .ok (.iconst 0, 1) := by decide +kernel
theorem dX4_ahead_24 : decode cX4_ahead 24 = .ok (.istore 6, 2) := by decide +kernel
theorem dX4_ahead_26 : decode cX4_ahead 26 = .ok (.iload 6, 2) := by decide +kernel
theorem dX4_ahead_28 : decode cX4_ahead 28 = .ok (.iload 5, 2) := by decide +kernel
theorem dX4_ahead_30 : decode cX4_ahead 30 = .ok (.if_icmp .ge 47, 3) := by decide +kernel
theorem dX4_ahead_33 : decode cX4_ahead 33 = .ok (.aload 4, 2) := by decide +kernel
theorem dX4_ahead_35 : decode cX4_ahead 35 = .ok (.iload 6, 2) := by decide +kernel
theorem dX4_ahead_37 : decode cX4_ahead 37 = .ok (.aaload, 1) := by decide +kernel
theorem dX4_ahead_38 : decode cX4_ahead 38 = .ok (.astore 7, 2) := by decide +kernel
theorem dX4_ahead_40 : decode cX4_ahead 40 = .ok (.aload 7, 2) := by decide +kernel
theorem dX4_ahead_42 : decode cX4_ahead 42 = .ok (.ifnull 29, 3) := by decide +kernel
theorem dX4_ahead_45 : decode cX4_ahead 45 = .ok (.aload 7, 2) := by decide +kernel
theorem dX4_ahead_47 : decode cX4_ahead 47 = .ok (.getfield 77, 3) := by decide +kernel
theorem dX4_ahead_50 : decode cX4_ahead 50 = .ok (.iload_n 1, 1) := by decide +kernel
theorem dX4_ahead_51 : decode cX4_ahead 51 = .ok (.if_icmp .ge 20, 3) := by decide +kernel
theorem dX4_ahead_54 : decode cX4_ahead 54 = .ok (.aload 7, 2) := by decide +kernel
theorem dX4_ahead_56 : decode cX4_ahead 56 = .ok (.iload_n 2, 1) := by decide +kernel
theorem dX4_ahead_57 : decode cX4_ahead 57 = .ok (.invokevirtual 236, 3) := by decide +kernel
theorem dX4_ahead_60 : decode cX4_ahead 60 = .ok (.ifCond .eq 11, 3) := by decide +kernel
theorem dX4_ahead_63 : decode cX4_ahead 63 = .ok (.aload 7, 2) := by decide +kernel
theorem dX4_ahead_65 : decode cX4_ahead 65 = .ok (.getfield 114, 3) := by decide +kernel
theorem dX4_ahead_68 : decode cX4_ahead 68 = .ok (.iload_n 2, 1) := by decide +kernel
theorem dX4_ahead_69 : decode cX4_ahead 69 = .ok (.iaload, 1) := by decide +kernel
theorem dX4_ahead_70 : decode cX4_ahead 70 = .ok (.istore_n 3, 1) := by decide +kernel
theorem dX4_ahead_71 : decode cX4_ahead 71 = .ok (.iinc 6 1, 3) := by decide +kernel
theorem dX4_ahead_74 : decode cX4_ahead 74 = .ok (.goto (-48), 3) := by decide +kernel
theorem dX4_ahead_77 : decode cX4_ahead 77 = .ok (.iload_n 3, 1) := by decide +kernel
theorem dX4_ahead_78 : decode cX4_ahead 78 = .ok (.ireturn, 1) := by decide +kernel
theorem dX4_copies_0 : decode cX4_copies 0 = .ok (.iload_n 1, 1) := by decide +kernel
theorem dX4_copies_1 : decode cX4_copies 1 = .ok (.invokestatic 100, 3) := by decide +kernel
theorem dX4_copies_4 : decode cX4_copies 4 = .ok (.iload_n 2, 1) := by decide +kernel
theorem dX4_copies_5 : decode cX4_copies 5 = .ok (.ifCond .lt 8, 3) := by decide +kernel
theorem dX4_copies_8 : decode cX4_copies 8 = .ok (.iload_n 2, 1) := by decide +kernel
theorem dX4_copies_9 : decode cX4_copies 9 = .ok (.iconst 4, 1) := by decide +kernel
theorem dX4_copies_10 : decode cX4_copies 10 = .ok (.if_icmp .lt 13, 3) := by decide +kernel
theorem dX4_copies_13 : decode cX4_copies 13 = .ok (.new 58, 3) := by decide +kernel
theorem dX4_copies_16 : decode cX4_copies 16 = .ok (.dup, 1) := by decide +kernel
theorem dX4_copies_17 : decode cX4_copies 17 = .ok (.ldc 239, 2) := by decide +kernel
theorem dX4_copies_19 : decode cX4_copies 19 = .ok (.invokespecial 62, 3) := by decide +kernel
theorem dX4_copies_22 : decode cX4_copies 22 = .ok (.athrow, 1) := by decide +kernel
theorem dX4_copies_23 : decode cX4_copies 23 = .ok (.aload_n 0, 1) := by decide +kernel
theorem dX4_copies_24 : decode cX4_copies 24 = .ok (.getfield 31, 3) := by decide +kernel
theorem dX4_copies_27 : decode cX4_copies 27 = .ok (.getfield 173, 3) := by decide +kernel
theorem dX4_copies_30 : decode cX4_copies 30 = .ok (.iload_n 1, 1) := by decide +kernel
theorem dX4_copies_31 : decode cX4_copies 31 = .ok (.aaload, 1) := by decide +kernel
theorem dX4_copies_32 : decode cX4_copies 32 = .ok (.iload_n 2, 1) := by decide +kernel
theorem dX4_copies_33 : decode cX4_copies 33 = .ok (.iaload, 1) := by decide +kernel
theorem dX4_copies_34 : decode cX4_copies 34 = .ok (.ireturn, 1) := by decide +kernel
theorem dX4_growth_0 : decode cX4_growth 0 = .ok (.iload_n 1, 1) := by decide +kernel
theorem dX4_growth_1 : decode cX4_growth 1 = .ok (.invokestatic 84, 3) := by decide +kernel
theorem dX4_growth_4 : decode cX4_growth 4 = .ok (.aload_n 0, 1) := by decide +kernel
theorem dX4_growth_5 : decode cX4_growth 5 = .ok (.getfield 31, 3) := by decide +kernel
theorem dX4_growth_8 : decode cX4_growth 8 = .ok (.getfield 241, 3) := by decide +kernel
theorem dX4_growth_11 : decode cX4_growth 11 = .ok (.iload_n 1, 1) := by decide +kernel
theorem dX4_growth_12 : decode cX4_growth 12 = .ok (.iaload, 1) := by decide +kernel
theorem dX4_growth_13 : decode cX4_growth 13 = .ok (.ireturn, 1) := by decide +kernel
theorem dX4_sceneNumbered_0 : decode cX4_sceneNumbered 0 = .ok (.iload_n 1, 1) := by decide +kernel
theorem dX4_sceneNumbered_1 : decode cX4_sceneNumbered 1 = .ok (.ifCond .lt 21, 3) := by decide +kernel
theorem dX4_sceneNumbered_4 : decode cX4_sceneNumbered 4 = .ok (.iload_n 1, 1) := by decide +kernel
theorem dX4_sceneNumbered_5 : decode cX4_sceneNumbered 5 = .ok (.aload_n 0, 1) := by decide +kernel
theorem dX4_sceneNumbered_6 : decode cX4_sceneNumbered 6 = .ok (.getfield 11, 3) := by decide +kernel
theorem dX4_sceneNumbered_9 : decode cX4_sceneNumbered 9 = .ok (.arraylength, 1) := by decide +kernel
theorem dX4_sceneNumbered_10 : decode cX4_sceneNumbered 10 = .ok (.if_icmp .ge 12, 3) := by decide +kernel
theorem dX4_sceneNumbered_13 : decode cX4_sceneNumbered 13 = .ok (.aload_n 0, 1) := by decide +kernel
theorem dX4_sceneNumbered_14 : decode cX4_sceneNumbered 14 = .ok (.getfield 11, 3) := by decide +kernel
theorem dX4_sceneNumbered_17 : decode cX4_sceneNumbered 17 = .ok (.iload_n 1, 1) := by decide +kernel
theorem dX4_sceneNumbered_18 : decode cX4_sceneNumbered 18 = .ok (.aaload, 1) := by decide +kernel
theorem dX4_sceneNumbered_19 : decode cX4_sceneNumbered 19 = .ok (.ifnonnull 13, 3) := by decide +kernel
theorem dX4_sceneNumbered_22 : decode cX4_sceneNumbered 22 = .ok (.new 242, 3) := by decide +kernel
theorem dX4_sceneNumbered_25 : decode cX4_sceneNumbered 25 = .ok (.dup, 1) := by decide +kernel
theorem dX4_sceneNumbered_26 : decode cX4_sceneNumbered 26 = .ok (.ldc 244, 2) := by decide +kernel
theorem dX4_sceneNumbered_28 : decode cX4_sceneNumbered 28 = .ok (.invokespecial 246, 3) := by decide +kernel
theorem dX4_sceneNumbered_31 : decode cX4_sceneNumbered 31 = .ok (.athrow, 1) := by decide +kernel
theorem dX4_sceneNumbered_32 : decode cX4_sceneNumbered 32 = .ok (.aload_n 0, 1) := by decide +kernel
theorem dX4_sceneNumbered_33 : decode cX4_sceneNumbered 33 = .ok (.getfield 11, 3) := by decide +kernel
theorem dX4_sceneNumbered_36 : decode cX4_sceneNumbered 36 = .ok (.iload_n 1, 1) := by decide +kernel
theorem dX4_sceneNumbered_37 : decode cX4_sceneNumbered 37 = .ok (.aaload, 1) := by decide +kernel
theorem dX4_sceneNumbered_38 : decode cX4_sceneNumbered 38 = .ok (.areturn, 1) := by decide +kernel
theorem dX4_permitNumbered_0 : decode cX4_permitNumbered 0 = .ok (.iload_n 1, 1) := by decide +kernel
theorem dX4_permitNumbered_1 : decode cX4_permitNumbered 1 = .ok (.ifCond .lt 21, 3) := by decide +kernel
theorem dX4_permitNumbered_4 : decode cX4_permitNumbered 4 = .ok (.iload_n 1, 1) := by decide +kernel
theorem dX4_permitNumbered_5 : decode cX4_permitNumbered 5 = .ok (.aload_n 0, 1) := by decide +kernel
theorem dX4_permitNumbered_6 : decode cX4_permitNumbered 6 = .ok (.getfield 20, 3) := by decide +kernel
theorem dX4_permitNumbered_9 : decode cX4_permitNumbered 9 = .ok (.arraylength, 1) := by decide +kernel
theorem dX4_permitNumbered_10 : decode cX4_permitNumbered 10 = .ok (.if_icmp .ge 12, 3) := by decide +kernel
theorem dX4_permitNumbered_13 : decode cX4_permitNumbered 13 = .ok (.aload_n 0, 1) := by decide +kernel
theorem dX4_permitNumbered_14 : decode cX4_permitNumbered 14 = .ok (.getfield 20, 3) := by decide +kernel
theorem dX4_permitNumbered_17 : decode cX4_permitNumbered 17 = .ok (.iload_n 1, 1) := by decide +kernel
theorem dX4_permitNumbered_18 : decode cX4_permitNumbered 18 = .ok (.aaload, 1) := by decide +kernel
theorem dX4_permitNumbered_19 : decode cX4_permitNumbered 19 = .ok (.ifnonnull 13, 3) := by decide +kernel
theorem dX4_permitNumbered_22 : decode cX4_permitNumbered 22 = .ok (.new 242, 3) := by decide +kernel
theorem dX4_permitNumbered_25 : decode cX4_permitNumbered 25 = .ok (.dup, 1) := by decide +kernel
theorem dX4_permitNumbered_26 : decode cX4_permitNumbered 26 = .ok (.ldc 247, 2) := by decide +kernel
theorem dX4_permitNumbered_28 : decode cX4_permitNumbered 28 = .ok (.invokespecial 246, 3) := by decide +kernel
theorem dX4_permitNumbered_31 : decode cX4_permitNumbered 31 = .ok (.athrow, 1) := by decide +kernel
theorem dX4_permitNumbered_32 : decode cX4_permitNumbered 32 = .ok (.aload_n 0, 1) := by decide +kernel
theorem dX4_permitNumbered_33 : decode cX4_permitNumbered 33 = .ok (.getfield 20, 3) := by decide +kernel
theorem dX4_permitNumbered_36 : decode cX4_permitNumbered 36 = .ok (.iload_n 1, 1) := by decide +kernel
theorem dX4_permitNumbered_37 : decode cX4_permitNumbered 37 = .ok (.aaload, 1) := by decide +kernel
theorem dX4_permitNumbered_38 : decode cX4_permitNumbered 38 = .ok (.areturn, 1) := by decide +kernel
theorem dX4_requireActor_0 : decode cX4_requireActor 0 = .ok (.iload_n 0, 1) := by decide +kernel
theorem dX4_requireActor_1 : decode cX4_requireActor 1 = .ok (.ifCond .lt 8, 3) := by decide +kernel
theorem dX4_requireActor_4 : decode cX4_requireActor 4 = .ok (.iload_n 0, 1) := by decide +kernel
theorem dX4_requireActor_5 : decode cX4_requireActor 5 = .ok (.iconst 5, 1) := by decide +kernel
theorem dX4_requireActor_6 : decode cX4_requireActor 6 = .ok (.if_icmp .lt 13, 3) := by decide +kernel
theorem dX4_requireActor_9 : decode cX4_requireActor 9 = .ok (.new 242, 3) := by decide +kernel
theorem dX4_requireActor_12 : decode cX4_requireActor 12 = .ok (.dup, 1) := by decide +kernel
theorem dX4_requireActor_13 : decode cX4_requireActor 13 = .ok (.ldc 249, 2) := by decide +kernel
theorem dX4_requireActor_15 : decode cX4_requireActor 15 = .ok (.invokespecial 246, 3) := by decide +kernel
theorem dX4_requireActor_18 : decode cX4_requireActor 18 = .ok (.athrow, 1) := by decide +kernel
theorem dX4_requireActor_19 : decode cX4_requireActor 19 = .ok (.return_, 1) := by decide +kernel
theorem dX4_requireProp_0 : decode cX4_requireProp 0 = .ok (.iload_n 0, 1) := by decide +kernel
theorem dX4_requireProp_1 : decode cX4_requireProp 1 = .ok (.ifCond .lt 8, 3) := by decide +kernel
theorem dX4_requireProp_4 : decode cX4_requireProp 4 = .ok (.iload_n 0, 1) := by decide +kernel
theorem dX4_requireProp_5 : decode cX4_requireProp 5 = .ok (.iconst 5, 1) := by decide +kernel
theorem dX4_requireProp_6 : decode cX4_requireProp 6 = .ok (.if_icmp .lt 13, 3) := by decide +kernel
theorem dX4_requireProp_9 : decode cX4_requireProp 9 = .ok (.new 242, 3) := by decide +kernel
theorem dX4_requireProp_12 : decode cX4_requireProp 12 = .ok (.dup, 1) := by decide +kernel
theorem dX4_requireProp_13 : decode cX4_requireProp 13 = .ok (.ldc 251, 2) := by decide +kernel
theorem dX4_requireProp_15 : decode cX4_requireProp 15 = .ok (.invokespecial 246, 3) := by decide +kernel
theorem dX4_requireProp_18 : decode cX4_requireProp 18 = .ok (.athrow, 1) := by decide +kernel
theorem dX4_requireProp_19 : decode cX4_requireProp 19 = .ok (.return_, 1) := by decide +kernel
theorem dX4_requireDay_0 : decode cX4_requireDay 0 = .ok (.iload_n 0, 1) := by decide +kernel
theorem dX4_requireDay_1 : decode cX4_requireDay 1 = .ok (.ifCond .lt 9, 3) := by decide +kernel
theorem dX4_requireDay_4 : decode cX4_requireDay 4 = .ok (.iload_n 0, 1) := by decide +kernel
theorem dX4_requireDay_5 : decode cX4_requireDay 5 = .ok (.bipush 30, 2) := by decide +kernel
theorem dX4_requireDay_7 : decode cX4_requireDay 7 = .ok (.if_icmp .lt 13, 3) := by decide +kernel
theorem dX4_requireDay_10 : decode cX4_requireDay 10 = .ok (.new 58, 3) := by decide +kernel
theorem dX4_requireDay_13 : decode cX4_requireDay 13 = .ok (.dup, 1) := by decide +kernel
theorem dX4_requireDay_14 : decode cX4_requireDay 14 = .ok (.ldc 253, 2) := by decide +kernel
theorem dX4_requireDay_16 : decode cX4_requireDay 16 = .ok (.invokespecial 62, 3) := by decide +kernel
theorem dX4_requireDay_19 : decode cX4_requireDay 19 = .ok (.athrow, 1) := by decide +kernel
theorem dX4_requireDay_20 : decode cX4_requireDay 20 = .ok (.return_, 1) := by decide +kernel
theorem dX4_requirePlanned_0 : decode cX4_requirePlanned 0 = .ok (.aload_n 0, 1) := by decide +kernel
theorem dX4_requirePlanned_1 : decode cX4_requirePlanned 1 = .ok (.getfield 128, 3) := by decide +kernel
theorem dX4_requirePlanned_4 : decode cX4_requirePlanned 4 = .ok (.ifCond .eq 13, 3) := by decide +kernel
theorem dX4_requirePlanned_7 : decode cX4_requirePlanned 7 = .ok (.new 69, 3) := by decide +kernel
theorem dX4_requirePlanned_10 : decode cX4_requirePlanned 10 = .ok (.dup, 1) := by decide +kernel
theorem dX4_requirePlanned_11 : decode cX4_requirePlanned 11 = .ok (.ldc 255, 2) := by decide +kernel
theorem dX4_requirePlanned_13 : decode cX4_requirePlanned 13 = .ok (.invokespecial 73, 3) := by decide +kernel
theorem dX4_requirePlanned_16 : decode cX4_requirePlanned 16 = .ok (.athrow, 1) := by decide +kernel
theorem dX4_requirePlanned_17 : decode cX4_requirePlanned 17 = .ok (.return_, 1) := by decide +kernel
theorem dX4_agesForwards_0 : decode cX4_agesForwards 0 = .ok (.aload_n 0, 1) := by decide +kernel
theorem dX4_agesForwards_1 : decode cX4_agesForwards 1 = .ok (.getfield 11, 3) := by decide +kernel
theorem dX4_agesForwards_4 : decode cX4_agesForwards 4 = .ok (.astore 5, 2) := by decide +kernel
theorem dX4_agesForwards_6 : decode cX4_agesForwards 6 = .ok (.aload 5, 2) := by decide +kernel
theorem dX4_agesForwards_8 : decode cX4_agesForwards 8 = .ok (.arraylength, 1) := by decide +kernel
theorem dX4_agesForwards_9 : decode cX4_agesForwards 9 = .ok (.istore 6, 2) := by decide +kernel
theorem dX4_agesForwards_11 : decode cX4_agesForwards 11 = .ok (.iconst 0, 1) := by decide +kernel
theorem dX4_agesForwards_12 : decode cX4_agesForwards 12 = .ok (.istore 7, 2) := by decide +kernel
theorem dX4_agesForwards_14 : decode cX4_agesForwards 14 = .ok (.iload 7, 2) := by decide +kernel
theorem dX4_agesForwards_16 : decode cX4_agesForwards 16 = .ok (.iload 6, 2) := by decide +kernel
theorem dX4_agesForwards_18 : decode cX4_agesForwards 18 = .ok (.if_icmp .ge 79, 3) := by decide +kernel
theorem dX4_agesForwards_21 : decode cX4_agesForwards 21 = .ok (.aload 5, 2) := by decide +kernel
theorem dX4_agesForwards_23 : decode cX4_agesForwards 23 = .ok (.iload 7, 2) := by decide +kernel
theorem dX4_agesForwards_25 : decode cX4_agesForwards 25 = .ok (.aaload, 1) := by decide +kernel
theorem dX4_agesForwards_26 : decode cX4_agesForwards 26 = .ok (.astore 8, 2) := by decide +kernel
theorem dX4_agesForwards_28 : decode cX4_agesForwards 28 = .ok (.aload 8, 2) := by decide +kernel
theorem dX4_agesForwards_30 : decode cX4_agesForwards 30 = .ok (.ifnull 61, 3) := by decide +kernel
theorem dX4_agesForwards_33 : decode cX4_agesForwards 33 = .ok (.aload 8, 2) := by decide +kernel
theorem dX4_agesForwards_35 : decode cX4_agesForwards 35 = .ok (.getfield 77, 3) := by decide +kernel
theorem dX4_agesForwards_38 : decode cX4_agesForwards 38 = .ok (.iload_n 1, 1) := by decide +kernel
theorem dX4_agesForwards_39 : decode cX4_agesForwards 39 = .ok (.if_icmp .eq 52, 3) := by decide +kernel
theorem dX4_agesForwards_42 : decode cX4_agesForwards 42 = .ok (.aload 8, 2) := by decide +kernel
theorem dX4_agesForwards_44 : decode cX4_agesForwards 44 = .ok (.iload_n 2, 1) := by decide +kernel
theorem dX4_agesForwards_45 : decode cX4_agesForwards 45 = .ok (.invokevirtual 236, 3) := by decide +kernel
theorem dX4_agesForwards_48 : decode cX4_agesForwards 48 = .ok (.ifCond .ne 6, 3) := by decide +kernel
theorem dX4_agesForwards_51 : decode cX4_agesForwards 51 = .ok (.goto 40, 3) := by decide +kernel
theorem dX4_agesForwards_54 : decode cX4_agesForwards 54 = .ok (.aload 8, 2) := by decide +kernel
theorem dX4_agesForwards_56 : decode cX4_agesForwards 56 = .ok (.getfield 77, 3) := by decide +kernel
theorem dX4_agesForwards_59 : decode cX4_agesForwards 59 = .ok (.iload_n 1, 1) := by decide +kernel
theorem dX4_agesForwards_60 : decode cX4_agesForwards 60 = .ok (.if_icmp .ge 17, 3) := by decide +kernel
theorem dX4_agesForwards_63 : decode cX4_agesForwards 63 = .ok (.aload 8, 2) := by decide +kernel
theorem dX4_agesForwards_65 : decode cX4_agesForwards 65 = .ok (.getfield 114, 3) := by decide +kernel
theorem dX4_agesForwards_68 : decode cX4_agesForwards 68 = .ok (.iload_n 2, 1) := by decide +kernel
theorem dX4_agesForwards_69 : decode cX4_agesForwards 69 = .ok (.iaload, 1) := by decide +kernel
theorem dX4_agesForwards_70 : decode cX4_agesForwards 70 = .ok (.iload_n 3, 1) := by decide +kernel
theorem dX4_agesForwards_71 : decode cX4_agesForwards 71 = .ok (.if_icmp .le 20, 3) := by decide +kernel
theorem dX4_agesForwards_74 : decode cX4_agesForwards 74 = .ok (.goto 15, 3) := by decide +kernel
theorem dX4_agesForwards_77 : decode cX4_agesForwards 77 = .ok (.aload 8, 2) := by decide +kernel
theorem dX4_agesForwards_79 : decode cX4_agesForwards 79 = .ok (.getfield 111, 3) := by decide +kernel
theorem dX4_agesForwards_82 : decode cX4_agesForwards 82 = .ok (.iload_n 2, 1) := by decide +kernel
theorem dX4_agesForwards_83 : decode cX4_agesForwards 83 = .ok (.iaload, 1) := by decide +kernel
theorem dX4_agesForwards_84 : decode cX4_agesForwards 84 = .ok (.iload 4, 2) := by decide +kernel
theorem dX4_agesForwards_86 : decode cX4_agesForwards 86 = .ok (.if_icmp .ge 5, 3) := by decide +kernel
theorem dX4_agesForwards_89 : decode cX4_agesForwards 89 = .ok (.iconst 0, 1) := by decide +kernel
theorem dX4_agesForwards_90 : decode cX4_agesForwards 90 = .ok (.ireturn, 1) := by decide +kernel
theorem dX4_agesForwards_91 : decode cX4_agesForwards 91 = .ok (.iinc 7 1, 3) := by decide +kernel
theorem dX4_agesForwards_94 : decode cX4_agesForwards 94 = .ok (.goto (-80), 3) := by decide +kernel
theorem dX4_agesForwards_97 : decode cX4_agesForwards 97 = .ok (.iconst 1, 1) := by decide +kernel
theorem dX4_agesForwards_98 : decode cX4_agesForwards 98 = .ok (.ireturn, 1) := by decide +kernel
theorem dX4_dayBehindPlan_0 : decode cX4_dayBehindPlan 0 = .ok (.aload_n 0, 1) := by decide +kernel
theorem dX4_dayBehindPlan_1 : decode cX4_dayBehindPlan 1 = .ok (.getfield 52, 3) := by decide +kernel
theorem dX4_dayBehindPlan_4 : decode cX4_dayBehindPlan 4 = .ok (.istore_n 1, 1) := by decide +kernel
theorem dX4_dayBehindPlan_5 : decode cX4_dayBehindPlan 5 = .ok (.aload_n 0, 1) := by decide +kernel
theorem dX4_dayBehindPlan_6 : decode cX4_dayBehindPlan 6 = .ok (.getfield 52, 3) := by decide +kernel
theorem dX4_dayBehindPlan_9 : decode cX4_dayBehindPlan 9 = .ok (.istore_n 2, 1) := by decide +kernel
theorem dX4_dayBehindPlan_10 : decode cX4_dayBehindPlan 10 = .ok (.iload_n 2, 1) := by decide +kernel
theorem dX4_dayBehindPlan_11 : decode cX4_dayBehindPlan 11 = .ok (.bipush 30, 2) := by decide +kernel
theorem dX4_dayBehindPlan_13 : decode cX4_dayBehindPlan 13 = .ok (.if_icmp .ge 22, 3) := by decide +kernel
theorem dX4_dayBehindPlan_16 : decode cX4_dayBehindPlan 16 = .ok (.aload_n 0, 1) := by decide +kernel
theorem dX4_dayBehindPlan_17 : decode cX4_dayBehindPlan 17 = .ok (.getfield 15, 3) := by decide +kernel
theorem dX4_dayBehindPlan_20 : decode cX4_dayBehindPlan 20 = .ok (.iload_n 2, 1) := by decide +kernel
theorem dX4_dayBehindPlan_21 : decode cX4_dayBehindPlan 21 = .ok (.aaload, 1) := by decide +kernel
theorem dX4_dayBehindPlan_22 : decode cX4_dayBehindPlan 22 = .ok (.ifnull 7, 3) := by decide +kernel
theorem dX4_dayBehindPlan_25 : decode cX4_dayBehindPlan 25 = .ok (.iload_n 2, 1) := by decide +kernel
theorem dX4_dayBehindPlan_26 : decode cX4_dayBehindPlan 26 = .ok (.iconst 1, 1) := by decide +kernel
theorem dX4_dayBehindPlan_27 : decode cX4_dayBehindPlan 27 = .ok (.iadd, 1) := by decide +kernel
theorem dX4_dayBehindPlan_28 : decode cX4_dayBehindPlan 28 = .ok (.istore_n 1, 1) := by decide +kernel
theorem dX4_dayBehindPlan_29 : decode cX4_dayBehindPlan 29 = .ok (.iinc 2 1, 3) := by decide +kernel
theorem dX4_dayBehindPlan_32 : decode cX4_dayBehindPlan 32 = .ok (.goto (-22), 3) := by decide +kernel
theorem dX4_dayBehindPlan_35 : decode cX4_dayBehindPlan 35 = .ok (.iload_n 1, 1) := by decide +kernel
theorem dX4_dayBehindPlan_36 : decode cX4_dayBehindPlan 36 = .ok (.ireturn, 1) := by decide +kernel
theorem dX4_plannedDay_0 : decode cX4_plannedDay 0 = .ok (.iconst 0, 1) := by decide +kernel
theorem dX4_plannedDay_1 : decode cX4_plannedDay 1 = .ok (.istore_n 2, 1) := by decide +kernel
theorem dX4_plannedDay_2 : decode cX4_plannedDay 2 = .ok (.iload_n 2, 1) := by decide +kernel
theorem dX4_plannedDay_3 : decode cX4_plannedDay 3 = .ok (.bipush 30, 2) := by decide +kernel
theorem dX4_plannedDay_5 : decode cX4_plannedDay 5 = .ok (.if_icmp .ge 21, 3) := by decide +kernel
theorem dX4_plannedDay_8 : decode cX4_plannedDay 8 = .ok (.aload_n 0, 1) := by decide +kernel
theorem dX4_plannedDay_9 : decode cX4_plannedDay 9 = .ok (.getfield 15, 3) := by decide +kernel
theorem dX4_plannedDay_12 : decode cX4_plannedDay 12 = .ok (.iload_n 2, 1) := by decide +kernel
theorem dX4_plannedDay_13 : decode cX4_plannedDay 13 = .ok (.aaload, 1) := by decide +kernel
theorem dX4_plannedDay_14 : decode cX4_plannedDay 14 = .ok (.aload_n 1, 1) := by decide +kernel
theorem dX4_plannedDay_15 : decode cX4_plannedDay 15 = .ok (.if_acmp .ne 5, 3) := by decide +kernel
theorem dX4_plannedDay_18 : decode cX4_plannedDay 18 = .ok (.iload_n 2, 1) := by decide +kernel
theorem dX4_plannedDay_19 : decode cX4_plannedDay 19 = .ok (.ireturn, 1) := by decide +kernel
theorem dX4_plannedDay_20 : decode cX4_plannedDay 20 = .ok (.iinc 2 1, 3) := by decide +kernel
theorem dX4_plannedDay_23 : decode cX4_plannedDay 23 = .ok (.goto (-21), 3) := by decide +kernel
theorem dX4_plannedDay_26 : decode cX4_plannedDay 26 = .ok (.iconst (-1), 1) := by decide +kernel
theorem dX4_plannedDay_27 : decode cX4_plannedDay 27 = .ok (.ireturn, 1) := by decide +kernel
theorem dX4_putOff_0 : decode cX4_putOff 0 = .ok (.aload_n 0, 1) := by decide +kernel
theorem dX4_putOff_1 : decode cX4_putOff 1 = .ok (.getfield 52, 3) := by decide +kernel
theorem dX4_putOff_4 : decode cX4_putOff 4 = .ok (.iconst 1, 1) := by decide +kernel
theorem dX4_putOff_5 : decode cX4_putOff 5 = .ok (.iadd, 1) := by decide +kernel
theorem dX4_putOff_6 : decode cX4_putOff 6 = .ok (.istore_n 2, 1) := by decide +kernel
theorem dX4_putOff_7 : decode cX4_putOff 7 = .ok (.iload_n 2, 1) := by decide +kernel
theorem dX4_putOff_8 : decode cX4_putOff 8 = .ok (.bipush 30, 2) := by decide +kernel
theorem dX4_putOff_10 : decode cX4_putOff 10 = .ok (.if_icmp .ge 26, 3) := by decide +kernel
theorem dX4_putOff_13 : decode cX4_putOff 13 = .ok (.aload_n 0, 1) := by decide +kernel
theorem dX4_putOff_14 : decode cX4_putOff 14 = .ok (.getfield 15, 3) := by decide +kernel
theorem dX4_putOff_17 : decode cX4_putOff 17 = .ok (.iload_n 2, 1) := by decide +kernel
theorem dX4_putOff_18 : decode cX4_putOff 18 = .ok (.aaload, 1) := by decide +kernel
theorem dX4_putOff_19 : decode cX4_putOff 19 = .ok (.ifnonnull 11, 3) := by decide +kernel
theorem dX4_putOff_22 : decode cX4_putOff 22 = .ok (.aload_n 0, 1) := by decide +kernel
theorem dX4_putOff_23 : decode cX4_putOff 23 = .ok (.getfield 15, 3) := by decide +kernel
theorem dX4_putOff_26 : decode cX4_putOff 26 = .ok (.iload_n 2, 1) := by decide +kernel
theorem dX4_putOff_27 : decode cX4_putOff 27 = .ok (.aload_n 1, 1) := by decide +kernel
theorem dX4_putOff_28 : decode cX4_putOff 28 = .ok (.aastore, 1) := by decide +kernel
theorem dX4_putOff_29 : decode cX4_putOff 29 = .ok (.return_, 1) := by decide +kernel
theorem dX4_putOff_30 : decode cX4_putOff 30 = .ok (.iinc 2 1, 3) := by decide +kernel
theorem dX4_putOff_33 : decode cX4_putOff 33 = .ok (.goto (-26), 3) := by decide +kernel
theorem dX4_putOff_36 : decode cX4_putOff 36 = .ok (.aload_n 1, 1) := by decide +kernel
theorem dX4_putOff_37 : decode cX4_putOff 37 = .ok (.iconst 2, 1) := by decide +kernel
theorem dX4_putOff_38 : decode cX4_putOff 38 = .ok (.putfield 128, 3) := by decide +kernel
theorem dX4_putOff_41 : decode cX4_putOff 41 = .ok (.return_, 1) := by decide +kernel
theorem dX4_swapDays_0 : decode cX4_swapDays 0 = .ok (.aload_n 0, 1) := by decide +kernel
theorem dX4_swapDays_1 : decode cX4_swapDays 1 = .ok (.getfield 15, 3) := by decide +kernel
theorem dX4_swapDays_4 : decode cX4_swapDays 4 = .ok (.iload_n 1, 1) := by decide +kernel
theorem dX4_swapDays_5 : decode cX4_swapDays 5 = .ok (.iload_n 2, 1) := by decide +kernel
theorem dX4_swapDays_6 : decode cX4_swapDays 6 = .ok (.invokestatic 257, 3) := by decide +kernel
theorem dX4_swapDays_9 : decode cX4_swapDays 9 = .ok (.return_, 1) := by decide +kernel
theorem dX4_put_0 : decode cX4_put 0 = .ok (.iload_n 1, 1) := by decide +kernel
theorem dX4_put_1 : decode cX4_put 1 = .ok (.ifCond .lt 13, 3) := by decide +kernel
theorem dX4_put_4 : decode cX4_put 4 = .ok (.iload_n 1, 1) := by decide +kernel
theorem dX4_put_5 : decode cX4_put 5 = .ok (.aload_n 0, 1) := by decide +kernel
theorem dX4_put_6 : decode cX4_put 6 = .ok (.arraylength, 1) := by decide +kernel
theorem dX4_put_7 : decode cX4_put 7 = .ok (.if_icmp .ge 7, 3) := by decide +kernel
theorem dX4_put_10 : decode cX4_put 10 = .ok (.aload_n 0, 1) := by decide +kernel
theorem dX4_put_11 : decode cX4_put 11 = .ok (.iload_n 1, 1) := by decide +kernel
theorem dX4_put_12 : decode cX4_put 12 = .ok (.aload_n 2, 1) := by decide +kernel
theorem dX4_put_13 : decode cX4_put 13 = .ok (.aastore, 1) := by decide +kernel
theorem dX4_put_14 : decode cX4_put 14 = .ok (.return_, 1) := by decide +kernel
theorem dX4_exchange_0 : decode cX4_exchange 0 = .ok (.iload_n 1, 1) := by decide +kernel
theorem dX4_exchange_1 : decode cX4_exchange 1 = .ok (.ifCond .lt 19, 3) := by decide +kernel
theorem dX4_exchange_4 : decode cX4_exchange 4 = .ok (.iload_n 1, 1) := by decide +kernel
theorem dX4_exchange_5 : decode cX4_exchange 5 = .ok (.aload_n 0, 1) := by decide +kernel
theorem dX4_exchange_6 : decode cX4_exchange 6 = .ok (.arraylength, 1) := by decide +kernel
theorem dX4_exchange_7 : decode cX4_exchange 7 = .ok (.if_icmp .ge 13, 3) := by decide +kernel
theorem dX4_exchange_10 : decode cX4_exchange 10 = .ok (.iload_n 2, 1) := by decide +kernel
theorem dX4_exchange_11 : decode cX4_exchange 11 = .ok (.ifCond .lt 9, 3) := by decide +kernel
theorem dX4_exchange_14 : decode cX4_exchange 14 = .ok (.iload_n 2, 1) := by decide +kernel
theorem dX4_exchange_15 : decode cX4_exchange 15 = .ok (.aload_n 0, 1) := by decide +kernel
theorem dX4_exchange_16 : decode cX4_exchange 16 = .ok (.arraylength, 1) := by decide +kernel
theorem dX4_exchange_17 : decode cX4_exchange 17 = .ok (.if_icmp .lt 4, 3) := by decide +kernel
theorem dX4_exchange_20 : decode cX4_exchange 20 = .ok (.return_, 1) := by decide +kernel
theorem dX4_exchange_21 : decode cX4_exchange 21 = .ok (.aload_n 0, 1) := by decide +kernel
theorem dX4_exchange_22 : decode cX4_exchange 22 = .ok (.iload_n 1, 1) := by decide +kernel
theorem dX4_exchange_23 : decode cX4_exchange 23 = .ok (.aaload, 1) := by decide +kernel
theorem dX4_exchange_24 : decode cX4_exchange 24 = .ok (.astore_n 3, 1) := by decide +kernel
theorem dX4_exchange_25 : decode cX4_exchange 25 = .ok (.aload_n 0, 1) := by decide +kernel
theorem dX4_exchange_26 : decode cX4_exchange 26 = .ok (.iload_n 1, 1) := by decide +kernel
theorem dX4_exchange_27 : decode cX4_exchange 27 = .ok (.aload_n 0, 1) := by decide +kernel
theorem dX4_exchange_28 : decode cX4_exchange 28 = .ok (.iload_n 2, 1) := by decide +kernel
theorem dX4_exchange_29 : decode cX4_exchange 29 = .ok (.aaload, 1) := by decide +kernel
theorem dX4_exchange_30 : decode cX4_exchange 30 = .ok (.aastore, 1) := by decide +kernel
theorem dX4_exchange_31 : decode cX4_exchange 31 = .ok (.aload_n 0, 1) := by decide +kernel
theorem dX4_exchange_32 : decode cX4_exchange 32 = .ok (.iload_n 2, 1) := by decide +kernel
theorem dX4_exchange_33 : decode cX4_exchange 33 = .ok (.aload_n 3, 1) := by decide +kernel
theorem dX4_exchange_34 : decode cX4_exchange 34 = .ok (.aastore, 1) := by decide +kernel
theorem dX4_exchange_35 : decode cX4_exchange 35 = .ok (.return_, 1) := by decide +kernel
theorem dX4_planCost_0 : decode cX4_planCost 0 = .ok (.aload_n 0, 1) := by decide +kernel
theorem dX4_planCost_1 : decode cX4_planCost 1 = .ok (.getfield 35, 3) := by decide +kernel
theorem dX4_planCost_4 : decode cX4_planCost 4 = .ok (.aload_n 0, 1) := by decide +kernel
theorem dX4_planCost_5 : decode cX4_planCost 5 = .ok (.getfield 31, 3) := by decide +kernel
theorem dX4_planCost_8 : decode cX4_planCost 8 = .ok (.invokevirtual 261, 3) := by decide +kernel
theorem dX4_planCost_11 : decode cX4_planCost 11 = .ok (.iconst 0, 1) := by decide +kernel
theorem dX4_planCost_12 : decode cX4_planCost 12 = .ok (.istore_n 1, 1) := by decide +kernel
theorem dX4_planCost_13 : decode cX4_planCost 13 = .ok (.aload_n 0, 1) := by decide +kernel
theorem dX4_planCost_14 : decode cX4_planCost 14 = .ok (.getfield 52, 3) := by decide +kernel
theorem dX4_planCost_17 : decode cX4_planCost 17 = .ok (.istore_n 2, 1) := by decide +kernel
theorem dX4_planCost_18 : decode cX4_planCost 18 = .ok (.aload_n 0, 1) := by decide +kernel
theorem dX4_planCost_19 : decode cX4_planCost 19 = .ok (.getfield 52, 3) := by decide +kernel
theorem dX4_planCost_22 : decode cX4_planCost 22 = .ok (.istore_n 3, 1) := by decide +kernel
theorem dX4_planCost_23 : decode cX4_planCost 23 = .ok (.iload_n 3, 1) := by decide +kernel
theorem dX4_planCost_24 : decode cX4_planCost 24 = .ok (.bipush 30, 2) := by decide +kernel
theorem dX4_planCost_26 : decode cX4_planCost 26 = .ok (.if_icmp .ge 62, 3) := by decide +kernel
theorem dX4_planCost_29 : decode cX4_planCost 29 = .ok (.aload_n 0, 1) := by decide +kernel
theorem dX4_planCost_30 : decode cX4_planCost 30 = .ok (.getfield 15, 3) := by decide +kernel
theorem dX4_planCost_33 : decode cX4_planCost 33 = .ok (.iload_n 3, 1) := by decide +kernel
theorem dX4_planCost_34 : decode cX4_planCost 34 = .ok (.aaload, 1) := by decide +kernel
theorem dX4_planCost_35 : decode cX4_planCost 35 = .ok (.astore 4, 2) := by decide +kernel
theorem dX4_planCost_37 : decode cX4_planCost 37 = .ok (.aload 4, 2) := by decide +kernel
theorem dX4_planCost_39 : decode cX4_planCost 39 = .ok (.ifnonnull 6, 3) := by decide +kernel
theorem dX4_planCost_42 : decode cX4_planCost 42 = .ok (.goto 40, 3) := by decide +kernel
theorem dX4_planCost_45 : decode cX4_planCost 45 = .ok (.aload_n 0, 1) := by decide +kernel
theorem dX4_planCost_46 : decode cX4_planCost 46 = .ok (.getfield 35, 3) := by decide +kernel
theorem dX4_planCost_49 : decode cX4_planCost 49 = .ok (.iload_n 3, 1) := by decide +kernel
theorem dX4_planCost_50 : decode cX4_planCost 50 = .ok (.iload_n 2, 1) := by decide +kernel
theorem dX4_planCost_51 : decode cX4_planCost 51 = .ok (.isub, 1) := by decide +kernel
theorem dX4_planCost_52 : decode cX4_planCost 52 = .ok (.invokevirtual 196, 3) := by decide +kernel
theorem dX4_planCost_55 : decode cX4_planCost 55 = .ok (.iload_n 3, 1) := by decide +kernel
theorem dX4_planCost_56 : decode cX4_planCost 56 = .ok (.istore_n 2, 1) := by decide +kernel
theorem dX4_planCost_57 : decode cX4_planCost 57 = .ok (.iload_n 1, 1) := by decide +kernel
theorem dX4_planCost_58 : decode cX4_planCost 58 = .ok (.aload_n 0, 1) := by decide +kernel
theorem dX4_planCost_59 : decode cX4_planCost 59 = .ok (.getfield 35, 3) := by decide +kernel
theorem dX4_planCost_62 : decode cX4_planCost 62 = .ok (.aload 4, 2) := by decide +kernel
theorem dX4_planCost_64 : decode cX4_planCost 64 = .ok (.invokevirtual 187, 3) := by decide +kernel
theorem dX4_planCost_67 : decode cX4_planCost 67 = .ok (.iadd, 1) := by decide +kernel
theorem dX4_planCost_68 : decode cX4_planCost 68 = .ok (.istore_n 1, 1) := by decide +kernel
theorem dX4_planCost_69 : decode cX4_planCost 69 = .ok (.aload_n 0, 1) := by decide +kernel
theorem dX4_planCost_70 : decode cX4_planCost 70 = .ok (.aload 4, 2) := by decide +kernel
theorem dX4_planCost_72 : decode cX4_planCost 72 = .ok (.iload_n 3, 1) := by decide +kernel
theorem dX4_planCost_73 : decode cX4_planCost 73 = .ok (.invokevirtual 183, 3) := by decide +kernel
theorem dX4_planCost_76 : decode cX4_planCost 76 = .ok (.ifCond .ne 6, 3) := by decide +kernel
theorem dX4_planCost_79 : decode cX4_planCost 79 = .ok (.iinc 1 20, 3) := by decide +kernel
theorem dX4_planCost_82 : decode cX4_planCost 82 = .ok (.iinc 3 1, 3) := by decide +kernel
theorem dX4_planCost_85 : decode cX4_planCost 85 = .ok (.goto (-62), 3) := by decide +kernel
theorem dX4_planCost_88 : decode cX4_planCost 88 = .ok (.iload_n 1, 1) := by decide +kernel
theorem dX4_planCost_89 : decode cX4_planCost 89 = .ok (.ireturn, 1) := by decide +kernel
theorem dX4_costAfterSwap_0 : decode cX4_costAfterSwap 0 = .ok (.aload_n 0, 1) := by decide +kernel
theorem dX4_costAfterSwap_1 : decode cX4_costAfterSwap 1 = .ok (.iload_n 1, 1) := by decide +kernel
theorem dX4_costAfterSwap_2 : decode cX4_costAfterSwap 2 = .ok (.iload_n 2, 1) := by decide +kernel
theorem dX4_costAfterSwap_3 : decode cX4_costAfterSwap 3 = .ok (.invokevirtual 133, 3) := by decide +kernel
theorem dX4_costAfterSwap_6 : decode cX4_costAfterSwap 6 = .ok (.aload_n 0, 1) := by decide +kernel
theorem dX4_costAfterSwap_7 : decode cX4_costAfterSwap 7 = .ok (.invokevirtual 137, 3) := by decide +kernel
theorem dX4_costAfterSwap_10 : decode cX4_costAfterSwap 10 = .ok (.istore_n 3, 1) := by decide +kernel
theorem dX4_costAfterSwap_11 : decode cX4_costAfterSwap 11 = .ok (.aload_n 0, 1) := by decide +kernel
theorem dX4_costAfterSwap_12 : decode cX4_costAfterSwap 12 = .ok (.iload_n 1, 1) := by decide +kernel
theorem dX4_costAfterSwap_13 : decode cX4_costAfterSwap 13 = .ok (.iload_n 2, 1) := by decide +kernel
theorem dX4_costAfterSwap_14 : decode cX4_costAfterSwap 14 = .ok (.invokevirtual 133, 3) := by decide +kernel
theorem dX4_costAfterSwap_17 : decode cX4_costAfterSwap 17 = .ok (.iload_n 3, 1) := by decide +kernel
theorem dX4_costAfterSwap_18 : decode cX4_costAfterSwap 18 = .ok (.ireturn, 1) := by decide +kernel
theorem dX4_mendingDay_0 : decode cX4_mendingDay 0 = .ok (.iconst (-1), 1) := by decide +kernel
theorem dX4_mendingDay_1 : decode cX4_mendingDay 1 = .ok (.istore_n 2, 1) := by decide +kernel
theorem dX4_mendingDay_2 : decode cX4_mendingDay 2 = .ok (.iconst 0, 1) := by decide +kernel
theorem dX4_mendingDay_3 : decode cX4_mendingDay 3 = .ok (.istore_n 3, 1) := by decide +kernel
theorem dX4_mendingDay_4 : decode cX4_mendingDay 4 = .ok (.aload_n 0, 1) := by decide +kernel
theorem dX4_mendingDay_5 : decode cX4_mendingDay 5 = .ok (.getfield 52, 3) := by decide +kernel
theorem dX4_mendingDay_8 : decode cX4_mendingDay 8 = .ok (.istore 4, 2) := by decide +kernel
theorem dX4_mendingDay_10 : decode cX4_mendingDay 10 = .ok (.iload 4, 2) := by decide +kernel
theorem dX4_mendingDay_12 : decode cX4_mendingDay 12 = .ok (.bipush 30, 2) := by decide +kernel
theorem dX4_mendingDay_14 : decode cX4_mendingDay 14 = .ok (.if_icmp .ge 54, 3) := by decide +kernel
theorem dX4_mendingDay_17 : decode cX4_mendingDay 17 = .ok (.iload 4, 2) := by decide +kernel
theorem dX4_mendingDay_19 : decode cX4_mendingDay 19 = .ok (.iload_n 1, 1) := by decide +kernel
theorem dX4_mendingDay_20 : decode cX4_mendingDay 20 = .ok (.if_icmp .eq 42, 3) := by decide +kernel
theorem dX4_mendingDay_23 : decode cX4_mendingDay 23 = .ok (.aload_n 0, 1) := by decide +kernel
theorem dX4_mendingDay_24 : decode cX4_mendingDay 24 = .ok (.iload_n 1, 1) := by decide +kernel
theorem dX4_mendingDay_25 : decode cX4_mendingDay 25 = .ok (.iload 4, 2) := by decide +kernel
theorem dX4_mendingDay_27 : decode cX4_mendingDay 27 = .ok (.invokevirtual 265, 3) := by decide +kernel
theorem dX4_mendingDay_30 : decode cX4_mendingDay 30 = .ok (.ifCond .ne 6, 3) := by decide +kernel
theorem dX4_mendingDay_33 : decode cX4_mendingDay 33 = .ok (.goto 29, 3) := by decide +kernel
theorem dX4_mendingDay_36 : decode cX4_mendingDay 36 = .ok (.aload_n 0, 1) := by decide +kernel
theorem dX4_mendingDay_37 : decode cX4_mendingDay 37 = .ok (.iload_n 1, 1) := by decide +kernel
theorem dX4_mendingDay_38 : decode cX4_mendingDay 38 = .ok (.iload 4, 2) := by decide +kernel
theorem dX4_mendingDay_40 : decode cX4_mendingDay 40 = .ok (.invokevirtual 268, 3) := by decide +kernel
theorem dX4_mendingDay_43 : decode cX4_mendingDay 43 = .ok (.istore 5, 2) := by decide +kernel
theorem dX4_mendingDay_45 : decode cX4_mendingDay 45 = .ok (.iload_n 2, 1) := by decide +kernel
theorem dX4_mendingDay_46 : decode cX4_mendingDay 46 = .ok (.iconst (-1), 1) := by decide +kernel
theorem dX4_mendingDay_47 : decode cX4_mendingDay 47 = .ok (.if_icmp .eq 9, 3) := by decide +kernel
theorem dX4_mendingDay_50 : decode cX4_mendingDay 50 = .ok (.iload 5, 2) := by decide +kernel
theorem dX4_mendingDay_52 : decode cX4_mendingDay 52 = .ok (.iload_n 3, 1) := by decide +kernel
theorem dX4_mendingDay_53 : decode cX4_mendingDay 53 = .ok (.if_icmp .ge 9, 3) := by decide +kernel
theorem dX4_mendingDay_56 : decode cX4_mendingDay 56 = .ok (.iload 4, 2) := by decide +kernel
theorem dX4_mendingDay_58 : decode cX4_mendingDay 58 = .ok (.istore_n 2, 1) := by decide +kernel
theorem dX4_mendingDay_59 : decode cX4_mendingDay 59 = .ok (.iload 5, 2) := by decide +kernel
theorem dX4_mendingDay_61 : decode cX4_mendingDay 61 = .ok (.istore_n 3, 1) := by decide +kernel
theorem dX4_mendingDay_62 : decode cX4_mendingDay 62 = .ok (.iinc 4 1, 3) := by decide +kernel
theorem dX4_mendingDay_65 : decode cX4_mendingDay 65 = .ok (.goto (-55), 3) := by decide +kernel
theorem dX4_mendingDay_68 : decode cX4_mendingDay 68 = .ok (.iload_n 2, 1) := by decide +kernel
theorem dX4_mendingDay_69 : decode cX4_mendingDay 69 = .ok (.ireturn, 1) := by decide +kernel
theorem dX4_wouldMend_0 : decode cX4_wouldMend 0 = .ok (.aload_n 0, 1) := by decide +kernel
theorem dX4_wouldMend_1 : decode cX4_wouldMend 1 = .ok (.aload_n 0, 1) := by decide +kernel
theorem dX4_wouldMend_2 : decode cX4_wouldMend 2 = .ok (.getfield 15, 3) := by decide +kernel
theorem dX4_wouldMend_5 : decode cX4_wouldMend 5 = .ok (.iload_n 1, 1) := by decide +kernel
theorem dX4_wouldMend_6 : decode cX4_wouldMend 6 = .ok (.aaload, 1) := by decide +kernel
theorem dX4_wouldMend_7 : decode cX4_wouldMend 7 = .ok (.iload_n 2, 1) := by decide +kernel
theorem dX4_wouldMend_8 : decode cX4_wouldMend 8 = .ok (.invokevirtual 271, 3) := by decide +kernel
theorem dX4_wouldMend_11 : decode cX4_wouldMend 11 = .ok (.ifCond .eq 21, 3) := by decide +kernel
theorem dX4_wouldMend_14 : decode cX4_wouldMend 14 = .ok (.aload_n 0, 1) := by decide +kernel
theorem dX4_wouldMend_15 : decode cX4_wouldMend 15 = .ok (.aload_n 0, 1) := by decide +kernel
theorem dX4_wouldMend_16 : decode cX4_wouldMend 16 = .ok (.getfield 15, 3) := by decide +kernel
theorem dX4_wouldMend_19 : decode cX4_wouldMend 19 = .ok (.iload_n 2, 1) := by decide +kernel
theorem dX4_wouldMend_20 : decode cX4_wouldMend 20 = .ok (.aaload, 1) := by decide +kernel
theorem dX4_wouldMend_21 : decode cX4_wouldMend 21 = .ok (.iload_n 1, 1) := by decide +kernel
theorem dX4_wouldMend_22 : decode cX4_wouldMend 22 = .ok (.invokevirtual 271, 3) := by decide +kernel
theorem dX4_wouldMend_25 : decode cX4_wouldMend 25 = .ok (.ifCond .eq 7, 3) := by decide +kernel
theorem dX4_wouldMend_28 : decode cX4_wouldMend 28 = .ok (.iconst 1, 1) := by decide +kernel
theorem dX4_wouldMend_29 : decode cX4_wouldMend 29 = .ok (.goto 4, 3) := by decide +kernel
theorem dX4_wouldMend_32 : decode cX4_wouldMend 32 = .ok (.iconst 0, 1) := by decide +kernel
theorem dX4_wouldMend_33 : decode cX4_wouldMend 33 = .ok (.ireturn, 1) := by decide +kernel
theorem dX4_isFree_0 : decode cX4_isFree 0 = .ok (.aload_n 1, 1) := by decide +kernel
theorem dX4_isFree_1 : decode cX4_isFree 1 = .ok (.ifnull 12, 3) := by decide +kernel
theorem dX4_isFree_4 : decode cX4_isFree 4 = .ok (.aload_n 0, 1) := by decide +kernel
theorem dX4_isFree_5 : decode cX4_isFree 5 = .ok (.aload_n 1, 1) := by decide +kernel
theorem dX4_isFree_6 : decode cX4_isFree 6 = .ok (.iload_n 2, 1) := by decide +kernel
theorem dX4_isFree_7 : decode cX4_isFree 7 = .ok (.invokevirtual 183, 3) := by decide +kernel
theorem dX4_isFree_10 : decode cX4_isFree 10 = .ok (.ifCond .eq 7, 3) := by decide +kernel
theorem dX4_isFree_13 : decode cX4_isFree 13 = .ok (.iconst 1, 1) := by decide +kernel
theorem dX4_isFree_14 : decode cX4_isFree 14 = .ok (.goto 4, 3) := by decide +kernel
theorem dX4_isFree_17 : decode cX4_isFree 17 = .ok (.iconst 0, 1) := by decide +kernel
theorem dX4_isFree_18 : decode cX4_isFree 18 = .ok (.ireturn, 1) := by decide +kernel
theorem dX4_makeBestSwap_0 : decode cX4_makeBestSwap 0 = .ok (.aload_n 0, 1) := by decide +kernel
theorem dX4_makeBestSwap_1 : decode cX4_makeBestSwap 1 = .ok (.invokevirtual 137, 3) := by decide +kernel
theorem dX4_makeBestSwap_4 : decode cX4_makeBestSwap 4 = .ok (.istore_n 1, 1) := by decide +kernel
theorem dX4_makeBestSwap_5 : decode cX4_makeBestSwap 5 = .ok (.iconst (-1), 1) := by decide +kernel
theorem dX4_makeBestSwap_6 : decode cX4_makeBestSwap 6 = .ok (.istore_n 2, 1) := by decide +kernel
theorem dX4_makeBestSwap_7 : decode cX4_makeBestSwap 7 = .ok (.iconst (-1), 1) := by decide +kernel
theorem dX4_makeBestSwap_8 : decode cX4_makeBestSwap 8 = .ok (.istore_n 3, 1) := by decide +kernel
theorem dX4_makeBestSwap_9 : decode cX4_makeBestSwap 9 = .ok (.aload_n 0, 1) := by decide +kernel
theorem dX4_makeBestSwap_10 : decode cX4_makeBestSwap 10 = .ok (.getfield 52, 3) := by decide +kernel
theorem dX4_makeBestSwap_13 : decode cX4_makeBestSwap 13 = .ok (.istore 4, 2) := by decide +kernel
theorem dX4_makeBestSwap_15 : decode cX4_makeBestSwap 15 = .ok (.iload 4, 2) := by decide +kernel
theorem dX4_makeBestSwap_17 : decode cX4_makeBestSwap 17 = .ok (.bipush 30, 2) := by decide +kernel
theorem dX4_makeBestSwap_19 : decode cX4_makeBestSwap 19 = .ok (.if_icmp .ge 76, 3) := by decide +kernel
theorem dX4_makeBestSwap_22 : decode cX4_makeBestSwap 22 = .ok (.iload 4, 2) := by decide +kernel
theorem dX4_makeBestSwap_24 : decode cX4_makeBestSwap 24 = .ok (.iconst 1, 1) := by decide +kernel
theorem dX4_makeBestSwap_25 : decode cX4_makeBestSwap 25 = .ok (.iadd, 1) := by decide +kernel
theorem dX4_makeBestSwap_26 : decode cX4_makeBestSwap 26 = .ok (.istore 5, 2) := by decide +kernel
theorem dX4_makeBestSwap_28 : decode cX4_makeBestSwap 28 = .ok (.iload 5, 2) := by decide +kernel
theorem dX4_makeBestSwap_30 : decode cX4_makeBestSwap 30 = .ok (.bipush 30, 2) := by decide +kernel
theorem dX4_makeBestSwap_32 : decode cX4_makeBestSwap 32 = .ok (.if_icmp .ge 57, 3) := by decide +kernel
theorem dX4_makeBestSwap_35 : decode cX4_makeBestSwap 35 = .ok (.aload_n 0, 1) := by decide +kernel
theorem dX4_makeBestSwap_36 : decode cX4_makeBestSwap 36 = .ok (.getfield 15, 3) := by decide +kernel
theorem dX4_makeBestSwap_39 : decode cX4_makeBestSwap 39 = .ok (.iload 4, 2) := by decide +kernel
theorem dX4_makeBestSwap_41 : decode cX4_makeBestSwap 41 = .ok (.aaload, 1) := by decide +kernel
theorem dX4_makeBestSwap_42 : decode cX4_makeBestSwap 42 = .ok (.ifnonnull 16, 3) := by decide +kernel
theorem dX4_makeBestSwap_45 : decode cX4_makeBestSwap 45 = .ok (.aload_n 0, 1) := by decide +kernel
theorem dX4_makeBestSwap_46 : decode cX4_makeBestSwap 46 = .ok (.getfield 15, 3) := by decide +kernel
theorem dX4_makeBestSwap_49 : decode cX4_makeBestSwap 49 = .ok (.iload 5, 2) := by decide +kernel
theorem dX4_makeBestSwap_51 : decode cX4_makeBestSwap 51 = .ok (.aaload, 1) := by decide +kernel
theorem dX4_makeBestSwap_52 : decode cX4_makeBestSwap 52 = .ok (.ifnonnull 6, 3) := by decide +kernel
theorem dX4_makeBestSwap_55 : decode cX4_makeBestSwap 55 = .ok (.goto 28, 3) := by decide +kernel
theorem dX4_makeBestSwap_58 : decode cX4_makeBestSwap 58 = .ok (.aload_n 0, 1) := by decide +kernel
theorem dX4_makeBestSwap_59 : decode cX4_makeBestSwap 59 = .ok (.iload 4, 2) := by decide +kernel
theorem dX4_makeBestSwap_61 : decode cX4_makeBestSwap 61 = .ok (.iload 5, 2) := by decide +kernel
theorem dX4_makeBestSwap_63 : decode cX4_makeBestSwap 63 = .ok (.invokevirtual 268, 3) := by decide +kernel
theorem dX4_makeBestSwap_66 : decode cX4_makeBestSwap 66 = .ok (.istore 6, 2) := by decide +kernel
theorem dX4_makeBestSwap_68 : decode cX4_makeBestSwap 68 = .ok (.iload 6, 2) := by decide +kernel
theorem dX4_makeBestSwap_70 : decode cX4_makeBestSwap 70 = .ok (.iload_n 1, 1) := by decide +kernel
theorem dX4_makeBestSwap_71 : decode cX4_makeBestSwap 71 = .ok (.if_icmp .ge 12, 3) := by decide +kernel
theorem dX4_makeBestSwap_74 : decode cX4_makeBestSwap 74 = .ok (.iload 6, 2) := by decide +kernel
theorem dX4_makeBestSwap_76 : decode cX4_makeBestSwap 76 = .ok (.istore_n 1, 1) := by decide +kernel
theorem dX4_makeBestSwap_77 : decode cX4_makeBestSwap 77 = .ok (.iload 4, 2) := by decide +kernel
theorem dX4_makeBestSwap_79 : decode cX4_makeBestSwap 79 = .ok (.istore_n 2, 1) := by decide +kernel
theorem dX4_makeBestSwap_80 : decode cX4_makeBestSwap 80 = .ok (.iload 5, 2) := by decide +kernel
theorem dX4_makeBestSwap_82 : decode cX4_makeBestSwap 82 = .ok (.istore_n 3, 1) := by decide +kernel
theorem dX4_makeBestSwap_83 : decode cX4_makeBestSwap 83 = .ok (.iinc 5 1, 3) := by decide +kernel
theorem dX4_makeBestSwap_86 : decode cX4_makeBestSwap 86 = .ok (.goto (-58), 3) := by decide +kernel
theorem dX4_makeBestSwap_89 : decode cX4_makeBestSwap 89 = .ok (.iinc 4 1, 3) := by decide +kernel
theorem dX4_makeBestSwap_92 : decode cX4_makeBestSwap 92 = .ok (.goto (-77), 3) := by decide +kernel
theorem dX4_makeBestSwap_95 : decode cX4_makeBestSwap 95 = .ok (.aload_n 0, 1) := by decide +kernel
theorem dX4_makeBestSwap_96 : decode cX4_makeBestSwap 96 = .ok (.iload_n 2, 1) := by decide +kernel
theorem dX4_makeBestSwap_97 : decode cX4_makeBestSwap 97 = .ok (.iload_n 3, 1) := by decide +kernel
theorem dX4_makeBestSwap_98 : decode cX4_makeBestSwap 98 = .ok (.invokevirtual 133, 3) := by decide +kernel
theorem dX4_makeBestSwap_101 : decode cX4_makeBestSwap 101 = .ok (.iload_n 2, 1) := by decide +kernel
theorem dX4_makeBestSwap_102 : decode cX4_makeBestSwap 102 = .ok (.iconst (-1), 1) := by decide +kernel
theorem dX4_makeBestSwap_103 : decode cX4_makeBestSwap 103 = .ok (.if_icmp .eq 7, 3) := by decide +kernel
theorem dX4_makeBestSwap_106 : decode cX4_makeBestSwap 106 = .ok (.iconst 1, 1) := by decide +kernel
theorem dX4_makeBestSwap_107 : decode cX4_makeBestSwap 107 = .ok (.goto 4, 3) := by decide +kernel
theorem dX4_makeBestSwap_110 : decode cX4_makeBestSwap 110 = .ok (.iconst 0, 1) := by decide +kernel
theorem dX4_makeBestSwap_111 : decode cX4_makeBestSwap 111 = .ok (.ireturn, 1) := by decide +kernel
theorem dX4_countRefused_0 : decode cX4_countRefused 0 = .ok (.iconst 0, 1) := by decide +kernel
theorem dX4_countRefused_1 : decode cX4_countRefused 1 = .ok (.istore_n 1, 1) := by decide +kernel
theorem dX4_countRefused_2 : decode cX4_countRefused 2 = .ok (.aload_n 0, 1) := by decide +kernel
theorem dX4_countRefused_3 : decode cX4_countRefused 3 = .ok (.getfield 52, 3) := by decide +kernel
theorem dX4_countRefused_6 : decode cX4_countRefused 6 = .ok (.istore_n 2, 1) := by decide +kernel
theorem dX4_countRefused_7 : decode cX4_countRefused 7 = .ok (.iload_n 2, 1) := by decide +kernel
theorem dX4_countRefused_8 : decode cX4_countRefused 8 = .ok (.bipush 30, 2) := by decide +kernel
theorem dX4_countRefused_10 : decode cX4_countRefused 10 = .ok (.if_icmp .ge 20, 3) := by decide +kernel
theorem dX4_countRefused_13 : decode cX4_countRefused 13 = .ok (.aload_n 0, 1) := by decide +kernel
theorem dX4_countRefused_14 : decode cX4_countRefused 14 = .ok (.iload_n 2, 1) := by decide +kernel
theorem dX4_countRefused_15 : decode cX4_countRefused 15 = .ok (.invokevirtual 199, 3) := by decide +kernel
theorem dX4_countRefused_18 : decode cX4_countRefused 18 = .ok (.ifCond .eq 6, 3) := by decide +kernel
theorem dX4_countRefused_21 : decode cX4_countRefused 21 = .ok (.iinc 1 1, 3) := by decide +kernel
theorem dX4_countRefused_24 : decode cX4_countRefused 24 = .ok (.iinc 2 1, 3) := by decide +kernel
theorem dX4_countRefused_27 : decode cX4_countRefused 27 = .ok (.goto (-20), 3) := by decide +kernel
theorem dX4_countRefused_30 : decode cX4_countRefused 30 = .ok (.iload_n 1, 1) := by decide +kernel
theorem dX4_countRefused_31 : decode cX4_countRefused 31 = .ok (.ireturn, 1) := by decide +kernel
theorem dX4_isRefusedOn_0 : decode cX4_isRefusedOn 0 = .ok (.aload_n 0, 1) := by decide +kernel
theorem dX4_isRefusedOn_1 : decode cX4_isRefusedOn 1 = .ok (.aload_n 0, 1) := by decide +kernel
theorem dX4_isRefusedOn_2 : decode cX4_isRefusedOn 2 = .ok (.getfield 15, 3) := by decide +kernel
theorem dX4_isRefusedOn_5 : decode cX4_isRefusedOn 5 = .ok (.iload_n 1, 1) := by decide +kernel
theorem dX4_isRefusedOn_6 : decode cX4_isRefusedOn 6 = .ok (.aaload, 1) := by decide +kernel
theorem dX4_isRefusedOn_7 : decode cX4_isRefusedOn 7 = .ok (.iload_n 1, 1) := by decide +kernel
theorem dX4_isRefusedOn_8 : decode cX4_isRefusedOn 8 = .ok (.invokevirtual 271, 3) := by decide +kernel
theorem dX4_isRefusedOn_11 : decode cX4_isRefusedOn 11 = .ok (.ifCond .ne 7, 3) := by decide +kernel
theorem dX4_isRefusedOn_14 : decode cX4_isRefusedOn 14 = .ok (.iconst 1, 1) := by decide +kernel
theorem dX4_isRefusedOn_15 : decode cX4_isRefusedOn 15 = .ok (.goto 4, 3) := by decide +kernel
theorem dX4_isRefusedOn_18 : decode cX4_isRefusedOn 18 = .ok (.iconst 0, 1) := by decide +kernel
theorem dX4_isRefusedOn_19 : decode cX4_isRefusedOn 19 = .ok (.ireturn, 1) := by decide +kernel
theorem dX4_allows_0 : decode cX4_allows 0 = .ok (.aload_n 0, 1) := by decide +kernel
theorem dX4_allows_1 : decode cX4_allows 1 = .ok (.aload_n 1, 1) := by decide +kernel
theorem dX4_allows_2 : decode cX4_allows 2 = .ok (.iload_n 2, 1) := by decide +kernel
theorem dX4_allows_3 : decode cX4_allows 3 = .ok (.invokevirtual 274, 3) := by decide +kernel
theorem dX4_allows_6 : decode cX4_allows 6 = .ok (.ifCond .eq 16, 3) := by decide +kernel
theorem dX4_allows_9 : decode cX4_allows 9 = .ok (.aload_n 0, 1) := by decide +kernel
theorem dX4_allows_10 : decode cX4_allows 10 = .ok (.aload_n 1, 1) := by decide +kernel
theorem dX4_allows_11 : decode cX4_allows 11 = .ok (.iload_n 2, 1) := by decide +kernel
theorem dX4_allows_12 : decode cX4_allows 12 = .ok (.invokevirtual 277, 3) := by decide +kernel
theorem dX4_allows_15 : decode cX4_allows 15 = .ok (.ifCond .eq 7, 3) := by decide +kernel
theorem dX4_allows_18 : decode cX4_allows 18 = .ok (.iconst 1, 1) := by decide +kernel
theorem dX4_allows_19 : decode cX4_allows 19 = .ok (.goto 4, 3) := by decide +kernel
theorem dX4_allows_22 : decode cX4_allows 22 = .ok (.iconst 0, 1) := by decide +kernel
theorem dX4_allows_23 : decode cX4_allows 23 = .ok (.ireturn, 1) := by decide +kernel
theorem dX4_isPermitted_0 : decode cX4_isPermitted 0 = .ok (.aload_n 1, 1) := by decide +kernel
theorem dX4_isPermitted_1 : decode cX4_isPermitted 1 = .ok (.getfield 280, 3) := by decide +kernel
theorem dX4_isPermitted_4 : decode cX4_isPermitted 4 = .ok (.ifCond .ne 5, 3) := by decide +kernel
theorem dX4_isPermitted_7 : decode cX4_isPermitted 7 = .ok (.iconst 1, 1) := by decide +kernel
theorem dX4_isPermitted_8 : decode cX4_isPermitted 8 = .ok (.ireturn, 1) := by decide +kernel
theorem dX4_isPermitted_9 : decode cX4_isPermitted 9 = .ok (.aload_n 0, 1) := by decide +kernel
theorem dX4_isPermitted_10 : decode cX4_isPermitted 10 = .ok (.getfield 20, 3) := by decide +kernel
theorem dX4_isPermitted_13 : decode cX4_isPermitted 13 = .ok (.astore_n 3, 1) := by decide +kernel
theorem dX4_isPermitted_14 : decode cX4_isPermitted 14 = .ok (.aload_n 3, 1) := by decide +kernel
theorem dX4_isPermitted_15 : decode cX4_isPermitted 15 = .ok (.arraylength, 1) := by decide +kernel
theorem dX4_isPermitted_16 : decode cX4_isPermitted 16 = .ok (.istore 4, 2) := by decide +kernel
theorem dX4_isPermitted_18 : decode cX4_isPermitted 18 = .ok (.iconst 0, 1) := by decide +kernel
theorem dX4_isPermitted_19 : decode cX4_isPermitted 19 = .ok (.istore 5, 2) := by decide +kernel
theorem dX4_isPermitted_21 : decode cX4_isPermitted 21 = .ok (.iload 5, 2) := by decide +kernel
theorem dX4_isPermitted_23 : decode cX4_isPermitted 23 = .ok (.iload 4, 2) := by decide +kernel
theorem dX4_isPermitted_25 : decode cX4_isPermitted 25 = .ok (.if_icmp .ge 32, 3) := by decide +kernel
theorem dX4_isPermitted_28 : decode cX4_isPermitted 28 = .ok (.aload_n 3, 1) := by decide +kernel
theorem dX4_isPermitted_29 : decode cX4_isPermitted 29 = .ok (.iload 5, 2) := by decide +kernel
theorem dX4_isPermitted_31 : decode cX4_isPermitted 31 = .ok (.aaload, 1) := by decide +kernel
theorem dX4_isPermitted_32 : decode cX4_isPermitted 32 = .ok (.astore 6, 2) := by decide +kernel
theorem dX4_isPermitted_34 : decode cX4_isPermitted 34 = .ok (.aload 6, 2) := by decide +kernel
theorem dX4_isPermitted_36 : decode cX4_isPermitted 36 = .ok (.ifnull 15, 3) := by decide +kernel
theorem dX4_isPermitted_39 : decode cX4_isPermitted 39 = .ok (.aload 6, 2) := by decide +kernel
theorem dX4_isPermitted_41 : decode cX4_isPermitted 41 = .ok (.aload_n 1, 1) := by decide +kernel
theorem dX4_isPermitted_42 : decode cX4_isPermitted 42 = .ok (.iload_n 2, 1) := by decide +kernel
theorem dX4_isPermitted_43 : decode cX4_isPermitted 43 = .ok (.invokevirtual 283, 3) := by decide +kernel
theorem dX4_isPermitted_46 : decode cX4_isPermitted 46 = .ok (.ifCond .eq 5, 3) := by decide +kernel
theorem dX4_isPermitted_49 : decode cX4_isPermitted 49 = .ok (.iconst 1, 1) := by decide +kernel
theorem dX4_isPermitted_50 : decode cX4_isPermitted 50 = .ok (.ireturn, 1) := by decide +kernel
theorem dX4_isPermitted_51 : decode cX4_isPermitted 51 = .ok (.iinc 5 1, 3) := by decide +kernel
theorem dX4_isPermitted_54 : decode cX4_isPermitted 54 = .ok (.goto (-33), 3) := by decide +kernel
theorem dX4_isPermitted_57 : decode cX4_isPermitted 57 = .ok (.iconst 0, 1) := by decide +kernel
theorem dX4_isPermitted_58 : decode cX4_isPermitted 58 = .ok (.ireturn, 1) := by decide +kernel
theorem dX4_isCastThere_0 : decode cX4_isCastThere 0 = .ok (.iconst 0, 1) := by decide +kernel
theorem dX4_isCastThere_1 : decode cX4_isCastThere 1 = .ok (.istore_n 3, 1) := by decide +kernel
theorem dX4_isCastThere_2 : decode cX4_isCastThere 2 = .ok (.iload_n 3, 1) := by decide +kernel
theorem dX4_isCastThere_3 : decode cX4_isCastThere 3 = .ok (.iconst 5, 1) := by decide +kernel
theorem dX4_isCastThere_4 : decode cX4_isCastThere 4 = .ok (.if_icmp .ge 31, 3) := by decide +kernel
theorem dX4_isCastThere_7 : decode cX4_isCastThere 7 = .ok (.aload_n 1, 1) := by decide +kernel
theorem dX4_isCastThere_8 : decode cX4_isCastThere 8 = .ok (.getfield 94, 3) := by decide +kernel
theorem dX4_isCastThere_11 : decode cX4_isCastThere 11 = .ok (.iload_n 3, 1) := by decide +kernel
theorem dX4_isCastThere_12 : decode cX4_isCastThere 12 = .ok (.iaload, 1) := by decide +kernel
theorem dX4_isCastThere_13 : decode cX4_isCastThere 13 = .ok (.bipush (-2), 2) := by decide +kernel
theorem dX4_isCastThere_15 : decode cX4_isCastThere 15 = .ok (.if_icmp .eq 14, 3) := by decide +kernel
theorem dX4_isCastThere_18 : decode cX4_isCastThere 18 = .ok (.aload_n 0, 1) := by decide +kernel
theorem dX4_isCastThere_19 : decode cX4_isCastThere 19 = .ok (.iload_n 3, 1) := by decide +kernel
theorem dX4_isCastThere_20 : decode cX4_isCastThere 20 = .ok (.iload_n 2, 1) := by decide +kernel
theorem dX4_isCastThere_21 : decode cX4_isCastThere 21 = .ok (.invokevirtual 163, 3) := by decide +kernel
theorem dX4_isCastThere_24 : decode cX4_isCastThere 24 = .ok (.ifCond .eq 5, 3) := by decide +kernel
theorem dX4_isCastThere_27 : decode cX4_isCastThere 27 = .ok (.iconst 0, 1) := by decide +kernel
theorem dX4_isCastThere_28 : decode cX4_isCastThere 28 = .ok (.ireturn, 1) := by decide +kernel
theorem dX4_isCastThere_29 : decode cX4_isCastThere 29 = .ok (.iinc 3 1, 3) := by decide +kernel
theorem dX4_isCastThere_32 : decode cX4_isCastThere 32 = .ok (.goto (-30), 3) := by decide +kernel
theorem dX4_isCastThere_35 : decode cX4_isCastThere 35 = .ok (.iconst 1, 1) := by decide +kernel
theorem dX4_isCastThere_36 : decode cX4_isCastThere 36 = .ok (.ireturn, 1) := by decide +kernel
theorem dX4_isAwayOn_0 : decode cX4_isAwayOn 0 = .ok (.aload_n 0, 1) := by decide +kernel
theorem dX4_isAwayOn_1 : decode cX4_isAwayOn 1 = .ok (.getfield 24, 3) := by decide +kernel
theorem dX4_isAwayOn_4 : decode cX4_isAwayOn 4 = .ok (.iload_n 1, 1) := by decide +kernel
theorem dX4_isAwayOn_5 : decode cX4_isAwayOn 5 = .ok (.iaload, 1) := by decide +kernel
theorem dX4_isAwayOn_6 : decode cX4_isAwayOn 6 = .ok (.iload_n 2, 1) := by decide +kernel
theorem dX4_isAwayOn_7 : decode cX4_isAwayOn 7 = .ok (.ishr, 1) := by decide +kernel
theorem dX4_isAwayOn_8 : decode cX4_isAwayOn 8 = .ok (.iconst 1, 1) := by decide +kernel
theorem dX4_isAwayOn_9 : decode cX4_isAwayOn 9 = .ok (.iand, 1) := by decide +kernel
theorem dX4_isAwayOn_10 : decode cX4_isAwayOn 10 = .ok (.ifCond .eq 7, 3) := by decide +kernel
theorem dX4_isAwayOn_13 : decode cX4_isAwayOn 13 = .ok (.iconst 1, 1) := by decide +kernel
theorem dX4_isAwayOn_14 : decode cX4_isAwayOn 14 = .ok (.goto 4, 3) := by decide +kernel
theorem dX4_isAwayOn_17 : decode cX4_isAwayOn 17 = .ok (.iconst 0, 1) := by decide +kernel
theorem dX4_isAwayOn_18 : decode cX4_isAwayOn 18 = .ok (.ireturn, 1) := by decide +kernel
theorem dJ9_min_7cf53_0 : decode cJ9_min_7cf53 0 = .ok (.iload_n 0, 1) := by decide +kernel
theorem dJ9_min_7cf53_1 : decode cJ9_min_7cf53 1 = .ok (.iload_n 1, 1) := by decide +kernel
theorem dJ9_min_7cf53_2 : decode cJ9_min_7cf53 2 = .ok (.if_icmp .gt 7, 3) := by decide +kernel
theorem dJ9_min_7cf53_5 : decode cJ9_min_7cf53 5 = .ok (.iload_n 0, 1) := by decide +kernel
theorem dJ9_min_7cf53_6 : decode cJ9_min_7cf53 6 = .ok (.goto 4, 3) := by decide +kernel
theorem dJ9_min_7cf53_9 : decode cJ9_min_7cf53 9 = .ok (.iload_n 1, 1) := by decide +kernel
theorem dJ9_min_7cf53_10 : decode cJ9_min_7cf53 10 = .ok (.ireturn, 1) := by decide +kernel
theorem dJ7_fill_53178_0 : decode cJ7_fill_53178 0 = .ok (.iconst 0, 1) := by decide +kernel
theorem dJ7_fill_53178_1 : decode cJ7_fill_53178 1 = .ok (.istore_n 2, 1) := by decide +kernel
theorem dJ7_fill_53178_2 : decode cJ7_fill_53178 2 = .ok (.aload_n 0, 1) := by decide +kernel
theorem dJ7_fill_53178_3 : decode cJ7_fill_53178 3 = .ok (.arraylength, 1) := by decide +kernel
theorem dJ7_fill_53178_4 : decode cJ7_fill_53178 4 = .ok (.istore_n 3, 1) := by decide +kernel
theorem dJ7_fill_53178_5 : decode cJ7_fill_53178 5 = .ok (.iload_n 2, 1) := by decide +kernel
theorem dJ7_fill_53178_6 : decode cJ7_fill_53178 6 = .ok (.iload_n 3, 1) := by decide +kernel
theorem dJ7_fill_53178_7 : decode cJ7_fill_53178 7 = .ok (.if_icmp .ge 13, 3) := by decide +kernel
theorem dJ7_fill_53178_10 : decode cJ7_fill_53178 10 = .ok (.aload_n 0, 1) := by decide +kernel
theorem dJ7_fill_53178_11 : decode cJ7_fill_53178 11 = .ok (.iload_n 2, 1) := by decide +kernel
theorem dJ7_fill_53178_12 : decode cJ7_fill_53178 12 = .ok (.iload_n 1, 1) := by decide +kernel
theorem dJ7_fill_53178_13 : decode cJ7_fill_53178 13 = .ok (.iastore, 1) := by decide +kernel
theorem dJ7_fill_53178_14 : decode cJ7_fill_53178 14 = .ok (.iinc 2 1, 3) := by decide +kernel
theorem dJ7_fill_53178_17 : decode cJ7_fill_53178 17 = .ok (.goto (-12), 3) := by decide +kernel
theorem dJ7_fill_53178_20 : decode cJ7_fill_53178 20 = .ok (.return_, 1) := by decide +kernel
theorem dL_at_0 : decode cL_at 0 = .ok (.iload_n 1, 1) := by decide +kernel
theorem dL_at_1 : decode cL_at 1 = .ok (.aload_n 0, 1) := by decide +kernel
theorem dL_at_2 : decode cL_at 2 = .ok (.arraylength, 1) := by decide +kernel
theorem dL_at_3 : decode cL_at 3 = .ok (.if_icmp .ge 9, 3) := by decide +kernel
theorem dL_at_6 : decode cL_at 6 = .ok (.aload_n 0, 1) := by decide +kernel
theorem dL_at_7 : decode cL_at 7 = .ok (.iload_n 1, 1) := by decide +kernel
theorem dL_at_8 : decode cL_at 8 = .ok (.iaload, 1) := by decide +kernel
theorem dL_at_9 : decode cL_at 9 = .ok (.goto 12, 3) := by decide +kernel
theorem dL_at_12 : decode cL_at 12 = .ok (.ldc 7, 2) := by decide +kernel
theorem dL_at_14 : decode cL_at 14 = .ok (.iload_n 1, 1) := by decide +kernel
theorem dL_at_15 : decode cL_at 15 = .ok (.iconst 1, 1) := by decide +kernel
theorem dL_at_16 : decode cL_at 16 = .ok (.iadd, 1) := by decide +kernel
theorem dL_at_17 : decode cL_at 17 = .ok (.imul, 1) := by decide +kernel
theorem dL_at_18 : decode cL_at 18 = .ok (.ldc 8, 2) := by decide +kernel
theorem dL_at_20 : decode cL_at 20 = .ok (.iadd, 1) := by decide +kernel
theorem dL_at_21 : decode cL_at 21 = .ok (.ireturn, 1) := by decide +kernel
theorem dL_low_0 : decode cL_low 0 = .ok (.iload_n 0, 1) := by decide +kernel
theorem dL_low_1 : decode cL_low 1 = .ok (.ldc 9, 2) := by decide +kernel
theorem dL_low_3 : decode cL_low 3 = .ok (.iand, 1) := by decide +kernel
theorem dL_low_4 : decode cL_low 4 = .ok (.iload_n 1, 1) := by decide +kernel
theorem dL_low_5 : decode cL_low 5 = .ok (.irem, 1) := by decide +kernel
theorem dL_low_6 : decode cL_low 6 = .ok (.ireturn, 1) := by decide +kernel
theorem dL_scene_0 : decode cL_scene 0 = .ok (.aload_n 0, 1) := by decide +kernel
theorem dL_scene_1 : decode cL_scene 1 = .ok (.iload_n 1, 1) := by decide +kernel
theorem dL_scene_2 : decode cL_scene 2 = .ok (.iload_n 2, 1) := by decide +kernel
theorem dL_scene_3 : decode cL_scene 3 = .ok (.invokevirtual 10, 3) := by decide +kernel
theorem dL_scene_6 : decode cL_scene 6 = .ok (.ireturn, 1) := by decide +kernel
theorem dL_scene_7 : decode cL_scene 7 = .ok (.astore_n 3, 1) := by decide +kernel
theorem dL_scene_8 : decode cL_scene 8 = .ok (.ldc 18, 2) := by decide +kernel
theorem dL_scene_10 : decode cL_scene 10 = .ok (.ireturn, 1) := by decide +kernel
theorem dL_scene_11 : decode cL_scene 11 = .ok (.astore_n 3, 1) := by decide +kernel
theorem dL_scene_12 : decode cL_scene 12 = .ok (.ldc 21, 2) := by decide +kernel
theorem dL_scene_14 : decode cL_scene 14 = .ok (.ireturn, 1) := by decide +kernel
theorem dL_plays_0 : decode cL_plays 0 = .ok (.aload_n 0, 1) := by decide +kernel
theorem dL_plays_1 : decode cL_plays 1 = .ok (.iload_n 1, 1) := by decide +kernel
theorem dL_plays_2 : decode cL_plays 2 = .ok (.iload_n 2, 1) := by decide +kernel
theorem dL_plays_3 : decode cL_plays 3 = .ok (.iload_n 3, 1) := by decide +kernel
theorem dL_plays_4 : decode cL_plays 4 = .ok (.invokevirtual 22, 3) := by decide +kernel
theorem dL_plays_7 : decode cL_plays 7 = .ok (.ireturn, 1) := by decide +kernel
theorem dL_plays_8 : decode cL_plays 8 = .ok (.astore 4, 2) := by decide +kernel
theorem dL_plays_10 : decode cL_plays 10 = .ok (.ldc 28, 2) := by decide +kernel
theorem dL_plays_12 : decode cL_plays 12 = .ok (.ireturn, 1) := by decide +kernel
theorem dL_plays_13 : decode cL_plays 13 = .ok (.astore 4, 2) := by decide +kernel
theorem dL_plays_15 : decode cL_plays 15 = .ok (.ldc 18, 2) := by decide +kernel
theorem dL_plays_17 : decode cL_plays 17 = .ok (.ireturn, 1) := by decide +kernel
theorem dL_plays_18 : decode cL_plays 18 = .ok (.astore 4, 2) := by decide +kernel
theorem dL_plays_20 : decode cL_plays 20 = .ok (.ldc 21, 2) := by decide +kernel
theorem dL_plays_22 : decode cL_plays 22 = .ok (.ireturn, 1) := by decide +kernel
theorem dL_uses_0 : decode cL_uses 0 = .ok (.aload_n 0, 1) := by decide +kernel
theorem dL_uses_1 : decode cL_uses 1 = .ok (.iload_n 1, 1) := by decide +kernel
theorem dL_uses_2 : decode cL_uses 2 = .ok (.iload_n 2, 1) := by decide +kernel
theorem dL_uses_3 : decode cL_uses 3 = .ok (.iload_n 3, 1) := by decide +kernel
theorem dL_uses_4 : decode cL_uses 4 = .ok (.iload 4, 2) := by decide +kernel
theorem dL_uses_6 : decode cL_uses 6 = .ok (.invokevirtual 29, 3) := by decide +kernel
theorem dL_uses_9 : decode cL_uses 9 = .ok (.ireturn, 1) := by decide +kernel
theorem dL_uses_10 : decode cL_uses 10 = .ok (.astore 5, 2) := by decide +kernel
