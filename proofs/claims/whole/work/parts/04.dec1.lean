theorem dX4_sceneNumbered_5 : decode cX4_sceneNumbered 5 = .ok (.aload_n 0, 1) := by decide +kernel
theorem dX4_sceneNumbered_6 : decode cX4_sceneNumbered 6 = .ok (.getfield 11, 3) := by decide +kernel
theorem dX4_sceneNumbered_9 : decode cX4_sceneNumbered 9 = .ok (.arraylength, 1) := by decide +kernel
theorem dX4_sceneNumbered_10 : decode cX4_sceneNumbered 10 = .ok (.if_icmp .ge 12, 3) := by decide +kernel
theorem dX4_sceneNumbered_13 : decode cX4_sceneNumbered 13 = .ok (.aload_n 0, 1) := by decide +kernel
theorem dX4_sceneNumbered_14 : decode cX4_sceneNumbered 14 = .ok (.getfield 11, 3) := by decide +kernel
theorem dX4_sceneNumbered_17 : decode cX4_sceneNumbered 17 = .ok (.iload_n 1, 1) := by decide +kernel
theorem dX4_sceneNumbered_18 : decode cX4_sceneNumbered 18 = .ok (.aaload, 1) := by decide +kernel
theorem dX4_sceneNumbered_19 : decode cX4_sceneNumbered 19 = .ok (.ifnonnull 13, 3) := by decide +kernel
theorem dX4_sceneNumbered_22 : decode cX4_sceneNumbered 22 = .ok (.new 242, 3) := by decide +kernel
theorem dX4_sceneNumbered_25 : decode cX4_sceneNumbered 25 = .ok (.dup, 1) := by decide +kernel
theorem dX4_sceneNumbered_26 : decode cX4_sceneNumbered 26 = .ok (.ldc 244, 2) := by decide +kernel
theorem dX4_sceneNumbered_28 : decode cX4_sceneNumbered 28 = .ok (.invokespecial 246, 3) := by decide +kernel
theorem dX4_sceneNumbered_31 : decode cX4_sceneNumbered 31 = .ok (.athrow, 1) := by decide +kernel
theorem dX4_sceneNumbered_32 : decode cX4_sceneNumbered 32 = .ok (.aload_n 0, 1) := by decide +kernel
theorem dX4_sceneNumbered_33 : decode cX4_sceneNumbered 33 = .ok (.getfield 11, 3) := by decide +kernel
theorem dX4_sceneNumbered_36 : decode cX4_sceneNumbered 36 = .ok (.iload_n 1, 1) := by decide +kernel
theorem dX4_sceneNumbered_37 : decode cX4_sceneNumbered 37 = .ok (.aaload, 1) := by decide +kernel
theorem dX4_sceneNumbered_38 : decode cX4_sceneNumbered 38 = .ok (.areturn, 1) := by decide +kernel
theorem dX4_permitNumbered_0 : decode cX4_permitNumbered 0 = .ok (.iload_n 1, 1) := by decide +kernel
theorem dX4_permitNumbered_1 : decode cX4_permitNumbered 1 = .ok (.ifCond .lt 21, 3) := by decide +kernel
theorem dX4_permitNumbered_4 : decode cX4_permitNumbered 4 = .ok (.iload_n 1, 1) := by decide +kernel
theorem dX4_permitNumbered_5 : decode cX4_permitNumbered 5 = .ok (.aload_n 0, 1) := by decide +kernel
theorem dX4_permitNumbered_6 : decode cX4_permitNumbered 6 = .ok (.getfield 20, 3) := by decide +kernel
theorem dX4_permitNumbered_9 : decode cX4_permitNumbered 9 = .ok (.arraylength, 1) := by decide +kernel
theorem dX4_permitNumbered_10 : decode cX4_permitNumbered 10 = .ok (.if_icmp .ge 12, 3) := by decide +kernel
theorem dX4_permitNumbered_13 : decode cX4_permitNumbered 13 = .ok (.aload_n 0, 1) := by decide +kernel
theorem dX4_permitNumbered_14 : decode cX4_permitNumbered 14 = .ok (.getfield 20, 3) := by decide +kernel
theorem dX4_permitNumbered_17 : decode cX4_permitNumbered 17 = .ok (.iload_n 1, 1) := by decide +kernel
theorem dX4_permitNumbered_18 : decode cX4_permitNumbered 18 = .ok (.aaload, 1) := by decide +kernel
theorem dX4_permitNumbered_19 : decode cX4_permitNumbered 19 = .ok (.ifnonnull 13, 3) := by decide +kernel
theorem dX4_permitNumbered_22 : decode cX4_permitNumbered 22 = .ok (.new 242, 3) := by decide +kernel
theorem dX4_permitNumbered_25 : decode cX4_permitNumbered 25 = .ok (.dup, 1) := by decide +kernel
theorem dX4_permitNumbered_26 : decode cX4_permitNumbered 26 = .ok (.ldc 247, 2) := by decide +kernel
theorem dX4_permitNumbered_28 : decode cX4_permitNumbered 28 = .ok (.invokespecial 246, 3) := by decide +kernel
theorem dX4_permitNumbered_31 : decode cX4_permitNumbered 31 = .ok (.athrow, 1) := by decide +kernel
theorem dX4_permitNumbered_32 : decode cX4_permitNumbered 32 = .ok (.aload_n 0, 1) := by decide +kernel
theorem dX4_permitNumbered_33 : decode cX4_permitNumbered 33 = .ok (.getfield 20, 3) := by decide +kernel
theorem dX4_permitNumbered_36 : decode cX4_permitNumbered 36 = .ok (.iload_n 1, 1) := by decide +kernel
theorem dX4_permitNumbered_37 : decode cX4_permitNumbered 37 = .ok (.aaload, 1) := by decide +kernel
theorem dX4_permitNumbered_38 : decode cX4_permitNumbered 38 = .ok (.areturn, 1) := by decide +kernel
theorem dX4_requireActor_0 : decode cX4_requireActor 0 = .ok (.iload_n 0, 1) := by decide +kernel
theorem dX4_requireActor_1 : decode cX4_requireActor 1 = .ok (.ifCond .lt 8, 3) := by decide +kernel
theorem dX4_requireActor_4 : decode cX4_requireActor 4 = .ok (.iload_n 0, 1) := by decide +kernel
theorem dX4_requireActor_5 : decode cX4_requireActor 5 = .ok (.iconst 5, 1) := by decide +kernel
theorem dX4_requireActor_6 : decode cX4_requireActor 6 = .ok (.if_icmp .lt 13, 3) := by decide +kernel
theorem dX4_requireActor_9 : decode cX4_requireActor 9 = .ok (.new 242, 3) := by decide +kernel
theorem dX4_requireActor_12 : decode cX4_requireActor 12 = .ok (.dup, 1) := by decide +kernel
theorem dX4_requireActor_13 : decode cX4_requireActor 13 = .ok (.ldc 249, 2) := by decide +kernel
theorem dX4_requireActor_15 : decode cX4_requireActor 15 = .ok (.invokespecial 246, 3) := by decide +kernel
theorem dX4_requireActor_18 : decode cX4_requireActor 18 = .ok (.athrow, 1) := by decide +kernel
theorem dX4_requireActor_19 : decode cX4_requireActor 19 = .ok (.return_, 1) := by decide +kernel
theorem dX4_requireProp_0 : decode cX4_requireProp 0 = .ok (.iload_n 0, 1) := by decide +kernel
theorem dX4_requireProp_1 : decode cX4_requireProp 1 = .ok (.ifCond .lt 8, 3) := by decide +kernel
theorem dX4_requireProp_4 : decode cX4_requireProp 4 = .ok (.iload_n 0, 1) := by decide +kernel
theorem dX4_requireProp_5 : decode cX4_requireProp 5 = .ok (.iconst 5, 1) := by decide +kernel
theorem dX4_requireProp_6 : decode cX4_requireProp 6 = .ok (.if_icmp .lt 13, 3) := by decide +kernel
theorem dX4_requireProp_9 : decode cX4_requireProp 9 = .ok (.new 242, 3) := by decide +kernel
theorem dX4_requireProp_12 : decode cX4_requireProp 12 = .ok (.dup, 1) := by decide +kernel
theorem dX4_requireProp_13 : decode cX4_requireProp 13 = .ok (.ldc 251, 2) := by decide +kernel
theorem dX4_requireProp_15 : decode cX4_requireProp 15 = .ok (.invokespecial 246, 3) := by decide +kernel
theorem dX4_requireProp_18 : decode cX4_requireProp 18 = .ok (.athrow, 1) := by decide +kernel
theorem dX4_requireProp_19 : decode cX4_requireProp 19 = .ok (.return_, 1) := by decide +kernel
theorem dX4_requireDay_0 : decode cX4_requireDay 0 = .ok (.iload_n 0, 1) := by decide +kernel
theorem dX4_requireDay_1 : decode cX4_requireDay 1 = .ok (.ifCond .lt 9, 3) := by decide +kernel
theorem dX4_requireDay_4 : decode cX4_requireDay 4 = .ok (.iload_n 0, 1) := by decide +kernel
theorem dX4_requireDay_5 : decode cX4_requireDay 5 = .ok (.bipush 30, 2) := by decide +kernel
theorem dX4_requireDay_7 : decode cX4_requireDay 7 = .ok (.if_icmp .lt 13, 3) := by decide +kernel
theorem dX4_requireDay_10 : decode cX4_requireDay 10 = .ok (.new 58, 3) := by decide +kernel
theorem dX4_requireDay_13 : decode cX4_requireDay 13 = .ok (.dup, 1) := by decide +kernel
theorem dX4_requireDay_14 : decode cX4_requireDay 14 = .ok (.ldc 253, 2) := by decide +kernel
theorem dX4_requireDay_16 : decode cX4_requireDay 16 = .ok (.invokespecial 62, 3) := by decide +kernel
theorem dX4_requireDay_19 : decode cX4_requireDay 19 = .ok (.athrow, 1) := by decide +kernel
theorem dX4_requireDay_20 : decode cX4_requireDay 20 = .ok (.return_, 1) := by decide +kernel
theorem dX4_requirePlanned_0 : decode cX4_requirePlanned 0 = .ok (.aload_n 0, 1) := by decide +kernel
theorem dX4_requirePlanned_1 : decode cX4_requirePlanned 1 = .ok (.getfield 128, 3) := by decide +kernel
theorem dX4_requirePlanned_4 : decode cX4_requirePlanned 4 = .ok (.ifCond .eq 13, 3) := by decide +kernel
theorem dX4_requirePlanned_7 : decode cX4_requirePlanned 7 = .ok (.new 69, 3) := by decide +kernel
theorem dX4_requirePlanned_10 : decode cX4_requirePlanned 10 = .ok (.dup, 1) := by decide +kernel
theorem dX4_requirePlanned_11 : decode cX4_requirePlanned 11 = .ok (.ldc 255, 2) := by decide +kernel
theorem dX4_requirePlanned_13 : decode cX4_requirePlanned 13 = .ok (.invokespecial 73, 3) := by decide +kernel
theorem dX4_requirePlanned_16 : decode cX4_requirePlanned 16 = .ok (.athrow, 1) := by decide +kernel
theorem dX4_requirePlanned_17 : decode cX4_requirePlanned 17 = .ok (.return_, 1) := by decide +kernel
theorem dX4_agesForwards_0 : decode cX4_agesForwards 0 = .ok (.aload_n 0, 1) := by decide +kernel
theorem dX4_agesForwards_1 : decode cX4_agesForwards 1 = .ok (.getfield 11, 3) := by decide +kernel
theorem dX4_agesForwards_4 : decode cX4_agesForwards 4 = .ok (.astore 5, 2) := by decide +kernel
theorem dX4_agesForwards_6 : decode cX4_agesForwards 6 = .ok (.aload 5, 2) := by decide +kernel
theorem dX4_agesForwards_8 : decode cX4_agesForwards 8 = .ok (.arraylength, 1) := by decide +kernel
theorem dX4_agesForwards_9 : decode cX4_agesForwards 9 = .ok (.istore 6, 2) := by decide +kernel
theorem dX4_agesForwards_11 : decode cX4_agesForwards 11 = .ok (.iconst 0, 1) := by decide +kernel
theorem dX4_agesForwards_12 : decode cX4_agesForwards 12 = .ok (.istore 7, 2) := by decide +kernel
theorem dX4_agesForwards_14 : decode cX4_agesForwards 14 = .ok (.iload 7, 2) := by decide +kernel
theorem dX4_agesForwards_16 : decode cX4_agesForwards 16 = .ok (.iload 6, 2) := by decide +kernel
theorem dX4_agesForwards_18 : decode cX4_agesForwards 18 = .ok (.if_icmp .ge 79, 3) := by decide +kernel
theorem dX4_agesForwards_21 : decode cX4_agesForwards 21 = .ok (.aload 5, 2) := by decide +kernel
theorem dX4_agesForwards_23 : decode cX4_agesForwards 23 = .ok (.iload 7, 2) := by decide +kernel
theorem dX4_agesForwards_25 : decode cX4_agesForwards 25 = .ok (.aaload, 1) := by decide +kernel
theorem dX4_agesForwards_26 : decode cX4_agesForwards 26 = .ok (.astore 8, 2) := by decide +kernel
theorem dX4_agesForwards_28 : decode cX4_agesForwards 28 = .ok (.aload 8, 2) := by decide +kernel
theorem dX4_agesForwards_30 : decode cX4_agesForwards 30 = .ok (.ifnull 61, 3) := by decide +kernel
theorem dX4_agesForwards_33 : decode cX4_agesForwards 33 = .ok (.aload 8, 2) := by decide +kernel
theorem dX4_agesForwards_35 : decode cX4_agesForwards 35 = .ok (.getfield 77, 3) := by decide +kernel
theorem dX4_agesForwards_38 : decode cX4_agesForwards 38 = .ok (.iload_n 1, 1) := by decide +kernel
theorem dX4_agesForwards_39 : decode cX4_agesForwards 39 = .ok (.if_icmp .eq 52, 3) := by decide +kernel
theorem dX4_agesForwards_42 : decode cX4_agesForwards 42 = .ok (.aload 8, 2) := by decide +kernel
theorem dX4_agesForwards_44 : decode cX4_agesForwards 44 = .ok (.iload_n 2, 1) := by decide +kernel
theorem dX4_agesForwards_45 : decode cX4_agesForwards 45 = .ok (.invokevirtual 236, 3) := by decide +kernel
theorem dX4_agesForwards_48 : decode cX4_agesForwards 48 = .ok (.ifCond .ne 6, 3) := by decide +kernel
theorem dX4_agesForwards_51 : decode cX4_agesForwards 51 = .ok (.goto 40, 3) := by decide +kernel
theorem dX4_agesForwards_54 : decode cX4_agesForwards 54 = .ok (.aload 8, 2) := by decide +kernel
theorem dX4_agesForwards_56 : decode cX4_agesForwards 56 = .ok (.getfield 77, 3) := by decide +kernel
theorem dX4_agesForwards_59 : decode cX4_agesForwards 59 = .ok (.iload_n 1, 1) := by decide +kernel
theorem dX4_agesForwards_60 : decode cX4_agesForwards 60 = .ok (.if_icmp .ge 17, 3) := by decide +kernel
theorem dX4_agesForwards_63 : decode cX4_agesForwards 63 = .ok (.aload 8, 2) := by decide +kernel
theorem dX4_agesForwards_65 : decode cX4_agesForwards 65 = .ok (.getfield 114, 3) := by decide +kernel
theorem dX4_agesForwards_68 : decode cX4_agesForwards 68 = .ok (.iload_n 2, 1) := by decide +kernel
theorem dX4_agesForwards_69 : decode cX4_agesForwards 69 = .ok (.iaload, 1) := by decide +kernel
theorem dX4_agesForwards_70 : decode cX4_agesForwards 70 = .ok (.iload_n 3, 1) := by decide +kernel
theorem dX4_agesForwards_71 : decode cX4_agesForwards 71 = .ok (.if_icmp .le 20, 3) := by decide +kernel
theorem dX4_agesForwards_74 : decode cX4_agesForwards 74 = .ok (.goto 15, 3) := by decide +kernel
theorem dX4_agesForwards_77 : decode cX4_agesForwards 77 = .ok (.aload 8, 2) := by decide +kernel
theorem dX4_agesForwards_79 : decode cX4_agesForwards 79 = .ok (.getfield 111, 3) := by decide +kernel
theorem dX4_agesForwards_82 : decode cX4_agesForwards 82 = .ok (.iload_n 2, 1) := by decide +kernel
theorem dX4_agesForwards_83 : decode cX4_agesForwards 83 = .ok (.iaload, 1) := by decide +kernel
theorem dX4_agesForwards_84 : decode cX4_agesForwards 84 = .ok (.iload 4, 2) := by decide +kernel
theorem dX4_agesForwards_86 : decode cX4_agesForwards 86 = .ok (.if_icmp .ge 5, 3) := by decide +kernel
theorem dX4_agesForwards_89 : decode cX4_agesForwards 89 = .ok (.iconst 0, 1) := by decide +kernel
theorem dX4_agesForwards_90 : decode cX4_agesForwards 90 = .ok (.ireturn, 1) := by decide +kernel
theorem dX4_agesForwards_91 : decode cX4_agesForwards 91 = .ok (.iinc 7 1, 3) := by decide +kernel
theorem dX4_agesForwards_94 : decode cX4_agesForwards 94 = .ok (.goto (-80), 3) := by decide +kernel
theorem dX4_agesForwards_97 : decode cX4_agesForwards 97 = .ok (.iconst 1, 1) := by decide +kernel
theorem dX4_agesForwards_98 : decode cX4_agesForwards 98 = .ok (.ireturn, 1) := by decide +kernel
theorem dX4_dayBehindPlan_0 : decode cX4_dayBehindPlan 0 = .ok (.aload_n 0, 1) := by decide +kernel
theorem dX4_dayBehindPlan_1 : decode cX4_dayBehindPlan 1 = .ok (.getfield 52, 3) := by decide +kernel
theorem dX4_dayBehindPlan_4 : decode cX4_dayBehindPlan 4 = .ok (.istore_n 1, 1) := by decide +kernel
theorem dX4_dayBehindPlan_5 : decode cX4_dayBehindPlan 5 = .ok (.aload_n 0, 1) := by decide +kernel
theorem dX4_dayBehindPlan_6 : decode cX4_dayBehindPlan 6 = .ok (.getfield 52, 3) := by decide +kernel
theorem dX4_dayBehindPlan_9 : decode cX4_dayBehindPlan 9 = .ok (.istore_n 2, 1) := by decide +kernel
theorem dX4_dayBehindPlan_10 : decode cX4_dayBehindPlan 10 = .ok (.iload_n 2, 1) := by decide +kernel
theorem dX4_dayBehindPlan_11 : decode cX4_dayBehindPlan 11 = .ok (.bipush 30, 2) := by decide +kernel
theorem dX4_dayBehindPlan_13 : decode cX4_dayBehindPlan 13 = .ok (.if_icmp .ge 22, 3) := by decide +kernel
theorem dX4_dayBehindPlan_16 : decode cX4_dayBehindPlan 16 = .ok (.aload_n 0, 1) := by decide +kernel
theorem dX4_dayBehindPlan_17 : decode cX4_dayBehindPlan 17 = .ok (.getfield 15, 3) := by decide +kernel
theorem dX4_dayBehindPlan_20 : decode cX4_dayBehindPlan 20 = .ok (.iload_n 2, 1) := by decide +kernel
theorem dX4_dayBehindPlan_21 : decode cX4_dayBehindPlan 21 = .ok (.aaload, 1) := by decide +kernel
theorem dX4_dayBehindPlan_22 : decode cX4_dayBehindPlan 22 = .ok (.ifnull 7, 3) := by decide +kernel
theorem dX4_dayBehindPlan_25 : decode cX4_dayBehindPlan 25 = .ok (.iload_n 2, 1) := by decide +kernel
theorem dX4_dayBehindPlan_26 : decode cX4_dayBehindPlan 26 = .ok (.iconst 1, 1) := by decide +kernel
theorem dX4_dayBehindPlan_27 : decode cX4_dayBehindPlan 27 = .ok (.iadd, 1) := by decide +kernel
theorem dX4_dayBehindPlan_28 : decode cX4_dayBehindPlan 28 = .ok (.istore_n 1, 1) := by decide +kernel
theorem dX4_dayBehindPlan_29 : decode cX4_dayBehindPlan 29 = .ok (.iinc 2 1, 3) := by decide +kernel
theorem dX4_dayBehindPlan_32 : decode cX4_dayBehindPlan 32 = .ok (.goto (-22), 3) := by decide +kernel
theorem dX4_dayBehindPlan_35 : decode cX4_dayBehindPlan 35 = .ok (.iload_n 1, 1) := by decide +kernel
theorem dX4_dayBehindPlan_36 : decode cX4_dayBehindPlan 36 = .ok (.ireturn, 1) := by decide +kernel
theorem dX4_plannedDay_0 : decode cX4_plannedDay 0 = .ok (.iconst 0, 1) := by decide +kernel
theorem dX4_plannedDay_1 : decode cX4_plannedDay 1 = .ok (.istore_n 2, 1) := by decide +kernel
theorem dX4_plannedDay_2 : decode cX4_plannedDay 2 = .ok (.iload_n 2, 1) := by decide +kernel
theorem dX4_plannedDay_3 : decode cX4_plannedDay 3 = .ok (.bipush 30, 2) := by decide +kernel
theorem dX4_plannedDay_5 : decode cX4_plannedDay 5 = .ok (.if_icmp .ge 21, 3) := by decide +kernel
theorem dX4_plannedDay_8 : decode cX4_plannedDay 8 = .ok (.aload_n 0, 1) := by decide +kernel
theorem dX4_plannedDay_9 : decode cX4_plannedDay 9 = .ok (.getfield 15, 3) := by decide +kernel
theorem dX4_plannedDay_12 : decode cX4_plannedDay 12 = .ok (.iload_n 2, 1) := by decide +kernel
theorem dX4_plannedDay_13 : decode cX4_plannedDay 13 = .ok (.aaload, 1) := by decide +kernel
theorem dX4_plannedDay_14 : decode cX4_plannedDay 14 = .ok (.aload_n 1, 1) := by decide +kernel
theorem dX4_plannedDay_15 : decode cX4_plannedDay 15 = .ok (.if_acmp .ne 5, 3) := by decide +kernel
theorem dX4_plannedDay_18 : decode cX4_plannedDay 18 = .ok (.iload_n 2, 1) := by decide +kernel
theorem dX4_plannedDay_19 : decode cX4_plannedDay 19 = .ok (.ireturn, 1) := by decide +kernel
theorem dX4_plannedDay_20 : decode cX4_plannedDay 20 = .ok (.iinc 2 1, 3) := by decide +kernel
theorem dX4_plannedDay_23 : decode cX4_plannedDay 23 = .ok (.goto (-21), 3) := by decide +kernel
theorem dX4_plannedDay_26 : decode cX4_plannedDay 26 = .ok (.iconst (-1), 1) := by decide +kernel
theorem dX4_plannedDay_27 : decode cX4_plannedDay 27 = .ok (.ireturn, 1) := by decide +kernel
theorem dX4_putOff_0 : decode cX4_putOff 0 = .ok (.aload_n 0, 1) := by decide +kernel
theorem dX4_putOff_1 : decode cX4_putOff 1 = .ok (.getfield 52, 3) := by decide +kernel
theorem dX4_putOff_4 : decode cX4_putOff 4 = .ok (.iconst 1, 1) := by decide +kernel
theorem dX4_putOff_5 : decode cX4_putOff 5 = .ok (.iadd, 1) := by decide +kernel
theorem dX4_putOff_6 : decode cX4_putOff 6 = .ok (.istore_n 2, 1) := by decide +kernel
theorem dX4_putOff_7 : decode cX4_putOff 7 = .ok (.iload_n 2, 1) := by decide +kernel
theorem dX4_putOff_8 : decode cX4_putOff 8 = .ok (.bipush 30, 2) := by decide +kernel
theorem dX4_putOff_10 : decode cX4_putOff 10 = .ok (.if_icmp .ge 26, 3) := by decide +kernel
theorem dX4_putOff_13 : decode cX4_putOff 13 = .ok (.aload_n 0, 1) := by decide +kernel
theorem dX4_putOff_14 : decode cX4_putOff 14 = .ok (.getfield 15, 3) := by decide +kernel
theorem dX4_putOff_17 : decode cX4_putOff 17 = .ok (.iload_n 2, 1) := by decide +kernel
theorem dX4_putOff_18 : decode cX4_putOff 18 = .ok (.aaload, 1) := by decide +kernel
theorem dX4_putOff_19 : decode cX4_putOff 19 = .ok (.ifnonnull 11, 3) := by decide +kernel
theorem dX4_putOff_22 : decode cX4_putOff 22 = .ok (.aload_n 0, 1) := by decide +kernel
theorem dX4_putOff_23 : decode cX4_putOff 23 = .ok (.getfield 15, 3) := by decide +kernel
theorem dX4_putOff_26 : decode cX4_putOff 26 = .ok (.iload_n 2, 1) := by decide +kernel
theorem dX4_putOff_27 : decode cX4_putOff 27 = .ok (.aload_n 1, 1) := by decide +kernel
theorem dX4_putOff_28 : decode cX4_putOff 28 = .ok (.aastore, 1) := by decide +kernel
theorem dX4_putOff_29 : decode cX4_putOff 29 = .ok (.return_, 1) := by decide +kernel
theorem dX4_putOff_30 : decode cX4_putOff 30 = .ok (.iinc 2 1, 3) := by decide +kernel
theorem dX4_putOff_33 : decode cX4_putOff 33 = .ok (.goto (-26), 3) := by decide +kernel
theorem dX4_putOff_36 : decode cX4_putOff 36 = .ok (.aload_n 1, 1) := by decide +kernel
theorem dX4_putOff_37 : decode cX4_putOff 37 = .ok (.iconst 2, 1) := by decide +kernel
theorem dX4_putOff_38 : decode cX4_putOff 38 = .ok (.putfield 128, 3) := by decide +kernel
theorem dX4_putOff_41 : decode cX4_putOff 41 = .ok (.return_, 1) := by decide +kernel
theorem dX4_swapDays_0 : decode cX4_swapDays 0 = .ok (.aload_n 0, 1) := by decide +kernel
theorem dX4_swapDays_1 : decode cX4_swapDays 1 = .ok (.getfield 15, 3) := by decide +kernel
theorem dX4_swapDays_4 : decode cX4_swapDays 4 = .ok (.iload_n 1, 1) := by decide +kernel
theorem dX4_swapDays_5 : decode cX4_swapDays 5 = .ok (.iload_n 2, 1) := by decide +kernel
theorem dX4_swapDays_6 : decode cX4_swapDays 6 = .ok (.invokestatic 257, 3) := by decide +kernel
theorem dX4_swapDays_9 : decode cX4_swapDays 9 = .ok (.return_, 1) := by decide +kernel
theorem dX4_put_0 : decode cX4_put 0 = .ok (.iload_n 1, 1) := by decide +kernel
theorem dX4_put_1 : decode cX4_put 1 = .ok (.ifCond .lt 13, 3) := by decide +kernel
theorem dX4_put_4 : decode cX4_put 4 = .ok (.iload_n 1, 1) := by decide +kernel
theorem dX4_put_5 : decode cX4_put 5 = .ok (.aload_n 0, 1) := by decide +kernel
theorem dX4_put_6 : decode cX4_put 6 = .ok (.arraylength, 1) := by decide +kernel
theorem dX4_put_7 : decode cX4_put 7 = .ok (.if_icmp .ge 7, 3) := by decide +kernel
theorem dX4_put_10 : decode cX4_put 10 = .ok (.aload_n 0, 1) := by decide +kernel
theorem dX4_put_11 : decode cX4_put 11 = .ok (.iload_n 1, 1) := by decide +kernel
theorem dX4_put_12 : decode cX4_put 12 = .ok (.aload_n 2, 1) := by decide +kernel
theorem dX4_put_13 : decode cX4_put 13 = .ok (.aastore, 1) := by decide +kernel
theorem dX4_put_14 : decode cX4_put 14 = .ok (.return_, 1) := by decide +kernel
theorem dX4_exchange_0 : decode cX4_exchange 0 = .ok (.iload_n 1, 1) := by decide +kernel
theorem dX4_exchange_1 : decode cX4_exchange 1 = .ok (.ifCond .lt 19, 3) := by decide +kernel
theorem dX4_exchange_4 : decode cX4_exchange 4 = .ok (.iload_n 1, 1) := by decide +kernel
theorem dX4_exchange_5 : decode cX4_exchange 5 = .ok (.aload_n 0, 1) := by decide +kernel
theorem dX4_exchange_6 : decode cX4_exchange 6 = .ok (.arraylength, 1) := by decide +kernel
theorem dX4_exchange_7 : decode cX4_exchange 7 = .ok (.if_icmp .ge 13, 3) := by decide +kernel
theorem dX4_exchange_10 : decode cX4_exchange 10 = .ok (.iload_n 2, 1) := by decide +kernel
theorem dX4_exchange_11 : decode cX4_exchange 11 = .ok (.ifCond .lt 9, 3) := by decide +kernel
theorem dX4_exchange_14 : decode cX4_exchange 14 = .ok (.iload_n 2, 1) := by decide +kernel
theorem dX4_exchange_15 : decode cX4_exchange 15 = .ok (.aload_n 0, 1) := by decide +kernel
theorem dX4_exchange_16 : decode cX4_exchange 16 = .ok (.arraylength, 1) := by decide +kernel
theorem dX4_exchange_17 : decode cX4_exchange 17 = .ok (.if_icmp .lt 4, 3) := by decide +kernel
theorem dX4_exchange_20 : decode cX4_exchange 20 = .ok (.return_, 1) := by decide +kernel
theorem dX4_exchange_21 : decode cX4_exchange 21 = .ok (.aload_n 0, 1) := by decide +kernel
theorem dX4_exchange_22 : decode cX4_exchange 22 = .ok (.iload_n 1, 1) := by decide +kernel
theorem dX4_exchange_23 : decode cX4_exchange 23 = .ok (.aaload, 1) := by decide +kernel
theorem dX4_exchange_24 : decode cX4_exchange 24 = .ok (.astore_n 3, 1) := by decide +kernel
theorem dX4_exchange_25 : decode cX4_exchange 25 = .ok (.aload_n 0, 1) := by decide +kernel
theorem dX4_exchange_26 : decode cX4_exchange 26 = .ok (.iload_n 1, 1) := by decide +kernel
theorem dX4_exchange_27 : decode cX4_exchange 27 = .ok (.aload_n 0, 1) := by decide +kernel
theorem dX4_exchange_28 : decode cX4_exchange 28 = .ok (.iload_n 2, 1) := by decide +kernel
theorem dX4_exchange_29 : decode cX4_exchange 29 = .ok (.aaload, 1) := by decide +kernel
theorem dX4_exchange_30 : decode cX4_exchange 30 = .ok (.aastore, 1) := by decide +kernel
theorem dX4_exchange_31 : decode cX4_exchange 31 = .ok (.aload_n 0, 1) := by decide +kernel
theorem dX4_exchange_32 : decode cX4_exchange 32 = .ok (.iload_n 2, 1) := by decide +kernel
theorem dX4_exchange_33 : decode cX4_exchange 33 = .ok (.aload_n 3, 1) := by decide +kernel
theorem dX4_exchange_34 : decode cX4_exchange 34 = .ok (.aastore, 1) := by decide +kernel
theorem dX4_exchange_35 : decode cX4_exchange 35 = .ok (.return_, 1) := by decide +kernel
theorem dX4_planCost_0 : decode cX4_planCost 0 = .ok (.aload_n 0, 1) := by decide +kernel
theorem dX4_planCost_1 : decode cX4_planCost 1 = .ok (.getfield 35, 3) := by decide +kernel
theorem dX4_planCost_4 : decode cX4_planCost 4 = .ok (.aload_n 0, 1) := by decide +kernel
theorem dX4_planCost_5 : decode cX4_planCost 5 = .ok (.getfield 31, 3) := by decide +kernel
theorem dX4_planCost_8 : decode cX4_planCost 8 = .ok (.invokevirtual 261, 3) := by decide +kernel
theorem dX4_planCost_11 : decode cX4_planCost 11 = .ok (.iconst 0, 1) := by decide +kernel
theorem dX4_planCost_12 : decode cX4_planCost 12 = .ok (.istore_n 1, 1) := by decide +kernel
theorem dX4_planCost_13 : decode cX4_planCost 13 = .ok (.aload_n 0, 1) := by decide +kernel
theorem dX4_planCost_14 : decode cX4_planCost 14 = .ok (.getfield 52, 3) := by decide +kernel
theorem dX4_planCost_17 : decode cX4_planCost 17 = .ok (.istore_n 2, 1) := by decide +kernel
theorem dX4_planCost_18 : decode cX4_planCost 18 = .ok (.aload_n 0, 1) := by decide +kernel
theorem dX4_planCost_19 : decode cX4_planCost 19 = .ok (.getfield 52, 3) := by decide +kernel
theorem dX4_planCost_22 : decode cX4_planCost 22 = .ok (.istore_n 3, 1) := by decide +kernel
theorem dX4_planCost_23 : decode cX4_planCost 23 = .ok (.iload_n 3, 1) := by decide +kernel
theorem dX4_planCost_24 : decode cX4_planCost 24 = .ok (.bipush 30, 2) := by decide +kernel
theorem dX4_planCost_26 : decode cX4_planCost 26 = .ok (.if_icmp .ge 62, 3) := by decide +kernel
theorem dX4_planCost_29 : decode cX4_planCost 29 = .ok (.aload_n 0, 1) := by decide +kernel
theorem dX4_planCost_30 : decode cX4_planCost 30 = .ok (.getfield 15, 3) := by decide +kernel
theorem dX4_planCost_33 : decode cX4_planCost 33 = .ok (.iload_n 3, 1) := by decide +kernel
theorem dX4_planCost_34 : decode cX4_planCost 34 = .ok (.aaload, 1) := by decide +kernel
theorem dX4_planCost_35 : decode cX4_planCost 35 = .ok (.astore 4, 2) := by decide +kernel
theorem dX4_planCost_37 : decode cX4_planCost 37 = .ok (.aload 4, 2) := by decide +kernel
theorem dX4_planCost_39 : decode cX4_planCost 39 = .ok (.ifnonnull 6, 3) := by decide +kernel
theorem dX4_planCost_42 : decode cX4_planCost 42 = .ok (.goto 40, 3) := by decide +kernel
theorem dX4_planCost_45 : decode cX4_planCost 45 = .ok (.aload_n 0, 1) := by decide +kernel
theorem dX4_planCost_46 : decode cX4_planCost 46 = .ok (.getfield 35, 3) := by decide +kernel
theorem dX4_planCost_49 : decode cX4_planCost 49 = .ok (.iload_n 3, 1) := by decide +kernel
theorem dX4_planCost_50 : decode cX4_planCost 50 = .ok (.iload_n 2, 1) := by decide +kernel
theorem dX4_planCost_51 : decode cX4_planCost 51 = .ok (.isub, 1) := by decide +kernel
theorem dX4_planCost_52 : decode cX4_planCost 52 = .ok (.invokevirtual 196, 3) := by decide +kernel
theorem dX4_planCost_55 : decode cX4_planCost 55 = .ok (.iload_n 3, 1) := by decide +kernel
theorem dX4_planCost_56 : decode cX4_planCost 56 = .ok (.istore_n 2, 1) := by decide +kernel
theorem dX4_planCost_57 : decode cX4_planCost 57 = .ok (.iload_n 1, 1) := by decide +kernel
theorem dX4_planCost_58 : decode cX4_planCost 58 = .ok (.aload_n 0, 1) := by decide +kernel
theorem dX4_planCost_59 : decode cX4_planCost 59 = .ok (.getfield 35, 3) := by decide +kernel
theorem dX4_planCost_62 : decode cX4_planCost 62 = .ok (.aload 4, 2) := by decide +kernel
theorem dX4_planCost_64 : decode cX4_planCost 64 = .ok (.invokevirtual 187, 3) := by decide +kernel
theorem dX4_planCost_67 : decode cX4_planCost 67 = .ok (.iadd, 1) := by decide +kernel
theorem dX4_planCost_68 : decode cX4_planCost 68 = .ok (.istore_n 1, 1) := by decide +kernel
theorem dX4_planCost_69 : decode cX4_planCost 69 = .ok (.aload_n 0, 1) := by decide +kernel
theorem dX4_planCost_70 : decode cX4_planCost 70 = .ok (.aload 4, 2) := by decide +kernel
theorem dX4_planCost_72 : decode cX4_planCost 72 = .ok (.iload_n 3, 1) := by decide +kernel
theorem dX4_planCost_73 : decode cX4_planCost 73 = .ok (.invokevirtual 183, 3) := by decide +kernel
theorem dX4_planCost_76 : decode cX4_planCost 76 = .ok (.ifCond .ne 6, 3) := by decide +kernel
theorem dX4_planCost_79 : decode cX4_planCost 79 = .ok (.iinc 1 20, 3) := by decide +kernel
theorem dX4_planCost_82 : decode cX4_planCost 82 = .ok (.iinc 3 1, 3) := by decide +kernel
theorem dX4_planCost_85 : decode cX4_planCost 85 = .ok (.goto (-62), 3) := by decide +kernel
theorem dX4_planCost_88 : decode cX4_planCost 88 = .ok (.iload_n 1, 1) := by decide +kernel
theorem dX4_planCost_89 : decode cX4_planCost 89 = .ok (.ireturn, 1) := by decide +kernel
theorem dX4_costAfterSwap_0 : decode cX4_costAfterSwap 0 = .ok (.aload_n 0, 1) := by decide +kernel
theorem dX4_costAfterSwap_1 : decode cX4_costAfterSwap 1 = .ok (.iload_n 1, 1) := by decide +kernel
theorem dX4_costAfterSwap_2 : decode cX4_costAfterSwap 2 = .ok (.iload_n 2, 1) := by decide +kernel
theorem dX4_costAfterSwap_3 : decode cX4_costAfterSwap 3 = .ok (.invokevirtual 133, 3) := by decide +kernel
theorem dX4_costAfterSwap_6 : decode cX4_costAfterSwap 6 = .ok (.aload_n 0, 1) := by decide +kernel
theorem dX4_costAfterSwap_7 : decode cX4_costAfterSwap 7 = .ok (.invokevirtual 137, 3) := by decide +kernel
theorem dX4_costAfterSwap_10 : decode cX4_costAfterSwap 10 = .ok (.istore_n 3, 1) := by decide +kernel
theorem dX4_costAfterSwap_11 : decode cX4_costAfterSwap 11 = .ok (.aload_n 0, 1) := by decide +kernel
theorem dX4_costAfterSwap_12 : decode cX4_costAfterSwap 12 = .ok (.iload_n 1, 1) := by decide +kernel
theorem dX4_costAfterSwap_13 : decode cX4_costAfterSwap 13 = .ok (.iload_n 2, 1) := by decide +kernel
theorem dX4_costAfterSwap_14 : decode cX4_costAfterSwap 14 = .ok (.invokevirtual 133, 3) := by decide +kernel
theorem dX4_costAfterSwap_17 : decode cX4_costAfterSwap 17 = .ok (.iload_n 3, 1) := by decide +kernel
theorem dX4_costAfterSwap_18 : decode cX4_costAfterSwap 18 = .ok (.ireturn, 1) := by decide +kernel
theorem dX4_mendingDay_0 : decode cX4_mendingDay 0 = .ok (.iconst (-1), 1) := by decide +kernel
theorem dX4_mendingDay_1 : decode cX4_mendingDay 1 = .ok (.istore_n 2, 1) := by decide +kernel
theorem dX4_mendingDay_2 : decode cX4_mendingDay 2 = .ok (.iconst 0, 1) := by decide +kernel
theorem dX4_mendingDay_3 : decode cX4_mendingDay 3 = .ok (.istore_n 3, 1) := by decide +kernel
theorem dX4_mendingDay_4 : decode cX4_mendingDay 4 = .ok (.aload_n 0, 1) := by decide +kernel
theorem dX4_mendingDay_5 : decode cX4_mendingDay 5 = .ok (.getfield 52, 3) := by decide +kernel
theorem dX4_mendingDay_8 : decode cX4_mendingDay 8 = .ok (.istore 4, 2) := by decide +kernel
theorem dX4_mendingDay_10 : decode cX4_mendingDay 10 = .ok (.iload 4, 2) := by decide +kernel
theorem dX4_mendingDay_12 : decode cX4_mendingDay 12 = .ok (.bipush 30, 2) := by decide +kernel
theorem dX4_mendingDay_14 : decode cX4_mendingDay 14 = .ok (.if_icmp .ge 54, 3) := by decide +kernel
theorem dX4_mendingDay_17 : decode cX4_mendingDay 17 = .ok (.iload 4, 2) := by decide +kernel
theorem dX4_mendingDay_19 : decode cX4_mendingDay 19 = .ok (.iload_n 1, 1) := by decide +kernel
theorem dX4_mendingDay_20 : decode cX4_mendingDay 20 = .ok (.if_icmp .eq 42, 3) := by decide +kernel
theorem dX4_mendingDay_23 : decode cX4_mendingDay 23 = .ok (.aload_n 0, 1) := by decide +kernel
theorem dX4_mendingDay_24 : decode cX4_mendingDay 24 = .ok (.iload_n 1, 1) := by decide +kernel
theorem dX4_mendingDay_25 : decode cX4_mendingDay 25 = .ok (.iload 4, 2) := by decide +kernel
theorem dX4_mendingDay_27 : decode cX4_mendingDay 27 = .ok (.invokevirtual 265, 3) := by decide +kernel
theorem dX4_mendingDay_30 : decode cX4_mendingDay 30 = .ok (.ifCond .ne 6, 3) := by decide +kernel
theorem dX4_mendingDay_33 : decode cX4_mendingDay 33 = .ok (.goto 29, 3) := by decide +kernel
theorem dX4_mendingDay_36 : decode cX4_mendingDay 36 = .ok (.aload_n 0, 1) := by decide +kernel
theorem dX4_mendingDay_37 : decode cX4_mendingDay 37 = .ok (.iload_n 1, 1) := by decide +kernel
theorem dX4_mendingDay_38 : decode cX4_mendingDay 38 = .ok (.iload 4, 2) := by decide +kernel
theorem dX4_mendingDay_40 : decode cX4_mendingDay 40 = .ok (.invokevirtual 268, 3) := by decide +kernel
theorem dX4_mendingDay_43 : decode cX4_mendingDay 43 = .ok (.istore 5, 2) := by decide +kernel
theorem dX4_mendingDay_45 : decode cX4_mendingDay 45 = .ok (.iload_n 2, 1) := by decide +kernel
theorem dX4_mendingDay_46 : decode cX4_mendingDay 46 = .ok (.iconst (-1), 1) := by decide +kernel
theorem dX4_mendingDay_47 : decode cX4_mendingDay 47 = .ok (.if_icmp .eq 9, 3) := by decide +kernel
theorem dX4_mendingDay_50 : decode cX4_mendingDay 50 = .ok (.iload 5, 2) := by decide +kernel
theorem dX4_mendingDay_52 : decode cX4_mendingDay 52 = .ok (.iload_n 3, 1) := by decide +kernel
theorem dX4_mendingDay_53 : decode cX4_mendingDay 53 = .ok (.if_icmp .ge 9, 3) := by decide +kernel
theorem dX4_mendingDay_56 : decode cX4_mendingDay 56 = .ok (.iload 4, 2) := by decide +kernel
theorem dX4_mendingDay_58 : decode cX4_mendingDay 58 = .ok (.istore_n 2, 1) := by decide +kernel
theorem dX4_mendingDay_59 : decode cX4_mendingDay 59 = .ok (.iload 5, 2) := by decide +kernel
theorem dX4_mendingDay_61 : decode cX4_mendingDay 61 = .ok (.istore_n 3, 1) := by decide +kernel
theorem dX4_mendingDay_62 : decode cX4_mendingDay 62 = .ok (.iinc 4 1, 3) := by decide +kernel
theorem dX4_mendingDay_65 : decode cX4_mendingDay 65 = .ok (.goto (-55), 3) := by decide +kernel
theorem dX4_mendingDay_68 : decode cX4_mendingDay 68 = .ok (.iload_n 2, 1) := by decide +kernel
theorem dX4_mendingDay_69 : decode cX4_mendingDay 69 = .ok (.ireturn, 1) := by decide +kernel
theorem dX4_wouldMend_0 : decode cX4_wouldMend 0 = .ok (.aload_n 0, 1) := by decide +kernel
theorem dX4_wouldMend_1 : decode cX4_wouldMend 1 = .ok (.aload_n 0, 1) := by decide +kernel
theorem dX4_wouldMend_2 : decode cX4_wouldMend 2 = .ok (.getfield 15, 3) := by decide +kernel
theorem dX4_wouldMend_5 : decode cX4_wouldMend 5 = .ok (.iload_n 1, 1) := by decide +kernel
theorem dX4_wouldMend_6 : decode cX4_wouldMend 6 = .ok (.aaload, 1) := by decide +kernel
theorem dX4_wouldMend_7 : decode cX4_wouldMend 7 = .ok (.iload_n 2, 1) := by decide +kernel
theorem dX4_wouldMend_8 : decode cX4_wouldMend 8 = .ok (.invokevirtual 271, 3) := by decide +kernel
theorem dX4_wouldMend_11 : decode cX4_wouldMend 11 = .ok (.ifCond .eq 21, 3) := by decide +kernel
theorem dX4_wouldMend_14 : decode cX4_wouldMend 14 = .ok (.aload_n 0, 1) := by decide +kernel
theorem dX4_wouldMend_15 : decode cX4_wouldMend 15 = .ok (.aload_n 0, 1) := by decide +kernel
theorem dX4_wouldMend_16 : decode cX4_wouldMend 16 = .ok (.getfield 15, 3) := by decide +kernel
theorem dX4_wouldMend_19 : decode cX4_wouldMend 19 = .ok (.iload_n 2, 1) := by decide +kernel
theorem dX4_wouldMend_20 : decode cX4_wouldMend 20 = .ok (.aaload, 1) := by decide +kernel
theorem dX4_wouldMend_21 : decode cX4_wouldMend 21 = .ok (.iload_n 1, 1) := by decide +kernel
theorem dX4_wouldMend_22 : decode cX4_wouldMend 22 = .ok (.invokevirtual 271, 3) := by decide +kernel
theorem dX4_wouldMend_25 : decode cX4_wouldMend 25 = .ok (.ifCond .eq 7, 3) := by decide +kernel
theorem dX4_wouldMend_28 : decode cX4_wouldMend 28 = .ok (.iconst 1, 1) := by decide +kernel
theorem dX4_wouldMend_29 : decode cX4_wouldMend 29 = .ok (.goto 4, 3) := by decide +kernel
theorem dX4_wouldMend_32 : decode cX4_wouldMend 32 = .ok (.iconst 0, 1) := by decide +kernel
theorem dX4_wouldMend_33 : decode cX4_wouldMend 33 = .ok (.ireturn, 1) := by decide +kernel
theorem dX4_isFree_0 : decode cX4_isFree 0 = .ok (.aload_n 1, 1) := by decide +kernel
theorem dX4_isFree_1 : decode cX4_isFree 1 = .ok (.ifnull 12, 3) := by decide +kernel
theorem dX4_isFree_4 : decode cX4_isFree 4 = .ok (.aload_n 0, 1) := by decide +kernel
theorem dX4_isFree_5 : decode cX4_isFree 5 = .ok (.aload_n 1, 1) := by decide +kernel
theorem dX4_isFree_6 : decode cX4_isFree 6 = .ok (.iload_n 2, 1) := by decide +kernel
theorem dX4_isFree_7 : decode cX4_isFree 7 = .ok (.invokevirtual 183, 3) := by decide +kernel
theorem dX4_isFree_10 : decode cX4_isFree 10 = .ok (.ifCond .eq 7, 3) := by decide +kernel
theorem dX4_isFree_13 : decode cX4_isFree 13 = .ok (.iconst 1, 1) := by decide +kernel
theorem dX4_isFree_14 : decode cX4_isFree 14 = .ok (.goto 4, 3) := by decide +kernel
theorem dX4_isFree_17 : decode cX4_isFree 17 = .ok (.iconst 0, 1) := by decide +kernel
theorem dX4_isFree_18 : decode cX4_isFree 18 = .ok (.ireturn, 1) := by decide +kernel
theorem dX4_makeBestSwap_0 : decode cX4_makeBestSwap 0 = .ok (.aload_n 0, 1) := by decide +kernel
theorem dX4_makeBestSwap_1 : decode cX4_makeBestSwap 1 = .ok (.invokevirtual 137, 3) := by decide +kernel
theorem dX4_makeBestSwap_4 : decode cX4_makeBestSwap 4 = .ok (.istore_n 1, 1) := by decide +kernel
theorem dX4_makeBestSwap_5 : decode cX4_makeBestSwap 5 = .ok (.iconst (-1), 1) := by decide +kernel
theorem dX4_makeBestSwap_6 : decode cX4_makeBestSwap 6 = .ok (.istore_n 2, 1) := by decide +kernel
theorem dX4_makeBestSwap_7 : decode cX4_makeBestSwap 7 = .ok (.iconst (-1), 1) := by decide +kernel
theorem dX4_makeBestSwap_8 : decode cX4_makeBestSwap 8 = .ok (.istore_n 3, 1) := by decide +kernel
theorem dX4_makeBestSwap_9 : decode cX4_makeBestSwap 9 = .ok (.aload_n 0, 1) := by decide +kernel
theorem dX4_makeBestSwap_10 : decode cX4_makeBestSwap 10 = .ok (.getfield 52, 3) := by decide +kernel
theorem dX4_makeBestSwap_13 : decode cX4_makeBestSwap 13 = .ok (.istore 4, 2) := by decide +kernel
theorem dX4_makeBestSwap_15 : decode cX4_makeBestSwap 15 = .ok (.iload 4, 2) := by decide +kernel
theorem dX4_makeBestSwap_17 : decode cX4_makeBestSwap 17 = .ok (.bipush 30, 2) := by decide +kernel
theorem dX4_makeBestSwap_19 : decode cX4_makeBestSwap 19 = .ok (.if_icmp .ge 76, 3) := by decide +kernel
theorem dX4_makeBestSwap_22 : decode cX4_makeBestSwap 22 = .ok (.iload 4, 2) := by decide +kernel
theorem dX4_makeBestSwap_24 : decode cX4_makeBestSwap 24 = .ok (.iconst 1, 1) := by decide +kernel
theorem dX4_makeBestSwap_25 : decode cX4_makeBestSwap 25 = .ok (.iadd, 1) := by decide +kernel
theorem dX4_makeBestSwap_26 : decode cX4_makeBestSwap 26 = .ok (.istore 5, 2) := by decide +kernel
theorem dX4_makeBestSwap_28 : decode cX4_makeBestSwap 28 = .ok (.iload 5, 2) := by decide +kernel
theorem dX4_makeBestSwap_30 : decode cX4_makeBestSwap 30 = .ok (.bipush 30, 2) := by decide +kernel
theorem dX4_makeBestSwap_32 : decode cX4_makeBestSwap 32 = .ok (.if_icmp .ge 57, 3) := by decide +kernel
theorem dX4_makeBestSwap_35 : decode cX4_makeBestSwap 35 = .ok (.aload_n 0, 1) := by decide +kernel
theorem dX4_makeBestSwap_36 : decode cX4_makeBestSwap 36 = .ok (.getfield 15, 3) := by decide +kernel
theorem dX4_makeBestSwap_39 : decode cX4_makeBestSwap 39 = .ok (.iload 4, 2) := by decide +kernel
theorem dX4_makeBestSwap_41 : decode cX4_makeBestSwap 41 = .ok (.aaload, 1) := by decide +kernel
theorem dX4_makeBestSwap_42 : decode cX4_makeBestSwap 42 = .ok (.ifnonnull 16, 3) := by decide +kernel
theorem dX4_makeBestSwap_45 : decode cX4_makeBestSwap 45 = .ok (.aload_n 0, 1) := by decide +kernel
theorem dX4_makeBestSwap_46 : decode cX4_makeBestSwap 46 = .ok (.getfield 15, 3) := by decide +kernel
theorem dX4_makeBestSwap_49 : decode cX4_makeBestSwap 49 = .ok (.iload 5, 2) := by decide +kernel
theorem dX4_makeBestSwap_51 : decode cX4_makeBestSwap 51 = .ok (.aaload, 1) := by decide +kernel
theorem dX4_makeBestSwap_52 : decode cX4_makeBestSwap 52 = .ok (.ifnonnull 6, 3) := by decide +kernel
theorem dX4_makeBestSwap_55 : decode cX4_makeBestSwap 55 = .ok (.goto 28, 3) := by decide +kernel
theorem dX4_makeBestSwap_58 : decode cX4_makeBestSwap 58 = .ok (.aload_n 0, 1) := by decide +kernel
theorem dX4_makeBestSwap_59 : decode cX4_makeBestSwap 59 = .ok (.iload 4, 2) := by decide +kernel
theorem dX4_makeBestSwap_61 : decode cX4_makeBestSwap 61 = .ok (.iload 5, 2) := by decide +kernel
theorem dX4_makeBestSwap_63 : decode cX4_makeBestSwap 63 = .ok (.invokevirtual 268, 3) := by decide +kernel
theorem dX4_makeBestSwap_66 : decode cX4_makeBestSwap 66 = .ok (.istore 6, 2) := by decide +kernel
theorem dX4_makeBestSwap_68 : decode cX4_makeBestSwap 68 = .ok (.iload 6, 2) := by decide +kernel
theorem dX4_makeBestSwap_70 : decode cX4_makeBestSwap 70 = .ok (.iload_n 1, 1) := by decide +kernel
theorem dX4_makeBestSwap_71 : decode cX4_makeBestSwap 71 = .ok (.if_icmp .ge 12, 3) := by decide +kernel
theorem dX4_makeBestSwap_74 : decode cX4_makeBestSwap 74 = .ok (.iload 6, 2) := by decide +kernel
theorem dX4_makeBestSwap_76 : decode cX4_makeBestSwap 76 = .ok (.istore_n 1, 1) := by decide +kernel
theorem dX4_makeBestSwap_77 : decode cX4_makeBestSwap 77 = .ok (.iload 4, 2) := by decide +kernel
theorem dX4_makeBestSwap_79 : decode cX4_makeBestSwap 79 = .ok (.istore_n 2, 1) := by decide +kernel
theorem dX4_makeBestSwap_80 : decode cX4_makeBestSwap 80 = .ok (.iload 5, 2) := by decide +kernel
theorem dX4_makeBestSwap_82 : decode cX4_makeBestSwap 82 = .ok (.istore_n 3, 1) := by decide +kernel
theorem dX4_makeBestSwap_83 : decode cX4_makeBestSwap 83 = .ok (.iinc 5 1, 3) := by decide +kernel
theorem dX4_makeBestSwap_86 : decode cX4_makeBestSwap 86 = .ok (.goto (-58), 3) := by decide +kernel
theorem dX4_makeBestSwap_89 : decode cX4_makeBestSwap 89 = .ok (.iinc 4 1, 3) := by decide +kernel
theorem dX4_makeBestSwap_92 : decode cX4_makeBestSwap 92 = .ok (.goto (-77), 3) := by decide +kernel
theorem dX4_makeBestSwap_95 : decode cX4_makeBestSwap 95 = .ok (.aload_n 0, 1) := by decide +kernel
theorem dX4_makeBestSwap_96 : decode cX4_makeBestSwap 96 = .ok (.iload_n 2, 1) := by decide +kernel
theorem dX4_makeBestSwap_97 : decode cX4_makeBestSwap 97 = .ok (.iload_n 3, 1) := by decide +kernel
theorem dX4_makeBestSwap_98 : decode cX4_makeBestSwap 98 = .ok (.invokevirtual 133, 3) := by decide +kernel
theorem dX4_makeBestSwap_101 : decode cX4_makeBestSwap 101 = .ok (.iload_n 2, 1) := by decide +kernel
theorem dX4_makeBestSwap_102 : decode cX4_makeBestSwap 102 = .ok (.iconst (-1), 1) := by decide +kernel
theorem dX4_makeBestSwap_103 : decode cX4_makeBestSwap 103 = .ok (.if_icmp .eq 7, 3) := by decide +kernel
theorem dX4_makeBestSwap_106 : decode cX4_makeBestSwap 106 = .ok (.iconst 1, 1) := by decide +kernel
theorem dX4_makeBestSwap_107 : decode cX4_makeBestSwap 107 = .ok (.goto 4, 3) := by decide +kernel
theorem dX4_makeBestSwap_110 : decode cX4_makeBestSwap 110 = .ok (.iconst 0, 1) := by decide +kernel
theorem dX4_makeBestSwap_111 : decode cX4_makeBestSwap 111 = .ok (.ireturn, 1) := by decide +kernel
theorem dX4_countRefused_0 : decode cX4_countRefused 0 = .ok (.iconst 0, 1) := by decide +kernel
theorem dX4_countRefused_1 : decode cX4_countRefused 1 = .ok (.istore_n 1, 1) := by decide +kernel
theorem dX4_countRefused_2 : decode cX4_countRefused 2 = .ok (.aload_n 0, 1) := by decide +kernel
theorem dX4_countRefused_3 : decode cX4_countRefused 3 = .ok (.getfield 52, 3) := by decide +kernel
theorem dX4_countRefused_6 : decode cX4_countRefused 6 = .ok (.istore_n 2, 1) := by decide +kernel
theorem dX4_countRefused_7 : decode cX4_countRefused 7 = .ok (.iload_n 2, 1) := by decide +kernel
theorem dX4_countRefused_8 : decode cX4_countRefused 8 = .ok (.bipush 30, 2) := by decide +kernel
theorem dX4_countRefused_10 : decode cX4_countRefused 10 = .ok (.if_icmp .ge 20, 3) := by decide +kernel
theorem dX4_countRefused_13 : decode cX4_countRefused 13 = .ok (.aload_n 0, 1) := by decide +kernel
theorem dX4_countRefused_14 : decode cX4_countRefused 14 = .ok (.iload_n 2, 1) := by decide +kernel
theorem dX4_countRefused_15 : decode cX4_countRefused 15 = .ok (.invokevirtual 199, 3) := by decide +kernel
theorem dX4_countRefused_18 : decode cX4_countRefused 18 = .ok (.ifCond .eq 6, 3) := by decide +kernel
theorem dX4_countRefused_21 : decode cX4_countRefused 21 = .ok (.iinc 1 1, 3) := by decide +kernel
theorem dX4_countRefused_24 : decode cX4_countRefused 24 = .ok (.iinc 2 1, 3) := by decide +kernel
theorem dX4_countRefused_27 : decode cX4_countRefused 27 = .ok (.goto (-20), 3) := by decide +kernel
theorem dX4_countRefused_30 : decode cX4_countRefused 30 = .ok (.iload_n 1, 1) := by decide +kernel
theorem dX4_countRefused_31 : decode cX4_countRefused 31 = .ok (.ireturn, 1) := by decide +kernel
theorem dX4_isRefusedOn_0 : decode cX4_isRefusedOn 0 = .ok (.aload_n 0, 1) := by decide +kernel
theorem dX4_isRefusedOn_1 : decode cX4_isRefusedOn 1 = .ok (.aload_n 0, 1) := by decide +kernel
theorem dX4_isRefusedOn_2 : decode cX4_isRefusedOn 2 = .ok (.getfield 15, 3) := by decide +kernel
theorem dX4_isRefusedOn_5 : decode cX4_isRefusedOn 5 = .ok (.iload_n 1, 1) := by decide +kernel
theorem dX4_isRefusedOn_6 : decode cX4_isRefusedOn 6 = .ok (.aaload, 1) := by decide +kernel
theorem dX4_isRefusedOn_7 : decode cX4_isRefusedOn 7 = .ok (.iload_n 1, 1) := by decide +kernel
theorem dX4_isRefusedOn_8 : decode cX4_isRefusedOn 8 = .ok (.invokevirtual 271, 3) := by decide +kernel
theorem dX4_isRefusedOn_11 : decode cX4_isRefusedOn 11 = .ok (.ifCond .ne 7, 3) := by decide +kernel
theorem dX4_isRefusedOn_14 : decode cX4_isRefusedOn 14 = .ok (.iconst 1, 1) := by decide +kernel
theorem dX4_isRefusedOn_15 : decode cX4_isRefusedOn 15 = .ok (.goto 4, 3) := by decide +kernel
theorem dX4_isRefusedOn_18 : decode cX4_isRefusedOn 18 = .ok (.iconst 0, 1) := by decide +kernel
theorem dX4_isRefusedOn_19 : decode cX4_isRefusedOn 19 = .ok (.ireturn, 1) := by decide +kernel
theorem dX4_allows_0 : decode cX4_allows 0 = .ok (.aload_n 0, 1) := by decide +kernel
theorem dX4_allows_1 : decode cX4_allows 1 = .ok (.aload_n 1, 1) := by decide +kernel
theorem dX4_allows_2 : decode cX4_allows 2 = .ok (.iload_n 2, 1) := by decide +kernel
theorem dX4_allows_3 : decode cX4_allows 3 = .ok (.invokevirtual 274, 3) := by decide +kernel
theorem dX4_allows_6 : decode cX4_allows 6 = .ok (.ifCond .eq 16, 3) := by decide +kernel
theorem dX4_allows_9 : decode cX4_allows 9 = .ok (.aload_n 0, 1) := by decide +kernel
theorem dX4_allows_10 : decode cX4_allows 10 = .ok (.aload_n 1, 1) := by decide +kernel
theorem dX4_allows_11 : decode cX4_allows 11 = .ok (.iload_n 2, 1) := by decide +kernel
theorem dX4_allows_12 : decode cX4_allows 12 = .ok (.invokevirtual 277, 3) := by decide +kernel
theorem dX4_allows_15 : decode cX4_allows 15 = .ok (.ifCond .eq 7, 3) := by decide +kernel
theorem dX4_allows_18 : decode cX4_allows 18 = .ok (.iconst 1, 1) := by decide +kernel
theorem dX4_allows_19 : decode cX4_allows 19 = .ok (.goto 4, 3) := by decide +kernel
theorem dX4_allows_22 : decode cX4_allows 22 = .ok (.iconst 0, 1) := by decide +kernel
theorem dX4_allows_23 : decode cX4_allows 23 = .ok (.ireturn, 1) := by decide +kernel
theorem dX4_isPermitted_0 : decode cX4_isPermitted 0 = .ok (.aload_n 1, 1) := by decide +kernel
theorem dX4_isPermitted_1 : decode cX4_isPermitted 1 = .ok (.getfield 280, 3) := by decide +kernel
theorem dX4_isPermitted_4 : decode cX4_isPermitted 4 = .ok (.ifCond .ne 5, 3) := by decide +kernel
theorem dX4_isPermitted_7 : decode cX4_isPermitted 7 = .ok (.iconst 1, 1) := by decide +kernel
theorem dX4_isPermitted_8 : decode cX4_isPermitted 8 = .ok (.ireturn, 1) := by decide +kernel
theorem dX4_isPermitted_9 : decode cX4_isPermitted 9 = .ok (.aload_n 0, 1) := by decide +kernel
theorem dX4_isPermitted_10 : decode cX4_isPermitted 10 = .ok (.getfield 20, 3) := by decide +kernel
theorem dX4_isPermitted_13 : decode cX4_isPermitted 13 = .ok (.astore_n 3, 1) := by decide +kernel
theorem dX4_isPermitted_14 : decode cX4_isPermitted 14 = .ok (.aload_n 3, 1) := by decide +kernel
theorem dX4_isPermitted_15 : decode cX4_isPermitted 15 = .ok (.arraylength, 1) := by decide +kernel
theorem dX4_isPermitted_16 : decode cX4_isPermitted 16 = .ok (.istore 4, 2) := by decide +kernel
theorem dX4_isPermitted_18 : decode cX4_isPermitted 18 = .ok (.iconst 0, 1) := by decide +kernel
theorem dX4_isPermitted_19 : decode cX4_isPermitted 19 = .ok (.istore 5, 2) := by decide +kernel
theorem dX4_isPermitted_21 : decode cX4_isPermitted 21 = .ok (.iload 5, 2) := by decide +kernel
theorem dX4_isPermitted_23 : decode cX4_isPermitted 23 = .ok (.iload 4, 2) := by decide +kernel
theorem dX4_isPermitted_25 : decode cX4_isPermitted 25 = .ok (.if_icmp .ge 32, 3) := by decide +kernel
theorem dX4_isPermitted_28 : decode cX4_isPermitted 28 = .ok (.aload_n 3, 1) := by decide +kernel
theorem dX4_isPermitted_29 : decode cX4_isPermitted 29 = .ok (.iload 5, 2) := by decide +kernel
theorem dX4_isPermitted_31 : decode cX4_isPermitted 31 = .ok (.aaload, 1) := by decide +kernel
theorem dX4_isPermitted_32 : decode cX4_isPermitted 32 = .ok (.astore 6, 2) := by decide +kernel
theorem dX4_isPermitted_34 : decode cX4_isPermitted 34 = .ok (.aload 6, 2) := by decide +kernel
theorem dX4_isPermitted_36 : decode cX4_isPermitted 36 = .ok (.ifnull 15, 3) := by decide +kernel
theorem dX4_isPermitted_39 : decode cX4_isPermitted 39 = .ok (.aload 6, 2) := by decide +kernel
theorem dX4_isPermitted_41 : decode cX4_isPermitted 41 = .ok (.aload_n 1, 1) := by decide +kernel
theorem dX4_isPermitted_42 : decode cX4_isPermitted 42 = .ok (.iload_n 2, 1) := by decide +kernel
theorem dX4_isPermitted_43 : decode cX4_isPermitted 43 = .ok (.invokevirtual 283, 3) := by decide +kernel
theorem dX4_isPermitted_46 : decode cX4_isPermitted 46 = .ok (.ifCond .eq 5, 3) := by decide +kernel
theorem dX4_isPermitted_49 : decode cX4_isPermitted 49 = .ok (.iconst 1, 1) := by decide +kernel
theorem dX4_isPermitted_50 : decode cX4_isPermitted 50 = .ok (.ireturn, 1) := by decide +kernel
theorem dX4_isPermitted_51 : decode cX4_isPermitted 51 = .ok (.iinc 5 1, 3) := by decide +kernel
theorem dX4_isPermitted_54 : decode cX4_isPermitted 54 = .ok (.goto (-33), 3) := by decide +kernel
theorem dX4_isPermitted_57 : decode cX4_isPermitted 57 = .ok (.iconst 0, 1) := by decide +kernel
theorem dX4_isPermitted_58 : decode cX4_isPermitted 58 = .ok (.ireturn, 1) := by decide +kernel
theorem dX4_isCastThere_0 : decode cX4_isCastThere 0 = .ok (.iconst 0, 1) := by decide +kernel
theorem dX4_isCastThere_1 : decode cX4_isCastThere 1 = .ok (.istore_n 3, 1) := by decide +kernel
theorem dX4_isCastThere_2 : decode cX4_isCastThere 2 = .ok (.iload_n 3, 1) := by decide +kernel
theorem dX4_isCastThere_3 : decode cX4_isCastThere 3 = .ok (.iconst 5, 1) := by decide +kernel
theorem dX4_isCastThere_4 : decode cX4_isCastThere 4 = .ok (.if_icmp .ge 31, 3) := by decide +kernel
theorem dX4_isCastThere_7 : decode cX4_isCastThere 7 = .ok (.aload_n 1, 1) := by decide +kernel
theorem dX4_isCastThere_8 : decode cX4_isCastThere 8 = .ok (.getfield 94, 3) := by decide +kernel
theorem dX4_isCastThere_11 : decode cX4_isCastThere 11 = .ok (.iload_n 3, 1) := by decide +kernel
theorem dX4_isCastThere_12 : decode cX4_isCastThere 12 = .ok (.iaload, 1) := by decide +kernel
theorem dX4_isCastThere_13 : decode cX4_isCastThere 13 = .ok (.bipush (-2), 2) := by decide +kernel
theorem dX4_isCastThere_15 : decode cX4_isCastThere 15 = .ok (.if_icmp .eq 14, 3) := by decide +kernel
theorem dX4_isCastThere_18 : decode cX4_isCastThere 18 = .ok (.aload_n 0, 1) := by decide +kernel
theorem dX4_isCastThere_19 : decode cX4_isCastThere 19 = .ok (.iload_n 3, 1) := by decide +kernel
theorem dX4_isCastThere_20 : decode cX4_isCastThere 20 = .ok (.iload_n 2, 1) := by decide +kernel
theorem dX4_isCastThere_21 : decode cX4_isCastThere 21 = .ok (.invokevirtual 163, 3) := by decide +kernel
theorem dX4_isCastThere_24 : decode cX4_isCastThere 24 = .ok (.ifCond .eq 5, 3) := by decide +kernel
theorem dX4_isCastThere_27 : decode cX4_isCastThere 27 = .ok (.iconst 0, 1) := by decide +kernel
theorem dX4_isCastThere_28 : decode cX4_isCastThere 28 = .ok (.ireturn, 1) := by decide +kernel
theorem dX4_isCastThere_29 : decode cX4_isCastThere 29 = .ok (.iinc 3 1, 3) := by decide +kernel
theorem dX4_isCastThere_32 : decode cX4_isCastThere 32 = .ok (.goto (-30), 3) := by decide +kernel
theorem dX4_isCastThere_35 : decode cX4_isCastThere 35 = .ok (.iconst 1, 1) := by decide +kernel
theorem dX4_isCastThere_36 : decode cX4_isCastThere 36 = .ok (.ireturn, 1) := by decide +kernel
theorem dX4_isAwayOn_0 : decode cX4_isAwayOn 0 = .ok (.aload_n 0, 1) := by decide +kernel
theorem dX4_isAwayOn_1 : decode cX4_isAwayOn 1 = .ok (.getfield 24, 3) := by decide +kernel
theorem dX4_isAwayOn_4 : decode cX4_isAwayOn 4 = .ok (.iload_n 1, 1) := by decide +kernel
theorem dX4_isAwayOn_5 : decode cX4_isAwayOn 5 = .ok (.iaload, 1) := by decide +kernel
theorem dX4_isAwayOn_6 : decode cX4_isAwayOn 6 = .ok (.iload_n 2, 1) := by decide +kernel
theorem dX4_isAwayOn_7 : decode cX4_isAwayOn 7 = .ok (.ishr, 1) := by decide +kernel
theorem dX4_isAwayOn_8 : decode cX4_isAwayOn 8 = .ok (.iconst 1, 1) := by decide +kernel
theorem dX4_isAwayOn_9 : decode cX4_isAwayOn 9 = .ok (.iand, 1) := by decide +kernel
theorem dX4_isAwayOn_10 : decode cX4_isAwayOn 10 = .ok (.ifCond .eq 7, 3) := by decide +kernel
theorem dX4_isAwayOn_13 : decode cX4_isAwayOn 13 = .ok (.iconst 1, 1) := by decide +kernel
theorem dX4_isAwayOn_14 : decode cX4_isAwayOn 14 = .ok (.goto 4, 3) := by decide +kernel
theorem dX4_isAwayOn_17 : decode cX4_isAwayOn 17 = .ok (.iconst 0, 1) := by decide +kernel
theorem dX4_isAwayOn_18 : decode cX4_isAwayOn 18 = .ok (.ireturn, 1) := by decide +kernel
theorem dX5_init_0 : decode cX5_init 0 = .ok (.aload_n 0, 1) := by decide +kernel
theorem dX5_init_1 : decode cX5_init 1 = .ok (.invokespecial 1, 3) := by decide +kernel
theorem dX5_init_4 : decode cX5_init 4 = .ok (.aload_n 0, 1) := by decide +kernel
theorem dX5_init_5 : decode cX5_init 5 = .ok (.iconst (-1), 1) := by decide +kernel
theorem dX5_init_6 : decode cX5_init 6 = .ok (.putfield 9, 3) := by decide +kernel
theorem dX5_init_9 : decode cX5_init 9 = .ok (.aload_n 0, 1) := by decide +kernel
theorem dX5_init_10 : decode cX5_init 10 = .ok (.bipush 10, 2) := by decide +kernel
theorem dX5_init_12 : decode cX5_init 12 = .ok (.newarray .int, 2) := by decide +kernel
theorem dX5_init_14 : decode cX5_init 14 = .ok (.putfield 13, 3) := by decide +kernel
theorem dX5_init_17 : decode cX5_init 17 = .ok (.aload_n 0, 1) := by decide +kernel
theorem dX5_init_18 : decode cX5_init 18 = .ok (.bipush 10, 2) := by decide +kernel
theorem dX5_init_20 : decode cX5_init 20 = .ok (.newarray .int, 2) := by decide +kernel
theorem dX5_init_22 : decode cX5_init 22 = .ok (.putfield 17, 3) := by decide +kernel
theorem dX5_init_25 : decode cX5_init 25 = .ok (.aload_n 0, 1) := by decide +kernel
theorem dX5_init_26 : decode cX5_init 26 = .ok (.bipush 10, 2) := by decide +kernel
theorem dX5_init_28 : decode cX5_init 28 = .ok (.newarray .int, 2) := by decide +kernel
theorem dX5_init_30 : decode cX5_init 30 = .ok (.putfield 20, 3) := by decide +kernel
theorem dX5_init_33 : decode cX5_init 33 = .ok (.aload_n 0, 1) := by decide +kernel
theorem dX5_init_34 : decode cX5_init 34 = .ok (.bipush 10, 2) := by decide +kernel
theorem dX5_init_36 : decode cX5_init 36 = .ok (.newarray .int, 2) := by decide +kernel
theorem dX5_init_38 : decode cX5_init 38 = .ok (.putfield 23, 3) := by decide +kernel
theorem dX5_init_41 : decode cX5_init 41 = .ok (.aload_n 0, 1) := by decide +kernel
theorem dX5_init_42 : decode cX5_init 42 = .ok (.bipush 50, 2) := by decide +kernel
theorem dX5_init_44 : decode cX5_init 44 = .ok (.newarray .int, 2) := by decide +kernel
theorem dX5_init_46 : decode cX5_init 46 = .ok (.putfield 26, 3) := by decide +kernel
theorem dX5_init_49 : decode cX5_init 49 = .ok (.aload_n 0, 1) := by decide +kernel
theorem dX5_init_50 : decode cX5_init 50 = .ok (.bipush 50, 2) := by decide +kernel
theorem dX5_init_52 : decode cX5_init 52 = .ok (.newarray .int, 2) := by decide +kernel
theorem dX5_init_54 : decode cX5_init 54 = .ok (.putfield 29, 3) := by decide +kernel
theorem dX5_init_57 : decode cX5_init 57 = .ok (.aload_n 0, 1) := by decide +kernel
theorem dX5_init_58 : decode cX5_init 58 = .ok (.bipush 50, 2) := by decide +kernel
theorem dX5_init_60 : decode cX5_init 60 = .ok (.newarray .int, 2) := by decide +kernel
theorem dX5_init_62 : decode cX5_init 62 = .ok (.putfield 32, 3) := by decide +kernel
theorem dX5_init_65 : decode cX5_init 65 = .ok (.aload_n 0, 1) := by decide +kernel
theorem dX5_init_66 : decode cX5_init 66 = .ok (.bipush 30, 2) := by decide +kernel
theorem dX5_init_68 : decode cX5_init 68 = .ok (.newarray .int, 2) := by decide +kernel
theorem dX5_init_70 : decode cX5_init 70 = .ok (.putfield 35, 3) := by decide +kernel
theorem dX5_init_73 : decode cX5_init 73 = .ok (.aload_n 0, 1) := by decide +kernel
theorem dX5_init_74 : decode cX5_init 74 = .ok (.bipush 20, 2) := by decide +kernel
theorem dX5_init_76 : decode cX5_init 76 = .ok (.newarray .int, 2) := by decide +kernel
theorem dX5_init_78 : decode cX5_init 78 = .ok (.putfield 38, 3) := by decide +kernel
theorem dX5_init_81 : decode cX5_init 81 = .ok (.aload_n 0, 1) := by decide +kernel
theorem dX5_init_82 : decode cX5_init 82 = .ok (.bipush 20, 2) := by decide +kernel
theorem dX5_init_84 : decode cX5_init 84 = .ok (.newarray .int, 2) := by decide +kernel
theorem dX5_init_86 : decode cX5_init 86 = .ok (.putfield 41, 3) := by decide +kernel
theorem dX5_init_89 : decode cX5_init 89 = .ok (.aload_n 0, 1) := by decide +kernel
theorem dX5_init_90 : decode cX5_init 90 = .ok (.bipush 20, 2) := by decide +kernel
theorem dX5_init_92 : decode cX5_init 92 = .ok (.newarray .int, 2) := by decide +kernel
theorem dX5_init_94 : decode cX5_init 94 = .ok (.putfield 44, 3) := by decide +kernel
theorem dX5_init_97 : decode cX5_init 97 = .ok (.aload_n 0, 1) := by decide +kernel
theorem dX5_init_98 : decode cX5_init 98 = .ok (.bipush 20, 2) := by decide +kernel
theorem dX5_init_100 : decode cX5_init 100 = .ok (.newarray .int, 2) := by decide +kernel
theorem dX5_init_102 : decode cX5_init 102 = .ok (.putfield 47, 3) := by decide +kernel
theorem dX5_init_105 : decode cX5_init 105 = .ok (.aload_n 0, 1) := by decide +kernel
theorem dX5_init_106 : decode cX5_init 106 = .ok (.bipush 20, 2) := by decide +kernel
theorem dX5_init_108 : decode cX5_init 108 = .ok (.newarray .boolean, 2) := by decide +kernel
theorem dX5_init_110 : decode cX5_init 110 = .ok (.putfield 50, 3) := by decide +kernel
theorem dX5_init_113 : decode cX5_init 113 = .ok (.aload_n 0, 1) := by decide +kernel
theorem dX5_init_114 : decode cX5_init 114 = .ok (.sipush 150, 3) := by decide +kernel
theorem dX5_init_117 : decode cX5_init 117 = .ok (.newarray .boolean, 2) := by decide +kernel
theorem dX5_init_119 : decode cX5_init 119 = .ok (.putfield 54, 3) := by decide +kernel
theorem dX5_init_122 : decode cX5_init 122 = .ok (.aload_n 0, 1) := by decide +kernel
theorem dX5_init_123 : decode cX5_init 123 = .ok (.iconst 5, 1) := by decide +kernel
theorem dX5_init_124 : decode cX5_init 124 = .ok (.newarray .int, 2) := by decide +kernel
theorem dX5_init_126 : decode cX5_init 126 = .ok (.putfield 57, 3) := by decide +kernel
theorem dX5_init_129 : decode cX5_init 129 = .ok (.aload_n 0, 1) := by decide +kernel
theorem dX5_init_130 : decode cX5_init 130 = .ok (.bipush 20, 2) := by decide +kernel
theorem dX5_init_132 : decode cX5_init 132 = .ok (.newarray .int, 2) := by decide +kernel
theorem dX5_init_134 : decode cX5_init 134 = .ok (.putfield 60, 3) := by decide +kernel
theorem dX5_init_137 : decode cX5_init 137 = .ok (.aload_n 0, 1) := by decide +kernel
theorem dX5_init_138 : decode cX5_init 138 = .ok (.iconst 5, 1) := by decide +kernel
theorem dX5_init_139 : decode cX5_init 139 = .ok (.newarray .int, 2) := by decide +kernel
theorem dX5_init_141 : decode cX5_init 141 = .ok (.putfield 63, 3) := by decide +kernel
theorem dX5_init_144 : decode cX5_init 144 = .ok (.aload_n 0, 1) := by decide +kernel
theorem dX5_init_145 : decode cX5_init 145 = .ok (.bipush 20, 2) := by decide +kernel
theorem dX5_init_147 : decode cX5_init 147 = .ok (.newarray .int, 2) := by decide +kernel
theorem dX5_init_149 : decode cX5_init 149 = .ok (.putfield 66, 3) := by decide +kernel
theorem dX5_init_152 : decode cX5_init 152 = .ok (.aload_n 0, 1) := by decide +kernel
theorem dX5_init_153 : decode cX5_init 153 = .ok (.bipush 10, 2) := by decide +kernel
theorem dX5_init_155 : decode cX5_init 155 = .ok (.newarray .int, 2) := by decide +kernel
theorem dX5_init_157 : decode cX5_init 157 = .ok (.putfield 69, 3) := by decide +kernel
theorem dX5_init_160 : decode cX5_init 160 = .ok (.aload_n 0, 1) := by decide +kernel
theorem dX5_init_161 : decode cX5_init 161 = .ok (.bipush 10, 2) := by decide +kernel
theorem dX5_init_163 : decode cX5_init 163 = .ok (.newarray .int, 2) := by decide +kernel
theorem dX5_init_165 : decode cX5_init 165 = .ok (.putfield 72, 3) := by decide +kernel
theorem dX5_init_168 : decode cX5_init 168 = .ok (.iconst 0, 1) := by decide +kernel
theorem dX5_init_169 : decode cX5_init 169 = .ok (.istore_n 1, 1) := by decide +kernel
theorem dX5_init_170 : decode cX5_init 170 = .ok (.iload_n 1, 1) := by decide +kernel
theorem dX5_init_171 : decode cX5_init 171 = .ok (.bipush 30, 2) := by decide +kernel
theorem dX5_init_173 : decode cX5_init 173 = .ok (.if_icmp .ge 16, 3) := by decide +kernel
theorem dX5_init_176 : decode cX5_init 176 = .ok (.aload_n 0, 1) := by decide +kernel
theorem dX5_init_177 : decode cX5_init 177 = .ok (.getfield 35, 3) := by decide +kernel
theorem dX5_init_180 : decode cX5_init 180 = .ok (.iload_n 1, 1) := by decide +kernel
theorem dX5_init_181 : decode cX5_init 181 = .ok (.iconst (-1), 1) := by decide +kernel
theorem dX5_init_182 : decode cX5_init 182 = .ok (.iastore, 1) := by decide +kernel
theorem dX5_init_183 : decode cX5_init 183 = .ok (.iinc 1 1, 3) := by decide +kernel
theorem dX5_init_186 : decode cX5_init 186 = .ok (.goto (-16), 3) := by decide +kernel
theorem dX5_init_189 : decode cX5_init 189 = .ok (.return_, 1) := by decide +kernel
theorem dX5_thrown_0 : decode cX5_thrown 0 = .ok (.aload_n 0, 1) := by decide +kernel
theorem dX5_thrown_1 : decode cX5_thrown 1 = .ok (.getfield 75, 3) := by decide +kernel
theorem dX5_thrown_4 : decode cX5_thrown 4 = .ok (.ireturn, 1) := by decide +kernel
theorem dX5_in_0 : decode cX5_in 0 = .ok (.iload_n 0, 1) := by decide +kernel
theorem dX5_in_1 : decode cX5_in 1 = .ok (.iload_n 1, 1) := by decide +kernel
theorem dX5_in_2 : decode cX5_in 2 = .ok (.if_icmp .lt 12, 3) := by decide +kernel
theorem dX5_in_5 : decode cX5_in 5 = .ok (.iload_n 0, 1) := by decide +kernel
theorem dX5_in_6 : decode cX5_in 6 = .ok (.iload_n 2, 1) := by decide +kernel
theorem dX5_in_7 : decode cX5_in 7 = .ok (.if_icmp .gt 7, 3) := by decide +kernel
theorem dX5_in_10 : decode cX5_in 10 = .ok (.iconst 1, 1) := by decide +kernel
theorem dX5_in_11 : decode cX5_in 11 = .ok (.goto 4, 3) := by decide +kernel
theorem dX5_in_14 : decode cX5_in 14 = .ok (.iconst 0, 1) := by decide +kernel
theorem dX5_in_15 : decode cX5_in 15 = .ok (.ireturn, 1) := by decide +kernel
theorem dX5_goes_0 : decode cX5_goes 0 = .ok (.aload_n 0, 1) := by decide +kernel
theorem dX5_goes_1 : decode cX5_goes 1 = .ok (.iload_n 1, 1) := by decide +kernel
theorem dX5_goes_2 : decode cX5_goes 2 = .ok (.ifCond .ne 7, 3) := by decide +kernel
theorem dX5_goes_5 : decode cX5_goes 5 = .ok (.iconst 1, 1) := by decide +kernel
theorem dX5_goes_6 : decode cX5_goes 6 = .ok (.goto 20, 3) := by decide +kernel
theorem dX5_goes_9 : decode cX5_goes 9 = .ok (.iload_n 2, 1) := by decide +kernel
theorem dX5_goes_10 : decode cX5_goes 10 = .ok (.ifCond .ne 7, 3) := by decide +kernel
theorem dX5_goes_13 : decode cX5_goes 13 = .ok (.iconst 2, 1) := by decide +kernel
theorem dX5_goes_14 : decode cX5_goes 14 = .ok (.goto 12, 3) := by decide +kernel
theorem dX5_goes_17 : decode cX5_goes 17 = .ok (.iload_n 3, 1) := by decide +kernel
theorem dX5_goes_18 : decode cX5_goes 18 = .ok (.ifCond .ne 7, 3) := by decide +kernel
theorem dX5_goes_21 : decode cX5_goes 21 = .ok (.iconst 3, 1) := by decide +kernel
theorem dX5_goes_22 : decode cX5_goes 22 = .ok (.goto 4, 3) := by decide +kernel
theorem dX5_goes_25 : decode cX5_goes 25 = .ok (.iconst 0, 1) := by decide +kernel
theorem dX5_goes_26 : decode cX5_goes 26 = .ok (.putfield 75, 3) := by decide +kernel
theorem dX5_goes_29 : decode cX5_goes 29 = .ok (.aload_n 0, 1) := by decide +kernel
theorem dX5_goes_30 : decode cX5_goes 30 = .ok (.getfield 75, 3) := by decide +kernel
theorem dX5_goes_33 : decode cX5_goes 33 = .ok (.ifCond .ne 7, 3) := by decide +kernel
theorem dX5_goes_36 : decode cX5_goes 36 = .ok (.iconst 1, 1) := by decide +kernel
theorem dX5_goes_37 : decode cX5_goes 37 = .ok (.goto 4, 3) := by decide +kernel
theorem dX5_goes_40 : decode cX5_goes 40 = .ok (.iconst 0, 1) := by decide +kernel
theorem dX5_goes_41 : decode cX5_goes 41 = .ok (.ireturn, 1) := by decide +kernel
theorem dX5_told_0 : decode cX5_told 0 = .ok (.aload_n 0, 1) := by decide +kernel
theorem dX5_told_1 : decode cX5_told 1 = .ok (.iconst 0, 1) := by decide +kernel
theorem dX5_told_2 : decode cX5_told 2 = .ok (.putfield 75, 3) := by decide +kernel
theorem dX5_told_5 : decode cX5_told 5 = .ok (.iload_n 1, 1) := by decide +kernel
theorem dX5_told_6 : decode cX5_told 6 = .ok (.ireturn, 1) := by decide +kernel
theorem dX5_isScene_0 : decode cX5_isScene 0 = .ok (.iload_n 1, 1) := by decide +kernel
theorem dX5_isScene_1 : decode cX5_isScene 1 = .ok (.iconst 0, 1) := by decide +kernel
theorem dX5_isScene_2 : decode cX5_isScene 2 = .ok (.aload_n 0, 1) := by decide +kernel
theorem dX5_isScene_3 : decode cX5_isScene 3 = .ok (.getfield 78, 3) := by decide +kernel
theorem dX5_isScene_6 : decode cX5_isScene 6 = .ok (.iconst 1, 1) := by decide +kernel
theorem dX5_isScene_7 : decode cX5_isScene 7 = .ok (.isub, 1) := by decide +kernel
theorem dX5_isScene_8 : decode cX5_isScene 8 = .ok (.invokestatic 81, 3) := by decide +kernel
theorem dX5_isScene_11 : decode cX5_isScene 11 = .ok (.ireturn, 1) := by decide +kernel
theorem dX5_isActor_0 : decode cX5_isActor 0 = .ok (.iload_n 0, 1) := by decide +kernel
theorem dX5_isActor_1 : decode cX5_isActor 1 = .ok (.iconst 0, 1) := by decide +kernel
theorem dX5_isActor_2 : decode cX5_isActor 2 = .ok (.iconst 4, 1) := by decide +kernel
theorem dX5_isActor_3 : decode cX5_isActor 3 = .ok (.invokestatic 81, 3) := by decide +kernel
theorem dX5_isActor_6 : decode cX5_isActor 6 = .ok (.ireturn, 1) := by decide +kernel
theorem dX5_isProp_0 : decode cX5_isProp 0 = .ok (.iload_n 0, 1) := by decide +kernel
theorem dX5_isProp_1 : decode cX5_isProp 1 = .ok (.iconst 0, 1) := by decide +kernel
theorem dX5_isProp_2 : decode cX5_isProp 2 = .ok (.iconst 4, 1) := by decide +kernel
theorem dX5_isProp_3 : decode cX5_isProp 3 = .ok (.invokestatic 81, 3) := by decide +kernel
theorem dX5_isProp_6 : decode cX5_isProp 6 = .ok (.ireturn, 1) := by decide +kernel
theorem dX5_isDay_0 : decode cX5_isDay 0 = .ok (.iload_n 0, 1) := by decide +kernel
theorem dX5_isDay_1 : decode cX5_isDay 1 = .ok (.iconst 0, 1) := by decide +kernel
theorem dX5_isDay_2 : decode cX5_isDay 2 = .ok (.bipush 29, 2) := by decide +kernel
theorem dX5_isDay_4 : decode cX5_isDay 4 = .ok (.invokestatic 81, 3) := by decide +kernel
theorem dX5_isDay_7 : decode cX5_isDay 7 = .ok (.ireturn, 1) := by decide +kernel
theorem dX5_isAhead_0 : decode cX5_isAhead 0 = .ok (.iload_n 1, 1) := by decide +kernel
theorem dX5_isAhead_1 : decode cX5_isAhead 1 = .ok (.aload_n 0, 1) := by decide +kernel
theorem dX5_isAhead_2 : decode cX5_isAhead 2 = .ok (.getfield 85, 3) := by decide +kernel
theorem dX5_isAhead_5 : decode cX5_isAhead 5 = .ok (.bipush 29, 2) := by decide +kernel
theorem dX5_isAhead_7 : decode cX5_isAhead 7 = .ok (.invokestatic 81, 3) := by decide +kernel
theorem dX5_isAhead_10 : decode cX5_isAhead 10 = .ok (.ireturn, 1) := by decide +kernel
theorem dX5_lays_0 : decode cX5_lays 0 = .ok (.iconst 0, 1) := by decide +kernel
theorem dX5_lays_1 : decode cX5_lays 1 = .ok (.istore_n 1, 1) := by decide +kernel
theorem dX5_lays_2 : decode cX5_lays 2 = .ok (.iload_n 1, 1) := by decide +kernel
theorem dX5_lays_3 : decode cX5_lays 3 = .ok (.iconst 5, 1) := by decide +kernel
theorem dX5_lays_4 : decode cX5_lays 4 = .ok (.if_icmp .ge 21, 3) := by decide +kernel
theorem dX5_lays_7 : decode cX5_lays 7 = .ok (.aload_n 0, 1) := by decide +kernel
theorem dX5_lays_8 : decode cX5_lays 8 = .ok (.getfield 63, 3) := by decide +kernel
theorem dX5_lays_11 : decode cX5_lays 11 = .ok (.iload_n 1, 1) := by decide +kernel
theorem dX5_lays_12 : decode cX5_lays 12 = .ok (.aload_n 0, 1) := by decide +kernel
theorem dX5_lays_13 : decode cX5_lays 13 = .ok (.getfield 57, 3) := by decide +kernel
theorem dX5_lays_16 : decode cX5_lays 16 = .ok (.iload_n 1, 1) := by decide +kernel
theorem dX5_lays_17 : decode cX5_lays 17 = .ok (.iaload, 1) := by decide +kernel
theorem dX5_lays_18 : decode cX5_lays 18 = .ok (.iastore, 1) := by decide +kernel
theorem dX5_lays_19 : decode cX5_lays 19 = .ok (.iinc 1 1, 3) := by decide +kernel
theorem dX5_lays_22 : decode cX5_lays 22 = .ok (.goto (-20), 3) := by decide +kernel
theorem dX5_lays_25 : decode cX5_lays 25 = .ok (.iconst 0, 1) := by decide +kernel
theorem dX5_lays_26 : decode cX5_lays 26 = .ok (.istore_n 1, 1) := by decide +kernel
theorem dX5_lays_27 : decode cX5_lays 27 = .ok (.iload_n 1, 1) := by decide +kernel
theorem dX5_lays_28 : decode cX5_lays 28 = .ok (.bipush 20, 2) := by decide +kernel
theorem dX5_lays_30 : decode cX5_lays 30 = .ok (.if_icmp .ge 21, 3) := by decide +kernel
theorem dX5_lays_33 : decode cX5_lays 33 = .ok (.aload_n 0, 1) := by decide +kernel
theorem dX5_lays_34 : decode cX5_lays 34 = .ok (.getfield 66, 3) := by decide +kernel
theorem dX5_lays_37 : decode cX5_lays 37 = .ok (.iload_n 1, 1) := by decide +kernel
theorem dX5_lays_38 : decode cX5_lays 38 = .ok (.aload_n 0, 1) := by decide +kernel
theorem dX5_lays_39 : decode cX5_lays 39 = .ok (.getfield 60, 3) := by decide +kernel
theorem dX5_lays_42 : decode cX5_lays 42 = .ok (.iload_n 1, 1) := by decide +kernel
theorem dX5_lays_43 : decode cX5_lays 43 = .ok (.iaload, 1) := by decide +kernel
theorem dX5_lays_44 : decode cX5_lays 44 = .ok (.iastore, 1) := by decide +kernel
theorem dX5_lays_45 : decode cX5_lays 45 = .ok (.iinc 1 1, 3) := by decide +kernel
theorem dX5_lays_48 : decode cX5_lays 48 = .ok (.goto (-21), 3) := by decide +kernel
theorem dX5_lays_51 : decode cX5_lays 51 = .ok (.return_, 1) := by decide +kernel
theorem dX5_keeps_0 : decode cX5_keeps 0 = .ok (.iconst 0, 1) := by decide +kernel
theorem dX5_keeps_1 : decode cX5_keeps 1 = .ok (.istore_n 1, 1) := by decide +kernel
theorem dX5_keeps_2 : decode cX5_keeps 2 = .ok (.iload_n 1, 1) := by decide +kernel
theorem dX5_keeps_3 : decode cX5_keeps 3 = .ok (.iconst 5, 1) := by decide +kernel
theorem dX5_keeps_4 : decode cX5_keeps 4 = .ok (.if_icmp .ge 21, 3) := by decide +kernel
theorem dX5_keeps_7 : decode cX5_keeps 7 = .ok (.aload_n 0, 1) := by decide +kernel
theorem dX5_keeps_8 : decode cX5_keeps 8 = .ok (.getfield 57, 3) := by decide +kernel
theorem dX5_keeps_11 : decode cX5_keeps 11 = .ok (.iload_n 1, 1) := by decide +kernel
theorem dX5_keeps_12 : decode cX5_keeps 12 = .ok (.aload_n 0, 1) := by decide +kernel
theorem dX5_keeps_13 : decode cX5_keeps 13 = .ok (.getfield 63, 3) := by decide +kernel
theorem dX5_keeps_16 : decode cX5_keeps 16 = .ok (.iload_n 1, 1) := by decide +kernel
theorem dX5_keeps_17 : decode cX5_keeps 17 = .ok (.iaload, 1) := by decide +kernel
theorem dX5_keeps_18 : decode cX5_keeps 18 = .ok (.iastore, 1) := by decide +kernel
theorem dX5_keeps_19 : decode cX5_keeps 19 = .ok (.iinc 1 1, 3) := by decide +kernel
theorem dX5_keeps_22 : decode cX5_keeps 22 = .ok (.goto (-20), 3) := by decide +kernel
theorem dX5_keeps_25 : decode cX5_keeps 25 = .ok (.iconst 0, 1) := by decide +kernel
theorem dX5_keeps_26 : decode cX5_keeps 26 = .ok (.istore_n 1, 1) := by decide +kernel
theorem dX5_keeps_27 : decode cX5_keeps 27 = .ok (.iload_n 1, 1) := by decide +kernel
theorem dX5_keeps_28 : decode cX5_keeps 28 = .ok (.bipush 20, 2) := by decide +kernel
theorem dX5_keeps_30 : decode cX5_keeps 30 = .ok (.if_icmp .ge 21, 3) := by decide +kernel
theorem dX5_keeps_33 : decode cX5_keeps 33 = .ok (.aload_n 0, 1) := by decide +kernel
theorem dX5_keeps_34 : decode cX5_keeps 34 = .ok (.getfield 60, 3) := by decide +kernel
theorem dX5_keeps_37 : decode cX5_keeps 37 = .ok (.iload_n 1, 1) := by decide +kernel
theorem dX5_keeps_38 : decode cX5_keeps 38 = .ok (.aload_n 0, 1) := by decide +kernel
theorem dX5_keeps_39 : decode cX5_keeps 39 = .ok (.getfield 66, 3) := by decide +kernel
theorem dX5_keeps_42 : decode cX5_keeps 42 = .ok (.iload_n 1, 1) := by decide +kernel
theorem dX5_keeps_43 : decode cX5_keeps 43 = .ok (.iaload, 1) := by decide +kernel
theorem dX5_keeps_44 : decode cX5_keeps 44 = .ok (.iastore, 1) := by decide +kernel
theorem dX5_keeps_45 : decode cX5_keeps 45 = .ok (.iinc 1 1, 3) := by decide +kernel
theorem dX5_keeps_48 : decode cX5_keeps 48 = .ok (.goto (-21), 3) := by decide +kernel
theorem dX5_keeps_51 : decode cX5_keeps 51 = .ok (.return_, 1) := by decide +kernel
theorem dX5_grows_0 : decode cX5_grows 0 = .ok (.iconst 0, 1) := by decide +kernel
theorem dX5_grows_1 : decode cX5_grows 1 = .ok (.istore_n 1, 1) := by decide +kernel
theorem dX5_grows_2 : decode cX5_grows 2 = .ok (.iload_n 1, 1) := by decide +kernel
theorem dX5_grows_3 : decode cX5_grows 3 = .ok (.iconst 5, 1) := by decide +kernel
theorem dX5_grows_4 : decode cX5_grows 4 = .ok (.if_icmp .ge 34, 3) := by decide +kernel
theorem dX5_grows_7 : decode cX5_grows 7 = .ok (.aload_n 0, 1) := by decide +kernel
theorem dX5_grows_8 : decode cX5_grows 8 = .ok (.getfield 63, 3) := by decide +kernel
theorem dX5_grows_11 : decode cX5_grows 11 = .ok (.iload_n 1, 1) := by decide +kernel
theorem dX5_grows_12 : decode cX5_grows 12 = .ok (.dup2, 1) := by decide +kernel
theorem dX5_grows_13 : decode cX5_grows 13 = .ok (.iaload, 1) := by decide +kernel
theorem dX5_grows_14 : decode cX5_grows 14 = .ok (.aload_n 0, 1) := by decide +kernel
theorem dX5_grows_15 : decode cX5_grows 15 = .ok (.getfield 63, 3) := by decide +kernel
theorem dX5_grows_18 : decode cX5_grows 18 = .ok (.iload_n 1, 1) := by decide +kernel
theorem dX5_grows_19 : decode cX5_grows 19 = .ok (.iaload, 1) := by decide +kernel
theorem dX5_grows_20 : decode cX5_grows 20 = .ok (.bipush 20, 2) := by decide +kernel
theorem dX5_grows_22 : decode cX5_grows 22 = .ok (.if_icmp .ge 7, 3) := by decide +kernel
theorem dX5_grows_25 : decode cX5_grows 25 = .ok (.iconst 1, 1) := by decide +kernel
theorem dX5_grows_26 : decode cX5_grows 26 = .ok (.goto 4, 3) := by decide +kernel
theorem dX5_grows_29 : decode cX5_grows 29 = .ok (.iconst 0, 1) := by decide +kernel
theorem dX5_grows_30 : decode cX5_grows 30 = .ok (.iadd, 1) := by decide +kernel
theorem dX5_grows_31 : decode cX5_grows 31 = .ok (.iastore, 1) := by decide +kernel
theorem dX5_grows_32 : decode cX5_grows 32 = .ok (.iinc 1 1, 3) := by decide +kernel
theorem dX5_grows_35 : decode cX5_grows 35 = .ok (.goto (-33), 3) := by decide +kernel
theorem dX5_grows_38 : decode cX5_grows 38 = .ok (.return_, 1) := by decide +kernel
theorem dX5_servesActor_0 : decode cX5_servesActor 0 = .ok (.aload_n 0, 1) := by decide +kernel
theorem dX5_servesActor_1 : decode cX5_servesActor 1 = .ok (.getfield 26, 3) := by decide +kernel
theorem dX5_servesActor_4 : decode cX5_servesActor 4 = .ok (.iconst 5, 1) := by decide +kernel
theorem dX5_servesActor_5 : decode cX5_servesActor 5 = .ok (.iload_n 1, 1) := by decide +kernel
theorem dX5_servesActor_6 : decode cX5_servesActor 6 = .ok (.imul, 1) := by decide +kernel
theorem dX5_servesActor_7 : decode cX5_servesActor 7 = .ok (.iload_n 2, 1) := by decide +kernel
theorem dX5_servesActor_8 : decode cX5_servesActor 8 = .ok (.iadd, 1) := by decide +kernel
theorem dX5_servesActor_9 : decode cX5_servesActor 9 = .ok (.iaload, 1) := by decide +kernel
theorem dX5_servesActor_10 : decode cX5_servesActor 10 = .ok (.istore_n 3, 1) := by decide +kernel
theorem dX5_servesActor_11 : decode cX5_servesActor 11 = .ok (.aload_n 0, 1) := by decide +kernel
theorem dX5_servesActor_12 : decode cX5_servesActor 12 = .ok (.getfield 63, 3) := by decide +kernel
theorem dX5_servesActor_15 : decode cX5_servesActor 15 = .ok (.iload_n 2, 1) := by decide +kernel
theorem dX5_servesActor_16 : decode cX5_servesActor 16 = .ok (.iload_n 3, 1) := by decide +kernel
theorem dX5_servesActor_17 : decode cX5_servesActor 17 = .ok (.ifCond .ne 7, 3) := by decide +kernel
theorem dX5_servesActor_20 : decode cX5_servesActor 20 = .ok (.iconst 0, 1) := by decide +kernel
theorem dX5_servesActor_21 : decode cX5_servesActor 21 = .ok (.goto 9, 3) := by decide +kernel
theorem dX5_servesActor_24 : decode cX5_servesActor 24 = .ok (.aload_n 0, 1) := by decide +kernel
theorem dX5_servesActor_25 : decode cX5_servesActor 25 = .ok (.getfield 63, 3) := by decide +kernel
theorem dX5_servesActor_28 : decode cX5_servesActor 28 = .ok (.iload_n 2, 1) := by decide +kernel
theorem dX5_servesActor_29 : decode cX5_servesActor 29 = .ok (.iaload, 1) := by decide +kernel
theorem dX5_servesActor_30 : decode cX5_servesActor 30 = .ok (.iastore, 1) := by decide +kernel
theorem dX5_servesActor_31 : decode cX5_servesActor 31 = .ok (.iload_n 3, 1) := by decide +kernel
theorem dX5_servesActor_32 : decode cX5_servesActor 32 = .ok (.aload_n 0, 1) := by decide +kernel
theorem dX5_servesActor_33 : decode cX5_servesActor 33 = .ok (.getfield 63, 3) := by decide +kernel
theorem dX5_servesActor_36 : decode cX5_servesActor 36 = .ok (.iload_n 2, 1) := by decide +kernel
theorem dX5_servesActor_37 : decode cX5_servesActor 37 = .ok (.iaload, 1) := by decide +kernel
theorem dX5_servesActor_38 : decode cX5_servesActor 38 = .ok (.if_icmp .le 7, 3) := by decide +kernel
theorem dX5_servesActor_41 : decode cX5_servesActor 41 = .ok (.iconst 3, 1) := by decide +kernel
theorem dX5_servesActor_42 : decode cX5_servesActor 42 = .ok (.goto 4, 3) := by decide +kernel
theorem dX5_servesActor_45 : decode cX5_servesActor 45 = .ok (.iconst 0, 1) := by decide +kernel
theorem dX5_servesActor_46 : decode cX5_servesActor 46 = .ok (.ireturn, 1) := by decide +kernel
theorem dX5_servesProp_0 : decode cX5_servesProp 0 = .ok (.aload_n 0, 1) := by decide +kernel
theorem dX5_servesProp_1 : decode cX5_servesProp 1 = .ok (.getfield 29, 3) := by decide +kernel
theorem dX5_servesProp_4 : decode cX5_servesProp 4 = .ok (.iconst 5, 1) := by decide +kernel
theorem dX5_servesProp_5 : decode cX5_servesProp 5 = .ok (.iload_n 1, 1) := by decide +kernel
theorem dX5_servesProp_6 : decode cX5_servesProp 6 = .ok (.imul, 1) := by decide +kernel
theorem dX5_servesProp_7 : decode cX5_servesProp 7 = .ok (.iload_n 2, 1) := by decide +kernel
theorem dX5_servesProp_8 : decode cX5_servesProp 8 = .ok (.iadd, 1) := by decide +kernel
theorem dX5_servesProp_9 : decode cX5_servesProp 9 = .ok (.iaload, 1) := by decide +kernel
theorem dX5_servesProp_10 : decode cX5_servesProp 10 = .ok (.istore_n 3, 1) := by decide +kernel
theorem dX5_servesProp_11 : decode cX5_servesProp 11 = .ok (.iload_n 3, 1) := by decide +kernel
theorem dX5_servesProp_12 : decode cX5_servesProp 12 = .ok (.iconst (-1), 1) := by decide +kernel
theorem dX5_servesProp_13 : decode cX5_servesProp 13 = .ok (.if_icmp .ne 5, 3) := by decide +kernel
theorem dX5_servesProp_16 : decode cX5_servesProp 16 = .ok (.iconst 0, 1) := by decide +kernel
theorem dX5_servesProp_17 : decode cX5_servesProp 17 = .ok (.ireturn, 1) := by decide +kernel
theorem dX5_servesProp_18 : decode cX5_servesProp 18 = .ok (.iload_n 3, 1) := by decide +kernel
theorem dX5_servesProp_19 : decode cX5_servesProp 19 = .ok (.istore 4, 2) := by decide +kernel
theorem dX5_servesProp_21 : decode cX5_servesProp 21 = .ok (.iload 4, 2) := by decide +kernel
theorem dX5_servesProp_23 : decode cX5_servesProp 23 = .ok (.ifCond .lt 23, 3) := by decide +kernel
theorem dX5_servesProp_26 : decode cX5_servesProp 26 = .ok (.aload_n 0, 1) := by decide +kernel
theorem dX5_servesProp_27 : decode cX5_servesProp 27 = .ok (.getfield 66, 3) := by decide +kernel
theorem dX5_servesProp_30 : decode cX5_servesProp 30 = .ok (.iconst 4, 1) := by decide +kernel
theorem dX5_servesProp_31 : decode cX5_servesProp 31 = .ok (.iload_n 2, 1) := by decide +kernel
theorem dX5_servesProp_32 : decode cX5_servesProp 32 = .ok (.imul, 1) := by decide +kernel
theorem dX5_servesProp_33 : decode cX5_servesProp 33 = .ok (.iload 4, 2) := by decide +kernel
theorem dX5_servesProp_35 : decode cX5_servesProp 35 = .ok (.iadd, 1) := by decide +kernel
theorem dX5_servesProp_36 : decode cX5_servesProp 36 = .ok (.iaload, 1) := by decide +kernel
theorem dX5_servesProp_37 : decode cX5_servesProp 37 = .ok (.ifCond .ne 9, 3) := by decide +kernel
theorem dX5_servesProp_40 : decode cX5_servesProp 40 = .ok (.iinc 4 (-1), 3) := by decide +kernel
theorem dX5_servesProp_43 : decode cX5_servesProp 43 = .ok (.goto (-22), 3) := by decide +kernel
theorem dX5_servesProp_46 : decode cX5_servesProp 46 = .ok (.iload 4, 2) := by decide +kernel
theorem dX5_servesProp_48 : decode cX5_servesProp 48 = .ok (.ifCond .ge 9, 3) := by decide +kernel
theorem dX5_servesProp_51 : decode cX5_servesProp 51 = .ok (.iconst 5, 1) := by decide +kernel
theorem dX5_servesProp_52 : decode cX5_servesProp 52 = .ok (.iload_n 3, 1) := by decide +kernel
theorem dX5_servesProp_53 : decode cX5_servesProp 53 = .ok (.iadd, 1) := by decide +kernel
theorem dX5_servesProp_54 : decode cX5_servesProp 54 = .ok (.goto 7, 3) := by decide +kernel
theorem dX5_servesProp_57 : decode cX5_servesProp 57 = .ok (.iload_n 3, 1) := by decide +kernel
theorem dX5_servesProp_58 : decode cX5_servesProp 58 = .ok (.iload 4, 2) := by decide +kernel
theorem dX5_servesProp_60 : decode cX5_servesProp 60 = .ok (.isub, 1) := by decide +kernel
theorem dX5_servesProp_61 : decode cX5_servesProp 61 = .ok (.istore 5, 2) := by decide +kernel
theorem dX5_servesProp_63 : decode cX5_servesProp 63 = .ok (.iload 4, 2) := by decide +kernel
theorem dX5_servesProp_65 : decode cX5_servesProp 65 = .ok (.ifCond .lt 18, 3) := by decide +kernel
theorem dX5_servesProp_68 : decode cX5_servesProp 68 = .ok (.aload_n 0, 1) := by decide +kernel
theorem dX5_servesProp_69 : decode cX5_servesProp 69 = .ok (.getfield 66, 3) := by decide +kernel
theorem dX5_servesProp_72 : decode cX5_servesProp 72 = .ok (.iconst 4, 1) := by decide +kernel
theorem dX5_servesProp_73 : decode cX5_servesProp 73 = .ok (.iload_n 2, 1) := by decide +kernel
theorem dX5_servesProp_74 : decode cX5_servesProp 74 = .ok (.imul, 1) := by decide +kernel
theorem dX5_servesProp_75 : decode cX5_servesProp 75 = .ok (.iload 4, 2) := by decide +kernel
theorem dX5_servesProp_77 : decode cX5_servesProp 77 = .ok (.iadd, 1) := by decide +kernel
theorem dX5_servesProp_78 : decode cX5_servesProp 78 = .ok (.dup2, 1) := by decide +kernel
theorem dX5_servesProp_79 : decode cX5_servesProp 79 = .ok (.iaload, 1) := by decide +kernel
theorem dX5_servesProp_80 : decode cX5_servesProp 80 = .ok (.iconst 1, 1) := by decide +kernel
theorem dX5_servesProp_81 : decode cX5_servesProp 81 = .ok (.isub, 1) := by decide +kernel
theorem dX5_servesProp_82 : decode cX5_servesProp 82 = .ok (.iastore, 1) := by decide +kernel
theorem dX5_servesProp_83 : decode cX5_servesProp 83 = .ok (.aload_n 0, 1) := by decide +kernel
theorem dX5_servesProp_84 : decode cX5_servesProp 84 = .ok (.getfield 66, 3) := by decide +kernel
theorem dX5_servesProp_87 : decode cX5_servesProp 87 = .ok (.iconst 4, 1) := by decide +kernel
theorem dX5_servesProp_88 : decode cX5_servesProp 88 = .ok (.iload_n 2, 1) := by decide +kernel
theorem dX5_servesProp_89 : decode cX5_servesProp 89 = .ok (.imul, 1) := by decide +kernel
theorem dX5_servesProp_90 : decode cX5_servesProp 90 = .ok (.aload_n 0, 1) := by decide +kernel
theorem dX5_servesProp_91 : decode cX5_servesProp 91 = .ok (.getfield 32, 3) := by decide +kernel
theorem dX5_servesProp_94 : decode cX5_servesProp 94 = .ok (.iconst 5, 1) := by decide +kernel
theorem dX5_servesProp_95 : decode cX5_servesProp 95 = .ok (.iload_n 1, 1) := by decide +kernel
theorem dX5_servesProp_96 : decode cX5_servesProp 96 = .ok (.imul, 1) := by decide +kernel
theorem dX5_servesProp_97 : decode cX5_servesProp 97 = .ok (.iload_n 2, 1) := by decide +kernel
theorem dX5_servesProp_98 : decode cX5_servesProp 98 = .ok (.iadd, 1) := by decide +kernel
theorem dX5_servesProp_99 : decode cX5_servesProp 99 = .ok (.iaload, 1) := by decide +kernel
theorem dX5_servesProp_100 : decode cX5_servesProp 100 = .ok (.iadd, 1) := by decide +kernel
theorem dX5_servesProp_101 : decode cX5_servesProp 101 = .ok (.dup2, 1) := by decide +kernel
theorem dX5_servesProp_102 : decode cX5_servesProp 102 = .ok (.iaload, 1) := by decide +kernel
theorem dX5_servesProp_103 : decode cX5_servesProp 103 = .ok (.iconst 1, 1) := by decide +kernel
theorem dX5_servesProp_104 : decode cX5_servesProp 104 = .ok (.iadd, 1) := by decide +kernel
theorem dX5_servesProp_105 : decode cX5_servesProp 105 = .ok (.iastore, 1) := by decide +kernel
theorem dX5_servesProp_106 : decode cX5_servesProp 106 = .ok (.iload 5, 2) := by decide +kernel
theorem dX5_servesProp_108 : decode cX5_servesProp 108 = .ok (.ireturn, 1) := by decide +kernel
theorem dX5_serves_0 : decode cX5_serves 0 = .ok (.iload_n 2, 1) := by decide +kernel
theorem dX5_serves_1 : decode cX5_serves 1 = .ok (.iconst (-1), 1) := by decide +kernel
theorem dX5_serves_2 : decode cX5_serves 2 = .ok (.if_icmp .eq 17, 3) := by decide +kernel
theorem dX5_serves_5 : decode cX5_serves 5 = .ok (.iload_n 2, 1) := by decide +kernel
theorem dX5_serves_6 : decode cX5_serves 6 = .ok (.aload_n 0, 1) := by decide +kernel
theorem dX5_serves_7 : decode cX5_serves 7 = .ok (.getfield 13, 3) := by decide +kernel
theorem dX5_serves_10 : decode cX5_serves 10 = .ok (.iload_n 1, 1) := by decide +kernel
theorem dX5_serves_11 : decode cX5_serves 11 = .ok (.iaload, 1) := by decide +kernel
theorem dX5_serves_12 : decode cX5_serves 12 = .ok (.if_icmp .eq 7, 3) := by decide +kernel
theorem dX5_serves_15 : decode cX5_serves 15 = .ok (.iconst 2, 1) := by decide +kernel
theorem dX5_serves_16 : decode cX5_serves 16 = .ok (.goto 4, 3) := by decide +kernel
theorem dX5_serves_19 : decode cX5_serves 19 = .ok (.iconst 0, 1) := by decide +kernel
theorem dX5_serves_20 : decode cX5_serves 20 = .ok (.istore_n 3, 1) := by decide +kernel
theorem dX5_serves_21 : decode cX5_serves 21 = .ok (.iconst 0, 1) := by decide +kernel
theorem dX5_serves_22 : decode cX5_serves 22 = .ok (.istore 4, 2) := by decide +kernel
theorem dX5_serves_24 : decode cX5_serves 24 = .ok (.iload 4, 2) := by decide +kernel
theorem dX5_serves_26 : decode cX5_serves 26 = .ok (.iconst 5, 1) := by decide +kernel
theorem dX5_serves_27 : decode cX5_serves 27 = .ok (.if_icmp .ge 19, 3) := by decide +kernel
theorem dX5_serves_30 : decode cX5_serves 30 = .ok (.iload_n 3, 1) := by decide +kernel
theorem dX5_serves_31 : decode cX5_serves 31 = .ok (.aload_n 0, 1) := by decide +kernel
theorem dX5_serves_32 : decode cX5_serves 32 = .ok (.iload_n 1, 1) := by decide +kernel
theorem dX5_serves_33 : decode cX5_serves 33 = .ok (.iload 4, 2) := by decide +kernel
theorem dX5_serves_35 : decode cX5_serves 35 = .ok (.invokevirtual 88, 3) := by decide +kernel
theorem dX5_serves_38 : decode cX5_serves 38 = .ok (.iadd, 1) := by decide +kernel
theorem dX5_serves_39 : decode cX5_serves 39 = .ok (.istore_n 3, 1) := by decide +kernel
theorem dX5_serves_40 : decode cX5_serves 40 = .ok (.iinc 4 1, 3) := by decide +kernel
theorem dX5_serves_43 : decode cX5_serves 43 = .ok (.goto (-19), 3) := by decide +kernel
theorem dX5_serves_46 : decode cX5_serves 46 = .ok (.iconst 0, 1) := by decide +kernel
theorem dX5_serves_47 : decode cX5_serves 47 = .ok (.istore 4, 2) := by decide +kernel
theorem dX5_serves_49 : decode cX5_serves 49 = .ok (.iload 4, 2) := by decide +kernel
theorem dX5_serves_51 : decode cX5_serves 51 = .ok (.iconst 5, 1) := by decide +kernel
theorem dX5_serves_52 : decode cX5_serves 52 = .ok (.if_icmp .ge 19, 3) := by decide +kernel
theorem dX5_serves_55 : decode cX5_serves 55 = .ok (.iload_n 3, 1) := by decide +kernel
theorem dX5_serves_56 : decode cX5_serves 56 = .ok (.aload_n 0, 1) := by decide +kernel
theorem dX5_serves_57 : decode cX5_serves 57 = .ok (.iload_n 1, 1) := by decide +kernel
theorem dX5_serves_58 : decode cX5_serves 58 = .ok (.iload 4, 2) := by decide +kernel
theorem dX5_serves_60 : decode cX5_serves 60 = .ok (.invokevirtual 92, 3) := by decide +kernel
theorem dX5_serves_63 : decode cX5_serves 63 = .ok (.iadd, 1) := by decide +kernel
theorem dX5_serves_64 : decode cX5_serves 64 = .ok (.istore_n 3, 1) := by decide +kernel
theorem dX5_serves_65 : decode cX5_serves 65 = .ok (.iinc 4 1, 3) := by decide +kernel
theorem dX5_serves_68 : decode cX5_serves 68 = .ok (.goto (-19), 3) := by decide +kernel
theorem dX5_serves_71 : decode cX5_serves 71 = .ok (.iload_n 3, 1) := by decide +kernel
theorem dX5_serves_72 : decode cX5_serves 72 = .ok (.ireturn, 1) := by decide +kernel
theorem dX5_allows_0 : decode cX5_allows 0 = .ok (.aload_n 0, 1) := by decide +kernel
theorem dX5_allows_1 : decode cX5_allows 1 = .ok (.getfield 17, 3) := by decide +kernel
theorem dX5_allows_4 : decode cX5_allows 4 = .ok (.iload_n 1, 1) := by decide +kernel
theorem dX5_allows_5 : decode cX5_allows 5 = .ok (.iaload, 1) := by decide +kernel
theorem dX5_allows_6 : decode cX5_allows 6 = .ok (.ifCond .ne 7, 3) := by decide +kernel
theorem dX5_allows_9 : decode cX5_allows 9 = .ok (.iconst 1, 1) := by decide +kernel
theorem dX5_allows_10 : decode cX5_allows 10 = .ok (.goto 4, 3) := by decide +kernel
theorem dX5_allows_13 : decode cX5_allows 13 = .ok (.iconst 0, 1) := by decide +kernel
theorem dX5_allows_14 : decode cX5_allows 14 = .ok (.istore_n 3, 1) := by decide +kernel
theorem dX5_allows_15 : decode cX5_allows 15 = .ok (.iconst 0, 1) := by decide +kernel
theorem dX5_allows_16 : decode cX5_allows 16 = .ok (.istore 4, 2) := by decide +kernel
theorem dX5_allows_18 : decode cX5_allows 18 = .ok (.iload 4, 2) := by decide +kernel
theorem dX5_allows_20 : decode cX5_allows 20 = .ok (.aload_n 0, 1) := by decide +kernel
theorem dX5_allows_21 : decode cX5_allows 21 = .ok (.getfield 95, 3) := by decide +kernel
theorem dX5_allows_24 : decode cX5_allows 24 = .ok (.if_icmp .ge 82, 3) := by decide +kernel
theorem dX5_allows_27 : decode cX5_allows 27 = .ok (.iload_n 3, 1) := by decide +kernel
theorem dX5_allows_28 : decode cX5_allows 28 = .ok (.ifCond .ne 66, 3) := by decide +kernel
theorem dX5_allows_31 : decode cX5_allows 31 = .ok (.aload_n 0, 1) := by decide +kernel
theorem dX5_allows_32 : decode cX5_allows 32 = .ok (.getfield 50, 3) := by decide +kernel
theorem dX5_allows_35 : decode cX5_allows 35 = .ok (.iload 4, 2) := by decide +kernel
theorem dX5_allows_37 : decode cX5_allows 37 = .ok (.baload, 1) := by decide +kernel
theorem dX5_allows_38 : decode cX5_allows 38 = .ok (.ifCond .ne 60, 3) := by decide +kernel
theorem dX5_allows_41 : decode cX5_allows 41 = .ok (.aload_n 0, 1) := by decide +kernel
theorem dX5_allows_42 : decode cX5_allows 42 = .ok (.getfield 38, 3) := by decide +kernel
theorem dX5_allows_45 : decode cX5_allows 45 = .ok (.iload 4, 2) := by decide +kernel
theorem dX5_allows_47 : decode cX5_allows 47 = .ok (.iaload, 1) := by decide +kernel
theorem dX5_allows_48 : decode cX5_allows 48 = .ok (.aload_n 0, 1) := by decide +kernel
theorem dX5_allows_49 : decode cX5_allows 49 = .ok (.getfield 13, 3) := by decide +kernel
theorem dX5_allows_52 : decode cX5_allows 52 = .ok (.iload_n 1, 1) := by decide +kernel
theorem dX5_allows_53 : decode cX5_allows 53 = .ok (.iaload, 1) := by decide +kernel
theorem dX5_allows_54 : decode cX5_allows 54 = .ok (.if_icmp .ne 44, 3) := by decide +kernel
theorem dX5_allows_57 : decode cX5_allows 57 = .ok (.iload_n 2, 1) := by decide +kernel
theorem dX5_allows_58 : decode cX5_allows 58 = .ok (.aload_n 0, 1) := by decide +kernel
theorem dX5_allows_59 : decode cX5_allows 59 = .ok (.getfield 41, 3) := by decide +kernel
theorem dX5_allows_62 : decode cX5_allows 62 = .ok (.iload 4, 2) := by decide +kernel
theorem dX5_allows_64 : decode cX5_allows 64 = .ok (.iaload, 1) := by decide +kernel
theorem dX5_allows_65 : decode cX5_allows 65 = .ok (.aload_n 0, 1) := by decide +kernel
theorem dX5_allows_66 : decode cX5_allows 66 = .ok (.getfield 44, 3) := by decide +kernel
theorem dX5_allows_69 : decode cX5_allows 69 = .ok (.iload 4, 2) := by decide +kernel
theorem dX5_allows_71 : decode cX5_allows 71 = .ok (.iaload, 1) := by decide +kernel
theorem dX5_allows_72 : decode cX5_allows 72 = .ok (.invokestatic 81, 3) := by decide +kernel
theorem dX5_allows_75 : decode cX5_allows 75 = .ok (.ifCond .eq 23, 3) := by decide +kernel
theorem dX5_allows_78 : decode cX5_allows 78 = .ok (.aload_n 0, 1) := by decide +kernel
theorem dX5_allows_79 : decode cX5_allows 79 = .ok (.getfield 47, 3) := by decide +kernel
theorem dX5_allows_82 : decode cX5_allows 82 = .ok (.iload 4, 2) := by decide +kernel
theorem dX5_allows_84 : decode cX5_allows 84 = .ok (.iaload, 1) := by decide +kernel
theorem dX5_allows_85 : decode cX5_allows 85 = .ok (.aload_n 0, 1) := by decide +kernel
theorem dX5_allows_86 : decode cX5_allows 86 = .ok (.getfield 17, 3) := by decide +kernel
theorem dX5_allows_89 : decode cX5_allows 89 = .ok (.iload_n 1, 1) := by decide +kernel
theorem dX5_allows_90 : decode cX5_allows 90 = .ok (.iaload, 1) := by decide +kernel
theorem dX5_allows_91 : decode cX5_allows 91 = .ok (.if_icmp .lt 7, 3) := by decide +kernel
theorem dX5_allows_94 : decode cX5_allows 94 = .ok (.iconst 1, 1) := by decide +kernel
theorem dX5_allows_95 : decode cX5_allows 95 = .ok (.goto 4, 3) := by decide +kernel
theorem dX5_allows_98 : decode cX5_allows 98 = .ok (.iconst 0, 1) := by decide +kernel
theorem dX5_allows_99 : decode cX5_allows 99 = .ok (.istore_n 3, 1) := by decide +kernel
theorem dX5_allows_100 : decode cX5_allows 100 = .ok (.iinc 4 1, 3) := by decide +kernel
theorem dX5_allows_103 : decode cX5_allows 103 = .ok (.goto (-85), 3) := by decide +kernel
theorem dX5_allows_106 : decode cX5_allows 106 = .ok (.iconst 0, 1) := by decide +kernel
theorem dX5_allows_107 : decode cX5_allows 107 = .ok (.istore 4, 2) := by decide +kernel
theorem dX5_allows_109 : decode cX5_allows 109 = .ok (.iload 4, 2) := by decide +kernel
theorem dX5_allows_111 : decode cX5_allows 111 = .ok (.iconst 5, 1) := by decide +kernel
theorem dX5_allows_112 : decode cX5_allows 112 = .ok (.if_icmp .ge 50, 3) := by decide +kernel
theorem dX5_allows_115 : decode cX5_allows 115 = .ok (.iload_n 3, 1) := by decide +kernel
theorem dX5_allows_116 : decode cX5_allows 116 = .ok (.ifCond .eq 38, 3) := by decide +kernel
theorem dX5_allows_119 : decode cX5_allows 119 = .ok (.aload_n 0, 1) := by decide +kernel
theorem dX5_allows_120 : decode cX5_allows 120 = .ok (.getfield 26, 3) := by decide +kernel
theorem dX5_allows_123 : decode cX5_allows 123 = .ok (.iconst 5, 1) := by decide +kernel
theorem dX5_allows_124 : decode cX5_allows 124 = .ok (.iload_n 1, 1) := by decide +kernel
theorem dX5_allows_125 : decode cX5_allows 125 = .ok (.imul, 1) := by decide +kernel
theorem dX5_allows_126 : decode cX5_allows 126 = .ok (.iload 4, 2) := by decide +kernel
theorem dX5_allows_128 : decode cX5_allows 128 = .ok (.iadd, 1) := by decide +kernel
theorem dX5_allows_129 : decode cX5_allows 129 = .ok (.iaload, 1) := by decide +kernel
theorem dX5_allows_130 : decode cX5_allows 130 = .ok (.bipush (-2), 2) := by decide +kernel
theorem dX5_allows_132 : decode cX5_allows 132 = .ok (.if_icmp .eq 18, 3) := by decide +kernel
theorem dX5_allows_135 : decode cX5_allows 135 = .ok (.aload_n 0, 1) := by decide +kernel
theorem dX5_allows_136 : decode cX5_allows 136 = .ok (.getfield 54, 3) := by decide +kernel
theorem dX5_allows_139 : decode cX5_allows 139 = .ok (.bipush 30, 2) := by decide +kernel
theorem dX5_allows_141 : decode cX5_allows 141 = .ok (.iload 4, 2) := by decide +kernel
theorem dX5_allows_143 : decode cX5_allows 143 = .ok (.imul, 1) := by decide +kernel
theorem dX5_allows_144 : decode cX5_allows 144 = .ok (.iload_n 2, 1) := by decide +kernel
theorem dX5_allows_145 : decode cX5_allows 145 = .ok (.iadd, 1) := by decide +kernel
theorem dX5_allows_146 : decode cX5_allows 146 = .ok (.baload, 1) := by decide +kernel
theorem dX5_allows_147 : decode cX5_allows 147 = .ok (.ifCond .ne 7, 3) := by decide +kernel
theorem dX5_allows_150 : decode cX5_allows 150 = .ok (.iconst 1, 1) := by decide +kernel
theorem dX5_allows_151 : decode cX5_allows 151 = .ok (.goto 4, 3) := by decide +kernel
theorem dX5_allows_154 : decode cX5_allows 154 = .ok (.iconst 0, 1) := by decide +kernel
theorem dX5_allows_155 : decode cX5_allows 155 = .ok (.istore_n 3, 1) := by decide +kernel
theorem dX5_allows_156 : decode cX5_allows 156 = .ok (.iinc 4 1, 3) := by decide +kernel
theorem dX5_allows_159 : decode cX5_allows 159 = .ok (.goto (-50), 3) := by decide +kernel
theorem dX5_allows_162 : decode cX5_allows 162 = .ok (.iload_n 3, 1) := by decide +kernel
theorem dX5_allows_163 : decode cX5_allows 163 = .ok (.ireturn, 1) := by decide +kernel
theorem dX5_costs_0 : decode cX5_costs 0 = .ok (.aload_n 0, 1) := by decide +kernel
theorem dX5_costs_1 : decode cX5_costs 1 = .ok (.invokevirtual 98, 3) := by decide +kernel
theorem dX5_costs_4 : decode cX5_costs 4 = .ok (.iconst 0, 1) := by decide +kernel
theorem dX5_costs_5 : decode cX5_costs 5 = .ok (.istore_n 1, 1) := by decide +kernel
theorem dX5_costs_6 : decode cX5_costs 6 = .ok (.aload_n 0, 1) := by decide +kernel
theorem dX5_costs_7 : decode cX5_costs 7 = .ok (.getfield 9, 3) := by decide +kernel
theorem dX5_costs_10 : decode cX5_costs 10 = .ok (.istore_n 2, 1) := by decide +kernel
theorem dX5_costs_11 : decode cX5_costs 11 = .ok (.aload_n 0, 1) := by decide +kernel
theorem dX5_costs_12 : decode cX5_costs 12 = .ok (.getfield 85, 3) := by decide +kernel
theorem dX5_costs_15 : decode cX5_costs 15 = .ok (.istore_n 3, 1) := by decide +kernel
theorem dX5_costs_16 : decode cX5_costs 16 = .ok (.iload_n 3, 1) := by decide +kernel
theorem dX5_costs_17 : decode cX5_costs 17 = .ok (.bipush 30, 2) := by decide +kernel
theorem dX5_costs_19 : decode cX5_costs 19 = .ok (.if_icmp .ge 62, 3) := by decide +kernel
theorem dX5_costs_22 : decode cX5_costs 22 = .ok (.aload_n 0, 1) := by decide +kernel
theorem dX5_costs_23 : decode cX5_costs 23 = .ok (.getfield 35, 3) := by decide +kernel
theorem dX5_costs_26 : decode cX5_costs 26 = .ok (.iload_n 3, 1) := by decide +kernel
theorem dX5_costs_27 : decode cX5_costs 27 = .ok (.iaload, 1) := by decide +kernel
theorem dX5_costs_28 : decode cX5_costs 28 = .ok (.istore 4, 2) := by decide +kernel
theorem dX5_costs_30 : decode cX5_costs 30 = .ok (.iload 4, 2) := by decide +kernel
theorem dX5_costs_32 : decode cX5_costs 32 = .ok (.iconst (-1), 1) := by decide +kernel
theorem dX5_costs_33 : decode cX5_costs 33 = .ok (.if_icmp .eq 38, 3) := by decide +kernel
theorem dX5_costs_36 : decode cX5_costs 36 = .ok (.iload_n 1, 1) := by decide +kernel
theorem dX5_costs_37 : decode cX5_costs 37 = .ok (.aload_n 0, 1) := by decide +kernel
theorem dX5_costs_38 : decode cX5_costs 38 = .ok (.iload 4, 2) := by decide +kernel
theorem dX5_costs_40 : decode cX5_costs 40 = .ok (.iload_n 2, 1) := by decide +kernel
theorem dX5_costs_41 : decode cX5_costs 41 = .ok (.invokevirtual 101, 3) := by decide +kernel
theorem dX5_costs_44 : decode cX5_costs 44 = .ok (.aload_n 0, 1) := by decide +kernel
theorem dX5_costs_45 : decode cX5_costs 45 = .ok (.iload 4, 2) := by decide +kernel
theorem dX5_costs_47 : decode cX5_costs 47 = .ok (.iload_n 3, 1) := by decide +kernel
theorem dX5_costs_48 : decode cX5_costs 48 = .ok (.invokevirtual 104, 3) := by decide +kernel
theorem dX5_costs_51 : decode cX5_costs 51 = .ok (.ifCond .eq 7, 3) := by decide +kernel
theorem dX5_costs_54 : decode cX5_costs 54 = .ok (.iconst 0, 1) := by decide +kernel
theorem dX5_costs_55 : decode cX5_costs 55 = .ok (.goto 5, 3) := by decide +kernel
theorem dX5_costs_58 : decode cX5_costs 58 = .ok (.bipush 20, 2) := by decide +kernel
theorem dX5_costs_60 : decode cX5_costs 60 = .ok (.iadd, 1) := by decide +kernel
theorem dX5_costs_61 : decode cX5_costs 61 = .ok (.iadd, 1) := by decide +kernel
theorem dX5_costs_62 : decode cX5_costs 62 = .ok (.istore_n 1, 1) := by decide +kernel
theorem dX5_costs_63 : decode cX5_costs 63 = .ok (.aload_n 0, 1) := by decide +kernel
theorem dX5_costs_64 : decode cX5_costs 64 = .ok (.getfield 13, 3) := by decide +kernel
theorem dX5_costs_67 : decode cX5_costs 67 = .ok (.iload 4, 2) := by decide +kernel
theorem dX5_costs_69 : decode cX5_costs 69 = .ok (.iaload, 1) := by decide +kernel
theorem dX5_costs_70 : decode cX5_costs 70 = .ok (.istore_n 2, 1) := by decide +kernel
theorem dX5_costs_71 : decode cX5_costs 71 = .ok (.aload_n 0, 1) := by decide +kernel
theorem dX5_costs_72 : decode cX5_costs 72 = .ok (.invokevirtual 108, 3) := by decide +kernel
theorem dX5_costs_75 : decode cX5_costs 75 = .ok (.iinc 3 1, 3) := by decide +kernel
theorem dX5_costs_78 : decode cX5_costs 78 = .ok (.goto (-62), 3) := by decide +kernel
theorem dX5_costs_81 : decode cX5_costs 81 = .ok (.iload_n 1, 1) := by decide +kernel
theorem dX5_costs_82 : decode cX5_costs 82 = .ok (.ireturn, 1) := by decide +kernel
theorem dX5_lastPlanned_0 : decode cX5_lastPlanned 0 = .ok (.iconst (-1), 1) := by decide +kernel
theorem dX5_lastPlanned_1 : decode cX5_lastPlanned 1 = .ok (.istore_n 1, 1) := by decide +kernel
theorem dX5_lastPlanned_2 : decode cX5_lastPlanned 2 = .ok (.iconst 0, 1) := by decide +kernel
theorem dX5_lastPlanned_3 : decode cX5_lastPlanned 3 = .ok (.istore_n 2, 1) := by decide +kernel
theorem dX5_lastPlanned_4 : decode cX5_lastPlanned 4 = .ok (.iload_n 2, 1) := by decide +kernel
theorem dX5_lastPlanned_5 : decode cX5_lastPlanned 5 = .ok (.bipush 30, 2) := by decide +kernel
theorem dX5_lastPlanned_7 : decode cX5_lastPlanned 7 = .ok (.if_icmp .ge 25, 3) := by decide +kernel
theorem dX5_lastPlanned_10 : decode cX5_lastPlanned 10 = .ok (.aload_n 0, 1) := by decide +kernel
theorem dX5_lastPlanned_11 : decode cX5_lastPlanned 11 = .ok (.getfield 35, 3) := by decide +kernel
theorem dX5_lastPlanned_14 : decode cX5_lastPlanned 14 = .ok (.iload_n 2, 1) := by decide +kernel
theorem dX5_lastPlanned_15 : decode cX5_lastPlanned 15 = .ok (.iaload, 1) := by decide +kernel
theorem dX5_lastPlanned_16 : decode cX5_lastPlanned 16 = .ok (.iconst (-1), 1) := by decide +kernel
theorem dX5_lastPlanned_17 : decode cX5_lastPlanned 17 = .ok (.if_icmp .eq 7, 3) := by decide +kernel
theorem dX5_lastPlanned_20 : decode cX5_lastPlanned 20 = .ok (.iload_n 2, 1) := by decide +kernel
theorem dX5_lastPlanned_21 : decode cX5_lastPlanned 21 = .ok (.goto 4, 3) := by decide +kernel
theorem dX5_lastPlanned_24 : decode cX5_lastPlanned 24 = .ok (.iload_n 1, 1) := by decide +kernel
theorem dX5_lastPlanned_25 : decode cX5_lastPlanned 25 = .ok (.istore_n 1, 1) := by decide +kernel
theorem dX5_lastPlanned_26 : decode cX5_lastPlanned 26 = .ok (.iinc 2 1, 3) := by decide +kernel
theorem dX5_lastPlanned_29 : decode cX5_lastPlanned 29 = .ok (.goto (-25), 3) := by decide +kernel
theorem dX5_lastPlanned_32 : decode cX5_lastPlanned 32 = .ok (.iload_n 1, 1) := by decide +kernel
theorem dX5_lastPlanned_33 : decode cX5_lastPlanned 33 = .ok (.ireturn, 1) := by decide +kernel
theorem dX5_plans_0 : decode cX5_plans 0 = .ok (.aload_n 0, 1) := by decide +kernel
theorem dX5_plans_1 : decode cX5_plans 1 = .ok (.getfield 35, 3) := by decide +kernel
theorem dX5_plans_4 : decode cX5_plans 4 = .ok (.iload_n 2, 1) := by decide +kernel
theorem dX5_plans_5 : decode cX5_plans 5 = .ok (.iload_n 1, 1) := by decide +kernel
theorem dX5_plans_6 : decode cX5_plans 6 = .ok (.iastore, 1) := by decide +kernel
theorem dX5_plans_7 : decode cX5_plans 7 = .ok (.iload_n 1, 1) := by decide +kernel
theorem dX5_plans_8 : decode cX5_plans 8 = .ok (.iconst (-1), 1) := by decide +kernel
theorem dX5_plans_9 : decode cX5_plans 9 = .ok (.if_icmp .eq 10, 3) := by decide +kernel
theorem dX5_plans_12 : decode cX5_plans 12 = .ok (.aload_n 0, 1) := by decide +kernel
theorem dX5_plans_13 : decode cX5_plans 13 = .ok (.getfield 23, 3) := by decide +kernel
theorem dX5_plans_16 : decode cX5_plans 16 = .ok (.iload_n 1, 1) := by decide +kernel
theorem dX5_plans_17 : decode cX5_plans 17 = .ok (.iload_n 2, 1) := by decide +kernel
theorem dX5_plans_18 : decode cX5_plans 18 = .ok (.iastore, 1) := by decide +kernel
theorem dX5_plans_19 : decode cX5_plans 19 = .ok (.return_, 1) := by decide +kernel
theorem dX5_scene_0 : decode cX5_scene 0 = .ok (.aload_n 0, 1) := by decide +kernel
theorem dX5_scene_1 : decode cX5_scene 1 = .ok (.invokevirtual 111, 3) := by decide +kernel
theorem dX5_scene_4 : decode cX5_scene 4 = .ok (.iconst (-1), 1) := by decide +kernel
theorem dX5_scene_5 : decode cX5_scene 5 = .ok (.if_icmp .ne 10, 3) := by decide +kernel
theorem dX5_scene_8 : decode cX5_scene 8 = .ok (.aload_n 0, 1) := by decide +kernel
theorem dX5_scene_9 : decode cX5_scene 9 = .ok (.getfield 85, 3) := by decide +kernel
theorem dX5_scene_12 : decode cX5_scene 12 = .ok (.goto 9, 3) := by decide +kernel
theorem dX5_scene_15 : decode cX5_scene 15 = .ok (.aload_n 0, 1) := by decide +kernel
theorem dX5_scene_16 : decode cX5_scene 16 = .ok (.invokevirtual 111, 3) := by decide +kernel
theorem dX5_scene_19 : decode cX5_scene 19 = .ok (.iconst 1, 1) := by decide +kernel
theorem dX5_scene_20 : decode cX5_scene 20 = .ok (.iadd, 1) := by decide +kernel
theorem dX5_scene_21 : decode cX5_scene 21 = .ok (.istore_n 3, 1) := by decide +kernel
theorem dX5_scene_22 : decode cX5_scene 22 = .ok (.aload_n 0, 1) := by decide +kernel
theorem dX5_scene_23 : decode cX5_scene 23 = .ok (.iload_n 1, 1) := by decide +kernel
theorem dX5_scene_24 : decode cX5_scene 24 = .ok (.iconst 0, 1) := by decide +kernel
theorem dX5_scene_25 : decode cX5_scene 25 = .ok (.iconst 3, 1) := by decide +kernel
theorem dX5_scene_26 : decode cX5_scene 26 = .ok (.invokestatic 81, 3) := by decide +kernel
theorem dX5_scene_29 : decode cX5_scene 29 = .ok (.ifCond .eq 17, 3) := by decide +kernel
theorem dX5_scene_32 : decode cX5_scene 32 = .ok (.iload_n 2, 1) := by decide +kernel
theorem dX5_scene_33 : decode cX5_scene 33 = .ok (.iconst 0, 1) := by decide +kernel
theorem dX5_scene_34 : decode cX5_scene 34 = .ok (.bipush 9, 2) := by decide +kernel
theorem dX5_scene_36 : decode cX5_scene 36 = .ok (.invokestatic 81, 3) := by decide +kernel
theorem dX5_scene_39 : decode cX5_scene 39 = .ok (.ifCond .eq 7, 3) := by decide +kernel
theorem dX5_scene_42 : decode cX5_scene 42 = .ok (.iconst 1, 1) := by decide +kernel
theorem dX5_scene_43 : decode cX5_scene 43 = .ok (.goto 4, 3) := by decide +kernel
theorem dX5_scene_46 : decode cX5_scene 46 = .ok (.iconst 0, 1) := by decide +kernel
theorem dX5_scene_47 : decode cX5_scene 47 = .ok (.aload_n 0, 1) := by decide +kernel
theorem dX5_scene_48 : decode cX5_scene 48 = .ok (.getfield 78, 3) := by decide +kernel
theorem dX5_scene_51 : decode cX5_scene 51 = .ok (.bipush 10, 2) := by decide +kernel
theorem dX5_scene_53 : decode cX5_scene 53 = .ok (.if_icmp .ge 13, 3) := by decide +kernel
theorem dX5_scene_56 : decode cX5_scene 56 = .ok (.iload_n 3, 1) := by decide +kernel
theorem dX5_scene_57 : decode cX5_scene 57 = .ok (.bipush 30, 2) := by decide +kernel
theorem dX5_scene_59 : decode cX5_scene 59 = .ok (.if_icmp .ge 7, 3) := by decide +kernel
theorem dX5_scene_62 : decode cX5_scene 62 = .ok (.iconst 1, 1) := by decide +kernel
theorem dX5_scene_63 : decode cX5_scene 63 = .ok (.goto 4, 3) := by decide +kernel
theorem dX5_scene_66 : decode cX5_scene 66 = .ok (.iconst 0, 1) := by decide +kernel
theorem dX5_scene_67 : decode cX5_scene 67 = .ok (.iconst 1, 1) := by decide +kernel
theorem dX5_scene_68 : decode cX5_scene 68 = .ok (.invokevirtual 115, 3) := by decide +kernel
theorem dX5_scene_71 : decode cX5_scene 71 = .ok (.ifCond .ne 5, 3) := by decide +kernel
theorem dX5_scene_74 : decode cX5_scene 74 = .ok (.iconst 0, 1) := by decide +kernel
theorem dX5_scene_75 : decode cX5_scene 75 = .ok (.ireturn, 1) := by decide +kernel
theorem dX5_scene_76 : decode cX5_scene 76 = .ok (.aload_n 0, 1) := by decide +kernel
theorem dX5_scene_77 : decode cX5_scene 77 = .ok (.getfield 13, 3) := by decide +kernel
theorem dX5_scene_80 : decode cX5_scene 80 = .ok (.aload_n 0, 1) := by decide +kernel
theorem dX5_scene_81 : decode cX5_scene 81 = .ok (.getfield 78, 3) := by decide +kernel
theorem dX5_scene_84 : decode cX5_scene 84 = .ok (.iload_n 1, 1) := by decide +kernel
theorem dX5_scene_85 : decode cX5_scene 85 = .ok (.iastore, 1) := by decide +kernel
theorem dX5_scene_86 : decode cX5_scene 86 = .ok (.aload_n 0, 1) := by decide +kernel
theorem dX5_scene_87 : decode cX5_scene 87 = .ok (.getfield 17, 3) := by decide +kernel
theorem dX5_scene_90 : decode cX5_scene 90 = .ok (.aload_n 0, 1) := by decide +kernel
theorem dX5_scene_91 : decode cX5_scene 91 = .ok (.getfield 78, 3) := by decide +kernel
theorem dX5_scene_94 : decode cX5_scene 94 = .ok (.iload_n 2, 1) := by decide +kernel
theorem dX5_scene_95 : decode cX5_scene 95 = .ok (.iastore, 1) := by decide +kernel
theorem dX5_scene_96 : decode cX5_scene 96 = .ok (.aload_n 0, 1) := by decide +kernel
theorem dX5_scene_97 : decode cX5_scene 97 = .ok (.getfield 20, 3) := by decide +kernel
theorem dX5_scene_100 : decode cX5_scene 100 = .ok (.aload_n 0, 1) := by decide +kernel
theorem dX5_scene_101 : decode cX5_scene 101 = .ok (.getfield 78, 3) := by decide +kernel
theorem dX5_scene_104 : decode cX5_scene 104 = .ok (.iconst 0, 1) := by decide +kernel
theorem dX5_scene_105 : decode cX5_scene 105 = .ok (.iastore, 1) := by decide +kernel
theorem dX5_scene_106 : decode cX5_scene 106 = .ok (.iconst 0, 1) := by decide +kernel
theorem dX5_scene_107 : decode cX5_scene 107 = .ok (.istore 4, 2) := by decide +kernel
theorem dX5_scene_109 : decode cX5_scene 109 = .ok (.iload 4, 2) := by decide +kernel
theorem dX5_scene_111 : decode cX5_scene 111 = .ok (.iconst 5, 1) := by decide +kernel
theorem dX5_scene_112 : decode cX5_scene 112 = .ok (.if_icmp .ge 40, 3) := by decide +kernel
theorem dX5_scene_115 : decode cX5_scene 115 = .ok (.aload_n 0, 1) := by decide +kernel
theorem dX5_scene_116 : decode cX5_scene 116 = .ok (.getfield 26, 3) := by decide +kernel
theorem dX5_scene_119 : decode cX5_scene 119 = .ok (.iconst 5, 1) := by decide +kernel
theorem dX5_scene_120 : decode cX5_scene 120 = .ok (.aload_n 0, 1) := by decide +kernel
theorem dX5_scene_121 : decode cX5_scene 121 = .ok (.getfield 78, 3) := by decide +kernel
theorem dX5_scene_124 : decode cX5_scene 124 = .ok (.imul, 1) := by decide +kernel
theorem dX5_scene_125 : decode cX5_scene 125 = .ok (.iload 4, 2) := by decide +kernel
theorem dX5_scene_127 : decode cX5_scene 127 = .ok (.iadd, 1) := by decide +kernel
theorem dX5_scene_128 : decode cX5_scene 128 = .ok (.bipush (-2), 2) := by decide +kernel
theorem dX5_scene_130 : decode cX5_scene 130 = .ok (.iastore, 1) := by decide +kernel
theorem dX5_scene_131 : decode cX5_scene 131 = .ok (.aload_n 0, 1) := by decide +kernel
theorem dX5_scene_132 : decode cX5_scene 132 = .ok (.getfield 29, 3) := by decide +kernel
theorem dX5_scene_135 : decode cX5_scene 135 = .ok (.iconst 5, 1) := by decide +kernel
theorem dX5_scene_136 : decode cX5_scene 136 = .ok (.aload_n 0, 1) := by decide +kernel
theorem dX5_scene_137 : decode cX5_scene 137 = .ok (.getfield 78, 3) := by decide +kernel
theorem dX5_scene_140 : decode cX5_scene 140 = .ok (.imul, 1) := by decide +kernel
theorem dX5_scene_141 : decode cX5_scene 141 = .ok (.iload 4, 2) := by decide +kernel
theorem dX5_scene_143 : decode cX5_scene 143 = .ok (.iadd, 1) := by decide +kernel
theorem dX5_scene_144 : decode cX5_scene 144 = .ok (.iconst (-1), 1) := by decide +kernel
theorem dX5_scene_145 : decode cX5_scene 145 = .ok (.iastore, 1) := by decide +kernel
theorem dX5_scene_146 : decode cX5_scene 146 = .ok (.iinc 4 1, 3) := by decide +kernel
theorem dX5_scene_149 : decode cX5_scene 149 = .ok (.goto (-40), 3) := by decide +kernel
theorem dX5_scene_152 : decode cX5_scene 152 = .ok (.aload_n 0, 1) := by decide +kernel
theorem dX5_scene_153 : decode cX5_scene 153 = .ok (.aload_n 0, 1) := by decide +kernel
theorem dX5_scene_154 : decode cX5_scene 154 = .ok (.getfield 78, 3) := by decide +kernel
theorem dX5_scene_157 : decode cX5_scene 157 = .ok (.iload_n 3, 1) := by decide +kernel
theorem dX5_scene_158 : decode cX5_scene 158 = .ok (.invokevirtual 119, 3) := by decide +kernel
theorem dX5_scene_161 : decode cX5_scene 161 = .ok (.aload_n 0, 1) := by decide +kernel
theorem dX5_scene_162 : decode cX5_scene 162 = .ok (.dup, 1) := by decide +kernel
theorem dX5_scene_163 : decode cX5_scene 163 = .ok (.getfield 78, 3) := by decide +kernel
theorem dX5_scene_166 : decode cX5_scene 166 = .ok (.iconst 1, 1) := by decide +kernel
theorem dX5_scene_167 : decode cX5_scene 167 = .ok (.iadd, 1) := by decide +kernel
theorem dX5_scene_168 : decode cX5_scene 168 = .ok (.putfield 78, 3) := by decide +kernel
theorem dX5_scene_171 : decode cX5_scene 171 = .ok (.aload_n 0, 1) := by decide +kernel
theorem dX5_scene_172 : decode cX5_scene 172 = .ok (.getfield 78, 3) := by decide +kernel
theorem dX5_scene_175 : decode cX5_scene 175 = .ok (.iconst 1, 1) := by decide +kernel
theorem dX5_scene_176 : decode cX5_scene 176 = .ok (.isub, 1) := by decide +kernel
theorem dX5_scene_177 : decode cX5_scene 177 = .ok (.ireturn, 1) := by decide +kernel
theorem dX5_plays_0 : decode cX5_plays 0 = .ok (.aload_n 0, 1) := by decide +kernel
theorem dX5_plays_1 : decode cX5_plays 1 = .ok (.iload_n 1, 1) := by decide +kernel
theorem dX5_plays_2 : decode cX5_plays 2 = .ok (.invokevirtual 123, 3) := by decide +kernel
theorem dX5_plays_5 : decode cX5_plays 5 = .ok (.ifCond .eq 14, 3) := by decide +kernel
theorem dX5_plays_8 : decode cX5_plays 8 = .ok (.iload_n 2, 1) := by decide +kernel
theorem dX5_plays_9 : decode cX5_plays 9 = .ok (.invokestatic 127, 3) := by decide +kernel
theorem dX5_plays_12 : decode cX5_plays 12 = .ok (.ifCond .eq 7, 3) := by decide +kernel
theorem dX5_plays_15 : decode cX5_plays 15 = .ok (.iconst 1, 1) := by decide +kernel
theorem dX5_plays_16 : decode cX5_plays 16 = .ok (.goto 4, 3) := by decide +kernel
theorem dX5_plays_19 : decode cX5_plays 19 = .ok (.iconst 0, 1) := by decide +kernel
theorem dX5_plays_20 : decode cX5_plays 20 = .ok (.istore 4, 2) := by decide +kernel
theorem dX5_plays_22 : decode cX5_plays 22 = .ok (.aload_n 0, 1) := by decide +kernel
theorem dX5_plays_23 : decode cX5_plays 23 = .ok (.iload 4, 2) := by decide +kernel
theorem dX5_plays_25 : decode cX5_plays 25 = .ok (.iload_n 3, 1) := by decide +kernel
theorem dX5_plays_26 : decode cX5_plays 26 = .ok (.iconst (-1), 1) := by decide +kernel
theorem dX5_plays_27 : decode cX5_plays 27 = .ok (.bipush 20, 2) := by decide +kernel
theorem dX5_plays_29 : decode cX5_plays 29 = .ok (.invokestatic 81, 3) := by decide +kernel
theorem dX5_plays_32 : decode cX5_plays 32 = .ok (.iload 4, 2) := by decide +kernel
theorem dX5_plays_34 : decode cX5_plays 34 = .ok (.ifCond .eq 16, 3) := by decide +kernel
theorem dX5_plays_37 : decode cX5_plays 37 = .ok (.aload_n 0, 1) := by decide +kernel
theorem dX5_plays_38 : decode cX5_plays 38 = .ok (.getfield 20, 3) := by decide +kernel
theorem dX5_plays_41 : decode cX5_plays 41 = .ok (.iload_n 1, 1) := by decide +kernel
theorem dX5_plays_42 : decode cX5_plays 42 = .ok (.iaload, 1) := by decide +kernel
theorem dX5_plays_43 : decode cX5_plays 43 = .ok (.ifCond .ne 7, 3) := by decide +kernel
theorem dX5_plays_46 : decode cX5_plays 46 = .ok (.iconst 1, 1) := by decide +kernel
theorem dX5_plays_47 : decode cX5_plays 47 = .ok (.goto 4, 3) := by decide +kernel
theorem dX5_plays_50 : decode cX5_plays 50 = .ok (.iconst 0, 1) := by decide +kernel
theorem dX5_plays_51 : decode cX5_plays 51 = .ok (.invokevirtual 115, 3) := by decide +kernel
theorem dX5_plays_54 : decode cX5_plays 54 = .ok (.ifCond .ne 5, 3) := by decide +kernel
theorem dX5_plays_57 : decode cX5_plays 57 = .ok (.iconst 0, 1) := by decide +kernel
theorem dX5_plays_58 : decode cX5_plays 58 = .ok (.ireturn, 1) := by decide +kernel
theorem dX5_plays_59 : decode cX5_plays 59 = .ok (.aload_n 0, 1) := by decide +kernel
theorem dX5_plays_60 : decode cX5_plays 60 = .ok (.getfield 26, 3) := by decide +kernel
theorem dX5_plays_63 : decode cX5_plays 63 = .ok (.iconst 5, 1) := by decide +kernel
theorem dX5_plays_64 : decode cX5_plays 64 = .ok (.iload_n 1, 1) := by decide +kernel
