theorem dX0_init_0 : decode cX0_init 0 = .ok (.aload_n 0, 1) := by decide +kernel
theorem dX0_init_1 : decode cX0_init 1 = .ok (.invokespecial 3, 3) := by decide +kernel
theorem dX0_init_4 : decode cX0_init 4 = .ok (.aload_n 0, 1) := by decide +kernel
theorem dX0_init_5 : decode cX0_init 5 = .ok (.bipush 10, 2) := by decide +kernel
theorem dX0_init_7 : decode cX0_init 7 = .ok (.newarray .int, 2) := by decide +kernel
theorem dX0_init_9 : decode cX0_init 9 = .ok (.putfield 9, 3) := by decide +kernel
theorem dX0_init_12 : decode cX0_init 12 = .ok (.aload_n 0, 1) := by decide +kernel
theorem dX0_init_13 : decode cX0_init 13 = .ok (.bipush 10, 2) := by decide +kernel
theorem dX0_init_15 : decode cX0_init 15 = .ok (.anewarray 15, 3) := by decide +kernel
theorem dX0_init_18 : decode cX0_init 18 = .ok (.putfield 17, 3) := by decide +kernel
theorem dX0_init_21 : decode cX0_init 21 = .ok (.aload_n 0, 1) := by decide +kernel
theorem dX0_init_22 : decode cX0_init 22 = .ok (.iconst 0, 1) := by decide +kernel
theorem dX0_init_23 : decode cX0_init 23 = .ok (.putfield 21, 3) := by decide +kernel
theorem dX0_init_26 : decode cX0_init 26 = .ok (.return_, 1) := by decide +kernel
theorem dX0_note_0 : decode cX0_note 0 = .ok (.aload_n 0, 1) := by decide +kernel
theorem dX0_note_1 : decode cX0_note 1 = .ok (.iconst 0, 1) := by decide +kernel
theorem dX0_note_2 : decode cX0_note 2 = .ok (.putfield 21, 3) := by decide +kernel
theorem dX0_note_5 : decode cX0_note 5 = .ok (.iconst 0, 1) := by decide +kernel
theorem dX0_note_6 : decode cX0_note 6 = .ok (.istore_n 2, 1) := by decide +kernel
theorem dX0_note_7 : decode cX0_note 7 = .ok (.iload_n 2, 1) := by decide +kernel
theorem dX0_note_8 : decode cX0_note 8 = .ok (.aload_n 1, 1) := by decide +kernel
theorem dX0_note_9 : decode cX0_note 9 = .ok (.arraylength, 1) := by decide +kernel
theorem dX0_note_10 : decode cX0_note 10 = .ok (.if_icmp .ge 56, 3) := by decide +kernel
theorem dX0_note_13 : decode cX0_note 13 = .ok (.aload_n 0, 1) := by decide +kernel
theorem dX0_note_14 : decode cX0_note 14 = .ok (.getfield 21, 3) := by decide +kernel
theorem dX0_note_17 : decode cX0_note 17 = .ok (.bipush 10, 2) := by decide +kernel
theorem dX0_note_19 : decode cX0_note 19 = .ok (.if_icmp .ge 47, 3) := by decide +kernel
theorem dX0_note_22 : decode cX0_note 22 = .ok (.aload_n 1, 1) := by decide +kernel
theorem dX0_note_23 : decode cX0_note 23 = .ok (.iload_n 2, 1) := by decide +kernel
theorem dX0_note_24 : decode cX0_note 24 = .ok (.aaload, 1) := by decide +kernel
theorem dX0_note_25 : decode cX0_note 25 = .ok (.ifnull 35, 3) := by decide +kernel
theorem dX0_note_28 : decode cX0_note 28 = .ok (.aload_n 0, 1) := by decide +kernel
theorem dX0_note_29 : decode cX0_note 29 = .ok (.getfield 9, 3) := by decide +kernel
theorem dX0_note_32 : decode cX0_note 32 = .ok (.aload_n 0, 1) := by decide +kernel
theorem dX0_note_33 : decode cX0_note 33 = .ok (.getfield 21, 3) := by decide +kernel
theorem dX0_note_36 : decode cX0_note 36 = .ok (.iload_n 2, 1) := by decide +kernel
theorem dX0_note_37 : decode cX0_note 37 = .ok (.iastore, 1) := by decide +kernel
theorem dX0_note_38 : decode cX0_note 38 = .ok (.aload_n 0, 1) := by decide +kernel
theorem dX0_note_39 : decode cX0_note 39 = .ok (.getfield 17, 3) := by decide +kernel
theorem dX0_note_42 : decode cX0_note 42 = .ok (.aload_n 0, 1) := by decide +kernel
theorem dX0_note_43 : decode cX0_note 43 = .ok (.getfield 21, 3) := by decide +kernel
theorem dX0_note_46 : decode cX0_note 46 = .ok (.aload_n 1, 1) := by decide +kernel
theorem dX0_note_47 : decode cX0_note 47 = .ok (.iload_n 2, 1) := by decide +kernel
theorem dX0_note_48 : decode cX0_note 48 = .ok (.aaload, 1) := by decide +kernel
theorem dX0_note_49 : decode cX0_note 49 = .ok (.aastore, 1) := by decide +kernel
theorem dX0_note_50 : decode cX0_note 50 = .ok (.aload_n 0, 1) := by decide +kernel
theorem dX0_note_51 : decode cX0_note 51 = .ok (.dup, 1) := by decide +kernel
theorem dX0_note_52 : decode cX0_note 52 = .ok (.getfield 21, 3) := by decide +kernel
theorem dX0_note_55 : decode cX0_note 55 = .ok (.iconst 1, 1) := by decide +kernel
theorem dX0_note_56 : decode cX0_note 56 = .ok (.iadd, 1) := by decide +kernel
theorem dX0_note_57 : decode cX0_note 57 = .ok (.putfield 21, 3) := by decide +kernel
theorem dX0_note_60 : decode cX0_note 60 = .ok (.iinc 2 1, 3) := by decide +kernel
theorem dX0_note_63 : decode cX0_note 63 = .ok (.goto (-56), 3) := by decide +kernel
theorem dX0_note_66 : decode cX0_note 66 = .ok (.return_, 1) := by decide +kernel
theorem dX0_countOrders_0 : decode cX0_countOrders 0 = .ok (.iconst 1, 1) := by decide +kernel
theorem dX0_countOrders_1 : decode cX0_countOrders 1 = .ok (.istore_n 1, 1) := by decide +kernel
theorem dX0_countOrders_2 : decode cX0_countOrders 2 = .ok (.iconst 2, 1) := by decide +kernel
theorem dX0_countOrders_3 : decode cX0_countOrders 3 = .ok (.istore_n 2, 1) := by decide +kernel
theorem dX0_countOrders_4 : decode cX0_countOrders 4 = .ok (.iload_n 2, 1) := by decide +kernel
theorem dX0_countOrders_5 : decode cX0_countOrders 5 = .ok (.aload_n 0, 1) := by decide +kernel
theorem dX0_countOrders_6 : decode cX0_countOrders 6 = .ok (.getfield 21, 3) := by decide +kernel
theorem dX0_countOrders_9 : decode cX0_countOrders 9 = .ok (.if_icmp .gt 19, 3) := by decide +kernel
theorem dX0_countOrders_12 : decode cX0_countOrders 12 = .ok (.iload_n 2, 1) := by decide +kernel
theorem dX0_countOrders_13 : decode cX0_countOrders 13 = .ok (.bipush 10, 2) := by decide +kernel
theorem dX0_countOrders_15 : decode cX0_countOrders 15 = .ok (.if_icmp .gt 13, 3) := by decide +kernel
theorem dX0_countOrders_18 : decode cX0_countOrders 18 = .ok (.iload_n 1, 1) := by decide +kernel
theorem dX0_countOrders_19 : decode cX0_countOrders 19 = .ok (.iload_n 2, 1) := by decide +kernel
theorem dX0_countOrders_20 : decode cX0_countOrders 20 = .ok (.imul, 1) := by decide +kernel
theorem dX0_countOrders_21 : decode cX0_countOrders 21 = .ok (.istore_n 1, 1) := by decide +kernel
theorem dX0_countOrders_22 : decode cX0_countOrders 22 = .ok (.iinc 2 1, 3) := by decide +kernel
theorem dX0_countOrders_25 : decode cX0_countOrders 25 = .ok (.goto (-21), 3) := by decide +kernel
theorem dX0_countOrders_28 : decode cX0_countOrders 28 = .ok (.iload_n 1, 1) := by decide +kernel
theorem dX0_countOrders_29 : decode cX0_countOrders 29 = .ok (.ireturn, 1) := by decide +kernel
theorem dX0_restore_0 : decode cX0_restore 0 = .ok (.iconst 0, 1) := by decide +kernel
theorem dX0_restore_1 : decode cX0_restore 1 = .ok (.istore_n 2, 1) := by decide +kernel
theorem dX0_restore_2 : decode cX0_restore 2 = .ok (.iload_n 2, 1) := by decide +kernel
theorem dX0_restore_3 : decode cX0_restore 3 = .ok (.aload_n 0, 1) := by decide +kernel
theorem dX0_restore_4 : decode cX0_restore 4 = .ok (.getfield 21, 3) := by decide +kernel
theorem dX0_restore_7 : decode cX0_restore 7 = .ok (.if_icmp .ge 31, 3) := by decide +kernel
theorem dX0_restore_10 : decode cX0_restore 10 = .ok (.iload_n 2, 1) := by decide +kernel
theorem dX0_restore_11 : decode cX0_restore 11 = .ok (.bipush 10, 2) := by decide +kernel
theorem dX0_restore_13 : decode cX0_restore 13 = .ok (.if_icmp .ge 25, 3) := by decide +kernel
theorem dX0_restore_16 : decode cX0_restore 16 = .ok (.aload_n 1, 1) := by decide +kernel
theorem dX0_restore_17 : decode cX0_restore 17 = .ok (.aload_n 0, 1) := by decide +kernel
theorem dX0_restore_18 : decode cX0_restore 18 = .ok (.getfield 9, 3) := by decide +kernel
theorem dX0_restore_21 : decode cX0_restore 21 = .ok (.iload_n 2, 1) := by decide +kernel
theorem dX0_restore_22 : decode cX0_restore 22 = .ok (.iaload, 1) := by decide +kernel
theorem dX0_restore_23 : decode cX0_restore 23 = .ok (.aload_n 0, 1) := by decide +kernel
theorem dX0_restore_24 : decode cX0_restore 24 = .ok (.getfield 17, 3) := by decide +kernel
theorem dX0_restore_27 : decode cX0_restore 27 = .ok (.iload_n 2, 1) := by decide +kernel
theorem dX0_restore_28 : decode cX0_restore 28 = .ok (.aaload, 1) := by decide +kernel
theorem dX0_restore_29 : decode cX0_restore 29 = .ok (.invokestatic 25, 3) := by decide +kernel
theorem dX0_restore_32 : decode cX0_restore 32 = .ok (.iinc 2 1, 3) := by decide +kernel
theorem dX0_restore_35 : decode cX0_restore 35 = .ok (.goto (-33), 3) := by decide +kernel
theorem dX0_restore_38 : decode cX0_restore 38 = .ok (.return_, 1) := by decide +kernel
theorem dX0_lay_0 : decode cX0_lay 0 = .ok (.aload_n 0, 1) := by decide +kernel
theorem dX0_lay_1 : decode cX0_lay 1 = .ok (.aload_n 1, 1) := by decide +kernel
theorem dX0_lay_2 : decode cX0_lay 2 = .ok (.invokevirtual 29, 3) := by decide +kernel
theorem dX0_lay_5 : decode cX0_lay 5 = .ok (.iload_n 2, 1) := by decide +kernel
theorem dX0_lay_6 : decode cX0_lay 6 = .ok (.istore_n 3, 1) := by decide +kernel
theorem dX0_lay_7 : decode cX0_lay 7 = .ok (.aload_n 0, 1) := by decide +kernel
theorem dX0_lay_8 : decode cX0_lay 8 = .ok (.getfield 21, 3) := by decide +kernel
theorem dX0_lay_11 : decode cX0_lay 11 = .ok (.bipush 10, 2) := by decide +kernel
theorem dX0_lay_13 : decode cX0_lay 13 = .ok (.invokestatic 33, 3) := by decide +kernel
theorem dX0_lay_16 : decode cX0_lay 16 = .ok (.istore 4, 2) := by decide +kernel
theorem dX0_lay_18 : decode cX0_lay 18 = .ok (.iload 4, 2) := by decide +kernel
theorem dX0_lay_20 : decode cX0_lay 20 = .ok (.iconst 1, 1) := by decide +kernel
theorem dX0_lay_21 : decode cX0_lay 21 = .ok (.if_icmp .le 36, 3) := by decide +kernel
theorem dX0_lay_24 : decode cX0_lay 24 = .ok (.aload_n 1, 1) := by decide +kernel
theorem dX0_lay_25 : decode cX0_lay 25 = .ok (.aload_n 0, 1) := by decide +kernel
theorem dX0_lay_26 : decode cX0_lay 26 = .ok (.getfield 9, 3) := by decide +kernel
theorem dX0_lay_29 : decode cX0_lay 29 = .ok (.iload 4, 2) := by decide +kernel
theorem dX0_lay_31 : decode cX0_lay 31 = .ok (.iconst 1, 1) := by decide +kernel
theorem dX0_lay_32 : decode cX0_lay 32 = .ok (.isub, 1) := by decide +kernel
theorem dX0_lay_33 : decode cX0_lay 33 = .ok (.iaload, 1) := by decide +kernel
theorem dX0_lay_34 : decode cX0_lay 34 = .ok (.aload_n 0, 1) := by decide +kernel
theorem dX0_lay_35 : decode cX0_lay 35 = .ok (.getfield 9, 3) := by decide +kernel
theorem dX0_lay_38 : decode cX0_lay 38 = .ok (.iload_n 3, 1) := by decide +kernel
theorem dX0_lay_39 : decode cX0_lay 39 = .ok (.iload 4, 2) := by decide +kernel
theorem dX0_lay_41 : decode cX0_lay 41 = .ok (.irem, 1) := by decide +kernel
theorem dX0_lay_42 : decode cX0_lay 42 = .ok (.iaload, 1) := by decide +kernel
theorem dX0_lay_43 : decode cX0_lay 43 = .ok (.invokestatic 39, 3) := by decide +kernel
theorem dX0_lay_46 : decode cX0_lay 46 = .ok (.iload_n 3, 1) := by decide +kernel
theorem dX0_lay_47 : decode cX0_lay 47 = .ok (.iload 4, 2) := by decide +kernel
theorem dX0_lay_49 : decode cX0_lay 49 = .ok (.idiv, 1) := by decide +kernel
theorem dX0_lay_50 : decode cX0_lay 50 = .ok (.istore_n 3, 1) := by decide +kernel
theorem dX0_lay_51 : decode cX0_lay 51 = .ok (.iinc 4 (-1), 3) := by decide +kernel
theorem dX0_lay_54 : decode cX0_lay 54 = .ok (.goto (-36), 3) := by decide +kernel
theorem dX0_lay_57 : decode cX0_lay 57 = .ok (.return_, 1) := by decide +kernel
theorem dX1_init_0 : decode cX1_init 0 = .ok (.aload_n 0, 1) := by decide +kernel
theorem dX1_init_1 : decode cX1_init 1 = .ok (.invokespecial 1, 3) := by decide +kernel
theorem dX1_init_4 : decode cX1_init 4 = .ok (.aload_n 0, 1) := by decide +kernel
theorem dX1_init_5 : decode cX1_init 5 = .ok (.iconst 0, 1) := by decide +kernel
theorem dX1_init_6 : decode cX1_init 6 = .ok (.putfield 7, 3) := by decide +kernel
theorem dX1_init_9 : decode cX1_init 9 = .ok (.aload_n 0, 1) := by decide +kernel
theorem dX1_init_10 : decode cX1_init 10 = .ok (.iload_n 1, 1) := by decide +kernel
theorem dX1_init_11 : decode cX1_init 11 = .ok (.putfield 13, 3) := by decide +kernel
theorem dX1_init_14 : decode cX1_init 14 = .ok (.aload_n 0, 1) := by decide +kernel
theorem dX1_init_15 : decode cX1_init 15 = .ok (.iload_n 2, 1) := by decide +kernel
theorem dX1_init_16 : decode cX1_init 16 = .ok (.putfield 17, 3) := by decide +kernel
theorem dX1_init_19 : decode cX1_init 19 = .ok (.aload_n 0, 1) := by decide +kernel
theorem dX1_init_20 : decode cX1_init 20 = .ok (.iload_n 3, 1) := by decide +kernel
theorem dX1_init_21 : decode cX1_init 21 = .ok (.putfield 20, 3) := by decide +kernel
theorem dX1_init_24 : decode cX1_init 24 = .ok (.aload_n 0, 1) := by decide +kernel
theorem dX1_init_25 : decode cX1_init 25 = .ok (.iload 4, 2) := by decide +kernel
theorem dX1_init_27 : decode cX1_init 27 = .ok (.putfield 23, 3) := by decide +kernel
theorem dX1_init_30 : decode cX1_init 30 = .ok (.return_, 1) := by decide +kernel
theorem dX1_covers_0 : decode cX1_covers 0 = .ok (.aload_n 0, 1) := by decide +kernel
theorem dX1_covers_1 : decode cX1_covers 1 = .ok (.getfield 7, 3) := by decide +kernel
theorem dX1_covers_4 : decode cX1_covers 4 = .ok (.ifCond .ne 45, 3) := by decide +kernel
theorem dX1_covers_7 : decode cX1_covers 7 = .ok (.aload_n 0, 1) := by decide +kernel
theorem dX1_covers_8 : decode cX1_covers 8 = .ok (.getfield 13, 3) := by decide +kernel
theorem dX1_covers_11 : decode cX1_covers 11 = .ok (.aload_n 1, 1) := by decide +kernel
theorem dX1_covers_12 : decode cX1_covers 12 = .ok (.getfield 26, 3) := by decide +kernel
theorem dX1_covers_15 : decode cX1_covers 15 = .ok (.if_icmp .ne 34, 3) := by decide +kernel
theorem dX1_covers_18 : decode cX1_covers 18 = .ok (.aload_n 0, 1) := by decide +kernel
theorem dX1_covers_19 : decode cX1_covers 19 = .ok (.getfield 17, 3) := by decide +kernel
theorem dX1_covers_22 : decode cX1_covers 22 = .ok (.iload_n 2, 1) := by decide +kernel
theorem dX1_covers_23 : decode cX1_covers 23 = .ok (.if_icmp .gt 26, 3) := by decide +kernel
theorem dX1_covers_26 : decode cX1_covers 26 = .ok (.iload_n 2, 1) := by decide +kernel
theorem dX1_covers_27 : decode cX1_covers 27 = .ok (.aload_n 0, 1) := by decide +kernel
theorem dX1_covers_28 : decode cX1_covers 28 = .ok (.getfield 20, 3) := by decide +kernel
theorem dX1_covers_31 : decode cX1_covers 31 = .ok (.if_icmp .gt 18, 3) := by decide +kernel
theorem dX1_covers_34 : decode cX1_covers 34 = .ok (.aload_n 0, 1) := by decide +kernel
theorem dX1_covers_35 : decode cX1_covers 35 = .ok (.getfield 23, 3) := by decide +kernel
theorem dX1_covers_38 : decode cX1_covers 38 = .ok (.aload_n 1, 1) := by decide +kernel
theorem dX1_covers_39 : decode cX1_covers 39 = .ok (.getfield 29, 3) := by decide +kernel
theorem dX1_covers_42 : decode cX1_covers 42 = .ok (.if_icmp .lt 7, 3) := by decide +kernel
theorem dX1_covers_45 : decode cX1_covers 45 = .ok (.iconst 1, 1) := by decide +kernel
theorem dX1_covers_46 : decode cX1_covers 46 = .ok (.goto 4, 3) := by decide +kernel
theorem dX1_covers_49 : decode cX1_covers 49 = .ok (.iconst 0, 1) := by decide +kernel
theorem dX1_covers_50 : decode cX1_covers 50 = .ok (.ireturn, 1) := by decide +kernel
theorem dX2_init_0 : decode cX2_init 0 = .ok (.aload_n 0, 1) := by decide +kernel
theorem dX2_init_1 : decode cX2_init 1 = .ok (.invokespecial 3, 3) := by decide +kernel
theorem dX2_init_4 : decode cX2_init 4 = .ok (.aload_n 0, 1) := by decide +kernel
theorem dX2_init_5 : decode cX2_init 5 = .ok (.iconst 5, 1) := by decide +kernel
theorem dX2_init_6 : decode cX2_init 6 = .ok (.newarray .int, 2) := by decide +kernel
theorem dX2_init_8 : decode cX2_init 8 = .ok (.putfield 9, 3) := by decide +kernel
theorem dX2_init_11 : decode cX2_init 11 = .ok (.aload_n 0, 1) := by decide +kernel
theorem dX2_init_12 : decode cX2_init 12 = .ok (.iconst 5, 1) := by decide +kernel
theorem dX2_init_13 : decode cX2_init 13 = .ok (.newarray .int, 2) := by decide +kernel
theorem dX2_init_15 : decode cX2_init 15 = .ok (.putfield 15, 3) := by decide +kernel
theorem dX2_init_18 : decode cX2_init 18 = .ok (.aload_n 0, 1) := by decide +kernel
theorem dX2_init_19 : decode cX2_init 19 = .ok (.iconst 5, 1) := by decide +kernel
theorem dX2_init_20 : decode cX2_init 20 = .ok (.newarray .int, 2) := by decide +kernel
theorem dX2_init_22 : decode cX2_init 22 = .ok (.putfield 18, 3) := by decide +kernel
theorem dX2_init_25 : decode cX2_init 25 = .ok (.aload_n 0, 1) := by decide +kernel
theorem dX2_init_26 : decode cX2_init 26 = .ok (.iconst 0, 1) := by decide +kernel
theorem dX2_init_27 : decode cX2_init 27 = .ok (.putfield 21, 3) := by decide +kernel
theorem dX2_init_30 : decode cX2_init 30 = .ok (.aload_n 0, 1) := by decide +kernel
theorem dX2_init_31 : decode cX2_init 31 = .ok (.iconst (-1), 1) := by decide +kernel
theorem dX2_init_32 : decode cX2_init 32 = .ok (.putfield 25, 3) := by decide +kernel
theorem dX2_init_35 : decode cX2_init 35 = .ok (.aload_n 0, 1) := by decide +kernel
theorem dX2_init_36 : decode cX2_init 36 = .ok (.iload_n 1, 1) := by decide +kernel
theorem dX2_init_37 : decode cX2_init 37 = .ok (.putfield 28, 3) := by decide +kernel
theorem dX2_init_40 : decode cX2_init 40 = .ok (.aload_n 0, 1) := by decide +kernel
theorem dX2_init_41 : decode cX2_init 41 = .ok (.iload_n 2, 1) := by decide +kernel
theorem dX2_init_42 : decode cX2_init 42 = .ok (.putfield 31, 3) := by decide +kernel
theorem dX2_init_45 : decode cX2_init 45 = .ok (.aload_n 0, 1) := by decide +kernel
theorem dX2_init_46 : decode cX2_init 46 = .ok (.iload_n 3, 1) := by decide +kernel
theorem dX2_init_47 : decode cX2_init 47 = .ok (.putfield 34, 3) := by decide +kernel
theorem dX2_init_50 : decode cX2_init 50 = .ok (.aload_n 0, 1) := by decide +kernel
theorem dX2_init_51 : decode cX2_init 51 = .ok (.getfield 9, 3) := by decide +kernel
theorem dX2_init_54 : decode cX2_init 54 = .ok (.bipush (-2), 2) := by decide +kernel
theorem dX2_init_56 : decode cX2_init 56 = .ok (.invokestatic 37, 3) := by decide +kernel
theorem dX2_init_59 : decode cX2_init 59 = .ok (.aload_n 0, 1) := by decide +kernel
theorem dX2_init_60 : decode cX2_init 60 = .ok (.getfield 15, 3) := by decide +kernel
theorem dX2_init_63 : decode cX2_init 63 = .ok (.iconst (-1), 1) := by decide +kernel
theorem dX2_init_64 : decode cX2_init 64 = .ok (.invokestatic 37, 3) := by decide +kernel
theorem dX2_init_67 : decode cX2_init 67 = .ok (.aload_n 0, 1) := by decide +kernel
theorem dX2_init_68 : decode cX2_init 68 = .ok (.getfield 18, 3) := by decide +kernel
theorem dX2_init_71 : decode cX2_init 71 = .ok (.iconst (-1), 1) := by decide +kernel
theorem dX2_init_72 : decode cX2_init 72 = .ok (.invokestatic 37, 3) := by decide +kernel
theorem dX2_init_75 : decode cX2_init 75 = .ok (.return_, 1) := by decide +kernel
theorem dX2_countActors_0 : decode cX2_countActors 0 = .ok (.iconst 0, 1) := by decide +kernel
theorem dX2_countActors_1 : decode cX2_countActors 1 = .ok (.istore_n 1, 1) := by decide +kernel
theorem dX2_countActors_2 : decode cX2_countActors 2 = .ok (.aload_n 0, 1) := by decide +kernel
theorem dX2_countActors_3 : decode cX2_countActors 3 = .ok (.getfield 9, 3) := by decide +kernel
theorem dX2_countActors_6 : decode cX2_countActors 6 = .ok (.astore_n 2, 1) := by decide +kernel
theorem dX2_countActors_7 : decode cX2_countActors 7 = .ok (.aload_n 2, 1) := by decide +kernel
theorem dX2_countActors_8 : decode cX2_countActors 8 = .ok (.arraylength, 1) := by decide +kernel
theorem dX2_countActors_9 : decode cX2_countActors 9 = .ok (.istore_n 3, 1) := by decide +kernel
theorem dX2_countActors_10 : decode cX2_countActors 10 = .ok (.iconst 0, 1) := by decide +kernel
theorem dX2_countActors_11 : decode cX2_countActors 11 = .ok (.istore 4, 2) := by decide +kernel
theorem dX2_countActors_13 : decode cX2_countActors 13 = .ok (.iload 4, 2) := by decide +kernel
theorem dX2_countActors_15 : decode cX2_countActors 15 = .ok (.iload_n 3, 1) := by decide +kernel
theorem dX2_countActors_16 : decode cX2_countActors 16 = .ok (.if_icmp .ge 30, 3) := by decide +kernel
theorem dX2_countActors_19 : decode cX2_countActors 19 = .ok (.aload_n 2, 1) := by decide +kernel
theorem dX2_countActors_20 : decode cX2_countActors 20 = .ok (.iload 4, 2) := by decide +kernel
theorem dX2_countActors_22 : decode cX2_countActors 22 = .ok (.iaload, 1) := by decide +kernel
theorem dX2_countActors_23 : decode cX2_countActors 23 = .ok (.istore 5, 2) := by decide +kernel
theorem dX2_countActors_25 : decode cX2_countActors 25 = .ok (.iload_n 1, 1) := by decide +kernel
theorem dX2_countActors_26 : decode cX2_countActors 26 = .ok (.iload 5, 2) := by decide +kernel
theorem dX2_countActors_28 : decode cX2_countActors 28 = .ok (.bipush (-2), 2) := by decide +kernel
theorem dX2_countActors_30 : decode cX2_countActors 30 = .ok (.if_icmp .ne 7, 3) := by decide +kernel
theorem dX2_countActors_33 : decode cX2_countActors 33 = .ok (.iconst 0, 1) := by decide +kernel
theorem dX2_countActors_34 : decode cX2_countActors 34 = .ok (.goto 4, 3) := by decide +kernel
theorem dX2_countActors_37 : decode cX2_countActors 37 = .ok (.iconst 1, 1) := by decide +kernel
theorem dX2_countActors_38 : decode cX2_countActors 38 = .ok (.iadd, 1) := by decide +kernel
theorem dX2_countActors_39 : decode cX2_countActors 39 = .ok (.istore_n 1, 1) := by decide +kernel
theorem dX2_countActors_40 : decode cX2_countActors 40 = .ok (.iinc 4 1, 3) := by decide +kernel
theorem dX2_countActors_43 : decode cX2_countActors 43 = .ok (.goto (-30), 3) := by decide +kernel
theorem dX2_countActors_46 : decode cX2_countActors 46 = .ok (.iload_n 1, 1) := by decide +kernel
theorem dX2_countActors_47 : decode cX2_countActors 47 = .ok (.ireturn, 1) := by decide +kernel
theorem dX2_countProps_0 : decode cX2_countProps 0 = .ok (.iconst 0, 1) := by decide +kernel
theorem dX2_countProps_1 : decode cX2_countProps 1 = .ok (.istore_n 1, 1) := by decide +kernel
theorem dX2_countProps_2 : decode cX2_countProps 2 = .ok (.aload_n 0, 1) := by decide +kernel
theorem dX2_countProps_3 : decode cX2_countProps 3 = .ok (.getfield 15, 3) := by decide +kernel
theorem dX2_countProps_6 : decode cX2_countProps 6 = .ok (.astore_n 2, 1) := by decide +kernel
theorem dX2_countProps_7 : decode cX2_countProps 7 = .ok (.aload_n 2, 1) := by decide +kernel
theorem dX2_countProps_8 : decode cX2_countProps 8 = .ok (.arraylength, 1) := by decide +kernel
theorem dX2_countProps_9 : decode cX2_countProps 9 = .ok (.istore_n 3, 1) := by decide +kernel
theorem dX2_countProps_10 : decode cX2_countProps 10 = .ok (.iconst 0, 1) := by decide +kernel
theorem dX2_countProps_11 : decode cX2_countProps 11 = .ok (.istore 4, 2) := by decide +kernel
theorem dX2_countProps_13 : decode cX2_countProps 13 = .ok (.iload 4, 2) := by decide +kernel
theorem dX2_countProps_15 : decode cX2_countProps 15 = .ok (.iload_n 3, 1) := by decide +kernel
theorem dX2_countProps_16 : decode cX2_countProps 16 = .ok (.if_icmp .ge 29, 3) := by decide +kernel
theorem dX2_countProps_19 : decode cX2_countProps 19 = .ok (.aload_n 2, 1) := by decide +kernel
theorem dX2_countProps_20 : decode cX2_countProps 20 = .ok (.iload 4, 2) := by decide +kernel
theorem dX2_countProps_22 : decode cX2_countProps 22 = .ok (.iaload, 1) := by decide +kernel
theorem dX2_countProps_23 : decode cX2_countProps 23 = .ok (.istore 5, 2) := by decide +kernel
theorem dX2_countProps_25 : decode cX2_countProps 25 = .ok (.iload_n 1, 1) := by decide +kernel
theorem dX2_countProps_26 : decode cX2_countProps 26 = .ok (.iload 5, 2) := by decide +kernel
theorem dX2_countProps_28 : decode cX2_countProps 28 = .ok (.iconst (-1), 1) := by decide +kernel
theorem dX2_countProps_29 : decode cX2_countProps 29 = .ok (.if_icmp .ne 7, 3) := by decide +kernel
theorem dX2_countProps_32 : decode cX2_countProps 32 = .ok (.iconst 0, 1) := by decide +kernel
theorem dX2_countProps_33 : decode cX2_countProps 33 = .ok (.goto 4, 3) := by decide +kernel
theorem dX2_countProps_36 : decode cX2_countProps 36 = .ok (.iconst 1, 1) := by decide +kernel
theorem dX2_countProps_37 : decode cX2_countProps 37 = .ok (.iadd, 1) := by decide +kernel
theorem dX2_countProps_38 : decode cX2_countProps 38 = .ok (.istore_n 1, 1) := by decide +kernel
theorem dX2_countProps_39 : decode cX2_countProps 39 = .ok (.iinc 4 1, 3) := by decide +kernel
theorem dX2_countProps_42 : decode cX2_countProps 42 = .ok (.goto (-29), 3) := by decide +kernel
theorem dX2_countProps_45 : decode cX2_countProps 45 = .ok (.iload_n 1, 1) := by decide +kernel
theorem dX2_countProps_46 : decode cX2_countProps 46 = .ok (.ireturn, 1) := by decide +kernel
theorem dX2_ages_0 : decode cX2_ages 0 = .ok (.aload_n 0, 1) := by decide +kernel
theorem dX2_ages_1 : decode cX2_ages 1 = .ok (.getfield 21, 3) := by decide +kernel
theorem dX2_ages_4 : decode cX2_ages 4 = .ok (.iconst 2, 1) := by decide +kernel
theorem dX2_ages_5 : decode cX2_ages 5 = .ok (.if_icmp .eq 26, 3) := by decide +kernel
theorem dX2_ages_8 : decode cX2_ages 8 = .ok (.iload_n 1, 1) := by decide +kernel
theorem dX2_ages_9 : decode cX2_ages 9 = .ok (.ifCond .lt 22, 3) := by decide +kernel
theorem dX2_ages_12 : decode cX2_ages 12 = .ok (.iload_n 1, 1) := by decide +kernel
theorem dX2_ages_13 : decode cX2_ages 13 = .ok (.iconst 5, 1) := by decide +kernel
theorem dX2_ages_14 : decode cX2_ages 14 = .ok (.if_icmp .ge 17, 3) := by decide +kernel
theorem dX2_ages_17 : decode cX2_ages 17 = .ok (.aload_n 0, 1) := by decide +kernel
theorem dX2_ages_18 : decode cX2_ages 18 = .ok (.getfield 15, 3) := by decide +kernel
theorem dX2_ages_21 : decode cX2_ages 21 = .ok (.iload_n 1, 1) := by decide +kernel
theorem dX2_ages_22 : decode cX2_ages 22 = .ok (.iaload, 1) := by decide +kernel
theorem dX2_ages_23 : decode cX2_ages 23 = .ok (.iconst (-1), 1) := by decide +kernel
theorem dX2_ages_24 : decode cX2_ages 24 = .ok (.if_icmp .eq 7, 3) := by decide +kernel
theorem dX2_ages_27 : decode cX2_ages 27 = .ok (.iconst 1, 1) := by decide +kernel
theorem dX2_ages_28 : decode cX2_ages 28 = .ok (.goto 4, 3) := by decide +kernel
theorem dX2_ages_31 : decode cX2_ages 31 = .ok (.iconst 0, 1) := by decide +kernel
theorem dX2_ages_32 : decode cX2_ages 32 = .ok (.ireturn, 1) := by decide +kernel
theorem dX3_init_0 : decode cX3_init 0 = .ok (.aload_n 0, 1) := by decide +kernel
theorem dX3_init_1 : decode cX3_init 1 = .ok (.invokespecial 3, 3) := by decide +kernel
theorem dX3_init_4 : decode cX3_init 4 = .ok (.aload_n 0, 1) := by decide +kernel
theorem dX3_init_5 : decode cX3_init 5 = .ok (.iconst 5, 1) := by decide +kernel
theorem dX3_init_6 : decode cX3_init 6 = .ok (.iconst 4, 1) := by decide +kernel
theorem dX3_init_7 : decode cX3_init 7 = .ok (.multianewarray 9 2, 4) := by decide +kernel
theorem dX3_init_11 : decode cX3_init 11 = .ok (.putfield 11, 3) := by decide +kernel
theorem dX3_init_14 : decode cX3_init 14 = .ok (.aload_n 0, 1) := by decide +kernel
theorem dX3_init_15 : decode cX3_init 15 = .ok (.iconst 5, 1) := by decide +kernel
theorem dX3_init_16 : decode cX3_init 16 = .ok (.newarray .int, 2) := by decide +kernel
theorem dX3_init_18 : decode cX3_init 18 = .ok (.putfield 16, 3) := by decide +kernel
theorem dX3_init_21 : decode cX3_init 21 = .ok (.aload_n 0, 1) := by decide +kernel
theorem dX3_init_22 : decode cX3_init 22 = .ok (.iconst (-1), 1) := by decide +kernel
theorem dX3_init_23 : decode cX3_init 23 = .ok (.putfield 20, 3) := by decide +kernel
theorem dX3_init_26 : decode cX3_init 26 = .ok (.return_, 1) := by decide +kernel
theorem dX3_copy_0 : decode cX3_copy 0 = .ok (.iconst 0, 1) := by decide +kernel
theorem dX3_copy_1 : decode cX3_copy 1 = .ok (.istore_n 2, 1) := by decide +kernel
theorem dX3_copy_2 : decode cX3_copy 2 = .ok (.iload_n 2, 1) := by decide +kernel
theorem dX3_copy_3 : decode cX3_copy 3 = .ok (.iconst 5, 1) := by decide +kernel
theorem dX3_copy_4 : decode cX3_copy 4 = .ok (.if_icmp .ge 27, 3) := by decide +kernel
theorem dX3_copy_7 : decode cX3_copy 7 = .ok (.aload_n 1, 1) := by decide +kernel
theorem dX3_copy_8 : decode cX3_copy 8 = .ok (.getfield 11, 3) := by decide +kernel
theorem dX3_copy_11 : decode cX3_copy 11 = .ok (.iload_n 2, 1) := by decide +kernel
theorem dX3_copy_12 : decode cX3_copy 12 = .ok (.aaload, 1) := by decide +kernel
theorem dX3_copy_13 : decode cX3_copy 13 = .ok (.iconst 0, 1) := by decide +kernel
theorem dX3_copy_14 : decode cX3_copy 14 = .ok (.aload_n 0, 1) := by decide +kernel
theorem dX3_copy_15 : decode cX3_copy 15 = .ok (.getfield 11, 3) := by decide +kernel
theorem dX3_copy_18 : decode cX3_copy 18 = .ok (.iload_n 2, 1) := by decide +kernel
theorem dX3_copy_19 : decode cX3_copy 19 = .ok (.aaload, 1) := by decide +kernel
theorem dX3_copy_20 : decode cX3_copy 20 = .ok (.iconst 0, 1) := by decide +kernel
theorem dX3_copy_21 : decode cX3_copy 21 = .ok (.iconst 4, 1) := by decide +kernel
theorem dX3_copy_22 : decode cX3_copy 22 = .ok (.invokestatic 24, 3) := by decide +kernel
theorem dX3_copy_25 : decode cX3_copy 25 = .ok (.iinc 2 1, 3) := by decide +kernel
theorem dX3_copy_28 : decode cX3_copy 28 = .ok (.goto (-26), 3) := by decide +kernel
theorem dX3_copy_31 : decode cX3_copy 31 = .ok (.aload_n 1, 1) := by decide +kernel
theorem dX3_copy_32 : decode cX3_copy 32 = .ok (.getfield 16, 3) := by decide +kernel
theorem dX3_copy_35 : decode cX3_copy 35 = .ok (.iconst 0, 1) := by decide +kernel
theorem dX3_copy_36 : decode cX3_copy 36 = .ok (.aload_n 0, 1) := by decide +kernel
theorem dX3_copy_37 : decode cX3_copy 37 = .ok (.getfield 16, 3) := by decide +kernel
theorem dX3_copy_40 : decode cX3_copy 40 = .ok (.iconst 0, 1) := by decide +kernel
theorem dX3_copy_41 : decode cX3_copy 41 = .ok (.iconst 5, 1) := by decide +kernel
theorem dX3_copy_42 : decode cX3_copy 42 = .ok (.invokestatic 24, 3) := by decide +kernel
theorem dX3_copy_45 : decode cX3_copy 45 = .ok (.aload_n 0, 1) := by decide +kernel
theorem dX3_copy_46 : decode cX3_copy 46 = .ok (.aload_n 1, 1) := by decide +kernel
theorem dX3_copy_47 : decode cX3_copy 47 = .ok (.getfield 20, 3) := by decide +kernel
theorem dX3_copy_50 : decode cX3_copy 50 = .ok (.putfield 20, 3) := by decide +kernel
theorem dX3_copy_53 : decode cX3_copy 53 = .ok (.return_, 1) := by decide +kernel
theorem dX3_countCopies_0 : decode cX3_countCopies 0 = .ok (.iconst 0, 1) := by decide +kernel
theorem dX3_countCopies_1 : decode cX3_countCopies 1 = .ok (.istore_n 2, 1) := by decide +kernel
theorem dX3_countCopies_2 : decode cX3_countCopies 2 = .ok (.iconst 0, 1) := by decide +kernel
theorem dX3_countCopies_3 : decode cX3_countCopies 3 = .ok (.istore_n 3, 1) := by decide +kernel
theorem dX3_countCopies_4 : decode cX3_countCopies 4 = .ok (.iload_n 3, 1) := by decide +kernel
theorem dX3_countCopies_5 : decode cX3_countCopies 5 = .ok (.iconst 4, 1) := by decide +kernel
theorem dX3_countCopies_6 : decode cX3_countCopies 6 = .ok (.if_icmp .ge 20, 3) := by decide +kernel
theorem dX3_countCopies_9 : decode cX3_countCopies 9 = .ok (.iload_n 2, 1) := by decide +kernel
theorem dX3_countCopies_10 : decode cX3_countCopies 10 = .ok (.aload_n 0, 1) := by decide +kernel
theorem dX3_countCopies_11 : decode cX3_countCopies 11 = .ok (.getfield 11, 3) := by decide +kernel
theorem dX3_countCopies_14 : decode cX3_countCopies 14 = .ok (.iload_n 1, 1) := by decide +kernel
theorem dX3_countCopies_15 : decode cX3_countCopies 15 = .ok (.aaload, 1) := by decide +kernel
theorem dX3_countCopies_16 : decode cX3_countCopies 16 = .ok (.iload_n 3, 1) := by decide +kernel
theorem dX3_countCopies_17 : decode cX3_countCopies 17 = .ok (.iaload, 1) := by decide +kernel
theorem dX3_countCopies_18 : decode cX3_countCopies 18 = .ok (.iadd, 1) := by decide +kernel
theorem dX3_countCopies_19 : decode cX3_countCopies 19 = .ok (.istore_n 2, 1) := by decide +kernel
theorem dX3_countCopies_20 : decode cX3_countCopies 20 = .ok (.iinc 3 1, 3) := by decide +kernel
theorem dX3_countCopies_23 : decode cX3_countCopies 23 = .ok (.goto (-19), 3) := by decide +kernel
theorem dX3_countCopies_26 : decode cX3_countCopies 26 = .ok (.iload_n 2, 1) := by decide +kernel
theorem dX3_countCopies_27 : decode cX3_countCopies 27 = .ok (.ireturn, 1) := by decide +kernel
theorem dX3_growBeards_0 : decode cX3_growBeards 0 = .ok (.iconst 0, 1) := by decide +kernel
theorem dX3_growBeards_1 : decode cX3_growBeards 1 = .ok (.istore_n 2, 1) := by decide +kernel
theorem dX3_growBeards_2 : decode cX3_growBeards 2 = .ok (.iload_n 2, 1) := by decide +kernel
theorem dX3_growBeards_3 : decode cX3_growBeards 3 = .ok (.iconst 5, 1) := by decide +kernel
theorem dX3_growBeards_4 : decode cX3_growBeards 4 = .ok (.if_icmp .ge 28, 3) := by decide +kernel
theorem dX3_growBeards_7 : decode cX3_growBeards 7 = .ok (.aload_n 0, 1) := by decide +kernel
theorem dX3_growBeards_8 : decode cX3_growBeards 8 = .ok (.getfield 16, 3) := by decide +kernel
theorem dX3_growBeards_11 : decode cX3_growBeards 11 = .ok (.iload_n 2, 1) := by decide +kernel
theorem dX3_growBeards_12 : decode cX3_growBeards 12 = .ok (.bipush 20, 2) := by decide +kernel
theorem dX3_growBeards_14 : decode cX3_growBeards 14 = .ok (.aload_n 0, 1) := by decide +kernel
theorem dX3_growBeards_15 : decode cX3_growBeards 15 = .ok (.getfield 16, 3) := by decide +kernel
theorem dX3_growBeards_18 : decode cX3_growBeards 18 = .ok (.iload_n 2, 1) := by decide +kernel
theorem dX3_growBeards_19 : decode cX3_growBeards 19 = .ok (.iaload, 1) := by decide +kernel
theorem dX3_growBeards_20 : decode cX3_growBeards 20 = .ok (.iload_n 1, 1) := by decide +kernel
theorem dX3_growBeards_21 : decode cX3_growBeards 21 = .ok (.iadd, 1) := by decide +kernel
theorem dX3_growBeards_22 : decode cX3_growBeards 22 = .ok (.invokestatic 30, 3) := by decide +kernel
theorem dX3_growBeards_25 : decode cX3_growBeards 25 = .ok (.iastore, 1) := by decide +kernel
theorem dX3_growBeards_26 : decode cX3_growBeards 26 = .ok (.iinc 2 1, 3) := by decide +kernel
theorem dX3_growBeards_29 : decode cX3_growBeards 29 = .ok (.goto (-27), 3) := by decide +kernel
theorem dX3_growBeards_32 : decode cX3_growBeards 32 = .ok (.return_, 1) := by decide +kernel
theorem dX3_film_0 : decode cX3_film 0 = .ok (.aload_n 0, 1) := by decide +kernel
theorem dX3_film_1 : decode cX3_film 1 = .ok (.getfield 20, 3) := by decide +kernel
theorem dX3_film_4 : decode cX3_film 4 = .ok (.iconst (-1), 1) := by decide +kernel
theorem dX3_film_5 : decode cX3_film 5 = .ok (.if_icmp .eq 14, 3) := by decide +kernel
theorem dX3_film_8 : decode cX3_film 8 = .ok (.aload_n 0, 1) := by decide +kernel
theorem dX3_film_9 : decode cX3_film 9 = .ok (.getfield 20, 3) := by decide +kernel
theorem dX3_film_12 : decode cX3_film 12 = .ok (.aload_n 1, 1) := by decide +kernel
theorem dX3_film_13 : decode cX3_film 13 = .ok (.getfield 36, 3) := by decide +kernel
theorem dX3_film_16 : decode cX3_film 16 = .ok (.if_icmp .ne 7, 3) := by decide +kernel
theorem dX3_film_19 : decode cX3_film 19 = .ok (.iconst 0, 1) := by decide +kernel
theorem dX3_film_20 : decode cX3_film 20 = .ok (.goto 4, 3) := by decide +kernel
theorem dX3_film_23 : decode cX3_film 23 = .ok (.iconst 2, 1) := by decide +kernel
theorem dX3_film_24 : decode cX3_film 24 = .ok (.istore_n 2, 1) := by decide +kernel
theorem dX3_film_25 : decode cX3_film 25 = .ok (.aload_n 0, 1) := by decide +kernel
theorem dX3_film_26 : decode cX3_film 26 = .ok (.aload_n 1, 1) := by decide +kernel
theorem dX3_film_27 : decode cX3_film 27 = .ok (.getfield 36, 3) := by decide +kernel
theorem dX3_film_30 : decode cX3_film 30 = .ok (.putfield 20, 3) := by decide +kernel
theorem dX3_film_33 : decode cX3_film 33 = .ok (.iconst 0, 1) := by decide +kernel
theorem dX3_film_34 : decode cX3_film 34 = .ok (.istore_n 3, 1) := by decide +kernel
theorem dX3_film_35 : decode cX3_film 35 = .ok (.iload_n 3, 1) := by decide +kernel
theorem dX3_film_36 : decode cX3_film 36 = .ok (.iconst 5, 1) := by decide +kernel
theorem dX3_film_37 : decode cX3_film 37 = .ok (.if_icmp .ge 23, 3) := by decide +kernel
theorem dX3_film_40 : decode cX3_film 40 = .ok (.iload_n 2, 1) := by decide +kernel
theorem dX3_film_41 : decode cX3_film 41 = .ok (.aload_n 0, 1) := by decide +kernel
theorem dX3_film_42 : decode cX3_film 42 = .ok (.iload_n 3, 1) := by decide +kernel
theorem dX3_film_43 : decode cX3_film 43 = .ok (.aload_n 1, 1) := by decide +kernel
theorem dX3_film_44 : decode cX3_film 44 = .ok (.getfield 41, 3) := by decide +kernel
theorem dX3_film_47 : decode cX3_film 47 = .ok (.iload_n 3, 1) := by decide +kernel
theorem dX3_film_48 : decode cX3_film 48 = .ok (.iaload, 1) := by decide +kernel
theorem dX3_film_49 : decode cX3_film 49 = .ok (.invokevirtual 42, 3) := by decide +kernel
theorem dX3_film_52 : decode cX3_film 52 = .ok (.iadd, 1) := by decide +kernel
theorem dX3_film_53 : decode cX3_film 53 = .ok (.istore_n 2, 1) := by decide +kernel
theorem dX3_film_54 : decode cX3_film 54 = .ok (.iinc 3 1, 3) := by decide +kernel
theorem dX3_film_57 : decode cX3_film 57 = .ok (.goto (-22), 3) := by decide +kernel
theorem dX3_film_60 : decode cX3_film 60 = .ok (.iconst 0, 1) := by decide +kernel
theorem dX3_film_61 : decode cX3_film 61 = .ok (.istore_n 3, 1) := by decide +kernel
theorem dX3_film_62 : decode cX3_film 62 = .ok (.iload_n 3, 1) := by decide +kernel
theorem dX3_film_63 : decode cX3_film 63 = .ok (.iconst 5, 1) := by decide +kernel
theorem dX3_film_64 : decode cX3_film 64 = .ok (.if_icmp .ge 39, 3) := by decide +kernel
theorem dX3_film_67 : decode cX3_film 67 = .ok (.aload_n 1, 1) := by decide +kernel
theorem dX3_film_68 : decode cX3_film 68 = .ok (.getfield 45, 3) := by decide +kernel
theorem dX3_film_71 : decode cX3_film 71 = .ok (.iload_n 3, 1) := by decide +kernel
theorem dX3_film_72 : decode cX3_film 72 = .ok (.iaload, 1) := by decide +kernel
theorem dX3_film_73 : decode cX3_film 73 = .ok (.iconst (-1), 1) := by decide +kernel
theorem dX3_film_74 : decode cX3_film 74 = .ok (.if_icmp .eq 23, 3) := by decide +kernel
theorem dX3_film_77 : decode cX3_film 77 = .ok (.iload_n 2, 1) := by decide +kernel
theorem dX3_film_78 : decode cX3_film 78 = .ok (.aload_n 0, 1) := by decide +kernel
theorem dX3_film_79 : decode cX3_film 79 = .ok (.iload_n 3, 1) := by decide +kernel
theorem dX3_film_80 : decode cX3_film 80 = .ok (.aload_n 1, 1) := by decide +kernel
theorem dX3_film_81 : decode cX3_film 81 = .ok (.getfield 45, 3) := by decide +kernel
theorem dX3_film_84 : decode cX3_film 84 = .ok (.iload_n 3, 1) := by decide +kernel
theorem dX3_film_85 : decode cX3_film 85 = .ok (.iaload, 1) := by decide +kernel
theorem dX3_film_86 : decode cX3_film 86 = .ok (.aload_n 1, 1) := by decide +kernel
theorem dX3_film_87 : decode cX3_film 87 = .ok (.getfield 48, 3) := by decide +kernel
theorem dX3_film_90 : decode cX3_film 90 = .ok (.iload_n 3, 1) := by decide +kernel
theorem dX3_film_91 : decode cX3_film 91 = .ok (.iaload, 1) := by decide +kernel
theorem dX3_film_92 : decode cX3_film 92 = .ok (.invokevirtual 51, 3) := by decide +kernel
theorem dX3_film_95 : decode cX3_film 95 = .ok (.iadd, 1) := by decide +kernel
theorem dX3_film_96 : decode cX3_film 96 = .ok (.istore_n 2, 1) := by decide +kernel
theorem dX3_film_97 : decode cX3_film 97 = .ok (.iinc 3 1, 3) := by decide +kernel
theorem dX3_film_100 : decode cX3_film 100 = .ok (.goto (-38), 3) := by decide +kernel
theorem dX3_film_103 : decode cX3_film 103 = .ok (.iload_n 2, 1) := by decide +kernel
theorem dX3_film_104 : decode cX3_film 104 = .ok (.ireturn, 1) := by decide +kernel
theorem dX3_dress_0 : decode cX3_dress 0 = .ok (.iload_n 2, 1) := by decide +kernel
theorem dX3_dress_1 : decode cX3_dress 1 = .ok (.ifCond .ne 10, 3) := by decide +kernel
theorem dX3_dress_4 : decode cX3_dress 4 = .ok (.aload_n 0, 1) := by decide +kernel
theorem dX3_dress_5 : decode cX3_dress 5 = .ok (.getfield 16, 3) := by decide +kernel
theorem dX3_dress_8 : decode cX3_dress 8 = .ok (.iload_n 1, 1) := by decide +kernel
theorem dX3_dress_9 : decode cX3_dress 9 = .ok (.iconst 0, 1) := by decide +kernel
theorem dX3_dress_10 : decode cX3_dress 10 = .ok (.iastore, 1) := by decide +kernel
theorem dX3_dress_11 : decode cX3_dress 11 = .ok (.iload_n 2, 1) := by decide +kernel
theorem dX3_dress_12 : decode cX3_dress 12 = .ok (.aload_n 0, 1) := by decide +kernel
theorem dX3_dress_13 : decode cX3_dress 13 = .ok (.getfield 16, 3) := by decide +kernel
theorem dX3_dress_16 : decode cX3_dress 16 = .ok (.iload_n 1, 1) := by decide +kernel
theorem dX3_dress_17 : decode cX3_dress 17 = .ok (.iaload, 1) := by decide +kernel
theorem dX3_dress_18 : decode cX3_dress 18 = .ok (.if_icmp .le 7, 3) := by decide +kernel
theorem dX3_dress_21 : decode cX3_dress 21 = .ok (.iconst 3, 1) := by decide +kernel
theorem dX3_dress_22 : decode cX3_dress 22 = .ok (.goto 4, 3) := by decide +kernel
theorem dX3_dress_25 : decode cX3_dress 25 = .ok (.iconst 0, 1) := by decide +kernel
theorem dX3_dress_26 : decode cX3_dress 26 = .ok (.ireturn, 1) := by decide +kernel
theorem dX3_serve_0 : decode cX3_serve 0 = .ok (.aload_n 0, 1) := by decide +kernel
theorem dX3_serve_1 : decode cX3_serve 1 = .ok (.getfield 11, 3) := by decide +kernel
theorem dX3_serve_4 : decode cX3_serve 4 = .ok (.iload_n 1, 1) := by decide +kernel
theorem dX3_serve_5 : decode cX3_serve 5 = .ok (.aaload, 1) := by decide +kernel
theorem dX3_serve_6 : decode cX3_serve 6 = .ok (.astore 4, 2) := by decide +kernel
theorem dX3_serve_8 : decode cX3_serve 8 = .ok (.iconst (-1), 1) := by decide +kernel
theorem dX3_serve_9 : decode cX3_serve 9 = .ok (.istore 5, 2) := by decide +kernel
theorem dX3_serve_11 : decode cX3_serve 11 = .ok (.iconst 0, 1) := by decide +kernel
theorem dX3_serve_12 : decode cX3_serve 12 = .ok (.istore 6, 2) := by decide +kernel
theorem dX3_serve_14 : decode cX3_serve 14 = .ok (.iload 6, 2) := by decide +kernel
theorem dX3_serve_16 : decode cX3_serve 16 = .ok (.iconst 4, 1) := by decide +kernel
theorem dX3_serve_17 : decode cX3_serve 17 = .ok (.if_icmp .ge 27, 3) := by decide +kernel
theorem dX3_serve_20 : decode cX3_serve 20 = .ok (.iload 6, 2) := by decide +kernel
theorem dX3_serve_22 : decode cX3_serve 22 = .ok (.iload_n 2, 1) := by decide +kernel
theorem dX3_serve_23 : decode cX3_serve 23 = .ok (.if_icmp .gt 21, 3) := by decide +kernel
theorem dX3_serve_26 : decode cX3_serve 26 = .ok (.aload 4, 2) := by decide +kernel
theorem dX3_serve_28 : decode cX3_serve 28 = .ok (.iload 6, 2) := by decide +kernel
theorem dX3_serve_30 : decode cX3_serve 30 = .ok (.iaload, 1) := by decide +kernel
theorem dX3_serve_31 : decode cX3_serve 31 = .ok (.ifCond .le 7, 3) := by decide +kernel
theorem dX3_serve_34 : decode cX3_serve 34 = .ok (.iload 6, 2) := by decide +kernel
theorem dX3_serve_36 : decode cX3_serve 36 = .ok (.istore 5, 2) := by decide +kernel
theorem dX3_serve_38 : decode cX3_serve 38 = .ok (.iinc 6 1, 3) := by decide +kernel
theorem dX3_serve_41 : decode cX3_serve 41 = .ok (.goto (-27), 3) := by decide +kernel
theorem dX3_serve_44 : decode cX3_serve 44 = .ok (.iload_n 3, 1) := by decide +kernel
theorem dX3_serve_45 : decode cX3_serve 45 = .ok (.ifCond .lt 16, 3) := by decide +kernel
theorem dX3_serve_48 : decode cX3_serve 48 = .ok (.iload_n 3, 1) := by decide +kernel
theorem dX3_serve_49 : decode cX3_serve 49 = .ok (.iconst 4, 1) := by decide +kernel
theorem dX3_serve_50 : decode cX3_serve 50 = .ok (.if_icmp .ge 11, 3) := by decide +kernel
theorem dX3_serve_53 : decode cX3_serve 53 = .ok (.aload 4, 2) := by decide +kernel
theorem dX3_serve_55 : decode cX3_serve 55 = .ok (.iload_n 3, 1) := by decide +kernel
theorem dX3_serve_56 : decode cX3_serve 56 = .ok (.dup2, 1) := by decide +kernel
theorem dX3_serve_57 : decode cX3_serve 57 = .ok (.iaload, 1) := by decide +kernel
theorem dX3_serve_58 : decode cX3_serve 58 = .ok (.iconst 1, 1) := by decide +kernel
theorem dX3_serve_59 : decode cX3_serve 59 = .ok (.iadd, 1) := by decide +kernel
theorem dX3_serve_60 : decode cX3_serve 60 = .ok (.iastore, 1) := by decide +kernel
theorem dX3_serve_61 : decode cX3_serve 61 = .ok (.iload 5, 2) := by decide +kernel
theorem dX3_serve_63 : decode cX3_serve 63 = .ok (.iconst (-1), 1) := by decide +kernel
theorem dX3_serve_64 : decode cX3_serve 64 = .ok (.if_icmp .ne 7, 3) := by decide +kernel
theorem dX3_serve_67 : decode cX3_serve 67 = .ok (.iconst 5, 1) := by decide +kernel
theorem dX3_serve_68 : decode cX3_serve 68 = .ok (.iload_n 2, 1) := by decide +kernel
theorem dX3_serve_69 : decode cX3_serve 69 = .ok (.iadd, 1) := by decide +kernel
theorem dX3_serve_70 : decode cX3_serve 70 = .ok (.ireturn, 1) := by decide +kernel
theorem dX3_serve_71 : decode cX3_serve 71 = .ok (.aload 4, 2) := by decide +kernel
theorem dX3_serve_73 : decode cX3_serve 73 = .ok (.iload 5, 2) := by decide +kernel
theorem dX3_serve_75 : decode cX3_serve 75 = .ok (.dup2, 1) := by decide +kernel
theorem dX3_serve_76 : decode cX3_serve 76 = .ok (.iaload, 1) := by decide +kernel
theorem dX3_serve_77 : decode cX3_serve 77 = .ok (.iconst 1, 1) := by decide +kernel
theorem dX3_serve_78 : decode cX3_serve 78 = .ok (.isub, 1) := by decide +kernel
theorem dX3_serve_79 : decode cX3_serve 79 = .ok (.iastore, 1) := by decide +kernel
theorem dX3_serve_80 : decode cX3_serve 80 = .ok (.iload_n 2, 1) := by decide +kernel
theorem dX3_serve_81 : decode cX3_serve 81 = .ok (.iload 5, 2) := by decide +kernel
theorem dX3_serve_83 : decode cX3_serve 83 = .ok (.isub, 1) := by decide +kernel
theorem dX3_serve_84 : decode cX3_serve 84 = .ok (.ireturn, 1) := by decide +kernel
theorem dX4_init_0 : decode cX4_init 0 = .ok (.aload_n 0, 1) := by decide +kernel
theorem dX4_init_1 : decode cX4_init 1 = .ok (.invokespecial 1, 3) := by decide +kernel
theorem dX4_init_4 : decode cX4_init 4 = .ok (.aload_n 0, 1) := by decide +kernel
theorem dX4_init_5 : decode cX4_init 5 = .ok (.bipush 10, 2) := by decide +kernel
theorem dX4_init_7 : decode cX4_init 7 = .ok (.anewarray 9, 3) := by decide +kernel
theorem dX4_init_10 : decode cX4_init 10 = .ok (.putfield 11, 3) := by decide +kernel
theorem dX4_init_13 : decode cX4_init 13 = .ok (.aload_n 0, 1) := by decide +kernel
theorem dX4_init_14 : decode cX4_init 14 = .ok (.bipush 30, 2) := by decide +kernel
theorem dX4_init_16 : decode cX4_init 16 = .ok (.anewarray 9, 3) := by decide +kernel
theorem dX4_init_19 : decode cX4_init 19 = .ok (.putfield 15, 3) := by decide +kernel
theorem dX4_init_22 : decode cX4_init 22 = .ok (.aload_n 0, 1) := by decide +kernel
theorem dX4_init_23 : decode cX4_init 23 = .ok (.bipush 20, 2) := by decide +kernel
theorem dX4_init_25 : decode cX4_init 25 = .ok (.anewarray 18, 3) := by decide +kernel
theorem dX4_init_28 : decode cX4_init 28 = .ok (.putfield 20, 3) := by decide +kernel
theorem dX4_init_31 : decode cX4_init 31 = .ok (.aload_n 0, 1) := by decide +kernel
theorem dX4_init_32 : decode cX4_init 32 = .ok (.iconst 5, 1) := by decide +kernel
theorem dX4_init_33 : decode cX4_init 33 = .ok (.newarray .int, 2) := by decide +kernel
theorem dX4_init_35 : decode cX4_init 35 = .ok (.putfield 24, 3) := by decide +kernel
theorem dX4_init_38 : decode cX4_init 38 = .ok (.aload_n 0, 1) := by decide +kernel
theorem dX4_init_39 : decode cX4_init 39 = .ok (.new 28, 3) := by decide +kernel
theorem dX4_init_42 : decode cX4_init 42 = .ok (.dup, 1) := by decide +kernel
theorem dX4_init_43 : decode cX4_init 43 = .ok (.invokespecial 30, 3) := by decide +kernel
theorem dX4_init_46 : decode cX4_init 46 = .ok (.putfield 31, 3) := by decide +kernel
theorem dX4_init_49 : decode cX4_init 49 = .ok (.aload_n 0, 1) := by decide +kernel
theorem dX4_init_50 : decode cX4_init 50 = .ok (.new 28, 3) := by decide +kernel
theorem dX4_init_53 : decode cX4_init 53 = .ok (.dup, 1) := by decide +kernel
theorem dX4_init_54 : decode cX4_init 54 = .ok (.invokespecial 30, 3) := by decide +kernel
theorem dX4_init_57 : decode cX4_init 57 = .ok (.putfield 35, 3) := by decide +kernel
theorem dX4_init_60 : decode cX4_init 60 = .ok (.aload_n 0, 1) := by decide +kernel
theorem dX4_init_61 : decode cX4_init 61 = .ok (.new 38, 3) := by decide +kernel
theorem dX4_init_64 : decode cX4_init 64 = .ok (.dup, 1) := by decide +kernel
theorem dX4_init_65 : decode cX4_init 65 = .ok (.invokespecial 40, 3) := by decide +kernel
theorem dX4_init_68 : decode cX4_init 68 = .ok (.putfield 41, 3) := by decide +kernel
theorem dX4_init_71 : decode cX4_init 71 = .ok (.aload_n 0, 1) := by decide +kernel
theorem dX4_init_72 : decode cX4_init 72 = .ok (.iconst 0, 1) := by decide +kernel
theorem dX4_init_73 : decode cX4_init 73 = .ok (.putfield 45, 3) := by decide +kernel
theorem dX4_init_76 : decode cX4_init 76 = .ok (.aload_n 0, 1) := by decide +kernel
theorem dX4_init_77 : decode cX4_init 77 = .ok (.iconst 0, 1) := by decide +kernel
theorem dX4_init_78 : decode cX4_init 78 = .ok (.putfield 49, 3) := by decide +kernel
theorem dX4_init_81 : decode cX4_init 81 = .ok (.aload_n 0, 1) := by decide +kernel
theorem dX4_init_82 : decode cX4_init 82 = .ok (.iconst 0, 1) := by decide +kernel
theorem dX4_init_83 : decode cX4_init 83 = .ok (.putfield 52, 3) := by decide +kernel
theorem dX4_init_86 : decode cX4_init 86 = .ok (.aload_n 0, 1) := by decide +kernel
theorem dX4_init_87 : decode cX4_init 87 = .ok (.iconst 0, 1) := by decide +kernel
theorem dX4_init_88 : decode cX4_init 88 = .ok (.putfield 55, 3) := by decide +kernel
theorem dX4_init_91 : decode cX4_init 91 = .ok (.return_, 1) := by decide +kernel
theorem dX4_scene_0 : decode cX4_scene 0 = .ok (.iload_n 1, 1) := by decide +kernel
theorem dX4_scene_1 : decode cX4_scene 1 = .ok (.ifCond .lt 18, 3) := by decide +kernel
theorem dX4_scene_4 : decode cX4_scene 4 = .ok (.iload_n 1, 1) := by decide +kernel
theorem dX4_scene_5 : decode cX4_scene 5 = .ok (.iconst 4, 1) := by decide +kernel
theorem dX4_scene_6 : decode cX4_scene 6 = .ok (.if_icmp .ge 13, 3) := by decide +kernel
theorem dX4_scene_9 : decode cX4_scene 9 = .ok (.iload_n 2, 1) := by decide +kernel
theorem dX4_scene_10 : decode cX4_scene 10 = .ok (.ifCond .lt 9, 3) := by decide +kernel
theorem dX4_scene_13 : decode cX4_scene 13 = .ok (.iload_n 2, 1) := by decide +kernel
theorem dX4_scene_14 : decode cX4_scene 14 = .ok (.bipush 9, 2) := by decide +kernel
theorem dX4_scene_16 : decode cX4_scene 16 = .ok (.if_icmp .le 13, 3) := by decide +kernel
theorem dX4_scene_19 : decode cX4_scene 19 = .ok (.new 58, 3) := by decide +kernel
theorem dX4_scene_22 : decode cX4_scene 22 = .ok (.dup, 1) := by decide +kernel
theorem dX4_scene_23 : decode cX4_scene 23 = .ok (.ldc 60, 2) := by decide +kernel
theorem dX4_scene_25 : decode cX4_scene 25 = .ok (.invokespecial 62, 3) := by decide +kernel
theorem dX4_scene_28 : decode cX4_scene 28 = .ok (.athrow, 1) := by decide +kernel
theorem dX4_scene_29 : decode cX4_scene 29 = .ok (.aload_n 0, 1) := by decide +kernel
theorem dX4_scene_30 : decode cX4_scene 30 = .ok (.invokevirtual 65, 3) := by decide +kernel
theorem dX4_scene_33 : decode cX4_scene 33 = .ok (.istore_n 3, 1) := by decide +kernel
theorem dX4_scene_34 : decode cX4_scene 34 = .ok (.aload_n 0, 1) := by decide +kernel
theorem dX4_scene_35 : decode cX4_scene 35 = .ok (.getfield 45, 3) := by decide +kernel
theorem dX4_scene_38 : decode cX4_scene 38 = .ok (.aload_n 0, 1) := by decide +kernel
theorem dX4_scene_39 : decode cX4_scene 39 = .ok (.getfield 11, 3) := by decide +kernel
theorem dX4_scene_42 : decode cX4_scene 42 = .ok (.arraylength, 1) := by decide +kernel
theorem dX4_scene_43 : decode cX4_scene 43 = .ok (.if_icmp .ge 12, 3) := by decide +kernel
theorem dX4_scene_46 : decode cX4_scene 46 = .ok (.iload_n 3, 1) := by decide +kernel
theorem dX4_scene_47 : decode cX4_scene 47 = .ok (.aload_n 0, 1) := by decide +kernel
theorem dX4_scene_48 : decode cX4_scene 48 = .ok (.getfield 15, 3) := by decide +kernel
theorem dX4_scene_51 : decode cX4_scene 51 = .ok (.arraylength, 1) := by decide +kernel
theorem dX4_scene_52 : decode cX4_scene 52 = .ok (.if_icmp .lt 13, 3) := by decide +kernel
theorem dX4_scene_55 : decode cX4_scene 55 = .ok (.new 69, 3) := by decide +kernel
theorem dX4_scene_58 : decode cX4_scene 58 = .ok (.dup, 1) := by decide +kernel
theorem dX4_scene_59 : decode cX4_scene 59 = .ok (.ldc 71, 2) := by decide +kernel
theorem dX4_scene_61 : decode cX4_scene 61 = .ok (.invokespecial 73, 3) := by decide +kernel
theorem dX4_scene_64 : decode cX4_scene 64 = .ok (.athrow, 1) := by decide +kernel
theorem dX4_scene_65 : decode cX4_scene 65 = .ok (.new 9, 3) := by decide +kernel
theorem dX4_scene_68 : decode cX4_scene 68 = .ok (.dup, 1) := by decide +kernel
theorem dX4_scene_69 : decode cX4_scene 69 = .ok (.aload_n 0, 1) := by decide +kernel
theorem dX4_scene_70 : decode cX4_scene 70 = .ok (.getfield 45, 3) := by decide +kernel
theorem dX4_scene_73 : decode cX4_scene 73 = .ok (.iload_n 1, 1) := by decide +kernel
theorem dX4_scene_74 : decode cX4_scene 74 = .ok (.iload_n 2, 1) := by decide +kernel
theorem dX4_scene_75 : decode cX4_scene 75 = .ok (.invokespecial 74, 3) := by decide +kernel
theorem dX4_scene_78 : decode cX4_scene 78 = .ok (.astore 4, 2) := by decide +kernel
theorem dX4_scene_80 : decode cX4_scene 80 = .ok (.aload_n 0, 1) := by decide +kernel
theorem dX4_scene_81 : decode cX4_scene 81 = .ok (.getfield 11, 3) := by decide +kernel
theorem dX4_scene_84 : decode cX4_scene 84 = .ok (.aload_n 0, 1) := by decide +kernel
theorem dX4_scene_85 : decode cX4_scene 85 = .ok (.getfield 45, 3) := by decide +kernel
theorem dX4_scene_88 : decode cX4_scene 88 = .ok (.aload 4, 2) := by decide +kernel
theorem dX4_scene_90 : decode cX4_scene 90 = .ok (.aastore, 1) := by decide +kernel
theorem dX4_scene_91 : decode cX4_scene 91 = .ok (.aload_n 0, 1) := by decide +kernel
theorem dX4_scene_92 : decode cX4_scene 92 = .ok (.dup, 1) := by decide +kernel
theorem dX4_scene_93 : decode cX4_scene 93 = .ok (.getfield 45, 3) := by decide +kernel
theorem dX4_scene_96 : decode cX4_scene 96 = .ok (.iconst 1, 1) := by decide +kernel
theorem dX4_scene_97 : decode cX4_scene 97 = .ok (.iadd, 1) := by decide +kernel
theorem dX4_scene_98 : decode cX4_scene 98 = .ok (.putfield 45, 3) := by decide +kernel
theorem dX4_scene_101 : decode cX4_scene 101 = .ok (.aload_n 0, 1) := by decide +kernel
theorem dX4_scene_102 : decode cX4_scene 102 = .ok (.getfield 15, 3) := by decide +kernel
theorem dX4_scene_105 : decode cX4_scene 105 = .ok (.iload_n 3, 1) := by decide +kernel
theorem dX4_scene_106 : decode cX4_scene 106 = .ok (.aload 4, 2) := by decide +kernel
theorem dX4_scene_108 : decode cX4_scene 108 = .ok (.aastore, 1) := by decide +kernel
theorem dX4_scene_109 : decode cX4_scene 109 = .ok (.aload 4, 2) := by decide +kernel
theorem dX4_scene_111 : decode cX4_scene 111 = .ok (.getfield 77, 3) := by decide +kernel
theorem dX4_scene_114 : decode cX4_scene 114 = .ok (.ireturn, 1) := by decide +kernel
theorem dX4_plays_0 : decode cX4_plays 0 = .ok (.aload_n 0, 1) := by decide +kernel
theorem dX4_plays_1 : decode cX4_plays 1 = .ok (.iload_n 1, 1) := by decide +kernel
theorem dX4_plays_2 : decode cX4_plays 2 = .ok (.invokevirtual 80, 3) := by decide +kernel
theorem dX4_plays_5 : decode cX4_plays 5 = .ok (.astore 4, 2) := by decide +kernel
theorem dX4_plays_7 : decode cX4_plays 7 = .ok (.iload_n 2, 1) := by decide +kernel
theorem dX4_plays_8 : decode cX4_plays 8 = .ok (.invokestatic 84, 3) := by decide +kernel
theorem dX4_plays_11 : decode cX4_plays 11 = .ok (.iload_n 3, 1) := by decide +kernel
theorem dX4_plays_12 : decode cX4_plays 12 = .ok (.iconst (-1), 1) := by decide +kernel
theorem dX4_plays_13 : decode cX4_plays 13 = .ok (.if_icmp .lt 9, 3) := by decide +kernel
theorem dX4_plays_16 : decode cX4_plays 16 = .ok (.iload_n 3, 1) := by decide +kernel
theorem dX4_plays_17 : decode cX4_plays 17 = .ok (.bipush 20, 2) := by decide +kernel
theorem dX4_plays_19 : decode cX4_plays 19 = .ok (.if_icmp .le 13, 3) := by decide +kernel
theorem dX4_plays_22 : decode cX4_plays 22 = .ok (.new 58, 3) := by decide +kernel
theorem dX4_plays_25 : decode cX4_plays 25 = .ok (.dup, 1) := by decide +kernel
theorem dX4_plays_26 : decode cX4_plays 26 = .ok (.ldc 88, 2) := by decide +kernel
theorem dX4_plays_28 : decode cX4_plays 28 = .ok (.invokespecial 62, 3) := by decide +kernel
theorem dX4_plays_31 : decode cX4_plays 31 = .ok (.athrow, 1) := by decide +kernel
theorem dX4_plays_32 : decode cX4_plays 32 = .ok (.aload 4, 2) := by decide +kernel
theorem dX4_plays_34 : decode cX4_plays 34 = .ok (.invokestatic 90, 3) := by decide +kernel
theorem dX4_plays_37 : decode cX4_plays 37 = .ok (.aload 4, 2) := by decide +kernel
theorem dX4_plays_39 : decode cX4_plays 39 = .ok (.getfield 94, 3) := by decide +kernel
theorem dX4_plays_42 : decode cX4_plays 42 = .ok (.iload_n 2, 1) := by decide +kernel
theorem dX4_plays_43 : decode cX4_plays 43 = .ok (.iload_n 3, 1) := by decide +kernel
theorem dX4_plays_44 : decode cX4_plays 44 = .ok (.iastore, 1) := by decide +kernel
theorem dX4_plays_45 : decode cX4_plays 45 = .ok (.aload 4, 2) := by decide +kernel
theorem dX4_plays_47 : decode cX4_plays 47 = .ok (.invokevirtual 97, 3) := by decide +kernel
theorem dX4_plays_50 : decode cX4_plays 50 = .ok (.ireturn, 1) := by decide +kernel
theorem dX4_uses_0 : decode cX4_uses 0 = .ok (.aload_n 0, 1) := by decide +kernel
theorem dX4_uses_1 : decode cX4_uses 1 = .ok (.iload_n 1, 1) := by decide +kernel
theorem dX4_uses_2 : decode cX4_uses 2 = .ok (.invokevirtual 80, 3) := by decide +kernel
theorem dX4_uses_5 : decode cX4_uses 5 = .ok (.astore 5, 2) := by decide +kernel
theorem dX4_uses_7 : decode cX4_uses 7 = .ok (.iload_n 2, 1) := by decide +kernel
theorem dX4_uses_8 : decode cX4_uses 8 = .ok (.invokestatic 100, 3) := by decide +kernel
theorem dX4_uses_11 : decode cX4_uses 11 = .ok (.iload_n 3, 1) := by decide +kernel
theorem dX4_uses_12 : decode cX4_uses 12 = .ok (.ifCond .lt 20, 3) := by decide +kernel
theorem dX4_uses_15 : decode cX4_uses 15 = .ok (.iload_n 3, 1) := by decide +kernel
theorem dX4_uses_16 : decode cX4_uses 16 = .ok (.iconst 4, 1) := by decide +kernel
theorem dX4_uses_17 : decode cX4_uses 17 = .ok (.if_icmp .ge 15, 3) := by decide +kernel
theorem dX4_uses_20 : decode cX4_uses 20 = .ok (.iload 4, 2) := by decide +kernel
theorem dX4_uses_22 : decode cX4_uses 22 = .ok (.iload_n 3, 1) := by decide +kernel
theorem dX4_uses_23 : decode cX4_uses 23 = .ok (.if_icmp .lt 9, 3) := by decide +kernel
theorem dX4_uses_26 : decode cX4_uses 26 = .ok (.iload 4, 2) := by decide +kernel
theorem dX4_uses_28 : decode cX4_uses 28 = .ok (.iconst 4, 1) := by decide +kernel
theorem dX4_uses_29 : decode cX4_uses 29 = .ok (.if_icmp .lt 13, 3) := by decide +kernel
theorem dX4_uses_32 : decode cX4_uses 32 = .ok (.new 58, 3) := by decide +kernel
theorem dX4_uses_35 : decode cX4_uses 35 = .ok (.dup, 1) := by decide +kernel
theorem dX4_uses_36 : decode cX4_uses 36 = .ok (.ldc 103, 2) := by decide +kernel
theorem dX4_uses_38 : decode cX4_uses 38 = .ok (.invokespecial 62, 3) := by decide +kernel
theorem dX4_uses_41 : decode cX4_uses 41 = .ok (.athrow, 1) := by decide +kernel
theorem dX4_uses_42 : decode cX4_uses 42 = .ok (.aload 5, 2) := by decide +kernel
theorem dX4_uses_44 : decode cX4_uses 44 = .ok (.invokestatic 90, 3) := by decide +kernel
theorem dX4_uses_47 : decode cX4_uses 47 = .ok (.aload_n 0, 1) := by decide +kernel
theorem dX4_uses_48 : decode cX4_uses 48 = .ok (.iload_n 1, 1) := by decide +kernel
theorem dX4_uses_49 : decode cX4_uses 49 = .ok (.iload_n 2, 1) := by decide +kernel
theorem dX4_uses_50 : decode cX4_uses 50 = .ok (.iload_n 3, 1) := by decide +kernel
theorem dX4_uses_51 : decode cX4_uses 51 = .ok (.iload 4, 2) := by decide +kernel
theorem dX4_uses_53 : decode cX4_uses 53 = .ok (.invokevirtual 105, 3) := by decide +kernel
theorem dX4_uses_56 : decode cX4_uses 56 = .ok (.ifCond .ne 13, 3) := by decide +kernel
theorem dX4_uses_59 : decode cX4_uses 59 = .ok (.new 69, 3) := by decide +kernel
theorem dX4_uses_62 : decode cX4_uses 62 = .ok (.dup, 1) := by decide +kernel
theorem dX4_uses_63 : decode cX4_uses 63 = .ok (.ldc 109, 2) := by decide +kernel
theorem dX4_uses_65 : decode cX4_uses 65 = .ok (.invokespecial 73, 3) := by decide +kernel
theorem dX4_uses_68 : decode cX4_uses 68 = .ok (.athrow, 1) := by decide +kernel
theorem dX4_uses_69 : decode cX4_uses 69 = .ok (.aload 5, 2) := by decide +kernel
theorem dX4_uses_71 : decode cX4_uses 71 = .ok (.getfield 111, 3) := by decide +kernel
theorem dX4_uses_74 : decode cX4_uses 74 = .ok (.iload_n 2, 1) := by decide +kernel
theorem dX4_uses_75 : decode cX4_uses 75 = .ok (.iload_n 3, 1) := by decide +kernel
theorem dX4_uses_76 : decode cX4_uses 76 = .ok (.iastore, 1) := by decide +kernel
theorem dX4_uses_77 : decode cX4_uses 77 = .ok (.aload 5, 2) := by decide +kernel
theorem dX4_uses_79 : decode cX4_uses 79 = .ok (.getfield 114, 3) := by decide +kernel
theorem dX4_uses_82 : decode cX4_uses 82 = .ok (.iload_n 2, 1) := by decide +kernel
theorem dX4_uses_83 : decode cX4_uses 83 = .ok (.iload 4, 2) := by decide +kernel
theorem dX4_uses_85 : decode cX4_uses 85 = .ok (.iastore, 1) := by decide +kernel
theorem dX4_uses_86 : decode cX4_uses 86 = .ok (.aload 5, 2) := by decide +kernel
theorem dX4_uses_88 : decode cX4_uses 88 = .ok (.invokevirtual 117, 3) := by decide +kernel
theorem dX4_uses_91 : decode cX4_uses 91 = .ok (.ireturn, 1) := by decide +kernel
theorem dX4_cut_0 : decode cX4_cut 0 = .ok (.aload_n 0, 1) := by decide +kernel
theorem dX4_cut_1 : decode cX4_cut 1 = .ok (.iload_n 1, 1) := by decide +kernel
theorem dX4_cut_2 : decode cX4_cut 2 = .ok (.invokevirtual 80, 3) := by decide +kernel
theorem dX4_cut_5 : decode cX4_cut 5 = .ok (.astore_n 2, 1) := by decide +kernel
theorem dX4_cut_6 : decode cX4_cut 6 = .ok (.aload_n 2, 1) := by decide +kernel
theorem dX4_cut_7 : decode cX4_cut 7 = .ok (.invokestatic 90, 3) := by decide +kernel
theorem dX4_cut_10 : decode cX4_cut 10 = .ok (.aload_n 0, 1) := by decide +kernel
theorem dX4_cut_11 : decode cX4_cut 11 = .ok (.aload_n 2, 1) := by decide +kernel
theorem dX4_cut_12 : decode cX4_cut 12 = .ok (.invokevirtual 120, 3) := by decide +kernel
theorem dX4_cut_15 : decode cX4_cut 15 = .ok (.istore_n 3, 1) := by decide +kernel
theorem dX4_cut_16 : decode cX4_cut 16 = .ok (.aload_n 0, 1) := by decide +kernel
theorem dX4_cut_17 : decode cX4_cut 17 = .ok (.getfield 15, 3) := by decide +kernel
theorem dX4_cut_20 : decode cX4_cut 20 = .ok (.iload_n 3, 1) := by decide +kernel
theorem dX4_cut_21 : decode cX4_cut 21 = .ok (.aconst_null, 1) := by decide +kernel
theorem dX4_cut_22 : decode cX4_cut 22 = .ok (.invokestatic 124, 3) := by decide +kernel
theorem dX4_cut_25 : decode cX4_cut 25 = .ok (.aload_n 2, 1) := by decide +kernel
theorem dX4_cut_26 : decode cX4_cut 26 = .ok (.iconst 2, 1) := by decide +kernel
theorem dX4_cut_27 : decode cX4_cut 27 = .ok (.putfield 128, 3) := by decide +kernel
theorem dX4_cut_30 : decode cX4_cut 30 = .ok (.iload_n 3, 1) := by decide +kernel
theorem dX4_cut_31 : decode cX4_cut 31 = .ok (.ireturn, 1) := by decide +kernel
theorem dX4_swap_0 : decode cX4_swap 0 = .ok (.iload_n 1, 1) := by decide +kernel
theorem dX4_swap_1 : decode cX4_swap 1 = .ok (.aload_n 0, 1) := by decide +kernel
theorem dX4_swap_2 : decode cX4_swap 2 = .ok (.getfield 52, 3) := by decide +kernel
theorem dX4_swap_5 : decode cX4_swap 5 = .ok (.if_icmp .lt 23, 3) := by decide +kernel
theorem dX4_swap_8 : decode cX4_swap 8 = .ok (.iload_n 1, 1) := by decide +kernel
theorem dX4_swap_9 : decode cX4_swap 9 = .ok (.bipush 30, 2) := by decide +kernel
theorem dX4_swap_11 : decode cX4_swap 11 = .ok (.if_icmp .ge 17, 3) := by decide +kernel
theorem dX4_swap_14 : decode cX4_swap 14 = .ok (.iload_n 2, 1) := by decide +kernel
theorem dX4_swap_15 : decode cX4_swap 15 = .ok (.aload_n 0, 1) := by decide +kernel
theorem dX4_swap_16 : decode cX4_swap 16 = .ok (.getfield 52, 3) := by decide +kernel
theorem dX4_swap_19 : decode cX4_swap 19 = .ok (.if_icmp .lt 9, 3) := by decide +kernel
theorem dX4_swap_22 : decode cX4_swap 22 = .ok (.iload_n 2, 1) := by decide +kernel
theorem dX4_swap_23 : decode cX4_swap 23 = .ok (.bipush 30, 2) := by decide +kernel
theorem dX4_swap_25 : decode cX4_swap 25 = .ok (.if_icmp .lt 13, 3) := by decide +kernel
theorem dX4_swap_28 : decode cX4_swap 28 = .ok (.new 58, 3) := by decide +kernel
theorem dX4_swap_31 : decode cX4_swap 31 = .ok (.dup, 1) := by decide +kernel
theorem dX4_swap_32 : decode cX4_swap 32 = .ok (.ldc 131, 2) := by decide +kernel
theorem dX4_swap_34 : decode cX4_swap 34 = .ok (.invokespecial 62, 3) := by decide +kernel
theorem dX4_swap_37 : decode cX4_swap 37 = .ok (.athrow, 1) := by decide +kernel
theorem dX4_swap_38 : decode cX4_swap 38 = .ok (.aload_n 0, 1) := by decide +kernel
theorem dX4_swap_39 : decode cX4_swap 39 = .ok (.iload_n 1, 1) := by decide +kernel
theorem dX4_swap_40 : decode cX4_swap 40 = .ok (.iload_n 2, 1) := by decide +kernel
theorem dX4_swap_41 : decode cX4_swap 41 = .ok (.invokevirtual 133, 3) := by decide +kernel
theorem dX4_swap_44 : decode cX4_swap 44 = .ok (.aload_n 0, 1) := by decide +kernel
theorem dX4_swap_45 : decode cX4_swap 45 = .ok (.invokevirtual 137, 3) := by decide +kernel
theorem dX4_swap_48 : decode cX4_swap 48 = .ok (.ireturn, 1) := by decide +kernel
theorem dX4_permit_0 : decode cX4_permit 0 = .ok (.iload_n 1, 1) := by decide +kernel
theorem dX4_permit_1 : decode cX4_permit 1 = .ok (.ifCond .lt 21, 3) := by decide +kernel
theorem dX4_permit_4 : decode cX4_permit 4 = .ok (.iload_n 1, 1) := by decide +kernel
theorem dX4_permit_5 : decode cX4_permit 5 = .ok (.iconst 4, 1) := by decide +kernel
theorem dX4_permit_6 : decode cX4_permit 6 = .ok (.if_icmp .ge 16, 3) := by decide +kernel
theorem dX4_permit_9 : decode cX4_permit 9 = .ok (.iload 4, 2) := by decide +kernel
theorem dX4_permit_11 : decode cX4_permit 11 = .ok (.iconst 1, 1) := by decide +kernel
theorem dX4_permit_12 : decode cX4_permit 12 = .ok (.if_icmp .lt 10, 3) := by decide +kernel
theorem dX4_permit_15 : decode cX4_permit 15 = .ok (.iload 4, 2) := by decide +kernel
theorem dX4_permit_17 : decode cX4_permit 17 = .ok (.bipush 9, 2) := by decide +kernel
theorem dX4_permit_19 : decode cX4_permit 19 = .ok (.if_icmp .le 13, 3) := by decide +kernel
theorem dX4_permit_22 : decode cX4_permit 22 = .ok (.new 58, 3) := by decide +kernel
theorem dX4_permit_25 : decode cX4_permit 25 = .ok (.dup, 1) := by decide +kernel
theorem dX4_permit_26 : decode cX4_permit 26 = .ok (.ldc 60, 2) := by decide +kernel
theorem dX4_permit_28 : decode cX4_permit 28 = .ok (.invokespecial 62, 3) := by decide +kernel
theorem dX4_permit_31 : decode cX4_permit 31 = .ok (.athrow, 1) := by decide +kernel
theorem dX4_permit_32 : decode cX4_permit 32 = .ok (.iload_n 2, 1) := by decide +kernel
theorem dX4_permit_33 : decode cX4_permit 33 = .ok (.ifCond .lt 20, 3) := by decide +kernel
theorem dX4_permit_36 : decode cX4_permit 36 = .ok (.iload_n 2, 1) := by decide +kernel
theorem dX4_permit_37 : decode cX4_permit 37 = .ok (.bipush 30, 2) := by decide +kernel
theorem dX4_permit_39 : decode cX4_permit 39 = .ok (.if_icmp .ge 14, 3) := by decide +kernel
theorem dX4_permit_42 : decode cX4_permit 42 = .ok (.iload_n 3, 1) := by decide +kernel
theorem dX4_permit_43 : decode cX4_permit 43 = .ok (.iload_n 2, 1) := by decide +kernel
theorem dX4_permit_44 : decode cX4_permit 44 = .ok (.if_icmp .lt 9, 3) := by decide +kernel
theorem dX4_permit_47 : decode cX4_permit 47 = .ok (.iload_n 3, 1) := by decide +kernel
theorem dX4_permit_48 : decode cX4_permit 48 = .ok (.bipush 30, 2) := by decide +kernel
theorem dX4_permit_50 : decode cX4_permit 50 = .ok (.if_icmp .lt 13, 3) := by decide +kernel
theorem dX4_permit_53 : decode cX4_permit 53 = .ok (.new 58, 3) := by decide +kernel
theorem dX4_permit_56 : decode cX4_permit 56 = .ok (.dup, 1) := by decide +kernel
theorem dX4_permit_57 : decode cX4_permit 57 = .ok (.ldc 140, 2) := by decide +kernel
theorem dX4_permit_59 : decode cX4_permit 59 = .ok (.invokespecial 62, 3) := by decide +kernel
theorem dX4_permit_62 : decode cX4_permit 62 = .ok (.athrow, 1) := by decide +kernel
theorem dX4_permit_63 : decode cX4_permit 63 = .ok (.aload_n 0, 1) := by decide +kernel
theorem dX4_permit_64 : decode cX4_permit 64 = .ok (.getfield 49, 3) := by decide +kernel
theorem dX4_permit_67 : decode cX4_permit 67 = .ok (.aload_n 0, 1) := by decide +kernel
theorem dX4_permit_68 : decode cX4_permit 68 = .ok (.getfield 20, 3) := by decide +kernel
theorem dX4_permit_71 : decode cX4_permit 71 = .ok (.arraylength, 1) := by decide +kernel
theorem dX4_permit_72 : decode cX4_permit 72 = .ok (.if_icmp .lt 13, 3) := by decide +kernel
theorem dX4_permit_75 : decode cX4_permit 75 = .ok (.new 69, 3) := by decide +kernel
theorem dX4_permit_78 : decode cX4_permit 78 = .ok (.dup, 1) := by decide +kernel
theorem dX4_permit_79 : decode cX4_permit 79 = .ok (.ldc 142, 2) := by decide +kernel
theorem dX4_permit_81 : decode cX4_permit 81 = .ok (.invokespecial 73, 3) := by decide +kernel
theorem dX4_permit_84 : decode cX4_permit 84 = .ok (.athrow, 1) := by decide +kernel
theorem dX4_permit_85 : decode cX4_permit 85 = .ok (.aload_n 0, 1) := by decide +kernel
theorem dX4_permit_86 : decode cX4_permit 86 = .ok (.getfield 49, 3) := by decide +kernel
theorem dX4_permit_89 : decode cX4_permit 89 = .ok (.istore 5, 2) := by decide +kernel
theorem dX4_permit_91 : decode cX4_permit 91 = .ok (.aload_n 0, 1) := by decide +kernel
theorem dX4_permit_92 : decode cX4_permit 92 = .ok (.getfield 20, 3) := by decide +kernel
theorem dX4_permit_95 : decode cX4_permit 95 = .ok (.iload 5, 2) := by decide +kernel
theorem dX4_permit_97 : decode cX4_permit 97 = .ok (.new 18, 3) := by decide +kernel
theorem dX4_permit_100 : decode cX4_permit 100 = .ok (.dup, 1) := by decide +kernel
theorem dX4_permit_101 : decode cX4_permit 101 = .ok (.iload_n 1, 1) := by decide +kernel
theorem dX4_permit_102 : decode cX4_permit 102 = .ok (.iload_n 2, 1) := by decide +kernel
theorem dX4_permit_103 : decode cX4_permit 103 = .ok (.iload_n 3, 1) := by decide +kernel
theorem dX4_permit_104 : decode cX4_permit 104 = .ok (.iload 4, 2) := by decide +kernel
theorem dX4_permit_106 : decode cX4_permit 106 = .ok (.invokespecial 144, 3) := by decide +kernel
theorem dX4_permit_109 : decode cX4_permit 109 = .ok (.aastore, 1) := by decide +kernel
theorem dX4_permit_110 : decode cX4_permit 110 = .ok (.aload_n 0, 1) := by decide +kernel
theorem dX4_permit_111 : decode cX4_permit 111 = .ok (.dup, 1) := by decide +kernel
theorem dX4_permit_112 : decode cX4_permit 112 = .ok (.getfield 49, 3) := by decide +kernel
theorem dX4_permit_115 : decode cX4_permit 115 = .ok (.iconst 1, 1) := by decide +kernel
theorem dX4_permit_116 : decode cX4_permit 116 = .ok (.iadd, 1) := by decide +kernel
theorem dX4_permit_117 : decode cX4_permit 117 = .ok (.putfield 49, 3) := by decide +kernel
theorem dX4_permit_120 : decode cX4_permit 120 = .ok (.iload 5, 2) := by decide +kernel
theorem dX4_permit_122 : decode cX4_permit 122 = .ok (.ireturn, 1) := by decide +kernel
theorem dX4_revoke_0 : decode cX4_revoke 0 = .ok (.aload_n 0, 1) := by decide +kernel
theorem dX4_revoke_1 : decode cX4_revoke 1 = .ok (.iload_n 1, 1) := by decide +kernel
theorem dX4_revoke_2 : decode cX4_revoke 2 = .ok (.invokevirtual 147, 3) := by decide +kernel
theorem dX4_revoke_5 : decode cX4_revoke 5 = .ok (.astore_n 2, 1) := by decide +kernel
theorem dX4_revoke_6 : decode cX4_revoke 6 = .ok (.aload_n 2, 1) := by decide +kernel
theorem dX4_revoke_7 : decode cX4_revoke 7 = .ok (.getfield 151, 3) := by decide +kernel
theorem dX4_revoke_10 : decode cX4_revoke 10 = .ok (.ifCond .eq 13, 3) := by decide +kernel
theorem dX4_revoke_13 : decode cX4_revoke 13 = .ok (.new 69, 3) := by decide +kernel
theorem dX4_revoke_16 : decode cX4_revoke 16 = .ok (.dup, 1) := by decide +kernel
theorem dX4_revoke_17 : decode cX4_revoke 17 = .ok (.ldc 155, 2) := by decide +kernel
theorem dX4_revoke_19 : decode cX4_revoke 19 = .ok (.invokespecial 73, 3) := by decide +kernel
theorem dX4_revoke_22 : decode cX4_revoke 22 = .ok (.athrow, 1) := by decide +kernel
theorem dX4_revoke_23 : decode cX4_revoke 23 = .ok (.aload_n 0, 1) := by decide +kernel
theorem dX4_revoke_24 : decode cX4_revoke 24 = .ok (.invokevirtual 157, 3) := by decide +kernel
theorem dX4_revoke_27 : decode cX4_revoke 27 = .ok (.istore_n 3, 1) := by decide +kernel
theorem dX4_revoke_28 : decode cX4_revoke 28 = .ok (.aload_n 2, 1) := by decide +kernel
theorem dX4_revoke_29 : decode cX4_revoke 29 = .ok (.iconst 1, 1) := by decide +kernel
theorem dX4_revoke_30 : decode cX4_revoke 30 = .ok (.putfield 151, 3) := by decide +kernel
theorem dX4_revoke_33 : decode cX4_revoke 33 = .ok (.aload_n 0, 1) := by decide +kernel
theorem dX4_revoke_34 : decode cX4_revoke 34 = .ok (.invokevirtual 157, 3) := by decide +kernel
theorem dX4_revoke_37 : decode cX4_revoke 37 = .ok (.iload_n 3, 1) := by decide +kernel
theorem dX4_revoke_38 : decode cX4_revoke 38 = .ok (.isub, 1) := by decide +kernel
theorem dX4_revoke_39 : decode cX4_revoke 39 = .ok (.ireturn, 1) := by decide +kernel
theorem dX4_away_0 : decode cX4_away 0 = .ok (.iload_n 1, 1) := by decide +kernel
theorem dX4_away_1 : decode cX4_away 1 = .ok (.invokestatic 84, 3) := by decide +kernel
theorem dX4_away_4 : decode cX4_away 4 = .ok (.iload_n 2, 1) := by decide +kernel
theorem dX4_away_5 : decode cX4_away 5 = .ok (.invokestatic 160, 3) := by decide +kernel
theorem dX4_away_8 : decode cX4_away 8 = .ok (.aload_n 0, 1) := by decide +kernel
theorem dX4_away_9 : decode cX4_away 9 = .ok (.iload_n 1, 1) := by decide +kernel
theorem dX4_away_10 : decode cX4_away 10 = .ok (.iload_n 2, 1) := by decide +kernel
theorem dX4_away_11 : decode cX4_away 11 = .ok (.invokevirtual 163, 3) := by decide +kernel
theorem dX4_away_14 : decode cX4_away 14 = .ok (.istore 4, 2) := by decide +kernel
theorem dX4_away_16 : decode cX4_away 16 = .ok (.iload 4, 2) := by decide +kernel
theorem dX4_away_18 : decode cX4_away 18 = .ok (.iload_n 3, 1) := by decide +kernel
theorem dX4_away_19 : decode cX4_away 19 = .ok (.if_icmp .eq 15, 3) := by decide +kernel
theorem dX4_away_22 : decode cX4_away 22 = .ok (.aload_n 0, 1) := by decide +kernel
theorem dX4_away_23 : decode cX4_away 23 = .ok (.getfield 24, 3) := by decide +kernel
theorem dX4_away_26 : decode cX4_away 26 = .ok (.iload_n 1, 1) := by decide +kernel
theorem dX4_away_27 : decode cX4_away 27 = .ok (.dup2, 1) := by decide +kernel
theorem dX4_away_28 : decode cX4_away 28 = .ok (.iaload, 1) := by decide +kernel
theorem dX4_away_29 : decode cX4_away 29 = .ok (.iconst 1, 1) := by decide +kernel
theorem dX4_away_30 : decode cX4_away 30 = .ok (.iload_n 2, 1) := by decide +kernel
theorem dX4_away_31 : decode cX4_away 31 = .ok (.ishl, 1) := by decide +kernel
theorem dX4_away_32 : decode cX4_away 32 = .ok (.ixor, 1) := by decide +kernel
theorem dX4_away_33 : decode cX4_away 33 = .ok (.iastore, 1) := by decide +kernel
theorem dX4_away_34 : decode cX4_away 34 = .ok (.iload 4, 2) := by decide +kernel
theorem dX4_away_36 : decode cX4_away 36 = .ok (.ireturn, 1) := by decide +kernel
theorem dX4_buy_0 : decode cX4_buy 0 = .ok (.iload_n 1, 1) := by decide +kernel
theorem dX4_buy_1 : decode cX4_buy 1 = .ok (.invokestatic 100, 3) := by decide +kernel
theorem dX4_buy_4 : decode cX4_buy 4 = .ok (.aload_n 0, 1) := by decide +kernel
theorem dX4_buy_5 : decode cX4_buy 5 = .ok (.getfield 31, 3) := by decide +kernel
theorem dX4_buy_8 : decode cX4_buy 8 = .ok (.iload_n 1, 1) := by decide +kernel
theorem dX4_buy_9 : decode cX4_buy 9 = .ok (.invokevirtual 167, 3) := by decide +kernel
theorem dX4_buy_12 : decode cX4_buy 12 = .ok (.istore_n 2, 1) := by decide +kernel
theorem dX4_buy_13 : decode cX4_buy 13 = .ok (.iload_n 2, 1) := by decide +kernel
theorem dX4_buy_14 : decode cX4_buy 14 = .ok (.bipush 20, 2) := by decide +kernel
theorem dX4_buy_16 : decode cX4_buy 16 = .ok (.if_icmp .lt 13, 3) := by decide +kernel
theorem dX4_buy_19 : decode cX4_buy 19 = .ok (.new 69, 3) := by decide +kernel
theorem dX4_buy_22 : decode cX4_buy 22 = .ok (.dup, 1) := by decide +kernel
theorem dX4_buy_23 : decode cX4_buy 23 = .ok (.ldc 171, 2) := by decide +kernel
theorem dX4_buy_25 : decode cX4_buy 25 = .ok (.invokespecial 73, 3) := by decide +kernel
theorem dX4_buy_28 : decode cX4_buy 28 = .ok (.athrow, 1) := by decide +kernel
theorem dX4_buy_29 : decode cX4_buy 29 = .ok (.aload_n 0, 1) := by decide +kernel
theorem dX4_buy_30 : decode cX4_buy 30 = .ok (.getfield 31, 3) := by decide +kernel
theorem dX4_buy_33 : decode cX4_buy 33 = .ok (.getfield 173, 3) := by decide +kernel
theorem dX4_buy_36 : decode cX4_buy 36 = .ok (.iload_n 1, 1) := by decide +kernel
theorem dX4_buy_37 : decode cX4_buy 37 = .ok (.aaload, 1) := by decide +kernel
theorem dX4_buy_38 : decode cX4_buy 38 = .ok (.iconst 0, 1) := by decide +kernel
theorem dX4_buy_39 : decode cX4_buy 39 = .ok (.dup2, 1) := by decide +kernel
theorem dX4_buy_40 : decode cX4_buy 40 = .ok (.iaload, 1) := by decide +kernel
theorem dX4_buy_41 : decode cX4_buy 41 = .ok (.iconst 1, 1) := by decide +kernel
theorem dX4_buy_42 : decode cX4_buy 42 = .ok (.iadd, 1) := by decide +kernel
theorem dX4_buy_43 : decode cX4_buy 43 = .ok (.iastore, 1) := by decide +kernel
theorem dX4_buy_44 : decode cX4_buy 44 = .ok (.aload_n 0, 1) := by decide +kernel
theorem dX4_buy_45 : decode cX4_buy 45 = .ok (.dup, 1) := by decide +kernel
theorem dX4_buy_46 : decode cX4_buy 46 = .ok (.getfield 55, 3) := by decide +kernel
theorem dX4_buy_49 : decode cX4_buy 49 = .ok (.iconst 5, 1) := by decide +kernel
theorem dX4_buy_50 : decode cX4_buy 50 = .ok (.iadd, 1) := by decide +kernel
theorem dX4_buy_51 : decode cX4_buy 51 = .ok (.putfield 55, 3) := by decide +kernel
theorem dX4_buy_54 : decode cX4_buy 54 = .ok (.iload_n 2, 1) := by decide +kernel
theorem dX4_buy_55 : decode cX4_buy 55 = .ok (.iconst 1, 1) := by decide +kernel
theorem dX4_buy_56 : decode cX4_buy 56 = .ok (.iadd, 1) := by decide +kernel
theorem dX4_buy_57 : decode cX4_buy 57 = .ok (.ireturn, 1) := by decide +kernel
theorem dX4_clear_0 : decode cX4_clear 0 = .ok (.iconst 0, 1) := by decide +kernel
theorem dX4_clear_1 : decode cX4_clear 1 = .ok (.istore_n 1, 1) := by decide +kernel
theorem dX4_clear_2 : decode cX4_clear 2 = .ok (.iconst 0, 1) := by decide +kernel
theorem dX4_clear_3 : decode cX4_clear 3 = .ok (.istore_n 2, 1) := by decide +kernel
theorem dX4_clear_4 : decode cX4_clear 4 = .ok (.iload_n 2, 1) := by decide +kernel
theorem dX4_clear_5 : decode cX4_clear 5 = .ok (.iconst 5, 1) := by decide +kernel
theorem dX4_clear_6 : decode cX4_clear 6 = .ok (.if_icmp .ge 35, 3) := by decide +kernel
theorem dX4_clear_9 : decode cX4_clear 9 = .ok (.iload_n 1, 1) := by decide +kernel
theorem dX4_clear_10 : decode cX4_clear 10 = .ok (.aload_n 0, 1) := by decide +kernel
theorem dX4_clear_11 : decode cX4_clear 11 = .ok (.getfield 31, 3) := by decide +kernel
theorem dX4_clear_14 : decode cX4_clear 14 = .ok (.getfield 173, 3) := by decide +kernel
theorem dX4_clear_17 : decode cX4_clear 17 = .ok (.iload_n 2, 1) := by decide +kernel
theorem dX4_clear_18 : decode cX4_clear 18 = .ok (.aaload, 1) := by decide +kernel
theorem dX4_clear_19 : decode cX4_clear 19 = .ok (.iconst 3, 1) := by decide +kernel
theorem dX4_clear_20 : decode cX4_clear 20 = .ok (.iaload, 1) := by decide +kernel
theorem dX4_clear_21 : decode cX4_clear 21 = .ok (.iadd, 1) := by decide +kernel
theorem dX4_clear_22 : decode cX4_clear 22 = .ok (.istore_n 1, 1) := by decide +kernel
theorem dX4_clear_23 : decode cX4_clear 23 = .ok (.aload_n 0, 1) := by decide +kernel
theorem dX4_clear_24 : decode cX4_clear 24 = .ok (.getfield 31, 3) := by decide +kernel
theorem dX4_clear_27 : decode cX4_clear 27 = .ok (.getfield 173, 3) := by decide +kernel
theorem dX4_clear_30 : decode cX4_clear 30 = .ok (.iload_n 2, 1) := by decide +kernel
theorem dX4_clear_31 : decode cX4_clear 31 = .ok (.aaload, 1) := by decide +kernel
theorem dX4_clear_32 : decode cX4_clear 32 = .ok (.iconst 3, 1) := by decide +kernel
theorem dX4_clear_33 : decode cX4_clear 33 = .ok (.iconst 0, 1) := by decide +kernel
theorem dX4_clear_34 : decode cX4_clear 34 = .ok (.iastore, 1) := by decide +kernel
theorem dX4_clear_35 : decode cX4_clear 35 = .ok (.iinc 2 1, 3) := by decide +kernel
theorem dX4_clear_38 : decode cX4_clear 38 = .ok (.goto (-34), 3) := by decide +kernel
theorem dX4_clear_41 : decode cX4_clear 41 = .ok (.iload_n 1, 1) := by decide +kernel
theorem dX4_clear_42 : decode cX4_clear 42 = .ok (.ireturn, 1) := by decide +kernel
theorem dX4_mishap_0 : decode cX4_mishap 0 = .ok (.iload_n 1, 1) := by decide +kernel
theorem dX4_mishap_1 : decode cX4_mishap 1 = .ok (.invokestatic 100, 3) := by decide +kernel
theorem dX4_mishap_4 : decode cX4_mishap 4 = .ok (.iload_n 2, 1) := by decide +kernel
theorem dX4_mishap_5 : decode cX4_mishap 5 = .ok (.ifCond .lt 8, 3) := by decide +kernel
theorem dX4_mishap_8 : decode cX4_mishap 8 = .ok (.iload_n 2, 1) := by decide +kernel
theorem dX4_mishap_9 : decode cX4_mishap 9 = .ok (.iconst 3, 1) := by decide +kernel
theorem dX4_mishap_10 : decode cX4_mishap 10 = .ok (.if_icmp .lt 13, 3) := by decide +kernel
theorem dX4_mishap_13 : decode cX4_mishap 13 = .ok (.new 58, 3) := by decide +kernel
theorem dX4_mishap_16 : decode cX4_mishap 16 = .ok (.dup, 1) := by decide +kernel
theorem dX4_mishap_17 : decode cX4_mishap 17 = .ok (.ldc 177, 2) := by decide +kernel
theorem dX4_mishap_19 : decode cX4_mishap 19 = .ok (.invokespecial 62, 3) := by decide +kernel
theorem dX4_mishap_22 : decode cX4_mishap 22 = .ok (.athrow, 1) := by decide +kernel
theorem dX4_mishap_23 : decode cX4_mishap 23 = .ok (.aload_n 0, 1) := by decide +kernel
theorem dX4_mishap_24 : decode cX4_mishap 24 = .ok (.getfield 31, 3) := by decide +kernel
theorem dX4_mishap_27 : decode cX4_mishap 27 = .ok (.getfield 173, 3) := by decide +kernel
theorem dX4_mishap_30 : decode cX4_mishap 30 = .ok (.iload_n 1, 1) := by decide +kernel
theorem dX4_mishap_31 : decode cX4_mishap 31 = .ok (.aaload, 1) := by decide +kernel
theorem dX4_mishap_32 : decode cX4_mishap 32 = .ok (.astore_n 3, 1) := by decide +kernel
