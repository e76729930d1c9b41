theorem dX5_plays_65 : decode cX5_plays 65 = .ok (.imul, 1) := by decide +kernel
theorem dX5_plays_66 : decode cX5_plays 66 = .ok (.iload_n 2, 1) := by decide +kernel
theorem dX5_plays_67 : decode cX5_plays 67 = .ok (.iadd, 1) := by decide +kernel
theorem dX5_plays_68 : decode cX5_plays 68 = .ok (.iload_n 3, 1) := by decide +kernel
theorem dX5_plays_69 : decode cX5_plays 69 = .ok (.iastore, 1) := by decide +kernel
theorem dX5_plays_70 : decode cX5_plays 70 = .ok (.iconst 0, 1) := by decide +kernel
theorem dX5_plays_71 : decode cX5_plays 71 = .ok (.istore 5, 2) := by decide +kernel
theorem dX5_plays_73 : decode cX5_plays 73 = .ok (.iconst 0, 1) := by decide +kernel
theorem dX5_plays_74 : decode cX5_plays 74 = .ok (.istore 6, 2) := by decide +kernel
theorem dX5_plays_76 : decode cX5_plays 76 = .ok (.iload 6, 2) := by decide +kernel
theorem dX5_plays_78 : decode cX5_plays 78 = .ok (.iconst 5, 1) := by decide +kernel
theorem dX5_plays_79 : decode cX5_plays 79 = .ok (.if_icmp .ge 35, 3) := by decide +kernel
theorem dX5_plays_82 : decode cX5_plays 82 = .ok (.iload 5, 2) := by decide +kernel
theorem dX5_plays_84 : decode cX5_plays 84 = .ok (.aload_n 0, 1) := by decide +kernel
theorem dX5_plays_85 : decode cX5_plays 85 = .ok (.getfield 26, 3) := by decide +kernel
theorem dX5_plays_88 : decode cX5_plays 88 = .ok (.iconst 5, 1) := by decide +kernel
theorem dX5_plays_89 : decode cX5_plays 89 = .ok (.iload_n 1, 1) := by decide +kernel
theorem dX5_plays_90 : decode cX5_plays 90 = .ok (.imul, 1) := by decide +kernel
theorem dX5_plays_91 : decode cX5_plays 91 = .ok (.iload 6, 2) := by decide +kernel
theorem dX5_plays_93 : decode cX5_plays 93 = .ok (.iadd, 1) := by decide +kernel
theorem dX5_plays_94 : decode cX5_plays 94 = .ok (.iaload, 1) := by decide +kernel
theorem dX5_plays_95 : decode cX5_plays 95 = .ok (.bipush (-2), 2) := by decide +kernel
theorem dX5_plays_97 : decode cX5_plays 97 = .ok (.if_icmp .ne 7, 3) := by decide +kernel
theorem dX5_plays_100 : decode cX5_plays 100 = .ok (.iconst 0, 1) := by decide +kernel
theorem dX5_plays_101 : decode cX5_plays 101 = .ok (.goto 4, 3) := by decide +kernel
theorem dX5_plays_104 : decode cX5_plays 104 = .ok (.iconst 1, 1) := by decide +kernel
theorem dX5_plays_105 : decode cX5_plays 105 = .ok (.iadd, 1) := by decide +kernel
theorem dX5_plays_106 : decode cX5_plays 106 = .ok (.istore 5, 2) := by decide +kernel
theorem dX5_plays_108 : decode cX5_plays 108 = .ok (.iinc 6 1, 3) := by decide +kernel
theorem dX5_plays_111 : decode cX5_plays 111 = .ok (.goto (-35), 3) := by decide +kernel
theorem dX5_plays_114 : decode cX5_plays 114 = .ok (.iload 5, 2) := by decide +kernel
theorem dX5_plays_116 : decode cX5_plays 116 = .ok (.ireturn, 1) := by decide +kernel
theorem dX5_isUsed_0 : decode cX5_isUsed 0 = .ok (.aload_n 0, 1) := by decide +kernel
theorem dX5_isUsed_1 : decode cX5_isUsed 1 = .ok (.getfield 20, 3) := by decide +kernel
theorem dX5_isUsed_4 : decode cX5_isUsed 4 = .ok (.iload_n 1, 1) := by decide +kernel
theorem dX5_isUsed_5 : decode cX5_isUsed 5 = .ok (.iaload, 1) := by decide +kernel
theorem dX5_isUsed_6 : decode cX5_isUsed 6 = .ok (.iconst 2, 1) := by decide +kernel
theorem dX5_isUsed_7 : decode cX5_isUsed 7 = .ok (.if_icmp .eq 21, 3) := by decide +kernel
theorem dX5_isUsed_10 : decode cX5_isUsed 10 = .ok (.aload_n 0, 1) := by decide +kernel
theorem dX5_isUsed_11 : decode cX5_isUsed 11 = .ok (.getfield 29, 3) := by decide +kernel
theorem dX5_isUsed_14 : decode cX5_isUsed 14 = .ok (.iconst 5, 1) := by decide +kernel
theorem dX5_isUsed_15 : decode cX5_isUsed 15 = .ok (.iload_n 1, 1) := by decide +kernel
theorem dX5_isUsed_16 : decode cX5_isUsed 16 = .ok (.imul, 1) := by decide +kernel
theorem dX5_isUsed_17 : decode cX5_isUsed 17 = .ok (.iload_n 2, 1) := by decide +kernel
theorem dX5_isUsed_18 : decode cX5_isUsed 18 = .ok (.iadd, 1) := by decide +kernel
theorem dX5_isUsed_19 : decode cX5_isUsed 19 = .ok (.iaload, 1) := by decide +kernel
theorem dX5_isUsed_20 : decode cX5_isUsed 20 = .ok (.iconst (-1), 1) := by decide +kernel
theorem dX5_isUsed_21 : decode cX5_isUsed 21 = .ok (.if_icmp .eq 7, 3) := by decide +kernel
theorem dX5_isUsed_24 : decode cX5_isUsed 24 = .ok (.iconst 1, 1) := by decide +kernel
theorem dX5_isUsed_25 : decode cX5_isUsed 25 = .ok (.goto 4, 3) := by decide +kernel
theorem dX5_isUsed_28 : decode cX5_isUsed 28 = .ok (.iconst 0, 1) := by decide +kernel
theorem dX5_isUsed_29 : decode cX5_isUsed 29 = .ok (.ireturn, 1) := by decide +kernel
theorem dX5_ages_0 : decode cX5_ages 0 = .ok (.iconst 1, 1) := by decide +kernel
theorem dX5_ages_1 : decode cX5_ages 1 = .ok (.istore 5, 2) := by decide +kernel
theorem dX5_ages_3 : decode cX5_ages 3 = .ok (.iconst 0, 1) := by decide +kernel
theorem dX5_ages_4 : decode cX5_ages 4 = .ok (.istore 6, 2) := by decide +kernel
theorem dX5_ages_6 : decode cX5_ages 6 = .ok (.iload 6, 2) := by decide +kernel
theorem dX5_ages_8 : decode cX5_ages 8 = .ok (.aload_n 0, 1) := by decide +kernel
theorem dX5_ages_9 : decode cX5_ages 9 = .ok (.getfield 78, 3) := by decide +kernel
theorem dX5_ages_12 : decode cX5_ages 12 = .ok (.if_icmp .ge 94, 3) := by decide +kernel
theorem dX5_ages_15 : decode cX5_ages 15 = .ok (.iload 6, 2) := by decide +kernel
theorem dX5_ages_17 : decode cX5_ages 17 = .ok (.iload_n 1, 1) := by decide +kernel
theorem dX5_ages_18 : decode cX5_ages 18 = .ok (.if_icmp .ge 26, 3) := by decide +kernel
theorem dX5_ages_21 : decode cX5_ages 21 = .ok (.aload_n 0, 1) := by decide +kernel
theorem dX5_ages_22 : decode cX5_ages 22 = .ok (.getfield 32, 3) := by decide +kernel
theorem dX5_ages_25 : decode cX5_ages 25 = .ok (.iconst 5, 1) := by decide +kernel
theorem dX5_ages_26 : decode cX5_ages 26 = .ok (.iload 6, 2) := by decide +kernel
theorem dX5_ages_28 : decode cX5_ages 28 = .ok (.imul, 1) := by decide +kernel
theorem dX5_ages_29 : decode cX5_ages 29 = .ok (.iload_n 2, 1) := by decide +kernel
theorem dX5_ages_30 : decode cX5_ages 30 = .ok (.iadd, 1) := by decide +kernel
theorem dX5_ages_31 : decode cX5_ages 31 = .ok (.iaload, 1) := by decide +kernel
theorem dX5_ages_32 : decode cX5_ages 32 = .ok (.iload_n 3, 1) := by decide +kernel
theorem dX5_ages_33 : decode cX5_ages 33 = .ok (.if_icmp .gt 7, 3) := by decide +kernel
theorem dX5_ages_36 : decode cX5_ages 36 = .ok (.iconst 1, 1) := by decide +kernel
theorem dX5_ages_37 : decode cX5_ages 37 = .ok (.goto 28, 3) := by decide +kernel
theorem dX5_ages_40 : decode cX5_ages 40 = .ok (.iconst 0, 1) := by decide +kernel
theorem dX5_ages_41 : decode cX5_ages 41 = .ok (.goto 24, 3) := by decide +kernel
theorem dX5_ages_44 : decode cX5_ages 44 = .ok (.iload 4, 2) := by decide +kernel
theorem dX5_ages_46 : decode cX5_ages 46 = .ok (.aload_n 0, 1) := by decide +kernel
theorem dX5_ages_47 : decode cX5_ages 47 = .ok (.getfield 29, 3) := by decide +kernel
theorem dX5_ages_50 : decode cX5_ages 50 = .ok (.iconst 5, 1) := by decide +kernel
theorem dX5_ages_51 : decode cX5_ages 51 = .ok (.iload 6, 2) := by decide +kernel
theorem dX5_ages_53 : decode cX5_ages 53 = .ok (.imul, 1) := by decide +kernel
theorem dX5_ages_54 : decode cX5_ages 54 = .ok (.iload_n 2, 1) := by decide +kernel
theorem dX5_ages_55 : decode cX5_ages 55 = .ok (.iadd, 1) := by decide +kernel
theorem dX5_ages_56 : decode cX5_ages 56 = .ok (.iaload, 1) := by decide +kernel
theorem dX5_ages_57 : decode cX5_ages 57 = .ok (.if_icmp .gt 7, 3) := by decide +kernel
theorem dX5_ages_60 : decode cX5_ages 60 = .ok (.iconst 1, 1) := by decide +kernel
theorem dX5_ages_61 : decode cX5_ages 61 = .ok (.goto 4, 3) := by decide +kernel
theorem dX5_ages_64 : decode cX5_ages 64 = .ok (.iconst 0, 1) := by decide +kernel
theorem dX5_ages_65 : decode cX5_ages 65 = .ok (.istore 7, 2) := by decide +kernel
theorem dX5_ages_67 : decode cX5_ages 67 = .ok (.iload 5, 2) := by decide +kernel
theorem dX5_ages_69 : decode cX5_ages 69 = .ok (.ifCond .eq 28, 3) := by decide +kernel
theorem dX5_ages_72 : decode cX5_ages 72 = .ok (.iload 6, 2) := by decide +kernel
theorem dX5_ages_74 : decode cX5_ages 74 = .ok (.iload_n 1, 1) := by decide +kernel
theorem dX5_ages_75 : decode cX5_ages 75 = .ok (.if_icmp .eq 18, 3) := by decide +kernel
theorem dX5_ages_78 : decode cX5_ages 78 = .ok (.aload_n 0, 1) := by decide +kernel
theorem dX5_ages_79 : decode cX5_ages 79 = .ok (.iload 6, 2) := by decide +kernel
theorem dX5_ages_81 : decode cX5_ages 81 = .ok (.iload_n 2, 1) := by decide +kernel
theorem dX5_ages_82 : decode cX5_ages 82 = .ok (.invokevirtual 130, 3) := by decide +kernel
theorem dX5_ages_85 : decode cX5_ages 85 = .ok (.ifCond .eq 8, 3) := by decide +kernel
theorem dX5_ages_88 : decode cX5_ages 88 = .ok (.iload 7, 2) := by decide +kernel
theorem dX5_ages_90 : decode cX5_ages 90 = .ok (.ifCond .eq 7, 3) := by decide +kernel
theorem dX5_ages_93 : decode cX5_ages 93 = .ok (.iconst 1, 1) := by decide +kernel
theorem dX5_ages_94 : decode cX5_ages 94 = .ok (.goto 4, 3) := by decide +kernel
theorem dX5_ages_97 : decode cX5_ages 97 = .ok (.iconst 0, 1) := by decide +kernel
theorem dX5_ages_98 : decode cX5_ages 98 = .ok (.istore 5, 2) := by decide +kernel
theorem dX5_ages_100 : decode cX5_ages 100 = .ok (.iinc 6 1, 3) := by decide +kernel
theorem dX5_ages_103 : decode cX5_ages 103 = .ok (.goto (-97), 3) := by decide +kernel
theorem dX5_ages_106 : decode cX5_ages 106 = .ok (.iload 5, 2) := by decide +kernel
theorem dX5_ages_108 : decode cX5_ages 108 = .ok (.ireturn, 1) := by decide +kernel
theorem dX5_uses_0 : decode cX5_uses 0 = .ok (.aload_n 0, 1) := by decide +kernel
theorem dX5_uses_1 : decode cX5_uses 1 = .ok (.iload_n 1, 1) := by decide +kernel
theorem dX5_uses_2 : decode cX5_uses 2 = .ok (.invokevirtual 123, 3) := by decide +kernel
theorem dX5_uses_5 : decode cX5_uses 5 = .ok (.ifCond .eq 14, 3) := by decide +kernel
theorem dX5_uses_8 : decode cX5_uses 8 = .ok (.iload_n 2, 1) := by decide +kernel
theorem dX5_uses_9 : decode cX5_uses 9 = .ok (.invokestatic 133, 3) := by decide +kernel
theorem dX5_uses_12 : decode cX5_uses 12 = .ok (.ifCond .eq 7, 3) := by decide +kernel
theorem dX5_uses_15 : decode cX5_uses 15 = .ok (.iconst 1, 1) := by decide +kernel
theorem dX5_uses_16 : decode cX5_uses 16 = .ok (.goto 4, 3) := by decide +kernel
theorem dX5_uses_19 : decode cX5_uses 19 = .ok (.iconst 0, 1) := by decide +kernel
theorem dX5_uses_20 : decode cX5_uses 20 = .ok (.istore 5, 2) := by decide +kernel
theorem dX5_uses_22 : decode cX5_uses 22 = .ok (.iload_n 3, 1) := by decide +kernel
theorem dX5_uses_23 : decode cX5_uses 23 = .ok (.iconst 0, 1) := by decide +kernel
theorem dX5_uses_24 : decode cX5_uses 24 = .ok (.iconst 3, 1) := by decide +kernel
theorem dX5_uses_25 : decode cX5_uses 25 = .ok (.invokestatic 81, 3) := by decide +kernel
theorem dX5_uses_28 : decode cX5_uses 28 = .ok (.ifCond .eq 17, 3) := by decide +kernel
theorem dX5_uses_31 : decode cX5_uses 31 = .ok (.iload 4, 2) := by decide +kernel
theorem dX5_uses_33 : decode cX5_uses 33 = .ok (.iload_n 3, 1) := by decide +kernel
theorem dX5_uses_34 : decode cX5_uses 34 = .ok (.iconst 3, 1) := by decide +kernel
theorem dX5_uses_35 : decode cX5_uses 35 = .ok (.invokestatic 81, 3) := by decide +kernel
theorem dX5_uses_38 : decode cX5_uses 38 = .ok (.ifCond .eq 7, 3) := by decide +kernel
theorem dX5_uses_41 : decode cX5_uses 41 = .ok (.iconst 1, 1) := by decide +kernel
theorem dX5_uses_42 : decode cX5_uses 42 = .ok (.goto 4, 3) := by decide +kernel
theorem dX5_uses_45 : decode cX5_uses 45 = .ok (.iconst 0, 1) := by decide +kernel
theorem dX5_uses_46 : decode cX5_uses 46 = .ok (.istore 6, 2) := by decide +kernel
theorem dX5_uses_48 : decode cX5_uses 48 = .ok (.aload_n 0, 1) := by decide +kernel
theorem dX5_uses_49 : decode cX5_uses 49 = .ok (.iload 5, 2) := by decide +kernel
theorem dX5_uses_51 : decode cX5_uses 51 = .ok (.iload 6, 2) := by decide +kernel
theorem dX5_uses_53 : decode cX5_uses 53 = .ok (.iload 5, 2) := by decide +kernel
theorem dX5_uses_55 : decode cX5_uses 55 = .ok (.ifCond .eq 33, 3) := by decide +kernel
theorem dX5_uses_58 : decode cX5_uses 58 = .ok (.iload 6, 2) := by decide +kernel
theorem dX5_uses_60 : decode cX5_uses 60 = .ok (.ifCond .eq 28, 3) := by decide +kernel
theorem dX5_uses_63 : decode cX5_uses 63 = .ok (.aload_n 0, 1) := by decide +kernel
theorem dX5_uses_64 : decode cX5_uses 64 = .ok (.getfield 20, 3) := by decide +kernel
theorem dX5_uses_67 : decode cX5_uses 67 = .ok (.iload_n 1, 1) := by decide +kernel
theorem dX5_uses_68 : decode cX5_uses 68 = .ok (.iaload, 1) := by decide +kernel
theorem dX5_uses_69 : decode cX5_uses 69 = .ok (.ifCond .ne 19, 3) := by decide +kernel
theorem dX5_uses_72 : decode cX5_uses 72 = .ok (.aload_n 0, 1) := by decide +kernel
theorem dX5_uses_73 : decode cX5_uses 73 = .ok (.iload_n 1, 1) := by decide +kernel
theorem dX5_uses_74 : decode cX5_uses 74 = .ok (.iload_n 2, 1) := by decide +kernel
theorem dX5_uses_75 : decode cX5_uses 75 = .ok (.iload_n 3, 1) := by decide +kernel
theorem dX5_uses_76 : decode cX5_uses 76 = .ok (.iload 4, 2) := by decide +kernel
theorem dX5_uses_78 : decode cX5_uses 78 = .ok (.invokevirtual 136, 3) := by decide +kernel
theorem dX5_uses_81 : decode cX5_uses 81 = .ok (.ifCond .eq 7, 3) := by decide +kernel
theorem dX5_uses_84 : decode cX5_uses 84 = .ok (.iconst 1, 1) := by decide +kernel
theorem dX5_uses_85 : decode cX5_uses 85 = .ok (.goto 4, 3) := by decide +kernel
theorem dX5_uses_88 : decode cX5_uses 88 = .ok (.iconst 0, 1) := by decide +kernel
theorem dX5_uses_89 : decode cX5_uses 89 = .ok (.invokevirtual 115, 3) := by decide +kernel
theorem dX5_uses_92 : decode cX5_uses 92 = .ok (.ifCond .ne 5, 3) := by decide +kernel
theorem dX5_uses_95 : decode cX5_uses 95 = .ok (.iconst 0, 1) := by decide +kernel
theorem dX5_uses_96 : decode cX5_uses 96 = .ok (.ireturn, 1) := by decide +kernel
theorem dX5_uses_97 : decode cX5_uses 97 = .ok (.aload_n 0, 1) := by decide +kernel
theorem dX5_uses_98 : decode cX5_uses 98 = .ok (.getfield 29, 3) := by decide +kernel
theorem dX5_uses_101 : decode cX5_uses 101 = .ok (.iconst 5, 1) := by decide +kernel
theorem dX5_uses_102 : decode cX5_uses 102 = .ok (.iload_n 1, 1) := by decide +kernel
theorem dX5_uses_103 : decode cX5_uses 103 = .ok (.imul, 1) := by decide +kernel
theorem dX5_uses_104 : decode cX5_uses 104 = .ok (.iload_n 2, 1) := by decide +kernel
theorem dX5_uses_105 : decode cX5_uses 105 = .ok (.iadd, 1) := by decide +kernel
theorem dX5_uses_106 : decode cX5_uses 106 = .ok (.iload_n 3, 1) := by decide +kernel
theorem dX5_uses_107 : decode cX5_uses 107 = .ok (.iastore, 1) := by decide +kernel
theorem dX5_uses_108 : decode cX5_uses 108 = .ok (.aload_n 0, 1) := by decide +kernel
theorem dX5_uses_109 : decode cX5_uses 109 = .ok (.getfield 32, 3) := by decide +kernel
theorem dX5_uses_112 : decode cX5_uses 112 = .ok (.iconst 5, 1) := by decide +kernel
theorem dX5_uses_113 : decode cX5_uses 113 = .ok (.iload_n 1, 1) := by decide +kernel
theorem dX5_uses_114 : decode cX5_uses 114 = .ok (.imul, 1) := by decide +kernel
theorem dX5_uses_115 : decode cX5_uses 115 = .ok (.iload_n 2, 1) := by decide +kernel
theorem dX5_uses_116 : decode cX5_uses 116 = .ok (.iadd, 1) := by decide +kernel
theorem dX5_uses_117 : decode cX5_uses 117 = .ok (.iload 4, 2) := by decide +kernel
theorem dX5_uses_119 : decode cX5_uses 119 = .ok (.iastore, 1) := by decide +kernel
theorem dX5_uses_120 : decode cX5_uses 120 = .ok (.iconst 0, 1) := by decide +kernel
theorem dX5_uses_121 : decode cX5_uses 121 = .ok (.istore 7, 2) := by decide +kernel
theorem dX5_uses_123 : decode cX5_uses 123 = .ok (.iconst 0, 1) := by decide +kernel
theorem dX5_uses_124 : decode cX5_uses 124 = .ok (.istore 8, 2) := by decide +kernel
theorem dX5_uses_126 : decode cX5_uses 126 = .ok (.iload 8, 2) := by decide +kernel
theorem dX5_uses_128 : decode cX5_uses 128 = .ok (.iconst 5, 1) := by decide +kernel
theorem dX5_uses_129 : decode cX5_uses 129 = .ok (.if_icmp .ge 34, 3) := by decide +kernel
theorem dX5_uses_132 : decode cX5_uses 132 = .ok (.iload 7, 2) := by decide +kernel
theorem dX5_uses_134 : decode cX5_uses 134 = .ok (.aload_n 0, 1) := by decide +kernel
theorem dX5_uses_135 : decode cX5_uses 135 = .ok (.getfield 29, 3) := by decide +kernel
theorem dX5_uses_138 : decode cX5_uses 138 = .ok (.iconst 5, 1) := by decide +kernel
theorem dX5_uses_139 : decode cX5_uses 139 = .ok (.iload_n 1, 1) := by decide +kernel
theorem dX5_uses_140 : decode cX5_uses 140 = .ok (.imul, 1) := by decide +kernel
theorem dX5_uses_141 : decode cX5_uses 141 = .ok (.iload 8, 2) := by decide +kernel
theorem dX5_uses_143 : decode cX5_uses 143 = .ok (.iadd, 1) := by decide +kernel
theorem dX5_uses_144 : decode cX5_uses 144 = .ok (.iaload, 1) := by decide +kernel
theorem dX5_uses_145 : decode cX5_uses 145 = .ok (.iconst (-1), 1) := by decide +kernel
theorem dX5_uses_146 : decode cX5_uses 146 = .ok (.if_icmp .ne 7, 3) := by decide +kernel
theorem dX5_uses_149 : decode cX5_uses 149 = .ok (.iconst 0, 1) := by decide +kernel
theorem dX5_uses_150 : decode cX5_uses 150 = .ok (.goto 4, 3) := by decide +kernel
theorem dX5_uses_153 : decode cX5_uses 153 = .ok (.iconst 1, 1) := by decide +kernel
theorem dX5_uses_154 : decode cX5_uses 154 = .ok (.iadd, 1) := by decide +kernel
theorem dX5_uses_155 : decode cX5_uses 155 = .ok (.istore 7, 2) := by decide +kernel
theorem dX5_uses_157 : decode cX5_uses 157 = .ok (.iinc 8 1, 3) := by decide +kernel
theorem dX5_uses_160 : decode cX5_uses 160 = .ok (.goto (-34), 3) := by decide +kernel
theorem dX5_uses_163 : decode cX5_uses 163 = .ok (.iload 7, 2) := by decide +kernel
theorem dX5_uses_165 : decode cX5_uses 165 = .ok (.ireturn, 1) := by decide +kernel
theorem dX5_cut_0 : decode cX5_cut 0 = .ok (.aload_n 0, 1) := by decide +kernel
theorem dX5_cut_1 : decode cX5_cut 1 = .ok (.iload_n 1, 1) := by decide +kernel
theorem dX5_cut_2 : decode cX5_cut 2 = .ok (.invokevirtual 123, 3) := by decide +kernel
theorem dX5_cut_5 : decode cX5_cut 5 = .ok (.istore_n 2, 1) := by decide +kernel
theorem dX5_cut_6 : decode cX5_cut 6 = .ok (.aload_n 0, 1) := by decide +kernel
theorem dX5_cut_7 : decode cX5_cut 7 = .ok (.iload_n 2, 1) := by decide +kernel
theorem dX5_cut_8 : decode cX5_cut 8 = .ok (.iload_n 2, 1) := by decide +kernel
theorem dX5_cut_9 : decode cX5_cut 9 = .ok (.ifCond .eq 16, 3) := by decide +kernel
theorem dX5_cut_12 : decode cX5_cut 12 = .ok (.aload_n 0, 1) := by decide +kernel
theorem dX5_cut_13 : decode cX5_cut 13 = .ok (.getfield 20, 3) := by decide +kernel
theorem dX5_cut_16 : decode cX5_cut 16 = .ok (.iload_n 1, 1) := by decide +kernel
theorem dX5_cut_17 : decode cX5_cut 17 = .ok (.iaload, 1) := by decide +kernel
theorem dX5_cut_18 : decode cX5_cut 18 = .ok (.ifCond .ne 7, 3) := by decide +kernel
theorem dX5_cut_21 : decode cX5_cut 21 = .ok (.iconst 1, 1) := by decide +kernel
theorem dX5_cut_22 : decode cX5_cut 22 = .ok (.goto 4, 3) := by decide +kernel
theorem dX5_cut_25 : decode cX5_cut 25 = .ok (.iconst 0, 1) := by decide +kernel
theorem dX5_cut_26 : decode cX5_cut 26 = .ok (.iconst 1, 1) := by decide +kernel
theorem dX5_cut_27 : decode cX5_cut 27 = .ok (.invokevirtual 115, 3) := by decide +kernel
theorem dX5_cut_30 : decode cX5_cut 30 = .ok (.ifCond .ne 5, 3) := by decide +kernel
theorem dX5_cut_33 : decode cX5_cut 33 = .ok (.iconst 0, 1) := by decide +kernel
theorem dX5_cut_34 : decode cX5_cut 34 = .ok (.ireturn, 1) := by decide +kernel
theorem dX5_cut_35 : decode cX5_cut 35 = .ok (.aload_n 0, 1) := by decide +kernel
theorem dX5_cut_36 : decode cX5_cut 36 = .ok (.getfield 20, 3) := by decide +kernel
theorem dX5_cut_39 : decode cX5_cut 39 = .ok (.iload_n 1, 1) := by decide +kernel
theorem dX5_cut_40 : decode cX5_cut 40 = .ok (.iconst 2, 1) := by decide +kernel
theorem dX5_cut_41 : decode cX5_cut 41 = .ok (.iastore, 1) := by decide +kernel
theorem dX5_cut_42 : decode cX5_cut 42 = .ok (.aload_n 0, 1) := by decide +kernel
theorem dX5_cut_43 : decode cX5_cut 43 = .ok (.getfield 35, 3) := by decide +kernel
theorem dX5_cut_46 : decode cX5_cut 46 = .ok (.aload_n 0, 1) := by decide +kernel
theorem dX5_cut_47 : decode cX5_cut 47 = .ok (.getfield 23, 3) := by decide +kernel
theorem dX5_cut_50 : decode cX5_cut 50 = .ok (.iload_n 1, 1) := by decide +kernel
theorem dX5_cut_51 : decode cX5_cut 51 = .ok (.iaload, 1) := by decide +kernel
theorem dX5_cut_52 : decode cX5_cut 52 = .ok (.iconst (-1), 1) := by decide +kernel
theorem dX5_cut_53 : decode cX5_cut 53 = .ok (.iastore, 1) := by decide +kernel
theorem dX5_cut_54 : decode cX5_cut 54 = .ok (.aload_n 0, 1) := by decide +kernel
theorem dX5_cut_55 : decode cX5_cut 55 = .ok (.getfield 23, 3) := by decide +kernel
theorem dX5_cut_58 : decode cX5_cut 58 = .ok (.iload_n 1, 1) := by decide +kernel
theorem dX5_cut_59 : decode cX5_cut 59 = .ok (.iaload, 1) := by decide +kernel
theorem dX5_cut_60 : decode cX5_cut 60 = .ok (.ireturn, 1) := by decide +kernel
theorem dX5_swaps_0 : decode cX5_swaps 0 = .ok (.aload_n 0, 1) := by decide +kernel
theorem dX5_swaps_1 : decode cX5_swaps 1 = .ok (.getfield 35, 3) := by decide +kernel
theorem dX5_swaps_4 : decode cX5_swaps 4 = .ok (.iload_n 1, 1) := by decide +kernel
theorem dX5_swaps_5 : decode cX5_swaps 5 = .ok (.iaload, 1) := by decide +kernel
theorem dX5_swaps_6 : decode cX5_swaps 6 = .ok (.istore_n 3, 1) := by decide +kernel
theorem dX5_swaps_7 : decode cX5_swaps 7 = .ok (.aload_n 0, 1) := by decide +kernel
theorem dX5_swaps_8 : decode cX5_swaps 8 = .ok (.aload_n 0, 1) := by decide +kernel
theorem dX5_swaps_9 : decode cX5_swaps 9 = .ok (.getfield 35, 3) := by decide +kernel
theorem dX5_swaps_12 : decode cX5_swaps 12 = .ok (.iload_n 2, 1) := by decide +kernel
theorem dX5_swaps_13 : decode cX5_swaps 13 = .ok (.iaload, 1) := by decide +kernel
theorem dX5_swaps_14 : decode cX5_swaps 14 = .ok (.iload_n 1, 1) := by decide +kernel
theorem dX5_swaps_15 : decode cX5_swaps 15 = .ok (.invokevirtual 119, 3) := by decide +kernel
theorem dX5_swaps_18 : decode cX5_swaps 18 = .ok (.aload_n 0, 1) := by decide +kernel
theorem dX5_swaps_19 : decode cX5_swaps 19 = .ok (.iload_n 3, 1) := by decide +kernel
theorem dX5_swaps_20 : decode cX5_swaps 20 = .ok (.iload_n 2, 1) := by decide +kernel
theorem dX5_swaps_21 : decode cX5_swaps 21 = .ok (.invokevirtual 119, 3) := by decide +kernel
theorem dX5_swaps_24 : decode cX5_swaps 24 = .ok (.return_, 1) := by decide +kernel
theorem dX5_swap_0 : decode cX5_swap 0 = .ok (.aload_n 0, 1) := by decide +kernel
theorem dX5_swap_1 : decode cX5_swap 1 = .ok (.aload_n 0, 1) := by decide +kernel
theorem dX5_swap_2 : decode cX5_swap 2 = .ok (.iload_n 1, 1) := by decide +kernel
theorem dX5_swap_3 : decode cX5_swap 3 = .ok (.invokevirtual 140, 3) := by decide +kernel
theorem dX5_swap_6 : decode cX5_swap 6 = .ok (.ifCond .eq 15, 3) := by decide +kernel
theorem dX5_swap_9 : decode cX5_swap 9 = .ok (.aload_n 0, 1) := by decide +kernel
theorem dX5_swap_10 : decode cX5_swap 10 = .ok (.iload_n 2, 1) := by decide +kernel
theorem dX5_swap_11 : decode cX5_swap 11 = .ok (.invokevirtual 140, 3) := by decide +kernel
theorem dX5_swap_14 : decode cX5_swap 14 = .ok (.ifCond .eq 7, 3) := by decide +kernel
theorem dX5_swap_17 : decode cX5_swap 17 = .ok (.iconst 1, 1) := by decide +kernel
theorem dX5_swap_18 : decode cX5_swap 18 = .ok (.goto 4, 3) := by decide +kernel
theorem dX5_swap_21 : decode cX5_swap 21 = .ok (.iconst 0, 1) := by decide +kernel
theorem dX5_swap_22 : decode cX5_swap 22 = .ok (.iconst 1, 1) := by decide +kernel
theorem dX5_swap_23 : decode cX5_swap 23 = .ok (.iconst 1, 1) := by decide +kernel
theorem dX5_swap_24 : decode cX5_swap 24 = .ok (.invokevirtual 115, 3) := by decide +kernel
theorem dX5_swap_27 : decode cX5_swap 27 = .ok (.ifCond .ne 5, 3) := by decide +kernel
theorem dX5_swap_30 : decode cX5_swap 30 = .ok (.iconst 0, 1) := by decide +kernel
theorem dX5_swap_31 : decode cX5_swap 31 = .ok (.ireturn, 1) := by decide +kernel
theorem dX5_swap_32 : decode cX5_swap 32 = .ok (.aload_n 0, 1) := by decide +kernel
theorem dX5_swap_33 : decode cX5_swap 33 = .ok (.iload_n 1, 1) := by decide +kernel
theorem dX5_swap_34 : decode cX5_swap 34 = .ok (.iload_n 2, 1) := by decide +kernel
theorem dX5_swap_35 : decode cX5_swap 35 = .ok (.invokevirtual 143, 3) := by decide +kernel
theorem dX5_swap_38 : decode cX5_swap 38 = .ok (.aload_n 0, 1) := by decide +kernel
theorem dX5_swap_39 : decode cX5_swap 39 = .ok (.invokevirtual 146, 3) := by decide +kernel
theorem dX5_swap_42 : decode cX5_swap 42 = .ok (.ireturn, 1) := by decide +kernel
theorem dX5_permit_0 : decode cX5_permit 0 = .ok (.iload_n 1, 1) := by decide +kernel
theorem dX5_permit_1 : decode cX5_permit 1 = .ok (.iconst 0, 1) := by decide +kernel
theorem dX5_permit_2 : decode cX5_permit 2 = .ok (.iconst 3, 1) := by decide +kernel
theorem dX5_permit_3 : decode cX5_permit 3 = .ok (.invokestatic 81, 3) := by decide +kernel
theorem dX5_permit_6 : decode cX5_permit 6 = .ok (.ifCond .eq 35, 3) := by decide +kernel
theorem dX5_permit_9 : decode cX5_permit 9 = .ok (.iload_n 2, 1) := by decide +kernel
theorem dX5_permit_10 : decode cX5_permit 10 = .ok (.invokestatic 149, 3) := by decide +kernel
theorem dX5_permit_13 : decode cX5_permit 13 = .ok (.ifCond .eq 28, 3) := by decide +kernel
theorem dX5_permit_16 : decode cX5_permit 16 = .ok (.iload_n 3, 1) := by decide +kernel
theorem dX5_permit_17 : decode cX5_permit 17 = .ok (.iload_n 2, 1) := by decide +kernel
theorem dX5_permit_18 : decode cX5_permit 18 = .ok (.bipush 29, 2) := by decide +kernel
theorem dX5_permit_20 : decode cX5_permit 20 = .ok (.invokestatic 81, 3) := by decide +kernel
theorem dX5_permit_23 : decode cX5_permit 23 = .ok (.ifCond .eq 18, 3) := by decide +kernel
theorem dX5_permit_26 : decode cX5_permit 26 = .ok (.iload 4, 2) := by decide +kernel
theorem dX5_permit_28 : decode cX5_permit 28 = .ok (.iconst 1, 1) := by decide +kernel
theorem dX5_permit_29 : decode cX5_permit 29 = .ok (.bipush 9, 2) := by decide +kernel
theorem dX5_permit_31 : decode cX5_permit 31 = .ok (.invokestatic 81, 3) := by decide +kernel
theorem dX5_permit_34 : decode cX5_permit 34 = .ok (.ifCond .eq 7, 3) := by decide +kernel
theorem dX5_permit_37 : decode cX5_permit 37 = .ok (.iconst 1, 1) := by decide +kernel
theorem dX5_permit_38 : decode cX5_permit 38 = .ok (.goto 4, 3) := by decide +kernel
theorem dX5_permit_41 : decode cX5_permit 41 = .ok (.iconst 0, 1) := by decide +kernel
theorem dX5_permit_42 : decode cX5_permit 42 = .ok (.istore 5, 2) := by decide +kernel
theorem dX5_permit_44 : decode cX5_permit 44 = .ok (.aload_n 0, 1) := by decide +kernel
theorem dX5_permit_45 : decode cX5_permit 45 = .ok (.iload 5, 2) := by decide +kernel
theorem dX5_permit_47 : decode cX5_permit 47 = .ok (.aload_n 0, 1) := by decide +kernel
theorem dX5_permit_48 : decode cX5_permit 48 = .ok (.getfield 95, 3) := by decide +kernel
theorem dX5_permit_51 : decode cX5_permit 51 = .ok (.bipush 20, 2) := by decide +kernel
theorem dX5_permit_53 : decode cX5_permit 53 = .ok (.if_icmp .ge 7, 3) := by decide +kernel
theorem dX5_permit_56 : decode cX5_permit 56 = .ok (.iconst 1, 1) := by decide +kernel
theorem dX5_permit_57 : decode cX5_permit 57 = .ok (.goto 4, 3) := by decide +kernel
theorem dX5_permit_60 : decode cX5_permit 60 = .ok (.iconst 0, 1) := by decide +kernel
theorem dX5_permit_61 : decode cX5_permit 61 = .ok (.iconst 1, 1) := by decide +kernel
theorem dX5_permit_62 : decode cX5_permit 62 = .ok (.invokevirtual 115, 3) := by decide +kernel
theorem dX5_permit_65 : decode cX5_permit 65 = .ok (.ifCond .ne 5, 3) := by decide +kernel
theorem dX5_permit_68 : decode cX5_permit 68 = .ok (.iconst 0, 1) := by decide +kernel
theorem dX5_permit_69 : decode cX5_permit 69 = .ok (.ireturn, 1) := by decide +kernel
theorem dX5_permit_70 : decode cX5_permit 70 = .ok (.aload_n 0, 1) := by decide +kernel
theorem dX5_permit_71 : decode cX5_permit 71 = .ok (.getfield 38, 3) := by decide +kernel
theorem dX5_permit_74 : decode cX5_permit 74 = .ok (.aload_n 0, 1) := by decide +kernel
theorem dX5_permit_75 : decode cX5_permit 75 = .ok (.getfield 95, 3) := by decide +kernel
theorem dX5_permit_78 : decode cX5_permit 78 = .ok (.iload_n 1, 1) := by decide +kernel
theorem dX5_permit_79 : decode cX5_permit 79 = .ok (.iastore, 1) := by decide +kernel
theorem dX5_permit_80 : decode cX5_permit 80 = .ok (.aload_n 0, 1) := by decide +kernel
theorem dX5_permit_81 : decode cX5_permit 81 = .ok (.getfield 41, 3) := by decide +kernel
theorem dX5_permit_84 : decode cX5_permit 84 = .ok (.aload_n 0, 1) := by decide +kernel
theorem dX5_permit_85 : decode cX5_permit 85 = .ok (.getfield 95, 3) := by decide +kernel
theorem dX5_permit_88 : decode cX5_permit 88 = .ok (.iload_n 2, 1) := by decide +kernel
theorem dX5_permit_89 : decode cX5_permit 89 = .ok (.iastore, 1) := by decide +kernel
theorem dX5_permit_90 : decode cX5_permit 90 = .ok (.aload_n 0, 1) := by decide +kernel
theorem dX5_permit_91 : decode cX5_permit 91 = .ok (.getfield 44, 3) := by decide +kernel
theorem dX5_permit_94 : decode cX5_permit 94 = .ok (.aload_n 0, 1) := by decide +kernel
theorem dX5_permit_95 : decode cX5_permit 95 = .ok (.getfield 95, 3) := by decide +kernel
theorem dX5_permit_98 : decode cX5_permit 98 = .ok (.iload_n 3, 1) := by decide +kernel
theorem dX5_permit_99 : decode cX5_permit 99 = .ok (.iastore, 1) := by decide +kernel
theorem dX5_permit_100 : decode cX5_permit 100 = .ok (.aload_n 0, 1) := by decide +kernel
theorem dX5_permit_101 : decode cX5_permit 101 = .ok (.getfield 47, 3) := by decide +kernel
theorem dX5_permit_104 : decode cX5_permit 104 = .ok (.aload_n 0, 1) := by decide +kernel
theorem dX5_permit_105 : decode cX5_permit 105 = .ok (.getfield 95, 3) := by decide +kernel
theorem dX5_permit_108 : decode cX5_permit 108 = .ok (.iload 4, 2) := by decide +kernel
theorem dX5_permit_110 : decode cX5_permit 110 = .ok (.iastore, 1) := by decide +kernel
theorem dX5_permit_111 : decode cX5_permit 111 = .ok (.aload_n 0, 1) := by decide +kernel
theorem dX5_permit_112 : decode cX5_permit 112 = .ok (.dup, 1) := by decide +kernel
theorem dX5_permit_113 : decode cX5_permit 113 = .ok (.getfield 95, 3) := by decide +kernel
theorem dX5_permit_116 : decode cX5_permit 116 = .ok (.iconst 1, 1) := by decide +kernel
theorem dX5_permit_117 : decode cX5_permit 117 = .ok (.iadd, 1) := by decide +kernel
theorem dX5_permit_118 : decode cX5_permit 118 = .ok (.putfield 95, 3) := by decide +kernel
theorem dX5_permit_121 : decode cX5_permit 121 = .ok (.aload_n 0, 1) := by decide +kernel
theorem dX5_permit_122 : decode cX5_permit 122 = .ok (.getfield 95, 3) := by decide +kernel
theorem dX5_permit_125 : decode cX5_permit 125 = .ok (.iconst 1, 1) := by decide +kernel
theorem dX5_permit_126 : decode cX5_permit 126 = .ok (.isub, 1) := by decide +kernel
theorem dX5_permit_127 : decode cX5_permit 127 = .ok (.ireturn, 1) := by decide +kernel
theorem dX5_refusals_0 : decode cX5_refusals 0 = .ok (.iconst 0, 1) := by decide +kernel
theorem dX5_refusals_1 : decode cX5_refusals 1 = .ok (.istore_n 1, 1) := by decide +kernel
theorem dX5_refusals_2 : decode cX5_refusals 2 = .ok (.iconst 0, 1) := by decide +kernel
theorem dX5_refusals_3 : decode cX5_refusals 3 = .ok (.istore_n 2, 1) := by decide +kernel
theorem dX5_refusals_4 : decode cX5_refusals 4 = .ok (.iload_n 2, 1) := by decide +kernel
theorem dX5_refusals_5 : decode cX5_refusals 5 = .ok (.aload_n 0, 1) := by decide +kernel
theorem dX5_refusals_6 : decode cX5_refusals 6 = .ok (.getfield 78, 3) := by decide +kernel
theorem dX5_refusals_9 : decode cX5_refusals 9 = .ok (.if_icmp .ge 40, 3) := by decide +kernel
theorem dX5_refusals_12 : decode cX5_refusals 12 = .ok (.iload_n 1, 1) := by decide +kernel
theorem dX5_refusals_13 : decode cX5_refusals 13 = .ok (.aload_n 0, 1) := by decide +kernel
theorem dX5_refusals_14 : decode cX5_refusals 14 = .ok (.getfield 20, 3) := by decide +kernel
theorem dX5_refusals_17 : decode cX5_refusals 17 = .ok (.iload_n 2, 1) := by decide +kernel
theorem dX5_refusals_18 : decode cX5_refusals 18 = .ok (.iaload, 1) := by decide +kernel
theorem dX5_refusals_19 : decode cX5_refusals 19 = .ok (.ifCond .ne 21, 3) := by decide +kernel
theorem dX5_refusals_22 : decode cX5_refusals 22 = .ok (.aload_n 0, 1) := by decide +kernel
theorem dX5_refusals_23 : decode cX5_refusals 23 = .ok (.iload_n 2, 1) := by decide +kernel
theorem dX5_refusals_24 : decode cX5_refusals 24 = .ok (.aload_n 0, 1) := by decide +kernel
theorem dX5_refusals_25 : decode cX5_refusals 25 = .ok (.getfield 23, 3) := by decide +kernel
theorem dX5_refusals_28 : decode cX5_refusals 28 = .ok (.iload_n 2, 1) := by decide +kernel
theorem dX5_refusals_29 : decode cX5_refusals 29 = .ok (.iaload, 1) := by decide +kernel
theorem dX5_refusals_30 : decode cX5_refusals 30 = .ok (.invokevirtual 104, 3) := by decide +kernel
theorem dX5_refusals_33 : decode cX5_refusals 33 = .ok (.ifCond .ne 7, 3) := by decide +kernel
theorem dX5_refusals_36 : decode cX5_refusals 36 = .ok (.iconst 1, 1) := by decide +kernel
theorem dX5_refusals_37 : decode cX5_refusals 37 = .ok (.goto 4, 3) := by decide +kernel
theorem dX5_refusals_40 : decode cX5_refusals 40 = .ok (.iconst 0, 1) := by decide +kernel
theorem dX5_refusals_41 : decode cX5_refusals 41 = .ok (.iadd, 1) := by decide +kernel
theorem dX5_refusals_42 : decode cX5_refusals 42 = .ok (.istore_n 1, 1) := by decide +kernel
theorem dX5_refusals_43 : decode cX5_refusals 43 = .ok (.iinc 2 1, 3) := by decide +kernel
theorem dX5_refusals_46 : decode cX5_refusals 46 = .ok (.goto (-42), 3) := by decide +kernel
theorem dX5_refusals_49 : decode cX5_refusals 49 = .ok (.iload_n 1, 1) := by decide +kernel
theorem dX5_refusals_50 : decode cX5_refusals 50 = .ok (.ireturn, 1) := by decide +kernel
theorem dX5_revoke_0 : decode cX5_revoke 0 = .ok (.iload_n 1, 1) := by decide +kernel
theorem dX5_revoke_1 : decode cX5_revoke 1 = .ok (.iconst 0, 1) := by decide +kernel
theorem dX5_revoke_2 : decode cX5_revoke 2 = .ok (.aload_n 0, 1) := by decide +kernel
theorem dX5_revoke_3 : decode cX5_revoke 3 = .ok (.getfield 95, 3) := by decide +kernel
theorem dX5_revoke_6 : decode cX5_revoke 6 = .ok (.iconst 1, 1) := by decide +kernel
theorem dX5_revoke_7 : decode cX5_revoke 7 = .ok (.isub, 1) := by decide +kernel
theorem dX5_revoke_8 : decode cX5_revoke 8 = .ok (.invokestatic 81, 3) := by decide +kernel
theorem dX5_revoke_11 : decode cX5_revoke 11 = .ok (.istore_n 2, 1) := by decide +kernel
theorem dX5_revoke_12 : decode cX5_revoke 12 = .ok (.aload_n 0, 1) := by decide +kernel
theorem dX5_revoke_13 : decode cX5_revoke 13 = .ok (.iload_n 2, 1) := by decide +kernel
theorem dX5_revoke_14 : decode cX5_revoke 14 = .ok (.iload_n 2, 1) := by decide +kernel
theorem dX5_revoke_15 : decode cX5_revoke 15 = .ok (.ifCond .eq 16, 3) := by decide +kernel
theorem dX5_revoke_18 : decode cX5_revoke 18 = .ok (.aload_n 0, 1) := by decide +kernel
theorem dX5_revoke_19 : decode cX5_revoke 19 = .ok (.getfield 50, 3) := by decide +kernel
theorem dX5_revoke_22 : decode cX5_revoke 22 = .ok (.iload_n 1, 1) := by decide +kernel
theorem dX5_revoke_23 : decode cX5_revoke 23 = .ok (.baload, 1) := by decide +kernel
theorem dX5_revoke_24 : decode cX5_revoke 24 = .ok (.ifCond .ne 7, 3) := by decide +kernel
theorem dX5_revoke_27 : decode cX5_revoke 27 = .ok (.iconst 1, 1) := by decide +kernel
theorem dX5_revoke_28 : decode cX5_revoke 28 = .ok (.goto 4, 3) := by decide +kernel
theorem dX5_revoke_31 : decode cX5_revoke 31 = .ok (.iconst 0, 1) := by decide +kernel
theorem dX5_revoke_32 : decode cX5_revoke 32 = .ok (.iconst 1, 1) := by decide +kernel
theorem dX5_revoke_33 : decode cX5_revoke 33 = .ok (.invokevirtual 115, 3) := by decide +kernel
theorem dX5_revoke_36 : decode cX5_revoke 36 = .ok (.ifCond .ne 5, 3) := by decide +kernel
theorem dX5_revoke_39 : decode cX5_revoke 39 = .ok (.iconst 0, 1) := by decide +kernel
theorem dX5_revoke_40 : decode cX5_revoke 40 = .ok (.ireturn, 1) := by decide +kernel
theorem dX5_revoke_41 : decode cX5_revoke 41 = .ok (.aload_n 0, 1) := by decide +kernel
theorem dX5_revoke_42 : decode cX5_revoke 42 = .ok (.invokevirtual 152, 3) := by decide +kernel
theorem dX5_revoke_45 : decode cX5_revoke 45 = .ok (.istore_n 3, 1) := by decide +kernel
theorem dX5_revoke_46 : decode cX5_revoke 46 = .ok (.aload_n 0, 1) := by decide +kernel
theorem dX5_revoke_47 : decode cX5_revoke 47 = .ok (.getfield 50, 3) := by decide +kernel
theorem dX5_revoke_50 : decode cX5_revoke 50 = .ok (.iload_n 1, 1) := by decide +kernel
theorem dX5_revoke_51 : decode cX5_revoke 51 = .ok (.iconst 1, 1) := by decide +kernel
theorem dX5_revoke_52 : decode cX5_revoke 52 = .ok (.bastore, 1) := by decide +kernel
theorem dX5_revoke_53 : decode cX5_revoke 53 = .ok (.aload_n 0, 1) := by decide +kernel
theorem dX5_revoke_54 : decode cX5_revoke 54 = .ok (.invokevirtual 152, 3) := by decide +kernel
theorem dX5_revoke_57 : decode cX5_revoke 57 = .ok (.iload_n 3, 1) := by decide +kernel
theorem dX5_revoke_58 : decode cX5_revoke 58 = .ok (.isub, 1) := by decide +kernel
theorem dX5_revoke_59 : decode cX5_revoke 59 = .ok (.ireturn, 1) := by decide +kernel
theorem dX5_away_0 : decode cX5_away 0 = .ok (.aload_n 0, 1) := by decide +kernel
theorem dX5_away_1 : decode cX5_away 1 = .ok (.iload_n 1, 1) := by decide +kernel
theorem dX5_away_2 : decode cX5_away 2 = .ok (.invokestatic 127, 3) := by decide +kernel
theorem dX5_away_5 : decode cX5_away 5 = .ok (.iload_n 2, 1) := by decide +kernel
theorem dX5_away_6 : decode cX5_away 6 = .ok (.invokestatic 149, 3) := by decide +kernel
theorem dX5_away_9 : decode cX5_away 9 = .ok (.iconst 1, 1) := by decide +kernel
theorem dX5_away_10 : decode cX5_away 10 = .ok (.invokevirtual 115, 3) := by decide +kernel
theorem dX5_away_13 : decode cX5_away 13 = .ok (.ifCond .ne 5, 3) := by decide +kernel
theorem dX5_away_16 : decode cX5_away 16 = .ok (.iconst 0, 1) := by decide +kernel
theorem dX5_away_17 : decode cX5_away 17 = .ok (.ireturn, 1) := by decide +kernel
theorem dX5_away_18 : decode cX5_away 18 = .ok (.aload_n 0, 1) := by decide +kernel
theorem dX5_away_19 : decode cX5_away 19 = .ok (.getfield 54, 3) := by decide +kernel
theorem dX5_away_22 : decode cX5_away 22 = .ok (.bipush 30, 2) := by decide +kernel
theorem dX5_away_24 : decode cX5_away 24 = .ok (.iload_n 1, 1) := by decide +kernel
theorem dX5_away_25 : decode cX5_away 25 = .ok (.imul, 1) := by decide +kernel
theorem dX5_away_26 : decode cX5_away 26 = .ok (.iload_n 2, 1) := by decide +kernel
theorem dX5_away_27 : decode cX5_away 27 = .ok (.iadd, 1) := by decide +kernel
theorem dX5_away_28 : decode cX5_away 28 = .ok (.baload, 1) := by decide +kernel
theorem dX5_away_29 : decode cX5_away 29 = .ok (.istore 4, 2) := by decide +kernel
theorem dX5_away_31 : decode cX5_away 31 = .ok (.aload_n 0, 1) := by decide +kernel
theorem dX5_away_32 : decode cX5_away 32 = .ok (.getfield 54, 3) := by decide +kernel
theorem dX5_away_35 : decode cX5_away 35 = .ok (.bipush 30, 2) := by decide +kernel
theorem dX5_away_37 : decode cX5_away 37 = .ok (.iload_n 1, 1) := by decide +kernel
theorem dX5_away_38 : decode cX5_away 38 = .ok (.imul, 1) := by decide +kernel
theorem dX5_away_39 : decode cX5_away 39 = .ok (.iload_n 2, 1) := by decide +kernel
theorem dX5_away_40 : decode cX5_away 40 = .ok (.iadd, 1) := by decide +kernel
theorem dX5_away_41 : decode cX5_away 41 = .ok (.iload_n 3, 1) := by decide +kernel
theorem dX5_away_42 : decode cX5_away 42 = .ok (.bastore, 1) := by decide +kernel
theorem dX5_away_43 : decode cX5_away 43 = .ok (.iload 4, 2) := by decide +kernel
theorem dX5_away_45 : decode cX5_away 45 = .ok (.ireturn, 1) := by decide +kernel
theorem dX5_allOf_0 : decode cX5_allOf 0 = .ok (.iconst 0, 1) := by decide +kernel
theorem dX5_allOf_1 : decode cX5_allOf 1 = .ok (.istore_n 2, 1) := by decide +kernel
theorem dX5_allOf_2 : decode cX5_allOf 2 = .ok (.iconst 0, 1) := by decide +kernel
theorem dX5_allOf_3 : decode cX5_allOf 3 = .ok (.istore_n 3, 1) := by decide +kernel
theorem dX5_allOf_4 : decode cX5_allOf 4 = .ok (.iload_n 3, 1) := by decide +kernel
theorem dX5_allOf_5 : decode cX5_allOf 5 = .ok (.iconst 4, 1) := by decide +kernel
theorem dX5_allOf_6 : decode cX5_allOf 6 = .ok (.if_icmp .ge 22, 3) := by decide +kernel
theorem dX5_allOf_9 : decode cX5_allOf 9 = .ok (.iload_n 2, 1) := by decide +kernel
theorem dX5_allOf_10 : decode cX5_allOf 10 = .ok (.aload_n 0, 1) := by decide +kernel
theorem dX5_allOf_11 : decode cX5_allOf 11 = .ok (.getfield 60, 3) := by decide +kernel
theorem dX5_allOf_14 : decode cX5_allOf 14 = .ok (.iconst 4, 1) := by decide +kernel
theorem dX5_allOf_15 : decode cX5_allOf 15 = .ok (.iload_n 1, 1) := by decide +kernel
theorem dX5_allOf_16 : decode cX5_allOf 16 = .ok (.imul, 1) := by decide +kernel
theorem dX5_allOf_17 : decode cX5_allOf 17 = .ok (.iload_n 3, 1) := by decide +kernel
theorem dX5_allOf_18 : decode cX5_allOf 18 = .ok (.iadd, 1) := by decide +kernel
theorem dX5_allOf_19 : decode cX5_allOf 19 = .ok (.iaload, 1) := by decide +kernel
theorem dX5_allOf_20 : decode cX5_allOf 20 = .ok (.iadd, 1) := by decide +kernel
theorem dX5_allOf_21 : decode cX5_allOf 21 = .ok (.istore_n 2, 1) := by decide +kernel
theorem dX5_allOf_22 : decode cX5_allOf 22 = .ok (.iinc 3 1, 3) := by decide +kernel
theorem dX5_allOf_25 : decode cX5_allOf 25 = .ok (.goto (-21), 3) := by decide +kernel
theorem dX5_allOf_28 : decode cX5_allOf 28 = .ok (.iload_n 2, 1) := by decide +kernel
theorem dX5_allOf_29 : decode cX5_allOf 29 = .ok (.ireturn, 1) := by decide +kernel
theorem dX5_buy_0 : decode cX5_buy 0 = .ok (.iload_n 1, 1) := by decide +kernel
theorem dX5_buy_1 : decode cX5_buy 1 = .ok (.invokestatic 133, 3) := by decide +kernel
theorem dX5_buy_4 : decode cX5_buy 4 = .ok (.istore_n 2, 1) := by decide +kernel
theorem dX5_buy_5 : decode cX5_buy 5 = .ok (.aload_n 0, 1) := by decide +kernel
theorem dX5_buy_6 : decode cX5_buy 6 = .ok (.iload_n 2, 1) := by decide +kernel
theorem dX5_buy_7 : decode cX5_buy 7 = .ok (.iload_n 2, 1) := by decide +kernel
theorem dX5_buy_8 : decode cX5_buy 8 = .ok (.ifCond .eq 17, 3) := by decide +kernel
theorem dX5_buy_11 : decode cX5_buy 11 = .ok (.aload_n 0, 1) := by decide +kernel
theorem dX5_buy_12 : decode cX5_buy 12 = .ok (.iload_n 1, 1) := by decide +kernel
theorem dX5_buy_13 : decode cX5_buy 13 = .ok (.invokevirtual 155, 3) := by decide +kernel
theorem dX5_buy_16 : decode cX5_buy 16 = .ok (.bipush 20, 2) := by decide +kernel
theorem dX5_buy_18 : decode cX5_buy 18 = .ok (.if_icmp .ge 7, 3) := by decide +kernel
theorem dX5_buy_21 : decode cX5_buy 21 = .ok (.iconst 1, 1) := by decide +kernel
theorem dX5_buy_22 : decode cX5_buy 22 = .ok (.goto 4, 3) := by decide +kernel
theorem dX5_buy_25 : decode cX5_buy 25 = .ok (.iconst 0, 1) := by decide +kernel
theorem dX5_buy_26 : decode cX5_buy 26 = .ok (.iconst 1, 1) := by decide +kernel
theorem dX5_buy_27 : decode cX5_buy 27 = .ok (.invokevirtual 115, 3) := by decide +kernel
theorem dX5_buy_30 : decode cX5_buy 30 = .ok (.ifCond .ne 5, 3) := by decide +kernel
theorem dX5_buy_33 : decode cX5_buy 33 = .ok (.iconst 0, 1) := by decide +kernel
theorem dX5_buy_34 : decode cX5_buy 34 = .ok (.ireturn, 1) := by decide +kernel
theorem dX5_buy_35 : decode cX5_buy 35 = .ok (.aload_n 0, 1) := by decide +kernel
theorem dX5_buy_36 : decode cX5_buy 36 = .ok (.getfield 60, 3) := by decide +kernel
theorem dX5_buy_39 : decode cX5_buy 39 = .ok (.iconst 4, 1) := by decide +kernel
theorem dX5_buy_40 : decode cX5_buy 40 = .ok (.iload_n 1, 1) := by decide +kernel
theorem dX5_buy_41 : decode cX5_buy 41 = .ok (.imul, 1) := by decide +kernel
theorem dX5_buy_42 : decode cX5_buy 42 = .ok (.dup2, 1) := by decide +kernel
theorem dX5_buy_43 : decode cX5_buy 43 = .ok (.iaload, 1) := by decide +kernel
theorem dX5_buy_44 : decode cX5_buy 44 = .ok (.iconst 1, 1) := by decide +kernel
theorem dX5_buy_45 : decode cX5_buy 45 = .ok (.iadd, 1) := by decide +kernel
theorem dX5_buy_46 : decode cX5_buy 46 = .ok (.iastore, 1) := by decide +kernel
theorem dX5_buy_47 : decode cX5_buy 47 = .ok (.aload_n 0, 1) := by decide +kernel
theorem dX5_buy_48 : decode cX5_buy 48 = .ok (.dup, 1) := by decide +kernel
theorem dX5_buy_49 : decode cX5_buy 49 = .ok (.getfield 159, 3) := by decide +kernel
theorem dX5_buy_52 : decode cX5_buy 52 = .ok (.iconst 5, 1) := by decide +kernel
theorem dX5_buy_53 : decode cX5_buy 53 = .ok (.iadd, 1) := by decide +kernel
theorem dX5_buy_54 : decode cX5_buy 54 = .ok (.putfield 159, 3) := by decide +kernel
theorem dX5_buy_57 : decode cX5_buy 57 = .ok (.aload_n 0, 1) := by decide +kernel
theorem dX5_buy_58 : decode cX5_buy 58 = .ok (.iload_n 1, 1) := by decide +kernel
theorem dX5_buy_59 : decode cX5_buy 59 = .ok (.invokevirtual 155, 3) := by decide +kernel
theorem dX5_buy_62 : decode cX5_buy 62 = .ok (.ireturn, 1) := by decide +kernel
theorem dX5_clear_0 : decode cX5_clear 0 = .ok (.iconst 0, 1) := by decide +kernel
theorem dX5_clear_1 : decode cX5_clear 1 = .ok (.istore_n 1, 1) := by decide +kernel
theorem dX5_clear_2 : decode cX5_clear 2 = .ok (.iconst 0, 1) := by decide +kernel
theorem dX5_clear_3 : decode cX5_clear 3 = .ok (.istore_n 2, 1) := by decide +kernel
theorem dX5_clear_4 : decode cX5_clear 4 = .ok (.iload_n 2, 1) := by decide +kernel
theorem dX5_clear_5 : decode cX5_clear 5 = .ok (.iconst 5, 1) := by decide +kernel
theorem dX5_clear_6 : decode cX5_clear 6 = .ok (.if_icmp .ge 33, 3) := by decide +kernel
theorem dX5_clear_9 : decode cX5_clear 9 = .ok (.iload_n 1, 1) := by decide +kernel
theorem dX5_clear_10 : decode cX5_clear 10 = .ok (.aload_n 0, 1) := by decide +kernel
theorem dX5_clear_11 : decode cX5_clear 11 = .ok (.getfield 60, 3) := by decide +kernel
theorem dX5_clear_14 : decode cX5_clear 14 = .ok (.iconst 4, 1) := by decide +kernel
theorem dX5_clear_15 : decode cX5_clear 15 = .ok (.iload_n 2, 1) := by decide +kernel
theorem dX5_clear_16 : decode cX5_clear 16 = .ok (.imul, 1) := by decide +kernel
theorem dX5_clear_17 : decode cX5_clear 17 = .ok (.iconst 3, 1) := by decide +kernel
theorem dX5_clear_18 : decode cX5_clear 18 = .ok (.iadd, 1) := by decide +kernel
theorem dX5_clear_19 : decode cX5_clear 19 = .ok (.iaload, 1) := by decide +kernel
theorem dX5_clear_20 : decode cX5_clear 20 = .ok (.iadd, 1) := by decide +kernel
theorem dX5_clear_21 : decode cX5_clear 21 = .ok (.istore_n 1, 1) := by decide +kernel
theorem dX5_clear_22 : decode cX5_clear 22 = .ok (.aload_n 0, 1) := by decide +kernel
theorem dX5_clear_23 : decode cX5_clear 23 = .ok (.getfield 60, 3) := by decide +kernel
theorem dX5_clear_26 : decode cX5_clear 26 = .ok (.iconst 4, 1) := by decide +kernel
theorem dX5_clear_27 : decode cX5_clear 27 = .ok (.iload_n 2, 1) := by decide +kernel
theorem dX5_clear_28 : decode cX5_clear 28 = .ok (.imul, 1) := by decide +kernel
theorem dX5_clear_29 : decode cX5_clear 29 = .ok (.iconst 3, 1) := by decide +kernel
theorem dX5_clear_30 : decode cX5_clear 30 = .ok (.iadd, 1) := by decide +kernel
theorem dX5_clear_31 : decode cX5_clear 31 = .ok (.iconst 0, 1) := by decide +kernel
theorem dX5_clear_32 : decode cX5_clear 32 = .ok (.iastore, 1) := by decide +kernel
theorem dX5_clear_33 : decode cX5_clear 33 = .ok (.iinc 2 1, 3) := by decide +kernel
theorem dX5_clear_36 : decode cX5_clear 36 = .ok (.goto (-32), 3) := by decide +kernel
theorem dX5_clear_39 : decode cX5_clear 39 = .ok (.aload_n 0, 1) := by decide +kernel
theorem dX5_clear_40 : decode cX5_clear 40 = .ok (.iload_n 1, 1) := by decide +kernel
theorem dX5_clear_41 : decode cX5_clear 41 = .ok (.invokevirtual 162, 3) := by decide +kernel
theorem dX5_clear_44 : decode cX5_clear 44 = .ok (.ireturn, 1) := by decide +kernel
theorem dX5_mishap_0 : decode cX5_mishap 0 = .ok (.iload_n 1, 1) := by decide +kernel
theorem dX5_mishap_1 : decode cX5_mishap 1 = .ok (.invokestatic 133, 3) := by decide +kernel
theorem dX5_mishap_4 : decode cX5_mishap 4 = .ok (.istore_n 3, 1) := by decide +kernel
theorem dX5_mishap_5 : decode cX5_mishap 5 = .ok (.iload_n 2, 1) := by decide +kernel
theorem dX5_mishap_6 : decode cX5_mishap 6 = .ok (.iconst 0, 1) := by decide +kernel
theorem dX5_mishap_7 : decode cX5_mishap 7 = .ok (.iconst 2, 1) := by decide +kernel
theorem dX5_mishap_8 : decode cX5_mishap 8 = .ok (.invokestatic 81, 3) := by decide +kernel
theorem dX5_mishap_11 : decode cX5_mishap 11 = .ok (.istore 4, 2) := by decide +kernel
theorem dX5_mishap_13 : decode cX5_mishap 13 = .ok (.aload_n 0, 1) := by decide +kernel
theorem dX5_mishap_14 : decode cX5_mishap 14 = .ok (.iload_n 3, 1) := by decide +kernel
theorem dX5_mishap_15 : decode cX5_mishap 15 = .ok (.iload 4, 2) := by decide +kernel
theorem dX5_mishap_17 : decode cX5_mishap 17 = .ok (.iload_n 3, 1) := by decide +kernel
theorem dX5_mishap_18 : decode cX5_mishap 18 = .ok (.ifCond .eq 25, 3) := by decide +kernel
theorem dX5_mishap_21 : decode cX5_mishap 21 = .ok (.iload 4, 2) := by decide +kernel
theorem dX5_mishap_23 : decode cX5_mishap 23 = .ok (.ifCond .eq 20, 3) := by decide +kernel
theorem dX5_mishap_26 : decode cX5_mishap 26 = .ok (.aload_n 0, 1) := by decide +kernel
theorem dX5_mishap_27 : decode cX5_mishap 27 = .ok (.getfield 60, 3) := by decide +kernel
theorem dX5_mishap_30 : decode cX5_mishap 30 = .ok (.iconst 4, 1) := by decide +kernel
theorem dX5_mishap_31 : decode cX5_mishap 31 = .ok (.iload_n 1, 1) := by decide +kernel
theorem dX5_mishap_32 : decode cX5_mishap 32 = .ok (.imul, 1) := by decide +kernel
theorem dX5_mishap_33 : decode cX5_mishap 33 = .ok (.iload_n 2, 1) := by decide +kernel
theorem dX5_mishap_34 : decode cX5_mishap 34 = .ok (.iadd, 1) := by decide +kernel
theorem dX5_mishap_35 : decode cX5_mishap 35 = .ok (.iaload, 1) := by decide +kernel
theorem dX5_mishap_36 : decode cX5_mishap 36 = .ok (.ifCond .le 7, 3) := by decide +kernel
theorem dX5_mishap_39 : decode cX5_mishap 39 = .ok (.iconst 1, 1) := by decide +kernel
theorem dX5_mishap_40 : decode cX5_mishap 40 = .ok (.goto 4, 3) := by decide +kernel
theorem dX5_mishap_43 : decode cX5_mishap 43 = .ok (.iconst 0, 1) := by decide +kernel
theorem dX5_mishap_44 : decode cX5_mishap 44 = .ok (.invokevirtual 115, 3) := by decide +kernel
theorem dX5_mishap_47 : decode cX5_mishap 47 = .ok (.ifCond .ne 5, 3) := by decide +kernel
theorem dX5_mishap_50 : decode cX5_mishap 50 = .ok (.iconst 0, 1) := by decide +kernel
theorem dX5_mishap_51 : decode cX5_mishap 51 = .ok (.ireturn, 1) := by decide +kernel
theorem dX5_mishap_52 : decode cX5_mishap 52 = .ok (.aload_n 0, 1) := by decide +kernel
theorem dX5_mishap_53 : decode cX5_mishap 53 = .ok (.getfield 60, 3) := by decide +kernel
theorem dX5_mishap_56 : decode cX5_mishap 56 = .ok (.iconst 4, 1) := by decide +kernel
theorem dX5_mishap_57 : decode cX5_mishap 57 = .ok (.iload_n 1, 1) := by decide +kernel
theorem dX5_mishap_58 : decode cX5_mishap 58 = .ok (.imul, 1) := by decide +kernel
theorem dX5_mishap_59 : decode cX5_mishap 59 = .ok (.iload_n 2, 1) := by decide +kernel
theorem dX5_mishap_60 : decode cX5_mishap 60 = .ok (.iadd, 1) := by decide +kernel
theorem dX5_mishap_61 : decode cX5_mishap 61 = .ok (.dup2, 1) := by decide +kernel
theorem dX5_mishap_62 : decode cX5_mishap 62 = .ok (.iaload, 1) := by decide +kernel
theorem dX5_mishap_63 : decode cX5_mishap 63 = .ok (.iconst 1, 1) := by decide +kernel
theorem dX5_mishap_64 : decode cX5_mishap 64 = .ok (.isub, 1) := by decide +kernel
theorem dX5_mishap_65 : decode cX5_mishap 65 = .ok (.iastore, 1) := by decide +kernel
theorem dX5_mishap_66 : decode cX5_mishap 66 = .ok (.aload_n 0, 1) := by decide +kernel
theorem dX5_mishap_67 : decode cX5_mishap 67 = .ok (.getfield 60, 3) := by decide +kernel
theorem dX5_mishap_70 : decode cX5_mishap 70 = .ok (.iconst 4, 1) := by decide +kernel
theorem dX5_mishap_71 : decode cX5_mishap 71 = .ok (.iload_n 1, 1) := by decide +kernel
theorem dX5_mishap_72 : decode cX5_mishap 72 = .ok (.imul, 1) := by decide +kernel
theorem dX5_mishap_73 : decode cX5_mishap 73 = .ok (.iconst 3, 1) := by decide +kernel
theorem dX5_mishap_74 : decode cX5_mishap 74 = .ok (.iadd, 1) := by decide +kernel
theorem dX5_mishap_75 : decode cX5_mishap 75 = .ok (.dup2, 1) := by decide +kernel
theorem dX5_mishap_76 : decode cX5_mishap 76 = .ok (.iaload, 1) := by decide +kernel
theorem dX5_mishap_77 : decode cX5_mishap 77 = .ok (.iconst 1, 1) := by decide +kernel
theorem dX5_mishap_78 : decode cX5_mishap 78 = .ok (.iadd, 1) := by decide +kernel
theorem dX5_mishap_79 : decode cX5_mishap 79 = .ok (.iastore, 1) := by decide +kernel
theorem dX5_mishap_80 : decode cX5_mishap 80 = .ok (.aload_n 0, 1) := by decide +kernel
theorem dX5_mishap_81 : decode cX5_mishap 81 = .ok (.getfield 60, 3) := by decide +kernel
theorem dX5_mishap_84 : decode cX5_mishap 84 = .ok (.iconst 4, 1) := by decide +kernel
theorem dX5_mishap_85 : decode cX5_mishap 85 = .ok (.iload_n 1, 1) := by decide +kernel
theorem dX5_mishap_86 : decode cX5_mishap 86 = .ok (.imul, 1) := by decide +kernel
theorem dX5_mishap_87 : decode cX5_mishap 87 = .ok (.iconst 3, 1) := by decide +kernel
theorem dX5_mishap_88 : decode cX5_mishap 88 = .ok (.iadd, 1) := by decide +kernel
theorem dX5_mishap_89 : decode cX5_mishap 89 = .ok (.iaload, 1) := by decide +kernel
theorem dX5_mishap_90 : decode cX5_mishap 90 = .ok (.ireturn, 1) := by decide +kernel
theorem dX5_putsOff_0 : decode cX5_putsOff 0 = .ok (.aload_n 0, 1) := by decide +kernel
theorem dX5_putsOff_1 : decode cX5_putsOff 1 = .ok (.getfield 85, 3) := by decide +kernel
theorem dX5_putsOff_4 : decode cX5_putsOff 4 = .ok (.iconst 1, 1) := by decide +kernel
theorem dX5_putsOff_5 : decode cX5_putsOff 5 = .ok (.iadd, 1) := by decide +kernel
theorem dX5_putsOff_6 : decode cX5_putsOff 6 = .ok (.istore_n 2, 1) := by decide +kernel
theorem dX5_putsOff_7 : decode cX5_putsOff 7 = .ok (.iload_n 2, 1) := by decide +kernel
theorem dX5_putsOff_8 : decode cX5_putsOff 8 = .ok (.bipush 30, 2) := by decide +kernel
theorem dX5_putsOff_10 : decode cX5_putsOff 10 = .ok (.if_icmp .ge 19, 3) := by decide +kernel
theorem dX5_putsOff_13 : decode cX5_putsOff 13 = .ok (.aload_n 0, 1) := by decide +kernel
theorem dX5_putsOff_14 : decode cX5_putsOff 14 = .ok (.getfield 35, 3) := by decide +kernel
theorem dX5_putsOff_17 : decode cX5_putsOff 17 = .ok (.iload_n 2, 1) := by decide +kernel
theorem dX5_putsOff_18 : decode cX5_putsOff 18 = .ok (.iaload, 1) := by decide +kernel
theorem dX5_putsOff_19 : decode cX5_putsOff 19 = .ok (.iconst (-1), 1) := by decide +kernel
theorem dX5_putsOff_20 : decode cX5_putsOff 20 = .ok (.if_icmp .eq 9, 3) := by decide +kernel
theorem dX5_putsOff_23 : decode cX5_putsOff 23 = .ok (.iinc 2 1, 3) := by decide +kernel
theorem dX5_putsOff_26 : decode cX5_putsOff 26 = .ok (.goto (-19), 3) := by decide +kernel
theorem dX5_putsOff_29 : decode cX5_putsOff 29 = .ok (.iload_n 2, 1) := by decide +kernel
theorem dX5_putsOff_30 : decode cX5_putsOff 30 = .ok (.bipush 30, 2) := by decide +kernel
theorem dX5_putsOff_32 : decode cX5_putsOff 32 = .ok (.if_icmp .ge 12, 3) := by decide +kernel
theorem dX5_putsOff_35 : decode cX5_putsOff 35 = .ok (.aload_n 0, 1) := by decide +kernel
theorem dX5_putsOff_36 : decode cX5_putsOff 36 = .ok (.iload_n 1, 1) := by decide +kernel
theorem dX5_putsOff_37 : decode cX5_putsOff 37 = .ok (.iload_n 2, 1) := by decide +kernel
theorem dX5_putsOff_38 : decode cX5_putsOff 38 = .ok (.invokevirtual 119, 3) := by decide +kernel
theorem dX5_putsOff_41 : decode cX5_putsOff 41 = .ok (.goto 10, 3) := by decide +kernel
theorem dX5_putsOff_44 : decode cX5_putsOff 44 = .ok (.aload_n 0, 1) := by decide +kernel
theorem dX5_putsOff_45 : decode cX5_putsOff 45 = .ok (.getfield 20, 3) := by decide +kernel
theorem dX5_putsOff_48 : decode cX5_putsOff 48 = .ok (.iload_n 1, 1) := by decide +kernel
theorem dX5_putsOff_49 : decode cX5_putsOff 49 = .ok (.iconst 2, 1) := by decide +kernel
theorem dX5_putsOff_50 : decode cX5_putsOff 50 = .ok (.iastore, 1) := by decide +kernel
theorem dX5_putsOff_51 : decode cX5_putsOff 51 = .ok (.return_, 1) := by decide +kernel
theorem dX5_shoot_0 : decode cX5_shoot 0 = .ok (.aload_n 0, 1) := by decide +kernel
theorem dX5_shoot_1 : decode cX5_shoot 1 = .ok (.aload_n 0, 1) := by decide +kernel
theorem dX5_shoot_2 : decode cX5_shoot 2 = .ok (.getfield 85, 3) := by decide +kernel
theorem dX5_shoot_5 : decode cX5_shoot 5 = .ok (.bipush 30, 2) := by decide +kernel
theorem dX5_shoot_7 : decode cX5_shoot 7 = .ok (.if_icmp .ge 7, 3) := by decide +kernel
theorem dX5_shoot_10 : decode cX5_shoot 10 = .ok (.iconst 1, 1) := by decide +kernel
theorem dX5_shoot_11 : decode cX5_shoot 11 = .ok (.goto 4, 3) := by decide +kernel
theorem dX5_shoot_14 : decode cX5_shoot 14 = .ok (.iconst 0, 1) := by decide +kernel
theorem dX5_shoot_15 : decode cX5_shoot 15 = .ok (.iconst 1, 1) := by decide +kernel
theorem dX5_shoot_16 : decode cX5_shoot 16 = .ok (.iconst 1, 1) := by decide +kernel
theorem dX5_shoot_17 : decode cX5_shoot 17 = .ok (.invokevirtual 115, 3) := by decide +kernel
theorem dX5_shoot_20 : decode cX5_shoot 20 = .ok (.ifCond .ne 5, 3) := by decide +kernel
theorem dX5_shoot_23 : decode cX5_shoot 23 = .ok (.iconst 0, 1) := by decide +kernel
theorem dX5_shoot_24 : decode cX5_shoot 24 = .ok (.ireturn, 1) := by decide +kernel
theorem dX5_shoot_25 : decode cX5_shoot 25 = .ok (.aload_n 0, 1) := by decide +kernel
theorem dX5_shoot_26 : decode cX5_shoot 26 = .ok (.getfield 35, 3) := by decide +kernel
theorem dX5_shoot_29 : decode cX5_shoot 29 = .ok (.aload_n 0, 1) := by decide +kernel
theorem dX5_shoot_30 : decode cX5_shoot 30 = .ok (.getfield 85, 3) := by decide +kernel
theorem dX5_shoot_33 : decode cX5_shoot 33 = .ok (.iaload, 1) := by decide +kernel
theorem dX5_shoot_34 : decode cX5_shoot 34 = .ok (.istore_n 1, 1) := by decide +kernel
theorem dX5_shoot_35 : decode cX5_shoot 35 = .ok (.iload_n 1, 1) := by decide +kernel
theorem dX5_shoot_36 : decode cX5_shoot 36 = .ok (.iconst (-1), 1) := by decide +kernel
theorem dX5_shoot_37 : decode cX5_shoot 37 = .ok (.if_icmp .eq 19, 3) := by decide +kernel
theorem dX5_shoot_40 : decode cX5_shoot 40 = .ok (.aload_n 0, 1) := by decide +kernel
theorem dX5_shoot_41 : decode cX5_shoot 41 = .ok (.iload_n 1, 1) := by decide +kernel
theorem dX5_shoot_42 : decode cX5_shoot 42 = .ok (.aload_n 0, 1) := by decide +kernel
theorem dX5_shoot_43 : decode cX5_shoot 43 = .ok (.getfield 85, 3) := by decide +kernel
theorem dX5_shoot_46 : decode cX5_shoot 46 = .ok (.invokevirtual 104, 3) := by decide +kernel
theorem dX5_shoot_49 : decode cX5_shoot 49 = .ok (.ifCond .eq 7, 3) := by decide +kernel
theorem dX5_shoot_52 : decode cX5_shoot 52 = .ok (.iload_n 1, 1) := by decide +kernel
theorem dX5_shoot_53 : decode cX5_shoot 53 = .ok (.goto 4, 3) := by decide +kernel
theorem dX5_shoot_56 : decode cX5_shoot 56 = .ok (.iconst (-1), 1) := by decide +kernel
theorem dX5_shoot_57 : decode cX5_shoot 57 = .ok (.istore_n 2, 1) := by decide +kernel
theorem dX5_shoot_58 : decode cX5_shoot 58 = .ok (.aload_n 0, 1) := by decide +kernel
theorem dX5_shoot_59 : decode cX5_shoot 59 = .ok (.getfield 35, 3) := by decide +kernel
theorem dX5_shoot_62 : decode cX5_shoot 62 = .ok (.aload_n 0, 1) := by decide +kernel
theorem dX5_shoot_63 : decode cX5_shoot 63 = .ok (.getfield 85, 3) := by decide +kernel
theorem dX5_shoot_66 : decode cX5_shoot 66 = .ok (.iconst (-1), 1) := by decide +kernel
theorem dX5_shoot_67 : decode cX5_shoot 67 = .ok (.iastore, 1) := by decide +kernel
theorem dX5_shoot_68 : decode cX5_shoot 68 = .ok (.aload_n 0, 1) := by decide +kernel
theorem dX5_shoot_69 : decode cX5_shoot 69 = .ok (.invokevirtual 98, 3) := by decide +kernel
theorem dX5_shoot_72 : decode cX5_shoot 72 = .ok (.iload_n 2, 1) := by decide +kernel
theorem dX5_shoot_73 : decode cX5_shoot 73 = .ok (.iconst (-1), 1) := by decide +kernel
theorem dX5_shoot_74 : decode cX5_shoot 74 = .ok (.if_icmp .eq 41, 3) := by decide +kernel
theorem dX5_shoot_77 : decode cX5_shoot 77 = .ok (.aload_n 0, 1) := by decide +kernel
theorem dX5_shoot_78 : decode cX5_shoot 78 = .ok (.dup, 1) := by decide +kernel
theorem dX5_shoot_79 : decode cX5_shoot 79 = .ok (.getfield 159, 3) := by decide +kernel
theorem dX5_shoot_82 : decode cX5_shoot 82 = .ok (.aload_n 0, 1) := by decide +kernel
theorem dX5_shoot_83 : decode cX5_shoot 83 = .ok (.iload_n 1, 1) := by decide +kernel
theorem dX5_shoot_84 : decode cX5_shoot 84 = .ok (.aload_n 0, 1) := by decide +kernel
theorem dX5_shoot_85 : decode cX5_shoot 85 = .ok (.getfield 9, 3) := by decide +kernel
theorem dX5_shoot_88 : decode cX5_shoot 88 = .ok (.invokevirtual 101, 3) := by decide +kernel
theorem dX5_shoot_91 : decode cX5_shoot 91 = .ok (.iadd, 1) := by decide +kernel
theorem dX5_shoot_92 : decode cX5_shoot 92 = .ok (.putfield 159, 3) := by decide +kernel
theorem dX5_shoot_95 : decode cX5_shoot 95 = .ok (.aload_n 0, 1) := by decide +kernel
theorem dX5_shoot_96 : decode cX5_shoot 96 = .ok (.aload_n 0, 1) := by decide +kernel
theorem dX5_shoot_97 : decode cX5_shoot 97 = .ok (.getfield 13, 3) := by decide +kernel
theorem dX5_shoot_100 : decode cX5_shoot 100 = .ok (.iload_n 1, 1) := by decide +kernel
theorem dX5_shoot_101 : decode cX5_shoot 101 = .ok (.iaload, 1) := by decide +kernel
theorem dX5_shoot_102 : decode cX5_shoot 102 = .ok (.putfield 9, 3) := by decide +kernel
theorem dX5_shoot_105 : decode cX5_shoot 105 = .ok (.aload_n 0, 1) := by decide +kernel
theorem dX5_shoot_106 : decode cX5_shoot 106 = .ok (.getfield 20, 3) := by decide +kernel
theorem dX5_shoot_109 : decode cX5_shoot 109 = .ok (.iload_n 1, 1) := by decide +kernel
theorem dX5_shoot_110 : decode cX5_shoot 110 = .ok (.iconst 1, 1) := by decide +kernel
theorem dX5_shoot_111 : decode cX5_shoot 111 = .ok (.iastore, 1) := by decide +kernel
theorem dX5_shoot_112 : decode cX5_shoot 112 = .ok (.goto 13, 3) := by decide +kernel
theorem dX5_shoot_115 : decode cX5_shoot 115 = .ok (.iload_n 1, 1) := by decide +kernel
theorem dX5_shoot_116 : decode cX5_shoot 116 = .ok (.iconst (-1), 1) := by decide +kernel
theorem dX5_shoot_117 : decode cX5_shoot 117 = .ok (.if_icmp .eq 8, 3) := by decide +kernel
theorem dX5_shoot_120 : decode cX5_shoot 120 = .ok (.aload_n 0, 1) := by decide +kernel
theorem dX5_shoot_121 : decode cX5_shoot 121 = .ok (.iload_n 1, 1) := by decide +kernel
theorem dX5_shoot_122 : decode cX5_shoot 122 = .ok (.invokevirtual 165, 3) := by decide +kernel
theorem dX5_shoot_125 : decode cX5_shoot 125 = .ok (.aload_n 0, 1) := by decide +kernel
theorem dX5_shoot_126 : decode cX5_shoot 126 = .ok (.invokevirtual 108, 3) := by decide +kernel
theorem dX5_shoot_129 : decode cX5_shoot 129 = .ok (.aload_n 0, 1) := by decide +kernel
theorem dX5_shoot_130 : decode cX5_shoot 130 = .ok (.invokevirtual 169, 3) := by decide +kernel
theorem dX5_shoot_133 : decode cX5_shoot 133 = .ok (.aload_n 0, 1) := by decide +kernel
theorem dX5_shoot_134 : decode cX5_shoot 134 = .ok (.dup, 1) := by decide +kernel
theorem dX5_shoot_135 : decode cX5_shoot 135 = .ok (.getfield 85, 3) := by decide +kernel
theorem dX5_shoot_138 : decode cX5_shoot 138 = .ok (.iconst 1, 1) := by decide +kernel
theorem dX5_shoot_139 : decode cX5_shoot 139 = .ok (.iadd, 1) := by decide +kernel
theorem dX5_shoot_140 : decode cX5_shoot 140 = .ok (.putfield 85, 3) := by decide +kernel
theorem dX5_shoot_143 : decode cX5_shoot 143 = .ok (.iload_n 2, 1) := by decide +kernel
theorem dX5_shoot_144 : decode cX5_shoot 144 = .ok (.ireturn, 1) := by decide +kernel
theorem dX5_isRefused_0 : decode cX5_isRefused 0 = .ok (.aload_n 0, 1) := by decide +kernel
theorem dX5_isRefused_1 : decode cX5_isRefused 1 = .ok (.getfield 35, 3) := by decide +kernel
theorem dX5_isRefused_4 : decode cX5_isRefused 4 = .ok (.iload_n 1, 1) := by decide +kernel
theorem dX5_isRefused_5 : decode cX5_isRefused 5 = .ok (.iaload, 1) := by decide +kernel
theorem dX5_isRefused_6 : decode cX5_isRefused 6 = .ok (.iconst (-1), 1) := by decide +kernel
theorem dX5_isRefused_7 : decode cX5_isRefused 7 = .ok (.if_icmp .eq 21, 3) := by decide +kernel
theorem dX5_isRefused_10 : decode cX5_isRefused 10 = .ok (.aload_n 0, 1) := by decide +kernel
theorem dX5_isRefused_11 : decode cX5_isRefused 11 = .ok (.aload_n 0, 1) := by decide +kernel
theorem dX5_isRefused_12 : decode cX5_isRefused 12 = .ok (.getfield 35, 3) := by decide +kernel
theorem dX5_isRefused_15 : decode cX5_isRefused 15 = .ok (.iload_n 1, 1) := by decide +kernel
theorem dX5_isRefused_16 : decode cX5_isRefused 16 = .ok (.iaload, 1) := by decide +kernel
theorem dX5_isRefused_17 : decode cX5_isRefused 17 = .ok (.iload_n 1, 1) := by decide +kernel
theorem dX5_isRefused_18 : decode cX5_isRefused 18 = .ok (.invokevirtual 104, 3) := by decide +kernel
theorem dX5_isRefused_21 : decode cX5_isRefused 21 = .ok (.ifCond .ne 7, 3) := by decide +kernel
theorem dX5_isRefused_24 : decode cX5_isRefused 24 = .ok (.iconst 1, 1) := by decide +kernel
theorem dX5_isRefused_25 : decode cX5_isRefused 25 = .ok (.goto 4, 3) := by decide +kernel
theorem dX5_isRefused_28 : decode cX5_isRefused 28 = .ok (.iconst 0, 1) := by decide +kernel
theorem dX5_isRefused_29 : decode cX5_isRefused 29 = .ok (.ireturn, 1) := by decide +kernel
theorem dX5_bestFor_0 : decode cX5_bestFor 0 = .ok (.iconst (-1), 1) := by decide +kernel
theorem dX5_bestFor_1 : decode cX5_bestFor 1 = .ok (.istore_n 2, 1) := by decide +kernel
theorem dX5_bestFor_2 : decode cX5_bestFor 2 = .ok (.iconst 0, 1) := by decide +kernel
theorem dX5_bestFor_3 : decode cX5_bestFor 3 = .ok (.istore_n 3, 1) := by decide +kernel
theorem dX5_bestFor_4 : decode cX5_bestFor 4 = .ok (.aload_n 0, 1) := by decide +kernel
theorem dX5_bestFor_5 : decode cX5_bestFor 5 = .ok (.getfield 85, 3) := by decide +kernel
theorem dX5_bestFor_8 : decode cX5_bestFor 8 = .ok (.istore 4, 2) := by decide +kernel
theorem dX5_bestFor_10 : decode cX5_bestFor 10 = .ok (.iload 4, 2) := by decide +kernel
theorem dX5_bestFor_12 : decode cX5_bestFor 12 = .ok (.bipush 30, 2) := by decide +kernel
theorem dX5_bestFor_14 : decode cX5_bestFor 14 = .ok (.if_icmp .ge 94, 3) := by decide +kernel
theorem dX5_bestFor_17 : decode cX5_bestFor 17 = .ok (.iload 4, 2) := by decide +kernel
theorem dX5_bestFor_19 : decode cX5_bestFor 19 = .ok (.iload_n 1, 1) := by decide +kernel
theorem dX5_bestFor_20 : decode cX5_bestFor 20 = .ok (.if_icmp .eq 82, 3) := by decide +kernel
theorem dX5_bestFor_23 : decode cX5_bestFor 23 = .ok (.aload_n 0, 1) := by decide +kernel
theorem dX5_bestFor_24 : decode cX5_bestFor 24 = .ok (.iload_n 1, 1) := by decide +kernel
theorem dX5_bestFor_25 : decode cX5_bestFor 25 = .ok (.iload 4, 2) := by decide +kernel
theorem dX5_bestFor_27 : decode cX5_bestFor 27 = .ok (.invokevirtual 143, 3) := by decide +kernel
theorem dX5_bestFor_30 : decode cX5_bestFor 30 = .ok (.aload_n 0, 1) := by decide +kernel
theorem dX5_bestFor_31 : decode cX5_bestFor 31 = .ok (.invokevirtual 146, 3) := by decide +kernel
theorem dX5_bestFor_34 : decode cX5_bestFor 34 = .ok (.istore 5, 2) := by decide +kernel
theorem dX5_bestFor_36 : decode cX5_bestFor 36 = .ok (.aload_n 0, 1) := by decide +kernel
theorem dX5_bestFor_37 : decode cX5_bestFor 37 = .ok (.iload_n 1, 1) := by decide +kernel
theorem dX5_bestFor_38 : decode cX5_bestFor 38 = .ok (.invokevirtual 172, 3) := by decide +kernel
theorem dX5_bestFor_41 : decode cX5_bestFor 41 = .ok (.ifCond .ne 27, 3) := by decide +kernel
theorem dX5_bestFor_44 : decode cX5_bestFor 44 = .ok (.aload_n 0, 1) := by decide +kernel
theorem dX5_bestFor_45 : decode cX5_bestFor 45 = .ok (.iload 4, 2) := by decide +kernel
theorem dX5_bestFor_47 : decode cX5_bestFor 47 = .ok (.invokevirtual 172, 3) := by decide +kernel
theorem dX5_bestFor_50 : decode cX5_bestFor 50 = .ok (.ifCond .ne 18, 3) := by decide +kernel
theorem dX5_bestFor_53 : decode cX5_bestFor 53 = .ok (.iload_n 2, 1) := by decide +kernel
theorem dX5_bestFor_54 : decode cX5_bestFor 54 = .ok (.iconst (-1), 1) := by decide +kernel
theorem dX5_bestFor_55 : decode cX5_bestFor 55 = .ok (.if_icmp .eq 9, 3) := by decide +kernel
theorem dX5_bestFor_58 : decode cX5_bestFor 58 = .ok (.iload 5, 2) := by decide +kernel
theorem dX5_bestFor_60 : decode cX5_bestFor 60 = .ok (.iload_n 3, 1) := by decide +kernel
theorem dX5_bestFor_61 : decode cX5_bestFor 61 = .ok (.if_icmp .ge 7, 3) := by decide +kernel
theorem dX5_bestFor_64 : decode cX5_bestFor 64 = .ok (.iconst 1, 1) := by decide +kernel
theorem dX5_bestFor_65 : decode cX5_bestFor 65 = .ok (.goto 4, 3) := by decide +kernel
theorem dX5_bestFor_68 : decode cX5_bestFor 68 = .ok (.iconst 0, 1) := by decide +kernel
theorem dX5_bestFor_69 : decode cX5_bestFor 69 = .ok (.istore 6, 2) := by decide +kernel
theorem dX5_bestFor_71 : decode cX5_bestFor 71 = .ok (.iload 6, 2) := by decide +kernel
theorem dX5_bestFor_73 : decode cX5_bestFor 73 = .ok (.ifCond .eq 8, 3) := by decide +kernel
theorem dX5_bestFor_76 : decode cX5_bestFor 76 = .ok (.iload 4, 2) := by decide +kernel
theorem dX5_bestFor_78 : decode cX5_bestFor 78 = .ok (.goto 4, 3) := by decide +kernel
theorem dX5_bestFor_81 : decode cX5_bestFor 81 = .ok (.iload_n 2, 1) := by decide +kernel
theorem dX5_bestFor_82 : decode cX5_bestFor 82 = .ok (.istore_n 2, 1) := by decide +kernel
theorem dX5_bestFor_83 : decode cX5_bestFor 83 = .ok (.iload 6, 2) := by decide +kernel
theorem dX5_bestFor_85 : decode cX5_bestFor 85 = .ok (.ifCond .eq 8, 3) := by decide +kernel
theorem dX5_bestFor_88 : decode cX5_bestFor 88 = .ok (.iload 5, 2) := by decide +kernel
theorem dX5_bestFor_90 : decode cX5_bestFor 90 = .ok (.goto 4, 3) := by decide +kernel
theorem dX5_bestFor_93 : decode cX5_bestFor 93 = .ok (.iload_n 3, 1) := by decide +kernel
theorem dX5_bestFor_94 : decode cX5_bestFor 94 = .ok (.istore_n 3, 1) := by decide +kernel
theorem dX5_bestFor_95 : decode cX5_bestFor 95 = .ok (.aload_n 0, 1) := by decide +kernel
theorem dX5_bestFor_96 : decode cX5_bestFor 96 = .ok (.iload_n 1, 1) := by decide +kernel
theorem dX5_bestFor_97 : decode cX5_bestFor 97 = .ok (.iload 4, 2) := by decide +kernel
theorem dX5_bestFor_99 : decode cX5_bestFor 99 = .ok (.invokevirtual 143, 3) := by decide +kernel
theorem dX5_bestFor_102 : decode cX5_bestFor 102 = .ok (.iinc 4 1, 3) := by decide +kernel
theorem dX5_bestFor_105 : decode cX5_bestFor 105 = .ok (.goto (-95), 3) := by decide +kernel
theorem dX5_bestFor_108 : decode cX5_bestFor 108 = .ok (.iload_n 2, 1) := by decide +kernel
theorem dX5_bestFor_109 : decode cX5_bestFor 109 = .ok (.ireturn, 1) := by decide +kernel
theorem dX5_mend_0 : decode cX5_mend 0 = .ok (.iconst 0, 1) := by decide +kernel
theorem dX5_mend_1 : decode cX5_mend 1 = .ok (.istore_n 1, 1) := by decide +kernel
theorem dX5_mend_2 : decode cX5_mend 2 = .ok (.aload_n 0, 1) := by decide +kernel
theorem dX5_mend_3 : decode cX5_mend 3 = .ok (.getfield 85, 3) := by decide +kernel
theorem dX5_mend_6 : decode cX5_mend 6 = .ok (.istore_n 2, 1) := by decide +kernel
theorem dX5_mend_7 : decode cX5_mend 7 = .ok (.iload_n 2, 1) := by decide +kernel
theorem dX5_mend_8 : decode cX5_mend 8 = .ok (.bipush 30, 2) := by decide +kernel
theorem dX5_mend_10 : decode cX5_mend 10 = .ok (.if_icmp .ge 41, 3) := by decide +kernel
theorem dX5_mend_13 : decode cX5_mend 13 = .ok (.aload_n 0, 1) := by decide +kernel
theorem dX5_mend_14 : decode cX5_mend 14 = .ok (.iload_n 2, 1) := by decide +kernel
theorem dX5_mend_15 : decode cX5_mend 15 = .ok (.invokevirtual 172, 3) := by decide +kernel
theorem dX5_mend_18 : decode cX5_mend 18 = .ok (.ifCond .eq 11, 3) := by decide +kernel
theorem dX5_mend_21 : decode cX5_mend 21 = .ok (.aload_n 0, 1) := by decide +kernel
theorem dX5_mend_22 : decode cX5_mend 22 = .ok (.iload_n 2, 1) := by decide +kernel
theorem dX5_mend_23 : decode cX5_mend 23 = .ok (.invokevirtual 175, 3) := by decide +kernel
theorem dX5_mend_26 : decode cX5_mend 26 = .ok (.goto 4, 3) := by decide +kernel
theorem dX5_mend_29 : decode cX5_mend 29 = .ok (.iconst (-1), 1) := by decide +kernel
theorem dX5_mend_30 : decode cX5_mend 30 = .ok (.istore_n 3, 1) := by decide +kernel
theorem dX5_mend_31 : decode cX5_mend 31 = .ok (.iload_n 3, 1) := by decide +kernel
theorem dX5_mend_32 : decode cX5_mend 32 = .ok (.iconst (-1), 1) := by decide +kernel
theorem dX5_mend_33 : decode cX5_mend 33 = .ok (.if_icmp .eq 12, 3) := by decide +kernel
theorem dX5_mend_36 : decode cX5_mend 36 = .ok (.aload_n 0, 1) := by decide +kernel
theorem dX5_mend_37 : decode cX5_mend 37 = .ok (.iload_n 2, 1) := by decide +kernel
theorem dX5_mend_38 : decode cX5_mend 38 = .ok (.iload_n 3, 1) := by decide +kernel
theorem dX5_mend_39 : decode cX5_mend 39 = .ok (.invokevirtual 143, 3) := by decide +kernel
theorem dX5_mend_42 : decode cX5_mend 42 = .ok (.iinc 1 1, 3) := by decide +kernel
theorem dX5_mend_45 : decode cX5_mend 45 = .ok (.iinc 2 1, 3) := by decide +kernel
theorem dX5_mend_48 : decode cX5_mend 48 = .ok (.goto (-41), 3) := by decide +kernel
theorem dX5_mend_51 : decode cX5_mend 51 = .ok (.aload_n 0, 1) := by decide +kernel
theorem dX5_mend_52 : decode cX5_mend 52 = .ok (.iload_n 1, 1) := by decide +kernel
theorem dX5_mend_53 : decode cX5_mend 53 = .ok (.invokevirtual 162, 3) := by decide +kernel
theorem dX5_mend_56 : decode cX5_mend 56 = .ok (.ireturn, 1) := by decide +kernel
theorem dX5_bestSwap_0 : decode cX5_bestSwap 0 = .ok (.aload_n 0, 1) := by decide +kernel
theorem dX5_bestSwap_1 : decode cX5_bestSwap 1 = .ok (.invokevirtual 146, 3) := by decide +kernel
theorem dX5_bestSwap_4 : decode cX5_bestSwap 4 = .ok (.istore_n 1, 1) := by decide +kernel
theorem dX5_bestSwap_5 : decode cX5_bestSwap 5 = .ok (.iconst (-1), 1) := by decide +kernel
theorem dX5_bestSwap_6 : decode cX5_bestSwap 6 = .ok (.istore_n 2, 1) := by decide +kernel
theorem dX5_bestSwap_7 : decode cX5_bestSwap 7 = .ok (.aload_n 0, 1) := by decide +kernel
theorem dX5_bestSwap_8 : decode cX5_bestSwap 8 = .ok (.getfield 85, 3) := by decide +kernel
theorem dX5_bestSwap_11 : decode cX5_bestSwap 11 = .ok (.istore_n 3, 1) := by decide +kernel
theorem dX5_bestSwap_12 : decode cX5_bestSwap 12 = .ok (.iload_n 3, 1) := by decide +kernel
theorem dX5_bestSwap_13 : decode cX5_bestSwap 13 = .ok (.bipush 30, 2) := by decide +kernel
theorem dX5_bestSwap_15 : decode cX5_bestSwap 15 = .ok (.if_icmp .ge 94, 3) := by decide +kernel
theorem dX5_bestSwap_18 : decode cX5_bestSwap 18 = .ok (.iload_n 3, 1) := by decide +kernel
theorem dX5_bestSwap_19 : decode cX5_bestSwap 19 = .ok (.iconst 1, 1) := by decide +kernel
theorem dX5_bestSwap_20 : decode cX5_bestSwap 20 = .ok (.iadd, 1) := by decide +kernel
theorem dX5_bestSwap_21 : decode cX5_bestSwap 21 = .ok (.istore 4, 2) := by decide +kernel
theorem dX5_bestSwap_23 : decode cX5_bestSwap 23 = .ok (.iload 4, 2) := by decide +kernel
theorem dX5_bestSwap_25 : decode cX5_bestSwap 25 = .ok (.bipush 30, 2) := by decide +kernel
theorem dX5_bestSwap_27 : decode cX5_bestSwap 27 = .ok (.if_icmp .ge 76, 3) := by decide +kernel
theorem dX5_bestSwap_30 : decode cX5_bestSwap 30 = .ok (.aload_n 0, 1) := by decide +kernel
theorem dX5_bestSwap_31 : decode cX5_bestSwap 31 = .ok (.getfield 35, 3) := by decide +kernel
theorem dX5_bestSwap_34 : decode cX5_bestSwap 34 = .ok (.iload_n 3, 1) := by decide +kernel
theorem dX5_bestSwap_35 : decode cX5_bestSwap 35 = .ok (.iaload, 1) := by decide +kernel
theorem dX5_bestSwap_36 : decode cX5_bestSwap 36 = .ok (.aload_n 0, 1) := by decide +kernel
theorem dX5_bestSwap_37 : decode cX5_bestSwap 37 = .ok (.getfield 35, 3) := by decide +kernel
theorem dX5_bestSwap_40 : decode cX5_bestSwap 40 = .ok (.iload 4, 2) := by decide +kernel
theorem dX5_bestSwap_42 : decode cX5_bestSwap 42 = .ok (.iaload, 1) := by decide +kernel
theorem dX5_bestSwap_43 : decode cX5_bestSwap 43 = .ok (.if_icmp .eq 54, 3) := by decide +kernel
theorem dX5_bestSwap_46 : decode cX5_bestSwap 46 = .ok (.aload_n 0, 1) := by decide +kernel
theorem dX5_bestSwap_47 : decode cX5_bestSwap 47 = .ok (.iload_n 3, 1) := by decide +kernel
theorem dX5_bestSwap_48 : decode cX5_bestSwap 48 = .ok (.iload 4, 2) := by decide +kernel
theorem dX5_bestSwap_50 : decode cX5_bestSwap 50 = .ok (.invokevirtual 143, 3) := by decide +kernel
theorem dX5_bestSwap_53 : decode cX5_bestSwap 53 = .ok (.aload_n 0, 1) := by decide +kernel
theorem dX5_bestSwap_54 : decode cX5_bestSwap 54 = .ok (.invokevirtual 146, 3) := by decide +kernel
theorem dX5_bestSwap_57 : decode cX5_bestSwap 57 = .ok (.istore 5, 2) := by decide +kernel
theorem dX5_bestSwap_59 : decode cX5_bestSwap 59 = .ok (.iload 5, 2) := by decide +kernel
theorem dX5_bestSwap_61 : decode cX5_bestSwap 61 = .ok (.iload_n 1, 1) := by decide +kernel
theorem dX5_bestSwap_62 : decode cX5_bestSwap 62 = .ok (.if_icmp .ge 13, 3) := by decide +kernel
theorem dX5_bestSwap_65 : decode cX5_bestSwap 65 = .ok (.bipush 30, 2) := by decide +kernel
theorem dX5_bestSwap_67 : decode cX5_bestSwap 67 = .ok (.iload_n 3, 1) := by decide +kernel
theorem dX5_bestSwap_68 : decode cX5_bestSwap 68 = .ok (.imul, 1) := by decide +kernel
theorem dX5_bestSwap_69 : decode cX5_bestSwap 69 = .ok (.iload 4, 2) := by decide +kernel
theorem dX5_bestSwap_71 : decode cX5_bestSwap 71 = .ok (.iadd, 1) := by decide +kernel
theorem dX5_bestSwap_72 : decode cX5_bestSwap 72 = .ok (.goto 4, 3) := by decide +kernel
theorem dX5_bestSwap_75 : decode cX5_bestSwap 75 = .ok (.iload_n 2, 1) := by decide +kernel
theorem dX5_bestSwap_76 : decode cX5_bestSwap 76 = .ok (.istore_n 2, 1) := by decide +kernel
theorem dX5_bestSwap_77 : decode cX5_bestSwap 77 = .ok (.iload 5, 2) := by decide +kernel
theorem dX5_bestSwap_79 : decode cX5_bestSwap 79 = .ok (.iload_n 1, 1) := by decide +kernel
theorem dX5_bestSwap_80 : decode cX5_bestSwap 80 = .ok (.if_icmp .ge 8, 3) := by decide +kernel
theorem dX5_bestSwap_83 : decode cX5_bestSwap 83 = .ok (.iload 5, 2) := by decide +kernel
theorem dX5_bestSwap_85 : decode cX5_bestSwap 85 = .ok (.goto 4, 3) := by decide +kernel
theorem dX5_bestSwap_88 : decode cX5_bestSwap 88 = .ok (.iload_n 1, 1) := by decide +kernel
theorem dX5_bestSwap_89 : decode cX5_bestSwap 89 = .ok (.istore_n 1, 1) := by decide +kernel
theorem dX5_bestSwap_90 : decode cX5_bestSwap 90 = .ok (.aload_n 0, 1) := by decide +kernel
theorem dX5_bestSwap_91 : decode cX5_bestSwap 91 = .ok (.iload_n 3, 1) := by decide +kernel
theorem dX5_bestSwap_92 : decode cX5_bestSwap 92 = .ok (.iload 4, 2) := by decide +kernel
theorem dX5_bestSwap_94 : decode cX5_bestSwap 94 = .ok (.invokevirtual 143, 3) := by decide +kernel
theorem dX5_bestSwap_97 : decode cX5_bestSwap 97 = .ok (.iinc 4 1, 3) := by decide +kernel
theorem dX5_bestSwap_100 : decode cX5_bestSwap 100 = .ok (.goto (-77), 3) := by decide +kernel
theorem dX5_bestSwap_103 : decode cX5_bestSwap 103 = .ok (.iinc 3 1, 3) := by decide +kernel
theorem dX5_bestSwap_106 : decode cX5_bestSwap 106 = .ok (.goto (-94), 3) := by decide +kernel
theorem dX5_bestSwap_109 : decode cX5_bestSwap 109 = .ok (.iload_n 2, 1) := by decide +kernel
theorem dX5_bestSwap_110 : decode cX5_bestSwap 110 = .ok (.ireturn, 1) := by decide +kernel
theorem dX5_better_0 : decode cX5_better 0 = .ok (.iconst 0, 1) := by decide +kernel
theorem dX5_better_1 : decode cX5_better 1 = .ok (.istore_n 1, 1) := by decide +kernel
theorem dX5_better_2 : decode cX5_better 2 = .ok (.aload_n 0, 1) := by decide +kernel
theorem dX5_better_3 : decode cX5_better 3 = .ok (.invokevirtual 178, 3) := by decide +kernel
theorem dX5_better_6 : decode cX5_better 6 = .ok (.istore_n 2, 1) := by decide +kernel
theorem dX5_better_7 : decode cX5_better 7 = .ok (.iload_n 2, 1) := by decide +kernel
theorem dX5_better_8 : decode cX5_better 8 = .ok (.iconst (-1), 1) := by decide +kernel
theorem dX5_better_9 : decode cX5_better 9 = .ok (.if_icmp .eq 26, 3) := by decide +kernel
theorem dX5_better_12 : decode cX5_better 12 = .ok (.aload_n 0, 1) := by decide +kernel
theorem dX5_better_13 : decode cX5_better 13 = .ok (.iload_n 2, 1) := by decide +kernel
theorem dX5_better_14 : decode cX5_better 14 = .ok (.bipush 30, 2) := by decide +kernel
theorem dX5_better_16 : decode cX5_better 16 = .ok (.idiv, 1) := by decide +kernel
theorem dX5_better_17 : decode cX5_better 17 = .ok (.iload_n 2, 1) := by decide +kernel
theorem dX5_better_18 : decode cX5_better 18 = .ok (.bipush 30, 2) := by decide +kernel
theorem dX5_better_20 : decode cX5_better 20 = .ok (.irem, 1) := by decide +kernel
theorem dX5_better_21 : decode cX5_better 21 = .ok (.invokevirtual 143, 3) := by decide +kernel
theorem dX5_better_24 : decode cX5_better 24 = .ok (.iinc 1 1, 3) := by decide +kernel
theorem dX5_better_27 : decode cX5_better 27 = .ok (.aload_n 0, 1) := by decide +kernel
theorem dX5_better_28 : decode cX5_better 28 = .ok (.invokevirtual 178, 3) := by decide +kernel
theorem dX5_better_31 : decode cX5_better 31 = .ok (.istore_n 2, 1) := by decide +kernel
theorem dX5_better_32 : decode cX5_better 32 = .ok (.goto (-25), 3) := by decide +kernel
theorem dX5_better_35 : decode cX5_better 35 = .ok (.aload_n 0, 1) := by decide +kernel
theorem dX5_better_36 : decode cX5_better 36 = .ok (.iload_n 1, 1) := by decide +kernel
theorem dX5_better_37 : decode cX5_better 37 = .ok (.invokevirtual 162, 3) := by decide +kernel
theorem dX5_better_40 : decode cX5_better 40 = .ok (.ireturn, 1) := by decide +kernel
theorem dX5_planned_0 : decode cX5_planned 0 = .ok (.iconst 0, 1) := by decide +kernel
theorem dX5_planned_1 : decode cX5_planned 1 = .ok (.istore_n 1, 1) := by decide +kernel
theorem dX5_planned_2 : decode cX5_planned 2 = .ok (.aload_n 0, 1) := by decide +kernel
theorem dX5_planned_3 : decode cX5_planned 3 = .ok (.getfield 85, 3) := by decide +kernel
theorem dX5_planned_6 : decode cX5_planned 6 = .ok (.istore_n 2, 1) := by decide +kernel
theorem dX5_planned_7 : decode cX5_planned 7 = .ok (.iload_n 2, 1) := by decide +kernel
theorem dX5_planned_8 : decode cX5_planned 8 = .ok (.bipush 30, 2) := by decide +kernel
theorem dX5_planned_10 : decode cX5_planned 10 = .ok (.if_icmp .ge 41, 3) := by decide +kernel
theorem dX5_planned_13 : decode cX5_planned 13 = .ok (.aload_n 0, 1) := by decide +kernel
theorem dX5_planned_14 : decode cX5_planned 14 = .ok (.getfield 35, 3) := by decide +kernel
theorem dX5_planned_17 : decode cX5_planned 17 = .ok (.iload_n 2, 1) := by decide +kernel
theorem dX5_planned_18 : decode cX5_planned 18 = .ok (.iaload, 1) := by decide +kernel
theorem dX5_planned_19 : decode cX5_planned 19 = .ok (.iconst (-1), 1) := by decide +kernel
theorem dX5_planned_20 : decode cX5_planned 20 = .ok (.if_icmp .eq 25, 3) := by decide +kernel
theorem dX5_planned_23 : decode cX5_planned 23 = .ok (.aload_n 0, 1) := by decide +kernel
theorem dX5_planned_24 : decode cX5_planned 24 = .ok (.getfield 69, 3) := by decide +kernel
theorem dX5_planned_27 : decode cX5_planned 27 = .ok (.iload_n 1, 1) := by decide +kernel
theorem dX5_planned_28 : decode cX5_planned 28 = .ok (.iload_n 2, 1) := by decide +kernel
theorem dX5_planned_29 : decode cX5_planned 29 = .ok (.iastore, 1) := by decide +kernel
theorem dX5_planned_30 : decode cX5_planned 30 = .ok (.aload_n 0, 1) := by decide +kernel
theorem dX5_planned_31 : decode cX5_planned 31 = .ok (.getfield 72, 3) := by decide +kernel
theorem dX5_planned_34 : decode cX5_planned 34 = .ok (.iload_n 1, 1) := by decide +kernel
theorem dX5_planned_35 : decode cX5_planned 35 = .ok (.aload_n 0, 1) := by decide +kernel
theorem dX5_planned_36 : decode cX5_planned 36 = .ok (.getfield 35, 3) := by decide +kernel
theorem dX5_planned_39 : decode cX5_planned 39 = .ok (.iload_n 2, 1) := by decide +kernel
theorem dX5_planned_40 : decode cX5_planned 40 = .ok (.iaload, 1) := by decide +kernel
theorem dX5_planned_41 : decode cX5_planned 41 = .ok (.iastore, 1) := by decide +kernel
theorem dX5_planned_42 : decode cX5_planned 42 = .ok (.iinc 1 1, 3) := by decide +kernel
theorem dX5_planned_45 : decode cX5_planned 45 = .ok (.iinc 2 1, 3) := by decide +kernel
theorem dX5_planned_48 : decode cX5_planned 48 = .ok (.goto (-41), 3) := by decide +kernel
theorem dX5_planned_51 : decode cX5_planned 51 = .ok (.iload_n 1, 1) := by decide +kernel
theorem dX5_planned_52 : decode cX5_planned 52 = .ok (.ireturn, 1) := by decide +kernel
theorem dX5_orders_0 : decode cX5_orders 0 = .ok (.iload_n 2, 1) := by decide +kernel
theorem dX5_orders_1 : decode cX5_orders 1 = .ok (.istore_n 3, 1) := by decide +kernel
theorem dX5_orders_2 : decode cX5_orders 2 = .ok (.iconst 1, 1) := by decide +kernel
theorem dX5_orders_3 : decode cX5_orders 3 = .ok (.iload_n 1, 1) := by decide +kernel
theorem dX5_orders_4 : decode cX5_orders 4 = .ok (.ishl, 1) := by decide +kernel
theorem dX5_orders_5 : decode cX5_orders 5 = .ok (.iconst 1, 1) := by decide +kernel
theorem dX5_orders_6 : decode cX5_orders 6 = .ok (.isub, 1) := by decide +kernel
theorem dX5_orders_7 : decode cX5_orders 7 = .ok (.istore 4, 2) := by decide +kernel
theorem dX5_orders_9 : decode cX5_orders 9 = .ok (.iconst 0, 1) := by decide +kernel
theorem dX5_orders_10 : decode cX5_orders 10 = .ok (.istore 5, 2) := by decide +kernel
theorem dX5_orders_12 : decode cX5_orders 12 = .ok (.iload 5, 2) := by decide +kernel
theorem dX5_orders_14 : decode cX5_orders 14 = .ok (.iload_n 1, 1) := by decide +kernel
theorem dX5_orders_15 : decode cX5_orders 15 = .ok (.if_icmp .ge 90, 3) := by decide +kernel
theorem dX5_orders_18 : decode cX5_orders 18 = .ok (.iload_n 3, 1) := by decide +kernel
theorem dX5_orders_19 : decode cX5_orders 19 = .ok (.iload_n 1, 1) := by decide +kernel
theorem dX5_orders_20 : decode cX5_orders 20 = .ok (.iload 5, 2) := by decide +kernel
theorem dX5_orders_22 : decode cX5_orders 22 = .ok (.isub, 1) := by decide +kernel
theorem dX5_orders_23 : decode cX5_orders 23 = .ok (.irem, 1) := by decide +kernel
theorem dX5_orders_24 : decode cX5_orders 24 = .ok (.istore 6, 2) := by decide +kernel
theorem dX5_orders_26 : decode cX5_orders 26 = .ok (.iload_n 3, 1) := by decide +kernel
theorem dX5_orders_27 : decode cX5_orders 27 = .ok (.iload_n 1, 1) := by decide +kernel
theorem dX5_orders_28 : decode cX5_orders 28 = .ok (.iload 5, 2) := by decide +kernel
theorem dX5_orders_30 : decode cX5_orders 30 = .ok (.isub, 1) := by decide +kernel
theorem dX5_orders_31 : decode cX5_orders 31 = .ok (.idiv, 1) := by decide +kernel
theorem dX5_orders_32 : decode cX5_orders 32 = .ok (.istore_n 3, 1) := by decide +kernel
theorem dX5_orders_33 : decode cX5_orders 33 = .ok (.iconst 0, 1) := by decide +kernel
theorem dX5_orders_34 : decode cX5_orders 34 = .ok (.istore 7, 2) := by decide +kernel
theorem dX5_orders_36 : decode cX5_orders 36 = .ok (.iload 4, 2) := by decide +kernel
theorem dX5_orders_38 : decode cX5_orders 38 = .ok (.iload 7, 2) := by decide +kernel
theorem dX5_orders_40 : decode cX5_orders 40 = .ok (.ishr, 1) := by decide +kernel
theorem dX5_orders_41 : decode cX5_orders 41 = .ok (.iconst 1, 1) := by decide +kernel
theorem dX5_orders_42 : decode cX5_orders 42 = .ok (.iand, 1) := by decide +kernel
theorem dX5_orders_43 : decode cX5_orders 43 = .ok (.ifCond .eq 8, 3) := by decide +kernel
theorem dX5_orders_46 : decode cX5_orders 46 = .ok (.iload 6, 2) := by decide +kernel
theorem dX5_orders_48 : decode cX5_orders 48 = .ok (.ifCond .le 21, 3) := by decide +kernel
theorem dX5_orders_51 : decode cX5_orders 51 = .ok (.iload 6, 2) := by decide +kernel
theorem dX5_orders_53 : decode cX5_orders 53 = .ok (.iload 4, 2) := by decide +kernel
theorem dX5_orders_55 : decode cX5_orders 55 = .ok (.iload 7, 2) := by decide +kernel
theorem dX5_orders_57 : decode cX5_orders 57 = .ok (.ishr, 1) := by decide +kernel
theorem dX5_orders_58 : decode cX5_orders 58 = .ok (.iconst 1, 1) := by decide +kernel
theorem dX5_orders_59 : decode cX5_orders 59 = .ok (.iand, 1) := by decide +kernel
theorem dX5_orders_60 : decode cX5_orders 60 = .ok (.isub, 1) := by decide +kernel
theorem dX5_orders_61 : decode cX5_orders 61 = .ok (.istore 6, 2) := by decide +kernel
theorem dX5_orders_63 : decode cX5_orders 63 = .ok (.iinc 7 1, 3) := by decide +kernel
theorem dX5_orders_66 : decode cX5_orders 66 = .ok (.goto (-30), 3) := by decide +kernel
theorem dX5_orders_69 : decode cX5_orders 69 = .ok (.iload 4, 2) := by decide +kernel
theorem dX5_orders_71 : decode cX5_orders 71 = .ok (.iconst 1, 1) := by decide +kernel
theorem dX5_orders_72 : decode cX5_orders 72 = .ok (.iload 7, 2) := by decide +kernel
theorem dX5_orders_74 : decode cX5_orders 74 = .ok (.ishl, 1) := by decide +kernel
theorem dX5_orders_75 : decode cX5_orders 75 = .ok (.iconst (-1), 1) := by decide +kernel
theorem dX5_orders_76 : decode cX5_orders 76 = .ok (.ixor, 1) := by decide +kernel
theorem dX5_orders_77 : decode cX5_orders 77 = .ok (.iand, 1) := by decide +kernel
theorem dX5_orders_78 : decode cX5_orders 78 = .ok (.istore 4, 2) := by decide +kernel
theorem dX5_orders_80 : decode cX5_orders 80 = .ok (.aload_n 0, 1) := by decide +kernel
theorem dX5_orders_81 : decode cX5_orders 81 = .ok (.getfield 35, 3) := by decide +kernel
theorem dX5_orders_84 : decode cX5_orders 84 = .ok (.aload_n 0, 1) := by decide +kernel
theorem dX5_orders_85 : decode cX5_orders 85 = .ok (.getfield 69, 3) := by decide +kernel
theorem dX5_orders_88 : decode cX5_orders 88 = .ok (.iload 5, 2) := by decide +kernel
theorem dX5_orders_90 : decode cX5_orders 90 = .ok (.iaload, 1) := by decide +kernel
theorem dX5_orders_91 : decode cX5_orders 91 = .ok (.aload_n 0, 1) := by decide +kernel
theorem dX5_orders_92 : decode cX5_orders 92 = .ok (.getfield 72, 3) := by decide +kernel
theorem dX5_orders_95 : decode cX5_orders 95 = .ok (.iload 7, 2) := by decide +kernel
theorem dX5_orders_97 : decode cX5_orders 97 = .ok (.iaload, 1) := by decide +kernel
theorem dX5_orders_98 : decode cX5_orders 98 = .ok (.iastore, 1) := by decide +kernel
theorem dX5_orders_99 : decode cX5_orders 99 = .ok (.iinc 5 1, 3) := by decide +kernel
theorem dX5_orders_102 : decode cX5_orders 102 = .ok (.goto (-90), 3) := by decide +kernel
theorem dX5_orders_105 : decode cX5_orders 105 = .ok (.return_, 1) := by decide +kernel
theorem dX5_least_0 : decode cX5_least 0 = .ok (.aload_n 0, 1) := by decide +kernel
theorem dX5_least_1 : decode cX5_least 1 = .ok (.invokevirtual 181, 3) := by decide +kernel
theorem dX5_least_4 : decode cX5_least 4 = .ok (.istore_n 1, 1) := by decide +kernel
theorem dX5_least_5 : decode cX5_least 5 = .ok (.aload_n 0, 1) := by decide +kernel
theorem dX5_least_6 : decode cX5_least 6 = .ok (.iload_n 1, 1) := by decide +kernel
theorem dX5_least_7 : decode cX5_least 7 = .ok (.iconst 5, 1) := by decide +kernel
theorem dX5_least_8 : decode cX5_least 8 = .ok (.if_icmp .gt 7, 3) := by decide +kernel
theorem dX5_least_11 : decode cX5_least 11 = .ok (.iconst 1, 1) := by decide +kernel
theorem dX5_least_12 : decode cX5_least 12 = .ok (.goto 4, 3) := by decide +kernel
theorem dX5_least_15 : decode cX5_least 15 = .ok (.iconst 0, 1) := by decide +kernel
theorem dX5_least_16 : decode cX5_least 16 = .ok (.iconst 1, 1) := by decide +kernel
theorem dX5_least_17 : decode cX5_least 17 = .ok (.iconst 1, 1) := by decide +kernel
theorem dX5_least_18 : decode cX5_least 18 = .ok (.invokevirtual 115, 3) := by decide +kernel
theorem dX5_least_21 : decode cX5_least 21 = .ok (.ifCond .ne 5, 3) := by decide +kernel
theorem dX5_least_24 : decode cX5_least 24 = .ok (.iconst 0, 1) := by decide +kernel
theorem dX5_least_25 : decode cX5_least 25 = .ok (.ireturn, 1) := by decide +kernel
theorem dX5_least_26 : decode cX5_least 26 = .ok (.iconst 1, 1) := by decide +kernel
theorem dX5_least_27 : decode cX5_least 27 = .ok (.istore_n 2, 1) := by decide +kernel
theorem dX5_least_28 : decode cX5_least 28 = .ok (.iconst 2, 1) := by decide +kernel
theorem dX5_least_29 : decode cX5_least 29 = .ok (.istore_n 3, 1) := by decide +kernel
theorem dX5_least_30 : decode cX5_least 30 = .ok (.iload_n 3, 1) := by decide +kernel
theorem dX5_least_31 : decode cX5_least 31 = .ok (.iload_n 1, 1) := by decide +kernel
theorem dX5_least_32 : decode cX5_least 32 = .ok (.if_icmp .gt 13, 3) := by decide +kernel
theorem dX5_least_35 : decode cX5_least 35 = .ok (.iload_n 2, 1) := by decide +kernel
theorem dX5_least_36 : decode cX5_least 36 = .ok (.iload_n 3, 1) := by decide +kernel
theorem dX5_least_37 : decode cX5_least 37 = .ok (.imul, 1) := by decide +kernel
theorem dX5_least_38 : decode cX5_least 38 = .ok (.istore_n 2, 1) := by decide +kernel
theorem dX5_least_39 : decode cX5_least 39 = .ok (.iinc 3 1, 3) := by decide +kernel
theorem dX5_least_42 : decode cX5_least 42 = .ok (.goto (-12), 3) := by decide +kernel
theorem dX5_least_45 : decode cX5_least 45 = .ok (.aload_n 0, 1) := by decide +kernel
theorem dX5_least_46 : decode cX5_least 46 = .ok (.invokevirtual 146, 3) := by decide +kernel
theorem dX5_least_49 : decode cX5_least 49 = .ok (.istore_n 3, 1) := by decide +kernel
theorem dX5_least_50 : decode cX5_least 50 = .ok (.iconst 0, 1) := by decide +kernel
theorem dX5_least_51 : decode cX5_least 51 = .ok (.istore 4, 2) := by decide +kernel
theorem dX5_least_53 : decode cX5_least 53 = .ok (.iload 4, 2) := by decide +kernel
theorem dX5_least_55 : decode cX5_least 55 = .ok (.iload_n 2, 1) := by decide +kernel
theorem dX5_least_56 : decode cX5_least 56 = .ok (.if_icmp .ge 35, 3) := by decide +kernel
theorem dX5_least_59 : decode cX5_least 59 = .ok (.aload_n 0, 1) := by decide +kernel
theorem dX5_least_60 : decode cX5_least 60 = .ok (.iload_n 1, 1) := by decide +kernel
theorem dX5_least_61 : decode cX5_least 61 = .ok (.iload 4, 2) := by decide +kernel
theorem dX5_least_63 : decode cX5_least 63 = .ok (.invokevirtual 184, 3) := by decide +kernel
theorem dX5_least_66 : decode cX5_least 66 = .ok (.aload_n 0, 1) := by decide +kernel
theorem dX5_least_67 : decode cX5_least 67 = .ok (.invokevirtual 146, 3) := by decide +kernel
theorem dX5_least_70 : decode cX5_least 70 = .ok (.istore 5, 2) := by decide +kernel
theorem dX5_least_72 : decode cX5_least 72 = .ok (.iload 5, 2) := by decide +kernel
theorem dX5_least_74 : decode cX5_least 74 = .ok (.iload_n 3, 1) := by decide +kernel
theorem dX5_least_75 : decode cX5_least 75 = .ok (.if_icmp .ge 8, 3) := by decide +kernel
theorem dX5_least_78 : decode cX5_least 78 = .ok (.iload 5, 2) := by decide +kernel
theorem dX5_least_80 : decode cX5_least 80 = .ok (.goto 4, 3) := by decide +kernel
theorem dX5_least_83 : decode cX5_least 83 = .ok (.iload_n 3, 1) := by decide +kernel
theorem dX5_least_84 : decode cX5_least 84 = .ok (.istore_n 3, 1) := by decide +kernel
theorem dX5_least_85 : decode cX5_least 85 = .ok (.iinc 4 1, 3) := by decide +kernel
theorem dX5_least_88 : decode cX5_least 88 = .ok (.goto (-35), 3) := by decide +kernel
theorem dX5_least_91 : decode cX5_least 91 = .ok (.iconst 0, 1) := by decide +kernel
theorem dX5_least_92 : decode cX5_least 92 = .ok (.istore 4, 2) := by decide +kernel
theorem dX5_least_94 : decode cX5_least 94 = .ok (.iload 4, 2) := by decide +kernel
theorem dX5_least_96 : decode cX5_least 96 = .ok (.iload_n 1, 1) := by decide +kernel
theorem dX5_least_97 : decode cX5_least 97 = .ok (.if_icmp .ge 28, 3) := by decide +kernel
theorem dX5_least_100 : decode cX5_least 100 = .ok (.aload_n 0, 1) := by decide +kernel
theorem dX5_least_101 : decode cX5_least 101 = .ok (.getfield 35, 3) := by decide +kernel
theorem dX5_least_104 : decode cX5_least 104 = .ok (.aload_n 0, 1) := by decide +kernel
theorem dX5_least_105 : decode cX5_least 105 = .ok (.getfield 69, 3) := by decide +kernel
theorem dX5_least_108 : decode cX5_least 108 = .ok (.iload 4, 2) := by decide +kernel
theorem dX5_least_110 : decode cX5_least 110 = .ok (.iaload, 1) := by decide +kernel
theorem dX5_least_111 : decode cX5_least 111 = .ok (.aload_n 0, 1) := by decide +kernel
theorem dX5_least_112 : decode cX5_least 112 = .ok (.getfield 72, 3) := by decide +kernel
theorem dX5_least_115 : decode cX5_least 115 = .ok (.iload 4, 2) := by decide +kernel
theorem dX5_least_117 : decode cX5_least 117 = .ok (.iaload, 1) := by decide +kernel
theorem dX5_least_118 : decode cX5_least 118 = .ok (.iastore, 1) := by decide +kernel
theorem dX5_least_119 : decode cX5_least 119 = .ok (.iinc 4 1, 3) := by decide +kernel
theorem dX5_least_122 : decode cX5_least 122 = .ok (.goto (-28), 3) := by decide +kernel
theorem dX5_least_125 : decode cX5_least 125 = .ok (.iload_n 3, 1) := by decide +kernel
theorem dX5_least_126 : decode cX5_least 126 = .ok (.ireturn, 1) := by decide +kernel
theorem dX5_today_0 : decode cX5_today 0 = .ok (.aload_n 0, 1) := by decide +kernel
theorem dX5_today_1 : decode cX5_today 1 = .ok (.aload_n 0, 1) := by decide +kernel
theorem dX5_today_2 : decode cX5_today 2 = .ok (.getfield 85, 3) := by decide +kernel
theorem dX5_today_5 : decode cX5_today 5 = .ok (.invokevirtual 162, 3) := by decide +kernel
theorem dX5_today_8 : decode cX5_today 8 = .ok (.ireturn, 1) := by decide +kernel
theorem dX5_spent_0 : decode cX5_spent 0 = .ok (.aload_n 0, 1) := by decide +kernel
theorem dX5_spent_1 : decode cX5_spent 1 = .ok (.aload_n 0, 1) := by decide +kernel
theorem dX5_spent_2 : decode cX5_spent 2 = .ok (.getfield 159, 3) := by decide +kernel
theorem dX5_spent_5 : decode cX5_spent 5 = .ok (.invokevirtual 162, 3) := by decide +kernel
theorem dX5_spent_8 : decode cX5_spent 8 = .ok (.ireturn, 1) := by decide +kernel
theorem dX5_cost_0 : decode cX5_cost 0 = .ok (.aload_n 0, 1) := by decide +kernel
theorem dX5_cost_1 : decode cX5_cost 1 = .ok (.aload_n 0, 1) := by decide +kernel
theorem dX5_cost_2 : decode cX5_cost 2 = .ok (.invokevirtual 146, 3) := by decide +kernel
theorem dX5_cost_5 : decode cX5_cost 5 = .ok (.invokevirtual 162, 3) := by decide +kernel
theorem dX5_cost_8 : decode cX5_cost 8 = .ok (.ireturn, 1) := by decide +kernel
theorem dX5_scenes_0 : decode cX5_scenes 0 = .ok (.aload_n 0, 1) := by decide +kernel
theorem dX5_scenes_1 : decode cX5_scenes 1 = .ok (.aload_n 0, 1) := by decide +kernel
theorem dX5_scenes_2 : decode cX5_scenes 2 = .ok (.getfield 78, 3) := by decide +kernel
theorem dX5_scenes_5 : decode cX5_scenes 5 = .ok (.invokevirtual 162, 3) := by decide +kernel
theorem dX5_scenes_8 : decode cX5_scenes 8 = .ok (.ireturn, 1) := by decide +kernel
theorem dX5_stateOf_0 : decode cX5_stateOf 0 = .ok (.aload_n 0, 1) := by decide +kernel
theorem dX5_stateOf_1 : decode cX5_stateOf 1 = .ok (.aload_n 0, 1) := by decide +kernel
theorem dX5_stateOf_2 : decode cX5_stateOf 2 = .ok (.iload_n 1, 1) := by decide +kernel
theorem dX5_stateOf_3 : decode cX5_stateOf 3 = .ok (.invokevirtual 123, 3) := by decide +kernel
theorem dX5_stateOf_6 : decode cX5_stateOf 6 = .ok (.iconst 1, 1) := by decide +kernel
theorem dX5_stateOf_7 : decode cX5_stateOf 7 = .ok (.iconst 1, 1) := by decide +kernel
theorem dX5_stateOf_8 : decode cX5_stateOf 8 = .ok (.invokevirtual 115, 3) := by decide +kernel
theorem dX5_stateOf_11 : decode cX5_stateOf 11 = .ok (.ifCond .eq 12, 3) := by decide +kernel
theorem dX5_stateOf_14 : decode cX5_stateOf 14 = .ok (.aload_n 0, 1) := by decide +kernel
theorem dX5_stateOf_15 : decode cX5_stateOf 15 = .ok (.getfield 20, 3) := by decide +kernel
theorem dX5_stateOf_18 : decode cX5_stateOf 18 = .ok (.iload_n 1, 1) := by decide +kernel
theorem dX5_stateOf_19 : decode cX5_stateOf 19 = .ok (.iaload, 1) := by decide +kernel
theorem dX5_stateOf_20 : decode cX5_stateOf 20 = .ok (.goto 4, 3) := by decide +kernel
theorem dX5_stateOf_23 : decode cX5_stateOf 23 = .ok (.iconst 0, 1) := by decide +kernel
theorem dX5_stateOf_24 : decode cX5_stateOf 24 = .ok (.ireturn, 1) := by decide +kernel
theorem dX5_dayOf_0 : decode cX5_dayOf 0 = .ok (.aload_n 0, 1) := by decide +kernel
theorem dX5_dayOf_1 : decode cX5_dayOf 1 = .ok (.aload_n 0, 1) := by decide +kernel
theorem dX5_dayOf_2 : decode cX5_dayOf 2 = .ok (.iload_n 1, 1) := by decide +kernel
theorem dX5_dayOf_3 : decode cX5_dayOf 3 = .ok (.invokevirtual 123, 3) := by decide +kernel
theorem dX5_dayOf_6 : decode cX5_dayOf 6 = .ok (.iconst 1, 1) := by decide +kernel
theorem dX5_dayOf_7 : decode cX5_dayOf 7 = .ok (.iconst 1, 1) := by decide +kernel
theorem dX5_dayOf_8 : decode cX5_dayOf 8 = .ok (.invokevirtual 115, 3) := by decide +kernel
theorem dX5_dayOf_11 : decode cX5_dayOf 11 = .ok (.ifCond .eq 26, 3) := by decide +kernel
theorem dX5_dayOf_14 : decode cX5_dayOf 14 = .ok (.aload_n 0, 1) := by decide +kernel
theorem dX5_dayOf_15 : decode cX5_dayOf 15 = .ok (.getfield 20, 3) := by decide +kernel
theorem dX5_dayOf_18 : decode cX5_dayOf 18 = .ok (.iload_n 1, 1) := by decide +kernel
theorem dX5_dayOf_19 : decode cX5_dayOf 19 = .ok (.iaload, 1) := by decide +kernel
theorem dX5_dayOf_20 : decode cX5_dayOf 20 = .ok (.iconst 2, 1) := by decide +kernel
theorem dX5_dayOf_21 : decode cX5_dayOf 21 = .ok (.if_icmp .ne 7, 3) := by decide +kernel
theorem dX5_dayOf_24 : decode cX5_dayOf 24 = .ok (.iconst (-1), 1) := by decide +kernel
theorem dX5_dayOf_25 : decode cX5_dayOf 25 = .ok (.goto 13, 3) := by decide +kernel
theorem dX5_dayOf_28 : decode cX5_dayOf 28 = .ok (.aload_n 0, 1) := by decide +kernel
theorem dX5_dayOf_29 : decode cX5_dayOf 29 = .ok (.getfield 23, 3) := by decide +kernel
theorem dX5_dayOf_32 : decode cX5_dayOf 32 = .ok (.iload_n 1, 1) := by decide +kernel
theorem dX5_dayOf_33 : decode cX5_dayOf 33 = .ok (.iaload, 1) := by decide +kernel
theorem dX5_dayOf_34 : decode cX5_dayOf 34 = .ok (.goto 4, 3) := by decide +kernel
theorem dX5_dayOf_37 : decode cX5_dayOf 37 = .ok (.iconst 0, 1) := by decide +kernel
theorem dX5_dayOf_38 : decode cX5_dayOf 38 = .ok (.ireturn, 1) := by decide +kernel
theorem dX5_sceneOn_0 : decode cX5_sceneOn 0 = .ok (.aload_n 0, 1) := by decide +kernel
theorem dX5_sceneOn_1 : decode cX5_sceneOn 1 = .ok (.iload_n 1, 1) := by decide +kernel
theorem dX5_sceneOn_2 : decode cX5_sceneOn 2 = .ok (.invokestatic 149, 3) := by decide +kernel
theorem dX5_sceneOn_5 : decode cX5_sceneOn 5 = .ok (.iconst 1, 1) := by decide +kernel
theorem dX5_sceneOn_6 : decode cX5_sceneOn 6 = .ok (.iconst 1, 1) := by decide +kernel
theorem dX5_sceneOn_7 : decode cX5_sceneOn 7 = .ok (.invokevirtual 115, 3) := by decide +kernel
theorem dX5_sceneOn_10 : decode cX5_sceneOn 10 = .ok (.ifCond .eq 12, 3) := by decide +kernel
theorem dX5_sceneOn_13 : decode cX5_sceneOn 13 = .ok (.aload_n 0, 1) := by decide +kernel
theorem dX5_sceneOn_14 : decode cX5_sceneOn 14 = .ok (.getfield 35, 3) := by decide +kernel
theorem dX5_sceneOn_17 : decode cX5_sceneOn 17 = .ok (.iload_n 1, 1) := by decide +kernel
theorem dX5_sceneOn_18 : decode cX5_sceneOn 18 = .ok (.iaload, 1) := by decide +kernel
theorem dX5_sceneOn_19 : decode cX5_sceneOn 19 = .ok (.goto 4, 3) := by decide +kernel
theorem dX5_sceneOn_22 : decode cX5_sceneOn 22 = .ok (.iconst 0, 1) := by decide +kernel
theorem dX5_sceneOn_23 : decode cX5_sceneOn 23 = .ok (.ireturn, 1) := by decide +kernel
theorem dX5_refused_0 : decode cX5_refused 0 = .ok (.aload_n 0, 1) := by decide +kernel
theorem dX5_refused_1 : decode cX5_refused 1 = .ok (.aload_n 0, 1) := by decide +kernel
theorem dX5_refused_2 : decode cX5_refused 2 = .ok (.invokevirtual 152, 3) := by decide +kernel
theorem dX5_refused_5 : decode cX5_refused 5 = .ok (.invokevirtual 162, 3) := by decide +kernel
theorem dX5_refused_8 : decode cX5_refused 8 = .ok (.ireturn, 1) := by decide +kernel
theorem dX5_isAllowed_0 : decode cX5_isAllowed 0 = .ok (.aload_n 0, 1) := by decide +kernel
theorem dX5_isAllowed_1 : decode cX5_isAllowed 1 = .ok (.aload_n 0, 1) := by decide +kernel
theorem dX5_isAllowed_2 : decode cX5_isAllowed 2 = .ok (.iload_n 1, 1) := by decide +kernel
theorem dX5_isAllowed_3 : decode cX5_isAllowed 3 = .ok (.invokevirtual 123, 3) := by decide +kernel
theorem dX5_isAllowed_6 : decode cX5_isAllowed 6 = .ok (.iload_n 2, 1) := by decide +kernel
theorem dX5_isAllowed_7 : decode cX5_isAllowed 7 = .ok (.invokestatic 149, 3) := by decide +kernel
theorem dX5_isAllowed_10 : decode cX5_isAllowed 10 = .ok (.iconst 1, 1) := by decide +kernel
theorem dX5_isAllowed_11 : decode cX5_isAllowed 11 = .ok (.invokevirtual 115, 3) := by decide +kernel
theorem dX5_isAllowed_14 : decode cX5_isAllowed 14 = .ok (.ifCond .eq 16, 3) := by decide +kernel
theorem dX5_isAllowed_17 : decode cX5_isAllowed 17 = .ok (.aload_n 0, 1) := by decide +kernel
theorem dX5_isAllowed_18 : decode cX5_isAllowed 18 = .ok (.iload_n 1, 1) := by decide +kernel
theorem dX5_isAllowed_19 : decode cX5_isAllowed 19 = .ok (.iload_n 2, 1) := by decide +kernel
theorem dX5_isAllowed_20 : decode cX5_isAllowed 20 = .ok (.invokevirtual 104, 3) := by decide +kernel
theorem dX5_isAllowed_23 : decode cX5_isAllowed 23 = .ok (.ifCond .eq 7, 3) := by decide +kernel
theorem dX5_isAllowed_26 : decode cX5_isAllowed 26 = .ok (.iconst 1, 1) := by decide +kernel
theorem dX5_isAllowed_27 : decode cX5_isAllowed 27 = .ok (.goto 4, 3) := by decide +kernel
theorem dX5_isAllowed_30 : decode cX5_isAllowed 30 = .ok (.iconst 0, 1) := by decide +kernel
theorem dX5_isAllowed_31 : decode cX5_isAllowed 31 = .ok (.ireturn, 1) := by decide +kernel
theorem dX5_ahead_0 : decode cX5_ahead 0 = .ok (.aload_n 0, 1) := by decide +kernel
theorem dX5_ahead_1 : decode cX5_ahead 1 = .ok (.aload_n 0, 1) := by decide +kernel
theorem dX5_ahead_2 : decode cX5_ahead 2 = .ok (.iload_n 1, 1) := by decide +kernel
theorem dX5_ahead_3 : decode cX5_ahead 3 = .ok (.invokevirtual 123, 3) := by decide +kernel
theorem dX5_ahead_6 : decode cX5_ahead 6 = .ok (.ifCond .eq 14, 3) := by decide +kernel
theorem dX5_ahead_9 : decode cX5_ahead 9 = .ok (.iload_n 2, 1) := by decide +kernel
theorem dX5_ahead_10 : decode cX5_ahead 10 = .ok (.invokestatic 133, 3) := by decide +kernel
theorem dX5_ahead_13 : decode cX5_ahead 13 = .ok (.ifCond .eq 7, 3) := by decide +kernel
theorem dX5_ahead_16 : decode cX5_ahead 16 = .ok (.iconst 1, 1) := by decide +kernel
theorem dX5_ahead_17 : decode cX5_ahead 17 = .ok (.goto 4, 3) := by decide +kernel
theorem dX5_ahead_20 : decode cX5_ahead 20 = .ok (.iconst 0, 1) := by decide +kernel
theorem dX5_ahead_21 : decode cX5_ahead 21 = .ok (.iconst 1, 1) := by decide +kernel
theorem dX5_ahead_22 : decode cX5_ahead 22 = .ok (.iconst 1, 1) := by decide +kernel
theorem dX5_ahead_23 : decode cX5_ahead 23 = .ok (.invokevirtual 115, 3) := by decide +kernel
theorem dX5_ahead_26 : decode cX5_ahead 26 = .ok (.ifCond .ne 5, 3) := by decide +kernel
theorem dX5_ahead_29 : decode cX5_ahead 29 = .ok (.iconst 0, 1) := by decide +kernel
theorem dX5_ahead_30 : decode cX5_ahead 30 = .ok (.ireturn, 1) := by decide +kernel
theorem dX5_ahead_31 : decode cX5_ahead 31 = .ok (.iconst 0, 1) := by decide +kernel
theorem dX5_ahead_32 : decode cX5_ahead 32 = .ok (.istore_n 3, 1) := by decide +kernel
theorem dX5_ahead_33 : decode cX5_ahead 33 = .ok (.iconst 0, 1) := by decide +kernel
theorem dX5_ahead_34 : decode cX5_ahead 34 = .ok (.istore 4, 2) := by decide +kernel
theorem dX5_ahead_36 : decode cX5_ahead 36 = .ok (.iload 4, 2) := by decide +kernel
theorem dX5_ahead_38 : decode cX5_ahead 38 = .ok (.iload_n 1, 1) := by decide +kernel
theorem dX5_ahead_39 : decode cX5_ahead 39 = .ok (.if_icmp .ge 35, 3) := by decide +kernel
theorem dX5_ahead_42 : decode cX5_ahead 42 = .ok (.aload_n 0, 1) := by decide +kernel
theorem dX5_ahead_43 : decode cX5_ahead 43 = .ok (.iload 4, 2) := by decide +kernel
theorem dX5_ahead_45 : decode cX5_ahead 45 = .ok (.iload_n 2, 1) := by decide +kernel
theorem dX5_ahead_46 : decode cX5_ahead 46 = .ok (.invokevirtual 130, 3) := by decide +kernel
theorem dX5_ahead_49 : decode cX5_ahead 49 = .ok (.ifCond .eq 17, 3) := by decide +kernel
theorem dX5_ahead_52 : decode cX5_ahead 52 = .ok (.aload_n 0, 1) := by decide +kernel
theorem dX5_ahead_53 : decode cX5_ahead 53 = .ok (.getfield 32, 3) := by decide +kernel
theorem dX5_ahead_56 : decode cX5_ahead 56 = .ok (.iconst 5, 1) := by decide +kernel
theorem dX5_ahead_57 : decode cX5_ahead 57 = .ok (.iload 4, 2) := by decide +kernel
theorem dX5_ahead_59 : decode cX5_ahead 59 = .ok (.imul, 1) := by decide +kernel
theorem dX5_ahead_60 : decode cX5_ahead 60 = .ok (.iload_n 2, 1) := by decide +kernel
theorem dX5_ahead_61 : decode cX5_ahead 61 = .ok (.iadd, 1) := by decide +kernel
theorem dX5_ahead_62 : decode cX5_ahead 62 = .ok (.iaload, 1) := by decide +kernel
theorem dX5_ahead_63 : decode cX5_ahead 63 = .ok (.goto 4, 3) := by decide +kernel
theorem dX5_ahead_66 : decode cX5_ahead 66 = .ok (.iload_n 3, 1) := by decide +kernel
theorem dX5_ahead_67 : decode cX5_ahead 67 = .ok (.istore_n 3, 1) := by decide +kernel
theorem dX5_ahead_68 : decode cX5_ahead 68 = .ok (.iinc 4 1, 3) := by decide +kernel
theorem dX5_ahead_71 : decode cX5_ahead 71 = .ok (.goto (-35), 3) := by decide +kernel
theorem dX5_ahead_74 : decode cX5_ahead 74 = .ok (.iload_n 3, 1) := by decide +kernel
theorem dX5_ahead_75 : decode cX5_ahead 75 = .ok (.ireturn, 1) := by decide +kernel
theorem dX5_copies_0 : decode cX5_copies 0 = .ok (.aload_n 0, 1) := by decide +kernel
theorem dX5_copies_1 : decode cX5_copies 1 = .ok (.iload_n 1, 1) := by decide +kernel
theorem dX5_copies_2 : decode cX5_copies 2 = .ok (.invokestatic 133, 3) := by decide +kernel
theorem dX5_copies_5 : decode cX5_copies 5 = .ok (.iload_n 2, 1) := by decide +kernel
theorem dX5_copies_6 : decode cX5_copies 6 = .ok (.iconst 0, 1) := by decide +kernel
theorem dX5_copies_7 : decode cX5_copies 7 = .ok (.iconst 3, 1) := by decide +kernel
theorem dX5_copies_8 : decode cX5_copies 8 = .ok (.invokestatic 81, 3) := by decide +kernel
theorem dX5_copies_11 : decode cX5_copies 11 = .ok (.iconst 1, 1) := by decide +kernel
theorem dX5_copies_12 : decode cX5_copies 12 = .ok (.invokevirtual 115, 3) := by decide +kernel
theorem dX5_copies_15 : decode cX5_copies 15 = .ok (.ifCond .eq 16, 3) := by decide +kernel
theorem dX5_copies_18 : decode cX5_copies 18 = .ok (.aload_n 0, 1) := by decide +kernel
theorem dX5_copies_19 : decode cX5_copies 19 = .ok (.getfield 60, 3) := by decide +kernel
theorem dX5_copies_22 : decode cX5_copies 22 = .ok (.iconst 4, 1) := by decide +kernel
theorem dX5_copies_23 : decode cX5_copies 23 = .ok (.iload_n 1, 1) := by decide +kernel
theorem dX5_copies_24 : decode cX5_copies 24 = .ok (.imul, 1) := by decide +kernel
theorem dX5_copies_25 : decode cX5_copies 25 = .ok (.iload_n 2, 1) := by decide +kernel
theorem dX5_copies_26 : decode cX5_copies 26 = .ok (.iadd, 1) := by decide +kernel
theorem dX5_copies_27 : decode cX5_copies 27 = .ok (.iaload, 1) := by decide +kernel
