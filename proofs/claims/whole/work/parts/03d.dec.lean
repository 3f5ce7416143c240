theorem dX5_wipe_2 : decode cX5_wipe 2 = .ok (.invokevirtual 149, 3) := by decide +kernel
theorem dX5_wipe_5 : decode cX5_wipe 5 = .ok (.ifCond .ne 6, 3) := by decide +kernel
theorem dX5_wipe_8 : decode cX5_wipe 8 = .ok (.bipush (-101), 2) := by decide +kernel
theorem dX5_wipe_10 : decode cX5_wipe 10 = .ok (.ireturn, 1) := by decide +kernel
theorem dX5_wipe_11 : decode cX5_wipe 11 = .ok (.aload_n 0, 1) := by decide +kernel
theorem dX5_wipe_12 : decode cX5_wipe 12 = .ok (.getfield 13, 3) := by decide +kernel
theorem dX5_wipe_15 : decode cX5_wipe 15 = .ok (.iload_n 1, 1) := by decide +kernel
theorem dX5_wipe_16 : decode cX5_wipe 16 = .ok (.iaload, 1) := by decide +kernel
theorem dX5_wipe_17 : decode cX5_wipe 17 = .ok (.iconst (-1), 1) := by decide +kernel
theorem dX5_wipe_18 : decode cX5_wipe 18 = .ok (.if_icmp .ne 6, 3) := by decide +kernel
theorem dX5_wipe_21 : decode cX5_wipe 21 = .ok (.bipush (-103), 2) := by decide +kernel
theorem dX5_wipe_23 : decode cX5_wipe 23 = .ok (.ireturn, 1) := by decide +kernel
theorem dX5_wipe_24 : decode cX5_wipe 24 = .ok (.aload_n 0, 1) := by decide +kernel
theorem dX5_wipe_25 : decode cX5_wipe 25 = .ok (.getfield 104, 3) := by decide +kernel
theorem dX5_wipe_28 : decode cX5_wipe 28 = .ok (.sipush 999, 3) := by decide +kernel
theorem dX5_wipe_31 : decode cX5_wipe 31 = .ok (.if_icmp .ne 6, 3) := by decide +kernel
theorem dX5_wipe_34 : decode cX5_wipe 34 = .ok (.bipush (-104), 2) := by decide +kernel
theorem dX5_wipe_36 : decode cX5_wipe 36 = .ok (.ireturn, 1) := by decide +kernel
theorem dX5_wipe_37 : decode cX5_wipe 37 = .ok (.aload_n 0, 1) := by decide +kernel
theorem dX5_wipe_38 : decode cX5_wipe 38 = .ok (.getfield 13, 3) := by decide +kernel
theorem dX5_wipe_41 : decode cX5_wipe 41 = .ok (.iload_n 1, 1) := by decide +kernel
theorem dX5_wipe_42 : decode cX5_wipe 42 = .ok (.iaload, 1) := by decide +kernel
theorem dX5_wipe_43 : decode cX5_wipe 43 = .ok (.istore_n 2, 1) := by decide +kernel
theorem dX5_wipe_44 : decode cX5_wipe 44 = .ok (.aload_n 0, 1) := by decide +kernel
theorem dX5_wipe_45 : decode cX5_wipe 45 = .ok (.getfield 13, 3) := by decide +kernel
theorem dX5_wipe_48 : decode cX5_wipe 48 = .ok (.iload_n 1, 1) := by decide +kernel
theorem dX5_wipe_49 : decode cX5_wipe 49 = .ok (.iconst (-1), 1) := by decide +kernel
theorem dX5_wipe_50 : decode cX5_wipe 50 = .ok (.iastore, 1) := by decide +kernel
theorem dX5_wipe_51 : decode cX5_wipe 51 = .ok (.aload_n 0, 1) := by decide +kernel
theorem dX5_wipe_52 : decode cX5_wipe 52 = .ok (.dup, 1) := by decide +kernel
theorem dX5_wipe_53 : decode cX5_wipe 53 = .ok (.getfield 104, 3) := by decide +kernel
theorem dX5_wipe_56 : decode cX5_wipe 56 = .ok (.iconst 1, 1) := by decide +kernel
theorem dX5_wipe_57 : decode cX5_wipe 57 = .ok (.iadd, 1) := by decide +kernel
theorem dX5_wipe_58 : decode cX5_wipe 58 = .ok (.putfield 104, 3) := by decide +kernel
theorem dX5_wipe_61 : decode cX5_wipe 61 = .ok (.iload_n 2, 1) := by decide +kernel
theorem dX5_wipe_62 : decode cX5_wipe 62 = .ok (.ireturn, 1) := by decide +kernel
theorem dX5_be_0 : decode cX5_be 0 = .ok (.aload_n 0, 1) := by decide +kernel
theorem dX5_be_1 : decode cX5_be 1 = .ok (.iload_n 1, 1) := by decide +kernel
theorem dX5_be_2 : decode cX5_be 2 = .ok (.invokevirtual 149, 3) := by decide +kernel
theorem dX5_be_5 : decode cX5_be 5 = .ok (.ifCond .ne 6, 3) := by decide +kernel
theorem dX5_be_8 : decode cX5_be 8 = .ok (.bipush (-101), 2) := by decide +kernel
theorem dX5_be_10 : decode cX5_be 10 = .ok (.ireturn, 1) := by decide +kernel
theorem dX5_be_11 : decode cX5_be 11 = .ok (.iload_n 2, 1) := by decide +kernel
theorem dX5_be_12 : decode cX5_be 12 = .ok (.iconst 0, 1) := by decide +kernel
theorem dX5_be_13 : decode cX5_be 13 = .ok (.iconst 4, 1) := by decide +kernel
theorem dX5_be_14 : decode cX5_be 14 = .ok (.invokestatic 65, 3) := by decide +kernel
theorem dX5_be_17 : decode cX5_be 17 = .ok (.ifCond .ne 6, 3) := by decide +kernel
theorem dX5_be_20 : decode cX5_be 20 = .ok (.bipush (-102), 2) := by decide +kernel
theorem dX5_be_22 : decode cX5_be 22 = .ok (.ireturn, 1) := by decide +kernel
theorem dX5_be_23 : decode cX5_be 23 = .ok (.aload_n 0, 1) := by decide +kernel
theorem dX5_be_24 : decode cX5_be 24 = .ok (.getfield 7, 3) := by decide +kernel
theorem dX5_be_27 : decode cX5_be 27 = .ok (.iload_n 1, 1) := by decide +kernel
theorem dX5_be_28 : decode cX5_be 28 = .ok (.iaload, 1) := by decide +kernel
theorem dX5_be_29 : decode cX5_be 29 = .ok (.istore_n 3, 1) := by decide +kernel
theorem dX5_be_30 : decode cX5_be 30 = .ok (.aload_n 0, 1) := by decide +kernel
theorem dX5_be_31 : decode cX5_be 31 = .ok (.getfield 7, 3) := by decide +kernel
theorem dX5_be_34 : decode cX5_be 34 = .ok (.iload_n 1, 1) := by decide +kernel
theorem dX5_be_35 : decode cX5_be 35 = .ok (.iload_n 2, 1) := by decide +kernel
theorem dX5_be_36 : decode cX5_be 36 = .ok (.iastore, 1) := by decide +kernel
theorem dX5_be_37 : decode cX5_be 37 = .ok (.iload_n 3, 1) := by decide +kernel
theorem dX5_be_38 : decode cX5_be 38 = .ok (.ireturn, 1) := by decide +kernel
theorem dX5_mendNow_0 : decode cX5_mendNow 0 = .ok (.ldc 183, 2) := by decide +kernel
theorem dX5_mendNow_2 : decode cX5_mendNow 2 = .ok (.istore_n 1, 1) := by decide +kernel
theorem dX5_mendNow_3 : decode cX5_mendNow 3 = .ok (.iconst 1, 1) := by decide +kernel
theorem dX5_mendNow_4 : decode cX5_mendNow 4 = .ok (.istore_n 2, 1) := by decide +kernel
theorem dX5_mendNow_5 : decode cX5_mendNow 5 = .ok (.iload_n 2, 1) := by decide +kernel
theorem dX5_mendNow_6 : decode cX5_mendNow 6 = .ok (.aload_n 0, 1) := by decide +kernel
theorem dX5_mendNow_7 : decode cX5_mendNow 7 = .ok (.getfield 101, 3) := by decide +kernel
theorem dX5_mendNow_10 : decode cX5_mendNow 10 = .ok (.if_icmp .gt 28, 3) := by decide +kernel
theorem dX5_mendNow_13 : decode cX5_mendNow 13 = .ok (.aload_n 0, 1) := by decide +kernel
theorem dX5_mendNow_14 : decode cX5_mendNow 14 = .ok (.getfield 38, 3) := by decide +kernel
theorem dX5_mendNow_17 : decode cX5_mendNow 17 = .ok (.iload_n 2, 1) := by decide +kernel
theorem dX5_mendNow_18 : decode cX5_mendNow 18 = .ok (.aload_n 0, 1) := by decide +kernel
theorem dX5_mendNow_19 : decode cX5_mendNow 19 = .ok (.getfield 13, 3) := by decide +kernel
theorem dX5_mendNow_22 : decode cX5_mendNow 22 = .ok (.iload_n 2, 1) := by decide +kernel
theorem dX5_mendNow_23 : decode cX5_mendNow 23 = .ok (.iaload, 1) := by decide +kernel
theorem dX5_mendNow_24 : decode cX5_mendNow 24 = .ok (.iastore, 1) := by decide +kernel
theorem dX5_mendNow_25 : decode cX5_mendNow 25 = .ok (.aload_n 0, 1) := by decide +kernel
theorem dX5_mendNow_26 : decode cX5_mendNow 26 = .ok (.getfield 13, 3) := by decide +kernel
theorem dX5_mendNow_29 : decode cX5_mendNow 29 = .ok (.iload_n 2, 1) := by decide +kernel
theorem dX5_mendNow_30 : decode cX5_mendNow 30 = .ok (.iconst (-1), 1) := by decide +kernel
theorem dX5_mendNow_31 : decode cX5_mendNow 31 = .ok (.iastore, 1) := by decide +kernel
theorem dX5_mendNow_32 : decode cX5_mendNow 32 = .ok (.iinc 2 1, 3) := by decide +kernel
theorem dX5_mendNow_35 : decode cX5_mendNow 35 = .ok (.goto (-30), 3) := by decide +kernel
theorem dX5_mendNow_38 : decode cX5_mendNow 38 = .ok (.aload_n 0, 1) := by decide +kernel
theorem dX5_mendNow_39 : decode cX5_mendNow 39 = .ok (.invokevirtual 128, 3) := by decide +kernel
theorem dX5_mendNow_42 : decode cX5_mendNow 42 = .ok (.aload_n 0, 1) := by decide +kernel
theorem dX5_mendNow_43 : decode cX5_mendNow 43 = .ok (.iconst 1, 1) := by decide +kernel
theorem dX5_mendNow_44 : decode cX5_mendNow 44 = .ok (.aload_n 0, 1) := by decide +kernel
theorem dX5_mendNow_45 : decode cX5_mendNow 45 = .ok (.getfield 101, 3) := by decide +kernel
theorem dX5_mendNow_48 : decode cX5_mendNow 48 = .ok (.invokevirtual 161, 3) := by decide +kernel
theorem dX5_mendNow_51 : decode cX5_mendNow 51 = .ok (.istore_n 2, 1) := by decide +kernel
theorem dX5_mendNow_52 : decode cX5_mendNow 52 = .ok (.iload_n 2, 1) := by decide +kernel
theorem dX5_mendNow_53 : decode cX5_mendNow 53 = .ok (.ifCond .le 90, 3) := by decide +kernel
theorem dX5_mendNow_56 : decode cX5_mendNow 56 = .ok (.iconst 0, 1) := by decide +kernel
theorem dX5_mendNow_57 : decode cX5_mendNow 57 = .ok (.istore_n 3, 1) := by decide +kernel
theorem dX5_mendNow_58 : decode cX5_mendNow 58 = .ok (.iconst 1, 1) := by decide +kernel
theorem dX5_mendNow_59 : decode cX5_mendNow 59 = .ok (.istore 4, 2) := by decide +kernel
theorem dX5_mendNow_61 : decode cX5_mendNow 61 = .ok (.iload 4, 2) := by decide +kernel
theorem dX5_mendNow_63 : decode cX5_mendNow 63 = .ok (.aload_n 0, 1) := by decide +kernel
theorem dX5_mendNow_64 : decode cX5_mendNow 64 = .ok (.getfield 101, 3) := by decide +kernel
theorem dX5_mendNow_67 : decode cX5_mendNow 67 = .ok (.if_icmp .gt 45, 3) := by decide +kernel
theorem dX5_mendNow_70 : decode cX5_mendNow 70 = .ok (.iload_n 3, 1) := by decide +kernel
theorem dX5_mendNow_71 : decode cX5_mendNow 71 = .ok (.aload_n 0, 1) := by decide +kernel
theorem dX5_mendNow_72 : decode cX5_mendNow 72 = .ok (.getfield 38, 3) := by decide +kernel
theorem dX5_mendNow_75 : decode cX5_mendNow 75 = .ok (.iload 4, 2) := by decide +kernel
theorem dX5_mendNow_77 : decode cX5_mendNow 77 = .ok (.iaload, 1) := by decide +kernel
theorem dX5_mendNow_78 : decode cX5_mendNow 78 = .ok (.iconst (-1), 1) := by decide +kernel
theorem dX5_mendNow_79 : decode cX5_mendNow 79 = .ok (.if_icmp .eq 24, 3) := by decide +kernel
theorem dX5_mendNow_82 : decode cX5_mendNow 82 = .ok (.aload_n 0, 1) := by decide +kernel
theorem dX5_mendNow_83 : decode cX5_mendNow 83 = .ok (.getfield 38, 3) := by decide +kernel
theorem dX5_mendNow_86 : decode cX5_mendNow 86 = .ok (.iload 4, 2) := by decide +kernel
theorem dX5_mendNow_88 : decode cX5_mendNow 88 = .ok (.iaload, 1) := by decide +kernel
theorem dX5_mendNow_89 : decode cX5_mendNow 89 = .ok (.aload_n 0, 1) := by decide +kernel
theorem dX5_mendNow_90 : decode cX5_mendNow 90 = .ok (.getfield 29, 3) := by decide +kernel
theorem dX5_mendNow_93 : decode cX5_mendNow 93 = .ok (.iload 4, 2) := by decide +kernel
theorem dX5_mendNow_95 : decode cX5_mendNow 95 = .ok (.iaload, 1) := by decide +kernel
theorem dX5_mendNow_96 : decode cX5_mendNow 96 = .ok (.if_icmp .eq 7, 3) := by decide +kernel
theorem dX5_mendNow_99 : decode cX5_mendNow 99 = .ok (.iconst 1, 1) := by decide +kernel
theorem dX5_mendNow_100 : decode cX5_mendNow 100 = .ok (.goto 4, 3) := by decide +kernel
theorem dX5_mendNow_103 : decode cX5_mendNow 103 = .ok (.iconst 0, 1) := by decide +kernel
theorem dX5_mendNow_104 : decode cX5_mendNow 104 = .ok (.iadd, 1) := by decide +kernel
theorem dX5_mendNow_105 : decode cX5_mendNow 105 = .ok (.istore_n 3, 1) := by decide +kernel
theorem dX5_mendNow_106 : decode cX5_mendNow 106 = .ok (.iinc 4 1, 3) := by decide +kernel
theorem dX5_mendNow_109 : decode cX5_mendNow 109 = .ok (.goto (-48), 3) := by decide +kernel
theorem dX5_mendNow_112 : decode cX5_mendNow 112 = .ok (.iload_n 3, 1) := by decide +kernel
theorem dX5_mendNow_113 : decode cX5_mendNow 113 = .ok (.iload_n 1, 1) := by decide +kernel
theorem dX5_mendNow_114 : decode cX5_mendNow 114 = .ok (.if_icmp .ge 7, 3) := by decide +kernel
theorem dX5_mendNow_117 : decode cX5_mendNow 117 = .ok (.iload_n 3, 1) := by decide +kernel
theorem dX5_mendNow_118 : decode cX5_mendNow 118 = .ok (.goto 4, 3) := by decide +kernel
theorem dX5_mendNow_121 : decode cX5_mendNow 121 = .ok (.iload_n 1, 1) := by decide +kernel
theorem dX5_mendNow_122 : decode cX5_mendNow 122 = .ok (.istore_n 1, 1) := by decide +kernel
theorem dX5_mendNow_123 : decode cX5_mendNow 123 = .ok (.aload_n 0, 1) := by decide +kernel
theorem dX5_mendNow_124 : decode cX5_mendNow 124 = .ok (.aload_n 0, 1) := by decide +kernel
theorem dX5_mendNow_125 : decode cX5_mendNow 125 = .ok (.aload_n 0, 1) := by decide +kernel
theorem dX5_mendNow_126 : decode cX5_mendNow 126 = .ok (.getfield 101, 3) := by decide +kernel
theorem dX5_mendNow_129 : decode cX5_mendNow 129 = .ok (.invokevirtual 155, 3) := by decide +kernel
theorem dX5_mendNow_132 : decode cX5_mendNow 132 = .ok (.aload_n 0, 1) := by decide +kernel
theorem dX5_mendNow_133 : decode cX5_mendNow 133 = .ok (.getfield 101, 3) := by decide +kernel
theorem dX5_mendNow_136 : decode cX5_mendNow 136 = .ok (.invokevirtual 161, 3) := by decide +kernel
theorem dX5_mendNow_139 : decode cX5_mendNow 139 = .ok (.istore_n 2, 1) := by decide +kernel
theorem dX5_mendNow_140 : decode cX5_mendNow 140 = .ok (.goto (-88), 3) := by decide +kernel
theorem dX5_mendNow_143 : decode cX5_mendNow 143 = .ok (.iconst 1, 1) := by decide +kernel
theorem dX5_mendNow_144 : decode cX5_mendNow 144 = .ok (.istore_n 3, 1) := by decide +kernel
theorem dX5_mendNow_145 : decode cX5_mendNow 145 = .ok (.iload_n 3, 1) := by decide +kernel
theorem dX5_mendNow_146 : decode cX5_mendNow 146 = .ok (.aload_n 0, 1) := by decide +kernel
theorem dX5_mendNow_147 : decode cX5_mendNow 147 = .ok (.getfield 101, 3) := by decide +kernel
theorem dX5_mendNow_150 : decode cX5_mendNow 150 = .ok (.if_icmp .gt 21, 3) := by decide +kernel
theorem dX5_mendNow_153 : decode cX5_mendNow 153 = .ok (.aload_n 0, 1) := by decide +kernel
theorem dX5_mendNow_154 : decode cX5_mendNow 154 = .ok (.getfield 13, 3) := by decide +kernel
theorem dX5_mendNow_157 : decode cX5_mendNow 157 = .ok (.iload_n 3, 1) := by decide +kernel
theorem dX5_mendNow_158 : decode cX5_mendNow 158 = .ok (.aload_n 0, 1) := by decide +kernel
theorem dX5_mendNow_159 : decode cX5_mendNow 159 = .ok (.getfield 38, 3) := by decide +kernel
theorem dX5_mendNow_162 : decode cX5_mendNow 162 = .ok (.iload_n 3, 1) := by decide +kernel
theorem dX5_mendNow_163 : decode cX5_mendNow 163 = .ok (.iaload, 1) := by decide +kernel
theorem dX5_mendNow_164 : decode cX5_mendNow 164 = .ok (.iastore, 1) := by decide +kernel
theorem dX5_mendNow_165 : decode cX5_mendNow 165 = .ok (.iinc 3 1, 3) := by decide +kernel
theorem dX5_mendNow_168 : decode cX5_mendNow 168 = .ok (.goto (-23), 3) := by decide +kernel
theorem dX5_mendNow_171 : decode cX5_mendNow 171 = .ok (.iload_n 1, 1) := by decide +kernel
theorem dX5_mendNow_172 : decode cX5_mendNow 172 = .ok (.ldc 183, 2) := by decide +kernel
theorem dX5_mendNow_174 : decode cX5_mendNow 174 = .ok (.if_icmp .ne 7, 3) := by decide +kernel
theorem dX5_mendNow_177 : decode cX5_mendNow 177 = .ok (.iconst (-1), 1) := by decide +kernel
theorem dX5_mendNow_178 : decode cX5_mendNow 178 = .ok (.goto 4, 3) := by decide +kernel
theorem dX5_mendNow_181 : decode cX5_mendNow 181 = .ok (.iload_n 1, 1) := by decide +kernel
theorem dX5_mendNow_182 : decode cX5_mendNow 182 = .ok (.ireturn, 1) := by decide +kernel
theorem dX5_mend_0 : decode cX5_mend 0 = .ok (.aload_n 0, 1) := by decide +kernel
theorem dX5_mend_1 : decode cX5_mend 1 = .ok (.getfield 101, 3) := by decide +kernel
theorem dX5_mend_4 : decode cX5_mend 4 = .ok (.ifCond .ne 8, 3) := by decide +kernel
theorem dX5_mend_7 : decode cX5_mend 7 = .ok (.bipush (-103), 2) := by decide +kernel
theorem dX5_mend_9 : decode cX5_mend 9 = .ok (.goto 7, 3) := by decide +kernel
theorem dX5_mend_12 : decode cX5_mend 12 = .ok (.aload_n 0, 1) := by decide +kernel
theorem dX5_mend_13 : decode cX5_mend 13 = .ok (.invokevirtual 184, 3) := by decide +kernel
theorem dX5_mend_16 : decode cX5_mend 16 = .ok (.ireturn, 1) := by decide +kernel
theorem dX5_layTurns_0 : decode cX5_layTurns 0 = .ok (.iconst 0, 1) := by decide +kernel
theorem dX5_layTurns_1 : decode cX5_layTurns 1 = .ok (.istore_n 1, 1) := by decide +kernel
theorem dX5_layTurns_2 : decode cX5_layTurns 2 = .ok (.iconst 1, 1) := by decide +kernel
theorem dX5_layTurns_3 : decode cX5_layTurns 3 = .ok (.istore_n 2, 1) := by decide +kernel
theorem dX5_layTurns_4 : decode cX5_layTurns 4 = .ok (.iload_n 2, 1) := by decide +kernel
theorem dX5_layTurns_5 : decode cX5_layTurns 5 = .ok (.aload_n 0, 1) := by decide +kernel
theorem dX5_layTurns_6 : decode cX5_layTurns 6 = .ok (.getfield 101, 3) := by decide +kernel
theorem dX5_layTurns_9 : decode cX5_layTurns 9 = .ok (.if_icmp .gt 29, 3) := by decide +kernel
theorem dX5_layTurns_12 : decode cX5_layTurns 12 = .ok (.aload_n 0, 1) := by decide +kernel
theorem dX5_layTurns_13 : decode cX5_layTurns 13 = .ok (.getfield 13, 3) := by decide +kernel
theorem dX5_layTurns_16 : decode cX5_layTurns 16 = .ok (.iload_n 2, 1) := by decide +kernel
theorem dX5_layTurns_17 : decode cX5_layTurns 17 = .ok (.iaload, 1) := by decide +kernel
theorem dX5_layTurns_18 : decode cX5_layTurns 18 = .ok (.iconst (-1), 1) := by decide +kernel
theorem dX5_layTurns_19 : decode cX5_layTurns 19 = .ok (.if_icmp .ne 13, 3) := by decide +kernel
theorem dX5_layTurns_22 : decode cX5_layTurns 22 = .ok (.aload_n 0, 1) := by decide +kernel
theorem dX5_layTurns_23 : decode cX5_layTurns 23 = .ok (.getfield 41, 3) := by decide +kernel
theorem dX5_layTurns_26 : decode cX5_layTurns 26 = .ok (.iload_n 1, 1) := by decide +kernel
theorem dX5_layTurns_27 : decode cX5_layTurns 27 = .ok (.iload_n 2, 1) := by decide +kernel
theorem dX5_layTurns_28 : decode cX5_layTurns 28 = .ok (.iastore, 1) := by decide +kernel
theorem dX5_layTurns_29 : decode cX5_layTurns 29 = .ok (.iinc 1 1, 3) := by decide +kernel
theorem dX5_layTurns_32 : decode cX5_layTurns 32 = .ok (.iinc 2 1, 3) := by decide +kernel
theorem dX5_layTurns_35 : decode cX5_layTurns 35 = .ok (.goto (-31), 3) := by decide +kernel
theorem dX5_layTurns_38 : decode cX5_layTurns 38 = .ok (.iload_n 1, 1) := by decide +kernel
theorem dX5_layTurns_39 : decode cX5_layTurns 39 = .ok (.ireturn, 1) := by decide +kernel
theorem dX5_winNow_0 : decode cX5_winNow 0 = .ok (.aload_n 0, 1) := by decide +kernel
theorem dX5_winNow_1 : decode cX5_winNow 1 = .ok (.invokevirtual 128, 3) := by decide +kernel
theorem dX5_winNow_4 : decode cX5_winNow 4 = .ok (.aload_n 0, 1) := by decide +kernel
theorem dX5_winNow_5 : decode cX5_winNow 5 = .ok (.invokevirtual 187, 3) := by decide +kernel
theorem dX5_winNow_8 : decode cX5_winNow 8 = .ok (.istore_n 1, 1) := by decide +kernel
theorem dX5_winNow_9 : decode cX5_winNow 9 = .ok (.iload_n 1, 1) := by decide +kernel
theorem dX5_winNow_10 : decode cX5_winNow 10 = .ok (.ifCond .eq 14, 3) := by decide +kernel
theorem dX5_winNow_13 : decode cX5_winNow 13 = .ok (.aload_n 0, 1) := by decide +kernel
theorem dX5_winNow_14 : decode cX5_winNow 14 = .ok (.aload_n 0, 1) := by decide +kernel
theorem dX5_winNow_15 : decode cX5_winNow 15 = .ok (.getfield 101, 3) := by decide +kernel
theorem dX5_winNow_18 : decode cX5_winNow 18 = .ok (.invokevirtual 131, 3) := by decide +kernel
theorem dX5_winNow_21 : decode cX5_winNow 21 = .ok (.ifCond .le 5, 3) := by decide +kernel
theorem dX5_winNow_24 : decode cX5_winNow 24 = .ok (.iconst (-1), 1) := by decide +kernel
theorem dX5_winNow_25 : decode cX5_winNow 25 = .ok (.ireturn, 1) := by decide +kernel
theorem dX5_winNow_26 : decode cX5_winNow 26 = .ok (.iconst 0, 1) := by decide +kernel
theorem dX5_winNow_27 : decode cX5_winNow 27 = .ok (.istore_n 2, 1) := by decide +kernel
theorem dX5_winNow_28 : decode cX5_winNow 28 = .ok (.aload_n 0, 1) := by decide +kernel
theorem dX5_winNow_29 : decode cX5_winNow 29 = .ok (.getfield 44, 3) := by decide +kernel
theorem dX5_winNow_32 : decode cX5_winNow 32 = .ok (.iconst 0, 1) := by decide +kernel
theorem dX5_winNow_33 : decode cX5_winNow 33 = .ok (.iconst 0, 1) := by decide +kernel
theorem dX5_winNow_34 : decode cX5_winNow 34 = .ok (.iastore, 1) := by decide +kernel
theorem dX5_winNow_35 : decode cX5_winNow 35 = .ok (.aload_n 0, 1) := by decide +kernel
theorem dX5_winNow_36 : decode cX5_winNow 36 = .ok (.getfield 47, 3) := by decide +kernel
theorem dX5_winNow_39 : decode cX5_winNow 39 = .ok (.iconst 0, 1) := by decide +kernel
theorem dX5_winNow_40 : decode cX5_winNow 40 = .ok (.iconst (-1), 1) := by decide +kernel
theorem dX5_winNow_41 : decode cX5_winNow 41 = .ok (.iastore, 1) := by decide +kernel
theorem dX5_winNow_42 : decode cX5_winNow 42 = .ok (.iload_n 2, 1) := by decide +kernel
theorem dX5_winNow_43 : decode cX5_winNow 43 = .ok (.ifCond .lt 152, 3) := by decide +kernel
theorem dX5_winNow_46 : decode cX5_winNow 46 = .ok (.iload_n 2, 1) := by decide +kernel
theorem dX5_winNow_47 : decode cX5_winNow 47 = .ok (.iload_n 1, 1) := by decide +kernel
theorem dX5_winNow_48 : decode cX5_winNow 48 = .ok (.if_icmp .eq 26, 3) := by decide +kernel
theorem dX5_winNow_51 : decode cX5_winNow 51 = .ok (.aload_n 0, 1) := by decide +kernel
theorem dX5_winNow_52 : decode cX5_winNow 52 = .ok (.getfield 44, 3) := by decide +kernel
theorem dX5_winNow_55 : decode cX5_winNow 55 = .ok (.iload_n 2, 1) := by decide +kernel
theorem dX5_winNow_56 : decode cX5_winNow 56 = .ok (.iaload, 1) := by decide +kernel
theorem dX5_winNow_57 : decode cX5_winNow 57 = .ok (.aload_n 0, 1) := by decide +kernel
theorem dX5_winNow_58 : decode cX5_winNow 58 = .ok (.getfield 98, 3) := by decide +kernel
theorem dX5_winNow_61 : decode cX5_winNow 61 = .ok (.if_icmp .eq 13, 3) := by decide +kernel
theorem dX5_winNow_64 : decode cX5_winNow 64 = .ok (.aload_n 0, 1) := by decide +kernel
theorem dX5_winNow_65 : decode cX5_winNow 65 = .ok (.getfield 47, 3) := by decide +kernel
theorem dX5_winNow_68 : decode cX5_winNow 68 = .ok (.iload_n 2, 1) := by decide +kernel
theorem dX5_winNow_69 : decode cX5_winNow 69 = .ok (.iaload, 1) := by decide +kernel
theorem dX5_winNow_70 : decode cX5_winNow 70 = .ok (.iconst (-1), 1) := by decide +kernel
theorem dX5_winNow_71 : decode cX5_winNow 71 = .ok (.if_icmp .eq 7, 3) := by decide +kernel
theorem dX5_winNow_74 : decode cX5_winNow 74 = .ok (.iconst 1, 1) := by decide +kernel
theorem dX5_winNow_75 : decode cX5_winNow 75 = .ok (.goto 4, 3) := by decide +kernel
theorem dX5_winNow_78 : decode cX5_winNow 78 = .ok (.iconst 0, 1) := by decide +kernel
theorem dX5_winNow_79 : decode cX5_winNow 79 = .ok (.istore_n 3, 1) := by decide +kernel
theorem dX5_winNow_80 : decode cX5_winNow 80 = .ok (.iload_n 3, 1) := by decide +kernel
theorem dX5_winNow_81 : decode cX5_winNow 81 = .ok (.ifCond .ne 61, 3) := by decide +kernel
theorem dX5_winNow_84 : decode cX5_winNow 84 = .ok (.aload_n 0, 1) := by decide +kernel
theorem dX5_winNow_85 : decode cX5_winNow 85 = .ok (.getfield 29, 3) := by decide +kernel
theorem dX5_winNow_88 : decode cX5_winNow 88 = .ok (.aload_n 0, 1) := by decide +kernel
theorem dX5_winNow_89 : decode cX5_winNow 89 = .ok (.getfield 41, 3) := by decide +kernel
theorem dX5_winNow_92 : decode cX5_winNow 92 = .ok (.iload_n 2, 1) := by decide +kernel
theorem dX5_winNow_93 : decode cX5_winNow 93 = .ok (.iaload, 1) := by decide +kernel
theorem dX5_winNow_94 : decode cX5_winNow 94 = .ok (.aload_n 0, 1) := by decide +kernel
theorem dX5_winNow_95 : decode cX5_winNow 95 = .ok (.getfield 44, 3) := by decide +kernel
theorem dX5_winNow_98 : decode cX5_winNow 98 = .ok (.iload_n 2, 1) := by decide +kernel
theorem dX5_winNow_99 : decode cX5_winNow 99 = .ok (.iaload, 1) := by decide +kernel
theorem dX5_winNow_100 : decode cX5_winNow 100 = .ok (.iastore, 1) := by decide +kernel
theorem dX5_winNow_101 : decode cX5_winNow 101 = .ok (.aload_n 0, 1) := by decide +kernel
theorem dX5_winNow_102 : decode cX5_winNow 102 = .ok (.getfield 44, 3) := by decide +kernel
theorem dX5_winNow_105 : decode cX5_winNow 105 = .ok (.iload_n 2, 1) := by decide +kernel
theorem dX5_winNow_106 : decode cX5_winNow 106 = .ok (.dup2, 1) := by decide +kernel
theorem dX5_winNow_107 : decode cX5_winNow 107 = .ok (.iaload, 1) := by decide +kernel
theorem dX5_winNow_108 : decode cX5_winNow 108 = .ok (.iconst 1, 1) := by decide +kernel
theorem dX5_winNow_109 : decode cX5_winNow 109 = .ok (.iadd, 1) := by decide +kernel
theorem dX5_winNow_110 : decode cX5_winNow 110 = .ok (.iastore, 1) := by decide +kernel
theorem dX5_winNow_111 : decode cX5_winNow 111 = .ok (.aload_n 0, 1) := by decide +kernel
theorem dX5_winNow_112 : decode cX5_winNow 112 = .ok (.aload_n 0, 1) := by decide +kernel
theorem dX5_winNow_113 : decode cX5_winNow 113 = .ok (.getfield 101, 3) := by decide +kernel
theorem dX5_winNow_116 : decode cX5_winNow 116 = .ok (.invokevirtual 131, 3) := by decide +kernel
theorem dX5_winNow_119 : decode cX5_winNow 119 = .ok (.ifCond .ne 73, 3) := by decide +kernel
theorem dX5_winNow_122 : decode cX5_winNow 122 = .ok (.iinc 2 1, 3) := by decide +kernel
theorem dX5_winNow_125 : decode cX5_winNow 125 = .ok (.aload_n 0, 1) := by decide +kernel
theorem dX5_winNow_126 : decode cX5_winNow 126 = .ok (.getfield 44, 3) := by decide +kernel
theorem dX5_winNow_129 : decode cX5_winNow 129 = .ok (.iload_n 2, 1) := by decide +kernel
theorem dX5_winNow_130 : decode cX5_winNow 130 = .ok (.iconst 0, 1) := by decide +kernel
theorem dX5_winNow_131 : decode cX5_winNow 131 = .ok (.iastore, 1) := by decide +kernel
theorem dX5_winNow_132 : decode cX5_winNow 132 = .ok (.aload_n 0, 1) := by decide +kernel
theorem dX5_winNow_133 : decode cX5_winNow 133 = .ok (.getfield 47, 3) := by decide +kernel
theorem dX5_winNow_136 : decode cX5_winNow 136 = .ok (.iload_n 2, 1) := by decide +kernel
theorem dX5_winNow_137 : decode cX5_winNow 137 = .ok (.iconst (-1), 1) := by decide +kernel
theorem dX5_winNow_138 : decode cX5_winNow 138 = .ok (.iastore, 1) := by decide +kernel
theorem dX5_winNow_139 : decode cX5_winNow 139 = .ok (.goto 53, 3) := by decide +kernel
theorem dX5_winNow_142 : decode cX5_winNow 142 = .ok (.iload_n 2, 1) := by decide +kernel
theorem dX5_winNow_143 : decode cX5_winNow 143 = .ok (.iload_n 1, 1) := by decide +kernel
theorem dX5_winNow_144 : decode cX5_winNow 144 = .ok (.if_icmp .ge 15, 3) := by decide +kernel
theorem dX5_winNow_147 : decode cX5_winNow 147 = .ok (.aload_n 0, 1) := by decide +kernel
theorem dX5_winNow_148 : decode cX5_winNow 148 = .ok (.getfield 29, 3) := by decide +kernel
theorem dX5_winNow_151 : decode cX5_winNow 151 = .ok (.aload_n 0, 1) := by decide +kernel
theorem dX5_winNow_152 : decode cX5_winNow 152 = .ok (.getfield 41, 3) := by decide +kernel
theorem dX5_winNow_155 : decode cX5_winNow 155 = .ok (.iload_n 2, 1) := by decide +kernel
theorem dX5_winNow_156 : decode cX5_winNow 156 = .ok (.iaload, 1) := by decide +kernel
theorem dX5_winNow_157 : decode cX5_winNow 157 = .ok (.iconst (-1), 1) := by decide +kernel
theorem dX5_winNow_158 : decode cX5_winNow 158 = .ok (.iastore, 1) := by decide +kernel
theorem dX5_winNow_159 : decode cX5_winNow 159 = .ok (.iinc 2 (-1), 3) := by decide +kernel
theorem dX5_winNow_162 : decode cX5_winNow 162 = .ok (.iload_n 2, 1) := by decide +kernel
theorem dX5_winNow_163 : decode cX5_winNow 163 = .ok (.ifCond .lt 29, 3) := by decide +kernel
theorem dX5_winNow_166 : decode cX5_winNow 166 = .ok (.aload_n 0, 1) := by decide +kernel
theorem dX5_winNow_167 : decode cX5_winNow 167 = .ok (.getfield 47, 3) := by decide +kernel
theorem dX5_winNow_170 : decode cX5_winNow 170 = .ok (.iload_n 2, 1) := by decide +kernel
theorem dX5_winNow_171 : decode cX5_winNow 171 = .ok (.iconst 1, 1) := by decide +kernel
theorem dX5_winNow_172 : decode cX5_winNow 172 = .ok (.iadd, 1) := by decide +kernel
theorem dX5_winNow_173 : decode cX5_winNow 173 = .ok (.iaload, 1) := by decide +kernel
theorem dX5_winNow_174 : decode cX5_winNow 174 = .ok (.iconst (-1), 1) := by decide +kernel
theorem dX5_winNow_175 : decode cX5_winNow 175 = .ok (.if_icmp .ne 17, 3) := by decide +kernel
theorem dX5_winNow_178 : decode cX5_winNow 178 = .ok (.aload_n 0, 1) := by decide +kernel
theorem dX5_winNow_179 : decode cX5_winNow 179 = .ok (.getfield 47, 3) := by decide +kernel
theorem dX5_winNow_182 : decode cX5_winNow 182 = .ok (.iload_n 2, 1) := by decide +kernel
theorem dX5_winNow_183 : decode cX5_winNow 183 = .ok (.aload_n 0, 1) := by decide +kernel
theorem dX5_winNow_184 : decode cX5_winNow 184 = .ok (.getfield 44, 3) := by decide +kernel
theorem dX5_winNow_187 : decode cX5_winNow 187 = .ok (.iload_n 2, 1) := by decide +kernel
theorem dX5_winNow_188 : decode cX5_winNow 188 = .ok (.iaload, 1) := by decide +kernel
theorem dX5_winNow_189 : decode cX5_winNow 189 = .ok (.iconst 1, 1) := by decide +kernel
theorem dX5_winNow_190 : decode cX5_winNow 190 = .ok (.isub, 1) := by decide +kernel
theorem dX5_winNow_191 : decode cX5_winNow 191 = .ok (.iastore, 1) := by decide +kernel
theorem dX5_winNow_192 : decode cX5_winNow 192 = .ok (.goto (-150), 3) := by decide +kernel
theorem dX5_winNow_195 : decode cX5_winNow 195 = .ok (.aload_n 0, 1) := by decide +kernel
theorem dX5_winNow_196 : decode cX5_winNow 196 = .ok (.getfield 47, 3) := by decide +kernel
theorem dX5_winNow_199 : decode cX5_winNow 199 = .ok (.iconst 0, 1) := by decide +kernel
theorem dX5_winNow_200 : decode cX5_winNow 200 = .ok (.iaload, 1) := by decide +kernel
theorem dX5_winNow_201 : decode cX5_winNow 201 = .ok (.ireturn, 1) := by decide +kernel
theorem dX5_winsNow_0 : decode cX5_winsNow 0 = .ok (.aload_n 0, 1) := by decide +kernel
theorem dX5_winsNow_1 : decode cX5_winsNow 1 = .ok (.invokevirtual 190, 3) := by decide +kernel
theorem dX5_winsNow_4 : decode cX5_winsNow 4 = .ok (.istore_n 2, 1) := by decide +kernel
theorem dX5_winsNow_5 : decode cX5_winsNow 5 = .ok (.iload_n 1, 1) := by decide +kernel
theorem dX5_winsNow_6 : decode cX5_winsNow 6 = .ok (.iconst 1, 1) := by decide +kernel
theorem dX5_winsNow_7 : decode cX5_winsNow 7 = .ok (.if_icmp .ne 7, 3) := by decide +kernel
theorem dX5_winsNow_10 : decode cX5_winsNow 10 = .ok (.iload_n 2, 1) := by decide +kernel
theorem dX5_winsNow_11 : decode cX5_winsNow 11 = .ok (.goto 13, 3) := by decide +kernel
theorem dX5_winsNow_14 : decode cX5_winsNow 14 = .ok (.iload_n 2, 1) := by decide +kernel
theorem dX5_winsNow_15 : decode cX5_winsNow 15 = .ok (.iconst (-1), 1) := by decide +kernel
theorem dX5_winsNow_16 : decode cX5_winsNow 16 = .ok (.if_icmp .ne 7, 3) := by decide +kernel
theorem dX5_winsNow_19 : decode cX5_winsNow 19 = .ok (.iconst 0, 1) := by decide +kernel
theorem dX5_winsNow_20 : decode cX5_winsNow 20 = .ok (.goto 4, 3) := by decide +kernel
theorem dX5_winsNow_23 : decode cX5_winsNow 23 = .ok (.iconst 1, 1) := by decide +kernel
theorem dX5_winsNow_24 : decode cX5_winsNow 24 = .ok (.ireturn, 1) := by decide +kernel
theorem dX5_wins_0 : decode cX5_wins 0 = .ok (.iload_n 1, 1) := by decide +kernel
theorem dX5_wins_1 : decode cX5_wins 1 = .ok (.iconst 0, 1) := by decide +kernel
theorem dX5_wins_2 : decode cX5_wins 2 = .ok (.iconst 1, 1) := by decide +kernel
theorem dX5_wins_3 : decode cX5_wins 3 = .ok (.invokestatic 65, 3) := by decide +kernel
theorem dX5_wins_6 : decode cX5_wins 6 = .ok (.ifCond .ne 6, 3) := by decide +kernel
theorem dX5_wins_9 : decode cX5_wins 9 = .ok (.bipush (-102), 2) := by decide +kernel
theorem dX5_wins_11 : decode cX5_wins 11 = .ok (.ireturn, 1) := by decide +kernel
theorem dX5_wins_12 : decode cX5_wins 12 = .ok (.aload_n 0, 1) := by decide +kernel
theorem dX5_wins_13 : decode cX5_wins 13 = .ok (.getfield 101, 3) := by decide +kernel
theorem dX5_wins_16 : decode cX5_wins 16 = .ok (.ifCond .ne 8, 3) := by decide +kernel
theorem dX5_wins_19 : decode cX5_wins 19 = .ok (.bipush (-103), 2) := by decide +kernel
theorem dX5_wins_21 : decode cX5_wins 21 = .ok (.goto 8, 3) := by decide +kernel
theorem dX5_wins_24 : decode cX5_wins 24 = .ok (.aload_n 0, 1) := by decide +kernel
theorem dX5_wins_25 : decode cX5_wins 25 = .ok (.iload_n 1, 1) := by decide +kernel
theorem dX5_wins_26 : decode cX5_wins 26 = .ok (.invokevirtual 193, 3) := by decide +kernel
theorem dX5_wins_29 : decode cX5_wins 29 = .ok (.ireturn, 1) := by decide +kernel
theorem dX5_oddsNow_0 : decode cX5_oddsNow 0 = .ok (.aload_n 0, 1) := by decide +kernel
theorem dX5_oddsNow_1 : decode cX5_oddsNow 1 = .ok (.iconst (-1), 1) := by decide +kernel
theorem dX5_oddsNow_2 : decode cX5_oddsNow 2 = .ok (.invokevirtual 134, 3) := by decide +kernel
theorem dX5_oddsNow_5 : decode cX5_oddsNow 5 = .ok (.istore 4, 2) := by decide +kernel
theorem dX5_oddsNow_7 : decode cX5_oddsNow 7 = .ok (.aload_n 0, 1) := by decide +kernel
theorem dX5_oddsNow_8 : decode cX5_oddsNow 8 = .ok (.getfield 32, 3) := by decide +kernel
theorem dX5_oddsNow_11 : decode cX5_oddsNow 11 = .ok (.iconst 3, 1) := by decide +kernel
theorem dX5_oddsNow_12 : decode cX5_oddsNow 12 = .ok (.iload_n 1, 1) := by decide +kernel
theorem dX5_oddsNow_13 : decode cX5_oddsNow 13 = .ok (.imul, 1) := by decide +kernel
theorem dX5_oddsNow_14 : decode cX5_oddsNow 14 = .ok (.iload_n 2, 1) := by decide +kernel
theorem dX5_oddsNow_15 : decode cX5_oddsNow 15 = .ok (.iadd, 1) := by decide +kernel
theorem dX5_oddsNow_16 : decode cX5_oddsNow 16 = .ok (.iaload, 1) := by decide +kernel
theorem dX5_oddsNow_17 : decode cX5_oddsNow 17 = .ok (.istore 5, 2) := by decide +kernel
theorem dX5_oddsNow_19 : decode cX5_oddsNow 19 = .ok (.iload 5, 2) := by decide +kernel
theorem dX5_oddsNow_21 : decode cX5_oddsNow 21 = .ok (.ifCond .ne 5, 3) := by decide +kernel
theorem dX5_oddsNow_24 : decode cX5_oddsNow 24 = .ok (.iload_n 3, 1) := by decide +kernel
theorem dX5_oddsNow_25 : decode cX5_oddsNow 25 = .ok (.ireturn, 1) := by decide +kernel
theorem dX5_oddsNow_26 : decode cX5_oddsNow 26 = .ok (.iload 5, 2) := by decide +kernel
theorem dX5_oddsNow_28 : decode cX5_oddsNow 28 = .ok (.iload 4, 2) := by decide +kernel
theorem dX5_oddsNow_30 : decode cX5_oddsNow 30 = .ok (.invokestatic 196, 3) := by decide +kernel
theorem dX5_oddsNow_33 : decode cX5_oddsNow 33 = .ok (.istore 6, 2) := by decide +kernel
theorem dX5_oddsNow_35 : decode cX5_oddsNow 35 = .ok (.iload_n 3, 1) := by decide +kernel
theorem dX5_oddsNow_36 : decode cX5_oddsNow 36 = .ok (.ifCond .ne 11, 3) := by decide +kernel
theorem dX5_oddsNow_39 : decode cX5_oddsNow 39 = .ok (.iload 5, 2) := by decide +kernel
theorem dX5_oddsNow_41 : decode cX5_oddsNow 41 = .ok (.iload 6, 2) := by decide +kernel
theorem dX5_oddsNow_43 : decode cX5_oddsNow 43 = .ok (.idiv, 1) := by decide +kernel
theorem dX5_oddsNow_44 : decode cX5_oddsNow 44 = .ok (.goto 8, 3) := by decide +kernel
theorem dX5_oddsNow_47 : decode cX5_oddsNow 47 = .ok (.iload 4, 2) := by decide +kernel
theorem dX5_oddsNow_49 : decode cX5_oddsNow 49 = .ok (.iload 6, 2) := by decide +kernel
theorem dX5_oddsNow_51 : decode cX5_oddsNow 51 = .ok (.idiv, 1) := by decide +kernel
theorem dX5_oddsNow_52 : decode cX5_oddsNow 52 = .ok (.ireturn, 1) := by decide +kernel
theorem dX5_odds_0 : decode cX5_odds 0 = .ok (.aload_n 0, 1) := by decide +kernel
theorem dX5_odds_1 : decode cX5_odds 1 = .ok (.iload_n 1, 1) := by decide +kernel
theorem dX5_odds_2 : decode cX5_odds 2 = .ok (.invokevirtual 149, 3) := by decide +kernel
theorem dX5_odds_5 : decode cX5_odds 5 = .ok (.ifCond .ne 6, 3) := by decide +kernel
theorem dX5_odds_8 : decode cX5_odds 8 = .ok (.bipush (-101), 2) := by decide +kernel
theorem dX5_odds_10 : decode cX5_odds 10 = .ok (.ireturn, 1) := by decide +kernel
theorem dX5_odds_11 : decode cX5_odds 11 = .ok (.aload_n 0, 1) := by decide +kernel
theorem dX5_odds_12 : decode cX5_odds 12 = .ok (.iload_n 2, 1) := by decide +kernel
theorem dX5_odds_13 : decode cX5_odds 13 = .ok (.invokevirtual 177, 3) := by decide +kernel
theorem dX5_odds_16 : decode cX5_odds 16 = .ok (.ifCond .eq 22, 3) := by decide +kernel
theorem dX5_odds_19 : decode cX5_odds 19 = .ok (.iload_n 3, 1) := by decide +kernel
theorem dX5_odds_20 : decode cX5_odds 20 = .ok (.iconst 0, 1) := by decide +kernel
theorem dX5_odds_21 : decode cX5_odds 21 = .ok (.iconst 1, 1) := by decide +kernel
theorem dX5_odds_22 : decode cX5_odds 22 = .ok (.invokestatic 65, 3) := by decide +kernel
theorem dX5_odds_25 : decode cX5_odds 25 = .ok (.ifCond .eq 13, 3) := by decide +kernel
theorem dX5_odds_28 : decode cX5_odds 28 = .ok (.aload_n 0, 1) := by decide +kernel
theorem dX5_odds_29 : decode cX5_odds 29 = .ok (.iload_n 1, 1) := by decide +kernel
theorem dX5_odds_30 : decode cX5_odds 30 = .ok (.iload_n 2, 1) := by decide +kernel
theorem dX5_odds_31 : decode cX5_odds 31 = .ok (.iload_n 3, 1) := by decide +kernel
theorem dX5_odds_32 : decode cX5_odds 32 = .ok (.invokevirtual 199, 3) := by decide +kernel
theorem dX5_odds_35 : decode cX5_odds 35 = .ok (.goto 5, 3) := by decide +kernel
theorem dX5_odds_38 : decode cX5_odds 38 = .ok (.bipush (-102), 2) := by decide +kernel
theorem dX5_odds_40 : decode cX5_odds 40 = .ok (.ireturn, 1) := by decide +kernel
theorem dX5_could_0 : decode cX5_could 0 = .ok (.iload_n 1, 1) := by decide +kernel
theorem dX5_could_1 : decode cX5_could 1 = .ok (.iconst 2, 1) := by decide +kernel
theorem dX5_could_2 : decode cX5_could 2 = .ok (.if_icmp .ne 10, 3) := by decide +kernel
theorem dX5_could_5 : decode cX5_could 5 = .ok (.iload_n 0, 1) := by decide +kernel
theorem dX5_could_6 : decode cX5_could 6 = .ok (.invokestatic 113, 3) := by decide +kernel
theorem dX5_could_9 : decode cX5_could 9 = .ok (.goto 16, 3) := by decide +kernel
theorem dX5_could_12 : decode cX5_could 12 = .ok (.iload_n 0, 1) := by decide +kernel
theorem dX5_could_13 : decode cX5_could 13 = .ok (.iload_n 1, 1) := by decide +kernel
theorem dX5_could_14 : decode cX5_could 14 = .ok (.ifCond .ne 7, 3) := by decide +kernel
theorem dX5_could_17 : decode cX5_could 17 = .ok (.iconst 1, 1) := by decide +kernel
theorem dX5_could_18 : decode cX5_could 18 = .ok (.goto 4, 3) := by decide +kernel
theorem dX5_could_21 : decode cX5_could 21 = .ok (.iconst 0, 1) := by decide +kernel
theorem dX5_could_22 : decode cX5_could 22 = .ok (.invokestatic 117, 3) := by decide +kernel
theorem dX5_could_25 : decode cX5_could 25 = .ok (.ireturn, 1) := by decide +kernel
theorem dX5_see_0 : decode cX5_see 0 = .ok (.aload_n 0, 1) := by decide +kernel
theorem dX5_see_1 : decode cX5_see 1 = .ok (.iload_n 1, 1) := by decide +kernel
theorem dX5_see_2 : decode cX5_see 2 = .ok (.invokevirtual 149, 3) := by decide +kernel
theorem dX5_see_5 : decode cX5_see 5 = .ok (.ifCond .ne 6, 3) := by decide +kernel
theorem dX5_see_8 : decode cX5_see 8 = .ok (.bipush (-101), 2) := by decide +kernel
theorem dX5_see_10 : decode cX5_see 10 = .ok (.ireturn, 1) := by decide +kernel
theorem dX5_see_11 : decode cX5_see 11 = .ok (.iload_n 2, 1) := by decide +kernel
theorem dX5_see_12 : decode cX5_see 12 = .ok (.iconst 0, 1) := by decide +kernel
theorem dX5_see_13 : decode cX5_see 13 = .ok (.iconst 2, 1) := by decide +kernel
theorem dX5_see_14 : decode cX5_see 14 = .ok (.invokestatic 65, 3) := by decide +kernel
theorem dX5_see_17 : decode cX5_see 17 = .ok (.ifCond .ne 6, 3) := by decide +kernel
theorem dX5_see_20 : decode cX5_see 20 = .ok (.bipush (-102), 2) := by decide +kernel
theorem dX5_see_22 : decode cX5_see 22 = .ok (.ireturn, 1) := by decide +kernel
theorem dX5_see_23 : decode cX5_see 23 = .ok (.aload_n 0, 1) := by decide +kernel
theorem dX5_see_24 : decode cX5_see 24 = .ok (.getfield 110, 3) := by decide +kernel
theorem dX5_see_27 : decode cX5_see 27 = .ok (.bipush 6, 2) := by decide +kernel
theorem dX5_see_29 : decode cX5_see 29 = .ok (.if_icmp .ne 6, 3) := by decide +kernel
theorem dX5_see_32 : decode cX5_see 32 = .ok (.bipush (-104), 2) := by decide +kernel
theorem dX5_see_34 : decode cX5_see 34 = .ok (.ireturn, 1) := by decide +kernel
theorem dX5_see_35 : decode cX5_see 35 = .ok (.aload_n 0, 1) := by decide +kernel
theorem dX5_see_36 : decode cX5_see 36 = .ok (.getfield 16, 3) := by decide +kernel
theorem dX5_see_39 : decode cX5_see 39 = .ok (.aload_n 0, 1) := by decide +kernel
theorem dX5_see_40 : decode cX5_see 40 = .ok (.getfield 110, 3) := by decide +kernel
theorem dX5_see_43 : decode cX5_see 43 = .ok (.iload_n 1, 1) := by decide +kernel
theorem dX5_see_44 : decode cX5_see 44 = .ok (.iastore, 1) := by decide +kernel
theorem dX5_see_45 : decode cX5_see 45 = .ok (.aload_n 0, 1) := by decide +kernel
theorem dX5_see_46 : decode cX5_see 46 = .ok (.getfield 19, 3) := by decide +kernel
theorem dX5_see_49 : decode cX5_see 49 = .ok (.aload_n 0, 1) := by decide +kernel
theorem dX5_see_50 : decode cX5_see 50 = .ok (.getfield 110, 3) := by decide +kernel
theorem dX5_see_53 : decode cX5_see 53 = .ok (.iload_n 2, 1) := by decide +kernel
theorem dX5_see_54 : decode cX5_see 54 = .ok (.iastore, 1) := by decide +kernel
theorem dX5_see_55 : decode cX5_see 55 = .ok (.aload_n 0, 1) := by decide +kernel
theorem dX5_see_56 : decode cX5_see 56 = .ok (.getfield 22, 3) := by decide +kernel
theorem dX5_see_59 : decode cX5_see 59 = .ok (.aload_n 0, 1) := by decide +kernel
theorem dX5_see_60 : decode cX5_see 60 = .ok (.getfield 110, 3) := by decide +kernel
theorem dX5_see_63 : decode cX5_see 63 = .ok (.iload_n 3, 1) := by decide +kernel
theorem dX5_see_64 : decode cX5_see 64 = .ok (.ifCond .eq 7, 3) := by decide +kernel
theorem dX5_see_67 : decode cX5_see 67 = .ok (.iconst 1, 1) := by decide +kernel
theorem dX5_see_68 : decode cX5_see 68 = .ok (.goto 4, 3) := by decide +kernel
theorem dX5_see_71 : decode cX5_see 71 = .ok (.iconst 0, 1) := by decide +kernel
theorem dX5_see_72 : decode cX5_see 72 = .ok (.iastore, 1) := by decide +kernel
theorem dX5_see_73 : decode cX5_see 73 = .ok (.aload_n 0, 1) := by decide +kernel
theorem dX5_see_74 : decode cX5_see 74 = .ok (.dup, 1) := by decide +kernel
theorem dX5_see_75 : decode cX5_see 75 = .ok (.getfield 110, 3) := by decide +kernel
theorem dX5_see_78 : decode cX5_see 78 = .ok (.iconst 1, 1) := by decide +kernel
theorem dX5_see_79 : decode cX5_see 79 = .ok (.iadd, 1) := by decide +kernel
theorem dX5_see_80 : decode cX5_see 80 = .ok (.putfield 110, 3) := by decide +kernel
theorem dX5_see_83 : decode cX5_see 83 = .ok (.aload_n 0, 1) := by decide +kernel
theorem dX5_see_84 : decode cX5_see 84 = .ok (.getfield 110, 3) := by decide +kernel
theorem dX5_see_87 : decode cX5_see 87 = .ok (.ireturn, 1) := by decide +kernel
theorem dX5_forget_0 : decode cX5_forget 0 = .ok (.aload_n 0, 1) := by decide +kernel
theorem dX5_forget_1 : decode cX5_forget 1 = .ok (.getfield 110, 3) := by decide +kernel
theorem dX5_forget_4 : decode cX5_forget 4 = .ok (.istore_n 1, 1) := by decide +kernel
theorem dX5_forget_5 : decode cX5_forget 5 = .ok (.aload_n 0, 1) := by decide +kernel
theorem dX5_forget_6 : decode cX5_forget 6 = .ok (.iconst 0, 1) := by decide +kernel
theorem dX5_forget_7 : decode cX5_forget 7 = .ok (.putfield 110, 3) := by decide +kernel
theorem dX5_forget_10 : decode cX5_forget 10 = .ok (.iload_n 1, 1) := by decide +kernel
theorem dX5_forget_11 : decode cX5_forget 11 = .ok (.ireturn, 1) := by decide +kernel
theorem dX5_sortsOf_0 : decode cX5_sortsOf 0 = .ok (.iconst 0, 1) := by decide +kernel
theorem dX5_sortsOf_1 : decode cX5_sortsOf 1 = .ok (.istore_n 2, 1) := by decide +kernel
theorem dX5_sortsOf_2 : decode cX5_sortsOf 2 = .ok (.iconst 0, 1) := by decide +kernel
theorem dX5_sortsOf_3 : decode cX5_sortsOf 3 = .ok (.istore_n 3, 1) := by decide +kernel
theorem dX5_sortsOf_4 : decode cX5_sortsOf 4 = .ok (.iload_n 3, 1) := by decide +kernel
theorem dX5_sortsOf_5 : decode cX5_sortsOf 5 = .ok (.iconst 4, 1) := by decide +kernel
theorem dX5_sortsOf_6 : decode cX5_sortsOf 6 = .ok (.if_icmp .gt 98, 3) := by decide +kernel
theorem dX5_sortsOf_9 : decode cX5_sortsOf 9 = .ok (.iconst 1, 1) := by decide +kernel
theorem dX5_sortsOf_10 : decode cX5_sortsOf 10 = .ok (.istore 4, 2) := by decide +kernel
theorem dX5_sortsOf_12 : decode cX5_sortsOf 12 = .ok (.iconst 0, 1) := by decide +kernel
theorem dX5_sortsOf_13 : decode cX5_sortsOf 13 = .ok (.istore 5, 2) := by decide +kernel
theorem dX5_sortsOf_15 : decode cX5_sortsOf 15 = .ok (.iload 5, 2) := by decide +kernel
theorem dX5_sortsOf_17 : decode cX5_sortsOf 17 = .ok (.aload_n 0, 1) := by decide +kernel
theorem dX5_sortsOf_18 : decode cX5_sortsOf 18 = .ok (.getfield 110, 3) := by decide +kernel
theorem dX5_sortsOf_21 : decode cX5_sortsOf 21 = .ok (.if_icmp .ge 62, 3) := by decide +kernel
theorem dX5_sortsOf_24 : decode cX5_sortsOf 24 = .ok (.iload 4, 2) := by decide +kernel
theorem dX5_sortsOf_26 : decode cX5_sortsOf 26 = .ok (.ifCond .eq 48, 3) := by decide +kernel
theorem dX5_sortsOf_29 : decode cX5_sortsOf 29 = .ok (.aload_n 0, 1) := by decide +kernel
theorem dX5_sortsOf_30 : decode cX5_sortsOf 30 = .ok (.getfield 16, 3) := by decide +kernel
theorem dX5_sortsOf_33 : decode cX5_sortsOf 33 = .ok (.iload 5, 2) := by decide +kernel
theorem dX5_sortsOf_35 : decode cX5_sortsOf 35 = .ok (.iaload, 1) := by decide +kernel
theorem dX5_sortsOf_36 : decode cX5_sortsOf 36 = .ok (.iload_n 1, 1) := by decide +kernel
theorem dX5_sortsOf_37 : decode cX5_sortsOf 37 = .ok (.if_icmp .ne 33, 3) := by decide +kernel
theorem dX5_sortsOf_40 : decode cX5_sortsOf 40 = .ok (.iload_n 3, 1) := by decide +kernel
theorem dX5_sortsOf_41 : decode cX5_sortsOf 41 = .ok (.aload_n 0, 1) := by decide +kernel
theorem dX5_sortsOf_42 : decode cX5_sortsOf 42 = .ok (.getfield 19, 3) := by decide +kernel
theorem dX5_sortsOf_45 : decode cX5_sortsOf 45 = .ok (.iload 5, 2) := by decide +kernel
theorem dX5_sortsOf_47 : decode cX5_sortsOf 47 = .ok (.iaload, 1) := by decide +kernel
theorem dX5_sortsOf_48 : decode cX5_sortsOf 48 = .ok (.invokestatic 203, 3) := by decide +kernel
theorem dX5_sortsOf_51 : decode cX5_sortsOf 51 = .ok (.aload_n 0, 1) := by decide +kernel
theorem dX5_sortsOf_52 : decode cX5_sortsOf 52 = .ok (.getfield 22, 3) := by decide +kernel
theorem dX5_sortsOf_55 : decode cX5_sortsOf 55 = .ok (.iload 5, 2) := by decide +kernel
theorem dX5_sortsOf_57 : decode cX5_sortsOf 57 = .ok (.iaload, 1) := by decide +kernel
theorem dX5_sortsOf_58 : decode cX5_sortsOf 58 = .ok (.iconst 1, 1) := by decide +kernel
theorem dX5_sortsOf_59 : decode cX5_sortsOf 59 = .ok (.if_icmp .ne 7, 3) := by decide +kernel
theorem dX5_sortsOf_62 : decode cX5_sortsOf 62 = .ok (.iconst 1, 1) := by decide +kernel
theorem dX5_sortsOf_63 : decode cX5_sortsOf 63 = .ok (.goto 4, 3) := by decide +kernel
theorem dX5_sortsOf_66 : decode cX5_sortsOf 66 = .ok (.iconst 0, 1) := by decide +kernel
theorem dX5_sortsOf_67 : decode cX5_sortsOf 67 = .ok (.if_icmp .ne 7, 3) := by decide +kernel
theorem dX5_sortsOf_70 : decode cX5_sortsOf 70 = .ok (.iconst 1, 1) := by decide +kernel
theorem dX5_sortsOf_71 : decode cX5_sortsOf 71 = .ok (.goto 4, 3) := by decide +kernel
theorem dX5_sortsOf_74 : decode cX5_sortsOf 74 = .ok (.iconst 0, 1) := by decide +kernel
theorem dX5_sortsOf_75 : decode cX5_sortsOf 75 = .ok (.istore 4, 2) := by decide +kernel
theorem dX5_sortsOf_77 : decode cX5_sortsOf 77 = .ok (.iinc 5 1, 3) := by decide +kernel
theorem dX5_sortsOf_80 : decode cX5_sortsOf 80 = .ok (.goto (-65), 3) := by decide +kernel
theorem dX5_sortsOf_83 : decode cX5_sortsOf 83 = .ok (.iload_n 2, 1) := by decide +kernel
theorem dX5_sortsOf_84 : decode cX5_sortsOf 84 = .ok (.iload 4, 2) := by decide +kernel
theorem dX5_sortsOf_86 : decode cX5_sortsOf 86 = .ok (.ifCond .eq 9, 3) := by decide +kernel
theorem dX5_sortsOf_89 : decode cX5_sortsOf 89 = .ok (.iconst 1, 1) := by decide +kernel
theorem dX5_sortsOf_90 : decode cX5_sortsOf 90 = .ok (.iload_n 3, 1) := by decide +kernel
theorem dX5_sortsOf_91 : decode cX5_sortsOf 91 = .ok (.ishl, 1) := by decide +kernel
theorem dX5_sortsOf_92 : decode cX5_sortsOf 92 = .ok (.goto 4, 3) := by decide +kernel
theorem dX5_sortsOf_95 : decode cX5_sortsOf 95 = .ok (.iconst 0, 1) := by decide +kernel
theorem dX5_sortsOf_96 : decode cX5_sortsOf 96 = .ok (.ior, 1) := by decide +kernel
theorem dX5_sortsOf_97 : decode cX5_sortsOf 97 = .ok (.istore_n 2, 1) := by decide +kernel
theorem dX5_sortsOf_98 : decode cX5_sortsOf 98 = .ok (.iinc 3 1, 3) := by decide +kernel
theorem dX5_sortsOf_101 : decode cX5_sortsOf 101 = .ok (.goto (-97), 3) := by decide +kernel
theorem dX5_sortsOf_104 : decode cX5_sortsOf 104 = .ok (.iload_n 2, 1) := by decide +kernel
theorem dX5_sortsOf_105 : decode cX5_sortsOf 105 = .ok (.ireturn, 1) := by decide +kernel
theorem dX5_askOf_0 : decode cX5_askOf 0 = .ok (.aload_n 0, 1) := by decide +kernel
theorem dX5_askOf_1 : decode cX5_askOf 1 = .ok (.iload_n 1, 1) := by decide +kernel
theorem dX5_askOf_2 : decode cX5_askOf 2 = .ok (.invokevirtual 140, 3) := by decide +kernel
theorem dX5_askOf_5 : decode cX5_askOf 5 = .ok (.istore_n 2, 1) := by decide +kernel
theorem dX5_askOf_6 : decode cX5_askOf 6 = .ok (.iconst (-1), 1) := by decide +kernel
theorem dX5_askOf_7 : decode cX5_askOf 7 = .ok (.istore_n 3, 1) := by decide +kernel
theorem dX5_askOf_8 : decode cX5_askOf 8 = .ok (.ldc 183, 2) := by decide +kernel
theorem dX5_askOf_10 : decode cX5_askOf 10 = .ok (.istore 4, 2) := by decide +kernel
theorem dX5_askOf_12 : decode cX5_askOf 12 = .ok (.iconst 0, 1) := by decide +kernel
theorem dX5_askOf_13 : decode cX5_askOf 13 = .ok (.istore 5, 2) := by decide +kernel
theorem dX5_askOf_15 : decode cX5_askOf 15 = .ok (.iload 5, 2) := by decide +kernel
theorem dX5_askOf_17 : decode cX5_askOf 17 = .ok (.iconst 3, 1) := by decide +kernel
theorem dX5_askOf_18 : decode cX5_askOf 18 = .ok (.if_icmp .ge 138, 3) := by decide +kernel
theorem dX5_askOf_21 : decode cX5_askOf 21 = .ok (.iload_n 2, 1) := by decide +kernel
theorem dX5_askOf_22 : decode cX5_askOf 22 = .ok (.ifCond .eq 134, 3) := by decide +kernel
theorem dX5_askOf_25 : decode cX5_askOf 25 = .ok (.iconst 0, 1) := by decide +kernel
theorem dX5_askOf_26 : decode cX5_askOf 26 = .ok (.istore 6, 2) := by decide +kernel
theorem dX5_askOf_28 : decode cX5_askOf 28 = .ok (.iconst 0, 1) := by decide +kernel
theorem dX5_askOf_29 : decode cX5_askOf 29 = .ok (.istore 7, 2) := by decide +kernel
theorem dX5_askOf_31 : decode cX5_askOf 31 = .ok (.iconst 0, 1) := by decide +kernel
theorem dX5_askOf_32 : decode cX5_askOf 32 = .ok (.istore 8, 2) := by decide +kernel
theorem dX5_askOf_34 : decode cX5_askOf 34 = .ok (.iload 8, 2) := by decide +kernel
theorem dX5_askOf_36 : decode cX5_askOf 36 = .ok (.iconst 4, 1) := by decide +kernel
theorem dX5_askOf_37 : decode cX5_askOf 37 = .ok (.if_icmp .gt 67, 3) := by decide +kernel
theorem dX5_askOf_40 : decode cX5_askOf 40 = .ok (.iload 6, 2) := by decide +kernel
theorem dX5_askOf_42 : decode cX5_askOf 42 = .ok (.iload_n 2, 1) := by decide +kernel
theorem dX5_askOf_43 : decode cX5_askOf 43 = .ok (.iload 8, 2) := by decide +kernel
theorem dX5_askOf_45 : decode cX5_askOf 45 = .ok (.invokestatic 206, 3) := by decide +kernel
theorem dX5_askOf_48 : decode cX5_askOf 48 = .ok (.ifCond .eq 17, 3) := by decide +kernel
theorem dX5_askOf_51 : decode cX5_askOf 51 = .ok (.iload 8, 2) := by decide +kernel
theorem dX5_askOf_53 : decode cX5_askOf 53 = .ok (.iload 5, 2) := by decide +kernel
theorem dX5_askOf_55 : decode cX5_askOf 55 = .ok (.invokestatic 203, 3) := by decide +kernel
theorem dX5_askOf_58 : decode cX5_askOf 58 = .ok (.ifCond .eq 7, 3) := by decide +kernel
theorem dX5_askOf_61 : decode cX5_askOf 61 = .ok (.iconst 1, 1) := by decide +kernel
theorem dX5_askOf_62 : decode cX5_askOf 62 = .ok (.goto 4, 3) := by decide +kernel
theorem dX5_askOf_65 : decode cX5_askOf 65 = .ok (.iconst 0, 1) := by decide +kernel
theorem dX5_askOf_66 : decode cX5_askOf 66 = .ok (.iadd, 1) := by decide +kernel
theorem dX5_askOf_67 : decode cX5_askOf 67 = .ok (.istore 6, 2) := by decide +kernel
theorem dX5_askOf_69 : decode cX5_askOf 69 = .ok (.iload 7, 2) := by decide +kernel
theorem dX5_askOf_71 : decode cX5_askOf 71 = .ok (.iload_n 2, 1) := by decide +kernel
theorem dX5_askOf_72 : decode cX5_askOf 72 = .ok (.iload 8, 2) := by decide +kernel
theorem dX5_askOf_74 : decode cX5_askOf 74 = .ok (.invokestatic 206, 3) := by decide +kernel
theorem dX5_askOf_77 : decode cX5_askOf 77 = .ok (.ifCond .eq 17, 3) := by decide +kernel
theorem dX5_askOf_80 : decode cX5_askOf 80 = .ok (.iload 8, 2) := by decide +kernel
theorem dX5_askOf_82 : decode cX5_askOf 82 = .ok (.iload 5, 2) := by decide +kernel
theorem dX5_askOf_84 : decode cX5_askOf 84 = .ok (.invokestatic 203, 3) := by decide +kernel
theorem dX5_askOf_87 : decode cX5_askOf 87 = .ok (.ifCond .ne 7, 3) := by decide +kernel
theorem dX5_askOf_90 : decode cX5_askOf 90 = .ok (.iconst 1, 1) := by decide +kernel
theorem dX5_askOf_91 : decode cX5_askOf 91 = .ok (.goto 4, 3) := by decide +kernel
theorem dX5_askOf_94 : decode cX5_askOf 94 = .ok (.iconst 0, 1) := by decide +kernel
theorem dX5_askOf_95 : decode cX5_askOf 95 = .ok (.iadd, 1) := by decide +kernel
theorem dX5_askOf_96 : decode cX5_askOf 96 = .ok (.istore 7, 2) := by decide +kernel
theorem dX5_askOf_98 : decode cX5_askOf 98 = .ok (.iinc 8 1, 3) := by decide +kernel
theorem dX5_askOf_101 : decode cX5_askOf 101 = .ok (.goto (-67), 3) := by decide +kernel
theorem dX5_askOf_104 : decode cX5_askOf 104 = .ok (.iload 6, 2) := by decide +kernel
theorem dX5_askOf_106 : decode cX5_askOf 106 = .ok (.iload 7, 2) := by decide +kernel
theorem dX5_askOf_108 : decode cX5_askOf 108 = .ok (.if_icmp .le 8, 3) := by decide +kernel
theorem dX5_askOf_111 : decode cX5_askOf 111 = .ok (.iload 6, 2) := by decide +kernel
theorem dX5_askOf_113 : decode cX5_askOf 113 = .ok (.goto 5, 3) := by decide +kernel
theorem dX5_askOf_116 : decode cX5_askOf 116 = .ok (.iload 7, 2) := by decide +kernel
theorem dX5_askOf_118 : decode cX5_askOf 118 = .ok (.istore 8, 2) := by decide +kernel
theorem dX5_askOf_120 : decode cX5_askOf 120 = .ok (.iload 8, 2) := by decide +kernel
theorem dX5_askOf_122 : decode cX5_askOf 122 = .ok (.iload 4, 2) := by decide +kernel
theorem dX5_askOf_124 : decode cX5_askOf 124 = .ok (.if_icmp .ge 8, 3) := by decide +kernel
theorem dX5_askOf_127 : decode cX5_askOf 127 = .ok (.iload 5, 2) := by decide +kernel
theorem dX5_askOf_129 : decode cX5_askOf 129 = .ok (.goto 4, 3) := by decide +kernel
theorem dX5_askOf_132 : decode cX5_askOf 132 = .ok (.iload_n 3, 1) := by decide +kernel
theorem dX5_askOf_133 : decode cX5_askOf 133 = .ok (.istore_n 3, 1) := by decide +kernel
theorem dX5_askOf_134 : decode cX5_askOf 134 = .ok (.iload 8, 2) := by decide +kernel
theorem dX5_askOf_136 : decode cX5_askOf 136 = .ok (.iload 4, 2) := by decide +kernel
theorem dX5_askOf_138 : decode cX5_askOf 138 = .ok (.if_icmp .ge 8, 3) := by decide +kernel
theorem dX5_askOf_141 : decode cX5_askOf 141 = .ok (.iload 8, 2) := by decide +kernel
theorem dX5_askOf_143 : decode cX5_askOf 143 = .ok (.goto 5, 3) := by decide +kernel
theorem dX5_askOf_146 : decode cX5_askOf 146 = .ok (.iload 4, 2) := by decide +kernel
theorem dX5_askOf_148 : decode cX5_askOf 148 = .ok (.istore 4, 2) := by decide +kernel
theorem dX5_askOf_150 : decode cX5_askOf 150 = .ok (.iinc 5 1, 3) := by decide +kernel
theorem dX5_askOf_153 : decode cX5_askOf 153 = .ok (.goto (-138), 3) := by decide +kernel
theorem dX5_askOf_156 : decode cX5_askOf 156 = .ok (.iload_n 3, 1) := by decide +kernel
theorem dX5_askOf_157 : decode cX5_askOf 157 = .ok (.ireturn, 1) := by decide +kernel
theorem dX5_draw_0 : decode cX5_draw 0 = .ok (.aload_n 0, 1) := by decide +kernel
theorem dX5_draw_1 : decode cX5_draw 1 = .ok (.ldc2_w 209, 3) := by decide +kernel
theorem dX5_draw_4 : decode cX5_draw 4 = .ok (.aload_n 0, 1) := by decide +kernel
theorem dX5_draw_5 : decode cX5_draw 5 = .ok (.getfield 211, 3) := by decide +kernel
theorem dX5_draw_8 : decode cX5_draw 8 = .ok (.lmul, 1) := by decide +kernel
theorem dX5_draw_9 : decode cX5_draw 9 = .ok (.ldc2_w 215, 3) := by decide +kernel
theorem dX5_draw_12 : decode cX5_draw 12 = .ok (.ladd, 1) := by decide +kernel
theorem dX5_draw_13 : decode cX5_draw 13 = .ok (.ldc2_w 217, 3) := by decide +kernel
theorem dX5_draw_16 : decode cX5_draw 16 = .ok (.land, 1) := by decide +kernel
theorem dX5_draw_17 : decode cX5_draw 17 = .ok (.putfield 211, 3) := by decide +kernel
theorem dX5_draw_20 : decode cX5_draw 20 = .ok (.aload_n 0, 1) := by decide +kernel
theorem dX5_draw_21 : decode cX5_draw 21 = .ok (.getfield 211, 3) := by decide +kernel
theorem dX5_draw_24 : decode cX5_draw 24 = .ok (.ldc2_w 219, 3) := by decide +kernel
theorem dX5_draw_27 : decode cX5_draw 27 = .ok (.ldiv, 1) := by decide +kernel
theorem dX5_draw_28 : decode cX5_draw 28 = .ok (.iload_n 1, 1) := by decide +kernel
theorem dX5_draw_29 : decode cX5_draw 29 = .ok (.i2l, 1) := by decide +kernel
theorem dX5_draw_30 : decode cX5_draw 30 = .ok (.lrem, 1) := by decide +kernel
theorem dX5_draw_31 : decode cX5_draw 31 = .ok (.l2i, 1) := by decide +kernel
theorem dX5_draw_32 : decode cX5_draw 32 = .ok (.ireturn, 1) := by decide +kernel
theorem dX5_paintingsNow_0 : decode cX5_paintingsNow 0 = .ok (.aload_n 0, 1) := by decide +kernel
theorem dX5_paintingsNow_1 : decode cX5_paintingsNow 1 = .ok (.iload_n 2, 1) := by decide +kernel
theorem dX5_paintingsNow_2 : decode cX5_paintingsNow 2 = .ok (.i2l, 1) := by decide +kernel
theorem dX5_paintingsNow_3 : decode cX5_paintingsNow 3 = .ok (.putfield 211, 3) := by decide +kernel
theorem dX5_paintingsNow_6 : decode cX5_paintingsNow 6 = .ok (.iconst 0, 1) := by decide +kernel
theorem dX5_paintingsNow_7 : decode cX5_paintingsNow 7 = .ok (.istore 4, 2) := by decide +kernel
theorem dX5_paintingsNow_9 : decode cX5_paintingsNow 9 = .ok (.iconst 0, 1) := by decide +kernel
theorem dX5_paintingsNow_10 : decode cX5_paintingsNow 10 = .ok (.istore 5, 2) := by decide +kernel
theorem dX5_paintingsNow_12 : decode cX5_paintingsNow 12 = .ok (.iconst 0, 1) := by decide +kernel
theorem dX5_paintingsNow_13 : decode cX5_paintingsNow 13 = .ok (.istore 6, 2) := by decide +kernel
theorem dX5_paintingsNow_15 : decode cX5_paintingsNow 15 = .ok (.iload 6, 2) := by decide +kernel
theorem dX5_paintingsNow_17 : decode cX5_paintingsNow 17 = .ok (.iload_n 1, 1) := by decide +kernel
theorem dX5_paintingsNow_18 : decode cX5_paintingsNow 18 = .ok (.if_icmp .ge 99, 3) := by decide +kernel
theorem dX5_paintingsNow_21 : decode cX5_paintingsNow 21 = .ok (.aload_n 0, 1) := by decide +kernel
theorem dX5_paintingsNow_22 : decode cX5_paintingsNow 22 = .ok (.invokevirtual 128, 3) := by decide +kernel
theorem dX5_paintingsNow_25 : decode cX5_paintingsNow 25 = .ok (.iconst 1, 1) := by decide +kernel
theorem dX5_paintingsNow_26 : decode cX5_paintingsNow 26 = .ok (.istore 7, 2) := by decide +kernel
theorem dX5_paintingsNow_28 : decode cX5_paintingsNow 28 = .ok (.iload 7, 2) := by decide +kernel
theorem dX5_paintingsNow_30 : decode cX5_paintingsNow 30 = .ok (.aload_n 0, 1) := by decide +kernel
theorem dX5_paintingsNow_31 : decode cX5_paintingsNow 31 = .ok (.getfield 101, 3) := by decide +kernel
theorem dX5_paintingsNow_34 : decode cX5_paintingsNow 34 = .ok (.if_icmp .gt 45, 3) := by decide +kernel
theorem dX5_paintingsNow_37 : decode cX5_paintingsNow 37 = .ok (.aload_n 0, 1) := by decide +kernel
theorem dX5_paintingsNow_38 : decode cX5_paintingsNow 38 = .ok (.getfield 29, 3) := by decide +kernel
theorem dX5_paintingsNow_41 : decode cX5_paintingsNow 41 = .ok (.iload 7, 2) := by decide +kernel
theorem dX5_paintingsNow_43 : decode cX5_paintingsNow 43 = .ok (.aload_n 0, 1) := by decide +kernel
theorem dX5_paintingsNow_44 : decode cX5_paintingsNow 44 = .ok (.getfield 29, 3) := by decide +kernel
theorem dX5_paintingsNow_47 : decode cX5_paintingsNow 47 = .ok (.iload 7, 2) := by decide +kernel
theorem dX5_paintingsNow_49 : decode cX5_paintingsNow 49 = .ok (.iaload, 1) := by decide +kernel
theorem dX5_paintingsNow_50 : decode cX5_paintingsNow 50 = .ok (.iconst (-1), 1) := by decide +kernel
theorem dX5_paintingsNow_51 : decode cX5_paintingsNow 51 = .ok (.if_icmp .ne 14, 3) := by decide +kernel
theorem dX5_paintingsNow_54 : decode cX5_paintingsNow 54 = .ok (.aload_n 0, 1) := by decide +kernel
theorem dX5_paintingsNow_55 : decode cX5_paintingsNow 55 = .ok (.aload_n 0, 1) := by decide +kernel
theorem dX5_paintingsNow_56 : decode cX5_paintingsNow 56 = .ok (.getfield 98, 3) := by decide +kernel
theorem dX5_paintingsNow_59 : decode cX5_paintingsNow 59 = .ok (.invokevirtual 221, 3) := by decide +kernel
theorem dX5_paintingsNow_62 : decode cX5_paintingsNow 62 = .ok (.goto 10, 3) := by decide +kernel
theorem dX5_paintingsNow_65 : decode cX5_paintingsNow 65 = .ok (.aload_n 0, 1) := by decide +kernel
theorem dX5_paintingsNow_66 : decode cX5_paintingsNow 66 = .ok (.getfield 29, 3) := by decide +kernel
theorem dX5_paintingsNow_69 : decode cX5_paintingsNow 69 = .ok (.iload 7, 2) := by decide +kernel
theorem dX5_paintingsNow_71 : decode cX5_paintingsNow 71 = .ok (.iaload, 1) := by decide +kernel
theorem dX5_paintingsNow_72 : decode cX5_paintingsNow 72 = .ok (.iastore, 1) := by decide +kernel
theorem dX5_paintingsNow_73 : decode cX5_paintingsNow 73 = .ok (.iinc 7 1, 3) := by decide +kernel
theorem dX5_paintingsNow_76 : decode cX5_paintingsNow 76 = .ok (.goto (-48), 3) := by decide +kernel
theorem dX5_paintingsNow_79 : decode cX5_paintingsNow 79 = .ok (.aload_n 0, 1) := by decide +kernel
theorem dX5_paintingsNow_80 : decode cX5_paintingsNow 80 = .ok (.aload_n 0, 1) := by decide +kernel
theorem dX5_paintingsNow_81 : decode cX5_paintingsNow 81 = .ok (.getfield 101, 3) := by decide +kernel
theorem dX5_paintingsNow_84 : decode cX5_paintingsNow 84 = .ok (.invokevirtual 131, 3) := by decide +kernel
theorem dX5_paintingsNow_87 : decode cX5_paintingsNow 87 = .ok (.istore 7, 2) := by decide +kernel
theorem dX5_paintingsNow_89 : decode cX5_paintingsNow 89 = .ok (.iload 4, 2) := by decide +kernel
theorem dX5_paintingsNow_91 : decode cX5_paintingsNow 91 = .ok (.iload 7, 2) := by decide +kernel
theorem dX5_paintingsNow_93 : decode cX5_paintingsNow 93 = .ok (.ifCond .ne 7, 3) := by decide +kernel
theorem dX5_paintingsNow_96 : decode cX5_paintingsNow 96 = .ok (.iconst 1, 1) := by decide +kernel
theorem dX5_paintingsNow_97 : decode cX5_paintingsNow 97 = .ok (.goto 4, 3) := by decide +kernel
theorem dX5_paintingsNow_100 : decode cX5_paintingsNow 100 = .ok (.iconst 0, 1) := by decide +kernel
theorem dX5_paintingsNow_101 : decode cX5_paintingsNow 101 = .ok (.iadd, 1) := by decide +kernel
theorem dX5_paintingsNow_102 : decode cX5_paintingsNow 102 = .ok (.istore 4, 2) := by decide +kernel
theorem dX5_paintingsNow_104 : decode cX5_paintingsNow 104 = .ok (.iload 5, 2) := by decide +kernel
theorem dX5_paintingsNow_106 : decode cX5_paintingsNow 106 = .ok (.iload 7, 2) := by decide +kernel
theorem dX5_paintingsNow_108 : decode cX5_paintingsNow 108 = .ok (.iadd, 1) := by decide +kernel
theorem dX5_paintingsNow_109 : decode cX5_paintingsNow 109 = .ok (.istore 5, 2) := by decide +kernel
theorem dX5_paintingsNow_111 : decode cX5_paintingsNow 111 = .ok (.iinc 6 1, 3) := by decide +kernel
theorem dX5_paintingsNow_114 : decode cX5_paintingsNow 114 = .ok (.goto (-99), 3) := by decide +kernel
theorem dX5_paintingsNow_117 : decode cX5_paintingsNow 117 = .ok (.iload_n 3, 1) := by decide +kernel
theorem dX5_paintingsNow_118 : decode cX5_paintingsNow 118 = .ok (.ifCond .ne 8, 3) := by decide +kernel
theorem dX5_paintingsNow_121 : decode cX5_paintingsNow 121 = .ok (.iload 4, 2) := by decide +kernel
theorem dX5_paintingsNow_123 : decode cX5_paintingsNow 123 = .ok (.goto 18, 3) := by decide +kernel
theorem dX5_paintingsNow_126 : decode cX5_paintingsNow 126 = .ok (.iload_n 3, 1) := by decide +kernel
theorem dX5_paintingsNow_127 : decode cX5_paintingsNow 127 = .ok (.iconst 1, 1) := by decide +kernel
theorem dX5_paintingsNow_128 : decode cX5_paintingsNow 128 = .ok (.if_icmp .ne 8, 3) := by decide +kernel
theorem dX5_paintingsNow_131 : decode cX5_paintingsNow 131 = .ok (.iload 5, 2) := by decide +kernel
theorem dX5_paintingsNow_133 : decode cX5_paintingsNow 133 = .ok (.goto 8, 3) := by decide +kernel
theorem dX5_paintingsNow_136 : decode cX5_paintingsNow 136 = .ok (.aload_n 0, 1) := by decide +kernel
theorem dX5_paintingsNow_137 : decode cX5_paintingsNow 137 = .ok (.getfield 211, 3) := by decide +kernel
theorem dX5_paintingsNow_140 : decode cX5_paintingsNow 140 = .ok (.l2i, 1) := by decide +kernel
theorem dX5_paintingsNow_141 : decode cX5_paintingsNow 141 = .ok (.ireturn, 1) := by decide +kernel
theorem dX5_paintings_0 : decode cX5_paintings 0 = .ok (.iload_n 1, 1) := by decide +kernel
theorem dX5_paintings_1 : decode cX5_paintings 1 = .ok (.iconst 1, 1) := by decide +kernel
theorem dX5_paintings_2 : decode cX5_paintings 2 = .ok (.bipush 40, 2) := by decide +kernel
theorem dX5_paintings_4 : decode cX5_paintings 4 = .ok (.invokestatic 65, 3) := by decide +kernel
theorem dX5_paintings_7 : decode cX5_paintings 7 = .ok (.ifCond .eq 16, 3) := by decide +kernel
theorem dX5_paintings_10 : decode cX5_paintings 10 = .ok (.iload_n 2, 1) := by decide +kernel
theorem dX5_paintings_11 : decode cX5_paintings 11 = .ok (.ifCond .lt 12, 3) := by decide +kernel
theorem dX5_paintings_14 : decode cX5_paintings 14 = .ok (.iload_n 3, 1) := by decide +kernel
theorem dX5_paintings_15 : decode cX5_paintings 15 = .ok (.iconst 0, 1) := by decide +kernel
theorem dX5_paintings_16 : decode cX5_paintings 16 = .ok (.iconst 2, 1) := by decide +kernel
theorem dX5_paintings_17 : decode cX5_paintings 17 = .ok (.invokestatic 65, 3) := by decide +kernel
theorem dX5_paintings_20 : decode cX5_paintings 20 = .ok (.ifCond .ne 6, 3) := by decide +kernel
theorem dX5_paintings_23 : decode cX5_paintings 23 = .ok (.bipush (-102), 2) := by decide +kernel
theorem dX5_paintings_25 : decode cX5_paintings 25 = .ok (.ireturn, 1) := by decide +kernel
theorem dX5_paintings_26 : decode cX5_paintings 26 = .ok (.aload_n 0, 1) := by decide +kernel
theorem dX5_paintings_27 : decode cX5_paintings 27 = .ok (.getfield 101, 3) := by decide +kernel
theorem dX5_paintings_30 : decode cX5_paintings 30 = .ok (.ifCond .ne 8, 3) := by decide +kernel
theorem dX5_paintings_33 : decode cX5_paintings 33 = .ok (.bipush (-103), 2) := by decide +kernel
theorem dX5_paintings_35 : decode cX5_paintings 35 = .ok (.goto 10, 3) := by decide +kernel
theorem dX5_paintings_38 : decode cX5_paintings 38 = .ok (.aload_n 0, 1) := by decide +kernel
theorem dX5_paintings_39 : decode cX5_paintings 39 = .ok (.iload_n 1, 1) := by decide +kernel
theorem dX5_paintings_40 : decode cX5_paintings 40 = .ok (.iload_n 2, 1) := by decide +kernel
theorem dX5_paintings_41 : decode cX5_paintings 41 = .ok (.iload_n 3, 1) := by decide +kernel
theorem dX5_paintings_42 : decode cX5_paintings 42 = .ok (.invokevirtual 224, 3) := by decide +kernel
theorem dX5_paintings_45 : decode cX5_paintings 45 = .ok (.ireturn, 1) := by decide +kernel
theorem dX5_image_0 : decode cX5_image 0 = .ok (.aload_n 0, 1) := by decide +kernel
theorem dX5_image_1 : decode cX5_image 1 = .ok (.getfield 101, 3) := by decide +kernel
theorem dX5_image_4 : decode cX5_image 4 = .ok (.ifCond .ne 6, 3) := by decide +kernel
theorem dX5_image_7 : decode cX5_image 7 = .ok (.bipush (-103), 2) := by decide +kernel
theorem dX5_image_9 : decode cX5_image 9 = .ok (.ireturn, 1) := by decide +kernel
theorem dX5_image_10 : decode cX5_image 10 = .ok (.aload_n 0, 1) := by decide +kernel
theorem dX5_image_11 : decode cX5_image 11 = .ok (.iconst 1, 1) := by decide +kernel
theorem dX5_image_12 : decode cX5_image 12 = .ok (.putfield 227, 3) := by decide +kernel
theorem dX5_image_15 : decode cX5_image 15 = .ok (.aload_n 0, 1) := by decide +kernel
theorem dX5_image_16 : decode cX5_image 16 = .ok (.aload_n 0, 1) := by decide +kernel
theorem dX5_image_17 : decode cX5_image 17 = .ok (.getfield 107, 3) := by decide +kernel
theorem dX5_image_20 : decode cX5_image 20 = .ok (.putfield 230, 3) := by decide +kernel
theorem dX5_image_23 : decode cX5_image 23 = .ok (.aload_n 0, 1) := by decide +kernel
theorem dX5_image_24 : decode cX5_image 24 = .ok (.aload_n 0, 1) := by decide +kernel
theorem dX5_image_25 : decode cX5_image 25 = .ok (.getfield 104, 3) := by decide +kernel
theorem dX5_image_28 : decode cX5_image 28 = .ok (.putfield 233, 3) := by decide +kernel
theorem dX5_image_31 : decode cX5_image 31 = .ok (.aload_n 0, 1) := by decide +kernel
theorem dX5_image_32 : decode cX5_image 32 = .ok (.aload_n 0, 1) := by decide +kernel
theorem dX5_image_33 : decode cX5_image 33 = .ok (.getfield 110, 3) := by decide +kernel
theorem dX5_image_36 : decode cX5_image 36 = .ok (.putfield 236, 3) := by decide +kernel
theorem dX5_image_39 : decode cX5_image 39 = .ok (.iconst 1, 1) := by decide +kernel
theorem dX5_image_40 : decode cX5_image 40 = .ok (.istore_n 1, 1) := by decide +kernel
theorem dX5_image_41 : decode cX5_image 41 = .ok (.iload_n 1, 1) := by decide +kernel
theorem dX5_image_42 : decode cX5_image 42 = .ok (.aload_n 0, 1) := by decide +kernel
theorem dX5_image_43 : decode cX5_image 43 = .ok (.getfield 101, 3) := by decide +kernel
theorem dX5_image_46 : decode cX5_image 46 = .ok (.if_icmp .gt 33, 3) := by decide +kernel
theorem dX5_image_49 : decode cX5_image 49 = .ok (.aload_n 0, 1) := by decide +kernel
theorem dX5_image_50 : decode cX5_image 50 = .ok (.getfield 50, 3) := by decide +kernel
theorem dX5_image_53 : decode cX5_image 53 = .ok (.iload_n 1, 1) := by decide +kernel
theorem dX5_image_54 : decode cX5_image 54 = .ok (.aload_n 0, 1) := by decide +kernel
theorem dX5_image_55 : decode cX5_image 55 = .ok (.getfield 7, 3) := by decide +kernel
theorem dX5_image_58 : decode cX5_image 58 = .ok (.iload_n 1, 1) := by decide +kernel
theorem dX5_image_59 : decode cX5_image 59 = .ok (.iaload, 1) := by decide +kernel
theorem dX5_image_60 : decode cX5_image 60 = .ok (.iastore, 1) := by decide +kernel
theorem dX5_image_61 : decode cX5_image 61 = .ok (.aload_n 0, 1) := by decide +kernel
theorem dX5_image_62 : decode cX5_image 62 = .ok (.getfield 53, 3) := by decide +kernel
theorem dX5_image_65 : decode cX5_image 65 = .ok (.iload_n 1, 1) := by decide +kernel
theorem dX5_image_66 : decode cX5_image 66 = .ok (.aload_n 0, 1) := by decide +kernel
theorem dX5_image_67 : decode cX5_image 67 = .ok (.getfield 13, 3) := by decide +kernel
theorem dX5_image_70 : decode cX5_image 70 = .ok (.iload_n 1, 1) := by decide +kernel
theorem dX5_image_71 : decode cX5_image 71 = .ok (.iaload, 1) := by decide +kernel
theorem dX5_image_72 : decode cX5_image 72 = .ok (.iastore, 1) := by decide +kernel
theorem dX5_image_73 : decode cX5_image 73 = .ok (.iinc 1 1, 3) := by decide +kernel
theorem dX5_image_76 : decode cX5_image 76 = .ok (.goto (-35), 3) := by decide +kernel
theorem dX5_image_79 : decode cX5_image 79 = .ok (.iconst 0, 1) := by decide +kernel
theorem dX5_image_80 : decode cX5_image 80 = .ok (.istore_n 1, 1) := by decide +kernel
theorem dX5_image_81 : decode cX5_image 81 = .ok (.iload_n 1, 1) := by decide +kernel
theorem dX5_image_82 : decode cX5_image 82 = .ok (.bipush 6, 2) := by decide +kernel
theorem dX5_image_84 : decode cX5_image 84 = .ok (.if_icmp .ge 45, 3) := by decide +kernel
theorem dX5_image_87 : decode cX5_image 87 = .ok (.aload_n 0, 1) := by decide +kernel
theorem dX5_image_88 : decode cX5_image 88 = .ok (.getfield 56, 3) := by decide +kernel
theorem dX5_image_91 : decode cX5_image 91 = .ok (.iload_n 1, 1) := by decide +kernel
theorem dX5_image_92 : decode cX5_image 92 = .ok (.aload_n 0, 1) := by decide +kernel
theorem dX5_image_93 : decode cX5_image 93 = .ok (.getfield 16, 3) := by decide +kernel
theorem dX5_image_96 : decode cX5_image 96 = .ok (.iload_n 1, 1) := by decide +kernel
theorem dX5_image_97 : decode cX5_image 97 = .ok (.iaload, 1) := by decide +kernel
theorem dX5_image_98 : decode cX5_image 98 = .ok (.iastore, 1) := by decide +kernel
theorem dX5_image_99 : decode cX5_image 99 = .ok (.aload_n 0, 1) := by decide +kernel
theorem dX5_image_100 : decode cX5_image 100 = .ok (.getfield 59, 3) := by decide +kernel
theorem dX5_image_103 : decode cX5_image 103 = .ok (.iload_n 1, 1) := by decide +kernel
theorem dX5_image_104 : decode cX5_image 104 = .ok (.aload_n 0, 1) := by decide +kernel
theorem dX5_image_105 : decode cX5_image 105 = .ok (.getfield 19, 3) := by decide +kernel
theorem dX5_image_108 : decode cX5_image 108 = .ok (.iload_n 1, 1) := by decide +kernel
theorem dX5_image_109 : decode cX5_image 109 = .ok (.iaload, 1) := by decide +kernel
theorem dX5_image_110 : decode cX5_image 110 = .ok (.iastore, 1) := by decide +kernel
theorem dX5_image_111 : decode cX5_image 111 = .ok (.aload_n 0, 1) := by decide +kernel
theorem dX5_image_112 : decode cX5_image 112 = .ok (.getfield 62, 3) := by decide +kernel
theorem dX5_image_115 : decode cX5_image 115 = .ok (.iload_n 1, 1) := by decide +kernel
theorem dX5_image_116 : decode cX5_image 116 = .ok (.aload_n 0, 1) := by decide +kernel
theorem dX5_image_117 : decode cX5_image 117 = .ok (.getfield 22, 3) := by decide +kernel
theorem dX5_image_120 : decode cX5_image 120 = .ok (.iload_n 1, 1) := by decide +kernel
theorem dX5_image_121 : decode cX5_image 121 = .ok (.iaload, 1) := by decide +kernel
theorem dX5_image_122 : decode cX5_image 122 = .ok (.iastore, 1) := by decide +kernel
theorem dX5_image_123 : decode cX5_image 123 = .ok (.iinc 1 1, 3) := by decide +kernel
theorem dX5_image_126 : decode cX5_image 126 = .ok (.goto (-45), 3) := by decide +kernel
theorem dX5_image_129 : decode cX5_image 129 = .ok (.aload_n 0, 1) := by decide +kernel
theorem dX5_image_130 : decode cX5_image 130 = .ok (.getfield 104, 3) := by decide +kernel
theorem dX5_image_133 : decode cX5_image 133 = .ok (.ireturn, 1) := by decide +kernel
theorem dX5_restore_0 : decode cX5_restore 0 = .ok (.aload_n 0, 1) := by decide +kernel
theorem dX5_restore_1 : decode cX5_restore 1 = .ok (.getfield 227, 3) := by decide +kernel
theorem dX5_restore_4 : decode cX5_restore 4 = .ok (.ifCond .eq 14, 3) := by decide +kernel
theorem dX5_restore_7 : decode cX5_restore 7 = .ok (.aload_n 0, 1) := by decide +kernel
theorem dX5_restore_8 : decode cX5_restore 8 = .ok (.getfield 230, 3) := by decide +kernel
theorem dX5_restore_11 : decode cX5_restore 11 = .ok (.aload_n 0, 1) := by decide +kernel
theorem dX5_restore_12 : decode cX5_restore 12 = .ok (.getfield 107, 3) := by decide +kernel
theorem dX5_restore_15 : decode cX5_restore 15 = .ok (.if_icmp .eq 6, 3) := by decide +kernel
theorem dX5_restore_18 : decode cX5_restore 18 = .ok (.bipush (-103), 2) := by decide +kernel
theorem dX5_restore_20 : decode cX5_restore 20 = .ok (.ireturn, 1) := by decide +kernel
theorem dX5_restore_21 : decode cX5_restore 21 = .ok (.aload_n 0, 1) := by decide +kernel
theorem dX5_restore_22 : decode cX5_restore 22 = .ok (.aload_n 0, 1) := by decide +kernel
theorem dX5_restore_23 : decode cX5_restore 23 = .ok (.getfield 233, 3) := by decide +kernel
theorem dX5_restore_26 : decode cX5_restore 26 = .ok (.putfield 104, 3) := by decide +kernel
theorem dX5_restore_29 : decode cX5_restore 29 = .ok (.aload_n 0, 1) := by decide +kernel
theorem dX5_restore_30 : decode cX5_restore 30 = .ok (.aload_n 0, 1) := by decide +kernel
theorem dX5_restore_31 : decode cX5_restore 31 = .ok (.getfield 236, 3) := by decide +kernel
theorem dX5_restore_34 : decode cX5_restore 34 = .ok (.putfield 110, 3) := by decide +kernel
theorem dX5_restore_37 : decode cX5_restore 37 = .ok (.iconst 1, 1) := by decide +kernel
theorem dX5_restore_38 : decode cX5_restore 38 = .ok (.istore_n 1, 1) := by decide +kernel
theorem dX5_restore_39 : decode cX5_restore 39 = .ok (.iload_n 1, 1) := by decide +kernel
theorem dX5_restore_40 : decode cX5_restore 40 = .ok (.aload_n 0, 1) := by decide +kernel
theorem dX5_restore_41 : decode cX5_restore 41 = .ok (.getfield 101, 3) := by decide +kernel
theorem dX5_restore_44 : decode cX5_restore 44 = .ok (.if_icmp .gt 33, 3) := by decide +kernel
theorem dX5_restore_47 : decode cX5_restore 47 = .ok (.aload_n 0, 1) := by decide +kernel
theorem dX5_restore_48 : decode cX5_restore 48 = .ok (.getfield 7, 3) := by decide +kernel
theorem dX5_restore_51 : decode cX5_restore 51 = .ok (.iload_n 1, 1) := by decide +kernel
theorem dX5_restore_52 : decode cX5_restore 52 = .ok (.aload_n 0, 1) := by decide +kernel
theorem dX5_restore_53 : decode cX5_restore 53 = .ok (.getfield 50, 3) := by decide +kernel
theorem dX5_restore_56 : decode cX5_restore 56 = .ok (.iload_n 1, 1) := by decide +kernel
theorem dX5_restore_57 : decode cX5_restore 57 = .ok (.iaload, 1) := by decide +kernel
theorem dX5_restore_58 : decode cX5_restore 58 = .ok (.iastore, 1) := by decide +kernel
theorem dX5_restore_59 : decode cX5_restore 59 = .ok (.aload_n 0, 1) := by decide +kernel
theorem dX5_restore_60 : decode cX5_restore 60 = .ok (.getfield 13, 3) := by decide +kernel
theorem dX5_restore_63 : decode cX5_restore 63 = .ok (.iload_n 1, 1) := by decide +kernel
theorem dX5_restore_64 : decode cX5_restore 64 = .ok (.aload_n 0, 1) := by decide +kernel
theorem dX5_restore_65 : decode cX5_restore 65 = .ok (.getfield 53, 3) := by decide +kernel
theorem dX5_restore_68 : decode cX5_restore 68 = .ok (.iload_n 1, 1) := by decide +kernel
theorem dX5_restore_69 : decode cX5_restore 69 = .ok (.iaload, 1) := by decide +kernel
theorem dX5_restore_70 : decode cX5_restore 70 = .ok (.iastore, 1) := by decide +kernel
theorem dX5_restore_71 : decode cX5_restore 71 = .ok (.iinc 1 1, 3) := by decide +kernel
theorem dX5_restore_74 : decode cX5_restore 74 = .ok (.goto (-35), 3) := by decide +kernel
theorem dX5_restore_77 : decode cX5_restore 77 = .ok (.iconst 0, 1) := by decide +kernel
theorem dX5_restore_78 : decode cX5_restore 78 = .ok (.istore_n 1, 1) := by decide +kernel
theorem dX5_restore_79 : decode cX5_restore 79 = .ok (.iload_n 1, 1) := by decide +kernel
theorem dX5_restore_80 : decode cX5_restore 80 = .ok (.bipush 6, 2) := by decide +kernel
theorem dX5_restore_82 : decode cX5_restore 82 = .ok (.if_icmp .ge 45, 3) := by decide +kernel
theorem dX5_restore_85 : decode cX5_restore 85 = .ok (.aload_n 0, 1) := by decide +kernel
theorem dX5_restore_86 : decode cX5_restore 86 = .ok (.getfield 16, 3) := by decide +kernel
theorem dX5_restore_89 : decode cX5_restore 89 = .ok (.iload_n 1, 1) := by decide +kernel
theorem dX5_restore_90 : decode cX5_restore 90 = .ok (.aload_n 0, 1) := by decide +kernel
theorem dX5_restore_91 : decode cX5_restore 91 = .ok (.getfield 56, 3) := by decide +kernel
theorem dX5_restore_94 : decode cX5_restore 94 = .ok (.iload_n 1, 1) := by decide +kernel
theorem dX5_restore_95 : decode cX5_restore 95 = .ok (.iaload, 1) := by decide +kernel
theorem dX5_restore_96 : decode cX5_restore 96 = .ok (.iastore, 1) := by decide +kernel
theorem dX5_restore_97 : decode cX5_restore 97 = .ok (.aload_n 0, 1) := by decide +kernel
theorem dX5_restore_98 : decode cX5_restore 98 = .ok (.getfield 19, 3) := by decide +kernel
theorem dX5_restore_101 : decode cX5_restore 101 = .ok (.iload_n 1, 1) := by decide +kernel
theorem dX5_restore_102 : decode cX5_restore 102 = .ok (.aload_n 0, 1) := by decide +kernel
theorem dX5_restore_103 : decode cX5_restore 103 = .ok (.getfield 59, 3) := by decide +kernel
theorem dX5_restore_106 : decode cX5_restore 106 = .ok (.iload_n 1, 1) := by decide +kernel
theorem dX5_restore_107 : decode cX5_restore 107 = .ok (.iaload, 1) := by decide +kernel
theorem dX5_restore_108 : decode cX5_restore 108 = .ok (.iastore, 1) := by decide +kernel
theorem dX5_restore_109 : decode cX5_restore 109 = .ok (.aload_n 0, 1) := by decide +kernel
theorem dX5_restore_110 : decode cX5_restore 110 = .ok (.getfield 22, 3) := by decide +kernel
theorem dX5_restore_113 : decode cX5_restore 113 = .ok (.iload_n 1, 1) := by decide +kernel
theorem dX5_restore_114 : decode cX5_restore 114 = .ok (.aload_n 0, 1) := by decide +kernel
theorem dX5_restore_115 : decode cX5_restore 115 = .ok (.getfield 62, 3) := by decide +kernel
theorem dX5_restore_118 : decode cX5_restore 118 = .ok (.iload_n 1, 1) := by decide +kernel
theorem dX5_restore_119 : decode cX5_restore 119 = .ok (.iaload, 1) := by decide +kernel
theorem dX5_restore_120 : decode cX5_restore 120 = .ok (.iastore, 1) := by decide +kernel
theorem dX5_restore_121 : decode cX5_restore 121 = .ok (.iinc 1 1, 3) := by decide +kernel
theorem dX5_restore_124 : decode cX5_restore 124 = .ok (.goto (-45), 3) := by decide +kernel
theorem dX5_restore_127 : decode cX5_restore 127 = .ok (.aload_n 0, 1) := by decide +kernel
theorem dX5_restore_128 : decode cX5_restore 128 = .ok (.getfield 104, 3) := by decide +kernel
theorem dX5_restore_131 : decode cX5_restore 131 = .ok (.ireturn, 1) := by decide +kernel
theorem dX5_threes_0 : decode cX5_threes 0 = .ok (.iconst 0, 1) := by decide +kernel
theorem dX5_threes_1 : decode cX5_threes 1 = .ok (.istore_n 1, 1) := by decide +kernel
theorem dX5_threes_2 : decode cX5_threes 2 = .ok (.iconst 2, 1) := by decide +kernel
theorem dX5_threes_3 : decode cX5_threes 3 = .ok (.istore_n 2, 1) := by decide +kernel
theorem dX5_threes_4 : decode cX5_threes 4 = .ok (.iload_n 2, 1) := by decide +kernel
theorem dX5_threes_5 : decode cX5_threes 5 = .ok (.aload_n 0, 1) := by decide +kernel
theorem dX5_threes_6 : decode cX5_threes 6 = .ok (.getfield 101, 3) := by decide +kernel
theorem dX5_threes_9 : decode cX5_threes 9 = .ok (.if_icmp .gt 15, 3) := by decide +kernel
theorem dX5_threes_12 : decode cX5_threes 12 = .ok (.iload_n 1, 1) := by decide +kernel
theorem dX5_threes_13 : decode cX5_threes 13 = .ok (.iload_n 2, 1) := by decide +kernel
theorem dX5_threes_14 : decode cX5_threes 14 = .ok (.iconst 2, 1) := by decide +kernel
theorem dX5_threes_15 : decode cX5_threes 15 = .ok (.idiv, 1) := by decide +kernel
theorem dX5_threes_16 : decode cX5_threes 16 = .ok (.iadd, 1) := by decide +kernel
theorem dX5_threes_17 : decode cX5_threes 17 = .ok (.istore_n 1, 1) := by decide +kernel
theorem dX5_threes_18 : decode cX5_threes 18 = .ok (.iinc 2 1, 3) := by decide +kernel
theorem dX5_threes_21 : decode cX5_threes 21 = .ok (.goto (-17), 3) := by decide +kernel
theorem dX5_threes_24 : decode cX5_threes 24 = .ok (.iload_n 1, 1) := by decide +kernel
theorem dX5_threes_25 : decode cX5_threes 25 = .ok (.ireturn, 1) := by decide +kernel
theorem dX5_howMany_0 : decode cX5_howMany 0 = .ok (.iload_n 1, 1) := by decide +kernel
theorem dX5_howMany_1 : decode cX5_howMany 1 = .ok (.tableswitch 96 0 8 #[51, 56, 61, 66, 71, 76, 81, 86, 91], 51) := by decide +kernel
theorem dX5_howMany_52 : decode cX5_howMany 52 = .ok (.aload_n 0, 1) := by decide +kernel
theorem dX5_howMany_53 : decode cX5_howMany 53 = .ok (.getfield 101, 3) := by decide +kernel
theorem dX5_howMany_56 : decode cX5_howMany 56 = .ok (.ireturn, 1) := by decide +kernel
theorem dX5_howMany_57 : decode cX5_howMany 57 = .ok (.aload_n 0, 1) := by decide +kernel
theorem dX5_howMany_58 : decode cX5_howMany 58 = .ok (.getfield 98, 3) := by decide +kernel
theorem dX5_howMany_61 : decode cX5_howMany 61 = .ok (.ireturn, 1) := by decide +kernel
theorem dX5_howMany_62 : decode cX5_howMany 62 = .ok (.aload_n 0, 1) := by decide +kernel
theorem dX5_howMany_63 : decode cX5_howMany 63 = .ok (.invokevirtual 239, 3) := by decide +kernel
theorem dX5_howMany_66 : decode cX5_howMany 66 = .ok (.ireturn, 1) := by decide +kernel
theorem dX5_howMany_67 : decode cX5_howMany 67 = .ok (.aload_n 0, 1) := by decide +kernel
theorem dX5_howMany_68 : decode cX5_howMany 68 = .ok (.invokevirtual 180, 3) := by decide +kernel
theorem dX5_howMany_71 : decode cX5_howMany 71 = .ok (.ireturn, 1) := by decide +kernel
theorem dX5_howMany_72 : decode cX5_howMany 72 = .ok (.aload_n 0, 1) := by decide +kernel
theorem dX5_howMany_73 : decode cX5_howMany 73 = .ok (.invokevirtual 242, 3) := by decide +kernel
theorem dX5_howMany_76 : decode cX5_howMany 76 = .ok (.ireturn, 1) := by decide +kernel
theorem dX5_howMany_77 : decode cX5_howMany 77 = .ok (.aload_n 0, 1) := by decide +kernel
theorem dX5_howMany_78 : decode cX5_howMany 78 = .ok (.getfield 104, 3) := by decide +kernel
theorem dX5_howMany_81 : decode cX5_howMany 81 = .ok (.ireturn, 1) := by decide +kernel
theorem dX5_howMany_82 : decode cX5_howMany 82 = .ok (.aload_n 0, 1) := by decide +kernel
theorem dX5_howMany_83 : decode cX5_howMany 83 = .ok (.getfield 110, 3) := by decide +kernel
theorem dX5_howMany_86 : decode cX5_howMany 86 = .ok (.ireturn, 1) := by decide +kernel
theorem dX5_howMany_87 : decode cX5_howMany 87 = .ok (.aload_n 0, 1) := by decide +kernel
theorem dX5_howMany_88 : decode cX5_howMany 88 = .ok (.getfield 69, 3) := by decide +kernel
theorem dX5_howMany_91 : decode cX5_howMany 91 = .ok (.ireturn, 1) := by decide +kernel
theorem dX5_howMany_92 : decode cX5_howMany 92 = .ok (.aload_n 0, 1) := by decide +kernel
theorem dX5_howMany_93 : decode cX5_howMany 93 = .ok (.getfield 107, 3) := by decide +kernel
theorem dX5_howMany_96 : decode cX5_howMany 96 = .ok (.ireturn, 1) := by decide +kernel
theorem dX5_howMany_97 : decode cX5_howMany 97 = .ok (.bipush (-102), 2) := by decide +kernel
theorem dX5_howMany_99 : decode cX5_howMany 99 = .ok (.ireturn, 1) := by decide +kernel
theorem dX5_count_0 : decode cX5_count 0 = .ok (.aload_n 0, 1) := by decide +kernel
theorem dX5_count_1 : decode cX5_count 1 = .ok (.iload_n 1, 1) := by decide +kernel
theorem dX5_count_2 : decode cX5_count 2 = .ok (.invokevirtual 245, 3) := by decide +kernel
theorem dX5_count_5 : decode cX5_count 5 = .ok (.ireturn, 1) := by decide +kernel
theorem dX5_mix_0 : decode cX5_mix 0 = .ok (.aload_n 0, 1) := by decide +kernel
theorem dX5_mix_1 : decode cX5_mix 1 = .ok (.ldc2_w 248, 3) := by decide +kernel
theorem dX5_mix_4 : decode cX5_mix 4 = .ok (.aload_n 0, 1) := by decide +kernel
theorem dX5_mix_5 : decode cX5_mix 5 = .ok (.getfield 250, 3) := by decide +kernel
theorem dX5_mix_8 : decode cX5_mix 8 = .ok (.lmul, 1) := by decide +kernel
theorem dX5_mix_9 : decode cX5_mix 9 = .ok (.lload_n 1, 1) := by decide +kernel
theorem dX5_mix_10 : decode cX5_mix 10 = .ok (.ladd, 1) := by decide +kernel
theorem dX5_mix_11 : decode cX5_mix 11 = .ok (.putfield 250, 3) := by decide +kernel
theorem dX5_mix_14 : decode cX5_mix 14 = .ok (.return_, 1) := by decide +kernel
theorem dX5_mixBoard_0 : decode cX5_mixBoard 0 = .ok (.iconst 0, 1) := by decide +kernel
theorem dX5_mixBoard_1 : decode cX5_mixBoard 1 = .ok (.istore_n 1, 1) := by decide +kernel
theorem dX5_mixBoard_2 : decode cX5_mixBoard 2 = .ok (.iload_n 1, 1) := by decide +kernel
theorem dX5_mixBoard_3 : decode cX5_mixBoard 3 = .ok (.iconst 3, 1) := by decide +kernel
theorem dX5_mixBoard_4 : decode cX5_mixBoard 4 = .ok (.if_icmp .ge 19, 3) := by decide +kernel
theorem dX5_mixBoard_7 : decode cX5_mixBoard 7 = .ok (.aload_n 0, 1) := by decide +kernel
theorem dX5_mixBoard_8 : decode cX5_mixBoard 8 = .ok (.aload_n 0, 1) := by decide +kernel
theorem dX5_mixBoard_9 : decode cX5_mixBoard 9 = .ok (.iload_n 1, 1) := by decide +kernel
theorem dX5_mixBoard_10 : decode cX5_mixBoard 10 = .ok (.invokevirtual 174, 3) := by decide +kernel
theorem dX5_mixBoard_13 : decode cX5_mixBoard 13 = .ok (.i2l, 1) := by decide +kernel
theorem dX5_mixBoard_14 : decode cX5_mixBoard 14 = .ok (.invokevirtual 253, 3) := by decide +kernel
theorem dX5_mixBoard_17 : decode cX5_mixBoard 17 = .ok (.iinc 1 1, 3) := by decide +kernel
theorem dX5_mixBoard_20 : decode cX5_mixBoard 20 = .ok (.goto (-18), 3) := by decide +kernel
theorem dX5_mixBoard_23 : decode cX5_mixBoard 23 = .ok (.aload_n 0, 1) := by decide +kernel
theorem dX5_mixBoard_24 : decode cX5_mixBoard 24 = .ok (.aload_n 0, 1) := by decide +kernel
theorem dX5_mixBoard_25 : decode cX5_mixBoard 25 = .ok (.invokevirtual 184, 3) := by decide +kernel
theorem dX5_mixBoard_28 : decode cX5_mixBoard 28 = .ok (.i2l, 1) := by decide +kernel
theorem dX5_mixBoard_29 : decode cX5_mixBoard 29 = .ok (.invokevirtual 253, 3) := by decide +kernel
theorem dX5_mixBoard_32 : decode cX5_mixBoard 32 = .ok (.aload_n 0, 1) := by decide +kernel
theorem dX5_mixBoard_33 : decode cX5_mixBoard 33 = .ok (.aload_n 0, 1) := by decide +kernel
theorem dX5_mixBoard_34 : decode cX5_mixBoard 34 = .ok (.iconst 0, 1) := by decide +kernel
theorem dX5_mixBoard_35 : decode cX5_mixBoard 35 = .ok (.invokevirtual 193, 3) := by decide +kernel
theorem dX5_mixBoard_38 : decode cX5_mixBoard 38 = .ok (.i2l, 1) := by decide +kernel
theorem dX5_mixBoard_39 : decode cX5_mixBoard 39 = .ok (.invokevirtual 253, 3) := by decide +kernel
theorem dX5_mixBoard_42 : decode cX5_mixBoard 42 = .ok (.aload_n 0, 1) := by decide +kernel
theorem dX5_mixBoard_43 : decode cX5_mixBoard 43 = .ok (.aload_n 0, 1) := by decide +kernel
theorem dX5_mixBoard_44 : decode cX5_mixBoard 44 = .ok (.iconst 1, 1) := by decide +kernel
theorem dX5_mixBoard_45 : decode cX5_mixBoard 45 = .ok (.invokevirtual 193, 3) := by decide +kernel
theorem dX5_mixBoard_48 : decode cX5_mixBoard 48 = .ok (.i2l, 1) := by decide +kernel
theorem dX5_mixBoard_49 : decode cX5_mixBoard 49 = .ok (.invokevirtual 253, 3) := by decide +kernel
theorem dX5_mixBoard_52 : decode cX5_mixBoard 52 = .ok (.return_, 1) := by decide +kernel
theorem dX5_digest_0 : decode cX5_digest 0 = .ok (.aload_n 0, 1) := by decide +kernel
theorem dX5_digest_1 : decode cX5_digest 1 = .ok (.ldc2_w 257, 3) := by decide +kernel
theorem dX5_digest_4 : decode cX5_digest 4 = .ok (.putfield 250, 3) := by decide +kernel
theorem dX5_digest_7 : decode cX5_digest 7 = .ok (.iconst 1, 1) := by decide +kernel
theorem dX5_digest_8 : decode cX5_digest 8 = .ok (.istore_n 1, 1) := by decide +kernel
theorem dX5_digest_9 : decode cX5_digest 9 = .ok (.iload_n 1, 1) := by decide +kernel
theorem dX5_digest_10 : decode cX5_digest 10 = .ok (.aload_n 0, 1) := by decide +kernel
theorem dX5_digest_11 : decode cX5_digest 11 = .ok (.getfield 101, 3) := by decide +kernel
theorem dX5_digest_14 : decode cX5_digest 14 = .ok (.if_icmp .gt 58, 3) := by decide +kernel
theorem dX5_digest_17 : decode cX5_digest 17 = .ok (.iconst 0, 1) := by decide +kernel
theorem dX5_digest_18 : decode cX5_digest 18 = .ok (.istore_n 2, 1) := by decide +kernel
theorem dX5_digest_19 : decode cX5_digest 19 = .ok (.iload_n 2, 1) := by decide +kernel
theorem dX5_digest_20 : decode cX5_digest 20 = .ok (.bipush 6, 2) := by decide +kernel
theorem dX5_digest_22 : decode cX5_digest 22 = .ok (.if_icmp .ge 20, 3) := by decide +kernel
theorem dX5_digest_25 : decode cX5_digest 25 = .ok (.aload_n 0, 1) := by decide +kernel
theorem dX5_digest_26 : decode cX5_digest 26 = .ok (.aload_n 0, 1) := by decide +kernel
theorem dX5_digest_27 : decode cX5_digest 27 = .ok (.iload_n 1, 1) := by decide +kernel
theorem dX5_digest_28 : decode cX5_digest 28 = .ok (.iload_n 2, 1) := by decide +kernel
theorem dX5_digest_29 : decode cX5_digest 29 = .ok (.invokevirtual 152, 3) := by decide +kernel
theorem dX5_digest_32 : decode cX5_digest 32 = .ok (.i2l, 1) := by decide +kernel
theorem dX5_digest_33 : decode cX5_digest 33 = .ok (.invokevirtual 253, 3) := by decide +kernel
theorem dX5_digest_36 : decode cX5_digest 36 = .ok (.iinc 2 1, 3) := by decide +kernel
theorem dX5_digest_39 : decode cX5_digest 39 = .ok (.goto (-20), 3) := by decide +kernel
theorem dX5_digest_42 : decode cX5_digest 42 = .ok (.aload_n 0, 1) := by decide +kernel
theorem dX5_digest_43 : decode cX5_digest 43 = .ok (.aload_n 0, 1) := by decide +kernel
theorem dX5_digest_44 : decode cX5_digest 44 = .ok (.iload_n 1, 1) := by decide +kernel
theorem dX5_digest_45 : decode cX5_digest 45 = .ok (.iconst 0, 1) := by decide +kernel
theorem dX5_digest_46 : decode cX5_digest 46 = .ok (.iconst 0, 1) := by decide +kernel
theorem dX5_digest_47 : decode cX5_digest 47 = .ok (.invokevirtual 199, 3) := by decide +kernel
theorem dX5_digest_50 : decode cX5_digest 50 = .ok (.i2l, 1) := by decide +kernel
theorem dX5_digest_51 : decode cX5_digest 51 = .ok (.invokevirtual 253, 3) := by decide +kernel
theorem dX5_digest_54 : decode cX5_digest 54 = .ok (.aload_n 0, 1) := by decide +kernel
theorem dX5_digest_55 : decode cX5_digest 55 = .ok (.aload_n 0, 1) := by decide +kernel
theorem dX5_digest_56 : decode cX5_digest 56 = .ok (.iload_n 1, 1) := by decide +kernel
theorem dX5_digest_57 : decode cX5_digest 57 = .ok (.iconst 0, 1) := by decide +kernel
theorem dX5_digest_58 : decode cX5_digest 58 = .ok (.iconst 1, 1) := by decide +kernel
theorem dX5_digest_59 : decode cX5_digest 59 = .ok (.invokevirtual 199, 3) := by decide +kernel
theorem dX5_digest_62 : decode cX5_digest 62 = .ok (.i2l, 1) := by decide +kernel
theorem dX5_digest_63 : decode cX5_digest 63 = .ok (.invokevirtual 253, 3) := by decide +kernel
theorem dX5_digest_66 : decode cX5_digest 66 = .ok (.iinc 1 1, 3) := by decide +kernel
theorem dX5_digest_69 : decode cX5_digest 69 = .ok (.goto (-60), 3) := by decide +kernel
theorem dX5_digest_72 : decode cX5_digest 72 = .ok (.aload_n 0, 1) := by decide +kernel
theorem dX5_digest_73 : decode cX5_digest 73 = .ok (.getfield 101, 3) := by decide +kernel
theorem dX5_digest_76 : decode cX5_digest 76 = .ok (.ifCond .le 7, 3) := by decide +kernel
theorem dX5_digest_79 : decode cX5_digest 79 = .ok (.aload_n 0, 1) := by decide +kernel
theorem dX5_digest_80 : decode cX5_digest 80 = .ok (.invokevirtual 259, 3) := by decide +kernel
theorem dX5_digest_83 : decode cX5_digest 83 = .ok (.iconst 0, 1) := by decide +kernel
theorem dX5_digest_84 : decode cX5_digest 84 = .ok (.istore_n 1, 1) := by decide +kernel
theorem dX5_digest_85 : decode cX5_digest 85 = .ok (.iload_n 1, 1) := by decide +kernel
theorem dX5_digest_86 : decode cX5_digest 86 = .ok (.aload_n 0, 1) := by decide +kernel
theorem dX5_digest_87 : decode cX5_digest 87 = .ok (.getfield 69, 3) := by decide +kernel
theorem dX5_digest_90 : decode cX5_digest 90 = .ok (.if_icmp .ge 20, 3) := by decide +kernel
theorem dX5_digest_93 : decode cX5_digest 93 = .ok (.aload_n 0, 1) := by decide +kernel
theorem dX5_digest_94 : decode cX5_digest 94 = .ok (.aload_n 0, 1) := by decide +kernel
theorem dX5_digest_95 : decode cX5_digest 95 = .ok (.getfield 25, 3) := by decide +kernel
theorem dX5_digest_98 : decode cX5_digest 98 = .ok (.iload_n 1, 1) := by decide +kernel
theorem dX5_digest_99 : decode cX5_digest 99 = .ok (.baload, 1) := by decide +kernel
theorem dX5_digest_100 : decode cX5_digest 100 = .ok (.i2l, 1) := by decide +kernel
theorem dX5_digest_101 : decode cX5_digest 101 = .ok (.invokevirtual 253, 3) := by decide +kernel
theorem dX5_digest_104 : decode cX5_digest 104 = .ok (.iinc 1 1, 3) := by decide +kernel
theorem dX5_digest_107 : decode cX5_digest 107 = .ok (.goto (-22), 3) := by decide +kernel
theorem dX5_digest_110 : decode cX5_digest 110 = .ok (.iconst 0, 1) := by decide +kernel
theorem dX5_digest_111 : decode cX5_digest 111 = .ok (.istore_n 1, 1) := by decide +kernel
theorem dX5_digest_112 : decode cX5_digest 112 = .ok (.iload_n 1, 1) := by decide +kernel
theorem dX5_digest_113 : decode cX5_digest 113 = .ok (.bipush 9, 2) := by decide +kernel
theorem dX5_digest_115 : decode cX5_digest 115 = .ok (.if_icmp .ge 19, 3) := by decide +kernel
theorem dX5_digest_118 : decode cX5_digest 118 = .ok (.aload_n 0, 1) := by decide +kernel
theorem dX5_digest_119 : decode cX5_digest 119 = .ok (.aload_n 0, 1) := by decide +kernel
theorem dX5_digest_120 : decode cX5_digest 120 = .ok (.iload_n 1, 1) := by decide +kernel
theorem dX5_digest_121 : decode cX5_digest 121 = .ok (.invokevirtual 245, 3) := by decide +kernel
theorem dX5_digest_124 : decode cX5_digest 124 = .ok (.i2l, 1) := by decide +kernel
theorem dX5_digest_125 : decode cX5_digest 125 = .ok (.invokevirtual 253, 3) := by decide +kernel
theorem dX5_digest_128 : decode cX5_digest 128 = .ok (.iinc 1 1, 3) := by decide +kernel
theorem dX5_digest_131 : decode cX5_digest 131 = .ok (.goto (-19), 3) := by decide +kernel
theorem dX5_digest_134 : decode cX5_digest 134 = .ok (.aload_n 0, 1) := by decide +kernel
theorem dX5_digest_135 : decode cX5_digest 135 = .ok (.getfield 250, 3) := by decide +kernel
theorem dX5_digest_138 : decode cX5_digest 138 = .ok (.lreturn, 1) := by decide +kernel
