theorem dX5_init_0 : decode cX5_init 0 = .ok (.aload_n 0, 1) := by decide +kernel
theorem dX5_init_1 : decode cX5_init 1 = .ok (.invokespecial 1, 3) := by decide +kernel
theorem dX5_init_4 : decode cX5_init 4 = .ok (.aload_n 0, 1) := by decide +kernel
theorem dX5_init_5 : decode cX5_init 5 = .ok (.bipush 11, 2) := by decide +kernel
theorem dX5_init_7 : decode cX5_init 7 = .ok (.newarray .int, 2) := by decide +kernel
theorem dX5_init_9 : decode cX5_init 9 = .ok (.putfield 7, 3) := by decide +kernel
theorem dX5_init_12 : decode cX5_init 12 = .ok (.aload_n 0, 1) := by decide +kernel
theorem dX5_init_13 : decode cX5_init 13 = .ok (.bipush 11, 2) := by decide +kernel
theorem dX5_init_15 : decode cX5_init 15 = .ok (.newarray .int, 2) := by decide +kernel
theorem dX5_init_17 : decode cX5_init 17 = .ok (.putfield 13, 3) := by decide +kernel
theorem dX5_init_20 : decode cX5_init 20 = .ok (.aload_n 0, 1) := by decide +kernel
theorem dX5_init_21 : decode cX5_init 21 = .ok (.bipush 6, 2) := by decide +kernel
theorem dX5_init_23 : decode cX5_init 23 = .ok (.newarray .int, 2) := by decide +kernel
theorem dX5_init_25 : decode cX5_init 25 = .ok (.putfield 16, 3) := by decide +kernel
theorem dX5_init_28 : decode cX5_init 28 = .ok (.aload_n 0, 1) := by decide +kernel
theorem dX5_init_29 : decode cX5_init 29 = .ok (.bipush 6, 2) := by decide +kernel
theorem dX5_init_31 : decode cX5_init 31 = .ok (.newarray .int, 2) := by decide +kernel
theorem dX5_init_33 : decode cX5_init 33 = .ok (.putfield 19, 3) := by decide +kernel
theorem dX5_init_36 : decode cX5_init 36 = .ok (.aload_n 0, 1) := by decide +kernel
theorem dX5_init_37 : decode cX5_init 37 = .ok (.bipush 6, 2) := by decide +kernel
theorem dX5_init_39 : decode cX5_init 39 = .ok (.newarray .int, 2) := by decide +kernel
theorem dX5_init_41 : decode cX5_init 41 = .ok (.putfield 22, 3) := by decide +kernel
theorem dX5_init_44 : decode cX5_init 44 = .ok (.aload_n 0, 1) := by decide +kernel
theorem dX5_init_45 : decode cX5_init 45 = .ok (.bipush 26, 2) := by decide +kernel
theorem dX5_init_47 : decode cX5_init 47 = .ok (.newarray .byte, 2) := by decide +kernel
theorem dX5_init_49 : decode cX5_init 49 = .ok (.putfield 25, 3) := by decide +kernel
theorem dX5_init_52 : decode cX5_init 52 = .ok (.aload_n 0, 1) := by decide +kernel
theorem dX5_init_53 : decode cX5_init 53 = .ok (.bipush 11, 2) := by decide +kernel
theorem dX5_init_55 : decode cX5_init 55 = .ok (.newarray .int, 2) := by decide +kernel
theorem dX5_init_57 : decode cX5_init 57 = .ok (.putfield 29, 3) := by decide +kernel
theorem dX5_init_60 : decode cX5_init 60 = .ok (.aload_n 0, 1) := by decide +kernel
theorem dX5_init_61 : decode cX5_init 61 = .ok (.bipush 33, 2) := by decide +kernel
theorem dX5_init_63 : decode cX5_init 63 = .ok (.newarray .int, 2) := by decide +kernel
theorem dX5_init_65 : decode cX5_init 65 = .ok (.putfield 32, 3) := by decide +kernel
theorem dX5_init_68 : decode cX5_init 68 = .ok (.aload_n 0, 1) := by decide +kernel
theorem dX5_init_69 : decode cX5_init 69 = .ok (.bipush 11, 2) := by decide +kernel
theorem dX5_init_71 : decode cX5_init 71 = .ok (.newarray .int, 2) := by decide +kernel
theorem dX5_init_73 : decode cX5_init 73 = .ok (.putfield 35, 3) := by decide +kernel
theorem dX5_init_76 : decode cX5_init 76 = .ok (.aload_n 0, 1) := by decide +kernel
theorem dX5_init_77 : decode cX5_init 77 = .ok (.bipush 11, 2) := by decide +kernel
theorem dX5_init_79 : decode cX5_init 79 = .ok (.newarray .int, 2) := by decide +kernel
theorem dX5_init_81 : decode cX5_init 81 = .ok (.putfield 38, 3) := by decide +kernel
theorem dX5_init_84 : decode cX5_init 84 = .ok (.aload_n 0, 1) := by decide +kernel
theorem dX5_init_85 : decode cX5_init 85 = .ok (.bipush 11, 2) := by decide +kernel
theorem dX5_init_87 : decode cX5_init 87 = .ok (.newarray .int, 2) := by decide +kernel
theorem dX5_init_89 : decode cX5_init 89 = .ok (.putfield 41, 3) := by decide +kernel
theorem dX5_init_92 : decode cX5_init 92 = .ok (.aload_n 0, 1) := by decide +kernel
theorem dX5_init_93 : decode cX5_init 93 = .ok (.bipush 11, 2) := by decide +kernel
theorem dX5_init_95 : decode cX5_init 95 = .ok (.newarray .int, 2) := by decide +kernel
theorem dX5_init_97 : decode cX5_init 97 = .ok (.putfield 44, 3) := by decide +kernel
theorem dX5_init_100 : decode cX5_init 100 = .ok (.aload_n 0, 1) := by decide +kernel
theorem dX5_init_101 : decode cX5_init 101 = .ok (.bipush 11, 2) := by decide +kernel
theorem dX5_init_103 : decode cX5_init 103 = .ok (.newarray .int, 2) := by decide +kernel
theorem dX5_init_105 : decode cX5_init 105 = .ok (.putfield 47, 3) := by decide +kernel
theorem dX5_init_108 : decode cX5_init 108 = .ok (.aload_n 0, 1) := by decide +kernel
theorem dX5_init_109 : decode cX5_init 109 = .ok (.bipush 11, 2) := by decide +kernel
theorem dX5_init_111 : decode cX5_init 111 = .ok (.newarray .int, 2) := by decide +kernel
theorem dX5_init_113 : decode cX5_init 113 = .ok (.putfield 50, 3) := by decide +kernel
theorem dX5_init_116 : decode cX5_init 116 = .ok (.aload_n 0, 1) := by decide +kernel
theorem dX5_init_117 : decode cX5_init 117 = .ok (.bipush 11, 2) := by decide +kernel
theorem dX5_init_119 : decode cX5_init 119 = .ok (.newarray .int, 2) := by decide +kernel
theorem dX5_init_121 : decode cX5_init 121 = .ok (.putfield 53, 3) := by decide +kernel
theorem dX5_init_124 : decode cX5_init 124 = .ok (.aload_n 0, 1) := by decide +kernel
theorem dX5_init_125 : decode cX5_init 125 = .ok (.bipush 6, 2) := by decide +kernel
theorem dX5_init_127 : decode cX5_init 127 = .ok (.newarray .int, 2) := by decide +kernel
theorem dX5_init_129 : decode cX5_init 129 = .ok (.putfield 56, 3) := by decide +kernel
theorem dX5_init_132 : decode cX5_init 132 = .ok (.aload_n 0, 1) := by decide +kernel
theorem dX5_init_133 : decode cX5_init 133 = .ok (.bipush 6, 2) := by decide +kernel
theorem dX5_init_135 : decode cX5_init 135 = .ok (.newarray .int, 2) := by decide +kernel
theorem dX5_init_137 : decode cX5_init 137 = .ok (.putfield 59, 3) := by decide +kernel
theorem dX5_init_140 : decode cX5_init 140 = .ok (.aload_n 0, 1) := by decide +kernel
theorem dX5_init_141 : decode cX5_init 141 = .ok (.bipush 6, 2) := by decide +kernel
theorem dX5_init_143 : decode cX5_init 143 = .ok (.newarray .int, 2) := by decide +kernel
theorem dX5_init_145 : decode cX5_init 145 = .ok (.putfield 62, 3) := by decide +kernel
theorem dX5_init_148 : decode cX5_init 148 = .ok (.return_, 1) := by decide +kernel
theorem dX5_within_0 : decode cX5_within 0 = .ok (.iload_n 0, 1) := by decide +kernel
theorem dX5_within_1 : decode cX5_within 1 = .ok (.iload_n 1, 1) := by decide +kernel
theorem dX5_within_2 : decode cX5_within 2 = .ok (.if_icmp .lt 12, 3) := by decide +kernel
theorem dX5_within_5 : decode cX5_within 5 = .ok (.iload_n 0, 1) := by decide +kernel
theorem dX5_within_6 : decode cX5_within 6 = .ok (.iload_n 2, 1) := by decide +kernel
theorem dX5_within_7 : decode cX5_within 7 = .ok (.if_icmp .gt 7, 3) := by decide +kernel
theorem dX5_within_10 : decode cX5_within 10 = .ok (.iconst 1, 1) := by decide +kernel
theorem dX5_within_11 : decode cX5_within 11 = .ok (.goto 4, 3) := by decide +kernel
theorem dX5_within_14 : decode cX5_within 14 = .ok (.iconst 0, 1) := by decide +kernel
theorem dX5_within_15 : decode cX5_within 15 = .ok (.ireturn, 1) := by decide +kernel
theorem dX5_isIn_0 : decode cX5_isIn 0 = .ok (.iload_n 0, 1) := by decide +kernel
theorem dX5_isIn_1 : decode cX5_isIn 1 = .ok (.iload_n 1, 1) := by decide +kernel
theorem dX5_isIn_2 : decode cX5_isIn 2 = .ok (.ishr, 1) := by decide +kernel
theorem dX5_isIn_3 : decode cX5_isIn 3 = .ok (.iconst 1, 1) := by decide +kernel
theorem dX5_isIn_4 : decode cX5_isIn 4 = .ok (.iand, 1) := by decide +kernel
theorem dX5_isIn_5 : decode cX5_isIn 5 = .ok (.iconst 1, 1) := by decide +kernel
theorem dX5_isIn_6 : decode cX5_isIn 6 = .ok (.if_icmp .ne 7, 3) := by decide +kernel
theorem dX5_isIn_9 : decode cX5_isIn 9 = .ok (.iconst 1, 1) := by decide +kernel
theorem dX5_isIn_10 : decode cX5_isIn 10 = .ok (.goto 4, 3) := by decide +kernel
theorem dX5_isIn_13 : decode cX5_isIn 13 = .ok (.iconst 0, 1) := by decide +kernel
theorem dX5_isIn_14 : decode cX5_isIn 14 = .ok (.ireturn, 1) := by decide +kernel
theorem dX5_divisor_0 : decode cX5_divisor 0 = .ok (.iload_n 0, 1) := by decide +kernel
theorem dX5_divisor_1 : decode cX5_divisor 1 = .ok (.istore_n 2, 1) := by decide +kernel
theorem dX5_divisor_2 : decode cX5_divisor 2 = .ok (.iload_n 1, 1) := by decide +kernel
theorem dX5_divisor_3 : decode cX5_divisor 3 = .ok (.istore_n 3, 1) := by decide +kernel
theorem dX5_divisor_4 : decode cX5_divisor 4 = .ok (.iload_n 3, 1) := by decide +kernel
theorem dX5_divisor_5 : decode cX5_divisor 5 = .ok (.ifCond .eq 16, 3) := by decide +kernel
theorem dX5_divisor_8 : decode cX5_divisor 8 = .ok (.iload_n 2, 1) := by decide +kernel
theorem dX5_divisor_9 : decode cX5_divisor 9 = .ok (.iload_n 3, 1) := by decide +kernel
theorem dX5_divisor_10 : decode cX5_divisor 10 = .ok (.irem, 1) := by decide +kernel
theorem dX5_divisor_11 : decode cX5_divisor 11 = .ok (.istore 4, 2) := by decide +kernel
theorem dX5_divisor_13 : decode cX5_divisor 13 = .ok (.iload_n 3, 1) := by decide +kernel
theorem dX5_divisor_14 : decode cX5_divisor 14 = .ok (.istore_n 2, 1) := by decide +kernel
theorem dX5_divisor_15 : decode cX5_divisor 15 = .ok (.iload 4, 2) := by decide +kernel
theorem dX5_divisor_17 : decode cX5_divisor 17 = .ok (.istore_n 3, 1) := by decide +kernel
theorem dX5_divisor_18 : decode cX5_divisor 18 = .ok (.goto (-14), 3) := by decide +kernel
theorem dX5_divisor_21 : decode cX5_divisor 21 = .ok (.iload_n 2, 1) := by decide +kernel
theorem dX5_divisor_22 : decode cX5_divisor 22 = .ok (.ireturn, 1) := by decide +kernel
theorem dX5_letter_0 : decode cX5_letter 0 = .ok (.iload_n 1, 1) := by decide +kernel
theorem dX5_letter_1 : decode cX5_letter 1 = .ok (.bipush 32, 2) := by decide +kernel
theorem dX5_letter_3 : decode cX5_letter 3 = .ok (.bipush 126, 2) := by decide +kernel
theorem dX5_letter_5 : decode cX5_letter 5 = .ok (.invokestatic 65, 3) := by decide +kernel
theorem dX5_letter_8 : decode cX5_letter 8 = .ok (.ifCond .ne 6, 3) := by decide +kernel
theorem dX5_letter_11 : decode cX5_letter 11 = .ok (.bipush (-102), 2) := by decide +kernel
theorem dX5_letter_13 : decode cX5_letter 13 = .ok (.ireturn, 1) := by decide +kernel
theorem dX5_letter_14 : decode cX5_letter 14 = .ok (.aload_n 0, 1) := by decide +kernel
theorem dX5_letter_15 : decode cX5_letter 15 = .ok (.getfield 69, 3) := by decide +kernel
theorem dX5_letter_18 : decode cX5_letter 18 = .ok (.bipush 26, 2) := by decide +kernel
theorem dX5_letter_20 : decode cX5_letter 20 = .ok (.if_icmp .ne 6, 3) := by decide +kernel
theorem dX5_letter_23 : decode cX5_letter 23 = .ok (.bipush (-104), 2) := by decide +kernel
theorem dX5_letter_25 : decode cX5_letter 25 = .ok (.ireturn, 1) := by decide +kernel
theorem dX5_letter_26 : decode cX5_letter 26 = .ok (.aload_n 0, 1) := by decide +kernel
theorem dX5_letter_27 : decode cX5_letter 27 = .ok (.getfield 25, 3) := by decide +kernel
theorem dX5_letter_30 : decode cX5_letter 30 = .ok (.aload_n 0, 1) := by decide +kernel
theorem dX5_letter_31 : decode cX5_letter 31 = .ok (.getfield 69, 3) := by decide +kernel
theorem dX5_letter_34 : decode cX5_letter 34 = .ok (.iload_n 1, 1) := by decide +kernel
theorem dX5_letter_35 : decode cX5_letter 35 = .ok (.i2b, 1) := by decide +kernel
theorem dX5_letter_36 : decode cX5_letter 36 = .ok (.bastore, 1) := by decide +kernel
theorem dX5_letter_37 : decode cX5_letter 37 = .ok (.aload_n 0, 1) := by decide +kernel
theorem dX5_letter_38 : decode cX5_letter 38 = .ok (.dup, 1) := by decide +kernel
theorem dX5_letter_39 : decode cX5_letter 39 = .ok (.getfield 69, 3) := by decide +kernel
theorem dX5_letter_42 : decode cX5_letter 42 = .ok (.iconst 1, 1) := by decide +kernel
theorem dX5_letter_43 : decode cX5_letter 43 = .ok (.iadd, 1) := by decide +kernel
theorem dX5_letter_44 : decode cX5_letter 44 = .ok (.putfield 69, 3) := by decide +kernel
theorem dX5_letter_47 : decode cX5_letter 47 = .ok (.aload_n 0, 1) := by decide +kernel
theorem dX5_letter_48 : decode cX5_letter 48 = .ok (.getfield 69, 3) := by decide +kernel
theorem dX5_letter_51 : decode cX5_letter 51 = .ok (.ireturn, 1) := by decide +kernel
theorem dX5_blank_0 : decode cX5_blank 0 = .ok (.aload_n 0, 1) := by decide +kernel
theorem dX5_blank_1 : decode cX5_blank 1 = .ok (.getfield 69, 3) := by decide +kernel
theorem dX5_blank_4 : decode cX5_blank 4 = .ok (.istore_n 1, 1) := by decide +kernel
theorem dX5_blank_5 : decode cX5_blank 5 = .ok (.aload_n 0, 1) := by decide +kernel
theorem dX5_blank_6 : decode cX5_blank 6 = .ok (.iconst 0, 1) := by decide +kernel
theorem dX5_blank_7 : decode cX5_blank 7 = .ok (.putfield 69, 3) := by decide +kernel
theorem dX5_blank_10 : decode cX5_blank 10 = .ok (.iload_n 1, 1) := by decide +kernel
theorem dX5_blank_11 : decode cX5_blank 11 = .ok (.ireturn, 1) := by decide +kernel
theorem dX5_kindBy_0 : decode cX5_kindBy 0 = .ok (.iload_n 0, 1) := by decide +kernel
theorem dX5_kindBy_1 : decode cX5_kindBy 1 = .ok (.tableswitch 81 102 115 #[75, 81, 81, 81, 81, 81, 73, 81, 71, 79, 81, 81, 81, 77], 71) := by decide +kernel
theorem dX5_kindBy_72 : decode cX5_kindBy 72 = .ok (.iconst 0, 1) := by decide +kernel
theorem dX5_kindBy_73 : decode cX5_kindBy 73 = .ok (.ireturn, 1) := by decide +kernel
theorem dX5_kindBy_74 : decode cX5_kindBy 74 = .ok (.iconst 1, 1) := by decide +kernel
theorem dX5_kindBy_75 : decode cX5_kindBy 75 = .ok (.ireturn, 1) := by decide +kernel
theorem dX5_kindBy_76 : decode cX5_kindBy 76 = .ok (.iconst 2, 1) := by decide +kernel
theorem dX5_kindBy_77 : decode cX5_kindBy 77 = .ok (.ireturn, 1) := by decide +kernel
theorem dX5_kindBy_78 : decode cX5_kindBy 78 = .ok (.iconst 3, 1) := by decide +kernel
theorem dX5_kindBy_79 : decode cX5_kindBy 79 = .ok (.ireturn, 1) := by decide +kernel
theorem dX5_kindBy_80 : decode cX5_kindBy 80 = .ok (.iconst 4, 1) := by decide +kernel
theorem dX5_kindBy_81 : decode cX5_kindBy 81 = .ok (.ireturn, 1) := by decide +kernel
theorem dX5_kindBy_82 : decode cX5_kindBy 82 = .ok (.iconst (-1), 1) := by decide +kernel
theorem dX5_kindBy_83 : decode cX5_kindBy 83 = .ok (.ireturn, 1) := by decide +kernel
theorem dX5_at_0 : decode cX5_at 0 = .ok (.iload_n 1, 1) := by decide +kernel
theorem dX5_at_1 : decode cX5_at 1 = .ok (.aload_n 0, 1) := by decide +kernel
theorem dX5_at_2 : decode cX5_at 2 = .ok (.getfield 69, 3) := by decide +kernel
theorem dX5_at_5 : decode cX5_at 5 = .ok (.if_icmp .ge 12, 3) := by decide +kernel
theorem dX5_at_8 : decode cX5_at 8 = .ok (.aload_n 0, 1) := by decide +kernel
theorem dX5_at_9 : decode cX5_at 9 = .ok (.getfield 25, 3) := by decide +kernel
theorem dX5_at_12 : decode cX5_at 12 = .ok (.iload_n 1, 1) := by decide +kernel
theorem dX5_at_13 : decode cX5_at 13 = .ok (.baload, 1) := by decide +kernel
theorem dX5_at_14 : decode cX5_at 14 = .ok (.goto 4, 3) := by decide +kernel
theorem dX5_at_17 : decode cX5_at 17 = .ok (.iconst 0, 1) := by decide +kernel
theorem dX5_at_18 : decode cX5_at 18 = .ok (.ireturn, 1) := by decide +kernel
theorem dX5_readKinds_0 : decode cX5_readKinds 0 = .ok (.iconst 2, 1) := by decide +kernel
theorem dX5_readKinds_1 : decode cX5_readKinds 1 = .ok (.istore_n 1, 1) := by decide +kernel
theorem dX5_readKinds_2 : decode cX5_readKinds 2 = .ok (.aload_n 0, 1) := by decide +kernel
theorem dX5_readKinds_3 : decode cX5_readKinds 3 = .ok (.getfield 73, 3) := by decide +kernel
theorem dX5_readKinds_6 : decode cX5_readKinds 6 = .ok (.bipush 10, 2) := by decide +kernel
theorem dX5_readKinds_8 : decode cX5_readKinds 8 = .ok (.if_icmp .ge 31, 3) := by decide +kernel
theorem dX5_readKinds_11 : decode cX5_readKinds 11 = .ok (.aload_n 0, 1) := by decide +kernel
theorem dX5_readKinds_12 : decode cX5_readKinds 12 = .ok (.iload_n 1, 1) := by decide +kernel
theorem dX5_readKinds_13 : decode cX5_readKinds 13 = .ok (.invokevirtual 76, 3) := by decide +kernel
theorem dX5_readKinds_16 : decode cX5_readKinds 16 = .ok (.invokestatic 80, 3) := by decide +kernel
theorem dX5_readKinds_19 : decode cX5_readKinds 19 = .ok (.iconst (-1), 1) := by decide +kernel
theorem dX5_readKinds_20 : decode cX5_readKinds 20 = .ok (.if_icmp .eq 19, 3) := by decide +kernel
theorem dX5_readKinds_23 : decode cX5_readKinds 23 = .ok (.aload_n 0, 1) := by decide +kernel
theorem dX5_readKinds_24 : decode cX5_readKinds 24 = .ok (.dup, 1) := by decide +kernel
theorem dX5_readKinds_25 : decode cX5_readKinds 25 = .ok (.getfield 73, 3) := by decide +kernel
theorem dX5_readKinds_28 : decode cX5_readKinds 28 = .ok (.iconst 1, 1) := by decide +kernel
theorem dX5_readKinds_29 : decode cX5_readKinds 29 = .ok (.iadd, 1) := by decide +kernel
theorem dX5_readKinds_30 : decode cX5_readKinds 30 = .ok (.putfield 73, 3) := by decide +kernel
theorem dX5_readKinds_33 : decode cX5_readKinds 33 = .ok (.iinc 1 1, 3) := by decide +kernel
theorem dX5_readKinds_36 : decode cX5_readKinds 36 = .ok (.goto (-34), 3) := by decide +kernel
theorem dX5_readKinds_39 : decode cX5_readKinds 39 = .ok (.iload_n 1, 1) := by decide +kernel
theorem dX5_readKinds_40 : decode cX5_readKinds 40 = .ok (.ireturn, 1) := by decide +kernel
theorem dX5_readSigns_0 : decode cX5_readSigns 0 = .ok (.iload_n 1, 1) := by decide +kernel
theorem dX5_readSigns_1 : decode cX5_readSigns 1 = .ok (.istore_n 3, 1) := by decide +kernel
theorem dX5_readSigns_2 : decode cX5_readSigns 2 = .ok (.iload_n 3, 1) := by decide +kernel
theorem dX5_readSigns_3 : decode cX5_readSigns 3 = .ok (.iload_n 1, 1) := by decide +kernel
theorem dX5_readSigns_4 : decode cX5_readSigns 4 = .ok (.aload_n 0, 1) := by decide +kernel
theorem dX5_readSigns_5 : decode cX5_readSigns 5 = .ok (.getfield 73, 3) := by decide +kernel
theorem dX5_readSigns_8 : decode cX5_readSigns 8 = .ok (.iadd, 1) := by decide +kernel
theorem dX5_readSigns_9 : decode cX5_readSigns 9 = .ok (.if_icmp .ge 37, 3) := by decide +kernel
theorem dX5_readSigns_12 : decode cX5_readSigns 12 = .ok (.aload_n 0, 1) := by decide +kernel
theorem dX5_readSigns_13 : decode cX5_readSigns 13 = .ok (.iload_n 3, 1) := by decide +kernel
theorem dX5_readSigns_14 : decode cX5_readSigns 14 = .ok (.invokevirtual 76, 3) := by decide +kernel
theorem dX5_readSigns_17 : decode cX5_readSigns 17 = .ok (.bipush 46, 2) := by decide +kernel
theorem dX5_readSigns_19 : decode cX5_readSigns 19 = .ok (.if_icmp .eq 21, 3) := by decide +kernel
theorem dX5_readSigns_22 : decode cX5_readSigns 22 = .ok (.aload_n 0, 1) := by decide +kernel
theorem dX5_readSigns_23 : decode cX5_readSigns 23 = .ok (.iload_n 3, 1) := by decide +kernel
theorem dX5_readSigns_24 : decode cX5_readSigns 24 = .ok (.invokevirtual 76, 3) := by decide +kernel
theorem dX5_readSigns_27 : decode cX5_readSigns 27 = .ok (.bipush 97, 2) := by decide +kernel
theorem dX5_readSigns_29 : decode cX5_readSigns 29 = .ok (.isub, 1) := by decide +kernel
theorem dX5_readSigns_30 : decode cX5_readSigns 30 = .ok (.iconst 0, 1) := by decide +kernel
theorem dX5_readSigns_31 : decode cX5_readSigns 31 = .ok (.iload_n 2, 1) := by decide +kernel
theorem dX5_readSigns_32 : decode cX5_readSigns 32 = .ok (.iconst 1, 1) := by decide +kernel
theorem dX5_readSigns_33 : decode cX5_readSigns 33 = .ok (.isub, 1) := by decide +kernel
theorem dX5_readSigns_34 : decode cX5_readSigns 34 = .ok (.invokestatic 65, 3) := by decide +kernel
theorem dX5_readSigns_37 : decode cX5_readSigns 37 = .ok (.ifCond .eq 9, 3) := by decide +kernel
theorem dX5_readSigns_40 : decode cX5_readSigns 40 = .ok (.iinc 3 1, 3) := by decide +kernel
theorem dX5_readSigns_43 : decode cX5_readSigns 43 = .ok (.goto (-41), 3) := by decide +kernel
theorem dX5_readSigns_46 : decode cX5_readSigns 46 = .ok (.aload_n 0, 1) := by decide +kernel
theorem dX5_readSigns_47 : decode cX5_readSigns 47 = .ok (.iload_n 3, 1) := by decide +kernel
theorem dX5_readSigns_48 : decode cX5_readSigns 48 = .ok (.iload_n 1, 1) := by decide +kernel
theorem dX5_readSigns_49 : decode cX5_readSigns 49 = .ok (.aload_n 0, 1) := by decide +kernel
theorem dX5_readSigns_50 : decode cX5_readSigns 50 = .ok (.getfield 73, 3) := by decide +kernel
theorem dX5_readSigns_53 : decode cX5_readSigns 53 = .ok (.iadd, 1) := by decide +kernel
theorem dX5_readSigns_54 : decode cX5_readSigns 54 = .ok (.if_icmp .ne 15, 3) := by decide +kernel
theorem dX5_readSigns_57 : decode cX5_readSigns 57 = .ok (.iload_n 3, 1) := by decide +kernel
theorem dX5_readSigns_58 : decode cX5_readSigns 58 = .ok (.aload_n 0, 1) := by decide +kernel
theorem dX5_readSigns_59 : decode cX5_readSigns 59 = .ok (.getfield 69, 3) := by decide +kernel
theorem dX5_readSigns_62 : decode cX5_readSigns 62 = .ok (.if_icmp .ne 7, 3) := by decide +kernel
theorem dX5_readSigns_65 : decode cX5_readSigns 65 = .ok (.iconst 1, 1) := by decide +kernel
theorem dX5_readSigns_66 : decode cX5_readSigns 66 = .ok (.goto 4, 3) := by decide +kernel
theorem dX5_readSigns_69 : decode cX5_readSigns 69 = .ok (.iconst 0, 1) := by decide +kernel
theorem dX5_readSigns_70 : decode cX5_readSigns 70 = .ok (.putfield 83, 3) := by decide +kernel
theorem dX5_readSigns_73 : decode cX5_readSigns 73 = .ok (.iload_n 3, 1) := by decide +kernel
theorem dX5_readSigns_74 : decode cX5_readSigns 74 = .ok (.ireturn, 1) := by decide +kernel
theorem dX5_read_0 : decode cX5_read 0 = .ok (.aload_n 0, 1) := by decide +kernel
theorem dX5_read_1 : decode cX5_read 1 = .ok (.iconst 0, 1) := by decide +kernel
theorem dX5_read_2 : decode cX5_read 2 = .ok (.putfield 83, 3) := by decide +kernel
theorem dX5_read_5 : decode cX5_read 5 = .ok (.aload_n 0, 1) := by decide +kernel
theorem dX5_read_6 : decode cX5_read 6 = .ok (.iconst 0, 1) := by decide +kernel
theorem dX5_read_7 : decode cX5_read 7 = .ok (.putfield 73, 3) := by decide +kernel
theorem dX5_read_10 : decode cX5_read 10 = .ok (.aload_n 0, 1) := by decide +kernel
theorem dX5_read_11 : decode cX5_read 11 = .ok (.iconst 0, 1) := by decide +kernel
theorem dX5_read_12 : decode cX5_read 12 = .ok (.invokevirtual 76, 3) := by decide +kernel
theorem dX5_read_15 : decode cX5_read 15 = .ok (.bipush 48, 2) := by decide +kernel
theorem dX5_read_17 : decode cX5_read 17 = .ok (.isub, 1) := by decide +kernel
theorem dX5_read_18 : decode cX5_read 18 = .ok (.istore_n 1, 1) := by decide +kernel
theorem dX5_read_19 : decode cX5_read 19 = .ok (.iload_n 1, 1) := by decide +kernel
theorem dX5_read_20 : decode cX5_read 20 = .ok (.iconst 2, 1) := by decide +kernel
theorem dX5_read_21 : decode cX5_read 21 = .ok (.iconst 3, 1) := by decide +kernel
theorem dX5_read_22 : decode cX5_read 22 = .ok (.invokestatic 65, 3) := by decide +kernel
theorem dX5_read_25 : decode cX5_read 25 = .ok (.ifCond .ne 5, 3) := by decide +kernel
theorem dX5_read_28 : decode cX5_read 28 = .ok (.iconst 0, 1) := by decide +kernel
theorem dX5_read_29 : decode cX5_read 29 = .ok (.ireturn, 1) := by decide +kernel
theorem dX5_read_30 : decode cX5_read 30 = .ok (.aload_n 0, 1) := by decide +kernel
theorem dX5_read_31 : decode cX5_read 31 = .ok (.iconst 1, 1) := by decide +kernel
theorem dX5_read_32 : decode cX5_read 32 = .ok (.invokevirtual 76, 3) := by decide +kernel
theorem dX5_read_35 : decode cX5_read 35 = .ok (.bipush 59, 2) := by decide +kernel
theorem dX5_read_37 : decode cX5_read 37 = .ok (.if_icmp .eq 5, 3) := by decide +kernel
theorem dX5_read_40 : decode cX5_read 40 = .ok (.iconst 1, 1) := by decide +kernel
theorem dX5_read_41 : decode cX5_read 41 = .ok (.ireturn, 1) := by decide +kernel
theorem dX5_read_42 : decode cX5_read 42 = .ok (.aload_n 0, 1) := by decide +kernel
theorem dX5_read_43 : decode cX5_read 43 = .ok (.invokevirtual 87, 3) := by decide +kernel
theorem dX5_read_46 : decode cX5_read 46 = .ok (.istore_n 2, 1) := by decide +kernel
theorem dX5_read_47 : decode cX5_read 47 = .ok (.aload_n 0, 1) := by decide +kernel
theorem dX5_read_48 : decode cX5_read 48 = .ok (.getfield 73, 3) := by decide +kernel
theorem dX5_read_51 : decode cX5_read 51 = .ok (.iconst 4, 1) := by decide +kernel
theorem dX5_read_52 : decode cX5_read 52 = .ok (.if_icmp .lt 13, 3) := by decide +kernel
theorem dX5_read_55 : decode cX5_read 55 = .ok (.aload_n 0, 1) := by decide +kernel
theorem dX5_read_56 : decode cX5_read 56 = .ok (.iload_n 2, 1) := by decide +kernel
theorem dX5_read_57 : decode cX5_read 57 = .ok (.invokevirtual 76, 3) := by decide +kernel
theorem dX5_read_60 : decode cX5_read 60 = .ok (.bipush 59, 2) := by decide +kernel
theorem dX5_read_62 : decode cX5_read 62 = .ok (.if_icmp .eq 5, 3) := by decide +kernel
theorem dX5_read_65 : decode cX5_read 65 = .ok (.iload_n 2, 1) := by decide +kernel
theorem dX5_read_66 : decode cX5_read 66 = .ok (.ireturn, 1) := by decide +kernel
theorem dX5_read_67 : decode cX5_read 67 = .ok (.aload_n 0, 1) := by decide +kernel
theorem dX5_read_68 : decode cX5_read 68 = .ok (.iload_n 2, 1) := by decide +kernel
theorem dX5_read_69 : decode cX5_read 69 = .ok (.iconst 1, 1) := by decide +kernel
theorem dX5_read_70 : decode cX5_read 70 = .ok (.iadd, 1) := by decide +kernel
theorem dX5_read_71 : decode cX5_read 71 = .ok (.iload_n 1, 1) := by decide +kernel
theorem dX5_read_72 : decode cX5_read 72 = .ok (.invokevirtual 91, 3) := by decide +kernel
theorem dX5_read_75 : decode cX5_read 75 = .ok (.ireturn, 1) := by decide +kernel
theorem dX5_fault_0 : decode cX5_fault 0 = .ok (.aload_n 0, 1) := by decide +kernel
theorem dX5_fault_1 : decode cX5_fault 1 = .ok (.invokevirtual 95, 3) := by decide +kernel
theorem dX5_fault_4 : decode cX5_fault 4 = .ok (.ireturn, 1) := by decide +kernel
theorem dX5_board_0 : decode cX5_board 0 = .ok (.aload_n 0, 1) := by decide +kernel
theorem dX5_board_1 : decode cX5_board 1 = .ok (.invokevirtual 95, 3) := by decide +kernel
theorem dX5_board_4 : decode cX5_board 4 = .ok (.pop, 1) := by decide +kernel
theorem dX5_board_5 : decode cX5_board 5 = .ok (.aload_n 0, 1) := by decide +kernel
theorem dX5_board_6 : decode cX5_board 6 = .ok (.getfield 83, 3) := by decide +kernel
theorem dX5_board_9 : decode cX5_board 9 = .ok (.ifCond .ne 6, 3) := by decide +kernel
theorem dX5_board_12 : decode cX5_board 12 = .ok (.bipush (-103), 2) := by decide +kernel
theorem dX5_board_14 : decode cX5_board 14 = .ok (.ireturn, 1) := by decide +kernel
theorem dX5_board_15 : decode cX5_board 15 = .ok (.aload_n 0, 1) := by decide +kernel
theorem dX5_board_16 : decode cX5_board 16 = .ok (.aload_n 0, 1) := by decide +kernel
theorem dX5_board_17 : decode cX5_board 17 = .ok (.getfield 25, 3) := by decide +kernel
theorem dX5_board_20 : decode cX5_board 20 = .ok (.iconst 0, 1) := by decide +kernel
theorem dX5_board_21 : decode cX5_board 21 = .ok (.baload, 1) := by decide +kernel
theorem dX5_board_22 : decode cX5_board 22 = .ok (.bipush 48, 2) := by decide +kernel
theorem dX5_board_24 : decode cX5_board 24 = .ok (.isub, 1) := by decide +kernel
theorem dX5_board_25 : decode cX5_board 25 = .ok (.putfield 98, 3) := by decide +kernel
theorem dX5_board_28 : decode cX5_board 28 = .ok (.aload_n 0, 1) := by decide +kernel
theorem dX5_board_29 : decode cX5_board 29 = .ok (.aload_n 0, 1) := by decide +kernel
theorem dX5_board_30 : decode cX5_board 30 = .ok (.getfield 73, 3) := by decide +kernel
theorem dX5_board_33 : decode cX5_board 33 = .ok (.putfield 101, 3) := by decide +kernel
theorem dX5_board_36 : decode cX5_board 36 = .ok (.iconst 1, 1) := by decide +kernel
theorem dX5_board_37 : decode cX5_board 37 = .ok (.istore_n 1, 1) := by decide +kernel
theorem dX5_board_38 : decode cX5_board 38 = .ok (.iload_n 1, 1) := by decide +kernel
theorem dX5_board_39 : decode cX5_board 39 = .ok (.aload_n 0, 1) := by decide +kernel
theorem dX5_board_40 : decode cX5_board 40 = .ok (.getfield 101, 3) := by decide +kernel
theorem dX5_board_43 : decode cX5_board 43 = .ok (.if_icmp .gt 60, 3) := by decide +kernel
theorem dX5_board_46 : decode cX5_board 46 = .ok (.aload_n 0, 1) := by decide +kernel
theorem dX5_board_47 : decode cX5_board 47 = .ok (.getfield 25, 3) := by decide +kernel
theorem dX5_board_50 : decode cX5_board 50 = .ok (.iconst 2, 1) := by decide +kernel
theorem dX5_board_51 : decode cX5_board 51 = .ok (.aload_n 0, 1) := by decide +kernel
theorem dX5_board_52 : decode cX5_board 52 = .ok (.getfield 101, 3) := by decide +kernel
theorem dX5_board_55 : decode cX5_board 55 = .ok (.iadd, 1) := by decide +kernel
theorem dX5_board_56 : decode cX5_board 56 = .ok (.iload_n 1, 1) := by decide +kernel
theorem dX5_board_57 : decode cX5_board 57 = .ok (.iadd, 1) := by decide +kernel
theorem dX5_board_58 : decode cX5_board 58 = .ok (.baload, 1) := by decide +kernel
theorem dX5_board_59 : decode cX5_board 59 = .ok (.istore_n 2, 1) := by decide +kernel
theorem dX5_board_60 : decode cX5_board 60 = .ok (.aload_n 0, 1) := by decide +kernel
theorem dX5_board_61 : decode cX5_board 61 = .ok (.getfield 7, 3) := by decide +kernel
theorem dX5_board_64 : decode cX5_board 64 = .ok (.iload_n 1, 1) := by decide +kernel
theorem dX5_board_65 : decode cX5_board 65 = .ok (.aload_n 0, 1) := by decide +kernel
theorem dX5_board_66 : decode cX5_board 66 = .ok (.getfield 25, 3) := by decide +kernel
theorem dX5_board_69 : decode cX5_board 69 = .ok (.iconst 1, 1) := by decide +kernel
theorem dX5_board_70 : decode cX5_board 70 = .ok (.iload_n 1, 1) := by decide +kernel
theorem dX5_board_71 : decode cX5_board 71 = .ok (.iadd, 1) := by decide +kernel
theorem dX5_board_72 : decode cX5_board 72 = .ok (.baload, 1) := by decide +kernel
theorem dX5_board_73 : decode cX5_board 73 = .ok (.invokestatic 80, 3) := by decide +kernel
theorem dX5_board_76 : decode cX5_board 76 = .ok (.iastore, 1) := by decide +kernel
theorem dX5_board_77 : decode cX5_board 77 = .ok (.aload_n 0, 1) := by decide +kernel
theorem dX5_board_78 : decode cX5_board 78 = .ok (.getfield 13, 3) := by decide +kernel
theorem dX5_board_81 : decode cX5_board 81 = .ok (.iload_n 1, 1) := by decide +kernel
theorem dX5_board_82 : decode cX5_board 82 = .ok (.iload_n 2, 1) := by decide +kernel
theorem dX5_board_83 : decode cX5_board 83 = .ok (.bipush 46, 2) := by decide +kernel
theorem dX5_board_85 : decode cX5_board 85 = .ok (.if_icmp .ne 7, 3) := by decide +kernel
theorem dX5_board_88 : decode cX5_board 88 = .ok (.iconst (-1), 1) := by decide +kernel
theorem dX5_board_89 : decode cX5_board 89 = .ok (.goto 7, 3) := by decide +kernel
theorem dX5_board_92 : decode cX5_board 92 = .ok (.iload_n 2, 1) := by decide +kernel
theorem dX5_board_93 : decode cX5_board 93 = .ok (.bipush 97, 2) := by decide +kernel
theorem dX5_board_95 : decode cX5_board 95 = .ok (.isub, 1) := by decide +kernel
theorem dX5_board_96 : decode cX5_board 96 = .ok (.iastore, 1) := by decide +kernel
theorem dX5_board_97 : decode cX5_board 97 = .ok (.iinc 1 1, 3) := by decide +kernel
theorem dX5_board_100 : decode cX5_board 100 = .ok (.goto (-62), 3) := by decide +kernel
theorem dX5_board_103 : decode cX5_board 103 = .ok (.aload_n 0, 1) := by decide +kernel
theorem dX5_board_104 : decode cX5_board 104 = .ok (.iconst 0, 1) := by decide +kernel
theorem dX5_board_105 : decode cX5_board 105 = .ok (.putfield 104, 3) := by decide +kernel
theorem dX5_board_108 : decode cX5_board 108 = .ok (.aload_n 0, 1) := by decide +kernel
theorem dX5_board_109 : decode cX5_board 109 = .ok (.dup, 1) := by decide +kernel
theorem dX5_board_110 : decode cX5_board 110 = .ok (.getfield 107, 3) := by decide +kernel
theorem dX5_board_113 : decode cX5_board 113 = .ok (.iconst 1, 1) := by decide +kernel
theorem dX5_board_114 : decode cX5_board 114 = .ok (.iadd, 1) := by decide +kernel
theorem dX5_board_115 : decode cX5_board 115 = .ok (.putfield 107, 3) := by decide +kernel
theorem dX5_board_118 : decode cX5_board 118 = .ok (.aload_n 0, 1) := by decide +kernel
theorem dX5_board_119 : decode cX5_board 119 = .ok (.iconst 0, 1) := by decide +kernel
theorem dX5_board_120 : decode cX5_board 120 = .ok (.putfield 110, 3) := by decide +kernel
theorem dX5_board_123 : decode cX5_board 123 = .ok (.aload_n 0, 1) := by decide +kernel
theorem dX5_board_124 : decode cX5_board 124 = .ok (.iconst 0, 1) := by decide +kernel
theorem dX5_board_125 : decode cX5_board 125 = .ok (.putfield 69, 3) := by decide +kernel
theorem dX5_board_128 : decode cX5_board 128 = .ok (.aload_n 0, 1) := by decide +kernel
theorem dX5_board_129 : decode cX5_board 129 = .ok (.getfield 101, 3) := by decide +kernel
theorem dX5_board_132 : decode cX5_board 132 = .ok (.ireturn, 1) := by decide +kernel
theorem dX5_isNumber_0 : decode cX5_isNumber 0 = .ok (.iload_n 1, 1) := by decide +kernel
theorem dX5_isNumber_1 : decode cX5_isNumber 1 = .ok (.iconst 1, 1) := by decide +kernel
theorem dX5_isNumber_2 : decode cX5_isNumber 2 = .ok (.aload_n 0, 1) := by decide +kernel
theorem dX5_isNumber_3 : decode cX5_isNumber 3 = .ok (.getfield 101, 3) := by decide +kernel
theorem dX5_isNumber_6 : decode cX5_isNumber 6 = .ok (.invokestatic 65, 3) := by decide +kernel
theorem dX5_isNumber_9 : decode cX5_isNumber 9 = .ok (.ireturn, 1) := by decide +kernel
theorem dX5_isColour_0 : decode cX5_isColour 0 = .ok (.iload_n 1, 1) := by decide +kernel
theorem dX5_isColour_1 : decode cX5_isColour 1 = .ok (.iconst 0, 1) := by decide +kernel
theorem dX5_isColour_2 : decode cX5_isColour 2 = .ok (.aload_n 0, 1) := by decide +kernel
theorem dX5_isColour_3 : decode cX5_isColour 3 = .ok (.getfield 98, 3) := by decide +kernel
theorem dX5_isColour_6 : decode cX5_isColour 6 = .ok (.iconst 1, 1) := by decide +kernel
theorem dX5_isColour_7 : decode cX5_isColour 7 = .ok (.isub, 1) := by decide +kernel
theorem dX5_isColour_8 : decode cX5_isColour 8 = .ok (.invokestatic 65, 3) := by decide +kernel
theorem dX5_isColour_11 : decode cX5_isColour 11 = .ok (.ireturn, 1) := by decide +kernel
theorem dX5_isPart_0 : decode cX5_isPart 0 = .ok (.iload_n 0, 1) := by decide +kernel
theorem dX5_isPart_1 : decode cX5_isPart 1 = .ok (.iconst 3, 1) := by decide +kernel
theorem dX5_isPart_2 : decode cX5_isPart 2 = .ok (.if_icmp .eq 12, 3) := by decide +kernel
theorem dX5_isPart_5 : decode cX5_isPart 5 = .ok (.iload_n 0, 1) := by decide +kernel
theorem dX5_isPart_6 : decode cX5_isPart 6 = .ok (.iconst 4, 1) := by decide +kernel
theorem dX5_isPart_7 : decode cX5_isPart 7 = .ok (.if_icmp .eq 7, 3) := by decide +kernel
theorem dX5_isPart_10 : decode cX5_isPart 10 = .ok (.iconst 1, 1) := by decide +kernel
theorem dX5_isPart_11 : decode cX5_isPart 11 = .ok (.goto 4, 3) := by decide +kernel
theorem dX5_isPart_14 : decode cX5_isPart 14 = .ok (.iconst 0, 1) := by decide +kernel
theorem dX5_isPart_15 : decode cX5_isPart 15 = .ok (.ireturn, 1) := by decide +kernel
theorem dX5_minds_0 : decode cX5_minds 0 = .ok (.iload_n 0, 1) := by decide +kernel
theorem dX5_minds_1 : decode cX5_minds 1 = .ok (.ifCond .eq 17, 3) := by decide +kernel
theorem dX5_minds_4 : decode cX5_minds 4 = .ok (.iload_n 0, 1) := by decide +kernel
theorem dX5_minds_5 : decode cX5_minds 5 = .ok (.iconst 3, 1) := by decide +kernel
theorem dX5_minds_6 : decode cX5_minds 6 = .ok (.if_icmp .eq 12, 3) := by decide +kernel
theorem dX5_minds_9 : decode cX5_minds 9 = .ok (.iload_n 0, 1) := by decide +kernel
theorem dX5_minds_10 : decode cX5_minds 10 = .ok (.iconst 1, 1) := by decide +kernel
theorem dX5_minds_11 : decode cX5_minds 11 = .ok (.if_icmp .ne 11, 3) := by decide +kernel
theorem dX5_minds_14 : decode cX5_minds 14 = .ok (.iload_n 1, 1) := by decide +kernel
theorem dX5_minds_15 : decode cX5_minds 15 = .ok (.ifCond .eq 7, 3) := by decide +kernel
theorem dX5_minds_18 : decode cX5_minds 18 = .ok (.iconst 1, 1) := by decide +kernel
theorem dX5_minds_19 : decode cX5_minds 19 = .ok (.goto 4, 3) := by decide +kernel
theorem dX5_minds_22 : decode cX5_minds 22 = .ok (.iconst 0, 1) := by decide +kernel
theorem dX5_minds_23 : decode cX5_minds 23 = .ok (.ireturn, 1) := by decide +kernel
theorem dX5_layNow_0 : decode cX5_layNow 0 = .ok (.iconst 1, 1) := by decide +kernel
theorem dX5_layNow_1 : decode cX5_layNow 1 = .ok (.istore_n 1, 1) := by decide +kernel
theorem dX5_layNow_2 : decode cX5_layNow 2 = .ok (.iload_n 1, 1) := by decide +kernel
theorem dX5_layNow_3 : decode cX5_layNow 3 = .ok (.bipush 10, 2) := by decide +kernel
theorem dX5_layNow_5 : decode cX5_layNow 5 = .ok (.if_icmp .gt 33, 3) := by decide +kernel
theorem dX5_layNow_8 : decode cX5_layNow 8 = .ok (.aload_n 0, 1) := by decide +kernel
theorem dX5_layNow_9 : decode cX5_layNow 9 = .ok (.getfield 29, 3) := by decide +kernel
theorem dX5_layNow_12 : decode cX5_layNow 12 = .ok (.iload_n 1, 1) := by decide +kernel
theorem dX5_layNow_13 : decode cX5_layNow 13 = .ok (.iload_n 1, 1) := by decide +kernel
theorem dX5_layNow_14 : decode cX5_layNow 14 = .ok (.aload_n 0, 1) := by decide +kernel
theorem dX5_layNow_15 : decode cX5_layNow 15 = .ok (.getfield 101, 3) := by decide +kernel
theorem dX5_layNow_18 : decode cX5_layNow 18 = .ok (.if_icmp .gt 12, 3) := by decide +kernel
theorem dX5_layNow_21 : decode cX5_layNow 21 = .ok (.aload_n 0, 1) := by decide +kernel
theorem dX5_layNow_22 : decode cX5_layNow 22 = .ok (.getfield 13, 3) := by decide +kernel
theorem dX5_layNow_25 : decode cX5_layNow 25 = .ok (.iload_n 1, 1) := by decide +kernel
theorem dX5_layNow_26 : decode cX5_layNow 26 = .ok (.iaload, 1) := by decide +kernel
theorem dX5_layNow_27 : decode cX5_layNow 27 = .ok (.goto 4, 3) := by decide +kernel
theorem dX5_layNow_30 : decode cX5_layNow 30 = .ok (.iconst (-1), 1) := by decide +kernel
theorem dX5_layNow_31 : decode cX5_layNow 31 = .ok (.iastore, 1) := by decide +kernel
theorem dX5_layNow_32 : decode cX5_layNow 32 = .ok (.iinc 1 1, 3) := by decide +kernel
theorem dX5_layNow_35 : decode cX5_layNow 35 = .ok (.goto (-33), 3) := by decide +kernel
theorem dX5_layNow_38 : decode cX5_layNow 38 = .ok (.return_, 1) := by decide +kernel
theorem dX5_isBad_0 : decode cX5_isBad 0 = .ok (.iload_n 1, 1) := by decide +kernel
theorem dX5_isBad_1 : decode cX5_isBad 1 = .ok (.iload_n 2, 1) := by decide +kernel
theorem dX5_isBad_2 : decode cX5_isBad 2 = .ok (.iadd, 1) := by decide +kernel
theorem dX5_isBad_3 : decode cX5_isBad 3 = .ok (.istore_n 3, 1) := by decide +kernel
theorem dX5_isBad_4 : decode cX5_isBad 4 = .ok (.aload_n 0, 1) := by decide +kernel
theorem dX5_isBad_5 : decode cX5_isBad 5 = .ok (.getfield 29, 3) := by decide +kernel
theorem dX5_isBad_8 : decode cX5_isBad 8 = .ok (.iload_n 1, 1) := by decide +kernel
theorem dX5_isBad_9 : decode cX5_isBad 9 = .ok (.iaload, 1) := by decide +kernel
theorem dX5_isBad_10 : decode cX5_isBad 10 = .ok (.iconst (-1), 1) := by decide +kernel
theorem dX5_isBad_11 : decode cX5_isBad 11 = .ok (.if_icmp .eq 37, 3) := by decide +kernel
theorem dX5_isBad_14 : decode cX5_isBad 14 = .ok (.aload_n 0, 1) := by decide +kernel
theorem dX5_isBad_15 : decode cX5_isBad 15 = .ok (.getfield 29, 3) := by decide +kernel
theorem dX5_isBad_18 : decode cX5_isBad 18 = .ok (.iload_n 1, 1) := by decide +kernel
theorem dX5_isBad_19 : decode cX5_isBad 19 = .ok (.iaload, 1) := by decide +kernel
theorem dX5_isBad_20 : decode cX5_isBad 20 = .ok (.aload_n 0, 1) := by decide +kernel
theorem dX5_isBad_21 : decode cX5_isBad 21 = .ok (.getfield 29, 3) := by decide +kernel
theorem dX5_isBad_24 : decode cX5_isBad 24 = .ok (.iload_n 2, 1) := by decide +kernel
theorem dX5_isBad_25 : decode cX5_isBad 25 = .ok (.iaload, 1) := by decide +kernel
theorem dX5_isBad_26 : decode cX5_isBad 26 = .ok (.if_icmp .ne 22, 3) := by decide +kernel
theorem dX5_isBad_29 : decode cX5_isBad 29 = .ok (.aload_n 0, 1) := by decide +kernel
theorem dX5_isBad_30 : decode cX5_isBad 30 = .ok (.getfield 29, 3) := by decide +kernel
theorem dX5_isBad_33 : decode cX5_isBad 33 = .ok (.iload_n 1, 1) := by decide +kernel
theorem dX5_isBad_34 : decode cX5_isBad 34 = .ok (.iaload, 1) := by decide +kernel
theorem dX5_isBad_35 : decode cX5_isBad 35 = .ok (.aload_n 0, 1) := by decide +kernel
theorem dX5_isBad_36 : decode cX5_isBad 36 = .ok (.getfield 29, 3) := by decide +kernel
theorem dX5_isBad_39 : decode cX5_isBad 39 = .ok (.iload_n 3, 1) := by decide +kernel
theorem dX5_isBad_40 : decode cX5_isBad 40 = .ok (.iaload, 1) := by decide +kernel
theorem dX5_isBad_41 : decode cX5_isBad 41 = .ok (.if_icmp .ne 7, 3) := by decide +kernel
theorem dX5_isBad_44 : decode cX5_isBad 44 = .ok (.iconst 1, 1) := by decide +kernel
theorem dX5_isBad_45 : decode cX5_isBad 45 = .ok (.goto 4, 3) := by decide +kernel
theorem dX5_isBad_48 : decode cX5_isBad 48 = .ok (.iconst 0, 1) := by decide +kernel
theorem dX5_isBad_49 : decode cX5_isBad 49 = .ok (.istore 4, 2) := by decide +kernel
theorem dX5_isBad_51 : decode cX5_isBad 51 = .ok (.iload 4, 2) := by decide +kernel
theorem dX5_isBad_53 : decode cX5_isBad 53 = .ok (.ifCond .eq 53, 3) := by decide +kernel
theorem dX5_isBad_56 : decode cX5_isBad 56 = .ok (.aload_n 0, 1) := by decide +kernel
theorem dX5_isBad_57 : decode cX5_isBad 57 = .ok (.getfield 7, 3) := by decide +kernel
theorem dX5_isBad_60 : decode cX5_isBad 60 = .ok (.iload_n 1, 1) := by decide +kernel
theorem dX5_isBad_61 : decode cX5_isBad 61 = .ok (.iaload, 1) := by decide +kernel
theorem dX5_isBad_62 : decode cX5_isBad 62 = .ok (.invokestatic 113, 3) := by decide +kernel
theorem dX5_isBad_65 : decode cX5_isBad 65 = .ok (.ifCond .eq 41, 3) := by decide +kernel
theorem dX5_isBad_68 : decode cX5_isBad 68 = .ok (.aload_n 0, 1) := by decide +kernel
theorem dX5_isBad_69 : decode cX5_isBad 69 = .ok (.getfield 7, 3) := by decide +kernel
theorem dX5_isBad_72 : decode cX5_isBad 72 = .ok (.iload_n 2, 1) := by decide +kernel
theorem dX5_isBad_73 : decode cX5_isBad 73 = .ok (.iaload, 1) := by decide +kernel
theorem dX5_isBad_74 : decode cX5_isBad 74 = .ok (.invokestatic 113, 3) := by decide +kernel
theorem dX5_isBad_77 : decode cX5_isBad 77 = .ok (.ifCond .eq 29, 3) := by decide +kernel
theorem dX5_isBad_80 : decode cX5_isBad 80 = .ok (.aload_n 0, 1) := by decide +kernel
theorem dX5_isBad_81 : decode cX5_isBad 81 = .ok (.getfield 7, 3) := by decide +kernel
theorem dX5_isBad_84 : decode cX5_isBad 84 = .ok (.iload_n 3, 1) := by decide +kernel
theorem dX5_isBad_85 : decode cX5_isBad 85 = .ok (.iaload, 1) := by decide +kernel
theorem dX5_isBad_86 : decode cX5_isBad 86 = .ok (.iload_n 1, 1) := by decide +kernel
theorem dX5_isBad_87 : decode cX5_isBad 87 = .ok (.iload_n 2, 1) := by decide +kernel
theorem dX5_isBad_88 : decode cX5_isBad 88 = .ok (.if_icmp .eq 7, 3) := by decide +kernel
theorem dX5_isBad_91 : decode cX5_isBad 91 = .ok (.iconst 1, 1) := by decide +kernel
theorem dX5_isBad_92 : decode cX5_isBad 92 = .ok (.goto 4, 3) := by decide +kernel
theorem dX5_isBad_95 : decode cX5_isBad 95 = .ok (.iconst 0, 1) := by decide +kernel
theorem dX5_isBad_96 : decode cX5_isBad 96 = .ok (.invokestatic 117, 3) := by decide +kernel
theorem dX5_isBad_99 : decode cX5_isBad 99 = .ok (.ifCond .eq 7, 3) := by decide +kernel
theorem dX5_isBad_102 : decode cX5_isBad 102 = .ok (.iconst 1, 1) := by decide +kernel
theorem dX5_isBad_103 : decode cX5_isBad 103 = .ok (.goto 4, 3) := by decide +kernel
theorem dX5_isBad_106 : decode cX5_isBad 106 = .ok (.iconst 0, 1) := by decide +kernel
theorem dX5_isBad_107 : decode cX5_isBad 107 = .ok (.ireturn, 1) := by decide +kernel
theorem dX5_badWith_0 : decode cX5_badWith 0 = .ok (.iconst 0, 1) := by decide +kernel
theorem dX5_badWith_1 : decode cX5_badWith 1 = .ok (.istore_n 2, 1) := by decide +kernel
theorem dX5_badWith_2 : decode cX5_badWith 2 = .ok (.iconst 1, 1) := by decide +kernel
theorem dX5_badWith_3 : decode cX5_badWith 3 = .ok (.istore_n 3, 1) := by decide +kernel
theorem dX5_badWith_4 : decode cX5_badWith 4 = .ok (.iload_n 3, 1) := by decide +kernel
theorem dX5_badWith_5 : decode cX5_badWith 5 = .ok (.iload_n 1, 1) := by decide +kernel
theorem dX5_badWith_6 : decode cX5_badWith 6 = .ok (.iload_n 3, 1) := by decide +kernel
theorem dX5_badWith_7 : decode cX5_badWith 7 = .ok (.isub, 1) := by decide +kernel
theorem dX5_badWith_8 : decode cX5_badWith 8 = .ok (.if_icmp .gt 28, 3) := by decide +kernel
theorem dX5_badWith_11 : decode cX5_badWith 11 = .ok (.iload_n 2, 1) := by decide +kernel
theorem dX5_badWith_12 : decode cX5_badWith 12 = .ok (.aload_n 0, 1) := by decide +kernel
theorem dX5_badWith_13 : decode cX5_badWith 13 = .ok (.iload_n 3, 1) := by decide +kernel
theorem dX5_badWith_14 : decode cX5_badWith 14 = .ok (.iload_n 1, 1) := by decide +kernel
theorem dX5_badWith_15 : decode cX5_badWith 15 = .ok (.iload_n 3, 1) := by decide +kernel
theorem dX5_badWith_16 : decode cX5_badWith 16 = .ok (.isub, 1) := by decide +kernel
theorem dX5_badWith_17 : decode cX5_badWith 17 = .ok (.invokevirtual 121, 3) := by decide +kernel
theorem dX5_badWith_20 : decode cX5_badWith 20 = .ok (.ifCond .eq 7, 3) := by decide +kernel
theorem dX5_badWith_23 : decode cX5_badWith 23 = .ok (.iconst 1, 1) := by decide +kernel
theorem dX5_badWith_24 : decode cX5_badWith 24 = .ok (.goto 4, 3) := by decide +kernel
theorem dX5_badWith_27 : decode cX5_badWith 27 = .ok (.iconst 0, 1) := by decide +kernel
theorem dX5_badWith_28 : decode cX5_badWith 28 = .ok (.iadd, 1) := by decide +kernel
theorem dX5_badWith_29 : decode cX5_badWith 29 = .ok (.istore_n 2, 1) := by decide +kernel
theorem dX5_badWith_30 : decode cX5_badWith 30 = .ok (.iinc 3 1, 3) := by decide +kernel
theorem dX5_badWith_33 : decode cX5_badWith 33 = .ok (.goto (-29), 3) := by decide +kernel
theorem dX5_badWith_36 : decode cX5_badWith 36 = .ok (.iload_n 2, 1) := by decide +kernel
theorem dX5_badWith_37 : decode cX5_badWith 37 = .ok (.ireturn, 1) := by decide +kernel
theorem dX5_badUpTo_0 : decode cX5_badUpTo 0 = .ok (.iconst 0, 1) := by decide +kernel
theorem dX5_badUpTo_1 : decode cX5_badUpTo 1 = .ok (.istore_n 2, 1) := by decide +kernel
theorem dX5_badUpTo_2 : decode cX5_badUpTo 2 = .ok (.iconst 2, 1) := by decide +kernel
theorem dX5_badUpTo_3 : decode cX5_badUpTo 3 = .ok (.istore_n 3, 1) := by decide +kernel
theorem dX5_badUpTo_4 : decode cX5_badUpTo 4 = .ok (.iload_n 3, 1) := by decide +kernel
theorem dX5_badUpTo_5 : decode cX5_badUpTo 5 = .ok (.iload_n 1, 1) := by decide +kernel
theorem dX5_badUpTo_6 : decode cX5_badUpTo 6 = .ok (.if_icmp .gt 17, 3) := by decide +kernel
theorem dX5_badUpTo_9 : decode cX5_badUpTo 9 = .ok (.iload_n 2, 1) := by decide +kernel
theorem dX5_badUpTo_10 : decode cX5_badUpTo 10 = .ok (.aload_n 0, 1) := by decide +kernel
theorem dX5_badUpTo_11 : decode cX5_badUpTo 11 = .ok (.iload_n 3, 1) := by decide +kernel
theorem dX5_badUpTo_12 : decode cX5_badUpTo 12 = .ok (.invokevirtual 125, 3) := by decide +kernel
theorem dX5_badUpTo_15 : decode cX5_badUpTo 15 = .ok (.iadd, 1) := by decide +kernel
theorem dX5_badUpTo_16 : decode cX5_badUpTo 16 = .ok (.istore_n 2, 1) := by decide +kernel
theorem dX5_badUpTo_17 : decode cX5_badUpTo 17 = .ok (.iinc 3 1, 3) := by decide +kernel
theorem dX5_badUpTo_20 : decode cX5_badUpTo 20 = .ok (.goto (-16), 3) := by decide +kernel
theorem dX5_badUpTo_23 : decode cX5_badUpTo 23 = .ok (.iload_n 2, 1) := by decide +kernel
theorem dX5_badUpTo_24 : decode cX5_badUpTo 24 = .ok (.ireturn, 1) := by decide +kernel
theorem dX5_badNow_0 : decode cX5_badNow 0 = .ok (.aload_n 0, 1) := by decide +kernel
theorem dX5_badNow_1 : decode cX5_badNow 1 = .ok (.invokevirtual 128, 3) := by decide +kernel
theorem dX5_badNow_4 : decode cX5_badNow 4 = .ok (.aload_n 0, 1) := by decide +kernel
theorem dX5_badNow_5 : decode cX5_badNow 5 = .ok (.aload_n 0, 1) := by decide +kernel
theorem dX5_badNow_6 : decode cX5_badNow 6 = .ok (.getfield 101, 3) := by decide +kernel
theorem dX5_badNow_9 : decode cX5_badNow 9 = .ok (.invokevirtual 131, 3) := by decide +kernel
theorem dX5_badNow_12 : decode cX5_badNow 12 = .ok (.ireturn, 1) := by decide +kernel
theorem dX5_badOf_0 : decode cX5_badOf 0 = .ok (.aload_n 0, 1) := by decide +kernel
theorem dX5_badOf_1 : decode cX5_badOf 1 = .ok (.invokevirtual 128, 3) := by decide +kernel
theorem dX5_badOf_4 : decode cX5_badOf 4 = .ok (.aload_n 0, 1) := by decide +kernel
theorem dX5_badOf_5 : decode cX5_badOf 5 = .ok (.iload_n 1, 1) := by decide +kernel
theorem dX5_badOf_6 : decode cX5_badOf 6 = .ok (.invokevirtual 125, 3) := by decide +kernel
theorem dX5_badOf_9 : decode cX5_badOf 9 = .ok (.istore_n 2, 1) := by decide +kernel
theorem dX5_badOf_10 : decode cX5_badOf 10 = .ok (.iload_n 1, 1) := by decide +kernel
theorem dX5_badOf_11 : decode cX5_badOf 11 = .ok (.iconst 1, 1) := by decide +kernel
theorem dX5_badOf_12 : decode cX5_badOf 12 = .ok (.iadd, 1) := by decide +kernel
theorem dX5_badOf_13 : decode cX5_badOf 13 = .ok (.istore_n 3, 1) := by decide +kernel
theorem dX5_badOf_14 : decode cX5_badOf 14 = .ok (.iload_n 3, 1) := by decide +kernel
theorem dX5_badOf_15 : decode cX5_badOf 15 = .ok (.aload_n 0, 1) := by decide +kernel
theorem dX5_badOf_16 : decode cX5_badOf 16 = .ok (.getfield 101, 3) := by decide +kernel
theorem dX5_badOf_19 : decode cX5_badOf 19 = .ok (.if_icmp .gt 52, 3) := by decide +kernel
theorem dX5_badOf_22 : decode cX5_badOf 22 = .ok (.iload_n 2, 1) := by decide +kernel
theorem dX5_badOf_23 : decode cX5_badOf 23 = .ok (.aload_n 0, 1) := by decide +kernel
theorem dX5_badOf_24 : decode cX5_badOf 24 = .ok (.iload_n 1, 1) := by decide +kernel
theorem dX5_badOf_25 : decode cX5_badOf 25 = .ok (.iload_n 3, 1) := by decide +kernel
theorem dX5_badOf_26 : decode cX5_badOf 26 = .ok (.iload_n 1, 1) := by decide +kernel
theorem dX5_badOf_27 : decode cX5_badOf 27 = .ok (.isub, 1) := by decide +kernel
theorem dX5_badOf_28 : decode cX5_badOf 28 = .ok (.if_icmp .ge 7, 3) := by decide +kernel
theorem dX5_badOf_31 : decode cX5_badOf 31 = .ok (.iload_n 1, 1) := by decide +kernel
theorem dX5_badOf_32 : decode cX5_badOf 32 = .ok (.goto 6, 3) := by decide +kernel
theorem dX5_badOf_35 : decode cX5_badOf 35 = .ok (.iload_n 3, 1) := by decide +kernel
theorem dX5_badOf_36 : decode cX5_badOf 36 = .ok (.iload_n 1, 1) := by decide +kernel
theorem dX5_badOf_37 : decode cX5_badOf 37 = .ok (.isub, 1) := by decide +kernel
theorem dX5_badOf_38 : decode cX5_badOf 38 = .ok (.iload_n 1, 1) := by decide +kernel
theorem dX5_badOf_39 : decode cX5_badOf 39 = .ok (.iload_n 3, 1) := by decide +kernel
theorem dX5_badOf_40 : decode cX5_badOf 40 = .ok (.iload_n 1, 1) := by decide +kernel
theorem dX5_badOf_41 : decode cX5_badOf 41 = .ok (.isub, 1) := by decide +kernel
theorem dX5_badOf_42 : decode cX5_badOf 42 = .ok (.if_icmp .ge 9, 3) := by decide +kernel
theorem dX5_badOf_45 : decode cX5_badOf 45 = .ok (.iload_n 3, 1) := by decide +kernel
theorem dX5_badOf_46 : decode cX5_badOf 46 = .ok (.iload_n 1, 1) := by decide +kernel
theorem dX5_badOf_47 : decode cX5_badOf 47 = .ok (.isub, 1) := by decide +kernel
theorem dX5_badOf_48 : decode cX5_badOf 48 = .ok (.goto 4, 3) := by decide +kernel
theorem dX5_badOf_51 : decode cX5_badOf 51 = .ok (.iload_n 1, 1) := by decide +kernel
theorem dX5_badOf_52 : decode cX5_badOf 52 = .ok (.invokevirtual 121, 3) := by decide +kernel
theorem dX5_badOf_55 : decode cX5_badOf 55 = .ok (.ifCond .eq 7, 3) := by decide +kernel
theorem dX5_badOf_58 : decode cX5_badOf 58 = .ok (.iconst 1, 1) := by decide +kernel
theorem dX5_badOf_59 : decode cX5_badOf 59 = .ok (.goto 4, 3) := by decide +kernel
theorem dX5_badOf_62 : decode cX5_badOf 62 = .ok (.iconst 0, 1) := by decide +kernel
theorem dX5_badOf_63 : decode cX5_badOf 63 = .ok (.iadd, 1) := by decide +kernel
theorem dX5_badOf_64 : decode cX5_badOf 64 = .ok (.istore_n 2, 1) := by decide +kernel
theorem dX5_badOf_65 : decode cX5_badOf 65 = .ok (.iinc 3 1, 3) := by decide +kernel
theorem dX5_badOf_68 : decode cX5_badOf 68 = .ok (.goto (-54), 3) := by decide +kernel
theorem dX5_badOf_71 : decode cX5_badOf 71 = .ok (.iload_n 2, 1) := by decide +kernel
theorem dX5_badOf_72 : decode cX5_badOf 72 = .ok (.ireturn, 1) := by decide +kernel
theorem dX5_numberNow_0 : decode cX5_numberNow 0 = .ok (.iload_n 2, 1) := by decide +kernel
theorem dX5_numberNow_1 : decode cX5_numberNow 1 = .ok (.tableswitch 73 0 4 #[35, 42, 49, 61, 67], 35) := by decide +kernel
theorem dX5_numberNow_36 : decode cX5_numberNow 36 = .ok (.aload_n 0, 1) := by decide +kernel
theorem dX5_numberNow_37 : decode cX5_numberNow 37 = .ok (.getfield 7, 3) := by decide +kernel
theorem dX5_numberNow_40 : decode cX5_numberNow 40 = .ok (.iload_n 1, 1) := by decide +kernel
theorem dX5_numberNow_41 : decode cX5_numberNow 41 = .ok (.iaload, 1) := by decide +kernel
theorem dX5_numberNow_42 : decode cX5_numberNow 42 = .ok (.ireturn, 1) := by decide +kernel
theorem dX5_numberNow_43 : decode cX5_numberNow 43 = .ok (.aload_n 0, 1) := by decide +kernel
theorem dX5_numberNow_44 : decode cX5_numberNow 44 = .ok (.getfield 13, 3) := by decide +kernel
theorem dX5_numberNow_47 : decode cX5_numberNow 47 = .ok (.iload_n 1, 1) := by decide +kernel
theorem dX5_numberNow_48 : decode cX5_numberNow 48 = .ok (.iaload, 1) := by decide +kernel
theorem dX5_numberNow_49 : decode cX5_numberNow 49 = .ok (.ireturn, 1) := by decide +kernel
theorem dX5_numberNow_50 : decode cX5_numberNow 50 = .ok (.aload_n 0, 1) := by decide +kernel
theorem dX5_numberNow_51 : decode cX5_numberNow 51 = .ok (.iconst (-1), 1) := by decide +kernel
theorem dX5_numberNow_52 : decode cX5_numberNow 52 = .ok (.invokevirtual 134, 3) := by decide +kernel
theorem dX5_numberNow_55 : decode cX5_numberNow 55 = .ok (.pop, 1) := by decide +kernel
theorem dX5_numberNow_56 : decode cX5_numberNow 56 = .ok (.aload_n 0, 1) := by decide +kernel
theorem dX5_numberNow_57 : decode cX5_numberNow 57 = .ok (.iload_n 1, 1) := by decide +kernel
theorem dX5_numberNow_58 : decode cX5_numberNow 58 = .ok (.invokevirtual 137, 3) := by decide +kernel
theorem dX5_numberNow_61 : decode cX5_numberNow 61 = .ok (.ireturn, 1) := by decide +kernel
theorem dX5_numberNow_62 : decode cX5_numberNow 62 = .ok (.aload_n 0, 1) := by decide +kernel
theorem dX5_numberNow_63 : decode cX5_numberNow 63 = .ok (.iload_n 1, 1) := by decide +kernel
theorem dX5_numberNow_64 : decode cX5_numberNow 64 = .ok (.invokevirtual 140, 3) := by decide +kernel
theorem dX5_numberNow_67 : decode cX5_numberNow 67 = .ok (.ireturn, 1) := by decide +kernel
theorem dX5_numberNow_68 : decode cX5_numberNow 68 = .ok (.aload_n 0, 1) := by decide +kernel
theorem dX5_numberNow_69 : decode cX5_numberNow 69 = .ok (.iload_n 1, 1) := by decide +kernel
theorem dX5_numberNow_70 : decode cX5_numberNow 70 = .ok (.invokevirtual 143, 3) := by decide +kernel
theorem dX5_numberNow_73 : decode cX5_numberNow 73 = .ok (.ireturn, 1) := by decide +kernel
theorem dX5_numberNow_74 : decode cX5_numberNow 74 = .ok (.aload_n 0, 1) := by decide +kernel
theorem dX5_numberNow_75 : decode cX5_numberNow 75 = .ok (.iload_n 1, 1) := by decide +kernel
theorem dX5_numberNow_76 : decode cX5_numberNow 76 = .ok (.invokevirtual 146, 3) := by decide +kernel
theorem dX5_numberNow_79 : decode cX5_numberNow 79 = .ok (.ireturn, 1) := by decide +kernel
theorem dX5_number_0 : decode cX5_number 0 = .ok (.aload_n 0, 1) := by decide +kernel
theorem dX5_number_1 : decode cX5_number 1 = .ok (.iload_n 1, 1) := by decide +kernel
theorem dX5_number_2 : decode cX5_number 2 = .ok (.invokevirtual 149, 3) := by decide +kernel
theorem dX5_number_5 : decode cX5_number 5 = .ok (.ifCond .ne 8, 3) := by decide +kernel
theorem dX5_number_8 : decode cX5_number 8 = .ok (.bipush (-101), 2) := by decide +kernel
theorem dX5_number_10 : decode cX5_number 10 = .ok (.goto 23, 3) := by decide +kernel
theorem dX5_number_13 : decode cX5_number 13 = .ok (.iload_n 2, 1) := by decide +kernel
theorem dX5_number_14 : decode cX5_number 14 = .ok (.iconst 0, 1) := by decide +kernel
theorem dX5_number_15 : decode cX5_number 15 = .ok (.iconst 5, 1) := by decide +kernel
theorem dX5_number_16 : decode cX5_number 16 = .ok (.invokestatic 65, 3) := by decide +kernel
theorem dX5_number_19 : decode cX5_number 19 = .ok (.ifCond .eq 12, 3) := by decide +kernel
theorem dX5_number_22 : decode cX5_number 22 = .ok (.aload_n 0, 1) := by decide +kernel
theorem dX5_number_23 : decode cX5_number 23 = .ok (.iload_n 1, 1) := by decide +kernel
theorem dX5_number_24 : decode cX5_number 24 = .ok (.iload_n 2, 1) := by decide +kernel
theorem dX5_number_25 : decode cX5_number 25 = .ok (.invokevirtual 152, 3) := by decide +kernel
theorem dX5_number_28 : decode cX5_number 28 = .ok (.goto 5, 3) := by decide +kernel
theorem dX5_number_31 : decode cX5_number 31 = .ok (.bipush (-102), 2) := by decide +kernel
theorem dX5_number_33 : decode cX5_number 33 = .ok (.ireturn, 1) := by decide +kernel
theorem dX5_as_0 : decode cX5_as 0 = .ok (.aload_n 0, 1) := by decide +kernel
theorem dX5_as_1 : decode cX5_as 1 = .ok (.iload_n 1, 1) := by decide +kernel
theorem dX5_as_2 : decode cX5_as 2 = .ok (.invokevirtual 149, 3) := by decide +kernel
theorem dX5_as_5 : decode cX5_as 5 = .ok (.ifCond .ne 6, 3) := by decide +kernel
theorem dX5_as_8 : decode cX5_as 8 = .ok (.bipush (-101), 2) := by decide +kernel
theorem dX5_as_10 : decode cX5_as 10 = .ok (.ireturn, 1) := by decide +kernel
theorem dX5_as_11 : decode cX5_as 11 = .ok (.iload_n 2, 1) := by decide +kernel
theorem dX5_as_12 : decode cX5_as 12 = .ok (.iconst 0, 1) := by decide +kernel
theorem dX5_as_13 : decode cX5_as 13 = .ok (.iconst 4, 1) := by decide +kernel
theorem dX5_as_14 : decode cX5_as 14 = .ok (.invokestatic 65, 3) := by decide +kernel
theorem dX5_as_17 : decode cX5_as 17 = .ok (.ifCond .ne 6, 3) := by decide +kernel
theorem dX5_as_20 : decode cX5_as 20 = .ok (.bipush (-102), 2) := by decide +kernel
theorem dX5_as_22 : decode cX5_as 22 = .ok (.ireturn, 1) := by decide +kernel
theorem dX5_as_23 : decode cX5_as 23 = .ok (.aload_n 0, 1) := by decide +kernel
theorem dX5_as_24 : decode cX5_as 24 = .ok (.getfield 7, 3) := by decide +kernel
theorem dX5_as_27 : decode cX5_as 27 = .ok (.iload_n 1, 1) := by decide +kernel
theorem dX5_as_28 : decode cX5_as 28 = .ok (.iaload, 1) := by decide +kernel
theorem dX5_as_29 : decode cX5_as 29 = .ok (.istore_n 3, 1) := by decide +kernel
theorem dX5_as_30 : decode cX5_as 30 = .ok (.iload_n 2, 1) := by decide +kernel
theorem dX5_as_31 : decode cX5_as 31 = .ok (.ifCond .eq 18, 3) := by decide +kernel
theorem dX5_as_34 : decode cX5_as 34 = .ok (.iload_n 3, 1) := by decide +kernel
theorem dX5_as_35 : decode cX5_as 35 = .ok (.iload_n 2, 1) := by decide +kernel
theorem dX5_as_36 : decode cX5_as 36 = .ok (.if_icmp .eq 13, 3) := by decide +kernel
theorem dX5_as_39 : decode cX5_as 39 = .ok (.iload_n 2, 1) := by decide +kernel
theorem dX5_as_40 : decode cX5_as 40 = .ok (.iconst 3, 1) := by decide +kernel
theorem dX5_as_41 : decode cX5_as 41 = .ok (.if_icmp .ne 12, 3) := by decide +kernel
theorem dX5_as_44 : decode cX5_as 44 = .ok (.iload_n 3, 1) := by decide +kernel
theorem dX5_as_45 : decode cX5_as 45 = .ok (.iconst 4, 1) := by decide +kernel
theorem dX5_as_46 : decode cX5_as 46 = .ok (.if_icmp .ne 7, 3) := by decide +kernel
theorem dX5_as_49 : decode cX5_as 49 = .ok (.iload_n 1, 1) := by decide +kernel
theorem dX5_as_50 : decode cX5_as 50 = .ok (.goto 4, 3) := by decide +kernel
theorem dX5_as_53 : decode cX5_as 53 = .ok (.iconst (-1), 1) := by decide +kernel
theorem dX5_as_54 : decode cX5_as 54 = .ok (.ireturn, 1) := by decide +kernel
theorem dX5_turnBack_0 : decode cX5_turnBack 0 = .ok (.iload_n 1, 1) := by decide +kernel
theorem dX5_turnBack_1 : decode cX5_turnBack 1 = .ok (.istore_n 2, 1) := by decide +kernel
theorem dX5_turnBack_2 : decode cX5_turnBack 2 = .ok (.iload_n 2, 1) := by decide +kernel
theorem dX5_turnBack_3 : decode cX5_turnBack 3 = .ok (.ifCond .le 46, 3) := by decide +kernel
theorem dX5_turnBack_6 : decode cX5_turnBack 6 = .ok (.aload_n 0, 1) := by decide +kernel
theorem dX5_turnBack_7 : decode cX5_turnBack 7 = .ok (.getfield 13, 3) := by decide +kernel
theorem dX5_turnBack_10 : decode cX5_turnBack 10 = .ok (.iload_n 2, 1) := by decide +kernel
theorem dX5_turnBack_11 : decode cX5_turnBack 11 = .ok (.iaload, 1) := by decide +kernel
theorem dX5_turnBack_12 : decode cX5_turnBack 12 = .ok (.iconst (-1), 1) := by decide +kernel
theorem dX5_turnBack_13 : decode cX5_turnBack 13 = .ok (.if_icmp .ne 18, 3) := by decide +kernel
theorem dX5_turnBack_16 : decode cX5_turnBack 16 = .ok (.aload_n 0, 1) := by decide +kernel
theorem dX5_turnBack_17 : decode cX5_turnBack 17 = .ok (.getfield 29, 3) := by decide +kernel
theorem dX5_turnBack_20 : decode cX5_turnBack 20 = .ok (.iload_n 2, 1) := by decide +kernel
theorem dX5_turnBack_21 : decode cX5_turnBack 21 = .ok (.iaload, 1) := by decide +kernel
theorem dX5_turnBack_22 : decode cX5_turnBack 22 = .ok (.aload_n 0, 1) := by decide +kernel
theorem dX5_turnBack_23 : decode cX5_turnBack 23 = .ok (.getfield 98, 3) := by decide +kernel
theorem dX5_turnBack_26 : decode cX5_turnBack 26 = .ok (.iconst 1, 1) := by decide +kernel
theorem dX5_turnBack_27 : decode cX5_turnBack 27 = .ok (.isub, 1) := by decide +kernel
theorem dX5_turnBack_28 : decode cX5_turnBack 28 = .ok (.if_icmp .ne 21, 3) := by decide +kernel
theorem dX5_turnBack_31 : decode cX5_turnBack 31 = .ok (.aload_n 0, 1) := by decide +kernel
theorem dX5_turnBack_32 : decode cX5_turnBack 32 = .ok (.getfield 29, 3) := by decide +kernel
theorem dX5_turnBack_35 : decode cX5_turnBack 35 = .ok (.iload_n 2, 1) := by decide +kernel
theorem dX5_turnBack_36 : decode cX5_turnBack 36 = .ok (.aload_n 0, 1) := by decide +kernel
theorem dX5_turnBack_37 : decode cX5_turnBack 37 = .ok (.getfield 13, 3) := by decide +kernel
theorem dX5_turnBack_40 : decode cX5_turnBack 40 = .ok (.iload_n 2, 1) := by decide +kernel
theorem dX5_turnBack_41 : decode cX5_turnBack 41 = .ok (.iaload, 1) := by decide +kernel
theorem dX5_turnBack_42 : decode cX5_turnBack 42 = .ok (.iastore, 1) := by decide +kernel
theorem dX5_turnBack_43 : decode cX5_turnBack 43 = .ok (.iinc 2 (-1), 3) := by decide +kernel
theorem dX5_turnBack_46 : decode cX5_turnBack 46 = .ok (.goto (-44), 3) := by decide +kernel
theorem dX5_turnBack_49 : decode cX5_turnBack 49 = .ok (.iload_n 2, 1) := by decide +kernel
theorem dX5_turnBack_50 : decode cX5_turnBack 50 = .ok (.ifCond .le 13, 3) := by decide +kernel
theorem dX5_turnBack_53 : decode cX5_turnBack 53 = .ok (.aload_n 0, 1) := by decide +kernel
theorem dX5_turnBack_54 : decode cX5_turnBack 54 = .ok (.getfield 29, 3) := by decide +kernel
theorem dX5_turnBack_57 : decode cX5_turnBack 57 = .ok (.iload_n 2, 1) := by decide +kernel
theorem dX5_turnBack_58 : decode cX5_turnBack 58 = .ok (.dup2, 1) := by decide +kernel
theorem dX5_turnBack_59 : decode cX5_turnBack 59 = .ok (.iaload, 1) := by decide +kernel
theorem dX5_turnBack_60 : decode cX5_turnBack 60 = .ok (.iconst 1, 1) := by decide +kernel
theorem dX5_turnBack_61 : decode cX5_turnBack 61 = .ok (.iadd, 1) := by decide +kernel
theorem dX5_turnBack_62 : decode cX5_turnBack 62 = .ok (.iastore, 1) := by decide +kernel
theorem dX5_turnBack_63 : decode cX5_turnBack 63 = .ok (.iload_n 2, 1) := by decide +kernel
theorem dX5_turnBack_64 : decode cX5_turnBack 64 = .ok (.ireturn, 1) := by decide +kernel
theorem dX5_goOn_0 : decode cX5_goOn 0 = .ok (.iload_n 1, 1) := by decide +kernel
theorem dX5_goOn_1 : decode cX5_goOn 1 = .ok (.istore_n 3, 1) := by decide +kernel
theorem dX5_goOn_2 : decode cX5_goOn 2 = .ok (.iload_n 3, 1) := by decide +kernel
theorem dX5_goOn_3 : decode cX5_goOn 3 = .ok (.ifCond .le 48, 3) := by decide +kernel
theorem dX5_goOn_6 : decode cX5_goOn 6 = .ok (.iload_n 3, 1) := by decide +kernel
theorem dX5_goOn_7 : decode cX5_goOn 7 = .ok (.iload_n 2, 1) := by decide +kernel
theorem dX5_goOn_8 : decode cX5_goOn 8 = .ok (.if_icmp .gt 43, 3) := by decide +kernel
theorem dX5_goOn_11 : decode cX5_goOn 11 = .ok (.aload_n 0, 1) := by decide +kernel
theorem dX5_goOn_12 : decode cX5_goOn 12 = .ok (.getfield 29, 3) := by decide +kernel
theorem dX5_goOn_15 : decode cX5_goOn 15 = .ok (.iload_n 3, 1) := by decide +kernel
theorem dX5_goOn_16 : decode cX5_goOn 16 = .ok (.iaload, 1) := by decide +kernel
theorem dX5_goOn_17 : decode cX5_goOn 17 = .ok (.iconst (-1), 1) := by decide +kernel
theorem dX5_goOn_18 : decode cX5_goOn 18 = .ok (.if_icmp .ne 10, 3) := by decide +kernel
theorem dX5_goOn_21 : decode cX5_goOn 21 = .ok (.aload_n 0, 1) := by decide +kernel
theorem dX5_goOn_22 : decode cX5_goOn 22 = .ok (.getfield 29, 3) := by decide +kernel
theorem dX5_goOn_25 : decode cX5_goOn 25 = .ok (.iload_n 3, 1) := by decide +kernel
theorem dX5_goOn_26 : decode cX5_goOn 26 = .ok (.iconst 0, 1) := by decide +kernel
theorem dX5_goOn_27 : decode cX5_goOn 27 = .ok (.iastore, 1) := by decide +kernel
theorem dX5_goOn_28 : decode cX5_goOn 28 = .ok (.aload_n 0, 1) := by decide +kernel
theorem dX5_goOn_29 : decode cX5_goOn 29 = .ok (.iload_n 3, 1) := by decide +kernel
theorem dX5_goOn_30 : decode cX5_goOn 30 = .ok (.invokevirtual 125, 3) := by decide +kernel
theorem dX5_goOn_33 : decode cX5_goOn 33 = .ok (.ifCond .le 11, 3) := by decide +kernel
theorem dX5_goOn_36 : decode cX5_goOn 36 = .ok (.aload_n 0, 1) := by decide +kernel
theorem dX5_goOn_37 : decode cX5_goOn 37 = .ok (.iload_n 3, 1) := by decide +kernel
theorem dX5_goOn_38 : decode cX5_goOn 38 = .ok (.invokevirtual 155, 3) := by decide +kernel
theorem dX5_goOn_41 : decode cX5_goOn 41 = .ok (.goto 6, 3) := by decide +kernel
theorem dX5_goOn_44 : decode cX5_goOn 44 = .ok (.iload_n 3, 1) := by decide +kernel
theorem dX5_goOn_45 : decode cX5_goOn 45 = .ok (.iconst 1, 1) := by decide +kernel
theorem dX5_goOn_46 : decode cX5_goOn 46 = .ok (.iadd, 1) := by decide +kernel
theorem dX5_goOn_47 : decode cX5_goOn 47 = .ok (.istore_n 3, 1) := by decide +kernel
theorem dX5_goOn_48 : decode cX5_goOn 48 = .ok (.goto (-46), 3) := by decide +kernel
theorem dX5_goOn_51 : decode cX5_goOn 51 = .ok (.iload_n 3, 1) := by decide +kernel
theorem dX5_goOn_52 : decode cX5_goOn 52 = .ok (.ireturn, 1) := by decide +kernel
theorem dX5_takeWay_0 : decode cX5_takeWay 0 = .ok (.iconst 1, 1) := by decide +kernel
theorem dX5_takeWay_1 : decode cX5_takeWay 1 = .ok (.istore_n 2, 1) := by decide +kernel
theorem dX5_takeWay_2 : decode cX5_takeWay 2 = .ok (.iload_n 2, 1) := by decide +kernel
theorem dX5_takeWay_3 : decode cX5_takeWay 3 = .ok (.aload_n 0, 1) := by decide +kernel
theorem dX5_takeWay_4 : decode cX5_takeWay 4 = .ok (.getfield 101, 3) := by decide +kernel
theorem dX5_takeWay_7 : decode cX5_takeWay 7 = .ok (.if_icmp .gt 57, 3) := by decide +kernel
theorem dX5_takeWay_10 : decode cX5_takeWay 10 = .ok (.aload_n 0, 1) := by decide +kernel
theorem dX5_takeWay_11 : decode cX5_takeWay 11 = .ok (.getfield 32, 3) := by decide +kernel
theorem dX5_takeWay_14 : decode cX5_takeWay 14 = .ok (.iconst 3, 1) := by decide +kernel
theorem dX5_takeWay_15 : decode cX5_takeWay 15 = .ok (.iload_n 2, 1) := by decide +kernel
theorem dX5_takeWay_16 : decode cX5_takeWay 16 = .ok (.imul, 1) := by decide +kernel
theorem dX5_takeWay_17 : decode cX5_takeWay 17 = .ok (.aload_n 0, 1) := by decide +kernel
theorem dX5_takeWay_18 : decode cX5_takeWay 18 = .ok (.getfield 29, 3) := by decide +kernel
theorem dX5_takeWay_21 : decode cX5_takeWay 21 = .ok (.iload_n 2, 1) := by decide +kernel
theorem dX5_takeWay_22 : decode cX5_takeWay 22 = .ok (.iaload, 1) := by decide +kernel
theorem dX5_takeWay_23 : decode cX5_takeWay 23 = .ok (.iadd, 1) := by decide +kernel
theorem dX5_takeWay_24 : decode cX5_takeWay 24 = .ok (.dup2, 1) := by decide +kernel
theorem dX5_takeWay_25 : decode cX5_takeWay 25 = .ok (.iaload, 1) := by decide +kernel
theorem dX5_takeWay_26 : decode cX5_takeWay 26 = .ok (.iconst 1, 1) := by decide +kernel
theorem dX5_takeWay_27 : decode cX5_takeWay 27 = .ok (.iadd, 1) := by decide +kernel
theorem dX5_takeWay_28 : decode cX5_takeWay 28 = .ok (.iastore, 1) := by decide +kernel
theorem dX5_takeWay_29 : decode cX5_takeWay 29 = .ok (.aload_n 0, 1) := by decide +kernel
theorem dX5_takeWay_30 : decode cX5_takeWay 30 = .ok (.getfield 35, 3) := by decide +kernel
theorem dX5_takeWay_33 : decode cX5_takeWay 33 = .ok (.iload_n 2, 1) := by decide +kernel
theorem dX5_takeWay_34 : decode cX5_takeWay 34 = .ok (.aload_n 0, 1) := by decide +kernel
theorem dX5_takeWay_35 : decode cX5_takeWay 35 = .ok (.getfield 158, 3) := by decide +kernel
theorem dX5_takeWay_38 : decode cX5_takeWay 38 = .ok (.iload_n 1, 1) := by decide +kernel
theorem dX5_takeWay_39 : decode cX5_takeWay 39 = .ok (.if_icmp .ne 12, 3) := by decide +kernel
theorem dX5_takeWay_42 : decode cX5_takeWay 42 = .ok (.aload_n 0, 1) := by decide +kernel
theorem dX5_takeWay_43 : decode cX5_takeWay 43 = .ok (.getfield 29, 3) := by decide +kernel
theorem dX5_takeWay_46 : decode cX5_takeWay 46 = .ok (.iload_n 2, 1) := by decide +kernel
theorem dX5_takeWay_47 : decode cX5_takeWay 47 = .ok (.iaload, 1) := by decide +kernel
theorem dX5_takeWay_48 : decode cX5_takeWay 48 = .ok (.goto 9, 3) := by decide +kernel
theorem dX5_takeWay_51 : decode cX5_takeWay 51 = .ok (.aload_n 0, 1) := by decide +kernel
theorem dX5_takeWay_52 : decode cX5_takeWay 52 = .ok (.getfield 35, 3) := by decide +kernel
theorem dX5_takeWay_55 : decode cX5_takeWay 55 = .ok (.iload_n 2, 1) := by decide +kernel
theorem dX5_takeWay_56 : decode cX5_takeWay 56 = .ok (.iaload, 1) := by decide +kernel
theorem dX5_takeWay_57 : decode cX5_takeWay 57 = .ok (.iastore, 1) := by decide +kernel
theorem dX5_takeWay_58 : decode cX5_takeWay 58 = .ok (.iinc 2 1, 3) := by decide +kernel
theorem dX5_takeWay_61 : decode cX5_takeWay 61 = .ok (.goto (-59), 3) := by decide +kernel
theorem dX5_takeWay_64 : decode cX5_takeWay 64 = .ok (.aload_n 0, 1) := by decide +kernel
theorem dX5_takeWay_65 : decode cX5_takeWay 65 = .ok (.dup, 1) := by decide +kernel
theorem dX5_takeWay_66 : decode cX5_takeWay 66 = .ok (.getfield 158, 3) := by decide +kernel
theorem dX5_takeWay_69 : decode cX5_takeWay 69 = .ok (.iconst 1, 1) := by decide +kernel
theorem dX5_takeWay_70 : decode cX5_takeWay 70 = .ok (.iadd, 1) := by decide +kernel
theorem dX5_takeWay_71 : decode cX5_takeWay 71 = .ok (.putfield 158, 3) := by decide +kernel
theorem dX5_takeWay_74 : decode cX5_takeWay 74 = .ok (.return_, 1) := by decide +kernel
theorem dX5_layWays_0 : decode cX5_layWays 0 = .ok (.iconst 0, 1) := by decide +kernel
theorem dX5_layWays_1 : decode cX5_layWays 1 = .ok (.istore_n 2, 1) := by decide +kernel
theorem dX5_layWays_2 : decode cX5_layWays 2 = .ok (.iload_n 2, 1) := by decide +kernel
theorem dX5_layWays_3 : decode cX5_layWays 3 = .ok (.bipush 33, 2) := by decide +kernel
theorem dX5_layWays_5 : decode cX5_layWays 5 = .ok (.if_icmp .ge 16, 3) := by decide +kernel
theorem dX5_layWays_8 : decode cX5_layWays 8 = .ok (.aload_n 0, 1) := by decide +kernel
theorem dX5_layWays_9 : decode cX5_layWays 9 = .ok (.getfield 32, 3) := by decide +kernel
theorem dX5_layWays_12 : decode cX5_layWays 12 = .ok (.iload_n 2, 1) := by decide +kernel
theorem dX5_layWays_13 : decode cX5_layWays 13 = .ok (.iconst 0, 1) := by decide +kernel
theorem dX5_layWays_14 : decode cX5_layWays 14 = .ok (.iastore, 1) := by decide +kernel
theorem dX5_layWays_15 : decode cX5_layWays 15 = .ok (.iinc 2 1, 3) := by decide +kernel
theorem dX5_layWays_18 : decode cX5_layWays 18 = .ok (.goto (-16), 3) := by decide +kernel
theorem dX5_layWays_21 : decode cX5_layWays 21 = .ok (.aload_n 0, 1) := by decide +kernel
theorem dX5_layWays_22 : decode cX5_layWays 22 = .ok (.iconst 0, 1) := by decide +kernel
theorem dX5_layWays_23 : decode cX5_layWays 23 = .ok (.putfield 158, 3) := by decide +kernel
theorem dX5_layWays_26 : decode cX5_layWays 26 = .ok (.aload_n 0, 1) := by decide +kernel
theorem dX5_layWays_27 : decode cX5_layWays 27 = .ok (.invokevirtual 128, 3) := by decide +kernel
theorem dX5_layWays_30 : decode cX5_layWays 30 = .ok (.aload_n 0, 1) := by decide +kernel
theorem dX5_layWays_31 : decode cX5_layWays 31 = .ok (.iconst 1, 1) := by decide +kernel
theorem dX5_layWays_32 : decode cX5_layWays 32 = .ok (.aload_n 0, 1) := by decide +kernel
theorem dX5_layWays_33 : decode cX5_layWays 33 = .ok (.getfield 101, 3) := by decide +kernel
theorem dX5_layWays_36 : decode cX5_layWays 36 = .ok (.invokevirtual 161, 3) := by decide +kernel
theorem dX5_layWays_39 : decode cX5_layWays 39 = .ok (.istore_n 2, 1) := by decide +kernel
theorem dX5_layWays_40 : decode cX5_layWays 40 = .ok (.iload_n 2, 1) := by decide +kernel
theorem dX5_layWays_41 : decode cX5_layWays 41 = .ok (.ifCond .le 28, 3) := by decide +kernel
theorem dX5_layWays_44 : decode cX5_layWays 44 = .ok (.aload_n 0, 1) := by decide +kernel
theorem dX5_layWays_45 : decode cX5_layWays 45 = .ok (.iload_n 1, 1) := by decide +kernel
theorem dX5_layWays_46 : decode cX5_layWays 46 = .ok (.invokevirtual 164, 3) := by decide +kernel
theorem dX5_layWays_49 : decode cX5_layWays 49 = .ok (.aload_n 0, 1) := by decide +kernel
theorem dX5_layWays_50 : decode cX5_layWays 50 = .ok (.aload_n 0, 1) := by decide +kernel
theorem dX5_layWays_51 : decode cX5_layWays 51 = .ok (.aload_n 0, 1) := by decide +kernel
theorem dX5_layWays_52 : decode cX5_layWays 52 = .ok (.getfield 101, 3) := by decide +kernel
theorem dX5_layWays_55 : decode cX5_layWays 55 = .ok (.invokevirtual 155, 3) := by decide +kernel
theorem dX5_layWays_58 : decode cX5_layWays 58 = .ok (.aload_n 0, 1) := by decide +kernel
theorem dX5_layWays_59 : decode cX5_layWays 59 = .ok (.getfield 101, 3) := by decide +kernel
theorem dX5_layWays_62 : decode cX5_layWays 62 = .ok (.invokevirtual 161, 3) := by decide +kernel
theorem dX5_layWays_65 : decode cX5_layWays 65 = .ok (.istore_n 2, 1) := by decide +kernel
theorem dX5_layWays_66 : decode cX5_layWays 66 = .ok (.goto (-26), 3) := by decide +kernel
theorem dX5_layWays_69 : decode cX5_layWays 69 = .ok (.aload_n 0, 1) := by decide +kernel
theorem dX5_layWays_70 : decode cX5_layWays 70 = .ok (.getfield 158, 3) := by decide +kernel
theorem dX5_layWays_73 : decode cX5_layWays 73 = .ok (.ireturn, 1) := by decide +kernel
theorem dX5_sureOf_0 : decode cX5_sureOf 0 = .ok (.iconst 0, 1) := by decide +kernel
theorem dX5_sureOf_1 : decode cX5_sureOf 1 = .ok (.istore_n 2, 1) := by decide +kernel
theorem dX5_sureOf_2 : decode cX5_sureOf 2 = .ok (.iload_n 2, 1) := by decide +kernel
theorem dX5_sureOf_3 : decode cX5_sureOf 3 = .ok (.aload_n 0, 1) := by decide +kernel
theorem dX5_sureOf_4 : decode cX5_sureOf 4 = .ok (.getfield 98, 3) := by decide +kernel
theorem dX5_sureOf_7 : decode cX5_sureOf 7 = .ok (.if_icmp .ge 35, 3) := by decide +kernel
theorem dX5_sureOf_10 : decode cX5_sureOf 10 = .ok (.aload_n 0, 1) := by decide +kernel
theorem dX5_sureOf_11 : decode cX5_sureOf 11 = .ok (.getfield 158, 3) := by decide +kernel
theorem dX5_sureOf_14 : decode cX5_sureOf 14 = .ok (.ifCond .le 22, 3) := by decide +kernel
theorem dX5_sureOf_17 : decode cX5_sureOf 17 = .ok (.aload_n 0, 1) := by decide +kernel
theorem dX5_sureOf_18 : decode cX5_sureOf 18 = .ok (.getfield 32, 3) := by decide +kernel
theorem dX5_sureOf_21 : decode cX5_sureOf 21 = .ok (.iconst 3, 1) := by decide +kernel
theorem dX5_sureOf_22 : decode cX5_sureOf 22 = .ok (.iload_n 1, 1) := by decide +kernel
theorem dX5_sureOf_23 : decode cX5_sureOf 23 = .ok (.imul, 1) := by decide +kernel
theorem dX5_sureOf_24 : decode cX5_sureOf 24 = .ok (.iload_n 2, 1) := by decide +kernel
theorem dX5_sureOf_25 : decode cX5_sureOf 25 = .ok (.iadd, 1) := by decide +kernel
theorem dX5_sureOf_26 : decode cX5_sureOf 26 = .ok (.iaload, 1) := by decide +kernel
theorem dX5_sureOf_27 : decode cX5_sureOf 27 = .ok (.aload_n 0, 1) := by decide +kernel
theorem dX5_sureOf_28 : decode cX5_sureOf 28 = .ok (.getfield 158, 3) := by decide +kernel
theorem dX5_sureOf_31 : decode cX5_sureOf 31 = .ok (.if_icmp .ne 5, 3) := by decide +kernel
theorem dX5_sureOf_34 : decode cX5_sureOf 34 = .ok (.iload_n 2, 1) := by decide +kernel
theorem dX5_sureOf_35 : decode cX5_sureOf 35 = .ok (.ireturn, 1) := by decide +kernel
theorem dX5_sureOf_36 : decode cX5_sureOf 36 = .ok (.iinc 2 1, 3) := by decide +kernel
theorem dX5_sureOf_39 : decode cX5_sureOf 39 = .ok (.goto (-37), 3) := by decide +kernel
theorem dX5_sureOf_42 : decode cX5_sureOf 42 = .ok (.iconst (-1), 1) := by decide +kernel
theorem dX5_sureOf_43 : decode cX5_sureOf 43 = .ok (.ireturn, 1) := by decide +kernel
theorem dX5_bare_0 : decode cX5_bare 0 = .ok (.iconst 0, 1) := by decide +kernel
theorem dX5_bare_1 : decode cX5_bare 1 = .ok (.istore_n 1, 1) := by decide +kernel
theorem dX5_bare_2 : decode cX5_bare 2 = .ok (.iconst 1, 1) := by decide +kernel
theorem dX5_bare_3 : decode cX5_bare 3 = .ok (.istore_n 2, 1) := by decide +kernel
theorem dX5_bare_4 : decode cX5_bare 4 = .ok (.iload_n 2, 1) := by decide +kernel
theorem dX5_bare_5 : decode cX5_bare 5 = .ok (.aload_n 0, 1) := by decide +kernel
theorem dX5_bare_6 : decode cX5_bare 6 = .ok (.getfield 101, 3) := by decide +kernel
theorem dX5_bare_9 : decode cX5_bare 9 = .ok (.if_icmp .gt 27, 3) := by decide +kernel
theorem dX5_bare_12 : decode cX5_bare 12 = .ok (.iload_n 1, 1) := by decide +kernel
theorem dX5_bare_13 : decode cX5_bare 13 = .ok (.aload_n 0, 1) := by decide +kernel
theorem dX5_bare_14 : decode cX5_bare 14 = .ok (.getfield 13, 3) := by decide +kernel
theorem dX5_bare_17 : decode cX5_bare 17 = .ok (.iload_n 2, 1) := by decide +kernel
theorem dX5_bare_18 : decode cX5_bare 18 = .ok (.iaload, 1) := by decide +kernel
theorem dX5_bare_19 : decode cX5_bare 19 = .ok (.iconst (-1), 1) := by decide +kernel
theorem dX5_bare_20 : decode cX5_bare 20 = .ok (.if_icmp .ne 7, 3) := by decide +kernel
theorem dX5_bare_23 : decode cX5_bare 23 = .ok (.iconst 1, 1) := by decide +kernel
theorem dX5_bare_24 : decode cX5_bare 24 = .ok (.goto 4, 3) := by decide +kernel
theorem dX5_bare_27 : decode cX5_bare 27 = .ok (.iconst 0, 1) := by decide +kernel
theorem dX5_bare_28 : decode cX5_bare 28 = .ok (.iadd, 1) := by decide +kernel
theorem dX5_bare_29 : decode cX5_bare 29 = .ok (.istore_n 1, 1) := by decide +kernel
theorem dX5_bare_30 : decode cX5_bare 30 = .ok (.iinc 2 1, 3) := by decide +kernel
theorem dX5_bare_33 : decode cX5_bare 33 = .ok (.goto (-29), 3) := by decide +kernel
theorem dX5_bare_36 : decode cX5_bare 36 = .ok (.iload_n 1, 1) := by decide +kernel
theorem dX5_bare_37 : decode cX5_bare 37 = .ok (.ireturn, 1) := by decide +kernel
theorem dX5_nextNow_0 : decode cX5_nextNow 0 = .ok (.aload_n 0, 1) := by decide +kernel
theorem dX5_nextNow_1 : decode cX5_nextNow 1 = .ok (.iconst (-1), 1) := by decide +kernel
theorem dX5_nextNow_2 : decode cX5_nextNow 2 = .ok (.invokevirtual 134, 3) := by decide +kernel
theorem dX5_nextNow_5 : decode cX5_nextNow 5 = .ok (.pop, 1) := by decide +kernel
theorem dX5_nextNow_6 : decode cX5_nextNow 6 = .ok (.iconst (-1), 1) := by decide +kernel
theorem dX5_nextNow_7 : decode cX5_nextNow 7 = .ok (.istore_n 1, 1) := by decide +kernel
theorem dX5_nextNow_8 : decode cX5_nextNow 8 = .ok (.iconst 0, 1) := by decide +kernel
theorem dX5_nextNow_9 : decode cX5_nextNow 9 = .ok (.istore_n 2, 1) := by decide +kernel
theorem dX5_nextNow_10 : decode cX5_nextNow 10 = .ok (.iconst 1, 1) := by decide +kernel
theorem dX5_nextNow_11 : decode cX5_nextNow 11 = .ok (.istore_n 3, 1) := by decide +kernel
theorem dX5_nextNow_12 : decode cX5_nextNow 12 = .ok (.iload_n 3, 1) := by decide +kernel
theorem dX5_nextNow_13 : decode cX5_nextNow 13 = .ok (.aload_n 0, 1) := by decide +kernel
theorem dX5_nextNow_14 : decode cX5_nextNow 14 = .ok (.getfield 101, 3) := by decide +kernel
theorem dX5_nextNow_17 : decode cX5_nextNow 17 = .ok (.if_icmp .gt 97, 3) := by decide +kernel
theorem dX5_nextNow_20 : decode cX5_nextNow 20 = .ok (.iconst 0, 1) := by decide +kernel
theorem dX5_nextNow_21 : decode cX5_nextNow 21 = .ok (.istore 4, 2) := by decide +kernel
theorem dX5_nextNow_23 : decode cX5_nextNow 23 = .ok (.iload 4, 2) := by decide +kernel
theorem dX5_nextNow_25 : decode cX5_nextNow 25 = .ok (.aload_n 0, 1) := by decide +kernel
theorem dX5_nextNow_26 : decode cX5_nextNow 26 = .ok (.getfield 98, 3) := by decide +kernel
theorem dX5_nextNow_29 : decode cX5_nextNow 29 = .ok (.if_icmp .ge 79, 3) := by decide +kernel
theorem dX5_nextNow_32 : decode cX5_nextNow 32 = .ok (.aload_n 0, 1) := by decide +kernel
theorem dX5_nextNow_33 : decode cX5_nextNow 33 = .ok (.getfield 13, 3) := by decide +kernel
theorem dX5_nextNow_36 : decode cX5_nextNow 36 = .ok (.iload_n 3, 1) := by decide +kernel
theorem dX5_nextNow_37 : decode cX5_nextNow 37 = .ok (.iaload, 1) := by decide +kernel
theorem dX5_nextNow_38 : decode cX5_nextNow 38 = .ok (.iconst (-1), 1) := by decide +kernel
theorem dX5_nextNow_39 : decode cX5_nextNow 39 = .ok (.if_icmp .ne 22, 3) := by decide +kernel
theorem dX5_nextNow_42 : decode cX5_nextNow 42 = .ok (.aload_n 0, 1) := by decide +kernel
theorem dX5_nextNow_43 : decode cX5_nextNow 43 = .ok (.getfield 32, 3) := by decide +kernel
theorem dX5_nextNow_46 : decode cX5_nextNow 46 = .ok (.iconst 3, 1) := by decide +kernel
theorem dX5_nextNow_47 : decode cX5_nextNow 47 = .ok (.iload_n 3, 1) := by decide +kernel
theorem dX5_nextNow_48 : decode cX5_nextNow 48 = .ok (.imul, 1) := by decide +kernel
theorem dX5_nextNow_49 : decode cX5_nextNow 49 = .ok (.iload 4, 2) := by decide +kernel
theorem dX5_nextNow_51 : decode cX5_nextNow 51 = .ok (.iadd, 1) := by decide +kernel
theorem dX5_nextNow_52 : decode cX5_nextNow 52 = .ok (.iaload, 1) := by decide +kernel
theorem dX5_nextNow_53 : decode cX5_nextNow 53 = .ok (.iload_n 2, 1) := by decide +kernel
theorem dX5_nextNow_54 : decode cX5_nextNow 54 = .ok (.if_icmp .le 7, 3) := by decide +kernel
theorem dX5_nextNow_57 : decode cX5_nextNow 57 = .ok (.iconst 1, 1) := by decide +kernel
theorem dX5_nextNow_58 : decode cX5_nextNow 58 = .ok (.goto 4, 3) := by decide +kernel
theorem dX5_nextNow_61 : decode cX5_nextNow 61 = .ok (.iconst 0, 1) := by decide +kernel
theorem dX5_nextNow_62 : decode cX5_nextNow 62 = .ok (.istore 5, 2) := by decide +kernel
theorem dX5_nextNow_64 : decode cX5_nextNow 64 = .ok (.iload 5, 2) := by decide +kernel
theorem dX5_nextNow_66 : decode cX5_nextNow 66 = .ok (.ifCond .eq 13, 3) := by decide +kernel
theorem dX5_nextNow_69 : decode cX5_nextNow 69 = .ok (.bipush 10, 2) := by decide +kernel
theorem dX5_nextNow_71 : decode cX5_nextNow 71 = .ok (.iload_n 3, 1) := by decide +kernel
theorem dX5_nextNow_72 : decode cX5_nextNow 72 = .ok (.imul, 1) := by decide +kernel
theorem dX5_nextNow_73 : decode cX5_nextNow 73 = .ok (.iload 4, 2) := by decide +kernel
theorem dX5_nextNow_75 : decode cX5_nextNow 75 = .ok (.iadd, 1) := by decide +kernel
theorem dX5_nextNow_76 : decode cX5_nextNow 76 = .ok (.goto 4, 3) := by decide +kernel
theorem dX5_nextNow_79 : decode cX5_nextNow 79 = .ok (.iload_n 1, 1) := by decide +kernel
theorem dX5_nextNow_80 : decode cX5_nextNow 80 = .ok (.istore_n 1, 1) := by decide +kernel
theorem dX5_nextNow_81 : decode cX5_nextNow 81 = .ok (.iload 5, 2) := by decide +kernel
theorem dX5_nextNow_83 : decode cX5_nextNow 83 = .ok (.ifCond .eq 17, 3) := by decide +kernel
theorem dX5_nextNow_86 : decode cX5_nextNow 86 = .ok (.aload_n 0, 1) := by decide +kernel
theorem dX5_nextNow_87 : decode cX5_nextNow 87 = .ok (.getfield 32, 3) := by decide +kernel
theorem dX5_nextNow_90 : decode cX5_nextNow 90 = .ok (.iconst 3, 1) := by decide +kernel
theorem dX5_nextNow_91 : decode cX5_nextNow 91 = .ok (.iload_n 3, 1) := by decide +kernel
theorem dX5_nextNow_92 : decode cX5_nextNow 92 = .ok (.imul, 1) := by decide +kernel
theorem dX5_nextNow_93 : decode cX5_nextNow 93 = .ok (.iload 4, 2) := by decide +kernel
theorem dX5_nextNow_95 : decode cX5_nextNow 95 = .ok (.iadd, 1) := by decide +kernel
theorem dX5_nextNow_96 : decode cX5_nextNow 96 = .ok (.iaload, 1) := by decide +kernel
theorem dX5_nextNow_97 : decode cX5_nextNow 97 = .ok (.goto 4, 3) := by decide +kernel
theorem dX5_nextNow_100 : decode cX5_nextNow 100 = .ok (.iload_n 2, 1) := by decide +kernel
theorem dX5_nextNow_101 : decode cX5_nextNow 101 = .ok (.istore_n 2, 1) := by decide +kernel
theorem dX5_nextNow_102 : decode cX5_nextNow 102 = .ok (.iinc 4 1, 3) := by decide +kernel
theorem dX5_nextNow_105 : decode cX5_nextNow 105 = .ok (.goto (-82), 3) := by decide +kernel
theorem dX5_nextNow_108 : decode cX5_nextNow 108 = .ok (.iinc 3 1, 3) := by decide +kernel
theorem dX5_nextNow_111 : decode cX5_nextNow 111 = .ok (.goto (-99), 3) := by decide +kernel
theorem dX5_nextNow_114 : decode cX5_nextNow 114 = .ok (.iload_n 1, 1) := by decide +kernel
theorem dX5_nextNow_115 : decode cX5_nextNow 115 = .ok (.ireturn, 1) := by decide +kernel
theorem dX5_upNow_0 : decode cX5_upNow 0 = .ok (.iconst 0, 1) := by decide +kernel
theorem dX5_upNow_1 : decode cX5_upNow 1 = .ok (.istore_n 1, 1) := by decide +kernel
theorem dX5_upNow_2 : decode cX5_upNow 2 = .ok (.iconst 1, 1) := by decide +kernel
theorem dX5_upNow_3 : decode cX5_upNow 3 = .ok (.istore_n 2, 1) := by decide +kernel
theorem dX5_upNow_4 : decode cX5_upNow 4 = .ok (.iload_n 2, 1) := by decide +kernel
theorem dX5_upNow_5 : decode cX5_upNow 5 = .ok (.aload_n 0, 1) := by decide +kernel
theorem dX5_upNow_6 : decode cX5_upNow 6 = .ok (.getfield 101, 3) := by decide +kernel
theorem dX5_upNow_9 : decode cX5_upNow 9 = .ok (.if_icmp .gt 28, 3) := by decide +kernel
theorem dX5_upNow_12 : decode cX5_upNow 12 = .ok (.aload_n 0, 1) := by decide +kernel
theorem dX5_upNow_13 : decode cX5_upNow 13 = .ok (.invokevirtual 128, 3) := by decide +kernel
theorem dX5_upNow_16 : decode cX5_upNow 16 = .ok (.aload_n 0, 1) := by decide +kernel
theorem dX5_upNow_17 : decode cX5_upNow 17 = .ok (.iconst 1, 1) := by decide +kernel
theorem dX5_upNow_18 : decode cX5_upNow 18 = .ok (.iload_n 2, 1) := by decide +kernel
theorem dX5_upNow_19 : decode cX5_upNow 19 = .ok (.invokevirtual 161, 3) := by decide +kernel
theorem dX5_upNow_22 : decode cX5_upNow 22 = .ok (.ifCond .le 7, 3) := by decide +kernel
theorem dX5_upNow_25 : decode cX5_upNow 25 = .ok (.iload_n 2, 1) := by decide +kernel
theorem dX5_upNow_26 : decode cX5_upNow 26 = .ok (.goto 4, 3) := by decide +kernel
theorem dX5_upNow_29 : decode cX5_upNow 29 = .ok (.iload_n 1, 1) := by decide +kernel
theorem dX5_upNow_30 : decode cX5_upNow 30 = .ok (.istore_n 1, 1) := by decide +kernel
theorem dX5_upNow_31 : decode cX5_upNow 31 = .ok (.iinc 2 1, 3) := by decide +kernel
theorem dX5_upNow_34 : decode cX5_upNow 34 = .ok (.goto (-30), 3) := by decide +kernel
theorem dX5_upNow_37 : decode cX5_upNow 37 = .ok (.iload_n 1, 1) := by decide +kernel
theorem dX5_upNow_38 : decode cX5_upNow 38 = .ok (.ireturn, 1) := by decide +kernel
theorem dX5_waysNow_0 : decode cX5_waysNow 0 = .ok (.iload_n 1, 1) := by decide +kernel
theorem dX5_waysNow_1 : decode cX5_waysNow 1 = .ok (.ifCond .ne 11, 3) := by decide +kernel
theorem dX5_waysNow_4 : decode cX5_waysNow 4 = .ok (.aload_n 0, 1) := by decide +kernel
theorem dX5_waysNow_5 : decode cX5_waysNow 5 = .ok (.iconst (-1), 1) := by decide +kernel
theorem dX5_waysNow_6 : decode cX5_waysNow 6 = .ok (.invokevirtual 134, 3) := by decide +kernel
theorem dX5_waysNow_9 : decode cX5_waysNow 9 = .ok (.goto 19, 3) := by decide +kernel
theorem dX5_waysNow_12 : decode cX5_waysNow 12 = .ok (.iload_n 1, 1) := by decide +kernel
theorem dX5_waysNow_13 : decode cX5_waysNow 13 = .ok (.iconst 1, 1) := by decide +kernel
theorem dX5_waysNow_14 : decode cX5_waysNow 14 = .ok (.if_icmp .ne 10, 3) := by decide +kernel
theorem dX5_waysNow_17 : decode cX5_waysNow 17 = .ok (.aload_n 0, 1) := by decide +kernel
theorem dX5_waysNow_18 : decode cX5_waysNow 18 = .ok (.invokevirtual 168, 3) := by decide +kernel
theorem dX5_waysNow_21 : decode cX5_waysNow 21 = .ok (.goto 7, 3) := by decide +kernel
theorem dX5_waysNow_24 : decode cX5_waysNow 24 = .ok (.aload_n 0, 1) := by decide +kernel
theorem dX5_waysNow_25 : decode cX5_waysNow 25 = .ok (.invokevirtual 171, 3) := by decide +kernel
theorem dX5_waysNow_28 : decode cX5_waysNow 28 = .ok (.ireturn, 1) := by decide +kernel
theorem dX5_ways_0 : decode cX5_ways 0 = .ok (.iload_n 1, 1) := by decide +kernel
theorem dX5_ways_1 : decode cX5_ways 1 = .ok (.iconst 0, 1) := by decide +kernel
theorem dX5_ways_2 : decode cX5_ways 2 = .ok (.iconst 2, 1) := by decide +kernel
theorem dX5_ways_3 : decode cX5_ways 3 = .ok (.invokestatic 65, 3) := by decide +kernel
theorem dX5_ways_6 : decode cX5_ways 6 = .ok (.ifCond .ne 6, 3) := by decide +kernel
theorem dX5_ways_9 : decode cX5_ways 9 = .ok (.bipush (-102), 2) := by decide +kernel
theorem dX5_ways_11 : decode cX5_ways 11 = .ok (.ireturn, 1) := by decide +kernel
theorem dX5_ways_12 : decode cX5_ways 12 = .ok (.aload_n 0, 1) := by decide +kernel
theorem dX5_ways_13 : decode cX5_ways 13 = .ok (.getfield 101, 3) := by decide +kernel
theorem dX5_ways_16 : decode cX5_ways 16 = .ok (.ifCond .ne 8, 3) := by decide +kernel
theorem dX5_ways_19 : decode cX5_ways 19 = .ok (.bipush (-103), 2) := by decide +kernel
theorem dX5_ways_21 : decode cX5_ways 21 = .ok (.goto 8, 3) := by decide +kernel
theorem dX5_ways_24 : decode cX5_ways 24 = .ok (.aload_n 0, 1) := by decide +kernel
theorem dX5_ways_25 : decode cX5_ways 25 = .ok (.iload_n 1, 1) := by decide +kernel
theorem dX5_ways_26 : decode cX5_ways 26 = .ok (.invokevirtual 174, 3) := by decide +kernel
theorem dX5_ways_29 : decode cX5_ways 29 = .ok (.ireturn, 1) := by decide +kernel
theorem dX5_way_0 : decode cX5_way 0 = .ok (.aload_n 0, 1) := by decide +kernel
theorem dX5_way_1 : decode cX5_way 1 = .ok (.iload_n 2, 1) := by decide +kernel
theorem dX5_way_2 : decode cX5_way 2 = .ok (.invokevirtual 149, 3) := by decide +kernel
theorem dX5_way_5 : decode cX5_way 5 = .ok (.ifCond .eq 16, 3) := by decide +kernel
theorem dX5_way_8 : decode cX5_way 8 = .ok (.iload_n 1, 1) := by decide +kernel
theorem dX5_way_9 : decode cX5_way 9 = .ok (.ifCond .lt 12, 3) := by decide +kernel
theorem dX5_way_12 : decode cX5_way 12 = .ok (.aload_n 0, 1) := by decide +kernel
theorem dX5_way_13 : decode cX5_way 13 = .ok (.iload_n 1, 1) := by decide +kernel
theorem dX5_way_14 : decode cX5_way 14 = .ok (.invokevirtual 134, 3) := by decide +kernel
theorem dX5_way_17 : decode cX5_way 17 = .ok (.iload_n 1, 1) := by decide +kernel
theorem dX5_way_18 : decode cX5_way 18 = .ok (.if_icmp .gt 6, 3) := by decide +kernel
theorem dX5_way_21 : decode cX5_way 21 = .ok (.bipush (-101), 2) := by decide +kernel
theorem dX5_way_23 : decode cX5_way 23 = .ok (.ireturn, 1) := by decide +kernel
theorem dX5_way_24 : decode cX5_way 24 = .ok (.aload_n 0, 1) := by decide +kernel
theorem dX5_way_25 : decode cX5_way 25 = .ok (.getfield 35, 3) := by decide +kernel
theorem dX5_way_28 : decode cX5_way 28 = .ok (.iload_n 2, 1) := by decide +kernel
theorem dX5_way_29 : decode cX5_way 29 = .ok (.iaload, 1) := by decide +kernel
theorem dX5_way_30 : decode cX5_way 30 = .ok (.ireturn, 1) := by decide +kernel
theorem dX5_paint_0 : decode cX5_paint 0 = .ok (.aload_n 0, 1) := by decide +kernel
theorem dX5_paint_1 : decode cX5_paint 1 = .ok (.iload_n 1, 1) := by decide +kernel
theorem dX5_paint_2 : decode cX5_paint 2 = .ok (.invokevirtual 149, 3) := by decide +kernel
theorem dX5_paint_5 : decode cX5_paint 5 = .ok (.ifCond .ne 6, 3) := by decide +kernel
theorem dX5_paint_8 : decode cX5_paint 8 = .ok (.bipush (-101), 2) := by decide +kernel
theorem dX5_paint_10 : decode cX5_paint 10 = .ok (.ireturn, 1) := by decide +kernel
theorem dX5_paint_11 : decode cX5_paint 11 = .ok (.aload_n 0, 1) := by decide +kernel
theorem dX5_paint_12 : decode cX5_paint 12 = .ok (.iload_n 2, 1) := by decide +kernel
theorem dX5_paint_13 : decode cX5_paint 13 = .ok (.invokevirtual 177, 3) := by decide +kernel
theorem dX5_paint_16 : decode cX5_paint 16 = .ok (.ifCond .ne 6, 3) := by decide +kernel
theorem dX5_paint_19 : decode cX5_paint 19 = .ok (.bipush (-102), 2) := by decide +kernel
theorem dX5_paint_21 : decode cX5_paint 21 = .ok (.ireturn, 1) := by decide +kernel
theorem dX5_paint_22 : decode cX5_paint 22 = .ok (.aload_n 0, 1) := by decide +kernel
theorem dX5_paint_23 : decode cX5_paint 23 = .ok (.getfield 104, 3) := by decide +kernel
theorem dX5_paint_26 : decode cX5_paint 26 = .ok (.sipush 999, 3) := by decide +kernel
theorem dX5_paint_29 : decode cX5_paint 29 = .ok (.if_icmp .ne 6, 3) := by decide +kernel
theorem dX5_paint_32 : decode cX5_paint 32 = .ok (.bipush (-104), 2) := by decide +kernel
theorem dX5_paint_34 : decode cX5_paint 34 = .ok (.ireturn, 1) := by decide +kernel
theorem dX5_paint_35 : decode cX5_paint 35 = .ok (.aload_n 0, 1) := by decide +kernel
theorem dX5_paint_36 : decode cX5_paint 36 = .ok (.getfield 13, 3) := by decide +kernel
theorem dX5_paint_39 : decode cX5_paint 39 = .ok (.iload_n 1, 1) := by decide +kernel
theorem dX5_paint_40 : decode cX5_paint 40 = .ok (.iload_n 2, 1) := by decide +kernel
theorem dX5_paint_41 : decode cX5_paint 41 = .ok (.iastore, 1) := by decide +kernel
theorem dX5_paint_42 : decode cX5_paint 42 = .ok (.aload_n 0, 1) := by decide +kernel
theorem dX5_paint_43 : decode cX5_paint 43 = .ok (.dup, 1) := by decide +kernel
theorem dX5_paint_44 : decode cX5_paint 44 = .ok (.getfield 104, 3) := by decide +kernel
theorem dX5_paint_47 : decode cX5_paint 47 = .ok (.iconst 1, 1) := by decide +kernel
theorem dX5_paint_48 : decode cX5_paint 48 = .ok (.iadd, 1) := by decide +kernel
theorem dX5_paint_49 : decode cX5_paint 49 = .ok (.putfield 104, 3) := by decide +kernel
theorem dX5_paint_52 : decode cX5_paint 52 = .ok (.aload_n 0, 1) := by decide +kernel
theorem dX5_paint_53 : decode cX5_paint 53 = .ok (.invokevirtual 180, 3) := by decide +kernel
theorem dX5_paint_56 : decode cX5_paint 56 = .ok (.ireturn, 1) := by decide +kernel
theorem dX5_wipe_0 : decode cX5_wipe 0 = .ok (.aload_n 0, 1) := by decide +kernel
theorem dX5_wipe_1 : decode cX5_wipe 1 = .ok (.iload_n 1, 1) := by decide +kernel
