theorem dX0_init_0 : decode cX0_init 0 = .ok (.aload_n 0, 1) := by decide +kernel
theorem dX0_init_1 : decode cX0_init 1 = .ok (.invokespecial 3, 3) := by decide +kernel
theorem dX0_init_4 : decode cX0_init 4 = .ok (.aload_n 0, 1) := by decide +kernel
theorem dX0_init_5 : decode cX0_init 5 = .ok (.bipush 11, 2) := by decide +kernel
theorem dX0_init_7 : decode cX0_init 7 = .ok (.newarray .int, 2) := by decide +kernel
theorem dX0_init_9 : decode cX0_init 9 = .ok (.putfield 9, 3) := by decide +kernel
theorem dX0_init_12 : decode cX0_init 12 = .ok (.aload_n 0, 1) := by decide +kernel
theorem dX0_init_13 : decode cX0_init 13 = .ok (.bipush 11, 2) := by decide +kernel
theorem dX0_init_15 : decode cX0_init 15 = .ok (.newarray .int, 2) := by decide +kernel
theorem dX0_init_17 : decode cX0_init 17 = .ok (.putfield 15, 3) := by decide +kernel
theorem dX0_init_20 : decode cX0_init 20 = .ok (.aload_n 0, 1) := by decide +kernel
theorem dX0_init_21 : decode cX0_init 21 = .ok (.iconst 0, 1) := by decide +kernel
theorem dX0_init_22 : decode cX0_init 22 = .ok (.putfield 18, 3) := by decide +kernel
theorem dX0_init_25 : decode cX0_init 25 = .ok (.aload_n 0, 1) := by decide +kernel
theorem dX0_init_26 : decode cX0_init 26 = .ok (.iconst 0, 1) := by decide +kernel
theorem dX0_init_27 : decode cX0_init 27 = .ok (.putfield 22, 3) := by decide +kernel
theorem dX0_init_30 : decode cX0_init 30 = .ok (.aload_n 0, 1) := by decide +kernel
theorem dX0_init_31 : decode cX0_init 31 = .ok (.iconst 0, 1) := by decide +kernel
theorem dX0_init_32 : decode cX0_init 32 = .ok (.putfield 25, 3) := by decide +kernel
theorem dX0_init_35 : decode cX0_init 35 = .ok (.return_, 1) := by decide +kernel
theorem dX0_readFrom_0 : decode cX0_readFrom 0 = .ok (.aload_n 0, 1) := by decide +kernel
theorem dX0_readFrom_1 : decode cX0_readFrom 1 = .ok (.aload_n 1, 1) := by decide +kernel
theorem dX0_readFrom_2 : decode cX0_readFrom 2 = .ok (.invokevirtual 28, 3) := by decide +kernel
theorem dX0_readFrom_5 : decode cX0_readFrom 5 = .ok (.putfield 18, 3) := by decide +kernel
theorem dX0_readFrom_8 : decode cX0_readFrom 8 = .ok (.aload_n 0, 1) := by decide +kernel
theorem dX0_readFrom_9 : decode cX0_readFrom 9 = .ok (.aload_n 1, 1) := by decide +kernel
theorem dX0_readFrom_10 : decode cX0_readFrom 10 = .ok (.invokevirtual 34, 3) := by decide +kernel
theorem dX0_readFrom_13 : decode cX0_readFrom 13 = .ok (.putfield 22, 3) := by decide +kernel
theorem dX0_readFrom_16 : decode cX0_readFrom 16 = .ok (.aload_n 0, 1) := by decide +kernel
theorem dX0_readFrom_17 : decode cX0_readFrom 17 = .ok (.iconst 0, 1) := by decide +kernel
theorem dX0_readFrom_18 : decode cX0_readFrom 18 = .ok (.putfield 25, 3) := by decide +kernel
theorem dX0_readFrom_21 : decode cX0_readFrom 21 = .ok (.iconst 1, 1) := by decide +kernel
theorem dX0_readFrom_22 : decode cX0_readFrom 22 = .ok (.istore_n 2, 1) := by decide +kernel
theorem dX0_readFrom_23 : decode cX0_readFrom 23 = .ok (.iload_n 2, 1) := by decide +kernel
theorem dX0_readFrom_24 : decode cX0_readFrom 24 = .ok (.aload_n 0, 1) := by decide +kernel
theorem dX0_readFrom_25 : decode cX0_readFrom 25 = .ok (.getfield 18, 3) := by decide +kernel
theorem dX0_readFrom_28 : decode cX0_readFrom 28 = .ok (.if_icmp .gt 48, 3) := by decide +kernel
theorem dX0_readFrom_31 : decode cX0_readFrom 31 = .ok (.iconst 2, 1) := by decide +kernel
theorem dX0_readFrom_32 : decode cX0_readFrom 32 = .ok (.iload_n 2, 1) := by decide +kernel
theorem dX0_readFrom_33 : decode cX0_readFrom 33 = .ok (.iadd, 1) := by decide +kernel
theorem dX0_readFrom_34 : decode cX0_readFrom 34 = .ok (.iconst 1, 1) := by decide +kernel
theorem dX0_readFrom_35 : decode cX0_readFrom 35 = .ok (.isub, 1) := by decide +kernel
theorem dX0_readFrom_36 : decode cX0_readFrom 36 = .ok (.istore_n 3, 1) := by decide +kernel
theorem dX0_readFrom_37 : decode cX0_readFrom 37 = .ok (.aload_n 0, 1) := by decide +kernel
theorem dX0_readFrom_38 : decode cX0_readFrom 38 = .ok (.getfield 9, 3) := by decide +kernel
theorem dX0_readFrom_41 : decode cX0_readFrom 41 = .ok (.iload_n 2, 1) := by decide +kernel
theorem dX0_readFrom_42 : decode cX0_readFrom 42 = .ok (.aload_n 1, 1) := by decide +kernel
theorem dX0_readFrom_43 : decode cX0_readFrom 43 = .ok (.iload_n 3, 1) := by decide +kernel
theorem dX0_readFrom_44 : decode cX0_readFrom 44 = .ok (.invokevirtual 36, 3) := by decide +kernel
theorem dX0_readFrom_47 : decode cX0_readFrom 47 = .ok (.invokestatic 40, 3) := by decide +kernel
theorem dX0_readFrom_50 : decode cX0_readFrom 50 = .ok (.aload_n 0, 1) := by decide +kernel
theorem dX0_readFrom_51 : decode cX0_readFrom 51 = .ok (.getfield 15, 3) := by decide +kernel
theorem dX0_readFrom_54 : decode cX0_readFrom 54 = .ok (.iload_n 2, 1) := by decide +kernel
theorem dX0_readFrom_55 : decode cX0_readFrom 55 = .ok (.aload_n 1, 1) := by decide +kernel
theorem dX0_readFrom_56 : decode cX0_readFrom 56 = .ok (.iload_n 3, 1) := by decide +kernel
theorem dX0_readFrom_57 : decode cX0_readFrom 57 = .ok (.aload_n 0, 1) := by decide +kernel
theorem dX0_readFrom_58 : decode cX0_readFrom 58 = .ok (.getfield 18, 3) := by decide +kernel
theorem dX0_readFrom_61 : decode cX0_readFrom 61 = .ok (.iadd, 1) := by decide +kernel
theorem dX0_readFrom_62 : decode cX0_readFrom 62 = .ok (.iconst 1, 1) := by decide +kernel
theorem dX0_readFrom_63 : decode cX0_readFrom 63 = .ok (.iadd, 1) := by decide +kernel
theorem dX0_readFrom_64 : decode cX0_readFrom 64 = .ok (.invokevirtual 44, 3) := by decide +kernel
theorem dX0_readFrom_67 : decode cX0_readFrom 67 = .ok (.invokestatic 40, 3) := by decide +kernel
theorem dX0_readFrom_70 : decode cX0_readFrom 70 = .ok (.iinc 2 1, 3) := by decide +kernel
theorem dX0_readFrom_73 : decode cX0_readFrom 73 = .ok (.goto (-50), 3) := by decide +kernel
theorem dX0_readFrom_76 : decode cX0_readFrom 76 = .ok (.return_, 1) := by decide +kernel
theorem dX0_copyFrom_0 : decode cX0_copyFrom 0 = .ok (.aload_n 1, 1) := by decide +kernel
theorem dX0_copyFrom_1 : decode cX0_copyFrom 1 = .ok (.getfield 9, 3) := by decide +kernel
theorem dX0_copyFrom_4 : decode cX0_copyFrom 4 = .ok (.aload_n 0, 1) := by decide +kernel
theorem dX0_copyFrom_5 : decode cX0_copyFrom 5 = .ok (.getfield 9, 3) := by decide +kernel
theorem dX0_copyFrom_8 : decode cX0_copyFrom 8 = .ok (.invokestatic 47, 3) := by decide +kernel
theorem dX0_copyFrom_11 : decode cX0_copyFrom 11 = .ok (.aload_n 1, 1) := by decide +kernel
theorem dX0_copyFrom_12 : decode cX0_copyFrom 12 = .ok (.getfield 15, 3) := by decide +kernel
theorem dX0_copyFrom_15 : decode cX0_copyFrom 15 = .ok (.aload_n 0, 1) := by decide +kernel
theorem dX0_copyFrom_16 : decode cX0_copyFrom 16 = .ok (.getfield 15, 3) := by decide +kernel
theorem dX0_copyFrom_19 : decode cX0_copyFrom 19 = .ok (.invokestatic 47, 3) := by decide +kernel
theorem dX0_copyFrom_22 : decode cX0_copyFrom 22 = .ok (.aload_n 0, 1) := by decide +kernel
theorem dX0_copyFrom_23 : decode cX0_copyFrom 23 = .ok (.aload_n 1, 1) := by decide +kernel
theorem dX0_copyFrom_24 : decode cX0_copyFrom 24 = .ok (.getfield 18, 3) := by decide +kernel
theorem dX0_copyFrom_27 : decode cX0_copyFrom 27 = .ok (.putfield 18, 3) := by decide +kernel
theorem dX0_copyFrom_30 : decode cX0_copyFrom 30 = .ok (.aload_n 0, 1) := by decide +kernel
theorem dX0_copyFrom_31 : decode cX0_copyFrom 31 = .ok (.aload_n 1, 1) := by decide +kernel
theorem dX0_copyFrom_32 : decode cX0_copyFrom 32 = .ok (.getfield 22, 3) := by decide +kernel
theorem dX0_copyFrom_35 : decode cX0_copyFrom 35 = .ok (.putfield 22, 3) := by decide +kernel
theorem dX0_copyFrom_38 : decode cX0_copyFrom 38 = .ok (.aload_n 0, 1) := by decide +kernel
theorem dX0_copyFrom_39 : decode cX0_copyFrom 39 = .ok (.aload_n 1, 1) := by decide +kernel
theorem dX0_copyFrom_40 : decode cX0_copyFrom 40 = .ok (.getfield 25, 3) := by decide +kernel
theorem dX0_copyFrom_43 : decode cX0_copyFrom 43 = .ok (.putfield 25, 3) := by decide +kernel
theorem dX0_copyFrom_46 : decode cX0_copyFrom 46 = .ok (.return_, 1) := by decide +kernel
theorem dX0_isThere_0 : decode cX0_isThere 0 = .ok (.aload_n 0, 1) := by decide +kernel
theorem dX0_isThere_1 : decode cX0_isThere 1 = .ok (.getfield 18, 3) := by decide +kernel
theorem dX0_isThere_4 : decode cX0_isThere 4 = .ok (.ifCond .le 7, 3) := by decide +kernel
theorem dX0_isThere_7 : decode cX0_isThere 7 = .ok (.iconst 1, 1) := by decide +kernel
theorem dX0_isThere_8 : decode cX0_isThere 8 = .ok (.goto 4, 3) := by decide +kernel
theorem dX0_isThere_11 : decode cX0_isThere 11 = .ok (.iconst 0, 1) := by decide +kernel
theorem dX0_isThere_12 : decode cX0_isThere 12 = .ok (.ireturn, 1) := by decide +kernel
theorem dX0_hasNumber_0 : decode cX0_hasNumber 0 = .ok (.iload_n 1, 1) := by decide +kernel
theorem dX0_hasNumber_1 : decode cX0_hasNumber 1 = .ok (.iconst 1, 1) := by decide +kernel
theorem dX0_hasNumber_2 : decode cX0_hasNumber 2 = .ok (.if_icmp .lt 15, 3) := by decide +kernel
theorem dX0_hasNumber_5 : decode cX0_hasNumber 5 = .ok (.iload_n 1, 1) := by decide +kernel
theorem dX0_hasNumber_6 : decode cX0_hasNumber 6 = .ok (.aload_n 0, 1) := by decide +kernel
theorem dX0_hasNumber_7 : decode cX0_hasNumber 7 = .ok (.getfield 18, 3) := by decide +kernel
theorem dX0_hasNumber_10 : decode cX0_hasNumber 10 = .ok (.if_icmp .gt 7, 3) := by decide +kernel
theorem dX0_hasNumber_13 : decode cX0_hasNumber 13 = .ok (.iconst 1, 1) := by decide +kernel
theorem dX0_hasNumber_14 : decode cX0_hasNumber 14 = .ok (.goto 4, 3) := by decide +kernel
theorem dX0_hasNumber_17 : decode cX0_hasNumber 17 = .ok (.iconst 0, 1) := by decide +kernel
theorem dX0_hasNumber_18 : decode cX0_hasNumber 18 = .ok (.ireturn, 1) := by decide +kernel
theorem dX0_hasColour_0 : decode cX0_hasColour 0 = .ok (.iload_n 1, 1) := by decide +kernel
theorem dX0_hasColour_1 : decode cX0_hasColour 1 = .ok (.ifCond .lt 15, 3) := by decide +kernel
theorem dX0_hasColour_4 : decode cX0_hasColour 4 = .ok (.iload_n 1, 1) := by decide +kernel
theorem dX0_hasColour_5 : decode cX0_hasColour 5 = .ok (.aload_n 0, 1) := by decide +kernel
theorem dX0_hasColour_6 : decode cX0_hasColour 6 = .ok (.getfield 22, 3) := by decide +kernel
theorem dX0_hasColour_9 : decode cX0_hasColour 9 = .ok (.if_icmp .ge 7, 3) := by decide +kernel
theorem dX0_hasColour_12 : decode cX0_hasColour 12 = .ok (.iconst 1, 1) := by decide +kernel
theorem dX0_hasColour_13 : decode cX0_hasColour 13 = .ok (.goto 4, 3) := by decide +kernel
theorem dX0_hasColour_16 : decode cX0_hasColour 16 = .ok (.iconst 0, 1) := by decide +kernel
theorem dX0_hasColour_17 : decode cX0_hasColour 17 = .ok (.ireturn, 1) := by decide +kernel
theorem dX0_isBare_0 : decode cX0_isBare 0 = .ok (.aload_n 0, 1) := by decide +kernel
theorem dX0_isBare_1 : decode cX0_isBare 1 = .ok (.getfield 15, 3) := by decide +kernel
theorem dX0_isBare_4 : decode cX0_isBare 4 = .ok (.iload_n 1, 1) := by decide +kernel
theorem dX0_isBare_5 : decode cX0_isBare 5 = .ok (.invokestatic 51, 3) := by decide +kernel
theorem dX0_isBare_8 : decode cX0_isBare 8 = .ok (.iconst (-1), 1) := by decide +kernel
theorem dX0_isBare_9 : decode cX0_isBare 9 = .ok (.if_icmp .ne 7, 3) := by decide +kernel
theorem dX0_isBare_12 : decode cX0_isBare 12 = .ok (.iconst 1, 1) := by decide +kernel
theorem dX0_isBare_13 : decode cX0_isBare 13 = .ok (.goto 4, 3) := by decide +kernel
theorem dX0_isBare_16 : decode cX0_isBare 16 = .ok (.iconst 0, 1) := by decide +kernel
theorem dX0_isBare_17 : decode cX0_isBare 17 = .ok (.ireturn, 1) := by decide +kernel
theorem dX0_bareNumbers_0 : decode cX0_bareNumbers 0 = .ok (.iconst 0, 1) := by decide +kernel
theorem dX0_bareNumbers_1 : decode cX0_bareNumbers 1 = .ok (.istore_n 1, 1) := by decide +kernel
theorem dX0_bareNumbers_2 : decode cX0_bareNumbers 2 = .ok (.iconst 1, 1) := by decide +kernel
theorem dX0_bareNumbers_3 : decode cX0_bareNumbers 3 = .ok (.istore_n 2, 1) := by decide +kernel
theorem dX0_bareNumbers_4 : decode cX0_bareNumbers 4 = .ok (.iload_n 2, 1) := by decide +kernel
theorem dX0_bareNumbers_5 : decode cX0_bareNumbers 5 = .ok (.aload_n 0, 1) := by decide +kernel
theorem dX0_bareNumbers_6 : decode cX0_bareNumbers 6 = .ok (.getfield 18, 3) := by decide +kernel
theorem dX0_bareNumbers_9 : decode cX0_bareNumbers 9 = .ok (.if_icmp .gt 25, 3) := by decide +kernel
theorem dX0_bareNumbers_12 : decode cX0_bareNumbers 12 = .ok (.iload_n 1, 1) := by decide +kernel
theorem dX0_bareNumbers_13 : decode cX0_bareNumbers 13 = .ok (.aload_n 0, 1) := by decide +kernel
theorem dX0_bareNumbers_14 : decode cX0_bareNumbers 14 = .ok (.iload_n 2, 1) := by decide +kernel
theorem dX0_bareNumbers_15 : decode cX0_bareNumbers 15 = .ok (.invokevirtual 55, 3) := by decide +kernel
theorem dX0_bareNumbers_18 : decode cX0_bareNumbers 18 = .ok (.ifCond .eq 7, 3) := by decide +kernel
theorem dX0_bareNumbers_21 : decode cX0_bareNumbers 21 = .ok (.iconst 1, 1) := by decide +kernel
theorem dX0_bareNumbers_22 : decode cX0_bareNumbers 22 = .ok (.goto 4, 3) := by decide +kernel
theorem dX0_bareNumbers_25 : decode cX0_bareNumbers 25 = .ok (.iconst 0, 1) := by decide +kernel
theorem dX0_bareNumbers_26 : decode cX0_bareNumbers 26 = .ok (.iadd, 1) := by decide +kernel
theorem dX0_bareNumbers_27 : decode cX0_bareNumbers 27 = .ok (.istore_n 1, 1) := by decide +kernel
theorem dX0_bareNumbers_28 : decode cX0_bareNumbers 28 = .ok (.iinc 2 1, 3) := by decide +kernel
theorem dX0_bareNumbers_31 : decode cX0_bareNumbers 31 = .ok (.goto (-27), 3) := by decide +kernel
theorem dX0_bareNumbers_34 : decode cX0_bareNumbers 34 = .ok (.iload_n 1, 1) := by decide +kernel
theorem dX0_bareNumbers_35 : decode cX0_bareNumbers 35 = .ok (.ireturn, 1) := by decide +kernel
theorem dX0_threes_0 : decode cX0_threes 0 = .ok (.iconst 0, 1) := by decide +kernel
theorem dX0_threes_1 : decode cX0_threes 1 = .ok (.istore_n 1, 1) := by decide +kernel
theorem dX0_threes_2 : decode cX0_threes 2 = .ok (.iconst 1, 1) := by decide +kernel
theorem dX0_threes_3 : decode cX0_threes 3 = .ok (.istore_n 2, 1) := by decide +kernel
theorem dX0_threes_4 : decode cX0_threes 4 = .ok (.iload_n 2, 1) := by decide +kernel
theorem dX0_threes_5 : decode cX0_threes 5 = .ok (.aload_n 0, 1) := by decide +kernel
theorem dX0_threes_6 : decode cX0_threes 6 = .ok (.getfield 18, 3) := by decide +kernel
theorem dX0_threes_9 : decode cX0_threes 9 = .ok (.if_icmp .gt 15, 3) := by decide +kernel
theorem dX0_threes_12 : decode cX0_threes 12 = .ok (.iload_n 1, 1) := by decide +kernel
theorem dX0_threes_13 : decode cX0_threes 13 = .ok (.iload_n 2, 1) := by decide +kernel
theorem dX0_threes_14 : decode cX0_threes 14 = .ok (.iconst 2, 1) := by decide +kernel
theorem dX0_threes_15 : decode cX0_threes 15 = .ok (.idiv, 1) := by decide +kernel
theorem dX0_threes_16 : decode cX0_threes 16 = .ok (.iadd, 1) := by decide +kernel
theorem dX0_threes_17 : decode cX0_threes 17 = .ok (.istore_n 1, 1) := by decide +kernel
theorem dX0_threes_18 : decode cX0_threes 18 = .ok (.iinc 2 1, 3) := by decide +kernel
theorem dX0_threes_21 : decode cX0_threes 21 = .ok (.goto (-17), 3) := by decide +kernel
theorem dX0_threes_24 : decode cX0_threes 24 = .ok (.iload_n 1, 1) := by decide +kernel
theorem dX0_threes_25 : decode cX0_threes 25 = .ok (.ireturn, 1) := by decide +kernel
theorem dX0_isBad_0 : decode cX0_isBad 0 = .ok (.iload_n 2, 1) := by decide +kernel
theorem dX0_isBad_1 : decode cX0_isBad 1 = .ok (.iload_n 3, 1) := by decide +kernel
theorem dX0_isBad_2 : decode cX0_isBad 2 = .ok (.iadd, 1) := by decide +kernel
theorem dX0_isBad_3 : decode cX0_isBad 3 = .ok (.istore 4, 2) := by decide +kernel
theorem dX0_isBad_5 : decode cX0_isBad 5 = .ok (.aload_n 1, 1) := by decide +kernel
theorem dX0_isBad_6 : decode cX0_isBad 6 = .ok (.iload 4, 2) := by decide +kernel
theorem dX0_isBad_8 : decode cX0_isBad 8 = .ok (.invokestatic 51, 3) := by decide +kernel
theorem dX0_isBad_11 : decode cX0_isBad 11 = .ok (.istore 5, 2) := by decide +kernel
theorem dX0_isBad_13 : decode cX0_isBad 13 = .ok (.iload 5, 2) := by decide +kernel
theorem dX0_isBad_15 : decode cX0_isBad 15 = .ok (.iconst (-1), 1) := by decide +kernel
theorem dX0_isBad_16 : decode cX0_isBad 16 = .ok (.if_icmp .eq 23, 3) := by decide +kernel
theorem dX0_isBad_19 : decode cX0_isBad 19 = .ok (.iload 5, 2) := by decide +kernel
theorem dX0_isBad_21 : decode cX0_isBad 21 = .ok (.aload_n 1, 1) := by decide +kernel
theorem dX0_isBad_22 : decode cX0_isBad 22 = .ok (.iload_n 2, 1) := by decide +kernel
theorem dX0_isBad_23 : decode cX0_isBad 23 = .ok (.invokestatic 51, 3) := by decide +kernel
theorem dX0_isBad_26 : decode cX0_isBad 26 = .ok (.if_icmp .ne 13, 3) := by decide +kernel
theorem dX0_isBad_29 : decode cX0_isBad 29 = .ok (.iload 5, 2) := by decide +kernel
theorem dX0_isBad_31 : decode cX0_isBad 31 = .ok (.aload_n 1, 1) := by decide +kernel
theorem dX0_isBad_32 : decode cX0_isBad 32 = .ok (.iload_n 3, 1) := by decide +kernel
theorem dX0_isBad_33 : decode cX0_isBad 33 = .ok (.invokestatic 51, 3) := by decide +kernel
theorem dX0_isBad_36 : decode cX0_isBad 36 = .ok (.if_icmp .eq 5, 3) := by decide +kernel
theorem dX0_isBad_39 : decode cX0_isBad 39 = .ok (.iconst 0, 1) := by decide +kernel
theorem dX0_isBad_40 : decode cX0_isBad 40 = .ok (.ireturn, 1) := by decide +kernel
theorem dX0_isBad_41 : decode cX0_isBad 41 = .ok (.getstatic 59, 3) := by decide +kernel
theorem dX0_isBad_44 : decode cX0_isBad 44 = .ok (.aload_n 0, 1) := by decide +kernel
theorem dX0_isBad_45 : decode cX0_isBad 45 = .ok (.getfield 9, 3) := by decide +kernel
theorem dX0_isBad_48 : decode cX0_isBad 48 = .ok (.iload_n 2, 1) := by decide +kernel
theorem dX0_isBad_49 : decode cX0_isBad 49 = .ok (.invokestatic 51, 3) := by decide +kernel
theorem dX0_isBad_52 : decode cX0_isBad 52 = .ok (.invokestatic 51, 3) := by decide +kernel
theorem dX0_isBad_55 : decode cX0_isBad 55 = .ok (.getstatic 59, 3) := by decide +kernel
theorem dX0_isBad_58 : decode cX0_isBad 58 = .ok (.aload_n 0, 1) := by decide +kernel
theorem dX0_isBad_59 : decode cX0_isBad 59 = .ok (.getfield 9, 3) := by decide +kernel
theorem dX0_isBad_62 : decode cX0_isBad 62 = .ok (.iload_n 3, 1) := by decide +kernel
theorem dX0_isBad_63 : decode cX0_isBad 63 = .ok (.invokestatic 51, 3) := by decide +kernel
theorem dX0_isBad_66 : decode cX0_isBad 66 = .ok (.invokestatic 51, 3) := by decide +kernel
theorem dX0_isBad_69 : decode cX0_isBad 69 = .ok (.iand, 1) := by decide +kernel
theorem dX0_isBad_70 : decode cX0_isBad 70 = .ok (.istore 6, 2) := by decide +kernel
theorem dX0_isBad_72 : decode cX0_isBad 72 = .ok (.getstatic 59, 3) := by decide +kernel
theorem dX0_isBad_75 : decode cX0_isBad 75 = .ok (.aload_n 0, 1) := by decide +kernel
theorem dX0_isBad_76 : decode cX0_isBad 76 = .ok (.getfield 9, 3) := by decide +kernel
theorem dX0_isBad_79 : decode cX0_isBad 79 = .ok (.iload 4, 2) := by decide +kernel
theorem dX0_isBad_81 : decode cX0_isBad 81 = .ok (.invokestatic 51, 3) := by decide +kernel
theorem dX0_isBad_84 : decode cX0_isBad 84 = .ok (.invokestatic 51, 3) := by decide +kernel
theorem dX0_isBad_87 : decode cX0_isBad 87 = .ok (.istore 7, 2) := by decide +kernel
theorem dX0_isBad_89 : decode cX0_isBad 89 = .ok (.iload 6, 2) := by decide +kernel
theorem dX0_isBad_91 : decode cX0_isBad 91 = .ok (.iconst 4, 1) := by decide +kernel
theorem dX0_isBad_92 : decode cX0_isBad 92 = .ok (.iand, 1) := by decide +kernel
theorem dX0_isBad_93 : decode cX0_isBad 93 = .ok (.ifCond .eq 23, 3) := by decide +kernel
theorem dX0_isBad_96 : decode cX0_isBad 96 = .ok (.iload 7, 2) := by decide +kernel
theorem dX0_isBad_98 : decode cX0_isBad 98 = .ok (.iload_n 2, 1) := by decide +kernel
theorem dX0_isBad_99 : decode cX0_isBad 99 = .ok (.iload_n 3, 1) := by decide +kernel
theorem dX0_isBad_100 : decode cX0_isBad 100 = .ok (.if_icmp .ne 7, 3) := by decide +kernel
theorem dX0_isBad_103 : decode cX0_isBad 103 = .ok (.iconst 2, 1) := by decide +kernel
theorem dX0_isBad_104 : decode cX0_isBad 104 = .ok (.goto 4, 3) := by decide +kernel
theorem dX0_isBad_107 : decode cX0_isBad 107 = .ok (.iconst 1, 1) := by decide +kernel
theorem dX0_isBad_108 : decode cX0_isBad 108 = .ok (.iand, 1) := by decide +kernel
theorem dX0_isBad_109 : decode cX0_isBad 109 = .ok (.ifCond .eq 7, 3) := by decide +kernel
theorem dX0_isBad_112 : decode cX0_isBad 112 = .ok (.iconst 1, 1) := by decide +kernel
theorem dX0_isBad_113 : decode cX0_isBad 113 = .ok (.goto 4, 3) := by decide +kernel
theorem dX0_isBad_116 : decode cX0_isBad 116 = .ok (.iconst 0, 1) := by decide +kernel
theorem dX0_isBad_117 : decode cX0_isBad 117 = .ok (.ireturn, 1) := by decide +kernel
theorem dX0_badWithSum_0 : decode cX0_badWithSum 0 = .ok (.getstatic 59, 3) := by decide +kernel
theorem dX0_badWithSum_3 : decode cX0_badWithSum 3 = .ok (.aload_n 0, 1) := by decide +kernel
theorem dX0_badWithSum_4 : decode cX0_badWithSum 4 = .ok (.getfield 9, 3) := by decide +kernel
theorem dX0_badWithSum_7 : decode cX0_badWithSum 7 = .ok (.iload_n 2, 1) := by decide +kernel
theorem dX0_badWithSum_8 : decode cX0_badWithSum 8 = .ok (.invokestatic 51, 3) := by decide +kernel
theorem dX0_badWithSum_11 : decode cX0_badWithSum 11 = .ok (.invokestatic 51, 3) := by decide +kernel
theorem dX0_badWithSum_14 : decode cX0_badWithSum 14 = .ok (.iconst 3, 1) := by decide +kernel
theorem dX0_badWithSum_15 : decode cX0_badWithSum 15 = .ok (.iand, 1) := by decide +kernel
theorem dX0_badWithSum_16 : decode cX0_badWithSum 16 = .ok (.ifCond .ne 5, 3) := by decide +kernel
theorem dX0_badWithSum_19 : decode cX0_badWithSum 19 = .ok (.iconst 0, 1) := by decide +kernel
theorem dX0_badWithSum_20 : decode cX0_badWithSum 20 = .ok (.ireturn, 1) := by decide +kernel
theorem dX0_badWithSum_21 : decode cX0_badWithSum 21 = .ok (.iconst 0, 1) := by decide +kernel
theorem dX0_badWithSum_22 : decode cX0_badWithSum 22 = .ok (.istore_n 3, 1) := by decide +kernel
theorem dX0_badWithSum_23 : decode cX0_badWithSum 23 = .ok (.iconst 1, 1) := by decide +kernel
theorem dX0_badWithSum_24 : decode cX0_badWithSum 24 = .ok (.istore 4, 2) := by decide +kernel
theorem dX0_badWithSum_26 : decode cX0_badWithSum 26 = .ok (.iload 4, 2) := by decide +kernel
theorem dX0_badWithSum_28 : decode cX0_badWithSum 28 = .ok (.iload_n 2, 1) := by decide +kernel
theorem dX0_badWithSum_29 : decode cX0_badWithSum 29 = .ok (.iload 4, 2) := by decide +kernel
theorem dX0_badWithSum_31 : decode cX0_badWithSum 31 = .ok (.isub, 1) := by decide +kernel
theorem dX0_badWithSum_32 : decode cX0_badWithSum 32 = .ok (.if_icmp .gt 31, 3) := by decide +kernel
theorem dX0_badWithSum_35 : decode cX0_badWithSum 35 = .ok (.iload_n 3, 1) := by decide +kernel
theorem dX0_badWithSum_36 : decode cX0_badWithSum 36 = .ok (.aload_n 0, 1) := by decide +kernel
theorem dX0_badWithSum_37 : decode cX0_badWithSum 37 = .ok (.aload_n 1, 1) := by decide +kernel
theorem dX0_badWithSum_38 : decode cX0_badWithSum 38 = .ok (.iload 4, 2) := by decide +kernel
theorem dX0_badWithSum_40 : decode cX0_badWithSum 40 = .ok (.iload_n 2, 1) := by decide +kernel
theorem dX0_badWithSum_41 : decode cX0_badWithSum 41 = .ok (.iload 4, 2) := by decide +kernel
theorem dX0_badWithSum_43 : decode cX0_badWithSum 43 = .ok (.isub, 1) := by decide +kernel
theorem dX0_badWithSum_44 : decode cX0_badWithSum 44 = .ok (.invokevirtual 62, 3) := by decide +kernel
theorem dX0_badWithSum_47 : decode cX0_badWithSum 47 = .ok (.ifCond .eq 7, 3) := by decide +kernel
theorem dX0_badWithSum_50 : decode cX0_badWithSum 50 = .ok (.iconst 1, 1) := by decide +kernel
theorem dX0_badWithSum_51 : decode cX0_badWithSum 51 = .ok (.goto 4, 3) := by decide +kernel
theorem dX0_badWithSum_54 : decode cX0_badWithSum 54 = .ok (.iconst 0, 1) := by decide +kernel
theorem dX0_badWithSum_55 : decode cX0_badWithSum 55 = .ok (.iadd, 1) := by decide +kernel
theorem dX0_badWithSum_56 : decode cX0_badWithSum 56 = .ok (.istore_n 3, 1) := by decide +kernel
theorem dX0_badWithSum_57 : decode cX0_badWithSum 57 = .ok (.iinc 4 1, 3) := by decide +kernel
theorem dX0_badWithSum_60 : decode cX0_badWithSum 60 = .ok (.goto (-34), 3) := by decide +kernel
theorem dX0_badWithSum_63 : decode cX0_badWithSum 63 = .ok (.iload_n 3, 1) := by decide +kernel
theorem dX0_badWithSum_64 : decode cX0_badWithSum 64 = .ok (.ireturn, 1) := by decide +kernel
theorem dX0_badWith_0 : decode cX0_badWith 0 = .ok (.aload_n 0, 1) := by decide +kernel
theorem dX0_badWith_1 : decode cX0_badWith 1 = .ok (.aload_n 1, 1) := by decide +kernel
theorem dX0_badWith_2 : decode cX0_badWith 2 = .ok (.iload_n 2, 1) := by decide +kernel
theorem dX0_badWith_3 : decode cX0_badWith 3 = .ok (.invokevirtual 66, 3) := by decide +kernel
theorem dX0_badWith_6 : decode cX0_badWith 6 = .ok (.istore_n 3, 1) := by decide +kernel
theorem dX0_badWith_7 : decode cX0_badWith 7 = .ok (.iconst 1, 1) := by decide +kernel
theorem dX0_badWith_8 : decode cX0_badWith 8 = .ok (.istore 4, 2) := by decide +kernel
theorem dX0_badWith_10 : decode cX0_badWith 10 = .ok (.iload 4, 2) := by decide +kernel
theorem dX0_badWith_12 : decode cX0_badWith 12 = .ok (.aload_n 0, 1) := by decide +kernel
theorem dX0_badWith_13 : decode cX0_badWith 13 = .ok (.getfield 18, 3) := by decide +kernel
theorem dX0_badWith_16 : decode cX0_badWith 16 = .ok (.iload_n 2, 1) := by decide +kernel
theorem dX0_badWith_17 : decode cX0_badWith 17 = .ok (.isub, 1) := by decide +kernel
theorem dX0_badWith_18 : decode cX0_badWith 18 = .ok (.if_icmp .gt 28, 3) := by decide +kernel
theorem dX0_badWith_21 : decode cX0_badWith 21 = .ok (.iload_n 3, 1) := by decide +kernel
theorem dX0_badWith_22 : decode cX0_badWith 22 = .ok (.aload_n 0, 1) := by decide +kernel
theorem dX0_badWith_23 : decode cX0_badWith 23 = .ok (.aload_n 1, 1) := by decide +kernel
theorem dX0_badWith_24 : decode cX0_badWith 24 = .ok (.iload_n 2, 1) := by decide +kernel
theorem dX0_badWith_25 : decode cX0_badWith 25 = .ok (.iload 4, 2) := by decide +kernel
theorem dX0_badWith_27 : decode cX0_badWith 27 = .ok (.invokevirtual 62, 3) := by decide +kernel
theorem dX0_badWith_30 : decode cX0_badWith 30 = .ok (.ifCond .eq 7, 3) := by decide +kernel
theorem dX0_badWith_33 : decode cX0_badWith 33 = .ok (.iconst 1, 1) := by decide +kernel
theorem dX0_badWith_34 : decode cX0_badWith 34 = .ok (.goto 4, 3) := by decide +kernel
theorem dX0_badWith_37 : decode cX0_badWith 37 = .ok (.iconst 0, 1) := by decide +kernel
theorem dX0_badWith_38 : decode cX0_badWith 38 = .ok (.iadd, 1) := by decide +kernel
theorem dX0_badWith_39 : decode cX0_badWith 39 = .ok (.istore_n 3, 1) := by decide +kernel
theorem dX0_badWith_40 : decode cX0_badWith 40 = .ok (.iinc 4 1, 3) := by decide +kernel
theorem dX0_badWith_43 : decode cX0_badWith 43 = .ok (.goto (-33), 3) := by decide +kernel
theorem dX0_badWith_46 : decode cX0_badWith 46 = .ok (.iload_n 3, 1) := by decide +kernel
theorem dX0_badWith_47 : decode cX0_badWith 47 = .ok (.ireturn, 1) := by decide +kernel
theorem dX0_badThrees_0 : decode cX0_badThrees 0 = .ok (.iconst 0, 1) := by decide +kernel
theorem dX0_badThrees_1 : decode cX0_badThrees 1 = .ok (.istore_n 2, 1) := by decide +kernel
theorem dX0_badThrees_2 : decode cX0_badThrees 2 = .ok (.iconst 1, 1) := by decide +kernel
theorem dX0_badThrees_3 : decode cX0_badThrees 3 = .ok (.istore_n 3, 1) := by decide +kernel
theorem dX0_badThrees_4 : decode cX0_badThrees 4 = .ok (.iload_n 3, 1) := by decide +kernel
theorem dX0_badThrees_5 : decode cX0_badThrees 5 = .ok (.aload_n 0, 1) := by decide +kernel
theorem dX0_badThrees_6 : decode cX0_badThrees 6 = .ok (.getfield 18, 3) := by decide +kernel
theorem dX0_badThrees_9 : decode cX0_badThrees 9 = .ok (.if_icmp .gt 18, 3) := by decide +kernel
theorem dX0_badThrees_12 : decode cX0_badThrees 12 = .ok (.iload_n 2, 1) := by decide +kernel
theorem dX0_badThrees_13 : decode cX0_badThrees 13 = .ok (.aload_n 0, 1) := by decide +kernel
theorem dX0_badThrees_14 : decode cX0_badThrees 14 = .ok (.aload_n 1, 1) := by decide +kernel
theorem dX0_badThrees_15 : decode cX0_badThrees 15 = .ok (.iload_n 3, 1) := by decide +kernel
theorem dX0_badThrees_16 : decode cX0_badThrees 16 = .ok (.invokevirtual 66, 3) := by decide +kernel
theorem dX0_badThrees_19 : decode cX0_badThrees 19 = .ok (.iadd, 1) := by decide +kernel
theorem dX0_badThrees_20 : decode cX0_badThrees 20 = .ok (.istore_n 2, 1) := by decide +kernel
theorem dX0_badThrees_21 : decode cX0_badThrees 21 = .ok (.iinc 3 1, 3) := by decide +kernel
theorem dX0_badThrees_24 : decode cX0_badThrees 24 = .ok (.goto (-20), 3) := by decide +kernel
theorem dX0_badThrees_27 : decode cX0_badThrees 27 = .ok (.iload_n 2, 1) := by decide +kernel
theorem dX0_badThrees_28 : decode cX0_badThrees 28 = .ok (.ireturn, 1) := by decide +kernel
theorem dX1_init_0 : decode cX1_init 0 = .ok (.aload_n 0, 1) := by decide +kernel
theorem dX1_init_1 : decode cX1_init 1 = .ok (.invokespecial 3, 3) := by decide +kernel
theorem dX1_init_4 : decode cX1_init 4 = .ok (.aload_n 0, 1) := by decide +kernel
theorem dX1_init_5 : decode cX1_init 5 = .ok (.bipush 11, 2) := by decide +kernel
theorem dX1_init_7 : decode cX1_init 7 = .ok (.newarray .int, 2) := by decide +kernel
theorem dX1_init_9 : decode cX1_init 9 = .ok (.putfield 9, 3) := by decide +kernel
theorem dX1_init_12 : decode cX1_init 12 = .ok (.aload_n 0, 1) := by decide +kernel
theorem dX1_init_13 : decode cX1_init 13 = .ok (.bipush 33, 2) := by decide +kernel
theorem dX1_init_15 : decode cX1_init 15 = .ok (.newarray .int, 2) := by decide +kernel
theorem dX1_init_17 : decode cX1_init 17 = .ok (.putfield 15, 3) := by decide +kernel
theorem dX1_init_20 : decode cX1_init 20 = .ok (.aload_n 0, 1) := by decide +kernel
theorem dX1_init_21 : decode cX1_init 21 = .ok (.iconst 0, 1) := by decide +kernel
theorem dX1_init_22 : decode cX1_init 22 = .ok (.putfield 18, 3) := by decide +kernel
theorem dX1_init_25 : decode cX1_init 25 = .ok (.aload_n 0, 1) := by decide +kernel
theorem dX1_init_26 : decode cX1_init 26 = .ok (.iconst 0, 1) := by decide +kernel
theorem dX1_init_27 : decode cX1_init 27 = .ok (.putfield 22, 3) := by decide +kernel
theorem dX1_init_30 : decode cX1_init 30 = .ok (.aload_n 0, 1) := by decide +kernel
theorem dX1_init_31 : decode cX1_init 31 = .ok (.iconst 0, 1) := by decide +kernel
theorem dX1_init_32 : decode cX1_init 32 = .ok (.putfield 25, 3) := by decide +kernel
theorem dX1_init_35 : decode cX1_init 35 = .ok (.aload_n 0, 1) := by decide +kernel
theorem dX1_init_36 : decode cX1_init 36 = .ok (.iconst 0, 1) := by decide +kernel
theorem dX1_init_37 : decode cX1_init 37 = .ok (.putfield 28, 3) := by decide +kernel
theorem dX1_init_40 : decode cX1_init 40 = .ok (.aload_n 0, 1) := by decide +kernel
theorem dX1_init_41 : decode cX1_init 41 = .ok (.iconst 1, 1) := by decide +kernel
theorem dX1_init_42 : decode cX1_init 42 = .ok (.putfield 31, 3) := by decide +kernel
theorem dX1_init_45 : decode cX1_init 45 = .ok (.aload_n 0, 1) := by decide +kernel
theorem dX1_init_46 : decode cX1_init 46 = .ok (.aload_n 1, 1) := by decide +kernel
theorem dX1_init_47 : decode cX1_init 47 = .ok (.putfield 35, 3) := by decide +kernel
theorem dX1_init_50 : decode cX1_init 50 = .ok (.return_, 1) := by decide +kernel
theorem dX1_refresh_0 : decode cX1_refresh 0 = .ok (.aload_n 0, 1) := by decide +kernel
theorem dX1_refresh_1 : decode cX1_refresh 1 = .ok (.getfield 31, 3) := by decide +kernel
theorem dX1_refresh_4 : decode cX1_refresh 4 = .ok (.ifCond .ne 4, 3) := by decide +kernel
theorem dX1_refresh_7 : decode cX1_refresh 7 = .ok (.return_, 1) := by decide +kernel
theorem dX1_refresh_8 : decode cX1_refresh 8 = .ok (.iconst 0, 1) := by decide +kernel
theorem dX1_refresh_9 : decode cX1_refresh 9 = .ok (.istore_n 1, 1) := by decide +kernel
theorem dX1_refresh_10 : decode cX1_refresh 10 = .ok (.iload_n 1, 1) := by decide +kernel
theorem dX1_refresh_11 : decode cX1_refresh 11 = .ok (.aload_n 0, 1) := by decide +kernel
theorem dX1_refresh_12 : decode cX1_refresh 12 = .ok (.getfield 15, 3) := by decide +kernel
theorem dX1_refresh_15 : decode cX1_refresh 15 = .ok (.arraylength, 1) := by decide +kernel
theorem dX1_refresh_16 : decode cX1_refresh 16 = .ok (.if_icmp .ge 18, 3) := by decide +kernel
theorem dX1_refresh_19 : decode cX1_refresh 19 = .ok (.aload_n 0, 1) := by decide +kernel
theorem dX1_refresh_20 : decode cX1_refresh 20 = .ok (.getfield 15, 3) := by decide +kernel
theorem dX1_refresh_23 : decode cX1_refresh 23 = .ok (.iload_n 1, 1) := by decide +kernel
theorem dX1_refresh_24 : decode cX1_refresh 24 = .ok (.iconst 0, 1) := by decide +kernel
theorem dX1_refresh_25 : decode cX1_refresh 25 = .ok (.invokestatic 39, 3) := by decide +kernel
theorem dX1_refresh_28 : decode cX1_refresh 28 = .ok (.iinc 1 1, 3) := by decide +kernel
theorem dX1_refresh_31 : decode cX1_refresh 31 = .ok (.goto (-21), 3) := by decide +kernel
theorem dX1_refresh_34 : decode cX1_refresh 34 = .ok (.aload_n 0, 1) := by decide +kernel
theorem dX1_refresh_35 : decode cX1_refresh 35 = .ok (.iconst 0, 1) := by decide +kernel
theorem dX1_refresh_36 : decode cX1_refresh 36 = .ok (.putfield 22, 3) := by decide +kernel
theorem dX1_refresh_39 : decode cX1_refresh 39 = .ok (.aload_n 0, 1) := by decide +kernel
theorem dX1_refresh_40 : decode cX1_refresh 40 = .ok (.aload_n 0, 1) := by decide +kernel
theorem dX1_refresh_41 : decode cX1_refresh 41 = .ok (.iconst 1, 1) := by decide +kernel
theorem dX1_refresh_42 : decode cX1_refresh 42 = .ok (.invokevirtual 43, 3) := by decide +kernel
theorem dX1_refresh_45 : decode cX1_refresh 45 = .ok (.putfield 18, 3) := by decide +kernel
theorem dX1_refresh_48 : decode cX1_refresh 48 = .ok (.aload_n 0, 1) := by decide +kernel
theorem dX1_refresh_49 : decode cX1_refresh 49 = .ok (.iconst 0, 1) := by decide +kernel
theorem dX1_refresh_50 : decode cX1_refresh 50 = .ok (.putfield 31, 3) := by decide +kernel
theorem dX1_refresh_53 : decode cX1_refresh 53 = .ok (.return_, 1) := by decide +kernel
theorem dX1_tryColour_0 : decode cX1_tryColour 0 = .ok (.aload_n 0, 1) := by decide +kernel
theorem dX1_tryColour_1 : decode cX1_tryColour 1 = .ok (.getfield 9, 3) := by decide +kernel
theorem dX1_tryColour_4 : decode cX1_tryColour 4 = .ok (.iload_n 1, 1) := by decide +kernel
theorem dX1_tryColour_5 : decode cX1_tryColour 5 = .ok (.iload_n 2, 1) := by decide +kernel
theorem dX1_tryColour_6 : decode cX1_tryColour 6 = .ok (.invokestatic 39, 3) := by decide +kernel
theorem dX1_tryColour_9 : decode cX1_tryColour 9 = .ok (.aload_n 0, 1) := by decide +kernel
theorem dX1_tryColour_10 : decode cX1_tryColour 10 = .ok (.getfield 35, 3) := by decide +kernel
theorem dX1_tryColour_13 : decode cX1_tryColour 13 = .ok (.aload_n 0, 1) := by decide +kernel
theorem dX1_tryColour_14 : decode cX1_tryColour 14 = .ok (.getfield 9, 3) := by decide +kernel
theorem dX1_tryColour_17 : decode cX1_tryColour 17 = .ok (.iload_n 1, 1) := by decide +kernel
theorem dX1_tryColour_18 : decode cX1_tryColour 18 = .ok (.invokevirtual 47, 3) := by decide +kernel
theorem dX1_tryColour_21 : decode cX1_tryColour 21 = .ok (.ifCond .ne 7, 3) := by decide +kernel
theorem dX1_tryColour_24 : decode cX1_tryColour 24 = .ok (.iconst 1, 1) := by decide +kernel
theorem dX1_tryColour_25 : decode cX1_tryColour 25 = .ok (.goto 4, 3) := by decide +kernel
theorem dX1_tryColour_28 : decode cX1_tryColour 28 = .ok (.iconst 0, 1) := by decide +kernel
theorem dX1_tryColour_29 : decode cX1_tryColour 29 = .ok (.ireturn, 1) := by decide +kernel
theorem dX1_mayHave_0 : decode cX1_mayHave 0 = .ok (.aload_n 0, 1) := by decide +kernel
theorem dX1_mayHave_1 : decode cX1_mayHave 1 = .ok (.getfield 35, 3) := by decide +kernel
theorem dX1_mayHave_4 : decode cX1_mayHave 4 = .ok (.getfield 53, 3) := by decide +kernel
theorem dX1_mayHave_7 : decode cX1_mayHave 7 = .ok (.iload_n 1, 1) := by decide +kernel
theorem dX1_mayHave_8 : decode cX1_mayHave 8 = .ok (.invokestatic 56, 3) := by decide +kernel
theorem dX1_mayHave_11 : decode cX1_mayHave 11 = .ok (.istore_n 3, 1) := by decide +kernel
theorem dX1_mayHave_12 : decode cX1_mayHave 12 = .ok (.iload_n 3, 1) := by decide +kernel
theorem dX1_mayHave_13 : decode cX1_mayHave 13 = .ok (.iconst (-1), 1) := by decide +kernel
theorem dX1_mayHave_14 : decode cX1_mayHave 14 = .ok (.if_icmp .eq 8, 3) := by decide +kernel
theorem dX1_mayHave_17 : decode cX1_mayHave 17 = .ok (.iload_n 3, 1) := by decide +kernel
theorem dX1_mayHave_18 : decode cX1_mayHave 18 = .ok (.iload_n 2, 1) := by decide +kernel
theorem dX1_mayHave_19 : decode cX1_mayHave 19 = .ok (.if_icmp .ne 7, 3) := by decide +kernel
theorem dX1_mayHave_22 : decode cX1_mayHave 22 = .ok (.iconst 1, 1) := by decide +kernel
theorem dX1_mayHave_23 : decode cX1_mayHave 23 = .ok (.goto 4, 3) := by decide +kernel
theorem dX1_mayHave_26 : decode cX1_mayHave 26 = .ok (.iconst 0, 1) := by decide +kernel
theorem dX1_mayHave_27 : decode cX1_mayHave 27 = .ok (.ireturn, 1) := by decide +kernel
theorem dX1_countWaysFrom_0 : decode cX1_countWaysFrom 0 = .ok (.iload_n 1, 1) := by decide +kernel
theorem dX1_countWaysFrom_1 : decode cX1_countWaysFrom 1 = .ok (.aload_n 0, 1) := by decide +kernel
theorem dX1_countWaysFrom_2 : decode cX1_countWaysFrom 2 = .ok (.getfield 35, 3) := by decide +kernel
theorem dX1_countWaysFrom_5 : decode cX1_countWaysFrom 5 = .ok (.getfield 59, 3) := by decide +kernel
theorem dX1_countWaysFrom_8 : decode cX1_countWaysFrom 8 = .ok (.if_icmp .le 5, 3) := by decide +kernel
theorem dX1_countWaysFrom_11 : decode cX1_countWaysFrom 11 = .ok (.iconst 1, 1) := by decide +kernel
theorem dX1_countWaysFrom_12 : decode cX1_countWaysFrom 12 = .ok (.ireturn, 1) := by decide +kernel
theorem dX1_countWaysFrom_13 : decode cX1_countWaysFrom 13 = .ok (.iconst 0, 1) := by decide +kernel
theorem dX1_countWaysFrom_14 : decode cX1_countWaysFrom 14 = .ok (.istore_n 2, 1) := by decide +kernel
theorem dX1_countWaysFrom_15 : decode cX1_countWaysFrom 15 = .ok (.iconst 0, 1) := by decide +kernel
theorem dX1_countWaysFrom_16 : decode cX1_countWaysFrom 16 = .ok (.istore_n 3, 1) := by decide +kernel
theorem dX1_countWaysFrom_17 : decode cX1_countWaysFrom 17 = .ok (.iload_n 3, 1) := by decide +kernel
theorem dX1_countWaysFrom_18 : decode cX1_countWaysFrom 18 = .ok (.aload_n 0, 1) := by decide +kernel
theorem dX1_countWaysFrom_19 : decode cX1_countWaysFrom 19 = .ok (.getfield 35, 3) := by decide +kernel
theorem dX1_countWaysFrom_22 : decode cX1_countWaysFrom 22 = .ok (.getfield 62, 3) := by decide +kernel
theorem dX1_countWaysFrom_25 : decode cX1_countWaysFrom 25 = .ok (.if_icmp .ge 82, 3) := by decide +kernel
theorem dX1_countWaysFrom_28 : decode cX1_countWaysFrom 28 = .ok (.aload_n 0, 1) := by decide +kernel
theorem dX1_countWaysFrom_29 : decode cX1_countWaysFrom 29 = .ok (.iload_n 1, 1) := by decide +kernel
theorem dX1_countWaysFrom_30 : decode cX1_countWaysFrom 30 = .ok (.iload_n 3, 1) := by decide +kernel
theorem dX1_countWaysFrom_31 : decode cX1_countWaysFrom 31 = .ok (.invokevirtual 65, 3) := by decide +kernel
theorem dX1_countWaysFrom_34 : decode cX1_countWaysFrom 34 = .ok (.ifCond .eq 67, 3) := by decide +kernel
theorem dX1_countWaysFrom_37 : decode cX1_countWaysFrom 37 = .ok (.aload_n 0, 1) := by decide +kernel
theorem dX1_countWaysFrom_38 : decode cX1_countWaysFrom 38 = .ok (.iload_n 1, 1) := by decide +kernel
theorem dX1_countWaysFrom_39 : decode cX1_countWaysFrom 39 = .ok (.iload_n 3, 1) := by decide +kernel
theorem dX1_countWaysFrom_40 : decode cX1_countWaysFrom 40 = .ok (.invokevirtual 69, 3) := by decide +kernel
theorem dX1_countWaysFrom_43 : decode cX1_countWaysFrom 43 = .ok (.ifCond .eq 58, 3) := by decide +kernel
theorem dX1_countWaysFrom_46 : decode cX1_countWaysFrom 46 = .ok (.aload_n 0, 1) := by decide +kernel
theorem dX1_countWaysFrom_47 : decode cX1_countWaysFrom 47 = .ok (.aload_n 0, 1) := by decide +kernel
theorem dX1_countWaysFrom_48 : decode cX1_countWaysFrom 48 = .ok (.getfield 22, 3) := by decide +kernel
theorem dX1_countWaysFrom_51 : decode cX1_countWaysFrom 51 = .ok (.iload_n 1, 1) := by decide +kernel
theorem dX1_countWaysFrom_52 : decode cX1_countWaysFrom 52 = .ok (.invokestatic 72, 3) := by decide +kernel
theorem dX1_countWaysFrom_55 : decode cX1_countWaysFrom 55 = .ok (.putfield 22, 3) := by decide +kernel
theorem dX1_countWaysFrom_58 : decode cX1_countWaysFrom 58 = .ok (.aload_n 0, 1) := by decide +kernel
theorem dX1_countWaysFrom_59 : decode cX1_countWaysFrom 59 = .ok (.iload_n 1, 1) := by decide +kernel
theorem dX1_countWaysFrom_60 : decode cX1_countWaysFrom 60 = .ok (.iconst 1, 1) := by decide +kernel
theorem dX1_countWaysFrom_61 : decode cX1_countWaysFrom 61 = .ok (.iadd, 1) := by decide +kernel
theorem dX1_countWaysFrom_62 : decode cX1_countWaysFrom 62 = .ok (.invokevirtual 43, 3) := by decide +kernel
theorem dX1_countWaysFrom_65 : decode cX1_countWaysFrom 65 = .ok (.istore 4, 2) := by decide +kernel
theorem dX1_countWaysFrom_67 : decode cX1_countWaysFrom 67 = .ok (.aload_n 0, 1) := by decide +kernel
theorem dX1_countWaysFrom_68 : decode cX1_countWaysFrom 68 = .ok (.iload_n 1, 1) := by decide +kernel
theorem dX1_countWaysFrom_69 : decode cX1_countWaysFrom 69 = .ok (.iload_n 3, 1) := by decide +kernel
theorem dX1_countWaysFrom_70 : decode cX1_countWaysFrom 70 = .ok (.invokevirtual 78, 3) := by decide +kernel
theorem dX1_countWaysFrom_73 : decode cX1_countWaysFrom 73 = .ok (.istore 5, 2) := by decide +kernel
theorem dX1_countWaysFrom_75 : decode cX1_countWaysFrom 75 = .ok (.aload_n 0, 1) := by decide +kernel
theorem dX1_countWaysFrom_76 : decode cX1_countWaysFrom 76 = .ok (.getfield 15, 3) := by decide +kernel
theorem dX1_countWaysFrom_79 : decode cX1_countWaysFrom 79 = .ok (.iload 5, 2) := by decide +kernel
theorem dX1_countWaysFrom_81 : decode cX1_countWaysFrom 81 = .ok (.aload_n 0, 1) := by decide +kernel
theorem dX1_countWaysFrom_82 : decode cX1_countWaysFrom 82 = .ok (.getfield 15, 3) := by decide +kernel
theorem dX1_countWaysFrom_85 : decode cX1_countWaysFrom 85 = .ok (.iload 5, 2) := by decide +kernel
theorem dX1_countWaysFrom_87 : decode cX1_countWaysFrom 87 = .ok (.invokestatic 56, 3) := by decide +kernel
theorem dX1_countWaysFrom_90 : decode cX1_countWaysFrom 90 = .ok (.iload 4, 2) := by decide +kernel
theorem dX1_countWaysFrom_92 : decode cX1_countWaysFrom 92 = .ok (.iadd, 1) := by decide +kernel
theorem dX1_countWaysFrom_93 : decode cX1_countWaysFrom 93 = .ok (.invokestatic 39, 3) := by decide +kernel
theorem dX1_countWaysFrom_96 : decode cX1_countWaysFrom 96 = .ok (.iload_n 2, 1) := by decide +kernel
theorem dX1_countWaysFrom_97 : decode cX1_countWaysFrom 97 = .ok (.iload 4, 2) := by decide +kernel
theorem dX1_countWaysFrom_99 : decode cX1_countWaysFrom 99 = .ok (.iadd, 1) := by decide +kernel
theorem dX1_countWaysFrom_100 : decode cX1_countWaysFrom 100 = .ok (.istore_n 2, 1) := by decide +kernel
theorem dX1_countWaysFrom_101 : decode cX1_countWaysFrom 101 = .ok (.iinc 3 1, 3) := by decide +kernel
theorem dX1_countWaysFrom_104 : decode cX1_countWaysFrom 104 = .ok (.goto (-87), 3) := by decide +kernel
theorem dX1_countWaysFrom_107 : decode cX1_countWaysFrom 107 = .ok (.iload_n 2, 1) := by decide +kernel
theorem dX1_countWaysFrom_108 : decode cX1_countWaysFrom 108 = .ok (.ireturn, 1) := by decide +kernel
theorem dX1_placeOf_0 : decode cX1_placeOf 0 = .ok (.iload_n 1, 1) := by decide +kernel
theorem dX1_placeOf_1 : decode cX1_placeOf 1 = .ok (.iconst 3, 1) := by decide +kernel
theorem dX1_placeOf_2 : decode cX1_placeOf 2 = .ok (.imul, 1) := by decide +kernel
theorem dX1_placeOf_3 : decode cX1_placeOf 3 = .ok (.iload_n 2, 1) := by decide +kernel
theorem dX1_placeOf_4 : decode cX1_placeOf 4 = .ok (.iadd, 1) := by decide +kernel
theorem dX1_placeOf_5 : decode cX1_placeOf 5 = .ok (.ireturn, 1) := by decide +kernel
theorem dX1_waysWith_0 : decode cX1_waysWith 0 = .ok (.aload_n 0, 1) := by decide +kernel
theorem dX1_waysWith_1 : decode cX1_waysWith 1 = .ok (.getfield 15, 3) := by decide +kernel
theorem dX1_waysWith_4 : decode cX1_waysWith 4 = .ok (.aload_n 0, 1) := by decide +kernel
theorem dX1_waysWith_5 : decode cX1_waysWith 5 = .ok (.iload_n 1, 1) := by decide +kernel
theorem dX1_waysWith_6 : decode cX1_waysWith 6 = .ok (.iload_n 2, 1) := by decide +kernel
theorem dX1_waysWith_7 : decode cX1_waysWith 7 = .ok (.invokevirtual 78, 3) := by decide +kernel
theorem dX1_waysWith_10 : decode cX1_waysWith 10 = .ok (.invokestatic 56, 3) := by decide +kernel
theorem dX1_waysWith_13 : decode cX1_waysWith 13 = .ok (.ireturn, 1) := by decide +kernel
theorem dX1_sureColour_0 : decode cX1_sureColour 0 = .ok (.iconst 0, 1) := by decide +kernel
theorem dX1_sureColour_1 : decode cX1_sureColour 1 = .ok (.istore_n 2, 1) := by decide +kernel
theorem dX1_sureColour_2 : decode cX1_sureColour 2 = .ok (.iload_n 2, 1) := by decide +kernel
theorem dX1_sureColour_3 : decode cX1_sureColour 3 = .ok (.aload_n 0, 1) := by decide +kernel
theorem dX1_sureColour_4 : decode cX1_sureColour 4 = .ok (.getfield 35, 3) := by decide +kernel
theorem dX1_sureColour_7 : decode cX1_sureColour 7 = .ok (.getfield 62, 3) := by decide +kernel
theorem dX1_sureColour_10 : decode cX1_sureColour 10 = .ok (.if_icmp .ge 31, 3) := by decide +kernel
theorem dX1_sureColour_13 : decode cX1_sureColour 13 = .ok (.aload_n 0, 1) := by decide +kernel
theorem dX1_sureColour_14 : decode cX1_sureColour 14 = .ok (.getfield 18, 3) := by decide +kernel
theorem dX1_sureColour_17 : decode cX1_sureColour 17 = .ok (.ifCond .le 18, 3) := by decide +kernel
theorem dX1_sureColour_20 : decode cX1_sureColour 20 = .ok (.aload_n 0, 1) := by decide +kernel
theorem dX1_sureColour_21 : decode cX1_sureColour 21 = .ok (.iload_n 1, 1) := by decide +kernel
theorem dX1_sureColour_22 : decode cX1_sureColour 22 = .ok (.iload_n 2, 1) := by decide +kernel
theorem dX1_sureColour_23 : decode cX1_sureColour 23 = .ok (.invokevirtual 81, 3) := by decide +kernel
theorem dX1_sureColour_26 : decode cX1_sureColour 26 = .ok (.aload_n 0, 1) := by decide +kernel
theorem dX1_sureColour_27 : decode cX1_sureColour 27 = .ok (.getfield 18, 3) := by decide +kernel
theorem dX1_sureColour_30 : decode cX1_sureColour 30 = .ok (.if_icmp .ne 5, 3) := by decide +kernel
theorem dX1_sureColour_33 : decode cX1_sureColour 33 = .ok (.iload_n 2, 1) := by decide +kernel
theorem dX1_sureColour_34 : decode cX1_sureColour 34 = .ok (.ireturn, 1) := by decide +kernel
theorem dX1_sureColour_35 : decode cX1_sureColour 35 = .ok (.iinc 2 1, 3) := by decide +kernel
theorem dX1_sureColour_38 : decode cX1_sureColour 38 = .ok (.goto (-36), 3) := by decide +kernel
theorem dX1_sureColour_41 : decode cX1_sureColour 41 = .ok (.iconst (-1), 1) := by decide +kernel
theorem dX1_sureColour_42 : decode cX1_sureColour 42 = .ok (.ireturn, 1) := by decide +kernel
theorem dX1_nextToPaint_0 : decode cX1_nextToPaint 0 = .ok (.iconst (-1), 1) := by decide +kernel
theorem dX1_nextToPaint_1 : decode cX1_nextToPaint 1 = .ok (.istore_n 1, 1) := by decide +kernel
theorem dX1_nextToPaint_2 : decode cX1_nextToPaint 2 = .ok (.iconst 0, 1) := by decide +kernel
theorem dX1_nextToPaint_3 : decode cX1_nextToPaint 3 = .ok (.istore_n 2, 1) := by decide +kernel
theorem dX1_nextToPaint_4 : decode cX1_nextToPaint 4 = .ok (.iconst 1, 1) := by decide +kernel
theorem dX1_nextToPaint_5 : decode cX1_nextToPaint 5 = .ok (.istore_n 3, 1) := by decide +kernel
theorem dX1_nextToPaint_6 : decode cX1_nextToPaint 6 = .ok (.iload_n 3, 1) := by decide +kernel
theorem dX1_nextToPaint_7 : decode cX1_nextToPaint 7 = .ok (.aload_n 0, 1) := by decide +kernel
theorem dX1_nextToPaint_8 : decode cX1_nextToPaint 8 = .ok (.getfield 35, 3) := by decide +kernel
theorem dX1_nextToPaint_11 : decode cX1_nextToPaint 11 = .ok (.getfield 59, 3) := by decide +kernel
theorem dX1_nextToPaint_14 : decode cX1_nextToPaint 14 = .ok (.if_icmp .gt 67, 3) := by decide +kernel
theorem dX1_nextToPaint_17 : decode cX1_nextToPaint 17 = .ok (.iconst 0, 1) := by decide +kernel
theorem dX1_nextToPaint_18 : decode cX1_nextToPaint 18 = .ok (.istore 4, 2) := by decide +kernel
theorem dX1_nextToPaint_20 : decode cX1_nextToPaint 20 = .ok (.iload 4, 2) := by decide +kernel
theorem dX1_nextToPaint_22 : decode cX1_nextToPaint 22 = .ok (.aload_n 0, 1) := by decide +kernel
theorem dX1_nextToPaint_23 : decode cX1_nextToPaint 23 = .ok (.getfield 35, 3) := by decide +kernel
theorem dX1_nextToPaint_26 : decode cX1_nextToPaint 26 = .ok (.getfield 62, 3) := by decide +kernel
theorem dX1_nextToPaint_29 : decode cX1_nextToPaint 29 = .ok (.if_icmp .ge 46, 3) := by decide +kernel
theorem dX1_nextToPaint_32 : decode cX1_nextToPaint 32 = .ok (.aload_n 0, 1) := by decide +kernel
theorem dX1_nextToPaint_33 : decode cX1_nextToPaint 33 = .ok (.iload_n 3, 1) := by decide +kernel
theorem dX1_nextToPaint_34 : decode cX1_nextToPaint 34 = .ok (.iload 4, 2) := by decide +kernel
theorem dX1_nextToPaint_36 : decode cX1_nextToPaint 36 = .ok (.invokevirtual 81, 3) := by decide +kernel
theorem dX1_nextToPaint_39 : decode cX1_nextToPaint 39 = .ok (.istore 5, 2) := by decide +kernel
theorem dX1_nextToPaint_41 : decode cX1_nextToPaint 41 = .ok (.aload_n 0, 1) := by decide +kernel
theorem dX1_nextToPaint_42 : decode cX1_nextToPaint 42 = .ok (.getfield 35, 3) := by decide +kernel
theorem dX1_nextToPaint_45 : decode cX1_nextToPaint 45 = .ok (.iload_n 3, 1) := by decide +kernel
theorem dX1_nextToPaint_46 : decode cX1_nextToPaint 46 = .ok (.invokevirtual 84, 3) := by decide +kernel
theorem dX1_nextToPaint_49 : decode cX1_nextToPaint 49 = .ok (.ifCond .eq 20, 3) := by decide +kernel
theorem dX1_nextToPaint_52 : decode cX1_nextToPaint 52 = .ok (.iload 5, 2) := by decide +kernel
theorem dX1_nextToPaint_54 : decode cX1_nextToPaint 54 = .ok (.iload_n 2, 1) := by decide +kernel
theorem dX1_nextToPaint_55 : decode cX1_nextToPaint 55 = .ok (.if_icmp .le 14, 3) := by decide +kernel
theorem dX1_nextToPaint_58 : decode cX1_nextToPaint 58 = .ok (.iload 5, 2) := by decide +kernel
theorem dX1_nextToPaint_60 : decode cX1_nextToPaint 60 = .ok (.istore_n 2, 1) := by decide +kernel
theorem dX1_nextToPaint_61 : decode cX1_nextToPaint 61 = .ok (.bipush 10, 2) := by decide +kernel
theorem dX1_nextToPaint_63 : decode cX1_nextToPaint 63 = .ok (.iload_n 3, 1) := by decide +kernel
theorem dX1_nextToPaint_64 : decode cX1_nextToPaint 64 = .ok (.imul, 1) := by decide +kernel
theorem dX1_nextToPaint_65 : decode cX1_nextToPaint 65 = .ok (.iload 4, 2) := by decide +kernel
theorem dX1_nextToPaint_67 : decode cX1_nextToPaint 67 = .ok (.iadd, 1) := by decide +kernel
theorem dX1_nextToPaint_68 : decode cX1_nextToPaint 68 = .ok (.istore_n 1, 1) := by decide +kernel
theorem dX1_nextToPaint_69 : decode cX1_nextToPaint 69 = .ok (.iinc 4 1, 3) := by decide +kernel
theorem dX1_nextToPaint_72 : decode cX1_nextToPaint 72 = .ok (.goto (-52), 3) := by decide +kernel
theorem dX1_nextToPaint_75 : decode cX1_nextToPaint 75 = .ok (.iinc 3 1, 3) := by decide +kernel
theorem dX1_nextToPaint_78 : decode cX1_nextToPaint 78 = .ok (.goto (-72), 3) := by decide +kernel
theorem dX1_nextToPaint_81 : decode cX1_nextToPaint 81 = .ok (.iload_n 1, 1) := by decide +kernel
theorem dX1_nextToPaint_82 : decode cX1_nextToPaint 82 = .ok (.ireturn, 1) := by decide +kernel
theorem dX1_colourInWay_0 : decode cX1_colourInWay 0 = .ok (.aload_n 0, 1) := by decide +kernel
theorem dX1_colourInWay_1 : decode cX1_colourInWay 1 = .ok (.iload_n 1, 1) := by decide +kernel
theorem dX1_colourInWay_2 : decode cX1_colourInWay 2 = .ok (.putfield 28, 3) := by decide +kernel
theorem dX1_colourInWay_5 : decode cX1_colourInWay 5 = .ok (.aload_n 0, 1) := by decide +kernel
theorem dX1_colourInWay_6 : decode cX1_colourInWay 6 = .ok (.iconst 1, 1) := by decide +kernel
theorem dX1_colourInWay_7 : decode cX1_colourInWay 7 = .ok (.invokevirtual 88, 3) := by decide +kernel
theorem dX1_colourInWay_10 : decode cX1_colourInWay 10 = .ok (.ifCond .eq 14, 3) := by decide +kernel
theorem dX1_colourInWay_13 : decode cX1_colourInWay 13 = .ok (.aload_n 0, 1) := by decide +kernel
theorem dX1_colourInWay_14 : decode cX1_colourInWay 14 = .ok (.getfield 9, 3) := by decide +kernel
theorem dX1_colourInWay_17 : decode cX1_colourInWay 17 = .ok (.iload_n 2, 1) := by decide +kernel
theorem dX1_colourInWay_18 : decode cX1_colourInWay 18 = .ok (.invokestatic 56, 3) := by decide +kernel
theorem dX1_colourInWay_21 : decode cX1_colourInWay 21 = .ok (.goto 5, 3) := by decide +kernel
theorem dX1_colourInWay_24 : decode cX1_colourInWay 24 = .ok (.bipush (-101), 2) := by decide +kernel
theorem dX1_colourInWay_26 : decode cX1_colourInWay 26 = .ok (.ireturn, 1) := by decide +kernel
theorem dX1_goToWayFrom_0 : decode cX1_goToWayFrom 0 = .ok (.iload_n 1, 1) := by decide +kernel
theorem dX1_goToWayFrom_1 : decode cX1_goToWayFrom 1 = .ok (.aload_n 0, 1) := by decide +kernel
theorem dX1_goToWayFrom_2 : decode cX1_goToWayFrom 2 = .ok (.getfield 35, 3) := by decide +kernel
theorem dX1_goToWayFrom_5 : decode cX1_goToWayFrom 5 = .ok (.getfield 59, 3) := by decide +kernel
theorem dX1_goToWayFrom_8 : decode cX1_goToWayFrom 8 = .ok (.if_icmp .le 26, 3) := by decide +kernel
theorem dX1_goToWayFrom_11 : decode cX1_goToWayFrom 11 = .ok (.aload_n 0, 1) := by decide +kernel
theorem dX1_goToWayFrom_12 : decode cX1_goToWayFrom 12 = .ok (.dup, 1) := by decide +kernel
theorem dX1_goToWayFrom_13 : decode cX1_goToWayFrom 13 = .ok (.getfield 28, 3) := by decide +kernel
theorem dX1_goToWayFrom_16 : decode cX1_goToWayFrom 16 = .ok (.iconst 1, 1) := by decide +kernel
theorem dX1_goToWayFrom_17 : decode cX1_goToWayFrom 17 = .ok (.isub, 1) := by decide +kernel
theorem dX1_goToWayFrom_18 : decode cX1_goToWayFrom 18 = .ok (.putfield 28, 3) := by decide +kernel
theorem dX1_goToWayFrom_21 : decode cX1_goToWayFrom 21 = .ok (.aload_n 0, 1) := by decide +kernel
theorem dX1_goToWayFrom_22 : decode cX1_goToWayFrom 22 = .ok (.getfield 28, 3) := by decide +kernel
theorem dX1_goToWayFrom_25 : decode cX1_goToWayFrom 25 = .ok (.ifCond .ge 7, 3) := by decide +kernel
theorem dX1_goToWayFrom_28 : decode cX1_goToWayFrom 28 = .ok (.iconst 1, 1) := by decide +kernel
theorem dX1_goToWayFrom_29 : decode cX1_goToWayFrom 29 = .ok (.goto 4, 3) := by decide +kernel
theorem dX1_goToWayFrom_32 : decode cX1_goToWayFrom 32 = .ok (.iconst 0, 1) := by decide +kernel
theorem dX1_goToWayFrom_33 : decode cX1_goToWayFrom 33 = .ok (.ireturn, 1) := by decide +kernel
theorem dX1_goToWayFrom_34 : decode cX1_goToWayFrom 34 = .ok (.iconst 0, 1) := by decide +kernel
theorem dX1_goToWayFrom_35 : decode cX1_goToWayFrom 35 = .ok (.istore_n 2, 1) := by decide +kernel
theorem dX1_goToWayFrom_36 : decode cX1_goToWayFrom 36 = .ok (.iload_n 2, 1) := by decide +kernel
theorem dX1_goToWayFrom_37 : decode cX1_goToWayFrom 37 = .ok (.aload_n 0, 1) := by decide +kernel
theorem dX1_goToWayFrom_38 : decode cX1_goToWayFrom 38 = .ok (.getfield 35, 3) := by decide +kernel
theorem dX1_goToWayFrom_41 : decode cX1_goToWayFrom 41 = .ok (.getfield 62, 3) := by decide +kernel
theorem dX1_goToWayFrom_44 : decode cX1_goToWayFrom 44 = .ok (.if_icmp .ge 39, 3) := by decide +kernel
theorem dX1_goToWayFrom_47 : decode cX1_goToWayFrom 47 = .ok (.aload_n 0, 1) := by decide +kernel
theorem dX1_goToWayFrom_48 : decode cX1_goToWayFrom 48 = .ok (.iload_n 1, 1) := by decide +kernel
theorem dX1_goToWayFrom_49 : decode cX1_goToWayFrom 49 = .ok (.iload_n 2, 1) := by decide +kernel
theorem dX1_goToWayFrom_50 : decode cX1_goToWayFrom 50 = .ok (.invokevirtual 65, 3) := by decide +kernel
theorem dX1_goToWayFrom_53 : decode cX1_goToWayFrom 53 = .ok (.ifCond .eq 24, 3) := by decide +kernel
theorem dX1_goToWayFrom_56 : decode cX1_goToWayFrom 56 = .ok (.aload_n 0, 1) := by decide +kernel
theorem dX1_goToWayFrom_57 : decode cX1_goToWayFrom 57 = .ok (.iload_n 1, 1) := by decide +kernel
theorem dX1_goToWayFrom_58 : decode cX1_goToWayFrom 58 = .ok (.iload_n 2, 1) := by decide +kernel
theorem dX1_goToWayFrom_59 : decode cX1_goToWayFrom 59 = .ok (.invokevirtual 69, 3) := by decide +kernel
theorem dX1_goToWayFrom_62 : decode cX1_goToWayFrom 62 = .ok (.ifCond .eq 15, 3) := by decide +kernel
theorem dX1_goToWayFrom_65 : decode cX1_goToWayFrom 65 = .ok (.aload_n 0, 1) := by decide +kernel
theorem dX1_goToWayFrom_66 : decode cX1_goToWayFrom 66 = .ok (.iload_n 1, 1) := by decide +kernel
theorem dX1_goToWayFrom_67 : decode cX1_goToWayFrom 67 = .ok (.iconst 1, 1) := by decide +kernel
theorem dX1_goToWayFrom_68 : decode cX1_goToWayFrom 68 = .ok (.iadd, 1) := by decide +kernel
theorem dX1_goToWayFrom_69 : decode cX1_goToWayFrom 69 = .ok (.invokevirtual 88, 3) := by decide +kernel
theorem dX1_goToWayFrom_72 : decode cX1_goToWayFrom 72 = .ok (.ifCond .eq 5, 3) := by decide +kernel
theorem dX1_goToWayFrom_75 : decode cX1_goToWayFrom 75 = .ok (.iconst 1, 1) := by decide +kernel
theorem dX1_goToWayFrom_76 : decode cX1_goToWayFrom 76 = .ok (.ireturn, 1) := by decide +kernel
theorem dX1_goToWayFrom_77 : decode cX1_goToWayFrom 77 = .ok (.iinc 2 1, 3) := by decide +kernel
theorem dX1_goToWayFrom_80 : decode cX1_goToWayFrom 80 = .ok (.goto (-44), 3) := by decide +kernel
theorem dX1_goToWayFrom_83 : decode cX1_goToWayFrom 83 = .ok (.iconst 0, 1) := by decide +kernel
theorem dX1_goToWayFrom_84 : decode cX1_goToWayFrom 84 = .ok (.ireturn, 1) := by decide +kernel
theorem dX1_fewestAnew_0 : decode cX1_fewestAnew 0 = .ok (.aload_n 0, 1) := by decide +kernel
theorem dX1_fewestAnew_1 : decode cX1_fewestAnew 1 = .ok (.bipush 11, 2) := by decide +kernel
theorem dX1_fewestAnew_3 : decode cX1_fewestAnew 3 = .ok (.putfield 25, 3) := by decide +kernel
theorem dX1_fewestAnew_6 : decode cX1_fewestAnew 6 = .ok (.aload_n 0, 1) := by decide +kernel
theorem dX1_fewestAnew_7 : decode cX1_fewestAnew 7 = .ok (.iconst 1, 1) := by decide +kernel
theorem dX1_fewestAnew_8 : decode cX1_fewestAnew 8 = .ok (.iconst 0, 1) := by decide +kernel
theorem dX1_fewestAnew_9 : decode cX1_fewestAnew 9 = .ok (.invokevirtual 91, 3) := by decide +kernel
theorem dX1_fewestAnew_12 : decode cX1_fewestAnew 12 = .ok (.aload_n 0, 1) := by decide +kernel
theorem dX1_fewestAnew_13 : decode cX1_fewestAnew 13 = .ok (.getfield 25, 3) := by decide +kernel
theorem dX1_fewestAnew_16 : decode cX1_fewestAnew 16 = .ok (.bipush 10, 2) := by decide +kernel
theorem dX1_fewestAnew_18 : decode cX1_fewestAnew 18 = .ok (.if_icmp .le 7, 3) := by decide +kernel
theorem dX1_fewestAnew_21 : decode cX1_fewestAnew 21 = .ok (.iconst (-1), 1) := by decide +kernel
theorem dX1_fewestAnew_22 : decode cX1_fewestAnew 22 = .ok (.goto 7, 3) := by decide +kernel
theorem dX1_fewestAnew_25 : decode cX1_fewestAnew 25 = .ok (.aload_n 0, 1) := by decide +kernel
theorem dX1_fewestAnew_26 : decode cX1_fewestAnew 26 = .ok (.getfield 25, 3) := by decide +kernel
theorem dX1_fewestAnew_29 : decode cX1_fewestAnew 29 = .ok (.ireturn, 1) := by decide +kernel
theorem dX1_paintAnewFrom_0 : decode cX1_paintAnewFrom 0 = .ok (.iload_n 2, 1) := by decide +kernel
theorem dX1_paintAnewFrom_1 : decode cX1_paintAnewFrom 1 = .ok (.aload_n 0, 1) := by decide +kernel
theorem dX1_paintAnewFrom_2 : decode cX1_paintAnewFrom 2 = .ok (.getfield 25, 3) := by decide +kernel
theorem dX1_paintAnewFrom_5 : decode cX1_paintAnewFrom 5 = .ok (.if_icmp .lt 4, 3) := by decide +kernel
theorem dX1_paintAnewFrom_8 : decode cX1_paintAnewFrom 8 = .ok (.return_, 1) := by decide +kernel
theorem dX1_paintAnewFrom_9 : decode cX1_paintAnewFrom 9 = .ok (.iload_n 1, 1) := by decide +kernel
theorem dX1_paintAnewFrom_10 : decode cX1_paintAnewFrom 10 = .ok (.aload_n 0, 1) := by decide +kernel
theorem dX1_paintAnewFrom_11 : decode cX1_paintAnewFrom 11 = .ok (.getfield 35, 3) := by decide +kernel
theorem dX1_paintAnewFrom_14 : decode cX1_paintAnewFrom 14 = .ok (.getfield 59, 3) := by decide +kernel
theorem dX1_paintAnewFrom_17 : decode cX1_paintAnewFrom 17 = .ok (.if_icmp .le 9, 3) := by decide +kernel
theorem dX1_paintAnewFrom_20 : decode cX1_paintAnewFrom 20 = .ok (.aload_n 0, 1) := by decide +kernel
theorem dX1_paintAnewFrom_21 : decode cX1_paintAnewFrom 21 = .ok (.iload_n 2, 1) := by decide +kernel
theorem dX1_paintAnewFrom_22 : decode cX1_paintAnewFrom 22 = .ok (.putfield 25, 3) := by decide +kernel
theorem dX1_paintAnewFrom_25 : decode cX1_paintAnewFrom 25 = .ok (.return_, 1) := by decide +kernel
theorem dX1_paintAnewFrom_26 : decode cX1_paintAnewFrom 26 = .ok (.iconst 0, 1) := by decide +kernel
theorem dX1_paintAnewFrom_27 : decode cX1_paintAnewFrom 27 = .ok (.istore_n 3, 1) := by decide +kernel
theorem dX1_paintAnewFrom_28 : decode cX1_paintAnewFrom 28 = .ok (.iload_n 3, 1) := by decide +kernel
theorem dX1_paintAnewFrom_29 : decode cX1_paintAnewFrom 29 = .ok (.aload_n 0, 1) := by decide +kernel
theorem dX1_paintAnewFrom_30 : decode cX1_paintAnewFrom 30 = .ok (.getfield 35, 3) := by decide +kernel
theorem dX1_paintAnewFrom_33 : decode cX1_paintAnewFrom 33 = .ok (.getfield 62, 3) := by decide +kernel
theorem dX1_paintAnewFrom_36 : decode cX1_paintAnewFrom 36 = .ok (.if_icmp .ge 41, 3) := by decide +kernel
theorem dX1_paintAnewFrom_39 : decode cX1_paintAnewFrom 39 = .ok (.aload_n 0, 1) := by decide +kernel
theorem dX1_paintAnewFrom_40 : decode cX1_paintAnewFrom 40 = .ok (.iload_n 1, 1) := by decide +kernel
theorem dX1_paintAnewFrom_41 : decode cX1_paintAnewFrom 41 = .ok (.iload_n 3, 1) := by decide +kernel
theorem dX1_paintAnewFrom_42 : decode cX1_paintAnewFrom 42 = .ok (.invokevirtual 69, 3) := by decide +kernel
theorem dX1_paintAnewFrom_45 : decode cX1_paintAnewFrom 45 = .ok (.ifCond .eq 26, 3) := by decide +kernel
theorem dX1_paintAnewFrom_48 : decode cX1_paintAnewFrom 48 = .ok (.aload_n 0, 1) := by decide +kernel
theorem dX1_paintAnewFrom_49 : decode cX1_paintAnewFrom 49 = .ok (.iload_n 1, 1) := by decide +kernel
theorem dX1_paintAnewFrom_50 : decode cX1_paintAnewFrom 50 = .ok (.iconst 1, 1) := by decide +kernel
theorem dX1_paintAnewFrom_51 : decode cX1_paintAnewFrom 51 = .ok (.iadd, 1) := by decide +kernel
theorem dX1_paintAnewFrom_52 : decode cX1_paintAnewFrom 52 = .ok (.aload_n 0, 1) := by decide +kernel
theorem dX1_paintAnewFrom_53 : decode cX1_paintAnewFrom 53 = .ok (.iload_n 1, 1) := by decide +kernel
theorem dX1_paintAnewFrom_54 : decode cX1_paintAnewFrom 54 = .ok (.iload_n 3, 1) := by decide +kernel
theorem dX1_paintAnewFrom_55 : decode cX1_paintAnewFrom 55 = .ok (.invokevirtual 65, 3) := by decide +kernel
theorem dX1_paintAnewFrom_58 : decode cX1_paintAnewFrom 58 = .ok (.ifCond .eq 7, 3) := by decide +kernel
theorem dX1_paintAnewFrom_61 : decode cX1_paintAnewFrom 61 = .ok (.iload_n 2, 1) := by decide +kernel
theorem dX1_paintAnewFrom_62 : decode cX1_paintAnewFrom 62 = .ok (.goto 6, 3) := by decide +kernel
theorem dX1_paintAnewFrom_65 : decode cX1_paintAnewFrom 65 = .ok (.iload_n 2, 1) := by decide +kernel
theorem dX1_paintAnewFrom_66 : decode cX1_paintAnewFrom 66 = .ok (.iconst 1, 1) := by decide +kernel
theorem dX1_paintAnewFrom_67 : decode cX1_paintAnewFrom 67 = .ok (.iadd, 1) := by decide +kernel
theorem dX1_paintAnewFrom_68 : decode cX1_paintAnewFrom 68 = .ok (.invokevirtual 91, 3) := by decide +kernel
theorem dX1_paintAnewFrom_71 : decode cX1_paintAnewFrom 71 = .ok (.iinc 3 1, 3) := by decide +kernel
theorem dX1_paintAnewFrom_74 : decode cX1_paintAnewFrom 74 = .ok (.goto (-46), 3) := by decide +kernel
theorem dX1_paintAnewFrom_77 : decode cX1_paintAnewFrom 77 = .ok (.return_, 1) := by decide +kernel
theorem dX1_winningColour_0 : decode cX1_winningColour 0 = .ok (.aload_n 0, 1) := by decide +kernel
theorem dX1_winningColour_1 : decode cX1_winningColour 1 = .ok (.getfield 35, 3) := by decide +kernel
theorem dX1_winningColour_4 : decode cX1_winningColour 4 = .ok (.aload_n 0, 1) := by decide +kernel
theorem dX1_winningColour_5 : decode cX1_winningColour 5 = .ok (.getfield 35, 3) := by decide +kernel
theorem dX1_winningColour_8 : decode cX1_winningColour 8 = .ok (.getfield 53, 3) := by decide +kernel
theorem dX1_winningColour_11 : decode cX1_winningColour 11 = .ok (.invokevirtual 95, 3) := by decide +kernel
theorem dX1_winningColour_14 : decode cX1_winningColour 14 = .ok (.ifCond .le 5, 3) := by decide +kernel
theorem dX1_winningColour_17 : decode cX1_winningColour 17 = .ok (.iconst (-1), 1) := by decide +kernel
theorem dX1_winningColour_18 : decode cX1_winningColour 18 = .ok (.ireturn, 1) := by decide +kernel
theorem dX1_winningColour_19 : decode cX1_winningColour 19 = .ok (.aload_n 0, 1) := by decide +kernel
theorem dX1_winningColour_20 : decode cX1_winningColour 20 = .ok (.getfield 35, 3) := by decide +kernel
theorem dX1_winningColour_23 : decode cX1_winningColour 23 = .ok (.getfield 53, 3) := by decide +kernel
theorem dX1_winningColour_26 : decode cX1_winningColour 26 = .ok (.aload_n 0, 1) := by decide +kernel
theorem dX1_winningColour_27 : decode cX1_winningColour 27 = .ok (.getfield 9, 3) := by decide +kernel
theorem dX1_winningColour_30 : decode cX1_winningColour 30 = .ok (.invokestatic 99, 3) := by decide +kernel
theorem dX1_winningColour_33 : decode cX1_winningColour 33 = .ok (.aload_n 0, 1) := by decide +kernel
theorem dX1_winningColour_34 : decode cX1_winningColour 34 = .ok (.iconst 1, 1) := by decide +kernel
theorem dX1_winningColour_35 : decode cX1_winningColour 35 = .ok (.invokevirtual 103, 3) := by decide +kernel
theorem dX1_winningColour_38 : decode cX1_winningColour 38 = .ok (.ireturn, 1) := by decide +kernel
theorem dX1_winningColourFrom_0 : decode cX1_winningColourFrom 0 = .ok (.iload_n 1, 1) := by decide +kernel
theorem dX1_winningColourFrom_1 : decode cX1_winningColourFrom 1 = .ok (.aload_n 0, 1) := by decide +kernel
theorem dX1_winningColourFrom_2 : decode cX1_winningColourFrom 2 = .ok (.getfield 35, 3) := by decide +kernel
theorem dX1_winningColourFrom_5 : decode cX1_winningColourFrom 5 = .ok (.getfield 59, 3) := by decide +kernel
theorem dX1_winningColourFrom_8 : decode cX1_winningColourFrom 8 = .ok (.if_icmp .le 5, 3) := by decide +kernel
theorem dX1_winningColourFrom_11 : decode cX1_winningColourFrom 11 = .ok (.iconst (-1), 1) := by decide +kernel
theorem dX1_winningColourFrom_12 : decode cX1_winningColourFrom 12 = .ok (.ireturn, 1) := by decide +kernel
theorem dX1_winningColourFrom_13 : decode cX1_winningColourFrom 13 = .ok (.aload_n 0, 1) := by decide +kernel
theorem dX1_winningColourFrom_14 : decode cX1_winningColourFrom 14 = .ok (.getfield 35, 3) := by decide +kernel
theorem dX1_winningColourFrom_17 : decode cX1_winningColourFrom 17 = .ok (.iload_n 1, 1) := by decide +kernel
theorem dX1_winningColourFrom_18 : decode cX1_winningColourFrom 18 = .ok (.invokevirtual 84, 3) := by decide +kernel
theorem dX1_winningColourFrom_21 : decode cX1_winningColourFrom 21 = .ok (.ifCond .ne 11, 3) := by decide +kernel
theorem dX1_winningColourFrom_24 : decode cX1_winningColourFrom 24 = .ok (.aload_n 0, 1) := by decide +kernel
theorem dX1_winningColourFrom_25 : decode cX1_winningColourFrom 25 = .ok (.iload_n 1, 1) := by decide +kernel
theorem dX1_winningColourFrom_26 : decode cX1_winningColourFrom 26 = .ok (.iconst 1, 1) := by decide +kernel
theorem dX1_winningColourFrom_27 : decode cX1_winningColourFrom 27 = .ok (.iadd, 1) := by decide +kernel
theorem dX1_winningColourFrom_28 : decode cX1_winningColourFrom 28 = .ok (.invokevirtual 103, 3) := by decide +kernel
theorem dX1_winningColourFrom_31 : decode cX1_winningColourFrom 31 = .ok (.ireturn, 1) := by decide +kernel
theorem dX1_winningColourFrom_32 : decode cX1_winningColourFrom 32 = .ok (.iconst (-1), 1) := by decide +kernel
theorem dX1_winningColourFrom_33 : decode cX1_winningColourFrom 33 = .ok (.istore_n 2, 1) := by decide +kernel
theorem dX1_winningColourFrom_34 : decode cX1_winningColourFrom 34 = .ok (.iconst 0, 1) := by decide +kernel
theorem dX1_winningColourFrom_35 : decode cX1_winningColourFrom 35 = .ok (.istore_n 3, 1) := by decide +kernel
theorem dX1_winningColourFrom_36 : decode cX1_winningColourFrom 36 = .ok (.iload_n 3, 1) := by decide +kernel
theorem dX1_winningColourFrom_37 : decode cX1_winningColourFrom 37 = .ok (.aload_n 0, 1) := by decide +kernel
theorem dX1_winningColourFrom_38 : decode cX1_winningColourFrom 38 = .ok (.getfield 35, 3) := by decide +kernel
theorem dX1_winningColourFrom_41 : decode cX1_winningColourFrom 41 = .ok (.getfield 62, 3) := by decide +kernel
theorem dX1_winningColourFrom_44 : decode cX1_winningColourFrom 44 = .ok (.if_icmp .ge 51, 3) := by decide +kernel
theorem dX1_winningColourFrom_47 : decode cX1_winningColourFrom 47 = .ok (.iload_n 2, 1) := by decide +kernel
theorem dX1_winningColourFrom_48 : decode cX1_winningColourFrom 48 = .ok (.iconst (-1), 1) := by decide +kernel
theorem dX1_winningColourFrom_49 : decode cX1_winningColourFrom 49 = .ok (.if_icmp .ne 46, 3) := by decide +kernel
theorem dX1_winningColourFrom_52 : decode cX1_winningColourFrom 52 = .ok (.aload_n 0, 1) := by decide +kernel
theorem dX1_winningColourFrom_53 : decode cX1_winningColourFrom 53 = .ok (.getfield 9, 3) := by decide +kernel
theorem dX1_winningColourFrom_56 : decode cX1_winningColourFrom 56 = .ok (.iload_n 1, 1) := by decide +kernel
theorem dX1_winningColourFrom_57 : decode cX1_winningColourFrom 57 = .ok (.iload_n 3, 1) := by decide +kernel
theorem dX1_winningColourFrom_58 : decode cX1_winningColourFrom 58 = .ok (.invokestatic 39, 3) := by decide +kernel
theorem dX1_winningColourFrom_61 : decode cX1_winningColourFrom 61 = .ok (.aload_n 0, 1) := by decide +kernel
theorem dX1_winningColourFrom_62 : decode cX1_winningColourFrom 62 = .ok (.getfield 35, 3) := by decide +kernel
theorem dX1_winningColourFrom_65 : decode cX1_winningColourFrom 65 = .ok (.aload_n 0, 1) := by decide +kernel
theorem dX1_winningColourFrom_66 : decode cX1_winningColourFrom 66 = .ok (.getfield 9, 3) := by decide +kernel
theorem dX1_winningColourFrom_69 : decode cX1_winningColourFrom 69 = .ok (.iload_n 1, 1) := by decide +kernel
theorem dX1_winningColourFrom_70 : decode cX1_winningColourFrom 70 = .ok (.invokevirtual 106, 3) := by decide +kernel
theorem dX1_winningColourFrom_73 : decode cX1_winningColourFrom 73 = .ok (.ifCond .ne 16, 3) := by decide +kernel
theorem dX1_winningColourFrom_76 : decode cX1_winningColourFrom 76 = .ok (.aload_n 0, 1) := by decide +kernel
theorem dX1_winningColourFrom_77 : decode cX1_winningColourFrom 77 = .ok (.iload_n 1, 1) := by decide +kernel
theorem dX1_winningColourFrom_78 : decode cX1_winningColourFrom 78 = .ok (.iconst 1, 1) := by decide +kernel
theorem dX1_winningColourFrom_79 : decode cX1_winningColourFrom 79 = .ok (.iadd, 1) := by decide +kernel
theorem dX1_winningColourFrom_80 : decode cX1_winningColourFrom 80 = .ok (.invokevirtual 103, 3) := by decide +kernel
theorem dX1_winningColourFrom_83 : decode cX1_winningColourFrom 83 = .ok (.iconst (-1), 1) := by decide +kernel
theorem dX1_winningColourFrom_84 : decode cX1_winningColourFrom 84 = .ok (.if_icmp .ne 5, 3) := by decide +kernel
theorem dX1_winningColourFrom_87 : decode cX1_winningColourFrom 87 = .ok (.iload_n 3, 1) := by decide +kernel
theorem dX1_winningColourFrom_88 : decode cX1_winningColourFrom 88 = .ok (.istore_n 2, 1) := by decide +kernel
theorem dX1_winningColourFrom_89 : decode cX1_winningColourFrom 89 = .ok (.iinc 3 1, 3) := by decide +kernel
theorem dX1_winningColourFrom_92 : decode cX1_winningColourFrom 92 = .ok (.goto (-56), 3) := by decide +kernel
theorem dX1_winningColourFrom_95 : decode cX1_winningColourFrom 95 = .ok (.aload_n 0, 1) := by decide +kernel
theorem dX1_winningColourFrom_96 : decode cX1_winningColourFrom 96 = .ok (.getfield 9, 3) := by decide +kernel
theorem dX1_winningColourFrom_99 : decode cX1_winningColourFrom 99 = .ok (.iload_n 1, 1) := by decide +kernel
theorem dX1_winningColourFrom_100 : decode cX1_winningColourFrom 100 = .ok (.iconst (-1), 1) := by decide +kernel
theorem dX1_winningColourFrom_101 : decode cX1_winningColourFrom 101 = .ok (.invokestatic 39, 3) := by decide +kernel
theorem dX1_winningColourFrom_104 : decode cX1_winningColourFrom 104 = .ok (.iload_n 2, 1) := by decide +kernel
theorem dX1_winningColourFrom_105 : decode cX1_winningColourFrom 105 = .ok (.ireturn, 1) := by decide +kernel
theorem dX1_paintBareBySeed_0 : decode cX1_paintBareBySeed 0 = .ok (.aload_n 0, 1) := by decide +kernel
theorem dX1_paintBareBySeed_1 : decode cX1_paintBareBySeed 1 = .ok (.getfield 35, 3) := by decide +kernel
theorem dX1_paintBareBySeed_4 : decode cX1_paintBareBySeed 4 = .ok (.getfield 53, 3) := by decide +kernel
theorem dX1_paintBareBySeed_7 : decode cX1_paintBareBySeed 7 = .ok (.aload_n 0, 1) := by decide +kernel
theorem dX1_paintBareBySeed_8 : decode cX1_paintBareBySeed 8 = .ok (.getfield 9, 3) := by decide +kernel
theorem dX1_paintBareBySeed_11 : decode cX1_paintBareBySeed 11 = .ok (.invokestatic 99, 3) := by decide +kernel
theorem dX1_paintBareBySeed_14 : decode cX1_paintBareBySeed 14 = .ok (.iload_n 1, 1) := by decide +kernel
theorem dX1_paintBareBySeed_15 : decode cX1_paintBareBySeed 15 = .ok (.istore_n 2, 1) := by decide +kernel
theorem dX1_paintBareBySeed_16 : decode cX1_paintBareBySeed 16 = .ok (.iconst 1, 1) := by decide +kernel
theorem dX1_paintBareBySeed_17 : decode cX1_paintBareBySeed 17 = .ok (.istore_n 3, 1) := by decide +kernel
theorem dX1_paintBareBySeed_18 : decode cX1_paintBareBySeed 18 = .ok (.iload_n 3, 1) := by decide +kernel
theorem dX1_paintBareBySeed_19 : decode cX1_paintBareBySeed 19 = .ok (.aload_n 0, 1) := by decide +kernel
theorem dX1_paintBareBySeed_20 : decode cX1_paintBareBySeed 20 = .ok (.getfield 35, 3) := by decide +kernel
theorem dX1_paintBareBySeed_23 : decode cX1_paintBareBySeed 23 = .ok (.getfield 59, 3) := by decide +kernel
theorem dX1_paintBareBySeed_26 : decode cX1_paintBareBySeed 26 = .ok (.if_icmp .gt 62, 3) := by decide +kernel
theorem dX1_paintBareBySeed_29 : decode cX1_paintBareBySeed 29 = .ok (.aload_n 0, 1) := by decide +kernel
theorem dX1_paintBareBySeed_30 : decode cX1_paintBareBySeed 30 = .ok (.getfield 35, 3) := by decide +kernel
theorem dX1_paintBareBySeed_33 : decode cX1_paintBareBySeed 33 = .ok (.iload_n 3, 1) := by decide +kernel
theorem dX1_paintBareBySeed_34 : decode cX1_paintBareBySeed 34 = .ok (.invokevirtual 84, 3) := by decide +kernel
theorem dX1_paintBareBySeed_37 : decode cX1_paintBareBySeed 37 = .ok (.ifCond .eq 45, 3) := by decide +kernel
theorem dX1_paintBareBySeed_40 : decode cX1_paintBareBySeed 40 = .ok (.aload_n 0, 1) := by decide +kernel
theorem dX1_paintBareBySeed_41 : decode cX1_paintBareBySeed 41 = .ok (.getfield 35, 3) := by decide +kernel
theorem dX1_paintBareBySeed_44 : decode cX1_paintBareBySeed 44 = .ok (.getfield 62, 3) := by decide +kernel
theorem dX1_paintBareBySeed_47 : decode cX1_paintBareBySeed 47 = .ok (.ifCond .le 35, 3) := by decide +kernel
theorem dX1_paintBareBySeed_50 : decode cX1_paintBareBySeed 50 = .ok (.ldc 109, 2) := by decide +kernel
theorem dX1_paintBareBySeed_52 : decode cX1_paintBareBySeed 52 = .ok (.iload_n 2, 1) := by decide +kernel
theorem dX1_paintBareBySeed_53 : decode cX1_paintBareBySeed 53 = .ok (.imul, 1) := by decide +kernel
theorem dX1_paintBareBySeed_54 : decode cX1_paintBareBySeed 54 = .ok (.sipush 12345, 3) := by decide +kernel
theorem dX1_paintBareBySeed_57 : decode cX1_paintBareBySeed 57 = .ok (.iadd, 1) := by decide +kernel
theorem dX1_paintBareBySeed_58 : decode cX1_paintBareBySeed 58 = .ok (.ldc 110, 2) := by decide +kernel
theorem dX1_paintBareBySeed_60 : decode cX1_paintBareBySeed 60 = .ok (.iand, 1) := by decide +kernel
theorem dX1_paintBareBySeed_61 : decode cX1_paintBareBySeed 61 = .ok (.istore_n 2, 1) := by decide +kernel
theorem dX1_paintBareBySeed_62 : decode cX1_paintBareBySeed 62 = .ok (.aload_n 0, 1) := by decide +kernel
theorem dX1_paintBareBySeed_63 : decode cX1_paintBareBySeed 63 = .ok (.getfield 9, 3) := by decide +kernel
theorem dX1_paintBareBySeed_66 : decode cX1_paintBareBySeed 66 = .ok (.iload_n 3, 1) := by decide +kernel
theorem dX1_paintBareBySeed_67 : decode cX1_paintBareBySeed 67 = .ok (.iload_n 2, 1) := by decide +kernel
theorem dX1_paintBareBySeed_68 : decode cX1_paintBareBySeed 68 = .ok (.ldc 111, 2) := by decide +kernel
theorem dX1_paintBareBySeed_70 : decode cX1_paintBareBySeed 70 = .ok (.idiv, 1) := by decide +kernel
theorem dX1_paintBareBySeed_71 : decode cX1_paintBareBySeed 71 = .ok (.aload_n 0, 1) := by decide +kernel
theorem dX1_paintBareBySeed_72 : decode cX1_paintBareBySeed 72 = .ok (.getfield 35, 3) := by decide +kernel
theorem dX1_paintBareBySeed_75 : decode cX1_paintBareBySeed 75 = .ok (.getfield 62, 3) := by decide +kernel
theorem dX1_paintBareBySeed_78 : decode cX1_paintBareBySeed 78 = .ok (.irem, 1) := by decide +kernel
theorem dX1_paintBareBySeed_79 : decode cX1_paintBareBySeed 79 = .ok (.invokestatic 39, 3) := by decide +kernel
theorem dX1_paintBareBySeed_82 : decode cX1_paintBareBySeed 82 = .ok (.iinc 3 1, 3) := by decide +kernel
theorem dX1_paintBareBySeed_85 : decode cX1_paintBareBySeed 85 = .ok (.goto (-67), 3) := by decide +kernel
theorem dX1_paintBareBySeed_88 : decode cX1_paintBareBySeed 88 = .ok (.iload_n 2, 1) := by decide +kernel
theorem dX1_paintBareBySeed_89 : decode cX1_paintBareBySeed 89 = .ok (.ireturn, 1) := by decide +kernel
theorem dX2_init_0 : decode cX2_init 0 = .ok (.aload_n 0, 1) := by decide +kernel
theorem dX2_init_1 : decode cX2_init 1 = .ok (.invokespecial 3, 3) := by decide +kernel
theorem dX2_init_4 : decode cX2_init 4 = .ok (.aload_n 0, 1) := by decide +kernel
theorem dX2_init_5 : decode cX2_init 5 = .ok (.bipush 26, 2) := by decide +kernel
theorem dX2_init_7 : decode cX2_init 7 = .ok (.newarray .int, 2) := by decide +kernel
theorem dX2_init_9 : decode cX2_init 9 = .ok (.putfield 9, 3) := by decide +kernel
theorem dX2_init_12 : decode cX2_init 12 = .ok (.aload_n 0, 1) := by decide +kernel
theorem dX2_init_13 : decode cX2_init 13 = .ok (.iconst 0, 1) := by decide +kernel
theorem dX2_init_14 : decode cX2_init 14 = .ok (.putfield 15, 3) := by decide +kernel
theorem dX2_init_17 : decode cX2_init 17 = .ok (.return_, 1) := by decide +kernel
theorem dX2_append_0 : decode cX2_append 0 = .ok (.aload_n 0, 1) := by decide +kernel
theorem dX2_append_1 : decode cX2_append 1 = .ok (.getfield 9, 3) := by decide +kernel
theorem dX2_append_4 : decode cX2_append 4 = .ok (.aload_n 0, 1) := by decide +kernel
theorem dX2_append_5 : decode cX2_append 5 = .ok (.getfield 15, 3) := by decide +kernel
theorem dX2_append_8 : decode cX2_append 8 = .ok (.iload_n 1, 1) := by decide +kernel
theorem dX2_append_9 : decode cX2_append 9 = .ok (.invokestatic 19, 3) := by decide +kernel
theorem dX2_append_12 : decode cX2_append 12 = .ok (.aload_n 0, 1) := by decide +kernel
theorem dX2_append_13 : decode cX2_append 13 = .ok (.dup, 1) := by decide +kernel
theorem dX2_append_14 : decode cX2_append 14 = .ok (.getfield 15, 3) := by decide +kernel
theorem dX2_append_17 : decode cX2_append 17 = .ok (.iconst 1, 1) := by decide +kernel
theorem dX2_append_18 : decode cX2_append 18 = .ok (.iadd, 1) := by decide +kernel
theorem dX2_append_19 : decode cX2_append 19 = .ok (.putfield 15, 3) := by decide +kernel
theorem dX2_append_22 : decode cX2_append 22 = .ok (.return_, 1) := by decide +kernel
theorem dX2_codeAt_0 : decode cX2_codeAt 0 = .ok (.iload_n 1, 1) := by decide +kernel
theorem dX2_codeAt_1 : decode cX2_codeAt 1 = .ok (.aload_n 0, 1) := by decide +kernel
theorem dX2_codeAt_2 : decode cX2_codeAt 2 = .ok (.getfield 15, 3) := by decide +kernel
theorem dX2_codeAt_5 : decode cX2_codeAt 5 = .ok (.if_icmp .ge 14, 3) := by decide +kernel
theorem dX2_codeAt_8 : decode cX2_codeAt 8 = .ok (.aload_n 0, 1) := by decide +kernel
theorem dX2_codeAt_9 : decode cX2_codeAt 9 = .ok (.getfield 9, 3) := by decide +kernel
theorem dX2_codeAt_12 : decode cX2_codeAt 12 = .ok (.iload_n 1, 1) := by decide +kernel
theorem dX2_codeAt_13 : decode cX2_codeAt 13 = .ok (.invokestatic 23, 3) := by decide +kernel
theorem dX2_codeAt_16 : decode cX2_codeAt 16 = .ok (.goto 4, 3) := by decide +kernel
theorem dX2_codeAt_19 : decode cX2_codeAt 19 = .ok (.iconst 0, 1) := by decide +kernel
theorem dX2_codeAt_20 : decode cX2_codeAt 20 = .ok (.ireturn, 1) := by decide +kernel
theorem dX2_colours_0 : decode cX2_colours 0 = .ok (.aload_n 0, 1) := by decide +kernel
theorem dX2_colours_1 : decode cX2_colours 1 = .ok (.iconst 0, 1) := by decide +kernel
theorem dX2_colours_2 : decode cX2_colours 2 = .ok (.invokevirtual 27, 3) := by decide +kernel
theorem dX2_colours_5 : decode cX2_colours 5 = .ok (.bipush 48, 2) := by decide +kernel
theorem dX2_colours_7 : decode cX2_colours 7 = .ok (.isub, 1) := by decide +kernel
theorem dX2_colours_8 : decode cX2_colours 8 = .ok (.ireturn, 1) := by decide +kernel
theorem dX2_kindAt_0 : decode cX2_kindAt 0 = .ok (.ldc 31, 2) := by decide +kernel
theorem dX2_kindAt_2 : decode cX2_kindAt 2 = .ok (.aload_n 0, 1) := by decide +kernel
theorem dX2_kindAt_3 : decode cX2_kindAt 3 = .ok (.iload_n 1, 1) := by decide +kernel
theorem dX2_kindAt_4 : decode cX2_kindAt 4 = .ok (.invokevirtual 27, 3) := by decide +kernel
theorem dX2_kindAt_7 : decode cX2_kindAt 7 = .ok (.i2c, 1) := by decide +kernel
theorem dX2_kindAt_8 : decode cX2_kindAt 8 = .ok (.invokevirtual 33, 3) := by decide +kernel
theorem dX2_kindAt_11 : decode cX2_kindAt 11 = .ok (.ireturn, 1) := by decide +kernel
theorem dX2_kindsTold_0 : decode cX2_kindsTold 0 = .ok (.iconst 0, 1) := by decide +kernel
theorem dX2_kindsTold_1 : decode cX2_kindsTold 1 = .ok (.istore_n 1, 1) := by decide +kernel
theorem dX2_kindsTold_2 : decode cX2_kindsTold 2 = .ok (.iload_n 1, 1) := by decide +kernel
theorem dX2_kindsTold_3 : decode cX2_kindsTold 3 = .ok (.bipush 10, 2) := by decide +kernel
theorem dX2_kindsTold_5 : decode cX2_kindsTold 5 = .ok (.if_icmp .ge 20, 3) := by decide +kernel
theorem dX2_kindsTold_8 : decode cX2_kindsTold 8 = .ok (.aload_n 0, 1) := by decide +kernel
theorem dX2_kindsTold_9 : decode cX2_kindsTold 9 = .ok (.iconst 2, 1) := by decide +kernel
theorem dX2_kindsTold_10 : decode cX2_kindsTold 10 = .ok (.iload_n 1, 1) := by decide +kernel
theorem dX2_kindsTold_11 : decode cX2_kindsTold 11 = .ok (.iadd, 1) := by decide +kernel
theorem dX2_kindsTold_12 : decode cX2_kindsTold 12 = .ok (.invokevirtual 38, 3) := by decide +kernel
theorem dX2_kindsTold_15 : decode cX2_kindsTold 15 = .ok (.iconst (-1), 1) := by decide +kernel
theorem dX2_kindsTold_16 : decode cX2_kindsTold 16 = .ok (.if_icmp .eq 9, 3) := by decide +kernel
theorem dX2_kindsTold_19 : decode cX2_kindsTold 19 = .ok (.iinc 1 1, 3) := by decide +kernel
theorem dX2_kindsTold_22 : decode cX2_kindsTold 22 = .ok (.goto (-20), 3) := by decide +kernel
theorem dX2_kindsTold_25 : decode cX2_kindsTold 25 = .ok (.iload_n 1, 1) := by decide +kernel
theorem dX2_kindsTold_26 : decode cX2_kindsTold 26 = .ok (.ireturn, 1) := by decide +kernel
theorem dX2_firstFault_0 : decode cX2_firstFault 0 = .ok (.iconst 2, 1) := by decide +kernel
theorem dX2_firstFault_1 : decode cX2_firstFault 1 = .ok (.aload_n 0, 1) := by decide +kernel
theorem dX2_firstFault_2 : decode cX2_firstFault 2 = .ok (.invokevirtual 41, 3) := by decide +kernel
theorem dX2_firstFault_5 : decode cX2_firstFault 5 = .ok (.iadd, 1) := by decide +kernel
theorem dX2_firstFault_6 : decode cX2_firstFault 6 = .ok (.istore_n 1, 1) := by decide +kernel
theorem dX2_firstFault_7 : decode cX2_firstFault 7 = .ok (.iconst 0, 1) := by decide +kernel
theorem dX2_firstFault_8 : decode cX2_firstFault 8 = .ok (.istore_n 2, 1) := by decide +kernel
theorem dX2_firstFault_9 : decode cX2_firstFault 9 = .ok (.iload_n 2, 1) := by decide +kernel
theorem dX2_firstFault_10 : decode cX2_firstFault 10 = .ok (.aload_n 0, 1) := by decide +kernel
theorem dX2_firstFault_11 : decode cX2_firstFault 11 = .ok (.getfield 15, 3) := by decide +kernel
theorem dX2_firstFault_14 : decode cX2_firstFault 14 = .ok (.if_icmp .ge 18, 3) := by decide +kernel
theorem dX2_firstFault_17 : decode cX2_firstFault 17 = .ok (.aload_n 0, 1) := by decide +kernel
theorem dX2_firstFault_18 : decode cX2_firstFault 18 = .ok (.iload_n 2, 1) := by decide +kernel
theorem dX2_firstFault_19 : decode cX2_firstFault 19 = .ok (.iload_n 1, 1) := by decide +kernel
theorem dX2_firstFault_20 : decode cX2_firstFault 20 = .ok (.invokevirtual 45, 3) := by decide +kernel
theorem dX2_firstFault_23 : decode cX2_firstFault 23 = .ok (.ifCond .eq 9, 3) := by decide +kernel
theorem dX2_firstFault_26 : decode cX2_firstFault 26 = .ok (.iinc 2 1, 3) := by decide +kernel
theorem dX2_firstFault_29 : decode cX2_firstFault 29 = .ok (.goto (-20), 3) := by decide +kernel
theorem dX2_firstFault_32 : decode cX2_firstFault 32 = .ok (.iload_n 2, 1) := by decide +kernel
theorem dX2_firstFault_33 : decode cX2_firstFault 33 = .ok (.ireturn, 1) := by decide +kernel
theorem dX2_fits_0 : decode cX2_fits 0 = .ok (.aload_n 0, 1) := by decide +kernel
theorem dX2_fits_1 : decode cX2_fits 1 = .ok (.iload_n 1, 1) := by decide +kernel
theorem dX2_fits_2 : decode cX2_fits 2 = .ok (.invokevirtual 27, 3) := by decide +kernel
theorem dX2_fits_5 : decode cX2_fits 5 = .ok (.istore_n 3, 1) := by decide +kernel
theorem dX2_fits_6 : decode cX2_fits 6 = .ok (.iload_n 1, 1) := by decide +kernel
theorem dX2_fits_7 : decode cX2_fits 7 = .ok (.ifCond .ne 21, 3) := by decide +kernel
theorem dX2_fits_10 : decode cX2_fits 10 = .ok (.iload_n 3, 1) := by decide +kernel
theorem dX2_fits_11 : decode cX2_fits 11 = .ok (.bipush 50, 2) := by decide +kernel
theorem dX2_fits_13 : decode cX2_fits 13 = .ok (.if_icmp .eq 9, 3) := by decide +kernel
theorem dX2_fits_16 : decode cX2_fits 16 = .ok (.iload_n 3, 1) := by decide +kernel
theorem dX2_fits_17 : decode cX2_fits 17 = .ok (.bipush 51, 2) := by decide +kernel
theorem dX2_fits_19 : decode cX2_fits 19 = .ok (.if_icmp .ne 7, 3) := by decide +kernel
theorem dX2_fits_22 : decode cX2_fits 22 = .ok (.iconst 1, 1) := by decide +kernel
theorem dX2_fits_23 : decode cX2_fits 23 = .ok (.goto 4, 3) := by decide +kernel
theorem dX2_fits_26 : decode cX2_fits 26 = .ok (.iconst 0, 1) := by decide +kernel
theorem dX2_fits_27 : decode cX2_fits 27 = .ok (.ireturn, 1) := by decide +kernel
theorem dX2_fits_28 : decode cX2_fits 28 = .ok (.iload_n 1, 1) := by decide +kernel
theorem dX2_fits_29 : decode cX2_fits 29 = .ok (.iconst 2, 1) := by decide +kernel
theorem dX2_fits_30 : decode cX2_fits 30 = .ok (.if_icmp .ge 15, 3) := by decide +kernel
theorem dX2_fits_33 : decode cX2_fits 33 = .ok (.iload_n 3, 1) := by decide +kernel
theorem dX2_fits_34 : decode cX2_fits 34 = .ok (.bipush 59, 2) := by decide +kernel
theorem dX2_fits_36 : decode cX2_fits 36 = .ok (.if_icmp .ne 7, 3) := by decide +kernel
theorem dX2_fits_39 : decode cX2_fits 39 = .ok (.iconst 1, 1) := by decide +kernel
theorem dX2_fits_40 : decode cX2_fits 40 = .ok (.goto 4, 3) := by decide +kernel
theorem dX2_fits_43 : decode cX2_fits 43 = .ok (.iconst 0, 1) := by decide +kernel
theorem dX2_fits_44 : decode cX2_fits 44 = .ok (.ireturn, 1) := by decide +kernel
theorem dX2_fits_45 : decode cX2_fits 45 = .ok (.iload_n 1, 1) := by decide +kernel
theorem dX2_fits_46 : decode cX2_fits 46 = .ok (.iload_n 2, 1) := by decide +kernel
theorem dX2_fits_47 : decode cX2_fits 47 = .ok (.if_icmp .ge 5, 3) := by decide +kernel
theorem dX2_fits_50 : decode cX2_fits 50 = .ok (.iconst 1, 1) := by decide +kernel
theorem dX2_fits_51 : decode cX2_fits 51 = .ok (.ireturn, 1) := by decide +kernel
theorem dX2_fits_52 : decode cX2_fits 52 = .ok (.iload_n 2, 1) := by decide +kernel
theorem dX2_fits_53 : decode cX2_fits 53 = .ok (.iconst 2, 1) := by decide +kernel
theorem dX2_fits_54 : decode cX2_fits 54 = .ok (.isub, 1) := by decide +kernel
theorem dX2_fits_55 : decode cX2_fits 55 = .ok (.istore 4, 2) := by decide +kernel
theorem dX2_fits_57 : decode cX2_fits 57 = .ok (.iload_n 1, 1) := by decide +kernel
theorem dX2_fits_58 : decode cX2_fits 58 = .ok (.iload_n 2, 1) := by decide +kernel
theorem dX2_fits_59 : decode cX2_fits 59 = .ok (.if_icmp .ne 21, 3) := by decide +kernel
theorem dX2_fits_62 : decode cX2_fits 62 = .ok (.iload_n 3, 1) := by decide +kernel
theorem dX2_fits_63 : decode cX2_fits 63 = .ok (.bipush 59, 2) := by decide +kernel
theorem dX2_fits_65 : decode cX2_fits 65 = .ok (.if_icmp .ne 13, 3) := by decide +kernel
theorem dX2_fits_68 : decode cX2_fits 68 = .ok (.iload 4, 2) := by decide +kernel
theorem dX2_fits_70 : decode cX2_fits 70 = .ok (.iconst 4, 1) := by decide +kernel
theorem dX2_fits_71 : decode cX2_fits 71 = .ok (.if_icmp .lt 7, 3) := by decide +kernel
theorem dX2_fits_74 : decode cX2_fits 74 = .ok (.iconst 1, 1) := by decide +kernel
theorem dX2_fits_75 : decode cX2_fits 75 = .ok (.goto 4, 3) := by decide +kernel
theorem dX2_fits_78 : decode cX2_fits 78 = .ok (.iconst 0, 1) := by decide +kernel
theorem dX2_fits_79 : decode cX2_fits 79 = .ok (.ireturn, 1) := by decide +kernel
theorem dX2_fits_80 : decode cX2_fits 80 = .ok (.iload_n 1, 1) := by decide +kernel
theorem dX2_fits_81 : decode cX2_fits 81 = .ok (.iload_n 2, 1) := by decide +kernel
theorem dX2_fits_82 : decode cX2_fits 82 = .ok (.iload 4, 2) := by decide +kernel
theorem dX2_fits_84 : decode cX2_fits 84 = .ok (.iadd, 1) := by decide +kernel
theorem dX2_fits_85 : decode cX2_fits 85 = .ok (.if_icmp .gt 15, 3) := by decide +kernel
theorem dX2_fits_88 : decode cX2_fits 88 = .ok (.aload_n 0, 1) := by decide +kernel
theorem dX2_fits_89 : decode cX2_fits 89 = .ok (.iload_n 3, 1) := by decide +kernel
theorem dX2_fits_90 : decode cX2_fits 90 = .ok (.invokevirtual 49, 3) := by decide +kernel
theorem dX2_fits_93 : decode cX2_fits 93 = .ok (.ifCond .eq 7, 3) := by decide +kernel
theorem dX2_fits_96 : decode cX2_fits 96 = .ok (.iconst 1, 1) := by decide +kernel
theorem dX2_fits_97 : decode cX2_fits 97 = .ok (.goto 4, 3) := by decide +kernel
theorem dX2_fits_100 : decode cX2_fits 100 = .ok (.iconst 0, 1) := by decide +kernel
theorem dX2_fits_101 : decode cX2_fits 101 = .ok (.ireturn, 1) := by decide +kernel
theorem dX2_isSign_0 : decode cX2_isSign 0 = .ok (.iload_n 1, 1) := by decide +kernel
theorem dX2_isSign_1 : decode cX2_isSign 1 = .ok (.bipush 46, 2) := by decide +kernel
theorem dX2_isSign_3 : decode cX2_isSign 3 = .ok (.if_icmp .eq 20, 3) := by decide +kernel
theorem dX2_isSign_6 : decode cX2_isSign 6 = .ok (.iload_n 1, 1) := by decide +kernel
theorem dX2_isSign_7 : decode cX2_isSign 7 = .ok (.bipush 97, 2) := by decide +kernel
theorem dX2_isSign_9 : decode cX2_isSign 9 = .ok (.if_icmp .lt 18, 3) := by decide +kernel
theorem dX2_isSign_12 : decode cX2_isSign 12 = .ok (.iload_n 1, 1) := by decide +kernel
theorem dX2_isSign_13 : decode cX2_isSign 13 = .ok (.bipush 97, 2) := by decide +kernel
theorem dX2_isSign_15 : decode cX2_isSign 15 = .ok (.aload_n 0, 1) := by decide +kernel
theorem dX2_isSign_16 : decode cX2_isSign 16 = .ok (.invokevirtual 53, 3) := by decide +kernel
theorem dX2_isSign_19 : decode cX2_isSign 19 = .ok (.iadd, 1) := by decide +kernel
theorem dX2_isSign_20 : decode cX2_isSign 20 = .ok (.if_icmp .ge 7, 3) := by decide +kernel
theorem dX2_isSign_23 : decode cX2_isSign 23 = .ok (.iconst 1, 1) := by decide +kernel
theorem dX2_isSign_24 : decode cX2_isSign 24 = .ok (.goto 4, 3) := by decide +kernel
theorem dX2_isSign_27 : decode cX2_isSign 27 = .ok (.iconst 0, 1) := by decide +kernel
theorem dX2_isSign_28 : decode cX2_isSign 28 = .ok (.ireturn, 1) := by decide +kernel
theorem dX2_isBoard_0 : decode cX2_isBoard 0 = .ok (.aload_n 0, 1) := by decide +kernel
theorem dX2_isBoard_1 : decode cX2_isBoard 1 = .ok (.getfield 15, 3) := by decide +kernel
theorem dX2_isBoard_4 : decode cX2_isBoard 4 = .ok (.iconst 2, 1) := by decide +kernel
theorem dX2_isBoard_5 : decode cX2_isBoard 5 = .ok (.iconst 2, 1) := by decide +kernel
theorem dX2_isBoard_6 : decode cX2_isBoard 6 = .ok (.aload_n 0, 1) := by decide +kernel
theorem dX2_isBoard_7 : decode cX2_isBoard 7 = .ok (.invokevirtual 41, 3) := by decide +kernel
theorem dX2_isBoard_10 : decode cX2_isBoard 10 = .ok (.imul, 1) := by decide +kernel
theorem dX2_isBoard_11 : decode cX2_isBoard 11 = .ok (.iadd, 1) := by decide +kernel
theorem dX2_isBoard_12 : decode cX2_isBoard 12 = .ok (.iconst 1, 1) := by decide +kernel
theorem dX2_isBoard_13 : decode cX2_isBoard 13 = .ok (.iadd, 1) := by decide +kernel
theorem dX2_isBoard_14 : decode cX2_isBoard 14 = .ok (.if_icmp .ne 18, 3) := by decide +kernel
theorem dX2_isBoard_17 : decode cX2_isBoard 17 = .ok (.aload_n 0, 1) := by decide +kernel
theorem dX2_isBoard_18 : decode cX2_isBoard 18 = .ok (.invokevirtual 56, 3) := by decide +kernel
theorem dX2_isBoard_21 : decode cX2_isBoard 21 = .ok (.aload_n 0, 1) := by decide +kernel
theorem dX2_isBoard_22 : decode cX2_isBoard 22 = .ok (.getfield 15, 3) := by decide +kernel
theorem dX2_isBoard_25 : decode cX2_isBoard 25 = .ok (.if_icmp .ne 7, 3) := by decide +kernel
theorem dX2_isBoard_28 : decode cX2_isBoard 28 = .ok (.iconst 1, 1) := by decide +kernel
theorem dX2_isBoard_29 : decode cX2_isBoard 29 = .ok (.goto 4, 3) := by decide +kernel
theorem dX2_isBoard_32 : decode cX2_isBoard 32 = .ok (.iconst 0, 1) := by decide +kernel
theorem dX2_isBoard_33 : decode cX2_isBoard 33 = .ok (.ireturn, 1) := by decide +kernel
theorem dX2_colourAt_0 : decode cX2_colourAt 0 = .ok (.aload_n 0, 1) := by decide +kernel
theorem dX2_colourAt_1 : decode cX2_colourAt 1 = .ok (.iload_n 1, 1) := by decide +kernel
theorem dX2_colourAt_2 : decode cX2_colourAt 2 = .ok (.invokevirtual 27, 3) := by decide +kernel
theorem dX2_colourAt_5 : decode cX2_colourAt 5 = .ok (.istore_n 2, 1) := by decide +kernel
theorem dX2_colourAt_6 : decode cX2_colourAt 6 = .ok (.iload_n 2, 1) := by decide +kernel
theorem dX2_colourAt_7 : decode cX2_colourAt 7 = .ok (.bipush 46, 2) := by decide +kernel
theorem dX2_colourAt_9 : decode cX2_colourAt 9 = .ok (.if_icmp .ne 7, 3) := by decide +kernel
theorem dX2_colourAt_12 : decode cX2_colourAt 12 = .ok (.iconst (-1), 1) := by decide +kernel
theorem dX2_colourAt_13 : decode cX2_colourAt 13 = .ok (.goto 7, 3) := by decide +kernel
theorem dX2_colourAt_16 : decode cX2_colourAt 16 = .ok (.iload_n 2, 1) := by decide +kernel
theorem dX2_colourAt_17 : decode cX2_colourAt 17 = .ok (.bipush 97, 2) := by decide +kernel
theorem dX2_colourAt_19 : decode cX2_colourAt 19 = .ok (.isub, 1) := by decide +kernel
theorem dX2_colourAt_20 : decode cX2_colourAt 20 = .ok (.ireturn, 1) := by decide +kernel
theorem dX3_init_0 : decode cX3_init 0 = .ok (.aload_n 0, 1) := by decide +kernel
theorem dX3_init_1 : decode cX3_init 1 = .ok (.invokespecial 3, 3) := by decide +kernel
theorem dX3_init_4 : decode cX3_init 4 = .ok (.aload_n 0, 1) := by decide +kernel
theorem dX3_init_5 : decode cX3_init 5 = .ok (.bipush 6, 2) := by decide +kernel
theorem dX3_init_7 : decode cX3_init 7 = .ok (.newarray .int, 2) := by decide +kernel
theorem dX3_init_9 : decode cX3_init 9 = .ok (.putfield 9, 3) := by decide +kernel
theorem dX3_init_12 : decode cX3_init 12 = .ok (.aload_n 0, 1) := by decide +kernel
theorem dX3_init_13 : decode cX3_init 13 = .ok (.bipush 6, 2) := by decide +kernel
theorem dX3_init_15 : decode cX3_init 15 = .ok (.newarray .int, 2) := by decide +kernel
theorem dX3_init_17 : decode cX3_init 17 = .ok (.putfield 15, 3) := by decide +kernel
theorem dX3_init_20 : decode cX3_init 20 = .ok (.aload_n 0, 1) := by decide +kernel
theorem dX3_init_21 : decode cX3_init 21 = .ok (.bipush 6, 2) := by decide +kernel
theorem dX3_init_23 : decode cX3_init 23 = .ok (.newarray .int, 2) := by decide +kernel
theorem dX3_init_25 : decode cX3_init 25 = .ok (.putfield 18, 3) := by decide +kernel
theorem dX3_init_28 : decode cX3_init 28 = .ok (.aload_n 0, 1) := by decide +kernel
theorem dX3_init_29 : decode cX3_init 29 = .ok (.iconst 0, 1) := by decide +kernel
theorem dX3_init_30 : decode cX3_init 30 = .ok (.putfield 21, 3) := by decide +kernel
theorem dX3_init_33 : decode cX3_init 33 = .ok (.return_, 1) := by decide +kernel
theorem dX3_append_0 : decode cX3_append 0 = .ok (.aload_n 0, 1) := by decide +kernel
theorem dX3_append_1 : decode cX3_append 1 = .ok (.getfield 9, 3) := by decide +kernel
theorem dX3_append_4 : decode cX3_append 4 = .ok (.aload_n 0, 1) := by decide +kernel
theorem dX3_append_5 : decode cX3_append 5 = .ok (.getfield 21, 3) := by decide +kernel
theorem dX3_append_8 : decode cX3_append 8 = .ok (.iload_n 1, 1) := by decide +kernel
theorem dX3_append_9 : decode cX3_append 9 = .ok (.invokestatic 25, 3) := by decide +kernel
theorem dX3_append_12 : decode cX3_append 12 = .ok (.aload_n 0, 1) := by decide +kernel
theorem dX3_append_13 : decode cX3_append 13 = .ok (.getfield 15, 3) := by decide +kernel
theorem dX3_append_16 : decode cX3_append 16 = .ok (.aload_n 0, 1) := by decide +kernel
theorem dX3_append_17 : decode cX3_append 17 = .ok (.getfield 21, 3) := by decide +kernel
theorem dX3_append_20 : decode cX3_append 20 = .ok (.iload_n 2, 1) := by decide +kernel
theorem dX3_append_21 : decode cX3_append 21 = .ok (.invokestatic 25, 3) := by decide +kernel
theorem dX3_append_24 : decode cX3_append 24 = .ok (.aload_n 0, 1) := by decide +kernel
theorem dX3_append_25 : decode cX3_append 25 = .ok (.getfield 18, 3) := by decide +kernel
theorem dX3_append_28 : decode cX3_append 28 = .ok (.aload_n 0, 1) := by decide +kernel
theorem dX3_append_29 : decode cX3_append 29 = .ok (.getfield 21, 3) := by decide +kernel
theorem dX3_append_32 : decode cX3_append 32 = .ok (.iload_n 3, 1) := by decide +kernel
theorem dX3_append_33 : decode cX3_append 33 = .ok (.ifCond .eq 7, 3) := by decide +kernel
theorem dX3_append_36 : decode cX3_append 36 = .ok (.iconst 1, 1) := by decide +kernel
theorem dX3_append_37 : decode cX3_append 37 = .ok (.goto 4, 3) := by decide +kernel
theorem dX3_append_40 : decode cX3_append 40 = .ok (.iconst 0, 1) := by decide +kernel
theorem dX3_append_41 : decode cX3_append 41 = .ok (.invokestatic 25, 3) := by decide +kernel
theorem dX3_append_44 : decode cX3_append 44 = .ok (.aload_n 0, 1) := by decide +kernel
