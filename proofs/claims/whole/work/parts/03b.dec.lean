theorem dX3_append_45 : decode cX3_append 45 = .ok (.dup, 1) := by decide +kernel
theorem dX3_append_46 : decode cX3_append 46 = .ok (.getfield 21, 3) := by decide +kernel
theorem dX3_append_49 : decode cX3_append 49 = .ok (.iconst 1, 1) := by decide +kernel
theorem dX3_append_50 : decode cX3_append 50 = .ok (.iadd, 1) := by decide +kernel
theorem dX3_append_51 : decode cX3_append 51 = .ok (.putfield 21, 3) := by decide +kernel
theorem dX3_append_54 : decode cX3_append 54 = .ok (.return_, 1) := by decide +kernel
theorem dX3_copyFrom_0 : decode cX3_copyFrom 0 = .ok (.aload_n 1, 1) := by decide +kernel
theorem dX3_copyFrom_1 : decode cX3_copyFrom 1 = .ok (.getfield 9, 3) := by decide +kernel
theorem dX3_copyFrom_4 : decode cX3_copyFrom 4 = .ok (.aload_n 0, 1) := by decide +kernel
theorem dX3_copyFrom_5 : decode cX3_copyFrom 5 = .ok (.getfield 9, 3) := by decide +kernel
theorem dX3_copyFrom_8 : decode cX3_copyFrom 8 = .ok (.invokestatic 29, 3) := by decide +kernel
theorem dX3_copyFrom_11 : decode cX3_copyFrom 11 = .ok (.aload_n 1, 1) := by decide +kernel
theorem dX3_copyFrom_12 : decode cX3_copyFrom 12 = .ok (.getfield 15, 3) := by decide +kernel
theorem dX3_copyFrom_15 : decode cX3_copyFrom 15 = .ok (.aload_n 0, 1) := by decide +kernel
theorem dX3_copyFrom_16 : decode cX3_copyFrom 16 = .ok (.getfield 15, 3) := by decide +kernel
theorem dX3_copyFrom_19 : decode cX3_copyFrom 19 = .ok (.invokestatic 29, 3) := by decide +kernel
theorem dX3_copyFrom_22 : decode cX3_copyFrom 22 = .ok (.aload_n 1, 1) := by decide +kernel
theorem dX3_copyFrom_23 : decode cX3_copyFrom 23 = .ok (.getfield 18, 3) := by decide +kernel
theorem dX3_copyFrom_26 : decode cX3_copyFrom 26 = .ok (.aload_n 0, 1) := by decide +kernel
theorem dX3_copyFrom_27 : decode cX3_copyFrom 27 = .ok (.getfield 18, 3) := by decide +kernel
theorem dX3_copyFrom_30 : decode cX3_copyFrom 30 = .ok (.invokestatic 29, 3) := by decide +kernel
theorem dX3_copyFrom_33 : decode cX3_copyFrom 33 = .ok (.aload_n 0, 1) := by decide +kernel
theorem dX3_copyFrom_34 : decode cX3_copyFrom 34 = .ok (.aload_n 1, 1) := by decide +kernel
theorem dX3_copyFrom_35 : decode cX3_copyFrom 35 = .ok (.getfield 21, 3) := by decide +kernel
theorem dX3_copyFrom_38 : decode cX3_copyFrom 38 = .ok (.putfield 21, 3) := by decide +kernel
theorem dX3_copyFrom_41 : decode cX3_copyFrom 41 = .ok (.return_, 1) := by decide +kernel
theorem dX3_allowKind_0 : decode cX3_allowKind 0 = .ok (.iconst 0, 1) := by decide +kernel
theorem dX3_allowKind_1 : decode cX3_allowKind 1 = .ok (.istore_n 3, 1) := by decide +kernel
theorem dX3_allowKind_2 : decode cX3_allowKind 2 = .ok (.iload_n 3, 1) := by decide +kernel
theorem dX3_allowKind_3 : decode cX3_allowKind 3 = .ok (.aload_n 0, 1) := by decide +kernel
theorem dX3_allowKind_4 : decode cX3_allowKind 4 = .ok (.getfield 21, 3) := by decide +kernel
theorem dX3_allowKind_7 : decode cX3_allowKind 7 = .ok (.if_icmp .ge 59, 3) := by decide +kernel
theorem dX3_allowKind_10 : decode cX3_allowKind 10 = .ok (.aload_n 0, 1) := by decide +kernel
theorem dX3_allowKind_11 : decode cX3_allowKind 11 = .ok (.getfield 18, 3) := by decide +kernel
theorem dX3_allowKind_14 : decode cX3_allowKind 14 = .ok (.iload_n 3, 1) := by decide +kernel
theorem dX3_allowKind_15 : decode cX3_allowKind 15 = .ok (.invokestatic 33, 3) := by decide +kernel
theorem dX3_allowKind_18 : decode cX3_allowKind 18 = .ok (.iconst 1, 1) := by decide +kernel
theorem dX3_allowKind_19 : decode cX3_allowKind 19 = .ok (.if_icmp .ne 7, 3) := by decide +kernel
theorem dX3_allowKind_22 : decode cX3_allowKind 22 = .ok (.iconst 1, 1) := by decide +kernel
theorem dX3_allowKind_23 : decode cX3_allowKind 23 = .ok (.goto 4, 3) := by decide +kernel
theorem dX3_allowKind_26 : decode cX3_allowKind 26 = .ok (.iconst 0, 1) := by decide +kernel
theorem dX3_allowKind_27 : decode cX3_allowKind 27 = .ok (.istore 4, 2) := by decide +kernel
theorem dX3_allowKind_29 : decode cX3_allowKind 29 = .ok (.aload_n 0, 1) := by decide +kernel
theorem dX3_allowKind_30 : decode cX3_allowKind 30 = .ok (.getfield 9, 3) := by decide +kernel
theorem dX3_allowKind_33 : decode cX3_allowKind 33 = .ok (.iload_n 3, 1) := by decide +kernel
theorem dX3_allowKind_34 : decode cX3_allowKind 34 = .ok (.invokestatic 33, 3) := by decide +kernel
theorem dX3_allowKind_37 : decode cX3_allowKind 37 = .ok (.iload_n 1, 1) := by decide +kernel
theorem dX3_allowKind_38 : decode cX3_allowKind 38 = .ok (.if_icmp .ne 22, 3) := by decide +kernel
theorem dX3_allowKind_41 : decode cX3_allowKind 41 = .ok (.iload_n 2, 1) := by decide +kernel
theorem dX3_allowKind_42 : decode cX3_allowKind 42 = .ok (.aload_n 0, 1) := by decide +kernel
theorem dX3_allowKind_43 : decode cX3_allowKind 43 = .ok (.getfield 15, 3) := by decide +kernel
theorem dX3_allowKind_46 : decode cX3_allowKind 46 = .ok (.iload_n 3, 1) := by decide +kernel
theorem dX3_allowKind_47 : decode cX3_allowKind 47 = .ok (.invokestatic 33, 3) := by decide +kernel
theorem dX3_allowKind_50 : decode cX3_allowKind 50 = .ok (.invokestatic 37, 3) := by decide +kernel
theorem dX3_allowKind_53 : decode cX3_allowKind 53 = .ok (.iload 4, 2) := by decide +kernel
theorem dX3_allowKind_55 : decode cX3_allowKind 55 = .ok (.if_icmp .eq 5, 3) := by decide +kernel
theorem dX3_allowKind_58 : decode cX3_allowKind 58 = .ok (.iconst 0, 1) := by decide +kernel
theorem dX3_allowKind_59 : decode cX3_allowKind 59 = .ok (.ireturn, 1) := by decide +kernel
theorem dX3_allowKind_60 : decode cX3_allowKind 60 = .ok (.iinc 3 1, 3) := by decide +kernel
theorem dX3_allowKind_63 : decode cX3_allowKind 63 = .ok (.goto (-61), 3) := by decide +kernel
theorem dX3_allowKind_66 : decode cX3_allowKind 66 = .ok (.iconst 1, 1) := by decide +kernel
theorem dX3_allowKind_67 : decode cX3_allowKind 67 = .ok (.ireturn, 1) := by decide +kernel
theorem dX3_sorts_0 : decode cX3_sorts 0 = .ok (.iconst 0, 1) := by decide +kernel
theorem dX3_sorts_1 : decode cX3_sorts 1 = .ok (.istore_n 2, 1) := by decide +kernel
theorem dX3_sorts_2 : decode cX3_sorts 2 = .ok (.iconst 0, 1) := by decide +kernel
theorem dX3_sorts_3 : decode cX3_sorts 3 = .ok (.istore_n 3, 1) := by decide +kernel
theorem dX3_sorts_4 : decode cX3_sorts 4 = .ok (.iload_n 3, 1) := by decide +kernel
theorem dX3_sorts_5 : decode cX3_sorts 5 = .ok (.iconst 5, 1) := by decide +kernel
theorem dX3_sorts_6 : decode cX3_sorts 6 = .ok (.if_icmp .ge 28, 3) := by decide +kernel
theorem dX3_sorts_9 : decode cX3_sorts 9 = .ok (.iload_n 2, 1) := by decide +kernel
theorem dX3_sorts_10 : decode cX3_sorts 10 = .ok (.aload_n 0, 1) := by decide +kernel
theorem dX3_sorts_11 : decode cX3_sorts 11 = .ok (.iload_n 1, 1) := by decide +kernel
theorem dX3_sorts_12 : decode cX3_sorts 12 = .ok (.iload_n 3, 1) := by decide +kernel
theorem dX3_sorts_13 : decode cX3_sorts 13 = .ok (.invokevirtual 41, 3) := by decide +kernel
theorem dX3_sorts_16 : decode cX3_sorts 16 = .ok (.ifCond .eq 9, 3) := by decide +kernel
theorem dX3_sorts_19 : decode cX3_sorts 19 = .ok (.iconst 1, 1) := by decide +kernel
theorem dX3_sorts_20 : decode cX3_sorts 20 = .ok (.iload_n 3, 1) := by decide +kernel
theorem dX3_sorts_21 : decode cX3_sorts 21 = .ok (.ishl, 1) := by decide +kernel
theorem dX3_sorts_22 : decode cX3_sorts 22 = .ok (.goto 4, 3) := by decide +kernel
theorem dX3_sorts_25 : decode cX3_sorts 25 = .ok (.iconst 0, 1) := by decide +kernel
theorem dX3_sorts_26 : decode cX3_sorts 26 = .ok (.ior, 1) := by decide +kernel
theorem dX3_sorts_27 : decode cX3_sorts 27 = .ok (.istore_n 2, 1) := by decide +kernel
theorem dX3_sorts_28 : decode cX3_sorts 28 = .ok (.iinc 3 1, 3) := by decide +kernel
theorem dX3_sorts_31 : decode cX3_sorts 31 = .ok (.goto (-27), 3) := by decide +kernel
theorem dX3_sorts_34 : decode cX3_sorts 34 = .ok (.iload_n 2, 1) := by decide +kernel
theorem dX3_sorts_35 : decode cX3_sorts 35 = .ok (.ireturn, 1) := by decide +kernel
theorem dX3_bestRoleToAsk_0 : decode cX3_bestRoleToAsk 0 = .ok (.aload_n 0, 1) := by decide +kernel
theorem dX3_bestRoleToAsk_1 : decode cX3_bestRoleToAsk 1 = .ok (.iload_n 1, 1) := by decide +kernel
theorem dX3_bestRoleToAsk_2 : decode cX3_bestRoleToAsk 2 = .ok (.invokevirtual 44, 3) := by decide +kernel
theorem dX3_bestRoleToAsk_5 : decode cX3_bestRoleToAsk 5 = .ok (.istore_n 2, 1) := by decide +kernel
theorem dX3_bestRoleToAsk_6 : decode cX3_bestRoleToAsk 6 = .ok (.iconst (-1), 1) := by decide +kernel
theorem dX3_bestRoleToAsk_7 : decode cX3_bestRoleToAsk 7 = .ok (.istore_n 3, 1) := by decide +kernel
theorem dX3_bestRoleToAsk_8 : decode cX3_bestRoleToAsk 8 = .ok (.iload_n 2, 1) := by decide +kernel
theorem dX3_bestRoleToAsk_9 : decode cX3_bestRoleToAsk 9 = .ok (.ifCond .ne 7, 3) := by decide +kernel
theorem dX3_bestRoleToAsk_12 : decode cX3_bestRoleToAsk 12 = .ok (.iconst 0, 1) := by decide +kernel
theorem dX3_bestRoleToAsk_13 : decode cX3_bestRoleToAsk 13 = .ok (.goto 5, 3) := by decide +kernel
theorem dX3_bestRoleToAsk_16 : decode cX3_bestRoleToAsk 16 = .ok (.bipush 6, 2) := by decide +kernel
theorem dX3_bestRoleToAsk_18 : decode cX3_bestRoleToAsk 18 = .ok (.istore 4, 2) := by decide +kernel
theorem dX3_bestRoleToAsk_20 : decode cX3_bestRoleToAsk 20 = .ok (.iconst 0, 1) := by decide +kernel
theorem dX3_bestRoleToAsk_21 : decode cX3_bestRoleToAsk 21 = .ok (.istore 5, 2) := by decide +kernel
theorem dX3_bestRoleToAsk_23 : decode cX3_bestRoleToAsk 23 = .ok (.iload 5, 2) := by decide +kernel
theorem dX3_bestRoleToAsk_25 : decode cX3_bestRoleToAsk 25 = .ok (.iconst 3, 1) := by decide +kernel
theorem dX3_bestRoleToAsk_26 : decode cX3_bestRoleToAsk 26 = .ok (.if_icmp .ge 32, 3) := by decide +kernel
theorem dX3_bestRoleToAsk_29 : decode cX3_bestRoleToAsk 29 = .ok (.aload_n 0, 1) := by decide +kernel
theorem dX3_bestRoleToAsk_30 : decode cX3_bestRoleToAsk 30 = .ok (.iload_n 2, 1) := by decide +kernel
theorem dX3_bestRoleToAsk_31 : decode cX3_bestRoleToAsk 31 = .ok (.iload 5, 2) := by decide +kernel
theorem dX3_bestRoleToAsk_33 : decode cX3_bestRoleToAsk 33 = .ok (.invokevirtual 48, 3) := by decide +kernel
theorem dX3_bestRoleToAsk_36 : decode cX3_bestRoleToAsk 36 = .ok (.istore 6, 2) := by decide +kernel
theorem dX3_bestRoleToAsk_38 : decode cX3_bestRoleToAsk 38 = .ok (.iload 6, 2) := by decide +kernel
theorem dX3_bestRoleToAsk_40 : decode cX3_bestRoleToAsk 40 = .ok (.iload 4, 2) := by decide +kernel
theorem dX3_bestRoleToAsk_42 : decode cX3_bestRoleToAsk 42 = .ok (.if_icmp .ge 10, 3) := by decide +kernel
theorem dX3_bestRoleToAsk_45 : decode cX3_bestRoleToAsk 45 = .ok (.iload 6, 2) := by decide +kernel
theorem dX3_bestRoleToAsk_47 : decode cX3_bestRoleToAsk 47 = .ok (.istore 4, 2) := by decide +kernel
theorem dX3_bestRoleToAsk_49 : decode cX3_bestRoleToAsk 49 = .ok (.iload 5, 2) := by decide +kernel
theorem dX3_bestRoleToAsk_51 : decode cX3_bestRoleToAsk 51 = .ok (.istore_n 3, 1) := by decide +kernel
theorem dX3_bestRoleToAsk_52 : decode cX3_bestRoleToAsk 52 = .ok (.iinc 5 1, 3) := by decide +kernel
theorem dX3_bestRoleToAsk_55 : decode cX3_bestRoleToAsk 55 = .ok (.goto (-32), 3) := by decide +kernel
theorem dX3_bestRoleToAsk_58 : decode cX3_bestRoleToAsk 58 = .ok (.iload_n 3, 1) := by decide +kernel
theorem dX3_bestRoleToAsk_59 : decode cX3_bestRoleToAsk 59 = .ok (.ireturn, 1) := by decide +kernel
theorem dX3_leftAtWorst_0 : decode cX3_leftAtWorst 0 = .ok (.iconst 0, 1) := by decide +kernel
theorem dX3_leftAtWorst_1 : decode cX3_leftAtWorst 1 = .ok (.istore_n 3, 1) := by decide +kernel
theorem dX3_leftAtWorst_2 : decode cX3_leftAtWorst 2 = .ok (.iconst 0, 1) := by decide +kernel
theorem dX3_leftAtWorst_3 : decode cX3_leftAtWorst 3 = .ok (.istore 4, 2) := by decide +kernel
theorem dX3_leftAtWorst_5 : decode cX3_leftAtWorst 5 = .ok (.iconst 0, 1) := by decide +kernel
theorem dX3_leftAtWorst_6 : decode cX3_leftAtWorst 6 = .ok (.istore 5, 2) := by decide +kernel
theorem dX3_leftAtWorst_8 : decode cX3_leftAtWorst 8 = .ok (.iload 5, 2) := by decide +kernel
theorem dX3_leftAtWorst_10 : decode cX3_leftAtWorst 10 = .ok (.iconst 5, 1) := by decide +kernel
theorem dX3_leftAtWorst_11 : decode cX3_leftAtWorst 11 = .ok (.if_icmp .ge 41, 3) := by decide +kernel
theorem dX3_leftAtWorst_14 : decode cX3_leftAtWorst 14 = .ok (.iload_n 1, 1) := by decide +kernel
theorem dX3_leftAtWorst_15 : decode cX3_leftAtWorst 15 = .ok (.iload 5, 2) := by decide +kernel
theorem dX3_leftAtWorst_17 : decode cX3_leftAtWorst 17 = .ok (.ishr, 1) := by decide +kernel
theorem dX3_leftAtWorst_18 : decode cX3_leftAtWorst 18 = .ok (.iconst 1, 1) := by decide +kernel
theorem dX3_leftAtWorst_19 : decode cX3_leftAtWorst 19 = .ok (.iand, 1) := by decide +kernel
theorem dX3_leftAtWorst_20 : decode cX3_leftAtWorst 20 = .ok (.istore 6, 2) := by decide +kernel
theorem dX3_leftAtWorst_22 : decode cX3_leftAtWorst 22 = .ok (.iload 5, 2) := by decide +kernel
theorem dX3_leftAtWorst_24 : decode cX3_leftAtWorst 24 = .ok (.iload_n 2, 1) := by decide +kernel
theorem dX3_leftAtWorst_25 : decode cX3_leftAtWorst 25 = .ok (.invokestatic 37, 3) := by decide +kernel
theorem dX3_leftAtWorst_28 : decode cX3_leftAtWorst 28 = .ok (.ifCond .eq 11, 3) := by decide +kernel
theorem dX3_leftAtWorst_31 : decode cX3_leftAtWorst 31 = .ok (.iload_n 3, 1) := by decide +kernel
theorem dX3_leftAtWorst_32 : decode cX3_leftAtWorst 32 = .ok (.iload 6, 2) := by decide +kernel
theorem dX3_leftAtWorst_34 : decode cX3_leftAtWorst 34 = .ok (.iadd, 1) := by decide +kernel
theorem dX3_leftAtWorst_35 : decode cX3_leftAtWorst 35 = .ok (.istore_n 3, 1) := by decide +kernel
theorem dX3_leftAtWorst_36 : decode cX3_leftAtWorst 36 = .ok (.goto 10, 3) := by decide +kernel
theorem dX3_leftAtWorst_39 : decode cX3_leftAtWorst 39 = .ok (.iload 4, 2) := by decide +kernel
theorem dX3_leftAtWorst_41 : decode cX3_leftAtWorst 41 = .ok (.iload 6, 2) := by decide +kernel
theorem dX3_leftAtWorst_43 : decode cX3_leftAtWorst 43 = .ok (.iadd, 1) := by decide +kernel
theorem dX3_leftAtWorst_44 : decode cX3_leftAtWorst 44 = .ok (.istore 4, 2) := by decide +kernel
theorem dX3_leftAtWorst_46 : decode cX3_leftAtWorst 46 = .ok (.iinc 5 1, 3) := by decide +kernel
theorem dX3_leftAtWorst_49 : decode cX3_leftAtWorst 49 = .ok (.goto (-41), 3) := by decide +kernel
theorem dX3_leftAtWorst_52 : decode cX3_leftAtWorst 52 = .ok (.iload_n 3, 1) := by decide +kernel
theorem dX3_leftAtWorst_53 : decode cX3_leftAtWorst 53 = .ok (.iload 4, 2) := by decide +kernel
theorem dX3_leftAtWorst_55 : decode cX3_leftAtWorst 55 = .ok (.invokestatic 52, 3) := by decide +kernel
theorem dX3_leftAtWorst_58 : decode cX3_leftAtWorst 58 = .ok (.ireturn, 1) := by decide +kernel
theorem dX4_init_0 : decode cX4_init 0 = .ok (.aload_n 0, 1) := by decide +kernel
theorem dX4_init_1 : decode cX4_init 1 = .ok (.invokespecial 1, 3) := by decide +kernel
theorem dX4_init_4 : decode cX4_init 4 = .ok (.aload_n 0, 1) := by decide +kernel
theorem dX4_init_5 : decode cX4_init 5 = .ok (.new 7, 3) := by decide +kernel
theorem dX4_init_8 : decode cX4_init 8 = .ok (.dup, 1) := by decide +kernel
theorem dX4_init_9 : decode cX4_init 9 = .ok (.invokespecial 9, 3) := by decide +kernel
theorem dX4_init_12 : decode cX4_init 12 = .ok (.putfield 10, 3) := by decide +kernel
theorem dX4_init_15 : decode cX4_init 15 = .ok (.aload_n 0, 1) := by decide +kernel
theorem dX4_init_16 : decode cX4_init 16 = .ok (.new 16, 3) := by decide +kernel
theorem dX4_init_19 : decode cX4_init 19 = .ok (.dup, 1) := by decide +kernel
theorem dX4_init_20 : decode cX4_init 20 = .ok (.invokespecial 18, 3) := by decide +kernel
theorem dX4_init_23 : decode cX4_init 23 = .ok (.putfield 19, 3) := by decide +kernel
theorem dX4_init_26 : decode cX4_init 26 = .ok (.aload_n 0, 1) := by decide +kernel
theorem dX4_init_27 : decode cX4_init 27 = .ok (.new 23, 3) := by decide +kernel
theorem dX4_init_30 : decode cX4_init 30 = .ok (.dup, 1) := by decide +kernel
theorem dX4_init_31 : decode cX4_init 31 = .ok (.invokespecial 25, 3) := by decide +kernel
theorem dX4_init_34 : decode cX4_init 34 = .ok (.putfield 26, 3) := by decide +kernel
theorem dX4_init_37 : decode cX4_init 37 = .ok (.aload_n 0, 1) := by decide +kernel
theorem dX4_init_38 : decode cX4_init 38 = .ok (.new 30, 3) := by decide +kernel
theorem dX4_init_41 : decode cX4_init 41 = .ok (.dup, 1) := by decide +kernel
theorem dX4_init_42 : decode cX4_init 42 = .ok (.aload_n 0, 1) := by decide +kernel
theorem dX4_init_43 : decode cX4_init 43 = .ok (.getfield 19, 3) := by decide +kernel
theorem dX4_init_46 : decode cX4_init 46 = .ok (.invokespecial 32, 3) := by decide +kernel
theorem dX4_init_49 : decode cX4_init 49 = .ok (.putfield 35, 3) := by decide +kernel
theorem dX4_init_52 : decode cX4_init 52 = .ok (.aload_n 0, 1) := by decide +kernel
theorem dX4_init_53 : decode cX4_init 53 = .ok (.new 16, 3) := by decide +kernel
theorem dX4_init_56 : decode cX4_init 56 = .ok (.dup, 1) := by decide +kernel
theorem dX4_init_57 : decode cX4_init 57 = .ok (.invokespecial 18, 3) := by decide +kernel
theorem dX4_init_60 : decode cX4_init 60 = .ok (.putfield 39, 3) := by decide +kernel
theorem dX4_init_63 : decode cX4_init 63 = .ok (.aload_n 0, 1) := by decide +kernel
theorem dX4_init_64 : decode cX4_init 64 = .ok (.new 23, 3) := by decide +kernel
theorem dX4_init_67 : decode cX4_init 67 = .ok (.dup, 1) := by decide +kernel
theorem dX4_init_68 : decode cX4_init 68 = .ok (.invokespecial 25, 3) := by decide +kernel
theorem dX4_init_71 : decode cX4_init 71 = .ok (.putfield 42, 3) := by decide +kernel
theorem dX4_init_74 : decode cX4_init 74 = .ok (.aload_n 0, 1) := by decide +kernel
theorem dX4_init_75 : decode cX4_init 75 = .ok (.iconst 0, 1) := by decide +kernel
theorem dX4_init_76 : decode cX4_init 76 = .ok (.putfield 45, 3) := by decide +kernel
theorem dX4_init_79 : decode cX4_init 79 = .ok (.aload_n 0, 1) := by decide +kernel
theorem dX4_init_80 : decode cX4_init 80 = .ok (.iconst 0, 1) := by decide +kernel
theorem dX4_init_81 : decode cX4_init 81 = .ok (.putfield 49, 3) := by decide +kernel
theorem dX4_init_84 : decode cX4_init 84 = .ok (.return_, 1) := by decide +kernel
theorem dX4_letter_0 : decode cX4_letter 0 = .ok (.iload_n 1, 1) := by decide +kernel
theorem dX4_letter_1 : decode cX4_letter 1 = .ok (.bipush 32, 2) := by decide +kernel
theorem dX4_letter_3 : decode cX4_letter 3 = .ok (.if_icmp .lt 9, 3) := by decide +kernel
theorem dX4_letter_6 : decode cX4_letter 6 = .ok (.iload_n 1, 1) := by decide +kernel
theorem dX4_letter_7 : decode cX4_letter 7 = .ok (.bipush 126, 2) := by decide +kernel
theorem dX4_letter_9 : decode cX4_letter 9 = .ok (.if_icmp .le 6, 3) := by decide +kernel
theorem dX4_letter_12 : decode cX4_letter 12 = .ok (.bipush (-102), 2) := by decide +kernel
theorem dX4_letter_14 : decode cX4_letter 14 = .ok (.ireturn, 1) := by decide +kernel
theorem dX4_letter_15 : decode cX4_letter 15 = .ok (.aload_n 0, 1) := by decide +kernel
theorem dX4_letter_16 : decode cX4_letter 16 = .ok (.getfield 10, 3) := by decide +kernel
theorem dX4_letter_19 : decode cX4_letter 19 = .ok (.getfield 53, 3) := by decide +kernel
theorem dX4_letter_22 : decode cX4_letter 22 = .ok (.bipush 26, 2) := by decide +kernel
theorem dX4_letter_24 : decode cX4_letter 24 = .ok (.if_icmp .lt 6, 3) := by decide +kernel
theorem dX4_letter_27 : decode cX4_letter 27 = .ok (.bipush (-104), 2) := by decide +kernel
theorem dX4_letter_29 : decode cX4_letter 29 = .ok (.ireturn, 1) := by decide +kernel
theorem dX4_letter_30 : decode cX4_letter 30 = .ok (.aload_n 0, 1) := by decide +kernel
theorem dX4_letter_31 : decode cX4_letter 31 = .ok (.getfield 10, 3) := by decide +kernel
theorem dX4_letter_34 : decode cX4_letter 34 = .ok (.iload_n 1, 1) := by decide +kernel
theorem dX4_letter_35 : decode cX4_letter 35 = .ok (.invokevirtual 56, 3) := by decide +kernel
theorem dX4_letter_38 : decode cX4_letter 38 = .ok (.aload_n 0, 1) := by decide +kernel
theorem dX4_letter_39 : decode cX4_letter 39 = .ok (.getfield 10, 3) := by decide +kernel
theorem dX4_letter_42 : decode cX4_letter 42 = .ok (.getfield 53, 3) := by decide +kernel
theorem dX4_letter_45 : decode cX4_letter 45 = .ok (.ireturn, 1) := by decide +kernel
theorem dX4_blank_0 : decode cX4_blank 0 = .ok (.aload_n 0, 1) := by decide +kernel
theorem dX4_blank_1 : decode cX4_blank 1 = .ok (.getfield 10, 3) := by decide +kernel
theorem dX4_blank_4 : decode cX4_blank 4 = .ok (.getfield 53, 3) := by decide +kernel
theorem dX4_blank_7 : decode cX4_blank 7 = .ok (.istore_n 1, 1) := by decide +kernel
theorem dX4_blank_8 : decode cX4_blank 8 = .ok (.aload_n 0, 1) := by decide +kernel
theorem dX4_blank_9 : decode cX4_blank 9 = .ok (.getfield 10, 3) := by decide +kernel
theorem dX4_blank_12 : decode cX4_blank 12 = .ok (.iconst 0, 1) := by decide +kernel
theorem dX4_blank_13 : decode cX4_blank 13 = .ok (.putfield 53, 3) := by decide +kernel
theorem dX4_blank_16 : decode cX4_blank 16 = .ok (.iload_n 1, 1) := by decide +kernel
theorem dX4_blank_17 : decode cX4_blank 17 = .ok (.ireturn, 1) := by decide +kernel
theorem dX4_fault_0 : decode cX4_fault 0 = .ok (.aload_n 0, 1) := by decide +kernel
theorem dX4_fault_1 : decode cX4_fault 1 = .ok (.getfield 10, 3) := by decide +kernel
theorem dX4_fault_4 : decode cX4_fault 4 = .ok (.invokevirtual 60, 3) := by decide +kernel
theorem dX4_fault_7 : decode cX4_fault 7 = .ok (.ireturn, 1) := by decide +kernel
theorem dX4_board_0 : decode cX4_board 0 = .ok (.aload_n 0, 1) := by decide +kernel
theorem dX4_board_1 : decode cX4_board 1 = .ok (.getfield 10, 3) := by decide +kernel
theorem dX4_board_4 : decode cX4_board 4 = .ok (.invokevirtual 64, 3) := by decide +kernel
theorem dX4_board_7 : decode cX4_board 7 = .ok (.ifCond .ne 6, 3) := by decide +kernel
theorem dX4_board_10 : decode cX4_board 10 = .ok (.bipush (-103), 2) := by decide +kernel
theorem dX4_board_12 : decode cX4_board 12 = .ok (.ireturn, 1) := by decide +kernel
theorem dX4_board_13 : decode cX4_board 13 = .ok (.aload_n 0, 1) := by decide +kernel
theorem dX4_board_14 : decode cX4_board 14 = .ok (.getfield 19, 3) := by decide +kernel
theorem dX4_board_17 : decode cX4_board 17 = .ok (.aload_n 0, 1) := by decide +kernel
theorem dX4_board_18 : decode cX4_board 18 = .ok (.getfield 10, 3) := by decide +kernel
theorem dX4_board_21 : decode cX4_board 21 = .ok (.invokevirtual 68, 3) := by decide +kernel
theorem dX4_board_24 : decode cX4_board 24 = .ok (.aload_n 0, 1) := by decide +kernel
theorem dX4_board_25 : decode cX4_board 25 = .ok (.getfield 10, 3) := by decide +kernel
theorem dX4_board_28 : decode cX4_board 28 = .ok (.iconst 0, 1) := by decide +kernel
theorem dX4_board_29 : decode cX4_board 29 = .ok (.putfield 53, 3) := by decide +kernel
theorem dX4_board_32 : decode cX4_board 32 = .ok (.aload_n 0, 1) := by decide +kernel
theorem dX4_board_33 : decode cX4_board 33 = .ok (.getfield 26, 3) := by decide +kernel
theorem dX4_board_36 : decode cX4_board 36 = .ok (.iconst 0, 1) := by decide +kernel
theorem dX4_board_37 : decode cX4_board 37 = .ok (.putfield 72, 3) := by decide +kernel
theorem dX4_board_40 : decode cX4_board 40 = .ok (.aload_n 0, 1) := by decide +kernel
theorem dX4_board_41 : decode cX4_board 41 = .ok (.getfield 35, 3) := by decide +kernel
theorem dX4_board_44 : decode cX4_board 44 = .ok (.iconst 1, 1) := by decide +kernel
theorem dX4_board_45 : decode cX4_board 45 = .ok (.putfield 75, 3) := by decide +kernel
theorem dX4_board_48 : decode cX4_board 48 = .ok (.aload_n 0, 1) := by decide +kernel
theorem dX4_board_49 : decode cX4_board 49 = .ok (.iconst 0, 1) := by decide +kernel
theorem dX4_board_50 : decode cX4_board 50 = .ok (.putfield 45, 3) := by decide +kernel
theorem dX4_board_53 : decode cX4_board 53 = .ok (.aload_n 0, 1) := by decide +kernel
theorem dX4_board_54 : decode cX4_board 54 = .ok (.dup, 1) := by decide +kernel
theorem dX4_board_55 : decode cX4_board 55 = .ok (.getfield 49, 3) := by decide +kernel
theorem dX4_board_58 : decode cX4_board 58 = .ok (.iconst 1, 1) := by decide +kernel
theorem dX4_board_59 : decode cX4_board 59 = .ok (.iadd, 1) := by decide +kernel
theorem dX4_board_60 : decode cX4_board 60 = .ok (.putfield 49, 3) := by decide +kernel
theorem dX4_board_63 : decode cX4_board 63 = .ok (.aload_n 0, 1) := by decide +kernel
theorem dX4_board_64 : decode cX4_board 64 = .ok (.getfield 19, 3) := by decide +kernel
theorem dX4_board_67 : decode cX4_board 67 = .ok (.getfield 78, 3) := by decide +kernel
theorem dX4_board_70 : decode cX4_board 70 = .ok (.ireturn, 1) := by decide +kernel
theorem dX4_number_0 : decode cX4_number 0 = .ok (.aload_n 0, 1) := by decide +kernel
theorem dX4_number_1 : decode cX4_number 1 = .ok (.getfield 19, 3) := by decide +kernel
theorem dX4_number_4 : decode cX4_number 4 = .ok (.iload_n 1, 1) := by decide +kernel
theorem dX4_number_5 : decode cX4_number 5 = .ok (.invokevirtual 81, 3) := by decide +kernel
theorem dX4_number_8 : decode cX4_number 8 = .ok (.ifCond .ne 6, 3) := by decide +kernel
theorem dX4_number_11 : decode cX4_number 11 = .ok (.bipush (-101), 2) := by decide +kernel
theorem dX4_number_13 : decode cX4_number 13 = .ok (.ireturn, 1) := by decide +kernel
theorem dX4_number_14 : decode cX4_number 14 = .ok (.iload_n 2, 1) := by decide +kernel
theorem dX4_number_15 : decode cX4_number 15 = .ok (.tableswitch 111 0 5 #[37, 49, 61, 77, 86, 95], 37) := by decide +kernel
theorem dX4_number_52 : decode cX4_number 52 = .ok (.aload_n 0, 1) := by decide +kernel
theorem dX4_number_53 : decode cX4_number 53 = .ok (.getfield 19, 3) := by decide +kernel
theorem dX4_number_56 : decode cX4_number 56 = .ok (.getfield 85, 3) := by decide +kernel
theorem dX4_number_59 : decode cX4_number 59 = .ok (.iload_n 1, 1) := by decide +kernel
theorem dX4_number_60 : decode cX4_number 60 = .ok (.invokestatic 89, 3) := by decide +kernel
theorem dX4_number_63 : decode cX4_number 63 = .ok (.ireturn, 1) := by decide +kernel
theorem dX4_number_64 : decode cX4_number 64 = .ok (.aload_n 0, 1) := by decide +kernel
theorem dX4_number_65 : decode cX4_number 65 = .ok (.getfield 19, 3) := by decide +kernel
theorem dX4_number_68 : decode cX4_number 68 = .ok (.getfield 93, 3) := by decide +kernel
theorem dX4_number_71 : decode cX4_number 71 = .ok (.iload_n 1, 1) := by decide +kernel
theorem dX4_number_72 : decode cX4_number 72 = .ok (.invokestatic 89, 3) := by decide +kernel
theorem dX4_number_75 : decode cX4_number 75 = .ok (.ireturn, 1) := by decide +kernel
theorem dX4_number_76 : decode cX4_number 76 = .ok (.aload_n 0, 1) := by decide +kernel
theorem dX4_number_77 : decode cX4_number 77 = .ok (.getfield 35, 3) := by decide +kernel
theorem dX4_number_80 : decode cX4_number 80 = .ok (.invokevirtual 96, 3) := by decide +kernel
theorem dX4_number_83 : decode cX4_number 83 = .ok (.aload_n 0, 1) := by decide +kernel
theorem dX4_number_84 : decode cX4_number 84 = .ok (.getfield 35, 3) := by decide +kernel
theorem dX4_number_87 : decode cX4_number 87 = .ok (.iload_n 1, 1) := by decide +kernel
theorem dX4_number_88 : decode cX4_number 88 = .ok (.invokevirtual 99, 3) := by decide +kernel
theorem dX4_number_91 : decode cX4_number 91 = .ok (.ireturn, 1) := by decide +kernel
theorem dX4_number_92 : decode cX4_number 92 = .ok (.aload_n 0, 1) := by decide +kernel
theorem dX4_number_93 : decode cX4_number 93 = .ok (.getfield 26, 3) := by decide +kernel
theorem dX4_number_96 : decode cX4_number 96 = .ok (.iload_n 1, 1) := by decide +kernel
theorem dX4_number_97 : decode cX4_number 97 = .ok (.invokevirtual 103, 3) := by decide +kernel
theorem dX4_number_100 : decode cX4_number 100 = .ok (.ireturn, 1) := by decide +kernel
theorem dX4_number_101 : decode cX4_number 101 = .ok (.aload_n 0, 1) := by decide +kernel
theorem dX4_number_102 : decode cX4_number 102 = .ok (.getfield 26, 3) := by decide +kernel
theorem dX4_number_105 : decode cX4_number 105 = .ok (.iload_n 1, 1) := by decide +kernel
theorem dX4_number_106 : decode cX4_number 106 = .ok (.invokevirtual 106, 3) := by decide +kernel
theorem dX4_number_109 : decode cX4_number 109 = .ok (.ireturn, 1) := by decide +kernel
theorem dX4_number_110 : decode cX4_number 110 = .ok (.aload_n 0, 1) := by decide +kernel
theorem dX4_number_111 : decode cX4_number 111 = .ok (.getfield 19, 3) := by decide +kernel
theorem dX4_number_114 : decode cX4_number 114 = .ok (.aload_n 0, 1) := by decide +kernel
theorem dX4_number_115 : decode cX4_number 115 = .ok (.getfield 19, 3) := by decide +kernel
theorem dX4_number_118 : decode cX4_number 118 = .ok (.getfield 93, 3) := by decide +kernel
theorem dX4_number_121 : decode cX4_number 121 = .ok (.iload_n 1, 1) := by decide +kernel
theorem dX4_number_122 : decode cX4_number 122 = .ok (.invokevirtual 109, 3) := by decide +kernel
theorem dX4_number_125 : decode cX4_number 125 = .ok (.ireturn, 1) := by decide +kernel
theorem dX4_number_126 : decode cX4_number 126 = .ok (.bipush (-102), 2) := by decide +kernel
theorem dX4_number_128 : decode cX4_number 128 = .ok (.ireturn, 1) := by decide +kernel
theorem dX4_as_0 : decode cX4_as 0 = .ok (.aload_n 0, 1) := by decide +kernel
theorem dX4_as_1 : decode cX4_as 1 = .ok (.getfield 19, 3) := by decide +kernel
theorem dX4_as_4 : decode cX4_as 4 = .ok (.iload_n 1, 1) := by decide +kernel
theorem dX4_as_5 : decode cX4_as 5 = .ok (.invokevirtual 81, 3) := by decide +kernel
theorem dX4_as_8 : decode cX4_as 8 = .ok (.ifCond .ne 6, 3) := by decide +kernel
theorem dX4_as_11 : decode cX4_as 11 = .ok (.bipush (-101), 2) := by decide +kernel
theorem dX4_as_13 : decode cX4_as 13 = .ok (.ireturn, 1) := by decide +kernel
theorem dX4_as_14 : decode cX4_as 14 = .ok (.iload_n 2, 1) := by decide +kernel
theorem dX4_as_15 : decode cX4_as 15 = .ok (.invokestatic 112, 3) := by decide +kernel
theorem dX4_as_18 : decode cX4_as 18 = .ok (.ifCond .ne 6, 3) := by decide +kernel
theorem dX4_as_21 : decode cX4_as 21 = .ok (.bipush (-102), 2) := by decide +kernel
theorem dX4_as_23 : decode cX4_as 23 = .ok (.ireturn, 1) := by decide +kernel
theorem dX4_as_24 : decode cX4_as 24 = .ok (.aload_n 0, 1) := by decide +kernel
theorem dX4_as_25 : decode cX4_as 25 = .ok (.getfield 19, 3) := by decide +kernel
theorem dX4_as_28 : decode cX4_as 28 = .ok (.getfield 85, 3) := by decide +kernel
theorem dX4_as_31 : decode cX4_as 31 = .ok (.iload_n 1, 1) := by decide +kernel
theorem dX4_as_32 : decode cX4_as 32 = .ok (.invokestatic 89, 3) := by decide +kernel
theorem dX4_as_35 : decode cX4_as 35 = .ok (.istore_n 3, 1) := by decide +kernel
theorem dX4_as_36 : decode cX4_as 36 = .ok (.iload_n 2, 1) := by decide +kernel
theorem dX4_as_37 : decode cX4_as 37 = .ok (.ifCond .eq 18, 3) := by decide +kernel
theorem dX4_as_40 : decode cX4_as 40 = .ok (.iload_n 2, 1) := by decide +kernel
theorem dX4_as_41 : decode cX4_as 41 = .ok (.iload_n 3, 1) := by decide +kernel
theorem dX4_as_42 : decode cX4_as 42 = .ok (.if_icmp .eq 13, 3) := by decide +kernel
theorem dX4_as_45 : decode cX4_as 45 = .ok (.iload_n 2, 1) := by decide +kernel
theorem dX4_as_46 : decode cX4_as 46 = .ok (.iconst 3, 1) := by decide +kernel
theorem dX4_as_47 : decode cX4_as 47 = .ok (.if_icmp .ne 12, 3) := by decide +kernel
theorem dX4_as_50 : decode cX4_as 50 = .ok (.iload_n 3, 1) := by decide +kernel
theorem dX4_as_51 : decode cX4_as 51 = .ok (.iconst 4, 1) := by decide +kernel
theorem dX4_as_52 : decode cX4_as 52 = .ok (.if_icmp .ne 7, 3) := by decide +kernel
theorem dX4_as_55 : decode cX4_as 55 = .ok (.iconst 1, 1) := by decide +kernel
theorem dX4_as_56 : decode cX4_as 56 = .ok (.goto 4, 3) := by decide +kernel
theorem dX4_as_59 : decode cX4_as 59 = .ok (.iconst 0, 1) := by decide +kernel
theorem dX4_as_60 : decode cX4_as 60 = .ok (.istore 4, 2) := by decide +kernel
theorem dX4_as_62 : decode cX4_as 62 = .ok (.iload 4, 2) := by decide +kernel
theorem dX4_as_64 : decode cX4_as 64 = .ok (.ifCond .eq 7, 3) := by decide +kernel
theorem dX4_as_67 : decode cX4_as 67 = .ok (.iload_n 1, 1) := by decide +kernel
theorem dX4_as_68 : decode cX4_as 68 = .ok (.goto 4, 3) := by decide +kernel
theorem dX4_as_71 : decode cX4_as 71 = .ok (.iconst (-1), 1) := by decide +kernel
theorem dX4_as_72 : decode cX4_as 72 = .ok (.ireturn, 1) := by decide +kernel
theorem dX4_way_0 : decode cX4_way 0 = .ok (.iload_n 1, 1) := by decide +kernel
theorem dX4_way_1 : decode cX4_way 1 = .ok (.ifCond .lt 14, 3) := by decide +kernel
theorem dX4_way_4 : decode cX4_way 4 = .ok (.aload_n 0, 1) := by decide +kernel
theorem dX4_way_5 : decode cX4_way 5 = .ok (.getfield 19, 3) := by decide +kernel
theorem dX4_way_8 : decode cX4_way 8 = .ok (.iload_n 2, 1) := by decide +kernel
theorem dX4_way_9 : decode cX4_way 9 = .ok (.invokevirtual 81, 3) := by decide +kernel
theorem dX4_way_12 : decode cX4_way 12 = .ok (.ifCond .ne 6, 3) := by decide +kernel
theorem dX4_way_15 : decode cX4_way 15 = .ok (.bipush (-101), 2) := by decide +kernel
theorem dX4_way_17 : decode cX4_way 17 = .ok (.ireturn, 1) := by decide +kernel
theorem dX4_way_18 : decode cX4_way 18 = .ok (.aload_n 0, 1) := by decide +kernel
theorem dX4_way_19 : decode cX4_way 19 = .ok (.getfield 35, 3) := by decide +kernel
theorem dX4_way_22 : decode cX4_way 22 = .ok (.invokevirtual 96, 3) := by decide +kernel
theorem dX4_way_25 : decode cX4_way 25 = .ok (.iload_n 1, 1) := by decide +kernel
theorem dX4_way_26 : decode cX4_way 26 = .ok (.aload_n 0, 1) := by decide +kernel
theorem dX4_way_27 : decode cX4_way 27 = .ok (.getfield 35, 3) := by decide +kernel
theorem dX4_way_30 : decode cX4_way 30 = .ok (.getfield 115, 3) := by decide +kernel
theorem dX4_way_33 : decode cX4_way 33 = .ok (.if_icmp .lt 6, 3) := by decide +kernel
theorem dX4_way_36 : decode cX4_way 36 = .ok (.bipush (-101), 2) := by decide +kernel
theorem dX4_way_38 : decode cX4_way 38 = .ok (.ireturn, 1) := by decide +kernel
theorem dX4_way_39 : decode cX4_way 39 = .ok (.aload_n 0, 1) := by decide +kernel
theorem dX4_way_40 : decode cX4_way 40 = .ok (.getfield 35, 3) := by decide +kernel
theorem dX4_way_43 : decode cX4_way 43 = .ok (.iload_n 1, 1) := by decide +kernel
theorem dX4_way_44 : decode cX4_way 44 = .ok (.iload_n 2, 1) := by decide +kernel
theorem dX4_way_45 : decode cX4_way 45 = .ok (.invokevirtual 118, 3) := by decide +kernel
theorem dX4_way_48 : decode cX4_way 48 = .ok (.ireturn, 1) := by decide +kernel
theorem dX4_paint_0 : decode cX4_paint 0 = .ok (.aload_n 0, 1) := by decide +kernel
theorem dX4_paint_1 : decode cX4_paint 1 = .ok (.getfield 19, 3) := by decide +kernel
theorem dX4_paint_4 : decode cX4_paint 4 = .ok (.iload_n 1, 1) := by decide +kernel
theorem dX4_paint_5 : decode cX4_paint 5 = .ok (.invokevirtual 81, 3) := by decide +kernel
theorem dX4_paint_8 : decode cX4_paint 8 = .ok (.ifCond .ne 6, 3) := by decide +kernel
theorem dX4_paint_11 : decode cX4_paint 11 = .ok (.bipush (-101), 2) := by decide +kernel
theorem dX4_paint_13 : decode cX4_paint 13 = .ok (.ireturn, 1) := by decide +kernel
theorem dX4_paint_14 : decode cX4_paint 14 = .ok (.aload_n 0, 1) := by decide +kernel
theorem dX4_paint_15 : decode cX4_paint 15 = .ok (.getfield 19, 3) := by decide +kernel
theorem dX4_paint_18 : decode cX4_paint 18 = .ok (.iload_n 2, 1) := by decide +kernel
theorem dX4_paint_19 : decode cX4_paint 19 = .ok (.invokevirtual 122, 3) := by decide +kernel
theorem dX4_paint_22 : decode cX4_paint 22 = .ok (.ifCond .ne 6, 3) := by decide +kernel
theorem dX4_paint_25 : decode cX4_paint 25 = .ok (.bipush (-102), 2) := by decide +kernel
theorem dX4_paint_27 : decode cX4_paint 27 = .ok (.ireturn, 1) := by decide +kernel
theorem dX4_paint_28 : decode cX4_paint 28 = .ok (.aload_n 0, 1) := by decide +kernel
theorem dX4_paint_29 : decode cX4_paint 29 = .ok (.getfield 19, 3) := by decide +kernel
theorem dX4_paint_32 : decode cX4_paint 32 = .ok (.getfield 125, 3) := by decide +kernel
theorem dX4_paint_35 : decode cX4_paint 35 = .ok (.sipush 999, 3) := by decide +kernel
theorem dX4_paint_38 : decode cX4_paint 38 = .ok (.if_icmp .lt 6, 3) := by decide +kernel
theorem dX4_paint_41 : decode cX4_paint 41 = .ok (.bipush (-104), 2) := by decide +kernel
theorem dX4_paint_43 : decode cX4_paint 43 = .ok (.ireturn, 1) := by decide +kernel
theorem dX4_paint_44 : decode cX4_paint 44 = .ok (.aload_n 0, 1) := by decide +kernel
theorem dX4_paint_45 : decode cX4_paint 45 = .ok (.iload_n 1, 1) := by decide +kernel
theorem dX4_paint_46 : decode cX4_paint 46 = .ok (.iload_n 2, 1) := by decide +kernel
theorem dX4_paint_47 : decode cX4_paint 47 = .ok (.invokevirtual 128, 3) := by decide +kernel
theorem dX4_paint_50 : decode cX4_paint 50 = .ok (.aload_n 0, 1) := by decide +kernel
theorem dX4_paint_51 : decode cX4_paint 51 = .ok (.getfield 19, 3) := by decide +kernel
theorem dX4_paint_54 : decode cX4_paint 54 = .ok (.aload_n 0, 1) := by decide +kernel
theorem dX4_paint_55 : decode cX4_paint 55 = .ok (.getfield 19, 3) := by decide +kernel
theorem dX4_paint_58 : decode cX4_paint 58 = .ok (.getfield 93, 3) := by decide +kernel
theorem dX4_paint_61 : decode cX4_paint 61 = .ok (.invokevirtual 132, 3) := by decide +kernel
theorem dX4_paint_64 : decode cX4_paint 64 = .ok (.ireturn, 1) := by decide +kernel
theorem dX4_wipe_0 : decode cX4_wipe 0 = .ok (.aload_n 0, 1) := by decide +kernel
theorem dX4_wipe_1 : decode cX4_wipe 1 = .ok (.getfield 19, 3) := by decide +kernel
theorem dX4_wipe_4 : decode cX4_wipe 4 = .ok (.iload_n 1, 1) := by decide +kernel
theorem dX4_wipe_5 : decode cX4_wipe 5 = .ok (.invokevirtual 81, 3) := by decide +kernel
theorem dX4_wipe_8 : decode cX4_wipe 8 = .ok (.ifCond .ne 6, 3) := by decide +kernel
theorem dX4_wipe_11 : decode cX4_wipe 11 = .ok (.bipush (-101), 2) := by decide +kernel
theorem dX4_wipe_13 : decode cX4_wipe 13 = .ok (.ireturn, 1) := by decide +kernel
theorem dX4_wipe_14 : decode cX4_wipe 14 = .ok (.aload_n 0, 1) := by decide +kernel
theorem dX4_wipe_15 : decode cX4_wipe 15 = .ok (.getfield 19, 3) := by decide +kernel
theorem dX4_wipe_18 : decode cX4_wipe 18 = .ok (.getfield 93, 3) := by decide +kernel
theorem dX4_wipe_21 : decode cX4_wipe 21 = .ok (.iload_n 1, 1) := by decide +kernel
theorem dX4_wipe_22 : decode cX4_wipe 22 = .ok (.invokestatic 89, 3) := by decide +kernel
theorem dX4_wipe_25 : decode cX4_wipe 25 = .ok (.istore_n 2, 1) := by decide +kernel
theorem dX4_wipe_26 : decode cX4_wipe 26 = .ok (.iload_n 2, 1) := by decide +kernel
theorem dX4_wipe_27 : decode cX4_wipe 27 = .ok (.iconst (-1), 1) := by decide +kernel
theorem dX4_wipe_28 : decode cX4_wipe 28 = .ok (.if_icmp .ne 6, 3) := by decide +kernel
theorem dX4_wipe_31 : decode cX4_wipe 31 = .ok (.bipush (-103), 2) := by decide +kernel
theorem dX4_wipe_33 : decode cX4_wipe 33 = .ok (.ireturn, 1) := by decide +kernel
theorem dX4_wipe_34 : decode cX4_wipe 34 = .ok (.aload_n 0, 1) := by decide +kernel
theorem dX4_wipe_35 : decode cX4_wipe 35 = .ok (.getfield 19, 3) := by decide +kernel
theorem dX4_wipe_38 : decode cX4_wipe 38 = .ok (.getfield 125, 3) := by decide +kernel
theorem dX4_wipe_41 : decode cX4_wipe 41 = .ok (.sipush 999, 3) := by decide +kernel
theorem dX4_wipe_44 : decode cX4_wipe 44 = .ok (.if_icmp .lt 6, 3) := by decide +kernel
theorem dX4_wipe_47 : decode cX4_wipe 47 = .ok (.bipush (-104), 2) := by decide +kernel
theorem dX4_wipe_49 : decode cX4_wipe 49 = .ok (.ireturn, 1) := by decide +kernel
theorem dX4_wipe_50 : decode cX4_wipe 50 = .ok (.aload_n 0, 1) := by decide +kernel
theorem dX4_wipe_51 : decode cX4_wipe 51 = .ok (.iload_n 1, 1) := by decide +kernel
theorem dX4_wipe_52 : decode cX4_wipe 52 = .ok (.iconst (-1), 1) := by decide +kernel
theorem dX4_wipe_53 : decode cX4_wipe 53 = .ok (.invokevirtual 128, 3) := by decide +kernel
theorem dX4_wipe_56 : decode cX4_wipe 56 = .ok (.iload_n 2, 1) := by decide +kernel
theorem dX4_wipe_57 : decode cX4_wipe 57 = .ok (.ireturn, 1) := by decide +kernel
theorem dX4_changeColour_0 : decode cX4_changeColour 0 = .ok (.aload_n 0, 1) := by decide +kernel
theorem dX4_changeColour_1 : decode cX4_changeColour 1 = .ok (.getfield 19, 3) := by decide +kernel
theorem dX4_changeColour_4 : decode cX4_changeColour 4 = .ok (.getfield 93, 3) := by decide +kernel
theorem dX4_changeColour_7 : decode cX4_changeColour 7 = .ok (.iload_n 1, 1) := by decide +kernel
theorem dX4_changeColour_8 : decode cX4_changeColour 8 = .ok (.iload_n 2, 1) := by decide +kernel
theorem dX4_changeColour_9 : decode cX4_changeColour 9 = .ok (.invokestatic 136, 3) := by decide +kernel
theorem dX4_changeColour_12 : decode cX4_changeColour 12 = .ok (.aload_n 0, 1) := by decide +kernel
theorem dX4_changeColour_13 : decode cX4_changeColour 13 = .ok (.getfield 19, 3) := by decide +kernel
theorem dX4_changeColour_16 : decode cX4_changeColour 16 = .ok (.dup, 1) := by decide +kernel
theorem dX4_changeColour_17 : decode cX4_changeColour 17 = .ok (.getfield 125, 3) := by decide +kernel
theorem dX4_changeColour_20 : decode cX4_changeColour 20 = .ok (.iconst 1, 1) := by decide +kernel
theorem dX4_changeColour_21 : decode cX4_changeColour 21 = .ok (.iadd, 1) := by decide +kernel
theorem dX4_changeColour_22 : decode cX4_changeColour 22 = .ok (.putfield 125, 3) := by decide +kernel
theorem dX4_changeColour_25 : decode cX4_changeColour 25 = .ok (.aload_n 0, 1) := by decide +kernel
theorem dX4_changeColour_26 : decode cX4_changeColour 26 = .ok (.getfield 35, 3) := by decide +kernel
theorem dX4_changeColour_29 : decode cX4_changeColour 29 = .ok (.iconst 1, 1) := by decide +kernel
theorem dX4_changeColour_30 : decode cX4_changeColour 30 = .ok (.putfield 75, 3) := by decide +kernel
theorem dX4_changeColour_33 : decode cX4_changeColour 33 = .ok (.return_, 1) := by decide +kernel
theorem dX4_be_0 : decode cX4_be 0 = .ok (.aload_n 0, 1) := by decide +kernel
theorem dX4_be_1 : decode cX4_be 1 = .ok (.getfield 19, 3) := by decide +kernel
theorem dX4_be_4 : decode cX4_be 4 = .ok (.iload_n 1, 1) := by decide +kernel
theorem dX4_be_5 : decode cX4_be 5 = .ok (.invokevirtual 81, 3) := by decide +kernel
theorem dX4_be_8 : decode cX4_be 8 = .ok (.ifCond .ne 6, 3) := by decide +kernel
theorem dX4_be_11 : decode cX4_be 11 = .ok (.bipush (-101), 2) := by decide +kernel
theorem dX4_be_13 : decode cX4_be 13 = .ok (.ireturn, 1) := by decide +kernel
theorem dX4_be_14 : decode cX4_be 14 = .ok (.iload_n 2, 1) := by decide +kernel
theorem dX4_be_15 : decode cX4_be 15 = .ok (.invokestatic 112, 3) := by decide +kernel
theorem dX4_be_18 : decode cX4_be 18 = .ok (.ifCond .ne 6, 3) := by decide +kernel
theorem dX4_be_21 : decode cX4_be 21 = .ok (.bipush (-102), 2) := by decide +kernel
theorem dX4_be_23 : decode cX4_be 23 = .ok (.ireturn, 1) := by decide +kernel
theorem dX4_be_24 : decode cX4_be 24 = .ok (.aload_n 0, 1) := by decide +kernel
theorem dX4_be_25 : decode cX4_be 25 = .ok (.getfield 19, 3) := by decide +kernel
theorem dX4_be_28 : decode cX4_be 28 = .ok (.getfield 85, 3) := by decide +kernel
theorem dX4_be_31 : decode cX4_be 31 = .ok (.iload_n 1, 1) := by decide +kernel
theorem dX4_be_32 : decode cX4_be 32 = .ok (.invokestatic 89, 3) := by decide +kernel
theorem dX4_be_35 : decode cX4_be 35 = .ok (.istore_n 3, 1) := by decide +kernel
theorem dX4_be_36 : decode cX4_be 36 = .ok (.aload_n 0, 1) := by decide +kernel
theorem dX4_be_37 : decode cX4_be 37 = .ok (.getfield 19, 3) := by decide +kernel
theorem dX4_be_40 : decode cX4_be 40 = .ok (.getfield 85, 3) := by decide +kernel
theorem dX4_be_43 : decode cX4_be 43 = .ok (.iload_n 1, 1) := by decide +kernel
theorem dX4_be_44 : decode cX4_be 44 = .ok (.iload_n 2, 1) := by decide +kernel
theorem dX4_be_45 : decode cX4_be 45 = .ok (.invokestatic 136, 3) := by decide +kernel
theorem dX4_be_48 : decode cX4_be 48 = .ok (.aload_n 0, 1) := by decide +kernel
theorem dX4_be_49 : decode cX4_be 49 = .ok (.getfield 35, 3) := by decide +kernel
theorem dX4_be_52 : decode cX4_be 52 = .ok (.iconst 1, 1) := by decide +kernel
theorem dX4_be_53 : decode cX4_be 53 = .ok (.putfield 75, 3) := by decide +kernel
theorem dX4_be_56 : decode cX4_be 56 = .ok (.iload_n 3, 1) := by decide +kernel
theorem dX4_be_57 : decode cX4_be 57 = .ok (.ireturn, 1) := by decide +kernel
theorem dX4_ways_0 : decode cX4_ways 0 = .ok (.iload_n 1, 1) := by decide +kernel
theorem dX4_ways_1 : decode cX4_ways 1 = .ok (.ifCond .lt 8, 3) := by decide +kernel
theorem dX4_ways_4 : decode cX4_ways 4 = .ok (.iload_n 1, 1) := by decide +kernel
theorem dX4_ways_5 : decode cX4_ways 5 = .ok (.iconst 2, 1) := by decide +kernel
theorem dX4_ways_6 : decode cX4_ways 6 = .ok (.if_icmp .le 6, 3) := by decide +kernel
theorem dX4_ways_9 : decode cX4_ways 9 = .ok (.bipush (-102), 2) := by decide +kernel
theorem dX4_ways_11 : decode cX4_ways 11 = .ok (.ireturn, 1) := by decide +kernel
theorem dX4_ways_12 : decode cX4_ways 12 = .ok (.aload_n 0, 1) := by decide +kernel
theorem dX4_ways_13 : decode cX4_ways 13 = .ok (.getfield 19, 3) := by decide +kernel
theorem dX4_ways_16 : decode cX4_ways 16 = .ok (.invokevirtual 140, 3) := by decide +kernel
theorem dX4_ways_19 : decode cX4_ways 19 = .ok (.ifCond .ne 6, 3) := by decide +kernel
theorem dX4_ways_22 : decode cX4_ways 22 = .ok (.bipush (-103), 2) := by decide +kernel
theorem dX4_ways_24 : decode cX4_ways 24 = .ok (.ireturn, 1) := by decide +kernel
theorem dX4_ways_25 : decode cX4_ways 25 = .ok (.aload_n 0, 1) := by decide +kernel
theorem dX4_ways_26 : decode cX4_ways 26 = .ok (.getfield 35, 3) := by decide +kernel
theorem dX4_ways_29 : decode cX4_ways 29 = .ok (.invokevirtual 96, 3) := by decide +kernel
theorem dX4_ways_32 : decode cX4_ways 32 = .ok (.iload_n 1, 1) := by decide +kernel
theorem dX4_ways_33 : decode cX4_ways 33 = .ok (.ifCond .ne 13, 3) := by decide +kernel
theorem dX4_ways_36 : decode cX4_ways 36 = .ok (.aload_n 0, 1) := by decide +kernel
theorem dX4_ways_37 : decode cX4_ways 37 = .ok (.getfield 35, 3) := by decide +kernel
theorem dX4_ways_40 : decode cX4_ways 40 = .ok (.getfield 115, 3) := by decide +kernel
theorem dX4_ways_43 : decode cX4_ways 43 = .ok (.goto 25, 3) := by decide +kernel
theorem dX4_ways_46 : decode cX4_ways 46 = .ok (.iload_n 1, 1) := by decide +kernel
theorem dX4_ways_47 : decode cX4_ways 47 = .ok (.iconst 1, 1) := by decide +kernel
theorem dX4_ways_48 : decode cX4_ways 48 = .ok (.if_icmp .ne 13, 3) := by decide +kernel
theorem dX4_ways_51 : decode cX4_ways 51 = .ok (.aload_n 0, 1) := by decide +kernel
theorem dX4_ways_52 : decode cX4_ways 52 = .ok (.getfield 35, 3) := by decide +kernel
theorem dX4_ways_55 : decode cX4_ways 55 = .ok (.invokevirtual 143, 3) := by decide +kernel
theorem dX4_ways_58 : decode cX4_ways 58 = .ok (.goto 10, 3) := by decide +kernel
theorem dX4_ways_61 : decode cX4_ways 61 = .ok (.aload_n 0, 1) := by decide +kernel
theorem dX4_ways_62 : decode cX4_ways 62 = .ok (.getfield 35, 3) := by decide +kernel
theorem dX4_ways_65 : decode cX4_ways 65 = .ok (.getfield 146, 3) := by decide +kernel
theorem dX4_ways_68 : decode cX4_ways 68 = .ok (.ireturn, 1) := by decide +kernel
theorem dX4_mend_0 : decode cX4_mend 0 = .ok (.aload_n 0, 1) := by decide +kernel
theorem dX4_mend_1 : decode cX4_mend 1 = .ok (.getfield 19, 3) := by decide +kernel
theorem dX4_mend_4 : decode cX4_mend 4 = .ok (.invokevirtual 140, 3) := by decide +kernel
theorem dX4_mend_7 : decode cX4_mend 7 = .ok (.ifCond .ne 6, 3) := by decide +kernel
theorem dX4_mend_10 : decode cX4_mend 10 = .ok (.bipush (-103), 2) := by decide +kernel
theorem dX4_mend_12 : decode cX4_mend 12 = .ok (.ireturn, 1) := by decide +kernel
theorem dX4_mend_13 : decode cX4_mend 13 = .ok (.aload_n 0, 1) := by decide +kernel
theorem dX4_mend_14 : decode cX4_mend 14 = .ok (.getfield 35, 3) := by decide +kernel
theorem dX4_mend_17 : decode cX4_mend 17 = .ok (.invokevirtual 149, 3) := by decide +kernel
theorem dX4_mend_20 : decode cX4_mend 20 = .ok (.ireturn, 1) := by decide +kernel
theorem dX4_wins_0 : decode cX4_wins 0 = .ok (.iload_n 1, 1) := by decide +kernel
theorem dX4_wins_1 : decode cX4_wins 1 = .ok (.ifCond .lt 8, 3) := by decide +kernel
theorem dX4_wins_4 : decode cX4_wins 4 = .ok (.iload_n 1, 1) := by decide +kernel
theorem dX4_wins_5 : decode cX4_wins 5 = .ok (.iconst 1, 1) := by decide +kernel
theorem dX4_wins_6 : decode cX4_wins 6 = .ok (.if_icmp .le 6, 3) := by decide +kernel
theorem dX4_wins_9 : decode cX4_wins 9 = .ok (.bipush (-102), 2) := by decide +kernel
theorem dX4_wins_11 : decode cX4_wins 11 = .ok (.ireturn, 1) := by decide +kernel
theorem dX4_wins_12 : decode cX4_wins 12 = .ok (.aload_n 0, 1) := by decide +kernel
theorem dX4_wins_13 : decode cX4_wins 13 = .ok (.getfield 19, 3) := by decide +kernel
theorem dX4_wins_16 : decode cX4_wins 16 = .ok (.invokevirtual 140, 3) := by decide +kernel
theorem dX4_wins_19 : decode cX4_wins 19 = .ok (.ifCond .ne 6, 3) := by decide +kernel
theorem dX4_wins_22 : decode cX4_wins 22 = .ok (.bipush (-103), 2) := by decide +kernel
theorem dX4_wins_24 : decode cX4_wins 24 = .ok (.ireturn, 1) := by decide +kernel
theorem dX4_wins_25 : decode cX4_wins 25 = .ok (.aload_n 0, 1) := by decide +kernel
theorem dX4_wins_26 : decode cX4_wins 26 = .ok (.getfield 35, 3) := by decide +kernel
theorem dX4_wins_29 : decode cX4_wins 29 = .ok (.invokevirtual 152, 3) := by decide +kernel
theorem dX4_wins_32 : decode cX4_wins 32 = .ok (.istore_n 2, 1) := by decide +kernel
theorem dX4_wins_33 : decode cX4_wins 33 = .ok (.iload_n 1, 1) := by decide +kernel
theorem dX4_wins_34 : decode cX4_wins 34 = .ok (.iconst 1, 1) := by decide +kernel
theorem dX4_wins_35 : decode cX4_wins 35 = .ok (.if_icmp .ne 5, 3) := by decide +kernel
theorem dX4_wins_38 : decode cX4_wins 38 = .ok (.iload_n 2, 1) := by decide +kernel
theorem dX4_wins_39 : decode cX4_wins 39 = .ok (.ireturn, 1) := by decide +kernel
theorem dX4_wins_40 : decode cX4_wins 40 = .ok (.iload_n 2, 1) := by decide +kernel
theorem dX4_wins_41 : decode cX4_wins 41 = .ok (.iconst (-1), 1) := by decide +kernel
theorem dX4_wins_42 : decode cX4_wins 42 = .ok (.if_icmp .ne 7, 3) := by decide +kernel
theorem dX4_wins_45 : decode cX4_wins 45 = .ok (.iconst 0, 1) := by decide +kernel
theorem dX4_wins_46 : decode cX4_wins 46 = .ok (.goto 4, 3) := by decide +kernel
theorem dX4_wins_49 : decode cX4_wins 49 = .ok (.iconst 1, 1) := by decide +kernel
theorem dX4_wins_50 : decode cX4_wins 50 = .ok (.ireturn, 1) := by decide +kernel
theorem dX4_odds_0 : decode cX4_odds 0 = .ok (.aload_n 0, 1) := by decide +kernel
theorem dX4_odds_1 : decode cX4_odds 1 = .ok (.getfield 19, 3) := by decide +kernel
theorem dX4_odds_4 : decode cX4_odds 4 = .ok (.iload_n 1, 1) := by decide +kernel
theorem dX4_odds_5 : decode cX4_odds 5 = .ok (.invokevirtual 81, 3) := by decide +kernel
theorem dX4_odds_8 : decode cX4_odds 8 = .ok (.ifCond .ne 6, 3) := by decide +kernel
theorem dX4_odds_11 : decode cX4_odds 11 = .ok (.bipush (-101), 2) := by decide +kernel
theorem dX4_odds_13 : decode cX4_odds 13 = .ok (.ireturn, 1) := by decide +kernel
theorem dX4_odds_14 : decode cX4_odds 14 = .ok (.aload_n 0, 1) := by decide +kernel
theorem dX4_odds_15 : decode cX4_odds 15 = .ok (.getfield 19, 3) := by decide +kernel
theorem dX4_odds_18 : decode cX4_odds 18 = .ok (.iload_n 2, 1) := by decide +kernel
theorem dX4_odds_19 : decode cX4_odds 19 = .ok (.invokevirtual 122, 3) := by decide +kernel
theorem dX4_odds_22 : decode cX4_odds 22 = .ok (.ifCond .eq 12, 3) := by decide +kernel
theorem dX4_odds_25 : decode cX4_odds 25 = .ok (.iload_n 3, 1) := by decide +kernel
theorem dX4_odds_26 : decode cX4_odds 26 = .ok (.ifCond .lt 8, 3) := by decide +kernel
theorem dX4_odds_29 : decode cX4_odds 29 = .ok (.iload_n 3, 1) := by decide +kernel
theorem dX4_odds_30 : decode cX4_odds 30 = .ok (.iconst 1, 1) := by decide +kernel
theorem dX4_odds_31 : decode cX4_odds 31 = .ok (.if_icmp .le 6, 3) := by decide +kernel
theorem dX4_odds_34 : decode cX4_odds 34 = .ok (.bipush (-102), 2) := by decide +kernel
theorem dX4_odds_36 : decode cX4_odds 36 = .ok (.ireturn, 1) := by decide +kernel
theorem dX4_odds_37 : decode cX4_odds 37 = .ok (.aload_n 0, 1) := by decide +kernel
theorem dX4_odds_38 : decode cX4_odds 38 = .ok (.getfield 35, 3) := by decide +kernel
theorem dX4_odds_41 : decode cX4_odds 41 = .ok (.invokevirtual 96, 3) := by decide +kernel
theorem dX4_odds_44 : decode cX4_odds 44 = .ok (.aload_n 0, 1) := by decide +kernel
theorem dX4_odds_45 : decode cX4_odds 45 = .ok (.getfield 35, 3) := by decide +kernel
theorem dX4_odds_48 : decode cX4_odds 48 = .ok (.iload_n 1, 1) := by decide +kernel
theorem dX4_odds_49 : decode cX4_odds 49 = .ok (.iload_n 2, 1) := by decide +kernel
theorem dX4_odds_50 : decode cX4_odds 50 = .ok (.invokevirtual 155, 3) := by decide +kernel
theorem dX4_odds_53 : decode cX4_odds 53 = .ok (.istore 4, 2) := by decide +kernel
theorem dX4_odds_55 : decode cX4_odds 55 = .ok (.aload_n 0, 1) := by decide +kernel
theorem dX4_odds_56 : decode cX4_odds 56 = .ok (.getfield 35, 3) := by decide +kernel
theorem dX4_odds_59 : decode cX4_odds 59 = .ok (.getfield 115, 3) := by decide +kernel
theorem dX4_odds_62 : decode cX4_odds 62 = .ok (.iload 4, 2) := by decide +kernel
theorem dX4_odds_64 : decode cX4_odds 64 = .ok (.invokestatic 158, 3) := by decide +kernel
theorem dX4_odds_67 : decode cX4_odds 67 = .ok (.istore 5, 2) := by decide +kernel
theorem dX4_odds_69 : decode cX4_odds 69 = .ok (.iload 4, 2) := by decide +kernel
theorem dX4_odds_71 : decode cX4_odds 71 = .ok (.ifCond .eq 8, 3) := by decide +kernel
theorem dX4_odds_74 : decode cX4_odds 74 = .ok (.iload 5, 2) := by decide +kernel
theorem dX4_odds_76 : decode cX4_odds 76 = .ok (.ifCond .ne 13, 3) := by decide +kernel
theorem dX4_odds_79 : decode cX4_odds 79 = .ok (.iload_n 3, 1) := by decide +kernel
theorem dX4_odds_80 : decode cX4_odds 80 = .ok (.ifCond .ne 7, 3) := by decide +kernel
theorem dX4_odds_83 : decode cX4_odds 83 = .ok (.iconst 0, 1) := by decide +kernel
theorem dX4_odds_84 : decode cX4_odds 84 = .ok (.goto 4, 3) := by decide +kernel
theorem dX4_odds_87 : decode cX4_odds 87 = .ok (.iconst 1, 1) := by decide +kernel
theorem dX4_odds_88 : decode cX4_odds 88 = .ok (.ireturn, 1) := by decide +kernel
theorem dX4_odds_89 : decode cX4_odds 89 = .ok (.iload_n 3, 1) := by decide +kernel
theorem dX4_odds_90 : decode cX4_odds 90 = .ok (.ifCond .ne 11, 3) := by decide +kernel
theorem dX4_odds_93 : decode cX4_odds 93 = .ok (.iload 4, 2) := by decide +kernel
theorem dX4_odds_95 : decode cX4_odds 95 = .ok (.iload 5, 2) := by decide +kernel
theorem dX4_odds_97 : decode cX4_odds 97 = .ok (.idiv, 1) := by decide +kernel
theorem dX4_odds_98 : decode cX4_odds 98 = .ok (.goto 13, 3) := by decide +kernel
theorem dX4_odds_101 : decode cX4_odds 101 = .ok (.aload_n 0, 1) := by decide +kernel
theorem dX4_odds_102 : decode cX4_odds 102 = .ok (.getfield 35, 3) := by decide +kernel
theorem dX4_odds_105 : decode cX4_odds 105 = .ok (.getfield 115, 3) := by decide +kernel
theorem dX4_odds_108 : decode cX4_odds 108 = .ok (.iload 5, 2) := by decide +kernel
theorem dX4_odds_110 : decode cX4_odds 110 = .ok (.idiv, 1) := by decide +kernel
theorem dX4_odds_111 : decode cX4_odds 111 = .ok (.ireturn, 1) := by decide +kernel
theorem dX4_see_0 : decode cX4_see 0 = .ok (.aload_n 0, 1) := by decide +kernel
theorem dX4_see_1 : decode cX4_see 1 = .ok (.getfield 19, 3) := by decide +kernel
theorem dX4_see_4 : decode cX4_see 4 = .ok (.iload_n 1, 1) := by decide +kernel
theorem dX4_see_5 : decode cX4_see 5 = .ok (.invokevirtual 81, 3) := by decide +kernel
theorem dX4_see_8 : decode cX4_see 8 = .ok (.ifCond .ne 6, 3) := by decide +kernel
theorem dX4_see_11 : decode cX4_see 11 = .ok (.bipush (-101), 2) := by decide +kernel
theorem dX4_see_13 : decode cX4_see 13 = .ok (.ireturn, 1) := by decide +kernel
theorem dX4_see_14 : decode cX4_see 14 = .ok (.iload_n 2, 1) := by decide +kernel
theorem dX4_see_15 : decode cX4_see 15 = .ok (.ifCond .lt 8, 3) := by decide +kernel
theorem dX4_see_18 : decode cX4_see 18 = .ok (.iload_n 2, 1) := by decide +kernel
theorem dX4_see_19 : decode cX4_see 19 = .ok (.iconst 3, 1) := by decide +kernel
theorem dX4_see_20 : decode cX4_see 20 = .ok (.if_icmp .lt 6, 3) := by decide +kernel
theorem dX4_see_23 : decode cX4_see 23 = .ok (.bipush (-102), 2) := by decide +kernel
theorem dX4_see_25 : decode cX4_see 25 = .ok (.ireturn, 1) := by decide +kernel
theorem dX4_see_26 : decode cX4_see 26 = .ok (.aload_n 0, 1) := by decide +kernel
theorem dX4_see_27 : decode cX4_see 27 = .ok (.getfield 26, 3) := by decide +kernel
theorem dX4_see_30 : decode cX4_see 30 = .ok (.getfield 72, 3) := by decide +kernel
theorem dX4_see_33 : decode cX4_see 33 = .ok (.bipush 6, 2) := by decide +kernel
theorem dX4_see_35 : decode cX4_see 35 = .ok (.if_icmp .lt 6, 3) := by decide +kernel
theorem dX4_see_38 : decode cX4_see 38 = .ok (.bipush (-104), 2) := by decide +kernel
theorem dX4_see_40 : decode cX4_see 40 = .ok (.ireturn, 1) := by decide +kernel
theorem dX4_see_41 : decode cX4_see 41 = .ok (.aload_n 0, 1) := by decide +kernel
theorem dX4_see_42 : decode cX4_see 42 = .ok (.getfield 26, 3) := by decide +kernel
theorem dX4_see_45 : decode cX4_see 45 = .ok (.iload_n 1, 1) := by decide +kernel
theorem dX4_see_46 : decode cX4_see 46 = .ok (.iload_n 2, 1) := by decide +kernel
theorem dX4_see_47 : decode cX4_see 47 = .ok (.iload_n 3, 1) := by decide +kernel
theorem dX4_see_48 : decode cX4_see 48 = .ok (.invokevirtual 161, 3) := by decide +kernel
theorem dX4_see_51 : decode cX4_see 51 = .ok (.aload_n 0, 1) := by decide +kernel
theorem dX4_see_52 : decode cX4_see 52 = .ok (.getfield 26, 3) := by decide +kernel
theorem dX4_see_55 : decode cX4_see 55 = .ok (.getfield 72, 3) := by decide +kernel
theorem dX4_see_58 : decode cX4_see 58 = .ok (.ireturn, 1) := by decide +kernel
theorem dX4_forget_0 : decode cX4_forget 0 = .ok (.aload_n 0, 1) := by decide +kernel
theorem dX4_forget_1 : decode cX4_forget 1 = .ok (.getfield 26, 3) := by decide +kernel
theorem dX4_forget_4 : decode cX4_forget 4 = .ok (.getfield 72, 3) := by decide +kernel
theorem dX4_forget_7 : decode cX4_forget 7 = .ok (.istore_n 1, 1) := by decide +kernel
theorem dX4_forget_8 : decode cX4_forget 8 = .ok (.aload_n 0, 1) := by decide +kernel
theorem dX4_forget_9 : decode cX4_forget 9 = .ok (.getfield 26, 3) := by decide +kernel
theorem dX4_forget_12 : decode cX4_forget 12 = .ok (.iconst 0, 1) := by decide +kernel
theorem dX4_forget_13 : decode cX4_forget 13 = .ok (.putfield 72, 3) := by decide +kernel
theorem dX4_forget_16 : decode cX4_forget 16 = .ok (.iload_n 1, 1) := by decide +kernel
theorem dX4_forget_17 : decode cX4_forget 17 = .ok (.ireturn, 1) := by decide +kernel
theorem dX4_paintings_0 : decode cX4_paintings 0 = .ok (.iload_n 1, 1) := by decide +kernel
theorem dX4_paintings_1 : decode cX4_paintings 1 = .ok (.iconst 1, 1) := by decide +kernel
theorem dX4_paintings_2 : decode cX4_paintings 2 = .ok (.if_icmp .lt 22, 3) := by decide +kernel
theorem dX4_paintings_5 : decode cX4_paintings 5 = .ok (.iload_n 1, 1) := by decide +kernel
theorem dX4_paintings_6 : decode cX4_paintings 6 = .ok (.bipush 40, 2) := by decide +kernel
theorem dX4_paintings_8 : decode cX4_paintings 8 = .ok (.if_icmp .gt 16, 3) := by decide +kernel
theorem dX4_paintings_11 : decode cX4_paintings 11 = .ok (.iload_n 2, 1) := by decide +kernel
theorem dX4_paintings_12 : decode cX4_paintings 12 = .ok (.ifCond .lt 12, 3) := by decide +kernel
theorem dX4_paintings_15 : decode cX4_paintings 15 = .ok (.iload_n 3, 1) := by decide +kernel
theorem dX4_paintings_16 : decode cX4_paintings 16 = .ok (.ifCond .lt 8, 3) := by decide +kernel
theorem dX4_paintings_19 : decode cX4_paintings 19 = .ok (.iload_n 3, 1) := by decide +kernel
theorem dX4_paintings_20 : decode cX4_paintings 20 = .ok (.iconst 2, 1) := by decide +kernel
theorem dX4_paintings_21 : decode cX4_paintings 21 = .ok (.if_icmp .le 6, 3) := by decide +kernel
theorem dX4_paintings_24 : decode cX4_paintings 24 = .ok (.bipush (-102), 2) := by decide +kernel
theorem dX4_paintings_26 : decode cX4_paintings 26 = .ok (.ireturn, 1) := by decide +kernel
theorem dX4_paintings_27 : decode cX4_paintings 27 = .ok (.aload_n 0, 1) := by decide +kernel
theorem dX4_paintings_28 : decode cX4_paintings 28 = .ok (.getfield 19, 3) := by decide +kernel
theorem dX4_paintings_31 : decode cX4_paintings 31 = .ok (.invokevirtual 140, 3) := by decide +kernel
theorem dX4_paintings_34 : decode cX4_paintings 34 = .ok (.ifCond .ne 6, 3) := by decide +kernel
theorem dX4_paintings_37 : decode cX4_paintings 37 = .ok (.bipush (-103), 2) := by decide +kernel
theorem dX4_paintings_39 : decode cX4_paintings 39 = .ok (.ireturn, 1) := by decide +kernel
theorem dX4_paintings_40 : decode cX4_paintings 40 = .ok (.iload_n 2, 1) := by decide +kernel
theorem dX4_paintings_41 : decode cX4_paintings 41 = .ok (.istore 4, 2) := by decide +kernel
theorem dX4_paintings_43 : decode cX4_paintings 43 = .ok (.iconst 0, 1) := by decide +kernel
theorem dX4_paintings_44 : decode cX4_paintings 44 = .ok (.istore 5, 2) := by decide +kernel
theorem dX4_paintings_46 : decode cX4_paintings 46 = .ok (.iconst 0, 1) := by decide +kernel
theorem dX4_paintings_47 : decode cX4_paintings 47 = .ok (.istore 6, 2) := by decide +kernel
theorem dX4_paintings_49 : decode cX4_paintings 49 = .ok (.iconst 0, 1) := by decide +kernel
theorem dX4_paintings_50 : decode cX4_paintings 50 = .ok (.istore 7, 2) := by decide +kernel
theorem dX4_paintings_52 : decode cX4_paintings 52 = .ok (.iload 7, 2) := by decide +kernel
theorem dX4_paintings_54 : decode cX4_paintings 54 = .ok (.iload_n 1, 1) := by decide +kernel
theorem dX4_paintings_55 : decode cX4_paintings 55 = .ok (.if_icmp .ge 58, 3) := by decide +kernel
theorem dX4_paintings_58 : decode cX4_paintings 58 = .ok (.aload_n 0, 1) := by decide +kernel
theorem dX4_paintings_59 : decode cX4_paintings 59 = .ok (.getfield 35, 3) := by decide +kernel
theorem dX4_paintings_62 : decode cX4_paintings 62 = .ok (.iload 4, 2) := by decide +kernel
theorem dX4_paintings_64 : decode cX4_paintings 64 = .ok (.invokevirtual 164, 3) := by decide +kernel
theorem dX4_paintings_67 : decode cX4_paintings 67 = .ok (.istore 4, 2) := by decide +kernel
theorem dX4_paintings_69 : decode cX4_paintings 69 = .ok (.aload_n 0, 1) := by decide +kernel
theorem dX4_paintings_70 : decode cX4_paintings 70 = .ok (.getfield 19, 3) := by decide +kernel
theorem dX4_paintings_73 : decode cX4_paintings 73 = .ok (.aload_n 0, 1) := by decide +kernel
theorem dX4_paintings_74 : decode cX4_paintings 74 = .ok (.getfield 35, 3) := by decide +kernel
theorem dX4_paintings_77 : decode cX4_paintings 77 = .ok (.getfield 167, 3) := by decide +kernel
theorem dX4_paintings_80 : decode cX4_paintings 80 = .ok (.invokevirtual 132, 3) := by decide +kernel
theorem dX4_paintings_83 : decode cX4_paintings 83 = .ok (.istore 8, 2) := by decide +kernel
theorem dX4_paintings_85 : decode cX4_paintings 85 = .ok (.iload 6, 2) := by decide +kernel
theorem dX4_paintings_87 : decode cX4_paintings 87 = .ok (.iload 8, 2) := by decide +kernel
theorem dX4_paintings_89 : decode cX4_paintings 89 = .ok (.iadd, 1) := by decide +kernel
theorem dX4_paintings_90 : decode cX4_paintings 90 = .ok (.istore 6, 2) := by decide +kernel
theorem dX4_paintings_92 : decode cX4_paintings 92 = .ok (.iload 5, 2) := by decide +kernel
theorem dX4_paintings_94 : decode cX4_paintings 94 = .ok (.iload 8, 2) := by decide +kernel
theorem dX4_paintings_96 : decode cX4_paintings 96 = .ok (.ifCond .ne 7, 3) := by decide +kernel
theorem dX4_paintings_99 : decode cX4_paintings 99 = .ok (.iconst 1, 1) := by decide +kernel
theorem dX4_paintings_100 : decode cX4_paintings 100 = .ok (.goto 4, 3) := by decide +kernel
theorem dX4_paintings_103 : decode cX4_paintings 103 = .ok (.iconst 0, 1) := by decide +kernel
theorem dX4_paintings_104 : decode cX4_paintings 104 = .ok (.iadd, 1) := by decide +kernel
theorem dX4_paintings_105 : decode cX4_paintings 105 = .ok (.istore 5, 2) := by decide +kernel
theorem dX4_paintings_107 : decode cX4_paintings 107 = .ok (.iinc 7 1, 3) := by decide +kernel
theorem dX4_paintings_110 : decode cX4_paintings 110 = .ok (.goto (-58), 3) := by decide +kernel
theorem dX4_paintings_113 : decode cX4_paintings 113 = .ok (.iload_n 3, 1) := by decide +kernel
theorem dX4_paintings_114 : decode cX4_paintings 114 = .ok (.ifCond .ne 8, 3) := by decide +kernel
theorem dX4_paintings_117 : decode cX4_paintings 117 = .ok (.iload 5, 2) := by decide +kernel
theorem dX4_paintings_119 : decode cX4_paintings 119 = .ok (.goto 15, 3) := by decide +kernel
theorem dX4_paintings_122 : decode cX4_paintings 122 = .ok (.iload_n 3, 1) := by decide +kernel
theorem dX4_paintings_123 : decode cX4_paintings 123 = .ok (.iconst 1, 1) := by decide +kernel
theorem dX4_paintings_124 : decode cX4_paintings 124 = .ok (.if_icmp .ne 8, 3) := by decide +kernel
theorem dX4_paintings_127 : decode cX4_paintings 127 = .ok (.iload 6, 2) := by decide +kernel
theorem dX4_paintings_129 : decode cX4_paintings 129 = .ok (.goto 5, 3) := by decide +kernel
theorem dX4_paintings_132 : decode cX4_paintings 132 = .ok (.iload 4, 2) := by decide +kernel
theorem dX4_paintings_134 : decode cX4_paintings 134 = .ok (.ireturn, 1) := by decide +kernel
theorem dX4_image_0 : decode cX4_image 0 = .ok (.aload_n 0, 1) := by decide +kernel
theorem dX4_image_1 : decode cX4_image 1 = .ok (.getfield 19, 3) := by decide +kernel
theorem dX4_image_4 : decode cX4_image 4 = .ok (.invokevirtual 140, 3) := by decide +kernel
theorem dX4_image_7 : decode cX4_image 7 = .ok (.ifCond .ne 6, 3) := by decide +kernel
theorem dX4_image_10 : decode cX4_image 10 = .ok (.bipush (-103), 2) := by decide +kernel
theorem dX4_image_12 : decode cX4_image 12 = .ok (.ireturn, 1) := by decide +kernel
theorem dX4_image_13 : decode cX4_image 13 = .ok (.aload_n 0, 1) := by decide +kernel
theorem dX4_image_14 : decode cX4_image 14 = .ok (.getfield 39, 3) := by decide +kernel
theorem dX4_image_17 : decode cX4_image 17 = .ok (.aload_n 0, 1) := by decide +kernel
theorem dX4_image_18 : decode cX4_image 18 = .ok (.getfield 19, 3) := by decide +kernel
theorem dX4_image_21 : decode cX4_image 21 = .ok (.invokevirtual 170, 3) := by decide +kernel
theorem dX4_image_24 : decode cX4_image 24 = .ok (.aload_n 0, 1) := by decide +kernel
theorem dX4_image_25 : decode cX4_image 25 = .ok (.getfield 42, 3) := by decide +kernel
theorem dX4_image_28 : decode cX4_image 28 = .ok (.aload_n 0, 1) := by decide +kernel
theorem dX4_image_29 : decode cX4_image 29 = .ok (.getfield 26, 3) := by decide +kernel
theorem dX4_image_32 : decode cX4_image 32 = .ok (.invokevirtual 173, 3) := by decide +kernel
theorem dX4_image_35 : decode cX4_image 35 = .ok (.aload_n 0, 1) := by decide +kernel
theorem dX4_image_36 : decode cX4_image 36 = .ok (.iconst 1, 1) := by decide +kernel
theorem dX4_image_37 : decode cX4_image 37 = .ok (.putfield 45, 3) := by decide +kernel
theorem dX4_image_40 : decode cX4_image 40 = .ok (.aload_n 0, 1) := by decide +kernel
theorem dX4_image_41 : decode cX4_image 41 = .ok (.getfield 19, 3) := by decide +kernel
theorem dX4_image_44 : decode cX4_image 44 = .ok (.getfield 125, 3) := by decide +kernel
theorem dX4_image_47 : decode cX4_image 47 = .ok (.ireturn, 1) := by decide +kernel
theorem dX4_restore_0 : decode cX4_restore 0 = .ok (.aload_n 0, 1) := by decide +kernel
theorem dX4_restore_1 : decode cX4_restore 1 = .ok (.getfield 45, 3) := by decide +kernel
theorem dX4_restore_4 : decode cX4_restore 4 = .ok (.ifCond .ne 6, 3) := by decide +kernel
theorem dX4_restore_7 : decode cX4_restore 7 = .ok (.bipush (-103), 2) := by decide +kernel
theorem dX4_restore_9 : decode cX4_restore 9 = .ok (.ireturn, 1) := by decide +kernel
theorem dX4_restore_10 : decode cX4_restore 10 = .ok (.aload_n 0, 1) := by decide +kernel
theorem dX4_restore_11 : decode cX4_restore 11 = .ok (.getfield 19, 3) := by decide +kernel
theorem dX4_restore_14 : decode cX4_restore 14 = .ok (.aload_n 0, 1) := by decide +kernel
theorem dX4_restore_15 : decode cX4_restore 15 = .ok (.getfield 39, 3) := by decide +kernel
theorem dX4_restore_18 : decode cX4_restore 18 = .ok (.invokevirtual 170, 3) := by decide +kernel
theorem dX4_restore_21 : decode cX4_restore 21 = .ok (.aload_n 0, 1) := by decide +kernel
theorem dX4_restore_22 : decode cX4_restore 22 = .ok (.getfield 26, 3) := by decide +kernel
theorem dX4_restore_25 : decode cX4_restore 25 = .ok (.aload_n 0, 1) := by decide +kernel
theorem dX4_restore_26 : decode cX4_restore 26 = .ok (.getfield 42, 3) := by decide +kernel
theorem dX4_restore_29 : decode cX4_restore 29 = .ok (.invokevirtual 173, 3) := by decide +kernel
theorem dX4_restore_32 : decode cX4_restore 32 = .ok (.aload_n 0, 1) := by decide +kernel
theorem dX4_restore_33 : decode cX4_restore 33 = .ok (.getfield 35, 3) := by decide +kernel
theorem dX4_restore_36 : decode cX4_restore 36 = .ok (.iconst 1, 1) := by decide +kernel
theorem dX4_restore_37 : decode cX4_restore 37 = .ok (.putfield 75, 3) := by decide +kernel
theorem dX4_restore_40 : decode cX4_restore 40 = .ok (.aload_n 0, 1) := by decide +kernel
theorem dX4_restore_41 : decode cX4_restore 41 = .ok (.getfield 19, 3) := by decide +kernel
theorem dX4_restore_44 : decode cX4_restore 44 = .ok (.getfield 125, 3) := by decide +kernel
theorem dX4_restore_47 : decode cX4_restore 47 = .ok (.ireturn, 1) := by decide +kernel
theorem dX4_count_0 : decode cX4_count 0 = .ok (.iload_n 1, 1) := by decide +kernel
theorem dX4_count_1 : decode cX4_count 1 = .ok (.tableswitch 127 0 8 #[51, 59, 67, 75, 90, 98, 106, 114, 122], 51) := by decide +kernel
theorem dX4_count_52 : decode cX4_count 52 = .ok (.aload_n 0, 1) := by decide +kernel
theorem dX4_count_53 : decode cX4_count 53 = .ok (.getfield 19, 3) := by decide +kernel
theorem dX4_count_56 : decode cX4_count 56 = .ok (.getfield 78, 3) := by decide +kernel
theorem dX4_count_59 : decode cX4_count 59 = .ok (.ireturn, 1) := by decide +kernel
theorem dX4_count_60 : decode cX4_count 60 = .ok (.aload_n 0, 1) := by decide +kernel
theorem dX4_count_61 : decode cX4_count 61 = .ok (.getfield 19, 3) := by decide +kernel
theorem dX4_count_64 : decode cX4_count 64 = .ok (.getfield 176, 3) := by decide +kernel
theorem dX4_count_67 : decode cX4_count 67 = .ok (.ireturn, 1) := by decide +kernel
theorem dX4_count_68 : decode cX4_count 68 = .ok (.aload_n 0, 1) := by decide +kernel
theorem dX4_count_69 : decode cX4_count 69 = .ok (.getfield 19, 3) := by decide +kernel
theorem dX4_count_72 : decode cX4_count 72 = .ok (.invokevirtual 179, 3) := by decide +kernel
theorem dX4_count_75 : decode cX4_count 75 = .ok (.ireturn, 1) := by decide +kernel
theorem dX4_count_76 : decode cX4_count 76 = .ok (.aload_n 0, 1) := by decide +kernel
theorem dX4_count_77 : decode cX4_count 77 = .ok (.getfield 19, 3) := by decide +kernel
theorem dX4_count_80 : decode cX4_count 80 = .ok (.aload_n 0, 1) := by decide +kernel
theorem dX4_count_81 : decode cX4_count 81 = .ok (.getfield 19, 3) := by decide +kernel
theorem dX4_count_84 : decode cX4_count 84 = .ok (.getfield 93, 3) := by decide +kernel
theorem dX4_count_87 : decode cX4_count 87 = .ok (.invokevirtual 132, 3) := by decide +kernel
theorem dX4_count_90 : decode cX4_count 90 = .ok (.ireturn, 1) := by decide +kernel
theorem dX4_count_91 : decode cX4_count 91 = .ok (.aload_n 0, 1) := by decide +kernel
theorem dX4_count_92 : decode cX4_count 92 = .ok (.getfield 19, 3) := by decide +kernel
theorem dX4_count_95 : decode cX4_count 95 = .ok (.invokevirtual 182, 3) := by decide +kernel
theorem dX4_count_98 : decode cX4_count 98 = .ok (.ireturn, 1) := by decide +kernel
theorem dX4_count_99 : decode cX4_count 99 = .ok (.aload_n 0, 1) := by decide +kernel
theorem dX4_count_100 : decode cX4_count 100 = .ok (.getfield 19, 3) := by decide +kernel
theorem dX4_count_103 : decode cX4_count 103 = .ok (.getfield 125, 3) := by decide +kernel
theorem dX4_count_106 : decode cX4_count 106 = .ok (.ireturn, 1) := by decide +kernel
theorem dX4_count_107 : decode cX4_count 107 = .ok (.aload_n 0, 1) := by decide +kernel
theorem dX4_count_108 : decode cX4_count 108 = .ok (.getfield 26, 3) := by decide +kernel
theorem dX4_count_111 : decode cX4_count 111 = .ok (.getfield 72, 3) := by decide +kernel
theorem dX4_count_114 : decode cX4_count 114 = .ok (.ireturn, 1) := by decide +kernel
theorem dX4_count_115 : decode cX4_count 115 = .ok (.aload_n 0, 1) := by decide +kernel
theorem dX4_count_116 : decode cX4_count 116 = .ok (.getfield 10, 3) := by decide +kernel
theorem dX4_count_119 : decode cX4_count 119 = .ok (.getfield 53, 3) := by decide +kernel
theorem dX4_count_122 : decode cX4_count 122 = .ok (.ireturn, 1) := by decide +kernel
theorem dX4_count_123 : decode cX4_count 123 = .ok (.aload_n 0, 1) := by decide +kernel
theorem dX4_count_124 : decode cX4_count 124 = .ok (.getfield 49, 3) := by decide +kernel
theorem dX4_count_127 : decode cX4_count 127 = .ok (.ireturn, 1) := by decide +kernel
theorem dX4_count_128 : decode cX4_count 128 = .ok (.bipush (-102), 2) := by decide +kernel
theorem dX4_count_130 : decode cX4_count 130 = .ok (.ireturn, 1) := by decide +kernel
theorem dX4_digest_0 : decode cX4_digest 0 = .ok (.ldc2_w 185, 3) := by decide +kernel
theorem dX4_digest_3 : decode cX4_digest 3 = .ok (.lstore_n 1, 1) := by decide +kernel
theorem dX4_digest_4 : decode cX4_digest 4 = .ok (.iconst 1, 1) := by decide +kernel
theorem dX4_digest_5 : decode cX4_digest 5 = .ok (.istore_n 3, 1) := by decide +kernel
theorem dX4_digest_6 : decode cX4_digest 6 = .ok (.iload_n 3, 1) := by decide +kernel
theorem dX4_digest_7 : decode cX4_digest 7 = .ok (.aload_n 0, 1) := by decide +kernel
theorem dX4_digest_8 : decode cX4_digest 8 = .ok (.getfield 19, 3) := by decide +kernel
theorem dX4_digest_11 : decode cX4_digest 11 = .ok (.getfield 78, 3) := by decide +kernel
theorem dX4_digest_14 : decode cX4_digest 14 = .ok (.if_icmp .gt 69, 3) := by decide +kernel
theorem dX4_digest_17 : decode cX4_digest 17 = .ok (.iconst 0, 1) := by decide +kernel
theorem dX4_digest_18 : decode cX4_digest 18 = .ok (.istore 4, 2) := by decide +kernel
theorem dX4_digest_20 : decode cX4_digest 20 = .ok (.iload 4, 2) := by decide +kernel
theorem dX4_digest_22 : decode cX4_digest 22 = .ok (.iconst 5, 1) := by decide +kernel
theorem dX4_digest_23 : decode cX4_digest 23 = .ok (.if_icmp .gt 24, 3) := by decide +kernel
theorem dX4_digest_26 : decode cX4_digest 26 = .ok (.ldc2_w 187, 3) := by decide +kernel
theorem dX4_digest_29 : decode cX4_digest 29 = .ok (.lload_n 1, 1) := by decide +kernel
theorem dX4_digest_30 : decode cX4_digest 30 = .ok (.lmul, 1) := by decide +kernel
theorem dX4_digest_31 : decode cX4_digest 31 = .ok (.aload_n 0, 1) := by decide +kernel
theorem dX4_digest_32 : decode cX4_digest 32 = .ok (.iload_n 3, 1) := by decide +kernel
theorem dX4_digest_33 : decode cX4_digest 33 = .ok (.iload 4, 2) := by decide +kernel
theorem dX4_digest_35 : decode cX4_digest 35 = .ok (.invokevirtual 189, 3) := by decide +kernel
theorem dX4_digest_38 : decode cX4_digest 38 = .ok (.i2l, 1) := by decide +kernel
theorem dX4_digest_39 : decode cX4_digest 39 = .ok (.ladd, 1) := by decide +kernel
theorem dX4_digest_40 : decode cX4_digest 40 = .ok (.lstore_n 1, 1) := by decide +kernel
theorem dX4_digest_41 : decode cX4_digest 41 = .ok (.iinc 4 1, 3) := by decide +kernel
theorem dX4_digest_44 : decode cX4_digest 44 = .ok (.goto (-24), 3) := by decide +kernel
theorem dX4_digest_47 : decode cX4_digest 47 = .ok (.ldc2_w 187, 3) := by decide +kernel
theorem dX4_digest_50 : decode cX4_digest 50 = .ok (.lload_n 1, 1) := by decide +kernel
theorem dX4_digest_51 : decode cX4_digest 51 = .ok (.lmul, 1) := by decide +kernel
theorem dX4_digest_52 : decode cX4_digest 52 = .ok (.aload_n 0, 1) := by decide +kernel
theorem dX4_digest_53 : decode cX4_digest 53 = .ok (.iload_n 3, 1) := by decide +kernel
theorem dX4_digest_54 : decode cX4_digest 54 = .ok (.iconst 0, 1) := by decide +kernel
theorem dX4_digest_55 : decode cX4_digest 55 = .ok (.iconst 0, 1) := by decide +kernel
theorem dX4_digest_56 : decode cX4_digest 56 = .ok (.invokevirtual 192, 3) := by decide +kernel
theorem dX4_digest_59 : decode cX4_digest 59 = .ok (.i2l, 1) := by decide +kernel
theorem dX4_digest_60 : decode cX4_digest 60 = .ok (.ladd, 1) := by decide +kernel
theorem dX4_digest_61 : decode cX4_digest 61 = .ok (.lstore_n 1, 1) := by decide +kernel
theorem dX4_digest_62 : decode cX4_digest 62 = .ok (.ldc2_w 187, 3) := by decide +kernel
theorem dX4_digest_65 : decode cX4_digest 65 = .ok (.lload_n 1, 1) := by decide +kernel
theorem dX4_digest_66 : decode cX4_digest 66 = .ok (.lmul, 1) := by decide +kernel
theorem dX4_digest_67 : decode cX4_digest 67 = .ok (.aload_n 0, 1) := by decide +kernel
theorem dX4_digest_68 : decode cX4_digest 68 = .ok (.iload_n 3, 1) := by decide +kernel
theorem dX4_digest_69 : decode cX4_digest 69 = .ok (.iconst 0, 1) := by decide +kernel
theorem dX4_digest_70 : decode cX4_digest 70 = .ok (.iconst 1, 1) := by decide +kernel
theorem dX4_digest_71 : decode cX4_digest 71 = .ok (.invokevirtual 192, 3) := by decide +kernel
theorem dX4_digest_74 : decode cX4_digest 74 = .ok (.i2l, 1) := by decide +kernel
theorem dX4_digest_75 : decode cX4_digest 75 = .ok (.ladd, 1) := by decide +kernel
theorem dX4_digest_76 : decode cX4_digest 76 = .ok (.lstore_n 1, 1) := by decide +kernel
theorem dX4_digest_77 : decode cX4_digest 77 = .ok (.iinc 3 1, 3) := by decide +kernel
theorem dX4_digest_80 : decode cX4_digest 80 = .ok (.goto (-74), 3) := by decide +kernel
theorem dX4_digest_83 : decode cX4_digest 83 = .ok (.aload_n 0, 1) := by decide +kernel
theorem dX4_digest_84 : decode cX4_digest 84 = .ok (.getfield 19, 3) := by decide +kernel
theorem dX4_digest_87 : decode cX4_digest 87 = .ok (.invokevirtual 140, 3) := by decide +kernel
theorem dX4_digest_90 : decode cX4_digest 90 = .ok (.ifCond .eq 67, 3) := by decide +kernel
theorem dX4_digest_93 : decode cX4_digest 93 = .ok (.iconst 0, 1) := by decide +kernel
theorem dX4_digest_94 : decode cX4_digest 94 = .ok (.istore_n 3, 1) := by decide +kernel
theorem dX4_digest_95 : decode cX4_digest 95 = .ok (.iload_n 3, 1) := by decide +kernel
theorem dX4_digest_96 : decode cX4_digest 96 = .ok (.iconst 2, 1) := by decide +kernel
theorem dX4_digest_97 : decode cX4_digest 97 = .ok (.if_icmp .gt 22, 3) := by decide +kernel
theorem dX4_digest_100 : decode cX4_digest 100 = .ok (.ldc2_w 187, 3) := by decide +kernel
theorem dX4_digest_103 : decode cX4_digest 103 = .ok (.lload_n 1, 1) := by decide +kernel
theorem dX4_digest_104 : decode cX4_digest 104 = .ok (.lmul, 1) := by decide +kernel
theorem dX4_digest_105 : decode cX4_digest 105 = .ok (.aload_n 0, 1) := by decide +kernel
theorem dX4_digest_106 : decode cX4_digest 106 = .ok (.iload_n 3, 1) := by decide +kernel
theorem dX4_digest_107 : decode cX4_digest 107 = .ok (.invokevirtual 196, 3) := by decide +kernel
theorem dX4_digest_110 : decode cX4_digest 110 = .ok (.i2l, 1) := by decide +kernel
theorem dX4_digest_111 : decode cX4_digest 111 = .ok (.ladd, 1) := by decide +kernel
theorem dX4_digest_112 : decode cX4_digest 112 = .ok (.lstore_n 1, 1) := by decide +kernel
theorem dX4_digest_113 : decode cX4_digest 113 = .ok (.iinc 3 1, 3) := by decide +kernel
theorem dX4_digest_116 : decode cX4_digest 116 = .ok (.goto (-21), 3) := by decide +kernel
theorem dX4_digest_119 : decode cX4_digest 119 = .ok (.ldc2_w 187, 3) := by decide +kernel
theorem dX4_digest_122 : decode cX4_digest 122 = .ok (.lload_n 1, 1) := by decide +kernel
theorem dX4_digest_123 : decode cX4_digest 123 = .ok (.lmul, 1) := by decide +kernel
theorem dX4_digest_124 : decode cX4_digest 124 = .ok (.aload_n 0, 1) := by decide +kernel
theorem dX4_digest_125 : decode cX4_digest 125 = .ok (.invokevirtual 198, 3) := by decide +kernel
theorem dX4_digest_128 : decode cX4_digest 128 = .ok (.i2l, 1) := by decide +kernel
theorem dX4_digest_129 : decode cX4_digest 129 = .ok (.ladd, 1) := by decide +kernel
theorem dX4_digest_130 : decode cX4_digest 130 = .ok (.lstore_n 1, 1) := by decide +kernel
theorem dX4_digest_131 : decode cX4_digest 131 = .ok (.ldc2_w 187, 3) := by decide +kernel
theorem dX4_digest_134 : decode cX4_digest 134 = .ok (.lload_n 1, 1) := by decide +kernel
theorem dX4_digest_135 : decode cX4_digest 135 = .ok (.lmul, 1) := by decide +kernel
theorem dX4_digest_136 : decode cX4_digest 136 = .ok (.aload_n 0, 1) := by decide +kernel
theorem dX4_digest_137 : decode cX4_digest 137 = .ok (.iconst 0, 1) := by decide +kernel
theorem dX4_digest_138 : decode cX4_digest 138 = .ok (.invokevirtual 201, 3) := by decide +kernel
theorem dX4_digest_141 : decode cX4_digest 141 = .ok (.i2l, 1) := by decide +kernel
theorem dX4_digest_142 : decode cX4_digest 142 = .ok (.ladd, 1) := by decide +kernel
theorem dX4_digest_143 : decode cX4_digest 143 = .ok (.lstore_n 1, 1) := by decide +kernel
theorem dX4_digest_144 : decode cX4_digest 144 = .ok (.ldc2_w 187, 3) := by decide +kernel
theorem dX4_digest_147 : decode cX4_digest 147 = .ok (.lload_n 1, 1) := by decide +kernel
theorem dX4_digest_148 : decode cX4_digest 148 = .ok (.lmul, 1) := by decide +kernel
theorem dX4_digest_149 : decode cX4_digest 149 = .ok (.aload_n 0, 1) := by decide +kernel
theorem dX4_digest_150 : decode cX4_digest 150 = .ok (.iconst 1, 1) := by decide +kernel
theorem dX4_digest_151 : decode cX4_digest 151 = .ok (.invokevirtual 201, 3) := by decide +kernel
theorem dX4_digest_154 : decode cX4_digest 154 = .ok (.i2l, 1) := by decide +kernel
theorem dX4_digest_155 : decode cX4_digest 155 = .ok (.ladd, 1) := by decide +kernel
theorem dX4_digest_156 : decode cX4_digest 156 = .ok (.lstore_n 1, 1) := by decide +kernel
theorem dX4_digest_157 : decode cX4_digest 157 = .ok (.iconst 0, 1) := by decide +kernel
theorem dX4_digest_158 : decode cX4_digest 158 = .ok (.istore_n 3, 1) := by decide +kernel
theorem dX4_digest_159 : decode cX4_digest 159 = .ok (.iload_n 3, 1) := by decide +kernel
theorem dX4_digest_160 : decode cX4_digest 160 = .ok (.aload_n 0, 1) := by decide +kernel
theorem dX4_digest_161 : decode cX4_digest 161 = .ok (.getfield 10, 3) := by decide +kernel
theorem dX4_digest_164 : decode cX4_digest 164 = .ok (.getfield 53, 3) := by decide +kernel
theorem dX4_digest_167 : decode cX4_digest 167 = .ok (.if_icmp .ge 25, 3) := by decide +kernel
theorem dX4_digest_170 : decode cX4_digest 170 = .ok (.ldc2_w 187, 3) := by decide +kernel
theorem dX4_digest_173 : decode cX4_digest 173 = .ok (.lload_n 1, 1) := by decide +kernel
theorem dX4_digest_174 : decode cX4_digest 174 = .ok (.lmul, 1) := by decide +kernel
theorem dX4_digest_175 : decode cX4_digest 175 = .ok (.aload_n 0, 1) := by decide +kernel
theorem dX4_digest_176 : decode cX4_digest 176 = .ok (.getfield 10, 3) := by decide +kernel
theorem dX4_digest_179 : decode cX4_digest 179 = .ok (.iload_n 3, 1) := by decide +kernel
theorem dX4_digest_180 : decode cX4_digest 180 = .ok (.invokevirtual 204, 3) := by decide +kernel
theorem dX4_digest_183 : decode cX4_digest 183 = .ok (.i2l, 1) := by decide +kernel
theorem dX4_digest_184 : decode cX4_digest 184 = .ok (.ladd, 1) := by decide +kernel
theorem dX4_digest_185 : decode cX4_digest 185 = .ok (.lstore_n 1, 1) := by decide +kernel
theorem dX4_digest_186 : decode cX4_digest 186 = .ok (.iinc 3 1, 3) := by decide +kernel
theorem dX4_digest_189 : decode cX4_digest 189 = .ok (.goto (-30), 3) := by decide +kernel
theorem dX4_digest_192 : decode cX4_digest 192 = .ok (.iconst 0, 1) := by decide +kernel
theorem dX4_digest_193 : decode cX4_digest 193 = .ok (.istore_n 3, 1) := by decide +kernel
theorem dX4_digest_194 : decode cX4_digest 194 = .ok (.iload_n 3, 1) := by decide +kernel
theorem dX4_digest_195 : decode cX4_digest 195 = .ok (.bipush 8, 2) := by decide +kernel
theorem dX4_digest_197 : decode cX4_digest 197 = .ok (.if_icmp .gt 22, 3) := by decide +kernel
theorem dX4_digest_200 : decode cX4_digest 200 = .ok (.ldc2_w 187, 3) := by decide +kernel
theorem dX4_digest_203 : decode cX4_digest 203 = .ok (.lload_n 1, 1) := by decide +kernel
theorem dX4_digest_204 : decode cX4_digest 204 = .ok (.lmul, 1) := by decide +kernel
theorem dX4_digest_205 : decode cX4_digest 205 = .ok (.aload_n 0, 1) := by decide +kernel
theorem dX4_digest_206 : decode cX4_digest 206 = .ok (.iload_n 3, 1) := by decide +kernel
theorem dX4_digest_207 : decode cX4_digest 207 = .ok (.invokevirtual 207, 3) := by decide +kernel
theorem dX4_digest_210 : decode cX4_digest 210 = .ok (.i2l, 1) := by decide +kernel
theorem dX4_digest_211 : decode cX4_digest 211 = .ok (.ladd, 1) := by decide +kernel
theorem dX4_digest_212 : decode cX4_digest 212 = .ok (.lstore_n 1, 1) := by decide +kernel
theorem dX4_digest_213 : decode cX4_digest 213 = .ok (.iinc 3 1, 3) := by decide +kernel
theorem dX4_digest_216 : decode cX4_digest 216 = .ok (.goto (-22), 3) := by decide +kernel
theorem dX4_digest_219 : decode cX4_digest 219 = .ok (.lload_n 1, 1) := by decide +kernel
theorem dX4_digest_220 : decode cX4_digest 220 = .ok (.lreturn, 1) := by decide +kernel
theorem dX4_at_0 : decode cX4_at 0 = .ok (.iload_n 1, 1) := by decide +kernel
theorem dX4_at_1 : decode cX4_at 1 = .ok (.ifCond .lt 15, 3) := by decide +kernel
theorem dX4_at_4 : decode cX4_at 4 = .ok (.iload_n 1, 1) := by decide +kernel
theorem dX4_at_5 : decode cX4_at 5 = .ok (.aload_n 0, 1) := by decide +kernel
theorem dX4_at_6 : decode cX4_at 6 = .ok (.arraylength, 1) := by decide +kernel
theorem dX4_at_7 : decode cX4_at 7 = .ok (.if_icmp .ge 9, 3) := by decide +kernel
theorem dX4_at_10 : decode cX4_at 10 = .ok (.aload_n 0, 1) := by decide +kernel
theorem dX4_at_11 : decode cX4_at 11 = .ok (.iload_n 1, 1) := by decide +kernel
theorem dX4_at_12 : decode cX4_at 12 = .ok (.iaload, 1) := by decide +kernel
theorem dX4_at_13 : decode cX4_at 13 = .ok (.goto 4, 3) := by decide +kernel
theorem dX4_at_16 : decode cX4_at 16 = .ok (.iconst 0, 1) := by decide +kernel
theorem dX4_at_17 : decode cX4_at 17 = .ok (.ireturn, 1) := by decide +kernel
theorem dX4_put_0 : decode cX4_put 0 = .ok (.iload_n 1, 1) := by decide +kernel
theorem dX4_put_1 : decode cX4_put 1 = .ok (.ifCond .lt 13, 3) := by decide +kernel
theorem dX4_put_4 : decode cX4_put 4 = .ok (.iload_n 1, 1) := by decide +kernel
theorem dX4_put_5 : decode cX4_put 5 = .ok (.aload_n 0, 1) := by decide +kernel
theorem dX4_put_6 : decode cX4_put 6 = .ok (.arraylength, 1) := by decide +kernel
theorem dX4_put_7 : decode cX4_put 7 = .ok (.if_icmp .ge 7, 3) := by decide +kernel
theorem dX4_put_10 : decode cX4_put 10 = .ok (.aload_n 0, 1) := by decide +kernel
theorem dX4_put_11 : decode cX4_put 11 = .ok (.iload_n 1, 1) := by decide +kernel
theorem dX4_put_12 : decode cX4_put 12 = .ok (.iload_n 2, 1) := by decide +kernel
theorem dX4_put_13 : decode cX4_put 13 = .ok (.iastore, 1) := by decide +kernel
theorem dX4_put_14 : decode cX4_put 14 = .ok (.return_, 1) := by decide +kernel
theorem dX4_copyRow_0 : decode cX4_copyRow 0 = .ok (.aload_n 0, 1) := by decide +kernel
theorem dX4_copyRow_1 : decode cX4_copyRow 1 = .ok (.iconst 0, 1) := by decide +kernel
theorem dX4_copyRow_2 : decode cX4_copyRow 2 = .ok (.aload_n 1, 1) := by decide +kernel
theorem dX4_copyRow_3 : decode cX4_copyRow 3 = .ok (.iconst 0, 1) := by decide +kernel
theorem dX4_copyRow_4 : decode cX4_copyRow 4 = .ok (.aload_n 0, 1) := by decide +kernel
theorem dX4_copyRow_5 : decode cX4_copyRow 5 = .ok (.arraylength, 1) := by decide +kernel
theorem dX4_copyRow_6 : decode cX4_copyRow 6 = .ok (.aload_n 1, 1) := by decide +kernel
theorem dX4_copyRow_7 : decode cX4_copyRow 7 = .ok (.arraylength, 1) := by decide +kernel
theorem dX4_copyRow_8 : decode cX4_copyRow 8 = .ok (.invokestatic 210, 3) := by decide +kernel
theorem dX4_copyRow_11 : decode cX4_copyRow 11 = .ok (.invokestatic 215, 3) := by decide +kernel
theorem dX4_copyRow_14 : decode cX4_copyRow 14 = .ok (.return_, 1) := by decide +kernel
theorem dX4_isKind_0 : decode cX4_isKind 0 = .ok (.iload_n 0, 1) := by decide +kernel
theorem dX4_isKind_1 : decode cX4_isKind 1 = .ok (.ifCond .lt 12, 3) := by decide +kernel
theorem dX4_isKind_4 : decode cX4_isKind 4 = .ok (.iload_n 0, 1) := by decide +kernel
theorem dX4_isKind_5 : decode cX4_isKind 5 = .ok (.iconst 5, 1) := by decide +kernel
theorem dX4_isKind_6 : decode cX4_isKind 6 = .ok (.if_icmp .ge 7, 3) := by decide +kernel
theorem dX4_isKind_9 : decode cX4_isKind 9 = .ok (.iconst 1, 1) := by decide +kernel
theorem dX4_isKind_10 : decode cX4_isKind 10 = .ok (.goto 4, 3) := by decide +kernel
theorem dX4_isKind_13 : decode cX4_isKind 13 = .ok (.iconst 0, 1) := by decide +kernel
theorem dX4_isKind_14 : decode cX4_isKind 14 = .ok (.ireturn, 1) := by decide +kernel
theorem dX4_kindHasRole_0 : decode cX4_kindHasRole 0 = .ok (.getstatic 221, 3) := by decide +kernel
theorem dX4_kindHasRole_3 : decode cX4_kindHasRole 3 = .ok (.iload_n 0, 1) := by decide +kernel
theorem dX4_kindHasRole_4 : decode cX4_kindHasRole 4 = .ok (.invokestatic 89, 3) := by decide +kernel
theorem dX4_kindHasRole_7 : decode cX4_kindHasRole 7 = .ok (.iconst 1, 1) := by decide +kernel
theorem dX4_kindHasRole_8 : decode cX4_kindHasRole 8 = .ok (.iload_n 1, 1) := by decide +kernel
theorem dX4_kindHasRole_9 : decode cX4_kindHasRole 9 = .ok (.ishl, 1) := by decide +kernel
theorem dX4_kindHasRole_10 : decode cX4_kindHasRole 10 = .ok (.iand, 1) := by decide +kernel
theorem dX4_kindHasRole_11 : decode cX4_kindHasRole 11 = .ok (.ifCond .eq 7, 3) := by decide +kernel
theorem dX4_kindHasRole_14 : decode cX4_kindHasRole 14 = .ok (.iconst 1, 1) := by decide +kernel
theorem dX4_kindHasRole_15 : decode cX4_kindHasRole 15 = .ok (.goto 4, 3) := by decide +kernel
theorem dX4_kindHasRole_18 : decode cX4_kindHasRole 18 = .ok (.iconst 0, 1) := by decide +kernel
theorem dX4_kindHasRole_19 : decode cX4_kindHasRole 19 = .ok (.ireturn, 1) := by decide +kernel
theorem dX4_greatestCommonDivisor_0 : decode cX4_greatestCommonDivisor 0 = .ok (.iload_n 0, 1) := by decide +kernel
theorem dX4_greatestCommonDivisor_1 : decode cX4_greatestCommonDivisor 1 = .ok (.istore_n 2, 1) := by decide +kernel
theorem dX4_greatestCommonDivisor_2 : decode cX4_greatestCommonDivisor 2 = .ok (.iload_n 1, 1) := by decide +kernel
theorem dX4_greatestCommonDivisor_3 : decode cX4_greatestCommonDivisor 3 = .ok (.istore_n 3, 1) := by decide +kernel
theorem dX4_greatestCommonDivisor_4 : decode cX4_greatestCommonDivisor 4 = .ok (.iconst 0, 1) := by decide +kernel
theorem dX4_greatestCommonDivisor_5 : decode cX4_greatestCommonDivisor 5 = .ok (.istore 4, 2) := by decide +kernel
theorem dX4_greatestCommonDivisor_7 : decode cX4_greatestCommonDivisor 7 = .ok (.iload 4, 2) := by decide +kernel
theorem dX4_greatestCommonDivisor_9 : decode cX4_greatestCommonDivisor 9 = .ok (.bipush 64, 2) := by decide +kernel
theorem dX4_greatestCommonDivisor_11 : decode cX4_greatestCommonDivisor 11 = .ok (.if_icmp .ge 23, 3) := by decide +kernel
theorem dX4_greatestCommonDivisor_14 : decode cX4_greatestCommonDivisor 14 = .ok (.iload_n 3, 1) := by decide +kernel
theorem dX4_greatestCommonDivisor_15 : decode cX4_greatestCommonDivisor 15 = .ok (.ifCond .le 19, 3) := by decide +kernel
theorem dX4_greatestCommonDivisor_18 : decode cX4_greatestCommonDivisor 18 = .ok (.iload_n 2, 1) := by decide +kernel
theorem dX4_greatestCommonDivisor_19 : decode cX4_greatestCommonDivisor 19 = .ok (.iload_n 3, 1) := by decide +kernel
theorem dX4_greatestCommonDivisor_20 : decode cX4_greatestCommonDivisor 20 = .ok (.irem, 1) := by decide +kernel
theorem dX4_greatestCommonDivisor_21 : decode cX4_greatestCommonDivisor 21 = .ok (.istore 5, 2) := by decide +kernel
theorem dX4_greatestCommonDivisor_23 : decode cX4_greatestCommonDivisor 23 = .ok (.iload_n 3, 1) := by decide +kernel
theorem dX4_greatestCommonDivisor_24 : decode cX4_greatestCommonDivisor 24 = .ok (.istore_n 2, 1) := by decide +kernel
theorem dX4_greatestCommonDivisor_25 : decode cX4_greatestCommonDivisor 25 = .ok (.iload 5, 2) := by decide +kernel
theorem dX4_greatestCommonDivisor_27 : decode cX4_greatestCommonDivisor 27 = .ok (.istore_n 3, 1) := by decide +kernel
theorem dX4_greatestCommonDivisor_28 : decode cX4_greatestCommonDivisor 28 = .ok (.iinc 4 1, 3) := by decide +kernel
theorem dX4_greatestCommonDivisor_31 : decode cX4_greatestCommonDivisor 31 = .ok (.goto (-24), 3) := by decide +kernel
theorem dX4_greatestCommonDivisor_34 : decode cX4_greatestCommonDivisor 34 = .ok (.iload_n 2, 1) := by decide +kernel
theorem dX4_greatestCommonDivisor_35 : decode cX4_greatestCommonDivisor 35 = .ok (.ireturn, 1) := by decide +kernel
