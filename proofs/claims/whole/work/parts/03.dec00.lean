theorem dX0_init_0 : decode cX0_init 0 = .ok (.aload_n 0, 1) := by decide +kernel
theorem dX0_init_1 : decode cX0_init 1 = .ok (.invokespecial 3, 3) := by decide +kernel
theorem dX0_init_4 : decode cX0_init 4 = .ok (.aload_n 0, 1) := by decide +kernel
theorem dX0_init_5 : decode cX0_init 5 = .ok (.bipush 8, 2) := by decide +kernel
theorem dX0_init_7 : decode cX0_init 7 = .ok (.newarray .int, 2) := by decide +kernel
theorem dX0_init_9 : decode cX0_init 9 = .ok (.putfield 9, 3) := by decide +kernel
theorem dX0_init_12 : decode cX0_init 12 = .ok (.aload_n 0, 1) := by decide +kernel
theorem dX0_init_13 : decode cX0_init 13 = .ok (.bipush 8, 2) := by decide +kernel
theorem dX0_init_15 : decode cX0_init 15 = .ok (.newarray .boolean, 2) := by decide +kernel
theorem dX0_init_17 : decode cX0_init 17 = .ok (.putfield 15, 3) := by decide +kernel
theorem dX0_init_20 : decode cX0_init 20 = .ok (.return_, 1) := by decide +kernel
theorem dX0_add_0 : decode cX0_add 0 = .ok (.aload_n 0, 1) := by decide +kernel
theorem dX0_add_1 : decode cX0_add 1 = .ok (.getfield 19, 3) := by decide +kernel
theorem dX0_add_4 : decode cX0_add 4 = .ok (.bipush 8, 2) := by decide +kernel
theorem dX0_add_6 : decode cX0_add 6 = .ok (.if_icmp .lt 5, 3) := by decide +kernel
theorem dX0_add_9 : decode cX0_add 9 = .ok (.iconst 0, 1) := by decide +kernel
theorem dX0_add_10 : decode cX0_add 10 = .ok (.ireturn, 1) := by decide +kernel
theorem dX0_add_11 : decode cX0_add 11 = .ok (.aload_n 0, 1) := by decide +kernel
theorem dX0_add_12 : decode cX0_add 12 = .ok (.getfield 9, 3) := by decide +kernel
theorem dX0_add_15 : decode cX0_add 15 = .ok (.aload_n 0, 1) := by decide +kernel
theorem dX0_add_16 : decode cX0_add 16 = .ok (.getfield 19, 3) := by decide +kernel
theorem dX0_add_19 : decode cX0_add 19 = .ok (.iload_n 1, 1) := by decide +kernel
theorem dX0_add_20 : decode cX0_add 20 = .ok (.iastore, 1) := by decide +kernel
theorem dX0_add_21 : decode cX0_add 21 = .ok (.aload_n 0, 1) := by decide +kernel
theorem dX0_add_22 : decode cX0_add 22 = .ok (.getfield 15, 3) := by decide +kernel
theorem dX0_add_25 : decode cX0_add 25 = .ok (.aload_n 0, 1) := by decide +kernel
theorem dX0_add_26 : decode cX0_add 26 = .ok (.getfield 19, 3) := by decide +kernel
theorem dX0_add_29 : decode cX0_add 29 = .ok (.iload_n 2, 1) := by decide +kernel
theorem dX0_add_30 : decode cX0_add 30 = .ok (.bastore, 1) := by decide +kernel
theorem dX0_add_31 : decode cX0_add 31 = .ok (.aload_n 0, 1) := by decide +kernel
theorem dX0_add_32 : decode cX0_add 32 = .ok (.dup, 1) := by decide +kernel
theorem dX0_add_33 : decode cX0_add 33 = .ok (.getfield 19, 3) := by decide +kernel
theorem dX0_add_36 : decode cX0_add 36 = .ok (.iconst 1, 1) := by decide +kernel
theorem dX0_add_37 : decode cX0_add 37 = .ok (.iadd, 1) := by decide +kernel
theorem dX0_add_38 : decode cX0_add 38 = .ok (.putfield 19, 3) := by decide +kernel
theorem dX0_add_41 : decode cX0_add 41 = .ok (.iconst 1, 1) := by decide +kernel
theorem dX0_add_42 : decode cX0_add 42 = .ok (.ireturn, 1) := by decide +kernel
theorem dX0_copyFrom_0 : decode cX0_copyFrom 0 = .ok (.iconst 0, 1) := by decide +kernel
theorem dX0_copyFrom_1 : decode cX0_copyFrom 1 = .ok (.istore_n 2, 1) := by decide +kernel
theorem dX0_copyFrom_2 : decode cX0_copyFrom 2 = .ok (.iload_n 2, 1) := by decide +kernel
theorem dX0_copyFrom_3 : decode cX0_copyFrom 3 = .ok (.bipush 8, 2) := by decide +kernel
theorem dX0_copyFrom_5 : decode cX0_copyFrom 5 = .ok (.if_icmp .ge 33, 3) := by decide +kernel
theorem dX0_copyFrom_8 : decode cX0_copyFrom 8 = .ok (.aload_n 0, 1) := by decide +kernel
theorem dX0_copyFrom_9 : decode cX0_copyFrom 9 = .ok (.getfield 9, 3) := by decide +kernel
theorem dX0_copyFrom_12 : decode cX0_copyFrom 12 = .ok (.iload_n 2, 1) := by decide +kernel
theorem dX0_copyFrom_13 : decode cX0_copyFrom 13 = .ok (.aload_n 1, 1) := by decide +kernel
theorem dX0_copyFrom_14 : decode cX0_copyFrom 14 = .ok (.getfield 9, 3) := by decide +kernel
theorem dX0_copyFrom_17 : decode cX0_copyFrom 17 = .ok (.iload_n 2, 1) := by decide +kernel
theorem dX0_copyFrom_18 : decode cX0_copyFrom 18 = .ok (.iaload, 1) := by decide +kernel
theorem dX0_copyFrom_19 : decode cX0_copyFrom 19 = .ok (.iastore, 1) := by decide +kernel
theorem dX0_copyFrom_20 : decode cX0_copyFrom 20 = .ok (.aload_n 0, 1) := by decide +kernel
theorem dX0_copyFrom_21 : decode cX0_copyFrom 21 = .ok (.getfield 15, 3) := by decide +kernel
theorem dX0_copyFrom_24 : decode cX0_copyFrom 24 = .ok (.iload_n 2, 1) := by decide +kernel
theorem dX0_copyFrom_25 : decode cX0_copyFrom 25 = .ok (.aload_n 1, 1) := by decide +kernel
theorem dX0_copyFrom_26 : decode cX0_copyFrom 26 = .ok (.getfield 15, 3) := by decide +kernel
theorem dX0_copyFrom_29 : decode cX0_copyFrom 29 = .ok (.iload_n 2, 1) := by decide +kernel
theorem dX0_copyFrom_30 : decode cX0_copyFrom 30 = .ok (.baload, 1) := by decide +kernel
theorem dX0_copyFrom_31 : decode cX0_copyFrom 31 = .ok (.bastore, 1) := by decide +kernel
theorem dX0_copyFrom_32 : decode cX0_copyFrom 32 = .ok (.iinc 2 1, 3) := by decide +kernel
theorem dX0_copyFrom_35 : decode cX0_copyFrom 35 = .ok (.goto (-33), 3) := by decide +kernel
theorem dX0_copyFrom_38 : decode cX0_copyFrom 38 = .ok (.aload_n 0, 1) := by decide +kernel
theorem dX0_copyFrom_39 : decode cX0_copyFrom 39 = .ok (.aload_n 1, 1) := by decide +kernel
theorem dX0_copyFrom_40 : decode cX0_copyFrom 40 = .ok (.getfield 19, 3) := by decide +kernel
theorem dX0_copyFrom_43 : decode cX0_copyFrom 43 = .ok (.putfield 19, 3) := by decide +kernel
theorem dX0_copyFrom_46 : decode cX0_copyFrom 46 = .ok (.return_, 1) := by decide +kernel
theorem dX0_narrow_0 : decode cX0_narrow 0 = .ok (.aload_n 0, 1) := by decide +kernel
theorem dX0_narrow_1 : decode cX0_narrow 1 = .ok (.iconst 0, 1) := by decide +kernel
theorem dX0_narrow_2 : decode cX0_narrow 2 = .ok (.putfield 23, 3) := by decide +kernel
theorem dX0_narrow_5 : decode cX0_narrow 5 = .ok (.aload_n 0, 1) := by decide +kernel
theorem dX0_narrow_6 : decode cX0_narrow 6 = .ok (.bipush 60, 2) := by decide +kernel
theorem dX0_narrow_8 : decode cX0_narrow 8 = .ok (.putfield 26, 3) := by decide +kernel
theorem dX0_narrow_11 : decode cX0_narrow 11 = .ok (.iconst 0, 1) := by decide +kernel
theorem dX0_narrow_12 : decode cX0_narrow 12 = .ok (.istore_n 3, 1) := by decide +kernel
theorem dX0_narrow_13 : decode cX0_narrow 13 = .ok (.iload_n 3, 1) := by decide +kernel
theorem dX0_narrow_14 : decode cX0_narrow 14 = .ok (.aload_n 0, 1) := by decide +kernel
theorem dX0_narrow_15 : decode cX0_narrow 15 = .ok (.getfield 19, 3) := by decide +kernel
theorem dX0_narrow_18 : decode cX0_narrow 18 = .ok (.if_icmp .ge 64, 3) := by decide +kernel
theorem dX0_narrow_21 : decode cX0_narrow 21 = .ok (.iconst 2, 1) := by decide +kernel
theorem dX0_narrow_22 : decode cX0_narrow 22 = .ok (.aload_n 1, 1) := by decide +kernel
theorem dX0_narrow_23 : decode cX0_narrow 23 = .ok (.iload_n 2, 1) := by decide +kernel
theorem dX0_narrow_24 : decode cX0_narrow 24 = .ok (.aload_n 0, 1) := by decide +kernel
theorem dX0_narrow_25 : decode cX0_narrow 25 = .ok (.getfield 9, 3) := by decide +kernel
theorem dX0_narrow_28 : decode cX0_narrow 28 = .ok (.iload_n 3, 1) := by decide +kernel
theorem dX0_narrow_29 : decode cX0_narrow 29 = .ok (.iaload, 1) := by decide +kernel
theorem dX0_narrow_30 : decode cX0_narrow 30 = .ok (.invokevirtual 29, 3) := by decide +kernel
theorem dX0_narrow_33 : decode cX0_narrow 33 = .ok (.imul, 1) := by decide +kernel
theorem dX0_narrow_34 : decode cX0_narrow 34 = .ok (.istore 4, 2) := by decide +kernel
theorem dX0_narrow_36 : decode cX0_narrow 36 = .ok (.aload_n 0, 1) := by decide +kernel
theorem dX0_narrow_37 : decode cX0_narrow 37 = .ok (.getfield 15, 3) := by decide +kernel
theorem dX0_narrow_40 : decode cX0_narrow 40 = .ok (.iload_n 3, 1) := by decide +kernel
theorem dX0_narrow_41 : decode cX0_narrow 41 = .ok (.baload, 1) := by decide +kernel
theorem dX0_narrow_42 : decode cX0_narrow 42 = .ok (.ifCond .eq 21, 3) := by decide +kernel
theorem dX0_narrow_45 : decode cX0_narrow 45 = .ok (.aload_n 0, 1) := by decide +kernel
theorem dX0_narrow_46 : decode cX0_narrow 46 = .ok (.aload_n 0, 1) := by decide +kernel
theorem dX0_narrow_47 : decode cX0_narrow 47 = .ok (.getfield 23, 3) := by decide +kernel
theorem dX0_narrow_50 : decode cX0_narrow 50 = .ok (.iload 4, 2) := by decide +kernel
theorem dX0_narrow_52 : decode cX0_narrow 52 = .ok (.iconst 1, 1) := by decide +kernel
theorem dX0_narrow_53 : decode cX0_narrow 53 = .ok (.iadd, 1) := by decide +kernel
theorem dX0_narrow_54 : decode cX0_narrow 54 = .ok (.invokestatic 35, 3) := by decide +kernel
theorem dX0_narrow_57 : decode cX0_narrow 57 = .ok (.putfield 23, 3) := by decide +kernel
theorem dX0_narrow_60 : decode cX0_narrow 60 = .ok (.goto 16, 3) := by decide +kernel
theorem dX0_narrow_63 : decode cX0_narrow 63 = .ok (.aload_n 0, 1) := by decide +kernel
theorem dX0_narrow_64 : decode cX0_narrow 64 = .ok (.aload_n 0, 1) := by decide +kernel
theorem dX0_narrow_65 : decode cX0_narrow 65 = .ok (.getfield 26, 3) := by decide +kernel
theorem dX0_narrow_68 : decode cX0_narrow 68 = .ok (.iload 4, 2) := by decide +kernel
theorem dX0_narrow_70 : decode cX0_narrow 70 = .ok (.invokestatic 40, 3) := by decide +kernel
theorem dX0_narrow_73 : decode cX0_narrow 73 = .ok (.putfield 26, 3) := by decide +kernel
theorem dX0_narrow_76 : decode cX0_narrow 76 = .ok (.iinc 3 1, 3) := by decide +kernel
theorem dX0_narrow_79 : decode cX0_narrow 79 = .ok (.goto (-66), 3) := by decide +kernel
theorem dX0_narrow_82 : decode cX0_narrow 82 = .ok (.return_, 1) := by decide +kernel
theorem dX0_many_0 : decode cX0_many 0 = .ok (.aload_n 0, 1) := by decide +kernel
theorem dX0_many_1 : decode cX0_many 1 = .ok (.getfield 26, 3) := by decide +kernel
theorem dX0_many_4 : decode cX0_many 4 = .ok (.aload_n 0, 1) := by decide +kernel
theorem dX0_many_5 : decode cX0_many 5 = .ok (.getfield 23, 3) := by decide +kernel
theorem dX0_many_8 : decode cX0_many 8 = .ok (.isub, 1) := by decide +kernel
theorem dX0_many_9 : decode cX0_many 9 = .ok (.iconst 1, 1) := by decide +kernel
theorem dX0_many_10 : decode cX0_many 10 = .ok (.iadd, 1) := by decide +kernel
theorem dX0_many_11 : decode cX0_many 11 = .ok (.iconst 0, 1) := by decide +kernel
theorem dX0_many_12 : decode cX0_many 12 = .ok (.invokestatic 35, 3) := by decide +kernel
theorem dX0_many_15 : decode cX0_many 15 = .ok (.ireturn, 1) := by decide +kernel
theorem dX0_bestQuestion_0 : decode cX0_bestQuestion 0 = .ok (.iconst (-1), 1) := by decide +kernel
theorem dX0_bestQuestion_1 : decode cX0_bestQuestion 1 = .ok (.istore_n 3, 1) := by decide +kernel
theorem dX0_bestQuestion_2 : decode cX0_bestQuestion 2 = .ok (.aload_n 0, 1) := by decide +kernel
theorem dX0_bestQuestion_3 : decode cX0_bestQuestion 3 = .ok (.invokevirtual 43, 3) := by decide +kernel
theorem dX0_bestQuestion_6 : decode cX0_bestQuestion 6 = .ok (.istore 4, 2) := by decide +kernel
theorem dX0_bestQuestion_8 : decode cX0_bestQuestion 8 = .ok (.iconst 0, 1) := by decide +kernel
theorem dX0_bestQuestion_9 : decode cX0_bestQuestion 9 = .ok (.istore 5, 2) := by decide +kernel
theorem dX0_bestQuestion_11 : decode cX0_bestQuestion 11 = .ok (.iconst 1, 1) := by decide +kernel
theorem dX0_bestQuestion_12 : decode cX0_bestQuestion 12 = .ok (.istore 6, 2) := by decide +kernel
theorem dX0_bestQuestion_14 : decode cX0_bestQuestion 14 = .ok (.iload 6, 2) := by decide +kernel
theorem dX0_bestQuestion_16 : decode cX0_bestQuestion 16 = .ok (.bipush 30, 2) := by decide +kernel
theorem dX0_bestQuestion_18 : decode cX0_bestQuestion 18 = .ok (.if_icmp .gt 76, 3) := by decide +kernel
theorem dX0_bestQuestion_21 : decode cX0_bestQuestion 21 = .ok (.iload 5, 2) := by decide +kernel
theorem dX0_bestQuestion_23 : decode cX0_bestQuestion 23 = .ok (.iconst 2, 1) := by decide +kernel
theorem dX0_bestQuestion_24 : decode cX0_bestQuestion 24 = .ok (.aload_n 1, 1) := by decide +kernel
theorem dX0_bestQuestion_25 : decode cX0_bestQuestion 25 = .ok (.iload_n 2, 1) := by decide +kernel
theorem dX0_bestQuestion_26 : decode cX0_bestQuestion 26 = .ok (.iload 6, 2) := by decide +kernel
theorem dX0_bestQuestion_28 : decode cX0_bestQuestion 28 = .ok (.iadd, 1) := by decide +kernel
theorem dX0_bestQuestion_29 : decode cX0_bestQuestion 29 = .ok (.iconst 1, 1) := by decide +kernel
theorem dX0_bestQuestion_30 : decode cX0_bestQuestion 30 = .ok (.isub, 1) := by decide +kernel
theorem dX0_bestQuestion_31 : decode cX0_bestQuestion 31 = .ok (.invokevirtual 47, 3) := by decide +kernel
theorem dX0_bestQuestion_34 : decode cX0_bestQuestion 34 = .ok (.imul, 1) := by decide +kernel
theorem dX0_bestQuestion_35 : decode cX0_bestQuestion 35 = .ok (.iadd, 1) := by decide +kernel
theorem dX0_bestQuestion_36 : decode cX0_bestQuestion 36 = .ok (.istore 5, 2) := by decide +kernel
theorem dX0_bestQuestion_38 : decode cX0_bestQuestion 38 = .ok (.iload 5, 2) := by decide +kernel
theorem dX0_bestQuestion_40 : decode cX0_bestQuestion 40 = .ok (.aload_n 0, 1) := by decide +kernel
theorem dX0_bestQuestion_41 : decode cX0_bestQuestion 41 = .ok (.getfield 26, 3) := by decide +kernel
theorem dX0_bestQuestion_44 : decode cX0_bestQuestion 44 = .ok (.invokestatic 40, 3) := by decide +kernel
theorem dX0_bestQuestion_47 : decode cX0_bestQuestion 47 = .ok (.aload_n 0, 1) := by decide +kernel
theorem dX0_bestQuestion_48 : decode cX0_bestQuestion 48 = .ok (.getfield 23, 3) := by decide +kernel
theorem dX0_bestQuestion_51 : decode cX0_bestQuestion 51 = .ok (.isub, 1) := by decide +kernel
theorem dX0_bestQuestion_52 : decode cX0_bestQuestion 52 = .ok (.iconst 1, 1) := by decide +kernel
theorem dX0_bestQuestion_53 : decode cX0_bestQuestion 53 = .ok (.iadd, 1) := by decide +kernel
theorem dX0_bestQuestion_54 : decode cX0_bestQuestion 54 = .ok (.iconst 0, 1) := by decide +kernel
theorem dX0_bestQuestion_55 : decode cX0_bestQuestion 55 = .ok (.invokestatic 35, 3) := by decide +kernel
theorem dX0_bestQuestion_58 : decode cX0_bestQuestion 58 = .ok (.istore 7, 2) := by decide +kernel
theorem dX0_bestQuestion_60 : decode cX0_bestQuestion 60 = .ok (.iload 7, 2) := by decide +kernel
theorem dX0_bestQuestion_62 : decode cX0_bestQuestion 62 = .ok (.aload_n 0, 1) := by decide +kernel
theorem dX0_bestQuestion_63 : decode cX0_bestQuestion 63 = .ok (.invokevirtual 43, 3) := by decide +kernel
theorem dX0_bestQuestion_66 : decode cX0_bestQuestion 66 = .ok (.iload 7, 2) := by decide +kernel
theorem dX0_bestQuestion_68 : decode cX0_bestQuestion 68 = .ok (.isub, 1) := by decide +kernel
theorem dX0_bestQuestion_69 : decode cX0_bestQuestion 69 = .ok (.invokestatic 35, 3) := by decide +kernel
theorem dX0_bestQuestion_72 : decode cX0_bestQuestion 72 = .ok (.istore 8, 2) := by decide +kernel
theorem dX0_bestQuestion_74 : decode cX0_bestQuestion 74 = .ok (.iload 8, 2) := by decide +kernel
theorem dX0_bestQuestion_76 : decode cX0_bestQuestion 76 = .ok (.iload 4, 2) := by decide +kernel
theorem dX0_bestQuestion_78 : decode cX0_bestQuestion 78 = .ok (.if_icmp .ge 10, 3) := by decide +kernel
theorem dX0_bestQuestion_81 : decode cX0_bestQuestion 81 = .ok (.iload 8, 2) := by decide +kernel
theorem dX0_bestQuestion_83 : decode cX0_bestQuestion 83 = .ok (.istore 4, 2) := by decide +kernel
theorem dX0_bestQuestion_85 : decode cX0_bestQuestion 85 = .ok (.iload 6, 2) := by decide +kernel
theorem dX0_bestQuestion_87 : decode cX0_bestQuestion 87 = .ok (.istore_n 3, 1) := by decide +kernel
theorem dX0_bestQuestion_88 : decode cX0_bestQuestion 88 = .ok (.iinc 6 1, 3) := by decide +kernel
theorem dX0_bestQuestion_91 : decode cX0_bestQuestion 91 = .ok (.goto (-77), 3) := by decide +kernel
theorem dX0_bestQuestion_94 : decode cX0_bestQuestion 94 = .ok (.iload_n 3, 1) := by decide +kernel
theorem dX0_bestQuestion_95 : decode cX0_bestQuestion 95 = .ok (.ireturn, 1) := by decide +kernel
theorem dX1_init_0 : decode cX1_init 0 = .ok (.aload_n 0, 1) := by decide +kernel
theorem dX1_init_1 : decode cX1_init 1 = .ok (.invokespecial 3, 3) := by decide +kernel
theorem dX1_init_4 : decode cX1_init 4 = .ok (.aload_n 0, 1) := by decide +kernel
theorem dX1_init_5 : decode cX1_init 5 = .ok (.sipush 1000, 3) := by decide +kernel
theorem dX1_init_8 : decode cX1_init 8 = .ok (.newarray .int, 2) := by decide +kernel
theorem dX1_init_10 : decode cX1_init 10 = .ok (.putfield 9, 3) := by decide +kernel
theorem dX1_init_13 : decode cX1_init 13 = .ok (.aload_n 0, 1) := by decide +kernel
theorem dX1_init_14 : decode cX1_init 14 = .ok (.bipush 32, 2) := by decide +kernel
theorem dX1_init_16 : decode cX1_init 16 = .ok (.newarray .int, 2) := by decide +kernel
theorem dX1_init_18 : decode cX1_init 18 = .ok (.putfield 15, 3) := by decide +kernel
theorem dX1_init_21 : decode cX1_init 21 = .ok (.return_, 1) := by decide +kernel
theorem dX1_readFrom_0 : decode cX1_readFrom 0 = .ok (.aload_n 0, 1) := by decide +kernel
theorem dX1_readFrom_1 : decode cX1_readFrom 1 = .ok (.iconst 0, 1) := by decide +kernel
theorem dX1_readFrom_2 : decode cX1_readFrom 2 = .ok (.putfield 18, 3) := by decide +kernel
theorem dX1_readFrom_5 : decode cX1_readFrom 5 = .ok (.aload_n 0, 1) := by decide +kernel
theorem dX1_readFrom_6 : decode cX1_readFrom 6 = .ok (.iconst 0, 1) := by decide +kernel
theorem dX1_readFrom_7 : decode cX1_readFrom 7 = .ok (.putfield 22, 3) := by decide +kernel
theorem dX1_readFrom_10 : decode cX1_readFrom 10 = .ok (.iconst 1, 1) := by decide +kernel
theorem dX1_readFrom_11 : decode cX1_readFrom 11 = .ok (.istore_n 2, 1) := by decide +kernel
theorem dX1_readFrom_12 : decode cX1_readFrom 12 = .ok (.iconst 0, 1) := by decide +kernel
theorem dX1_readFrom_13 : decode cX1_readFrom 13 = .ok (.istore_n 3, 1) := by decide +kernel
theorem dX1_readFrom_14 : decode cX1_readFrom 14 = .ok (.iload_n 3, 1) := by decide +kernel
theorem dX1_readFrom_15 : decode cX1_readFrom 15 = .ok (.sipush 1000, 3) := by decide +kernel
theorem dX1_readFrom_18 : decode cX1_readFrom 18 = .ok (.if_icmp .gt 87, 3) := by decide +kernel
theorem dX1_readFrom_21 : decode cX1_readFrom 21 = .ok (.aload_n 1, 1) := by decide +kernel
theorem dX1_readFrom_22 : decode cX1_readFrom 22 = .ok (.getfield 25, 3) := by decide +kernel
theorem dX1_readFrom_25 : decode cX1_readFrom 25 = .ok (.ifCond .ne 80, 3) := by decide +kernel
theorem dX1_readFrom_28 : decode cX1_readFrom 28 = .ok (.iload_n 2, 1) := by decide +kernel
theorem dX1_readFrom_29 : decode cX1_readFrom 29 = .ok (.ifCond .eq 20, 3) := by decide +kernel
theorem dX1_readFrom_32 : decode cX1_readFrom 32 = .ok (.aload_n 0, 1) := by decide +kernel
theorem dX1_readFrom_33 : decode cX1_readFrom 33 = .ok (.aload_n 1, 1) := by decide +kernel
theorem dX1_readFrom_34 : decode cX1_readFrom 34 = .ok (.invokevirtual 30, 3) := by decide +kernel
theorem dX1_readFrom_37 : decode cX1_readFrom 37 = .ok (.ifCond .ne 7, 3) := by decide +kernel
theorem dX1_readFrom_40 : decode cX1_readFrom 40 = .ok (.iconst 1, 1) := by decide +kernel
theorem dX1_readFrom_41 : decode cX1_readFrom 41 = .ok (.goto 4, 3) := by decide +kernel
theorem dX1_readFrom_44 : decode cX1_readFrom 44 = .ok (.iconst 0, 1) := by decide +kernel
theorem dX1_readFrom_45 : decode cX1_readFrom 45 = .ok (.istore_n 2, 1) := by decide +kernel
theorem dX1_readFrom_46 : decode cX1_readFrom 46 = .ok (.goto 53, 3) := by decide +kernel
theorem dX1_readFrom_49 : decode cX1_readFrom 49 = .ok (.aload_n 1, 1) := by decide +kernel
theorem dX1_readFrom_50 : decode cX1_readFrom 50 = .ok (.getfield 34, 3) := by decide +kernel
theorem dX1_readFrom_53 : decode cX1_readFrom 53 = .ok (.bipush 41, 2) := by decide +kernel
theorem dX1_readFrom_55 : decode cX1_readFrom 55 = .ok (.if_icmp .ne 18, 3) := by decide +kernel
theorem dX1_readFrom_58 : decode cX1_readFrom 58 = .ok (.aload_n 0, 1) := by decide +kernel
theorem dX1_readFrom_59 : decode cX1_readFrom 59 = .ok (.getfield 22, 3) := by decide +kernel
theorem dX1_readFrom_62 : decode cX1_readFrom 62 = .ok (.ifCond .le 11, 3) := by decide +kernel
theorem dX1_readFrom_65 : decode cX1_readFrom 65 = .ok (.aload_n 0, 1) := by decide +kernel
theorem dX1_readFrom_66 : decode cX1_readFrom 66 = .ok (.aload_n 1, 1) := by decide +kernel
theorem dX1_readFrom_67 : decode cX1_readFrom 67 = .ok (.invokevirtual 37, 3) := by decide +kernel
theorem dX1_readFrom_70 : decode cX1_readFrom 70 = .ok (.goto 29, 3) := by decide +kernel
theorem dX1_readFrom_73 : decode cX1_readFrom 73 = .ok (.aload_n 1, 1) := by decide +kernel
theorem dX1_readFrom_74 : decode cX1_readFrom 74 = .ok (.getfield 34, 3) := by decide +kernel
theorem dX1_readFrom_77 : decode cX1_readFrom 77 = .ok (.bipush 59, 2) := by decide +kernel
theorem dX1_readFrom_79 : decode cX1_readFrom 79 = .ok (.if_icmp .ne 13, 3) := by decide +kernel
theorem dX1_readFrom_82 : decode cX1_readFrom 82 = .ok (.aload_n 0, 1) := by decide +kernel
theorem dX1_readFrom_83 : decode cX1_readFrom 83 = .ok (.getfield 22, 3) := by decide +kernel
theorem dX1_readFrom_86 : decode cX1_readFrom 86 = .ok (.ifCond .ne 6, 3) := by decide +kernel
theorem dX1_readFrom_89 : decode cX1_readFrom 89 = .ok (.goto 16, 3) := by decide +kernel
theorem dX1_readFrom_92 : decode cX1_readFrom 92 = .ok (.aload_n 0, 1) := by decide +kernel
theorem dX1_readFrom_93 : decode cX1_readFrom 93 = .ok (.aload_n 1, 1) := by decide +kernel
theorem dX1_readFrom_94 : decode cX1_readFrom 94 = .ok (.invokevirtual 41, 3) := by decide +kernel
theorem dX1_readFrom_97 : decode cX1_readFrom 97 = .ok (.iconst 1, 1) := by decide +kernel
theorem dX1_readFrom_98 : decode cX1_readFrom 98 = .ok (.istore_n 2, 1) := by decide +kernel
theorem dX1_readFrom_99 : decode cX1_readFrom 99 = .ok (.iinc 3 1, 3) := by decide +kernel
theorem dX1_readFrom_102 : decode cX1_readFrom 102 = .ok (.goto (-88), 3) := by decide +kernel
theorem dX1_readFrom_105 : decode cX1_readFrom 105 = .ok (.aload_n 0, 1) := by decide +kernel
theorem dX1_readFrom_106 : decode cX1_readFrom 106 = .ok (.iconst 1, 1) := by decide +kernel
theorem dX1_readFrom_107 : decode cX1_readFrom 107 = .ok (.invokevirtual 44, 3) := by decide +kernel
theorem dX1_readFrom_110 : decode cX1_readFrom 110 = .ok (.return_, 1) := by decide +kernel
theorem dX1_readPart_0 : decode cX1_readPart 0 = .ok (.aload_n 1, 1) := by decide +kernel
theorem dX1_readPart_1 : decode cX1_readPart 1 = .ok (.getfield 34, 3) := by decide +kernel
theorem dX1_readPart_4 : decode cX1_readPart 4 = .ok (.istore_n 2, 1) := by decide +kernel
theorem dX1_readPart_5 : decode cX1_readPart 5 = .ok (.iload_n 2, 1) := by decide +kernel
theorem dX1_readPart_6 : decode cX1_readPart 6 = .ok (.iconst 2, 1) := by decide +kernel
theorem dX1_readPart_7 : decode cX1_readPart 7 = .ok (.if_icmp .eq 10, 3) := by decide +kernel
theorem dX1_readPart_10 : decode cX1_readPart 10 = .ok (.iload_n 2, 1) := by decide +kernel
theorem dX1_readPart_11 : decode cX1_readPart 11 = .ok (.invokestatic 48, 3) := by decide +kernel
theorem dX1_readPart_14 : decode cX1_readPart 14 = .ok (.ifCond .eq 7, 3) := by decide +kernel
theorem dX1_readPart_17 : decode cX1_readPart 17 = .ok (.iconst 1, 1) := by decide +kernel
theorem dX1_readPart_18 : decode cX1_readPart 18 = .ok (.goto 4, 3) := by decide +kernel
theorem dX1_readPart_21 : decode cX1_readPart 21 = .ok (.iconst 0, 1) := by decide +kernel
theorem dX1_readPart_22 : decode cX1_readPart 22 = .ok (.istore_n 3, 1) := by decide +kernel
theorem dX1_readPart_23 : decode cX1_readPart 23 = .ok (.iload_n 3, 1) := by decide +kernel
theorem dX1_readPart_24 : decode cX1_readPart 24 = .ok (.ifCond .ne 23, 3) := by decide +kernel
theorem dX1_readPart_27 : decode cX1_readPart 27 = .ok (.iload_n 2, 1) := by decide +kernel
theorem dX1_readPart_28 : decode cX1_readPart 28 = .ok (.sipush 147, 3) := by decide +kernel
theorem dX1_readPart_31 : decode cX1_readPart 31 = .ok (.if_icmp .eq 16, 3) := by decide +kernel
theorem dX1_readPart_34 : decode cX1_readPart 34 = .ok (.iload_n 2, 1) := by decide +kernel
theorem dX1_readPart_35 : decode cX1_readPart 35 = .ok (.bipush 40, 2) := by decide +kernel
theorem dX1_readPart_37 : decode cX1_readPart 37 = .ok (.if_icmp .eq 10, 3) := by decide +kernel
theorem dX1_readPart_40 : decode cX1_readPart 40 = .ok (.aload_n 1, 1) := by decide +kernel
theorem dX1_readPart_41 : decode cX1_readPart 41 = .ok (.iconst 1, 1) := by decide +kernel
theorem dX1_readPart_42 : decode cX1_readPart 42 = .ok (.invokevirtual 52, 3) := by decide +kernel
theorem dX1_readPart_45 : decode cX1_readPart 45 = .ok (.iconst 0, 1) := by decide +kernel
theorem dX1_readPart_46 : decode cX1_readPart 46 = .ok (.ireturn, 1) := by decide +kernel
theorem dX1_readPart_47 : decode cX1_readPart 47 = .ok (.aload_n 0, 1) := by decide +kernel
theorem dX1_readPart_48 : decode cX1_readPart 48 = .ok (.getfield 22, 3) := by decide +kernel
theorem dX1_readPart_51 : decode cX1_readPart 51 = .ok (.iconst 5, 1) := by decide +kernel
theorem dX1_readPart_52 : decode cX1_readPart 52 = .ok (.if_icmp .lt 10, 3) := by decide +kernel
theorem dX1_readPart_55 : decode cX1_readPart 55 = .ok (.aload_n 1, 1) := by decide +kernel
theorem dX1_readPart_56 : decode cX1_readPart 56 = .ok (.iconst 5, 1) := by decide +kernel
theorem dX1_readPart_57 : decode cX1_readPart 57 = .ok (.invokevirtual 52, 3) := by decide +kernel
theorem dX1_readPart_60 : decode cX1_readPart 60 = .ok (.iconst 0, 1) := by decide +kernel
theorem dX1_readPart_61 : decode cX1_readPart 61 = .ok (.ireturn, 1) := by decide +kernel
theorem dX1_readPart_62 : decode cX1_readPart 62 = .ok (.iload_n 3, 1) := by decide +kernel
theorem dX1_readPart_63 : decode cX1_readPart 63 = .ok (.ifCond .eq 31, 3) := by decide +kernel
theorem dX1_readPart_66 : decode cX1_readPart 66 = .ok (.aload_n 0, 1) := by decide +kernel
theorem dX1_readPart_67 : decode cX1_readPart 67 = .ok (.iload_n 2, 1) := by decide +kernel
theorem dX1_readPart_68 : decode cX1_readPart 68 = .ok (.iconst 2, 1) := by decide +kernel
theorem dX1_readPart_69 : decode cX1_readPart 69 = .ok (.if_icmp .ne 10, 3) := by decide +kernel
theorem dX1_readPart_72 : decode cX1_readPart 72 = .ok (.aload_n 1, 1) := by decide +kernel
theorem dX1_readPart_73 : decode cX1_readPart 73 = .ok (.getfield 55, 3) := by decide +kernel
theorem dX1_readPart_76 : decode cX1_readPart 76 = .ok (.goto 8, 3) := by decide +kernel
theorem dX1_readPart_79 : decode cX1_readPart 79 = .ok (.sipush 10000, 3) := by decide +kernel
theorem dX1_readPart_82 : decode cX1_readPart 82 = .ok (.iload_n 2, 1) := by decide +kernel
theorem dX1_readPart_83 : decode cX1_readPart 83 = .ok (.iadd, 1) := by decide +kernel
theorem dX1_readPart_84 : decode cX1_readPart 84 = .ok (.invokevirtual 58, 3) := by decide +kernel
theorem dX1_readPart_87 : decode cX1_readPart 87 = .ok (.aload_n 0, 1) := by decide +kernel
theorem dX1_readPart_88 : decode cX1_readPart 88 = .ok (.invokevirtual 61, 3) := by decide +kernel
theorem dX1_readPart_91 : decode cX1_readPart 91 = .ok (.goto 18, 3) := by decide +kernel
theorem dX1_readPart_94 : decode cX1_readPart 94 = .ok (.aload_n 0, 1) := by decide +kernel
theorem dX1_readPart_95 : decode cX1_readPart 95 = .ok (.iload_n 2, 1) := by decide +kernel
theorem dX1_readPart_96 : decode cX1_readPart 96 = .ok (.invokevirtual 64, 3) := by decide +kernel
theorem dX1_readPart_99 : decode cX1_readPart 99 = .ok (.aload_n 0, 1) := by decide +kernel
theorem dX1_readPart_100 : decode cX1_readPart 100 = .ok (.dup, 1) := by decide +kernel
theorem dX1_readPart_101 : decode cX1_readPart 101 = .ok (.getfield 22, 3) := by decide +kernel
theorem dX1_readPart_104 : decode cX1_readPart 104 = .ok (.iconst 1, 1) := by decide +kernel
theorem dX1_readPart_105 : decode cX1_readPart 105 = .ok (.iadd, 1) := by decide +kernel
theorem dX1_readPart_106 : decode cX1_readPart 106 = .ok (.putfield 22, 3) := by decide +kernel
theorem dX1_readPart_109 : decode cX1_readPart 109 = .ok (.aload_n 1, 1) := by decide +kernel
theorem dX1_readPart_110 : decode cX1_readPart 110 = .ok (.invokevirtual 67, 3) := by decide +kernel
theorem dX1_readPart_113 : decode cX1_readPart 113 = .ok (.iload_n 3, 1) := by decide +kernel
theorem dX1_readPart_114 : decode cX1_readPart 114 = .ok (.ireturn, 1) := by decide +kernel
theorem dX1_readOperator_0 : decode cX1_readOperator 0 = .ok (.aload_n 1, 1) := by decide +kernel
theorem dX1_readOperator_1 : decode cX1_readOperator 1 = .ok (.getfield 34, 3) := by decide +kernel
theorem dX1_readOperator_4 : decode cX1_readOperator 4 = .ok (.invokestatic 70, 3) := by decide +kernel
theorem dX1_readOperator_7 : decode cX1_readOperator 7 = .ok (.istore_n 2, 1) := by decide +kernel
theorem dX1_readOperator_8 : decode cX1_readOperator 8 = .ok (.iload_n 2, 1) := by decide +kernel
theorem dX1_readOperator_9 : decode cX1_readOperator 9 = .ok (.ifCond .ne 9, 3) := by decide +kernel
theorem dX1_readOperator_12 : decode cX1_readOperator 12 = .ok (.aload_n 1, 1) := by decide +kernel
theorem dX1_readOperator_13 : decode cX1_readOperator 13 = .ok (.iconst 1, 1) := by decide +kernel
theorem dX1_readOperator_14 : decode cX1_readOperator 14 = .ok (.invokevirtual 52, 3) := by decide +kernel
theorem dX1_readOperator_17 : decode cX1_readOperator 17 = .ok (.return_, 1) := by decide +kernel
theorem dX1_readOperator_18 : decode cX1_readOperator 18 = .ok (.aload_n 0, 1) := by decide +kernel
theorem dX1_readOperator_19 : decode cX1_readOperator 19 = .ok (.iload_n 2, 1) := by decide +kernel
theorem dX1_readOperator_20 : decode cX1_readOperator 20 = .ok (.iconst 2, 1) := by decide +kernel
theorem dX1_readOperator_21 : decode cX1_readOperator 21 = .ok (.if_icmp .ne 7, 3) := by decide +kernel
theorem dX1_readOperator_24 : decode cX1_readOperator 24 = .ok (.iconst 3, 1) := by decide +kernel
theorem dX1_readOperator_25 : decode cX1_readOperator 25 = .ok (.goto 4, 3) := by decide +kernel
theorem dX1_readOperator_28 : decode cX1_readOperator 28 = .ok (.iload_n 2, 1) := by decide +kernel
theorem dX1_readOperator_29 : decode cX1_readOperator 29 = .ok (.invokevirtual 44, 3) := by decide +kernel
theorem dX1_readOperator_32 : decode cX1_readOperator 32 = .ok (.iload_n 2, 1) := by decide +kernel
theorem dX1_readOperator_33 : decode cX1_readOperator 33 = .ok (.iconst 2, 1) := by decide +kernel
theorem dX1_readOperator_34 : decode cX1_readOperator 34 = .ok (.if_icmp .ne 34, 3) := by decide +kernel
theorem dX1_readOperator_37 : decode cX1_readOperator 37 = .ok (.aload_n 0, 1) := by decide +kernel
theorem dX1_readOperator_38 : decode cX1_readOperator 38 = .ok (.getfield 18, 3) := by decide +kernel
theorem dX1_readOperator_41 : decode cX1_readOperator 41 = .ok (.ifCond .le 27, 3) := by decide +kernel
theorem dX1_readOperator_44 : decode cX1_readOperator 44 = .ok (.aload_n 0, 1) := by decide +kernel
theorem dX1_readOperator_45 : decode cX1_readOperator 45 = .ok (.getfield 15, 3) := by decide +kernel
theorem dX1_readOperator_48 : decode cX1_readOperator 48 = .ok (.aload_n 0, 1) := by decide +kernel
theorem dX1_readOperator_49 : decode cX1_readOperator 49 = .ok (.getfield 18, 3) := by decide +kernel
theorem dX1_readOperator_52 : decode cX1_readOperator 52 = .ok (.iconst 1, 1) := by decide +kernel
theorem dX1_readOperator_53 : decode cX1_readOperator 53 = .ok (.isub, 1) := by decide +kernel
theorem dX1_readOperator_54 : decode cX1_readOperator 54 = .ok (.iaload, 1) := by decide +kernel
theorem dX1_readOperator_55 : decode cX1_readOperator 55 = .ok (.invokestatic 70, 3) := by decide +kernel
theorem dX1_readOperator_58 : decode cX1_readOperator 58 = .ok (.iconst 2, 1) := by decide +kernel
theorem dX1_readOperator_59 : decode cX1_readOperator 59 = .ok (.if_icmp .ne 9, 3) := by decide +kernel
theorem dX1_readOperator_62 : decode cX1_readOperator 62 = .ok (.aload_n 1, 1) := by decide +kernel
theorem dX1_readOperator_63 : decode cX1_readOperator 63 = .ok (.iconst 1, 1) := by decide +kernel
theorem dX1_readOperator_64 : decode cX1_readOperator 64 = .ok (.invokevirtual 52, 3) := by decide +kernel
theorem dX1_readOperator_67 : decode cX1_readOperator 67 = .ok (.return_, 1) := by decide +kernel
theorem dX1_readOperator_68 : decode cX1_readOperator 68 = .ok (.aload_n 0, 1) := by decide +kernel
theorem dX1_readOperator_69 : decode cX1_readOperator 69 = .ok (.aload_n 1, 1) := by decide +kernel
theorem dX1_readOperator_70 : decode cX1_readOperator 70 = .ok (.getfield 34, 3) := by decide +kernel
theorem dX1_readOperator_73 : decode cX1_readOperator 73 = .ok (.invokevirtual 64, 3) := by decide +kernel
theorem dX1_readOperator_76 : decode cX1_readOperator 76 = .ok (.aload_n 1, 1) := by decide +kernel
theorem dX1_readOperator_77 : decode cX1_readOperator 77 = .ok (.invokevirtual 67, 3) := by decide +kernel
theorem dX1_readOperator_80 : decode cX1_readOperator 80 = .ok (.return_, 1) := by decide +kernel
theorem dX1_closeBracket_0 : decode cX1_closeBracket 0 = .ok (.aload_n 0, 1) := by decide +kernel
theorem dX1_closeBracket_1 : decode cX1_closeBracket 1 = .ok (.iconst 1, 1) := by decide +kernel
theorem dX1_closeBracket_2 : decode cX1_closeBracket 2 = .ok (.invokevirtual 44, 3) := by decide +kernel
theorem dX1_closeBracket_5 : decode cX1_closeBracket 5 = .ok (.aload_n 0, 1) := by decide +kernel
theorem dX1_closeBracket_6 : decode cX1_closeBracket 6 = .ok (.invokevirtual 74, 3) := by decide +kernel
theorem dX1_closeBracket_9 : decode cX1_closeBracket 9 = .ok (.pop, 1) := by decide +kernel
theorem dX1_closeBracket_10 : decode cX1_closeBracket 10 = .ok (.aload_n 0, 1) := by decide +kernel
theorem dX1_closeBracket_11 : decode cX1_closeBracket 11 = .ok (.dup, 1) := by decide +kernel
theorem dX1_closeBracket_12 : decode cX1_closeBracket 12 = .ok (.getfield 22, 3) := by decide +kernel
theorem dX1_closeBracket_15 : decode cX1_closeBracket 15 = .ok (.iconst 1, 1) := by decide +kernel
theorem dX1_closeBracket_16 : decode cX1_closeBracket 16 = .ok (.isub, 1) := by decide +kernel
theorem dX1_closeBracket_17 : decode cX1_closeBracket 17 = .ok (.putfield 22, 3) := by decide +kernel
theorem dX1_closeBracket_20 : decode cX1_closeBracket 20 = .ok (.aload_n 0, 1) := by decide +kernel
theorem dX1_closeBracket_21 : decode cX1_closeBracket 21 = .ok (.invokevirtual 61, 3) := by decide +kernel
theorem dX1_closeBracket_24 : decode cX1_closeBracket 24 = .ok (.aload_n 1, 1) := by decide +kernel
theorem dX1_closeBracket_25 : decode cX1_closeBracket 25 = .ok (.invokevirtual 67, 3) := by decide +kernel
theorem dX1_closeBracket_28 : decode cX1_closeBracket 28 = .ok (.return_, 1) := by decide +kernel
theorem dX1_closeNots_0 : decode cX1_closeNots 0 = .ok (.aload_n 0, 1) := by decide +kernel
theorem dX1_closeNots_1 : decode cX1_closeNots 1 = .ok (.getfield 18, 3) := by decide +kernel
theorem dX1_closeNots_4 : decode cX1_closeNots 4 = .ok (.ifCond .le 50, 3) := by decide +kernel
theorem dX1_closeNots_7 : decode cX1_closeNots 7 = .ok (.aload_n 0, 1) := by decide +kernel
theorem dX1_closeNots_8 : decode cX1_closeNots 8 = .ok (.getfield 15, 3) := by decide +kernel
theorem dX1_closeNots_11 : decode cX1_closeNots 11 = .ok (.aload_n 0, 1) := by decide +kernel
theorem dX1_closeNots_12 : decode cX1_closeNots 12 = .ok (.getfield 18, 3) := by decide +kernel
theorem dX1_closeNots_15 : decode cX1_closeNots 15 = .ok (.iconst 1, 1) := by decide +kernel
theorem dX1_closeNots_16 : decode cX1_closeNots 16 = .ok (.isub, 1) := by decide +kernel
theorem dX1_closeNots_17 : decode cX1_closeNots 17 = .ok (.iaload, 1) := by decide +kernel
theorem dX1_closeNots_18 : decode cX1_closeNots 18 = .ok (.sipush 147, 3) := by decide +kernel
theorem dX1_closeNots_21 : decode cX1_closeNots 21 = .ok (.if_icmp .ne 33, 3) := by decide +kernel
theorem dX1_closeNots_24 : decode cX1_closeNots 24 = .ok (.aload_n 0, 1) := by decide +kernel
theorem dX1_closeNots_25 : decode cX1_closeNots 25 = .ok (.dup, 1) := by decide +kernel
theorem dX1_closeNots_26 : decode cX1_closeNots 26 = .ok (.getfield 18, 3) := by decide +kernel
theorem dX1_closeNots_29 : decode cX1_closeNots 29 = .ok (.iconst 1, 1) := by decide +kernel
theorem dX1_closeNots_30 : decode cX1_closeNots 30 = .ok (.isub, 1) := by decide +kernel
theorem dX1_closeNots_31 : decode cX1_closeNots 31 = .ok (.putfield 18, 3) := by decide +kernel
theorem dX1_closeNots_34 : decode cX1_closeNots 34 = .ok (.aload_n 0, 1) := by decide +kernel
theorem dX1_closeNots_35 : decode cX1_closeNots 35 = .ok (.dup, 1) := by decide +kernel
theorem dX1_closeNots_36 : decode cX1_closeNots 36 = .ok (.getfield 22, 3) := by decide +kernel
theorem dX1_closeNots_39 : decode cX1_closeNots 39 = .ok (.iconst 1, 1) := by decide +kernel
theorem dX1_closeNots_40 : decode cX1_closeNots 40 = .ok (.isub, 1) := by decide +kernel
theorem dX1_closeNots_41 : decode cX1_closeNots 41 = .ok (.putfield 22, 3) := by decide +kernel
theorem dX1_closeNots_44 : decode cX1_closeNots 44 = .ok (.aload_n 0, 1) := by decide +kernel
theorem dX1_closeNots_45 : decode cX1_closeNots 45 = .ok (.sipush 10147, 3) := by decide +kernel
theorem dX1_closeNots_48 : decode cX1_closeNots 48 = .ok (.invokevirtual 58, 3) := by decide +kernel
theorem dX1_closeNots_51 : decode cX1_closeNots 51 = .ok (.goto (-51), 3) := by decide +kernel
theorem dX1_closeNots_54 : decode cX1_closeNots 54 = .ok (.return_, 1) := by decide +kernel
theorem dX1_emitDownTo_0 : decode cX1_emitDownTo 0 = .ok (.aload_n 0, 1) := by decide +kernel
theorem dX1_emitDownTo_1 : decode cX1_emitDownTo 1 = .ok (.getfield 18, 3) := by decide +kernel
theorem dX1_emitDownTo_4 : decode cX1_emitDownTo 4 = .ok (.ifCond .le 51, 3) := by decide +kernel
theorem dX1_emitDownTo_7 : decode cX1_emitDownTo 7 = .ok (.aload_n 0, 1) := by decide +kernel
theorem dX1_emitDownTo_8 : decode cX1_emitDownTo 8 = .ok (.getfield 15, 3) := by decide +kernel
theorem dX1_emitDownTo_11 : decode cX1_emitDownTo 11 = .ok (.aload_n 0, 1) := by decide +kernel
theorem dX1_emitDownTo_12 : decode cX1_emitDownTo 12 = .ok (.getfield 18, 3) := by decide +kernel
theorem dX1_emitDownTo_15 : decode cX1_emitDownTo 15 = .ok (.iconst 1, 1) := by decide +kernel
theorem dX1_emitDownTo_16 : decode cX1_emitDownTo 16 = .ok (.isub, 1) := by decide +kernel
theorem dX1_emitDownTo_17 : decode cX1_emitDownTo 17 = .ok (.iaload, 1) := by decide +kernel
theorem dX1_emitDownTo_18 : decode cX1_emitDownTo 18 = .ok (.invokestatic 70, 3) := by decide +kernel
theorem dX1_emitDownTo_21 : decode cX1_emitDownTo 21 = .ok (.iload_n 1, 1) := by decide +kernel
theorem dX1_emitDownTo_22 : decode cX1_emitDownTo 22 = .ok (.if_icmp .lt 33, 3) := by decide +kernel
theorem dX1_emitDownTo_25 : decode cX1_emitDownTo 25 = .ok (.aload_n 0, 1) := by decide +kernel
theorem dX1_emitDownTo_26 : decode cX1_emitDownTo 26 = .ok (.dup, 1) := by decide +kernel
theorem dX1_emitDownTo_27 : decode cX1_emitDownTo 27 = .ok (.getfield 18, 3) := by decide +kernel
theorem dX1_emitDownTo_30 : decode cX1_emitDownTo 30 = .ok (.iconst 1, 1) := by decide +kernel
theorem dX1_emitDownTo_31 : decode cX1_emitDownTo 31 = .ok (.isub, 1) := by decide +kernel
theorem dX1_emitDownTo_32 : decode cX1_emitDownTo 32 = .ok (.putfield 18, 3) := by decide +kernel
theorem dX1_emitDownTo_35 : decode cX1_emitDownTo 35 = .ok (.aload_n 0, 1) := by decide +kernel
theorem dX1_emitDownTo_36 : decode cX1_emitDownTo 36 = .ok (.sipush 10000, 3) := by decide +kernel
theorem dX1_emitDownTo_39 : decode cX1_emitDownTo 39 = .ok (.aload_n 0, 1) := by decide +kernel
theorem dX1_emitDownTo_40 : decode cX1_emitDownTo 40 = .ok (.getfield 15, 3) := by decide +kernel
theorem dX1_emitDownTo_43 : decode cX1_emitDownTo 43 = .ok (.aload_n 0, 1) := by decide +kernel
theorem dX1_emitDownTo_44 : decode cX1_emitDownTo 44 = .ok (.getfield 18, 3) := by decide +kernel
theorem dX1_emitDownTo_47 : decode cX1_emitDownTo 47 = .ok (.iaload, 1) := by decide +kernel
theorem dX1_emitDownTo_48 : decode cX1_emitDownTo 48 = .ok (.iadd, 1) := by decide +kernel
theorem dX1_emitDownTo_49 : decode cX1_emitDownTo 49 = .ok (.invokevirtual 58, 3) := by decide +kernel
theorem dX1_emitDownTo_52 : decode cX1_emitDownTo 52 = .ok (.goto (-52), 3) := by decide +kernel
theorem dX1_emitDownTo_55 : decode cX1_emitDownTo 55 = .ok (.return_, 1) := by decide +kernel
theorem dX1_rankOf_0 : decode cX1_rankOf 0 = .ok (.iload_n 0, 1) := by decide +kernel
theorem dX1_rankOf_1 : decode cX1_rankOf 1 = .ok (.lookupswitch 75 #[(42, 67), (43, 69), (45, 69), (60, 71), (61, 71), (148, 73), (149, 73)], 67) := by decide +kernel
theorem dX1_rankOf_68 : decode cX1_rankOf 68 = .ok (.iconst 4, 1) := by decide +kernel
theorem dX1_rankOf_69 : decode cX1_rankOf 69 = .ok (.ireturn, 1) := by decide +kernel
theorem dX1_rankOf_70 : decode cX1_rankOf 70 = .ok (.iconst 3, 1) := by decide +kernel
theorem dX1_rankOf_71 : decode cX1_rankOf 71 = .ok (.ireturn, 1) := by decide +kernel
theorem dX1_rankOf_72 : decode cX1_rankOf 72 = .ok (.iconst 2, 1) := by decide +kernel
theorem dX1_rankOf_73 : decode cX1_rankOf 73 = .ok (.ireturn, 1) := by decide +kernel
theorem dX1_rankOf_74 : decode cX1_rankOf 74 = .ok (.iconst 1, 1) := by decide +kernel
theorem dX1_rankOf_75 : decode cX1_rankOf 75 = .ok (.ireturn, 1) := by decide +kernel
theorem dX1_rankOf_76 : decode cX1_rankOf 76 = .ok (.iconst 0, 1) := by decide +kernel
theorem dX1_rankOf_77 : decode cX1_rankOf 77 = .ok (.ireturn, 1) := by decide +kernel
theorem dX1_emit_0 : decode cX1_emit 0 = .ok (.aload_n 0, 1) := by decide +kernel
theorem dX1_emit_1 : decode cX1_emit 1 = .ok (.getfield 78, 3) := by decide +kernel
theorem dX1_emit_4 : decode cX1_emit 4 = .ok (.sipush 1000, 3) := by decide +kernel
theorem dX1_emit_7 : decode cX1_emit 7 = .ok (.if_icmp .ge 23, 3) := by decide +kernel
theorem dX1_emit_10 : decode cX1_emit 10 = .ok (.aload_n 0, 1) := by decide +kernel
theorem dX1_emit_11 : decode cX1_emit 11 = .ok (.getfield 9, 3) := by decide +kernel
theorem dX1_emit_14 : decode cX1_emit 14 = .ok (.aload_n 0, 1) := by decide +kernel
theorem dX1_emit_15 : decode cX1_emit 15 = .ok (.getfield 78, 3) := by decide +kernel
theorem dX1_emit_18 : decode cX1_emit 18 = .ok (.iload_n 1, 1) := by decide +kernel
theorem dX1_emit_19 : decode cX1_emit 19 = .ok (.iastore, 1) := by decide +kernel
theorem dX1_emit_20 : decode cX1_emit 20 = .ok (.aload_n 0, 1) := by decide +kernel
theorem dX1_emit_21 : decode cX1_emit 21 = .ok (.dup, 1) := by decide +kernel
theorem dX1_emit_22 : decode cX1_emit 22 = .ok (.getfield 78, 3) := by decide +kernel
theorem dX1_emit_25 : decode cX1_emit 25 = .ok (.iconst 1, 1) := by decide +kernel
theorem dX1_emit_26 : decode cX1_emit 26 = .ok (.iadd, 1) := by decide +kernel
theorem dX1_emit_27 : decode cX1_emit 27 = .ok (.putfield 78, 3) := by decide +kernel
theorem dX1_emit_30 : decode cX1_emit 30 = .ok (.return_, 1) := by decide +kernel
theorem dX1_push_0 : decode cX1_push 0 = .ok (.aload_n 0, 1) := by decide +kernel
theorem dX1_push_1 : decode cX1_push 1 = .ok (.getfield 18, 3) := by decide +kernel
theorem dX1_push_4 : decode cX1_push 4 = .ok (.bipush 32, 2) := by decide +kernel
theorem dX1_push_6 : decode cX1_push 6 = .ok (.if_icmp .ge 23, 3) := by decide +kernel
theorem dX1_push_9 : decode cX1_push 9 = .ok (.aload_n 0, 1) := by decide +kernel
theorem dX1_push_10 : decode cX1_push 10 = .ok (.getfield 15, 3) := by decide +kernel
theorem dX1_push_13 : decode cX1_push 13 = .ok (.aload_n 0, 1) := by decide +kernel
theorem dX1_push_14 : decode cX1_push 14 = .ok (.getfield 18, 3) := by decide +kernel
theorem dX1_push_17 : decode cX1_push 17 = .ok (.iload_n 1, 1) := by decide +kernel
theorem dX1_push_18 : decode cX1_push 18 = .ok (.iastore, 1) := by decide +kernel
theorem dX1_push_19 : decode cX1_push 19 = .ok (.aload_n 0, 1) := by decide +kernel
theorem dX1_push_20 : decode cX1_push 20 = .ok (.dup, 1) := by decide +kernel
theorem dX1_push_21 : decode cX1_push 21 = .ok (.getfield 18, 3) := by decide +kernel
theorem dX1_push_24 : decode cX1_push 24 = .ok (.iconst 1, 1) := by decide +kernel
theorem dX1_push_25 : decode cX1_push 25 = .ok (.iadd, 1) := by decide +kernel
theorem dX1_push_26 : decode cX1_push 26 = .ok (.putfield 18, 3) := by decide +kernel
theorem dX1_push_29 : decode cX1_push 29 = .ok (.return_, 1) := by decide +kernel
theorem dX1_pop_0 : decode cX1_pop 0 = .ok (.aload_n 0, 1) := by decide +kernel
theorem dX1_pop_1 : decode cX1_pop 1 = .ok (.getfield 18, 3) := by decide +kernel
theorem dX1_pop_4 : decode cX1_pop 4 = .ok (.ifCond .ne 5, 3) := by decide +kernel
theorem dX1_pop_7 : decode cX1_pop 7 = .ok (.iconst 0, 1) := by decide +kernel
theorem dX1_pop_8 : decode cX1_pop 8 = .ok (.ireturn, 1) := by decide +kernel
theorem dX1_pop_9 : decode cX1_pop 9 = .ok (.aload_n 0, 1) := by decide +kernel
theorem dX1_pop_10 : decode cX1_pop 10 = .ok (.dup, 1) := by decide +kernel
theorem dX1_pop_11 : decode cX1_pop 11 = .ok (.getfield 18, 3) := by decide +kernel
theorem dX1_pop_14 : decode cX1_pop 14 = .ok (.iconst 1, 1) := by decide +kernel
theorem dX1_pop_15 : decode cX1_pop 15 = .ok (.isub, 1) := by decide +kernel
theorem dX1_pop_16 : decode cX1_pop 16 = .ok (.putfield 18, 3) := by decide +kernel
theorem dX1_pop_19 : decode cX1_pop 19 = .ok (.aload_n 0, 1) := by decide +kernel
theorem dX1_pop_20 : decode cX1_pop 20 = .ok (.getfield 15, 3) := by decide +kernel
theorem dX1_pop_23 : decode cX1_pop 23 = .ok (.aload_n 0, 1) := by decide +kernel
theorem dX1_pop_24 : decode cX1_pop 24 = .ok (.getfield 18, 3) := by decide +kernel
theorem dX1_pop_27 : decode cX1_pop 27 = .ok (.iaload, 1) := by decide +kernel
theorem dX1_pop_28 : decode cX1_pop 28 = .ok (.ireturn, 1) := by decide +kernel
theorem dX1_allows_0 : decode cX1_allows 0 = .ok (.aload_n 0, 1) := by decide +kernel
theorem dX1_allows_1 : decode cX1_allows 1 = .ok (.getfield 78, 3) := by decide +kernel
theorem dX1_allows_4 : decode cX1_allows 4 = .ok (.ifCond .ne 16, 3) := by decide +kernel
theorem dX1_allows_7 : decode cX1_allows 7 = .ok (.iload_n 2, 1) := by decide +kernel
theorem dX1_allows_8 : decode cX1_allows 8 = .ok (.iconst 4, 1) := by decide +kernel
theorem dX1_allows_9 : decode cX1_allows 9 = .ok (.imul, 1) := by decide +kernel
theorem dX1_allows_10 : decode cX1_allows 10 = .ok (.iload_n 1, 1) := by decide +kernel
theorem dX1_allows_11 : decode cX1_allows 11 = .ok (.if_icmp .ge 7, 3) := by decide +kernel
theorem dX1_allows_14 : decode cX1_allows 14 = .ok (.iconst 1, 1) := by decide +kernel
theorem dX1_allows_15 : decode cX1_allows 15 = .ok (.goto 4, 3) := by decide +kernel
theorem dX1_allows_18 : decode cX1_allows 18 = .ok (.iconst 0, 1) := by decide +kernel
theorem dX1_allows_19 : decode cX1_allows 19 = .ok (.ireturn, 1) := by decide +kernel
theorem dX1_allows_20 : decode cX1_allows 20 = .ok (.aload_n 0, 1) := by decide +kernel
theorem dX1_allows_21 : decode cX1_allows 21 = .ok (.iconst 0, 1) := by decide +kernel
theorem dX1_allows_22 : decode cX1_allows 22 = .ok (.putfield 18, 3) := by decide +kernel
theorem dX1_allows_25 : decode cX1_allows 25 = .ok (.iconst 0, 1) := by decide +kernel
theorem dX1_allows_26 : decode cX1_allows 26 = .ok (.istore 5, 2) := by decide +kernel
theorem dX1_allows_28 : decode cX1_allows 28 = .ok (.iload 5, 2) := by decide +kernel
theorem dX1_allows_30 : decode cX1_allows 30 = .ok (.aload_n 0, 1) := by decide +kernel
theorem dX1_allows_31 : decode cX1_allows 31 = .ok (.getfield 78, 3) := by decide +kernel
theorem dX1_allows_34 : decode cX1_allows 34 = .ok (.if_icmp .ge 152, 3) := by decide +kernel
theorem dX1_allows_37 : decode cX1_allows 37 = .ok (.aload_n 0, 1) := by decide +kernel
theorem dX1_allows_38 : decode cX1_allows 38 = .ok (.getfield 9, 3) := by decide +kernel
theorem dX1_allows_41 : decode cX1_allows 41 = .ok (.iload 5, 2) := by decide +kernel
theorem dX1_allows_43 : decode cX1_allows 43 = .ok (.iaload, 1) := by decide +kernel
theorem dX1_allows_44 : decode cX1_allows 44 = .ok (.sipush 10000, 3) := by decide +kernel
theorem dX1_allows_47 : decode cX1_allows 47 = .ok (.isub, 1) := by decide +kernel
theorem dX1_allows_48 : decode cX1_allows 48 = .ok (.istore 6, 2) := by decide +kernel
theorem dX1_allows_50 : decode cX1_allows 50 = .ok (.iload 6, 2) := by decide +kernel
theorem dX1_allows_52 : decode cX1_allows 52 = .ok (.tableswitch 96 147 153 #[77, 96, 96, 44, 52, 60, 68], 44) := by decide +kernel
theorem dX1_allows_96 : decode cX1_allows 96 = .ok (.aload_n 0, 1) := by decide +kernel
theorem dX1_allows_97 : decode cX1_allows 97 = .ok (.iload_n 1, 1) := by decide +kernel
theorem dX1_allows_98 : decode cX1_allows 98 = .ok (.invokevirtual 64, 3) := by decide +kernel
theorem dX1_allows_101 : decode cX1_allows 101 = .ok (.goto 79, 3) := by decide +kernel
theorem dX1_allows_104 : decode cX1_allows 104 = .ok (.aload_n 0, 1) := by decide +kernel
theorem dX1_allows_105 : decode cX1_allows 105 = .ok (.iload_n 2, 1) := by decide +kernel
theorem dX1_allows_106 : decode cX1_allows 106 = .ok (.invokevirtual 64, 3) := by decide +kernel
theorem dX1_allows_109 : decode cX1_allows 109 = .ok (.goto 71, 3) := by decide +kernel
theorem dX1_allows_112 : decode cX1_allows 112 = .ok (.aload_n 0, 1) := by decide +kernel
theorem dX1_allows_113 : decode cX1_allows 113 = .ok (.iload_n 3, 1) := by decide +kernel
theorem dX1_allows_114 : decode cX1_allows 114 = .ok (.invokevirtual 64, 3) := by decide +kernel
theorem dX1_allows_117 : decode cX1_allows 117 = .ok (.goto 63, 3) := by decide +kernel
theorem dX1_allows_120 : decode cX1_allows 120 = .ok (.aload_n 0, 1) := by decide +kernel
theorem dX1_allows_121 : decode cX1_allows 121 = .ok (.iload 4, 2) := by decide +kernel
theorem dX1_allows_123 : decode cX1_allows 123 = .ok (.invokevirtual 64, 3) := by decide +kernel
theorem dX1_allows_126 : decode cX1_allows 126 = .ok (.goto 54, 3) := by decide +kernel
theorem dX1_allows_129 : decode cX1_allows 129 = .ok (.aload_n 0, 1) := by decide +kernel
theorem dX1_allows_130 : decode cX1_allows 130 = .ok (.aload_n 0, 1) := by decide +kernel
theorem dX1_allows_131 : decode cX1_allows 131 = .ok (.invokevirtual 74, 3) := by decide +kernel
theorem dX1_allows_134 : decode cX1_allows 134 = .ok (.ifCond .ne 7, 3) := by decide +kernel
theorem dX1_allows_137 : decode cX1_allows 137 = .ok (.iconst 1, 1) := by decide +kernel
theorem dX1_allows_138 : decode cX1_allows 138 = .ok (.goto 4, 3) := by decide +kernel
theorem dX1_allows_141 : decode cX1_allows 141 = .ok (.iconst 0, 1) := by decide +kernel
theorem dX1_allows_142 : decode cX1_allows 142 = .ok (.invokevirtual 64, 3) := by decide +kernel
theorem dX1_allows_145 : decode cX1_allows 145 = .ok (.goto 35, 3) := by decide +kernel
theorem dX1_allows_148 : decode cX1_allows 148 = .ok (.aload_n 0, 1) := by decide +kernel
theorem dX1_allows_149 : decode cX1_allows 149 = .ok (.iload 6, 2) := by decide +kernel
theorem dX1_allows_151 : decode cX1_allows 151 = .ok (.ifCond .ge 13, 3) := by decide +kernel
theorem dX1_allows_154 : decode cX1_allows 154 = .ok (.aload_n 0, 1) := by decide +kernel
theorem dX1_allows_155 : decode cX1_allows 155 = .ok (.getfield 9, 3) := by decide +kernel
theorem dX1_allows_158 : decode cX1_allows 158 = .ok (.iload 5, 2) := by decide +kernel
theorem dX1_allows_160 : decode cX1_allows 160 = .ok (.iaload, 1) := by decide +kernel
theorem dX1_allows_161 : decode cX1_allows 161 = .ok (.goto 16, 3) := by decide +kernel
theorem dX1_allows_164 : decode cX1_allows 164 = .ok (.iload 6, 2) := by decide +kernel
theorem dX1_allows_166 : decode cX1_allows 166 = .ok (.aload_n 0, 1) := by decide +kernel
theorem dX1_allows_167 : decode cX1_allows 167 = .ok (.invokevirtual 74, 3) := by decide +kernel
theorem dX1_allows_170 : decode cX1_allows 170 = .ok (.aload_n 0, 1) := by decide +kernel
theorem dX1_allows_171 : decode cX1_allows 171 = .ok (.invokevirtual 74, 3) := by decide +kernel
theorem dX1_allows_174 : decode cX1_allows 174 = .ok (.invokestatic 81, 3) := by decide +kernel
theorem dX1_allows_177 : decode cX1_allows 177 = .ok (.invokevirtual 64, 3) := by decide +kernel
theorem dX1_allows_180 : decode cX1_allows 180 = .ok (.iinc 5 1, 3) := by decide +kernel
theorem dX1_allows_183 : decode cX1_allows 183 = .ok (.goto (-155), 3) := by decide +kernel
theorem dX1_allows_186 : decode cX1_allows 186 = .ok (.aload_n 0, 1) := by decide +kernel
theorem dX1_allows_187 : decode cX1_allows 187 = .ok (.invokevirtual 74, 3) := by decide +kernel
theorem dX1_allows_190 : decode cX1_allows 190 = .ok (.ifCond .eq 7, 3) := by decide +kernel
theorem dX1_allows_193 : decode cX1_allows 193 = .ok (.iconst 1, 1) := by decide +kernel
theorem dX1_allows_194 : decode cX1_allows 194 = .ok (.goto 4, 3) := by decide +kernel
theorem dX1_allows_197 : decode cX1_allows 197 = .ok (.iconst 0, 1) := by decide +kernel
theorem dX1_allows_198 : decode cX1_allows 198 = .ok (.ireturn, 1) := by decide +kernel
theorem dX1_joined_0 : decode cX1_joined 0 = .ok (.iload_n 0, 1) := by decide +kernel
theorem dX1_joined_1 : decode cX1_joined 1 = .ok (.lookupswitch 107 #[(42, 59), (43, 63), (45, 67), (60, 71), (61, 82), (148, 93)], 59) := by decide +kernel
theorem dX1_joined_60 : decode cX1_joined 60 = .ok (.iload_n 2, 1) := by decide +kernel
theorem dX1_joined_61 : decode cX1_joined 61 = .ok (.iload_n 1, 1) := by decide +kernel
theorem dX1_joined_62 : decode cX1_joined 62 = .ok (.imul, 1) := by decide +kernel
theorem dX1_joined_63 : decode cX1_joined 63 = .ok (.ireturn, 1) := by decide +kernel
theorem dX1_joined_64 : decode cX1_joined 64 = .ok (.iload_n 2, 1) := by decide +kernel
theorem dX1_joined_65 : decode cX1_joined 65 = .ok (.iload_n 1, 1) := by decide +kernel
theorem dX1_joined_66 : decode cX1_joined 66 = .ok (.iadd, 1) := by decide +kernel
theorem dX1_joined_67 : decode cX1_joined 67 = .ok (.ireturn, 1) := by decide +kernel
theorem dX1_joined_68 : decode cX1_joined 68 = .ok (.iload_n 2, 1) := by decide +kernel
theorem dX1_joined_69 : decode cX1_joined 69 = .ok (.iload_n 1, 1) := by decide +kernel
theorem dX1_joined_70 : decode cX1_joined 70 = .ok (.isub, 1) := by decide +kernel
theorem dX1_joined_71 : decode cX1_joined 71 = .ok (.ireturn, 1) := by decide +kernel
theorem dX1_joined_72 : decode cX1_joined 72 = .ok (.iload_n 2, 1) := by decide +kernel
theorem dX1_joined_73 : decode cX1_joined 73 = .ok (.iload_n 1, 1) := by decide +kernel
theorem dX1_joined_74 : decode cX1_joined 74 = .ok (.if_icmp .ge 7, 3) := by decide +kernel
theorem dX1_joined_77 : decode cX1_joined 77 = .ok (.iconst 1, 1) := by decide +kernel
theorem dX1_joined_78 : decode cX1_joined 78 = .ok (.goto 4, 3) := by decide +kernel
theorem dX1_joined_81 : decode cX1_joined 81 = .ok (.iconst 0, 1) := by decide +kernel
theorem dX1_joined_82 : decode cX1_joined 82 = .ok (.ireturn, 1) := by decide +kernel
theorem dX1_joined_83 : decode cX1_joined 83 = .ok (.iload_n 2, 1) := by decide +kernel
theorem dX1_joined_84 : decode cX1_joined 84 = .ok (.iload_n 1, 1) := by decide +kernel
theorem dX1_joined_85 : decode cX1_joined 85 = .ok (.if_icmp .ne 7, 3) := by decide +kernel
theorem dX1_joined_88 : decode cX1_joined 88 = .ok (.iconst 1, 1) := by decide +kernel
theorem dX1_joined_89 : decode cX1_joined 89 = .ok (.goto 4, 3) := by decide +kernel
theorem dX1_joined_92 : decode cX1_joined 92 = .ok (.iconst 0, 1) := by decide +kernel
theorem dX1_joined_93 : decode cX1_joined 93 = .ok (.ireturn, 1) := by decide +kernel
theorem dX1_joined_94 : decode cX1_joined 94 = .ok (.iload_n 2, 1) := by decide +kernel
theorem dX1_joined_95 : decode cX1_joined 95 = .ok (.ifCond .eq 11, 3) := by decide +kernel
theorem dX1_joined_98 : decode cX1_joined 98 = .ok (.iload_n 1, 1) := by decide +kernel
theorem dX1_joined_99 : decode cX1_joined 99 = .ok (.ifCond .eq 7, 3) := by decide +kernel
theorem dX1_joined_102 : decode cX1_joined 102 = .ok (.iconst 1, 1) := by decide +kernel
theorem dX1_joined_103 : decode cX1_joined 103 = .ok (.goto 4, 3) := by decide +kernel
theorem dX1_joined_106 : decode cX1_joined 106 = .ok (.iconst 0, 1) := by decide +kernel
theorem dX1_joined_107 : decode cX1_joined 107 = .ok (.ireturn, 1) := by decide +kernel
theorem dX1_joined_108 : decode cX1_joined 108 = .ok (.iload_n 2, 1) := by decide +kernel
theorem dX1_joined_109 : decode cX1_joined 109 = .ok (.ifCond .ne 7, 3) := by decide +kernel
theorem dX1_joined_112 : decode cX1_joined 112 = .ok (.iload_n 1, 1) := by decide +kernel
theorem dX1_joined_113 : decode cX1_joined 113 = .ok (.ifCond .eq 7, 3) := by decide +kernel
theorem dX1_joined_116 : decode cX1_joined 116 = .ok (.iconst 1, 1) := by decide +kernel
theorem dX1_joined_117 : decode cX1_joined 117 = .ok (.goto 4, 3) := by decide +kernel
theorem dX1_joined_120 : decode cX1_joined 120 = .ok (.iconst 0, 1) := by decide +kernel
theorem dX1_joined_121 : decode cX1_joined 121 = .ok (.ireturn, 1) := by decide +kernel
theorem dX2_init_0 : decode cX2_init 0 = .ok (.aload_n 0, 1) := by decide +kernel
theorem dX2_init_1 : decode cX2_init 1 = .ok (.invokespecial 3, 3) := by decide +kernel
theorem dX2_init_4 : decode cX2_init 4 = .ok (.aload_n 0, 1) := by decide +kernel
theorem dX2_init_5 : decode cX2_init 5 = .ok (.iconst 5, 1) := by decide +kernel
theorem dX2_init_6 : decode cX2_init 6 = .ok (.newarray .int, 2) := by decide +kernel
theorem dX2_init_8 : decode cX2_init 8 = .ok (.putfield 9, 3) := by decide +kernel
theorem dX2_init_11 : decode cX2_init 11 = .ok (.aload_n 0, 1) := by decide +kernel
theorem dX2_init_12 : decode cX2_init 12 = .ok (.bipush 6, 2) := by decide +kernel
theorem dX2_init_14 : decode cX2_init 14 = .ok (.newarray .int, 2) := by decide +kernel
theorem dX2_init_16 : decode cX2_init 16 = .ok (.putfield 15, 3) := by decide +kernel
theorem dX2_init_19 : decode cX2_init 19 = .ok (.aload_n 0, 1) := by decide +kernel
theorem dX2_init_20 : decode cX2_init 20 = .ok (.bipush 10, 2) := by decide +kernel
theorem dX2_init_22 : decode cX2_init 22 = .ok (.newarray .int, 2) := by decide +kernel
theorem dX2_init_24 : decode cX2_init 24 = .ok (.putfield 18, 3) := by decide +kernel
theorem dX2_init_27 : decode cX2_init 27 = .ok (.aload_n 0, 1) := by decide +kernel
theorem dX2_init_28 : decode cX2_init 28 = .ok (.iconst 5, 1) := by decide +kernel
theorem dX2_init_29 : decode cX2_init 29 = .ok (.newarray .int, 2) := by decide +kernel
theorem dX2_init_31 : decode cX2_init 31 = .ok (.putfield 21, 3) := by decide +kernel
theorem dX2_init_34 : decode cX2_init 34 = .ok (.return_, 1) := by decide +kernel
theorem dX2_search_0 : decode cX2_search 0 = .ok (.aload_n 0, 1) := by decide +kernel
theorem dX2_search_1 : decode cX2_search 1 = .ok (.aload_n 2, 1) := by decide +kernel
theorem dX2_search_2 : decode cX2_search 2 = .ok (.aload_n 1, 1) := by decide +kernel
theorem dX2_search_3 : decode cX2_search 3 = .ok (.invokevirtual 24, 3) := by decide +kernel
theorem dX2_search_6 : decode cX2_search 6 = .ok (.putfield 30, 3) := by decide +kernel
theorem dX2_search_9 : decode cX2_search 9 = .ok (.aload_n 0, 1) := by decide +kernel
theorem dX2_search_10 : decode cX2_search 10 = .ok (.aload_n 2, 1) := by decide +kernel
theorem dX2_search_11 : decode cX2_search 11 = .ok (.aload_n 1, 1) := by decide +kernel
theorem dX2_search_12 : decode cX2_search 12 = .ok (.aload_n 1, 1) := by decide +kernel
theorem dX2_search_13 : decode cX2_search 13 = .ok (.aload_n 2, 1) := by decide +kernel
theorem dX2_search_14 : decode cX2_search 14 = .ok (.getfield 34, 3) := by decide +kernel
theorem dX2_search_17 : decode cX2_search 17 = .ok (.iload_n 3, 1) := by decide +kernel
theorem dX2_search_18 : decode cX2_search 18 = .ok (.invokevirtual 37, 3) := by decide +kernel
theorem dX2_search_21 : decode cX2_search 21 = .ok (.invokevirtual 43, 3) := by decide +kernel
theorem dX2_search_24 : decode cX2_search 24 = .ok (.putfield 47, 3) := by decide +kernel
theorem dX2_search_27 : decode cX2_search 27 = .ok (.aload_n 2, 1) := by decide +kernel
theorem dX2_search_28 : decode cX2_search 28 = .ok (.aload_n 1, 1) := by decide +kernel
theorem dX2_search_29 : decode cX2_search 29 = .ok (.aload_n 0, 1) := by decide +kernel
theorem dX2_search_30 : decode cX2_search 30 = .ok (.getfield 47, 3) := by decide +kernel
theorem dX2_search_33 : decode cX2_search 33 = .ok (.invokevirtual 50, 3) := by decide +kernel
theorem dX2_search_36 : decode cX2_search 36 = .ok (.aload_n 0, 1) := by decide +kernel
theorem dX2_search_37 : decode cX2_search 37 = .ok (.getfield 30, 3) := by decide +kernel
theorem dX2_search_40 : decode cX2_search 40 = .ok (.iconst (-1), 1) := by decide +kernel
theorem dX2_search_41 : decode cX2_search 41 = .ok (.ixor, 1) := by decide +kernel
theorem dX2_search_42 : decode cX2_search 42 = .ok (.iand, 1) := by decide +kernel
theorem dX2_search_43 : decode cX2_search 43 = .ok (.istore 4, 2) := by decide +kernel
theorem dX2_search_45 : decode cX2_search 45 = .ok (.aload_n 0, 1) := by decide +kernel
theorem dX2_search_46 : decode cX2_search 46 = .ok (.getfield 30, 3) := by decide +kernel
theorem dX2_search_49 : decode cX2_search 49 = .ok (.ifCond .eq 9, 3) := by decide +kernel
theorem dX2_search_52 : decode cX2_search 52 = .ok (.aload_n 0, 1) := by decide +kernel
theorem dX2_search_53 : decode cX2_search 53 = .ok (.aload_n 1, 1) := by decide +kernel
theorem dX2_search_54 : decode cX2_search 54 = .ok (.aload_n 2, 1) := by decide +kernel
theorem dX2_search_55 : decode cX2_search 55 = .ok (.invokevirtual 53, 3) := by decide +kernel
theorem dX2_search_58 : decode cX2_search 58 = .ok (.aload_n 0, 1) := by decide +kernel
theorem dX2_search_59 : decode cX2_search 59 = .ok (.getfield 15, 3) := by decide +kernel
theorem dX2_search_62 : decode cX2_search 62 = .ok (.aload_n 1, 1) := by decide +kernel
theorem dX2_search_63 : decode cX2_search 63 = .ok (.getfield 57, 3) := by decide +kernel
theorem dX2_search_66 : decode cX2_search 66 = .ok (.iconst 0, 1) := by decide +kernel
theorem dX2_search_67 : decode cX2_search 67 = .ok (.iastore, 1) := by decide +kernel
theorem dX2_search_68 : decode cX2_search 68 = .ok (.aload_n 1, 1) := by decide +kernel
theorem dX2_search_69 : decode cX2_search 69 = .ok (.getfield 57, 3) := by decide +kernel
theorem dX2_search_72 : decode cX2_search 72 = .ok (.iconst 1, 1) := by decide +kernel
theorem dX2_search_73 : decode cX2_search 73 = .ok (.isub, 1) := by decide +kernel
theorem dX2_search_74 : decode cX2_search 74 = .ok (.istore 5, 2) := by decide +kernel
theorem dX2_search_76 : decode cX2_search 76 = .ok (.iload 5, 2) := by decide +kernel
theorem dX2_search_78 : decode cX2_search 78 = .ok (.ifCond .lt 47, 3) := by decide +kernel
theorem dX2_search_81 : decode cX2_search 81 = .ok (.aload_n 0, 1) := by decide +kernel
theorem dX2_search_82 : decode cX2_search 82 = .ok (.getfield 15, 3) := by decide +kernel
theorem dX2_search_85 : decode cX2_search 85 = .ok (.iload 5, 2) := by decide +kernel
theorem dX2_search_87 : decode cX2_search 87 = .ok (.aload_n 0, 1) := by decide +kernel
theorem dX2_search_88 : decode cX2_search 88 = .ok (.getfield 15, 3) := by decide +kernel
theorem dX2_search_91 : decode cX2_search 91 = .ok (.iload 5, 2) := by decide +kernel
theorem dX2_search_93 : decode cX2_search 93 = .ok (.iconst 1, 1) := by decide +kernel
theorem dX2_search_94 : decode cX2_search 94 = .ok (.iadd, 1) := by decide +kernel
theorem dX2_search_95 : decode cX2_search 95 = .ok (.iaload, 1) := by decide +kernel
theorem dX2_search_96 : decode cX2_search 96 = .ok (.aload_n 0, 1) := by decide +kernel
theorem dX2_search_97 : decode cX2_search 97 = .ok (.iload 5, 2) := by decide +kernel
theorem dX2_search_99 : decode cX2_search 99 = .ok (.invokevirtual 60, 3) := by decide +kernel
theorem dX2_search_102 : decode cX2_search 102 = .ok (.ifCond .eq 14, 3) := by decide +kernel
theorem dX2_search_105 : decode cX2_search 105 = .ok (.aload_n 0, 1) := by decide +kernel
theorem dX2_search_106 : decode cX2_search 106 = .ok (.aload_n 1, 1) := by decide +kernel
theorem dX2_search_107 : decode cX2_search 107 = .ok (.aload_n 2, 1) := by decide +kernel
theorem dX2_search_108 : decode cX2_search 108 = .ok (.iload 5, 2) := by decide +kernel
theorem dX2_search_110 : decode cX2_search 110 = .ok (.invokevirtual 64, 3) := by decide +kernel
theorem dX2_search_113 : decode cX2_search 113 = .ok (.goto 4, 3) := by decide +kernel
theorem dX2_search_116 : decode cX2_search 116 = .ok (.iconst 0, 1) := by decide +kernel
theorem dX2_search_117 : decode cX2_search 117 = .ok (.iadd, 1) := by decide +kernel
theorem dX2_search_118 : decode cX2_search 118 = .ok (.iastore, 1) := by decide +kernel
theorem dX2_search_119 : decode cX2_search 119 = .ok (.iinc 5 (-1), 3) := by decide +kernel
theorem dX2_search_122 : decode cX2_search 122 = .ok (.goto (-46), 3) := by decide +kernel
theorem dX2_search_125 : decode cX2_search 125 = .ok (.aload_n 0, 1) := by decide +kernel
theorem dX2_search_126 : decode cX2_search 126 = .ok (.ldc 70, 2) := by decide +kernel
theorem dX2_search_128 : decode cX2_search 128 = .ok (.putfield 71, 3) := by decide +kernel
theorem dX2_search_131 : decode cX2_search 131 = .ok (.aload_n 0, 1) := by decide +kernel
theorem dX2_search_132 : decode cX2_search 132 = .ok (.aload_n 1, 1) := by decide +kernel
theorem dX2_search_133 : decode cX2_search 133 = .ok (.aload_n 2, 1) := by decide +kernel
theorem dX2_search_134 : decode cX2_search 134 = .ok (.iconst 0, 1) := by decide +kernel
theorem dX2_search_135 : decode cX2_search 135 = .ok (.iconst 0, 1) := by decide +kernel
theorem dX2_search_136 : decode cX2_search 136 = .ok (.invokestatic 74, 3) := by decide +kernel
theorem dX2_search_139 : decode cX2_search 139 = .ok (.aload_n 0, 1) := by decide +kernel
theorem dX2_search_140 : decode cX2_search 140 = .ok (.iload 4, 2) := by decide +kernel
theorem dX2_search_142 : decode cX2_search 142 = .ok (.invokestatic 78, 3) := by decide +kernel
theorem dX2_search_145 : decode cX2_search 145 = .ok (.aload_n 0, 1) := by decide +kernel
theorem dX2_search_146 : decode cX2_search 146 = .ok (.getfield 71, 3) := by decide +kernel
theorem dX2_search_149 : decode cX2_search 149 = .ok (.bipush 16, 2) := by decide +kernel
theorem dX2_search_151 : decode cX2_search 151 = .ok (.idiv, 1) := by decide +kernel
theorem dX2_search_152 : decode cX2_search 152 = .ok (.iadd, 1) := by decide +kernel
theorem dX2_search_153 : decode cX2_search 153 = .ok (.putfield 82, 3) := by decide +kernel
theorem dX2_search_156 : decode cX2_search 156 = .ok (.return_, 1) := by decide +kernel
theorem dX2_isLodged_0 : decode cX2_isLodged 0 = .ok (.aload_n 0, 1) := by decide +kernel
theorem dX2_isLodged_1 : decode cX2_isLodged 1 = .ok (.getfield 30, 3) := by decide +kernel
theorem dX2_isLodged_4 : decode cX2_isLodged 4 = .ok (.iload_n 1, 1) := by decide +kernel
theorem dX2_isLodged_5 : decode cX2_isLodged 5 = .ok (.ishr, 1) := by decide +kernel
theorem dX2_isLodged_6 : decode cX2_isLodged 6 = .ok (.iconst 1, 1) := by decide +kernel
theorem dX2_isLodged_7 : decode cX2_isLodged 7 = .ok (.iand, 1) := by decide +kernel
theorem dX2_isLodged_8 : decode cX2_isLodged 8 = .ok (.ifCond .eq 7, 3) := by decide +kernel
theorem dX2_isLodged_11 : decode cX2_isLodged 11 = .ok (.iconst 1, 1) := by decide +kernel
theorem dX2_isLodged_12 : decode cX2_isLodged 12 = .ok (.goto 4, 3) := by decide +kernel
theorem dX2_isLodged_15 : decode cX2_isLodged 15 = .ok (.iconst 0, 1) := by decide +kernel
theorem dX2_isLodged_16 : decode cX2_isLodged 16 = .ok (.ireturn, 1) := by decide +kernel
theorem dX2_learnLaw_0 : decode cX2_learnLaw 0 = .ok (.iconst 0, 1) := by decide +kernel
theorem dX2_learnLaw_1 : decode cX2_learnLaw 1 = .ok (.istore_n 3, 1) := by decide +kernel
theorem dX2_learnLaw_2 : decode cX2_learnLaw 2 = .ok (.iload_n 3, 1) := by decide +kernel
theorem dX2_learnLaw_3 : decode cX2_learnLaw 3 = .ok (.aload_n 1, 1) := by decide +kernel
theorem dX2_learnLaw_4 : decode cX2_learnLaw 4 = .ok (.getfield 85, 3) := by decide +kernel
theorem dX2_learnLaw_7 : decode cX2_learnLaw 7 = .ok (.if_icmp .ge 120, 3) := by decide +kernel
theorem dX2_learnLaw_10 : decode cX2_learnLaw 10 = .ok (.aload_n 0, 1) := by decide +kernel
theorem dX2_learnLaw_11 : decode cX2_learnLaw 11 = .ok (.getfield 18, 3) := by decide +kernel
theorem dX2_learnLaw_14 : decode cX2_learnLaw 14 = .ok (.iload_n 3, 1) := by decide +kernel
theorem dX2_learnLaw_15 : decode cX2_learnLaw 15 = .ok (.iconst 2, 1) := by decide +kernel
theorem dX2_learnLaw_16 : decode cX2_learnLaw 16 = .ok (.imul, 1) := by decide +kernel
theorem dX2_learnLaw_17 : decode cX2_learnLaw 17 = .ok (.iconst 0, 1) := by decide +kernel
theorem dX2_learnLaw_18 : decode cX2_learnLaw 18 = .ok (.iastore, 1) := by decide +kernel
theorem dX2_learnLaw_19 : decode cX2_learnLaw 19 = .ok (.aload_n 0, 1) := by decide +kernel
theorem dX2_learnLaw_20 : decode cX2_learnLaw 20 = .ok (.getfield 18, 3) := by decide +kernel
theorem dX2_learnLaw_23 : decode cX2_learnLaw 23 = .ok (.iload_n 3, 1) := by decide +kernel
theorem dX2_learnLaw_24 : decode cX2_learnLaw 24 = .ok (.iconst 2, 1) := by decide +kernel
theorem dX2_learnLaw_25 : decode cX2_learnLaw 25 = .ok (.imul, 1) := by decide +kernel
theorem dX2_learnLaw_26 : decode cX2_learnLaw 26 = .ok (.iconst 1, 1) := by decide +kernel
theorem dX2_learnLaw_27 : decode cX2_learnLaw 27 = .ok (.iadd, 1) := by decide +kernel
theorem dX2_learnLaw_28 : decode cX2_learnLaw 28 = .ok (.iconst 0, 1) := by decide +kernel
theorem dX2_learnLaw_29 : decode cX2_learnLaw 29 = .ok (.iastore, 1) := by decide +kernel
theorem dX2_learnLaw_30 : decode cX2_learnLaw 30 = .ok (.iconst 0, 1) := by decide +kernel
theorem dX2_learnLaw_31 : decode cX2_learnLaw 31 = .ok (.istore 4, 2) := by decide +kernel
theorem dX2_learnLaw_33 : decode cX2_learnLaw 33 = .ok (.iload 4, 2) := by decide +kernel
theorem dX2_learnLaw_35 : decode cX2_learnLaw 35 = .ok (.aload_n 1, 1) := by decide +kernel
theorem dX2_learnLaw_36 : decode cX2_learnLaw 36 = .ok (.getfield 57, 3) := by decide +kernel
theorem dX2_learnLaw_39 : decode cX2_learnLaw 39 = .ok (.if_icmp .ge 82, 3) := by decide +kernel
theorem dX2_learnLaw_42 : decode cX2_learnLaw 42 = .ok (.aload_n 1, 1) := by decide +kernel
theorem dX2_learnLaw_43 : decode cX2_learnLaw 43 = .ok (.getfield 88, 3) := by decide +kernel
theorem dX2_learnLaw_46 : decode cX2_learnLaw 46 = .ok (.iload_n 3, 1) := by decide +kernel
theorem dX2_learnLaw_47 : decode cX2_learnLaw 47 = .ok (.iaload, 1) := by decide +kernel
theorem dX2_learnLaw_48 : decode cX2_learnLaw 48 = .ok (.istore 5, 2) := by decide +kernel
theorem dX2_learnLaw_50 : decode cX2_learnLaw 50 = .ok (.aload_n 0, 1) := by decide +kernel
theorem dX2_learnLaw_51 : decode cX2_learnLaw 51 = .ok (.getfield 18, 3) := by decide +kernel
theorem dX2_learnLaw_54 : decode cX2_learnLaw 54 = .ok (.iload_n 3, 1) := by decide +kernel
theorem dX2_learnLaw_55 : decode cX2_learnLaw 55 = .ok (.iconst 2, 1) := by decide +kernel
theorem dX2_learnLaw_56 : decode cX2_learnLaw 56 = .ok (.imul, 1) := by decide +kernel
theorem dX2_learnLaw_57 : decode cX2_learnLaw 57 = .ok (.dup2, 1) := by decide +kernel
theorem dX2_learnLaw_58 : decode cX2_learnLaw 58 = .ok (.iaload, 1) := by decide +kernel
theorem dX2_learnLaw_59 : decode cX2_learnLaw 59 = .ok (.aload_n 2, 1) := by decide +kernel
theorem dX2_learnLaw_60 : decode cX2_learnLaw 60 = .ok (.aload_n 1, 1) := by decide +kernel
theorem dX2_learnLaw_61 : decode cX2_learnLaw 61 = .ok (.iload_n 3, 1) := by decide +kernel
theorem dX2_learnLaw_62 : decode cX2_learnLaw 62 = .ok (.iload 4, 2) := by decide +kernel
theorem dX2_learnLaw_64 : decode cX2_learnLaw 64 = .ok (.iconst (-1), 1) := by decide +kernel
theorem dX2_learnLaw_65 : decode cX2_learnLaw 65 = .ok (.invokevirtual 91, 3) := by decide +kernel
theorem dX2_learnLaw_68 : decode cX2_learnLaw 68 = .ok (.ifCond .eq 10, 3) := by decide +kernel
theorem dX2_learnLaw_71 : decode cX2_learnLaw 71 = .ok (.iconst 1, 1) := by decide +kernel
theorem dX2_learnLaw_72 : decode cX2_learnLaw 72 = .ok (.iload 4, 2) := by decide +kernel
theorem dX2_learnLaw_74 : decode cX2_learnLaw 74 = .ok (.ishl, 1) := by decide +kernel
theorem dX2_learnLaw_75 : decode cX2_learnLaw 75 = .ok (.goto 4, 3) := by decide +kernel
theorem dX2_learnLaw_78 : decode cX2_learnLaw 78 = .ok (.iconst 0, 1) := by decide +kernel
theorem dX2_learnLaw_79 : decode cX2_learnLaw 79 = .ok (.ior, 1) := by decide +kernel
theorem dX2_learnLaw_80 : decode cX2_learnLaw 80 = .ok (.iastore, 1) := by decide +kernel
theorem dX2_learnLaw_81 : decode cX2_learnLaw 81 = .ok (.aload_n 0, 1) := by decide +kernel
theorem dX2_learnLaw_82 : decode cX2_learnLaw 82 = .ok (.getfield 18, 3) := by decide +kernel
theorem dX2_learnLaw_85 : decode cX2_learnLaw 85 = .ok (.iload_n 3, 1) := by decide +kernel
theorem dX2_learnLaw_86 : decode cX2_learnLaw 86 = .ok (.iconst 2, 1) := by decide +kernel
theorem dX2_learnLaw_87 : decode cX2_learnLaw 87 = .ok (.imul, 1) := by decide +kernel
theorem dX2_learnLaw_88 : decode cX2_learnLaw 88 = .ok (.iconst 1, 1) := by decide +kernel
theorem dX2_learnLaw_89 : decode cX2_learnLaw 89 = .ok (.iadd, 1) := by decide +kernel
theorem dX2_learnLaw_90 : decode cX2_learnLaw 90 = .ok (.dup2, 1) := by decide +kernel
theorem dX2_learnLaw_91 : decode cX2_learnLaw 91 = .ok (.iaload, 1) := by decide +kernel
theorem dX2_learnLaw_92 : decode cX2_learnLaw 92 = .ok (.aload_n 2, 1) := by decide +kernel
theorem dX2_learnLaw_93 : decode cX2_learnLaw 93 = .ok (.aload_n 1, 1) := by decide +kernel
theorem dX2_learnLaw_94 : decode cX2_learnLaw 94 = .ok (.iload_n 3, 1) := by decide +kernel
theorem dX2_learnLaw_95 : decode cX2_learnLaw 95 = .ok (.iload 4, 2) := by decide +kernel
theorem dX2_learnLaw_97 : decode cX2_learnLaw 97 = .ok (.iload 5, 2) := by decide +kernel
theorem dX2_learnLaw_99 : decode cX2_learnLaw 99 = .ok (.invokevirtual 91, 3) := by decide +kernel
theorem dX2_learnLaw_102 : decode cX2_learnLaw 102 = .ok (.ifCond .eq 10, 3) := by decide +kernel
theorem dX2_learnLaw_105 : decode cX2_learnLaw 105 = .ok (.iconst 1, 1) := by decide +kernel
theorem dX2_learnLaw_106 : decode cX2_learnLaw 106 = .ok (.iload 4, 2) := by decide +kernel
theorem dX2_learnLaw_108 : decode cX2_learnLaw 108 = .ok (.ishl, 1) := by decide +kernel
theorem dX2_learnLaw_109 : decode cX2_learnLaw 109 = .ok (.goto 4, 3) := by decide +kernel
theorem dX2_learnLaw_112 : decode cX2_learnLaw 112 = .ok (.iconst 0, 1) := by decide +kernel
theorem dX2_learnLaw_113 : decode cX2_learnLaw 113 = .ok (.ior, 1) := by decide +kernel
theorem dX2_learnLaw_114 : decode cX2_learnLaw 114 = .ok (.iastore, 1) := by decide +kernel
theorem dX2_learnLaw_115 : decode cX2_learnLaw 115 = .ok (.iinc 4 1, 3) := by decide +kernel
theorem dX2_learnLaw_118 : decode cX2_learnLaw 118 = .ok (.goto (-85), 3) := by decide +kernel
theorem dX2_learnLaw_121 : decode cX2_learnLaw 121 = .ok (.iinc 3 1, 3) := by decide +kernel
theorem dX2_learnLaw_124 : decode cX2_learnLaw 124 = .ok (.goto (-122), 3) := by decide +kernel
theorem dX2_learnLaw_127 : decode cX2_learnLaw 127 = .ok (.return_, 1) := by decide +kernel
theorem dX2_isTaken_0 : decode cX2_isTaken 0 = .ok (.aload_n 1, 1) := by decide +kernel
theorem dX2_isTaken_1 : decode cX2_isTaken 1 = .ok (.getfield 95, 3) := by decide +kernel
theorem dX2_isTaken_4 : decode cX2_isTaken 4 = .ok (.iload 4, 2) := by decide +kernel
theorem dX2_isTaken_6 : decode cX2_isTaken 6 = .ok (.iaload, 1) := by decide +kernel
theorem dX2_isTaken_7 : decode cX2_isTaken 7 = .ok (.sipush 146, 3) := by decide +kernel
theorem dX2_isTaken_10 : decode cX2_isTaken 10 = .ok (.if_icmp .eq 28, 3) := by decide +kernel
theorem dX2_isTaken_13 : decode cX2_isTaken 13 = .ok (.aload_n 2, 1) := by decide +kernel
theorem dX2_isTaken_14 : decode cX2_isTaken 14 = .ok (.aload_n 1, 1) := by decide +kernel
theorem dX2_isTaken_15 : decode cX2_isTaken 15 = .ok (.iload_n 3, 1) := by decide +kernel
theorem dX2_isTaken_16 : decode cX2_isTaken 16 = .ok (.iload 4, 2) := by decide +kernel
theorem dX2_isTaken_18 : decode cX2_isTaken 18 = .ok (.invokevirtual 98, 3) := by decide +kernel
theorem dX2_isTaken_21 : decode cX2_isTaken 21 = .ok (.ifCond .eq 21, 3) := by decide +kernel
theorem dX2_isTaken_24 : decode cX2_isTaken 24 = .ok (.aload_n 0, 1) := by decide +kernel
theorem dX2_isTaken_25 : decode cX2_isTaken 25 = .ok (.aload_n 1, 1) := by decide +kernel
theorem dX2_isTaken_26 : decode cX2_isTaken 26 = .ok (.aload_n 2, 1) := by decide +kernel
theorem dX2_isTaken_27 : decode cX2_isTaken 27 = .ok (.iload_n 3, 1) := by decide +kernel
theorem dX2_isTaken_28 : decode cX2_isTaken 28 = .ok (.iload 4, 2) := by decide +kernel
theorem dX2_isTaken_30 : decode cX2_isTaken 30 = .ok (.invokevirtual 102, 3) := by decide +kernel
theorem dX2_isTaken_33 : decode cX2_isTaken 33 = .ok (.iconst 1, 1) := by decide +kernel
theorem dX2_isTaken_34 : decode cX2_isTaken 34 = .ok (.iand, 1) := by decide +kernel
theorem dX2_isTaken_35 : decode cX2_isTaken 35 = .ok (.ifCond .eq 7, 3) := by decide +kernel
theorem dX2_isTaken_38 : decode cX2_isTaken 38 = .ok (.iconst 1, 1) := by decide +kernel
theorem dX2_isTaken_39 : decode cX2_isTaken 39 = .ok (.goto 4, 3) := by decide +kernel
theorem dX2_isTaken_42 : decode cX2_isTaken 42 = .ok (.iconst 0, 1) := by decide +kernel
theorem dX2_isTaken_43 : decode cX2_isTaken 43 = .ok (.ireturn, 1) := by decide +kernel
theorem dX2_lawfulFromNow_0 : decode cX2_lawfulFromNow 0 = .ok (.aload_n 1, 1) := by decide +kernel
theorem dX2_lawfulFromNow_1 : decode cX2_lawfulFromNow 1 = .ok (.getfield 95, 3) := by decide +kernel
theorem dX2_lawfulFromNow_4 : decode cX2_lawfulFromNow 4 = .ok (.iload 4, 2) := by decide +kernel
theorem dX2_lawfulFromNow_6 : decode cX2_lawfulFromNow 6 = .ok (.iaload, 1) := by decide +kernel
theorem dX2_lawfulFromNow_7 : decode cX2_lawfulFromNow 7 = .ok (.sipush 145, 3) := by decide +kernel
theorem dX2_lawfulFromNow_10 : decode cX2_lawfulFromNow 10 = .ok (.if_icmp .ne 5, 3) := by decide +kernel
theorem dX2_lawfulFromNow_13 : decode cX2_lawfulFromNow 13 = .ok (.iconst 1, 1) := by decide +kernel
theorem dX2_lawfulFromNow_14 : decode cX2_lawfulFromNow 14 = .ok (.ireturn, 1) := by decide +kernel
theorem dX2_lawfulFromNow_15 : decode cX2_lawfulFromNow 15 = .ok (.aload_n 1, 1) := by decide +kernel
theorem dX2_lawfulFromNow_16 : decode cX2_lawfulFromNow 16 = .ok (.getfield 88, 3) := by decide +kernel
theorem dX2_lawfulFromNow_19 : decode cX2_lawfulFromNow 19 = .ok (.iload_n 3, 1) := by decide +kernel
theorem dX2_lawfulFromNow_20 : decode cX2_lawfulFromNow 20 = .ok (.iaload, 1) := by decide +kernel
theorem dX2_lawfulFromNow_21 : decode cX2_lawfulFromNow 21 = .ok (.aload_n 1, 1) := by decide +kernel
theorem dX2_lawfulFromNow_22 : decode cX2_lawfulFromNow 22 = .ok (.getfield 106, 3) := by decide +kernel
theorem dX2_lawfulFromNow_25 : decode cX2_lawfulFromNow 25 = .ok (.iload 4, 2) := by decide +kernel
theorem dX2_lawfulFromNow_27 : decode cX2_lawfulFromNow 27 = .ok (.iaload, 1) := by decide +kernel
theorem dX2_lawfulFromNow_28 : decode cX2_lawfulFromNow 28 = .ok (.if_icmp .ne 7, 3) := by decide +kernel
theorem dX2_lawfulFromNow_31 : decode cX2_lawfulFromNow 31 = .ok (.iconst 1, 1) := by decide +kernel
theorem dX2_lawfulFromNow_32 : decode cX2_lawfulFromNow 32 = .ok (.goto 4, 3) := by decide +kernel
theorem dX2_lawfulFromNow_35 : decode cX2_lawfulFromNow 35 = .ok (.iconst 0, 1) := by decide +kernel
theorem dX2_lawfulFromNow_36 : decode cX2_lawfulFromNow 36 = .ok (.istore 5, 2) := by decide +kernel
theorem dX2_lawfulFromNow_38 : decode cX2_lawfulFromNow 38 = .ok (.aload_n 0, 1) := by decide +kernel
theorem dX2_lawfulFromNow_39 : decode cX2_lawfulFromNow 39 = .ok (.getfield 18, 3) := by decide +kernel
theorem dX2_lawfulFromNow_42 : decode cX2_lawfulFromNow 42 = .ok (.iload_n 3, 1) := by decide +kernel
theorem dX2_lawfulFromNow_43 : decode cX2_lawfulFromNow 43 = .ok (.iconst 2, 1) := by decide +kernel
theorem dX2_lawfulFromNow_44 : decode cX2_lawfulFromNow 44 = .ok (.imul, 1) := by decide +kernel
theorem dX2_lawfulFromNow_45 : decode cX2_lawfulFromNow 45 = .ok (.iload 5, 2) := by decide +kernel
theorem dX2_lawfulFromNow_47 : decode cX2_lawfulFromNow 47 = .ok (.iadd, 1) := by decide +kernel
theorem dX2_lawfulFromNow_48 : decode cX2_lawfulFromNow 48 = .ok (.iaload, 1) := by decide +kernel
theorem dX2_lawfulFromNow_49 : decode cX2_lawfulFromNow 49 = .ok (.aload_n 2, 1) := by decide +kernel
theorem dX2_lawfulFromNow_50 : decode cX2_lawfulFromNow 50 = .ok (.getfield 109, 3) := by decide +kernel
theorem dX2_lawfulFromNow_53 : decode cX2_lawfulFromNow 53 = .ok (.iload_n 3, 1) := by decide +kernel
theorem dX2_lawfulFromNow_54 : decode cX2_lawfulFromNow 54 = .ok (.iaload, 1) := by decide +kernel
theorem dX2_lawfulFromNow_55 : decode cX2_lawfulFromNow 55 = .ok (.invokestatic 78, 3) := by decide +kernel
theorem dX2_lawfulFromNow_58 : decode cX2_lawfulFromNow 58 = .ok (.ishr, 1) := by decide +kernel
theorem dX2_lawfulFromNow_59 : decode cX2_lawfulFromNow 59 = .ok (.ireturn, 1) := by decide +kernel
theorem dX2_costOf_0 : decode cX2_costOf 0 = .ok (.aload_n 1, 1) := by decide +kernel
theorem dX2_costOf_1 : decode cX2_costOf 1 = .ok (.getfield 95, 3) := by decide +kernel
theorem dX2_costOf_4 : decode cX2_costOf 4 = .ok (.iload_n 2, 1) := by decide +kernel
theorem dX2_costOf_5 : decode cX2_costOf 5 = .ok (.iaload, 1) := by decide +kernel
theorem dX2_costOf_6 : decode cX2_costOf 6 = .ok (.istore 4, 2) := by decide +kernel
theorem dX2_costOf_8 : decode cX2_costOf 8 = .ok (.iload_n 3, 1) := by decide +kernel
theorem dX2_costOf_9 : decode cX2_costOf 9 = .ok (.iconst (-1), 1) := by decide +kernel
theorem dX2_costOf_10 : decode cX2_costOf 10 = .ok (.if_icmp .eq 24, 3) := by decide +kernel
theorem dX2_costOf_13 : decode cX2_costOf 13 = .ok (.iload 4, 2) := by decide +kernel
theorem dX2_costOf_15 : decode cX2_costOf 15 = .ok (.sipush 146, 3) := by decide +kernel
theorem dX2_costOf_18 : decode cX2_costOf 18 = .ok (.if_icmp .eq 14, 3) := by decide +kernel
theorem dX2_costOf_21 : decode cX2_costOf 21 = .ok (.aload_n 0, 1) := by decide +kernel
theorem dX2_costOf_22 : decode cX2_costOf 22 = .ok (.getfield 47, 3) := by decide +kernel
theorem dX2_costOf_25 : decode cX2_costOf 25 = .ok (.iload_n 3, 1) := by decide +kernel
theorem dX2_costOf_26 : decode cX2_costOf 26 = .ok (.ishr, 1) := by decide +kernel
theorem dX2_costOf_27 : decode cX2_costOf 27 = .ok (.iconst 1, 1) := by decide +kernel
theorem dX2_costOf_28 : decode cX2_costOf 28 = .ok (.iand, 1) := by decide +kernel
theorem dX2_costOf_29 : decode cX2_costOf 29 = .ok (.ifCond .eq 5, 3) := by decide +kernel
theorem dX2_costOf_32 : decode cX2_costOf 32 = .ok (.iconst 0, 1) := by decide +kernel
theorem dX2_costOf_33 : decode cX2_costOf 33 = .ok (.ireturn, 1) := by decide +kernel
theorem dX2_costOf_34 : decode cX2_costOf 34 = .ok (.iload 4, 2) := by decide +kernel
theorem dX2_costOf_36 : decode cX2_costOf 36 = .ok (.sipush 144, 3) := by decide +kernel
theorem dX2_costOf_39 : decode cX2_costOf 39 = .ok (.if_icmp .ne 8, 3) := by decide +kernel
theorem dX2_costOf_42 : decode cX2_costOf 42 = .ok (.bipush 17, 2) := by decide +kernel
theorem dX2_costOf_44 : decode cX2_costOf 44 = .ok (.goto 4, 3) := by decide +kernel
theorem dX2_costOf_47 : decode cX2_costOf 47 = .ok (.iconst 1, 1) := by decide +kernel
theorem dX2_costOf_48 : decode cX2_costOf 48 = .ok (.ireturn, 1) := by decide +kernel
theorem dX2_leastCost_0 : decode cX2_leastCost 0 = .ok (.aload_n 0, 1) := by decide +kernel
theorem dX2_leastCost_1 : decode cX2_leastCost 1 = .ok (.aload_n 1, 1) := by decide +kernel
theorem dX2_leastCost_2 : decode cX2_leastCost 2 = .ok (.iload_n 3, 1) := by decide +kernel
theorem dX2_leastCost_3 : decode cX2_leastCost 3 = .ok (.iconst (-1), 1) := by decide +kernel
theorem dX2_leastCost_4 : decode cX2_leastCost 4 = .ok (.invokevirtual 112, 3) := by decide +kernel
theorem dX2_leastCost_7 : decode cX2_leastCost 7 = .ok (.istore 4, 2) := by decide +kernel
theorem dX2_leastCost_9 : decode cX2_leastCost 9 = .ok (.iconst 0, 1) := by decide +kernel
theorem dX2_leastCost_10 : decode cX2_leastCost 10 = .ok (.istore 5, 2) := by decide +kernel
theorem dX2_leastCost_12 : decode cX2_leastCost 12 = .ok (.iload 5, 2) := by decide +kernel
theorem dX2_leastCost_14 : decode cX2_leastCost 14 = .ok (.aload_n 1, 1) := by decide +kernel
theorem dX2_leastCost_15 : decode cX2_leastCost 15 = .ok (.getfield 85, 3) := by decide +kernel
theorem dX2_leastCost_18 : decode cX2_leastCost 18 = .ok (.if_icmp .ge 48, 3) := by decide +kernel
theorem dX2_leastCost_21 : decode cX2_leastCost 21 = .ok (.aload_n 1, 1) := by decide +kernel
theorem dX2_leastCost_22 : decode cX2_leastCost 22 = .ok (.getfield 95, 3) := by decide +kernel
theorem dX2_leastCost_25 : decode cX2_leastCost 25 = .ok (.iload_n 3, 1) := by decide +kernel
theorem dX2_leastCost_26 : decode cX2_leastCost 26 = .ok (.iaload, 1) := by decide +kernel
theorem dX2_leastCost_27 : decode cX2_leastCost 27 = .ok (.sipush 146, 3) := by decide +kernel
theorem dX2_leastCost_30 : decode cX2_leastCost 30 = .ok (.if_icmp .eq 15, 3) := by decide +kernel
theorem dX2_leastCost_33 : decode cX2_leastCost 33 = .ok (.aload_n 0, 1) := by decide +kernel
theorem dX2_leastCost_34 : decode cX2_leastCost 34 = .ok (.aload_n 1, 1) := by decide +kernel
theorem dX2_leastCost_35 : decode cX2_leastCost 35 = .ok (.aload_n 2, 1) := by decide +kernel
theorem dX2_leastCost_36 : decode cX2_leastCost 36 = .ok (.iload 5, 2) := by decide +kernel
theorem dX2_leastCost_38 : decode cX2_leastCost 38 = .ok (.iload_n 3, 1) := by decide +kernel
theorem dX2_leastCost_39 : decode cX2_leastCost 39 = .ok (.invokevirtual 102, 3) := by decide +kernel
theorem dX2_leastCost_42 : decode cX2_leastCost 42 = .ok (.ifCond .eq 18, 3) := by decide +kernel
theorem dX2_leastCost_45 : decode cX2_leastCost 45 = .ok (.iload 4, 2) := by decide +kernel
theorem dX2_leastCost_47 : decode cX2_leastCost 47 = .ok (.aload_n 0, 1) := by decide +kernel
theorem dX2_leastCost_48 : decode cX2_leastCost 48 = .ok (.aload_n 1, 1) := by decide +kernel
theorem dX2_leastCost_49 : decode cX2_leastCost 49 = .ok (.iload_n 3, 1) := by decide +kernel
theorem dX2_leastCost_50 : decode cX2_leastCost 50 = .ok (.iload 5, 2) := by decide +kernel
theorem dX2_leastCost_52 : decode cX2_leastCost 52 = .ok (.invokevirtual 112, 3) := by decide +kernel
theorem dX2_leastCost_55 : decode cX2_leastCost 55 = .ok (.invokestatic 116, 3) := by decide +kernel
theorem dX2_leastCost_58 : decode cX2_leastCost 58 = .ok (.istore 4, 2) := by decide +kernel
theorem dX2_leastCost_60 : decode cX2_leastCost 60 = .ok (.iinc 5 1, 3) := by decide +kernel
theorem dX2_leastCost_63 : decode cX2_leastCost 63 = .ok (.goto (-51), 3) := by decide +kernel
theorem dX2_leastCost_66 : decode cX2_leastCost 66 = .ok (.iload 4, 2) := by decide +kernel
theorem dX2_leastCost_68 : decode cX2_leastCost 68 = .ok (.ireturn, 1) := by decide +kernel
theorem dX2_lodge_0 : decode cX2_lodge 0 = .ok (.iload_n 3, 1) := by decide +kernel
theorem dX2_lodge_1 : decode cX2_lodge 1 = .ok (.aload_n 1, 1) := by decide +kernel
theorem dX2_lodge_2 : decode cX2_lodge 2 = .ok (.getfield 57, 3) := by decide +kernel
theorem dX2_lodge_5 : decode cX2_lodge 5 = .ok (.if_icmp .gt 19, 3) := by decide +kernel
theorem dX2_lodge_8 : decode cX2_lodge 8 = .ok (.iload 4, 2) := by decide +kernel
theorem dX2_lodge_10 : decode cX2_lodge 10 = .ok (.aload_n 0, 1) := by decide +kernel
theorem dX2_lodge_11 : decode cX2_lodge 11 = .ok (.getfield 15, 3) := by decide +kernel
theorem dX2_lodge_14 : decode cX2_lodge 14 = .ok (.iload_n 3, 1) := by decide +kernel
theorem dX2_lodge_15 : decode cX2_lodge 15 = .ok (.iaload, 1) := by decide +kernel
theorem dX2_lodge_16 : decode cX2_lodge 16 = .ok (.iadd, 1) := by decide +kernel
theorem dX2_lodge_17 : decode cX2_lodge 17 = .ok (.aload_n 0, 1) := by decide +kernel
theorem dX2_lodge_18 : decode cX2_lodge 18 = .ok (.getfield 71, 3) := by decide +kernel
theorem dX2_lodge_21 : decode cX2_lodge 21 = .ok (.if_icmp .lt 4, 3) := by decide +kernel
theorem dX2_lodge_24 : decode cX2_lodge 24 = .ok (.return_, 1) := by decide +kernel
theorem dX2_lodge_25 : decode cX2_lodge 25 = .ok (.iload_n 3, 1) := by decide +kernel
theorem dX2_lodge_26 : decode cX2_lodge 26 = .ok (.aload_n 1, 1) := by decide +kernel
theorem dX2_lodge_27 : decode cX2_lodge 27 = .ok (.getfield 57, 3) := by decide +kernel
theorem dX2_lodge_30 : decode cX2_lodge 30 = .ok (.if_icmp .ne 11, 3) := by decide +kernel
theorem dX2_lodge_33 : decode cX2_lodge 33 = .ok (.aload_n 0, 1) := by decide +kernel
theorem dX2_lodge_34 : decode cX2_lodge 34 = .ok (.iload_n 3, 1) := by decide +kernel
theorem dX2_lodge_35 : decode cX2_lodge 35 = .ok (.iload 4, 2) := by decide +kernel
theorem dX2_lodge_37 : decode cX2_lodge 37 = .ok (.invokevirtual 121, 3) := by decide +kernel
theorem dX2_lodge_40 : decode cX2_lodge 40 = .ok (.return_, 1) := by decide +kernel
theorem dX2_lodge_41 : decode cX2_lodge 41 = .ok (.aload_n 0, 1) := by decide +kernel
theorem dX2_lodge_42 : decode cX2_lodge 42 = .ok (.iload_n 3, 1) := by decide +kernel
theorem dX2_lodge_43 : decode cX2_lodge 43 = .ok (.invokevirtual 60, 3) := by decide +kernel
theorem dX2_lodge_46 : decode cX2_lodge 46 = .ok (.ifCond .eq 101, 3) := by decide +kernel
theorem dX2_lodge_49 : decode cX2_lodge 49 = .ok (.iconst 0, 1) := by decide +kernel
theorem dX2_lodge_50 : decode cX2_lodge 50 = .ok (.istore 5, 2) := by decide +kernel
theorem dX2_lodge_52 : decode cX2_lodge 52 = .ok (.iload 5, 2) := by decide +kernel
theorem dX2_lodge_54 : decode cX2_lodge 54 = .ok (.aload_n 1, 1) := by decide +kernel
theorem dX2_lodge_55 : decode cX2_lodge 55 = .ok (.getfield 85, 3) := by decide +kernel
theorem dX2_lodge_58 : decode cX2_lodge 58 = .ok (.if_icmp .ge 77, 3) := by decide +kernel
theorem dX2_lodge_61 : decode cX2_lodge 61 = .ok (.aload_n 0, 1) := by decide +kernel
theorem dX2_lodge_62 : decode cX2_lodge 62 = .ok (.aload_n 1, 1) := by decide +kernel
theorem dX2_lodge_63 : decode cX2_lodge 63 = .ok (.aload_n 2, 1) := by decide +kernel
theorem dX2_lodge_64 : decode cX2_lodge 64 = .ok (.iload 5, 2) := by decide +kernel
theorem dX2_lodge_66 : decode cX2_lodge 66 = .ok (.iload_n 3, 1) := by decide +kernel
theorem dX2_lodge_67 : decode cX2_lodge 67 = .ok (.invokevirtual 125, 3) := by decide +kernel
theorem dX2_lodge_70 : decode cX2_lodge 70 = .ok (.ifCond .eq 59, 3) := by decide +kernel
theorem dX2_lodge_73 : decode cX2_lodge 73 = .ok (.aload_n 0, 1) := by decide +kernel
theorem dX2_lodge_74 : decode cX2_lodge 74 = .ok (.getfield 9, 3) := by decide +kernel
theorem dX2_lodge_77 : decode cX2_lodge 77 = .ok (.iload_n 3, 1) := by decide +kernel
theorem dX2_lodge_78 : decode cX2_lodge 78 = .ok (.iload 5, 2) := by decide +kernel
theorem dX2_lodge_80 : decode cX2_lodge 80 = .ok (.iastore, 1) := by decide +kernel
theorem dX2_lodge_81 : decode cX2_lodge 81 = .ok (.aload_n 2, 1) := by decide +kernel
theorem dX2_lodge_82 : decode cX2_lodge 82 = .ok (.getfield 109, 3) := by decide +kernel
theorem dX2_lodge_85 : decode cX2_lodge 85 = .ok (.iload 5, 2) := by decide +kernel
theorem dX2_lodge_87 : decode cX2_lodge 87 = .ok (.dup2, 1) := by decide +kernel
theorem dX2_lodge_88 : decode cX2_lodge 88 = .ok (.iaload, 1) := by decide +kernel
theorem dX2_lodge_89 : decode cX2_lodge 89 = .ok (.iconst 1, 1) := by decide +kernel
theorem dX2_lodge_90 : decode cX2_lodge 90 = .ok (.iload_n 3, 1) := by decide +kernel
theorem dX2_lodge_91 : decode cX2_lodge 91 = .ok (.ishl, 1) := by decide +kernel
theorem dX2_lodge_92 : decode cX2_lodge 92 = .ok (.ior, 1) := by decide +kernel
theorem dX2_lodge_93 : decode cX2_lodge 93 = .ok (.iastore, 1) := by decide +kernel
theorem dX2_lodge_94 : decode cX2_lodge 94 = .ok (.aload_n 0, 1) := by decide +kernel
theorem dX2_lodge_95 : decode cX2_lodge 95 = .ok (.aload_n 1, 1) := by decide +kernel
theorem dX2_lodge_96 : decode cX2_lodge 96 = .ok (.aload_n 2, 1) := by decide +kernel
theorem dX2_lodge_97 : decode cX2_lodge 97 = .ok (.iload_n 3, 1) := by decide +kernel
theorem dX2_lodge_98 : decode cX2_lodge 98 = .ok (.iconst 1, 1) := by decide +kernel
theorem dX2_lodge_99 : decode cX2_lodge 99 = .ok (.iadd, 1) := by decide +kernel
theorem dX2_lodge_100 : decode cX2_lodge 100 = .ok (.iload 4, 2) := by decide +kernel
theorem dX2_lodge_102 : decode cX2_lodge 102 = .ok (.aload_n 0, 1) := by decide +kernel
theorem dX2_lodge_103 : decode cX2_lodge 103 = .ok (.aload_n 1, 1) := by decide +kernel
theorem dX2_lodge_104 : decode cX2_lodge 104 = .ok (.iload_n 3, 1) := by decide +kernel
theorem dX2_lodge_105 : decode cX2_lodge 105 = .ok (.iload 5, 2) := by decide +kernel
theorem dX2_lodge_107 : decode cX2_lodge 107 = .ok (.invokevirtual 112, 3) := by decide +kernel
theorem dX2_lodge_110 : decode cX2_lodge 110 = .ok (.iadd, 1) := by decide +kernel
theorem dX2_lodge_111 : decode cX2_lodge 111 = .ok (.invokestatic 74, 3) := by decide +kernel
theorem dX2_lodge_114 : decode cX2_lodge 114 = .ok (.aload_n 2, 1) := by decide +kernel
theorem dX2_lodge_115 : decode cX2_lodge 115 = .ok (.getfield 109, 3) := by decide +kernel
theorem dX2_lodge_118 : decode cX2_lodge 118 = .ok (.iload 5, 2) := by decide +kernel
theorem dX2_lodge_120 : decode cX2_lodge 120 = .ok (.dup2, 1) := by decide +kernel
theorem dX2_lodge_121 : decode cX2_lodge 121 = .ok (.iaload, 1) := by decide +kernel
theorem dX2_lodge_122 : decode cX2_lodge 122 = .ok (.iconst 1, 1) := by decide +kernel
theorem dX2_lodge_123 : decode cX2_lodge 123 = .ok (.iload_n 3, 1) := by decide +kernel
theorem dX2_lodge_124 : decode cX2_lodge 124 = .ok (.ishl, 1) := by decide +kernel
theorem dX2_lodge_125 : decode cX2_lodge 125 = .ok (.iconst (-1), 1) := by decide +kernel
theorem dX2_lodge_126 : decode cX2_lodge 126 = .ok (.ixor, 1) := by decide +kernel
theorem dX2_lodge_127 : decode cX2_lodge 127 = .ok (.iand, 1) := by decide +kernel
theorem dX2_lodge_128 : decode cX2_lodge 128 = .ok (.iastore, 1) := by decide +kernel
theorem dX2_lodge_129 : decode cX2_lodge 129 = .ok (.iinc 5 1, 3) := by decide +kernel
theorem dX2_lodge_132 : decode cX2_lodge 132 = .ok (.goto (-80), 3) := by decide +kernel
theorem dX2_lodge_135 : decode cX2_lodge 135 = .ok (.iload 4, 2) := by decide +kernel
theorem dX2_lodge_137 : decode cX2_lodge 137 = .ok (.aload_n 0, 1) := by decide +kernel
theorem dX2_lodge_138 : decode cX2_lodge 138 = .ok (.aload_n 1, 1) := by decide +kernel
theorem dX2_lodge_139 : decode cX2_lodge 139 = .ok (.iload_n 3, 1) := by decide +kernel
theorem dX2_lodge_140 : decode cX2_lodge 140 = .ok (.iconst (-1), 1) := by decide +kernel
theorem dX2_lodge_141 : decode cX2_lodge 141 = .ok (.invokevirtual 112, 3) := by decide +kernel
theorem dX2_lodge_144 : decode cX2_lodge 144 = .ok (.iadd, 1) := by decide +kernel
theorem dX2_lodge_145 : decode cX2_lodge 145 = .ok (.istore 4, 2) := by decide +kernel
theorem dX2_lodge_147 : decode cX2_lodge 147 = .ok (.aload_n 0, 1) := by decide +kernel
theorem dX2_lodge_148 : decode cX2_lodge 148 = .ok (.getfield 9, 3) := by decide +kernel
theorem dX2_lodge_151 : decode cX2_lodge 151 = .ok (.iload_n 3, 1) := by decide +kernel
theorem dX2_lodge_152 : decode cX2_lodge 152 = .ok (.iconst (-1), 1) := by decide +kernel
theorem dX2_lodge_153 : decode cX2_lodge 153 = .ok (.iastore, 1) := by decide +kernel
theorem dX2_lodge_154 : decode cX2_lodge 154 = .ok (.aload_n 0, 1) := by decide +kernel
theorem dX2_lodge_155 : decode cX2_lodge 155 = .ok (.aload_n 1, 1) := by decide +kernel
theorem dX2_lodge_156 : decode cX2_lodge 156 = .ok (.aload_n 2, 1) := by decide +kernel
theorem dX2_lodge_157 : decode cX2_lodge 157 = .ok (.iload_n 3, 1) := by decide +kernel
theorem dX2_lodge_158 : decode cX2_lodge 158 = .ok (.iconst 1, 1) := by decide +kernel
theorem dX2_lodge_159 : decode cX2_lodge 159 = .ok (.iadd, 1) := by decide +kernel
theorem dX2_lodge_160 : decode cX2_lodge 160 = .ok (.iload 4, 2) := by decide +kernel
theorem dX2_lodge_162 : decode cX2_lodge 162 = .ok (.invokestatic 74, 3) := by decide +kernel
theorem dX2_lodge_165 : decode cX2_lodge 165 = .ok (.return_, 1) := by decide +kernel
theorem dX2_keepRow_0 : decode cX2_keepRow 0 = .ok (.aload_n 0, 1) := by decide +kernel
theorem dX2_keepRow_1 : decode cX2_keepRow 1 = .ok (.iload_n 2, 1) := by decide +kernel
theorem dX2_keepRow_2 : decode cX2_keepRow 2 = .ok (.putfield 71, 3) := by decide +kernel
theorem dX2_keepRow_5 : decode cX2_keepRow 5 = .ok (.iconst 0, 1) := by decide +kernel
theorem dX2_keepRow_6 : decode cX2_keepRow 6 = .ok (.istore_n 3, 1) := by decide +kernel
theorem dX2_keepRow_7 : decode cX2_keepRow 7 = .ok (.iload_n 3, 1) := by decide +kernel
theorem dX2_keepRow_8 : decode cX2_keepRow 8 = .ok (.iload_n 1, 1) := by decide +kernel
theorem dX2_keepRow_9 : decode cX2_keepRow 9 = .ok (.if_icmp .ge 21, 3) := by decide +kernel
theorem dX2_keepRow_12 : decode cX2_keepRow 12 = .ok (.aload_n 0, 1) := by decide +kernel
theorem dX2_keepRow_13 : decode cX2_keepRow 13 = .ok (.getfield 21, 3) := by decide +kernel
theorem dX2_keepRow_16 : decode cX2_keepRow 16 = .ok (.iload_n 3, 1) := by decide +kernel
theorem dX2_keepRow_17 : decode cX2_keepRow 17 = .ok (.aload_n 0, 1) := by decide +kernel
theorem dX2_keepRow_18 : decode cX2_keepRow 18 = .ok (.getfield 9, 3) := by decide +kernel
theorem dX2_keepRow_21 : decode cX2_keepRow 21 = .ok (.iload_n 3, 1) := by decide +kernel
theorem dX2_keepRow_22 : decode cX2_keepRow 22 = .ok (.iaload, 1) := by decide +kernel
theorem dX2_keepRow_23 : decode cX2_keepRow 23 = .ok (.iastore, 1) := by decide +kernel
theorem dX2_keepRow_24 : decode cX2_keepRow 24 = .ok (.iinc 3 1, 3) := by decide +kernel
theorem dX2_keepRow_27 : decode cX2_keepRow 27 = .ok (.goto (-20), 3) := by decide +kernel
theorem dX2_keepRow_30 : decode cX2_keepRow 30 = .ok (.return_, 1) := by decide +kernel
theorem dX3_init_0 : decode cX3_init 0 = .ok (.aload_n 0, 1) := by decide +kernel
theorem dX3_init_1 : decode cX3_init 1 = .ok (.invokespecial 1, 3) := by decide +kernel
theorem dX3_init_4 : decode cX3_init 4 = .ok (.aload_n 0, 1) := by decide +kernel
theorem dX3_init_5 : decode cX3_init 5 = .ok (.new 7, 3) := by decide +kernel
theorem dX3_init_8 : decode cX3_init 8 = .ok (.dup, 1) := by decide +kernel
theorem dX3_init_9 : decode cX3_init 9 = .ok (.invokespecial 9, 3) := by decide +kernel
theorem dX3_init_12 : decode cX3_init 12 = .ok (.putfield 10, 3) := by decide +kernel
theorem dX3_init_15 : decode cX3_init 15 = .ok (.aload_n 0, 1) := by decide +kernel
theorem dX3_init_16 : decode cX3_init 16 = .ok (.new 16, 3) := by decide +kernel
theorem dX3_init_19 : decode cX3_init 19 = .ok (.dup, 1) := by decide +kernel
theorem dX3_init_20 : decode cX3_init 20 = .ok (.invokespecial 18, 3) := by decide +kernel
theorem dX3_init_23 : decode cX3_init 23 = .ok (.putfield 19, 3) := by decide +kernel
theorem dX3_init_26 : decode cX3_init 26 = .ok (.aload_n 0, 1) := by decide +kernel
theorem dX3_init_27 : decode cX3_init 27 = .ok (.new 23, 3) := by decide +kernel
theorem dX3_init_30 : decode cX3_init 30 = .ok (.dup, 1) := by decide +kernel
theorem dX3_init_31 : decode cX3_init 31 = .ok (.invokespecial 25, 3) := by decide +kernel
theorem dX3_init_34 : decode cX3_init 34 = .ok (.putfield 26, 3) := by decide +kernel
theorem dX3_init_37 : decode cX3_init 37 = .ok (.return_, 1) := by decide +kernel
theorem dX3_keep_0 : decode cX3_keep 0 = .ok (.aload_n 0, 1) := by decide +kernel
theorem dX3_keep_1 : decode cX3_keep 1 = .ok (.getfield 10, 3) := by decide +kernel
theorem dX3_keep_4 : decode cX3_keep 4 = .ok (.aload_n 1, 1) := by decide +kernel
theorem dX3_keep_5 : decode cX3_keep 5 = .ok (.invokevirtual 30, 3) := by decide +kernel
theorem dX3_keep_8 : decode cX3_keep 8 = .ok (.aload_n 0, 1) := by decide +kernel
theorem dX3_keep_9 : decode cX3_keep 9 = .ok (.getfield 19, 3) := by decide +kernel
theorem dX3_keep_12 : decode cX3_keep 12 = .ok (.aload_n 2, 1) := by decide +kernel
theorem dX3_keep_13 : decode cX3_keep 13 = .ok (.invokevirtual 34, 3) := by decide +kernel
theorem dX3_keep_16 : decode cX3_keep 16 = .ok (.aload_n 0, 1) := by decide +kernel
theorem dX3_keep_17 : decode cX3_keep 17 = .ok (.getfield 26, 3) := by decide +kernel
theorem dX3_keep_20 : decode cX3_keep 20 = .ok (.aload_n 3, 1) := by decide +kernel
theorem dX3_keep_21 : decode cX3_keep 21 = .ok (.invokevirtual 37, 3) := by decide +kernel
theorem dX3_keep_24 : decode cX3_keep 24 = .ok (.aload_n 0, 1) := by decide +kernel
theorem dX3_keep_25 : decode cX3_keep 25 = .ok (.iconst 1, 1) := by decide +kernel
theorem dX3_keep_26 : decode cX3_keep 26 = .ok (.putfield 40, 3) := by decide +kernel
theorem dX3_keep_29 : decode cX3_keep 29 = .ok (.return_, 1) := by decide +kernel
theorem dX3_giveBack_0 : decode cX3_giveBack 0 = .ok (.aload_n 1, 1) := by decide +kernel
theorem dX3_giveBack_1 : decode cX3_giveBack 1 = .ok (.aload_n 0, 1) := by decide +kernel
theorem dX3_giveBack_2 : decode cX3_giveBack 2 = .ok (.getfield 10, 3) := by decide +kernel
theorem dX3_giveBack_5 : decode cX3_giveBack 5 = .ok (.invokevirtual 30, 3) := by decide +kernel
theorem dX3_giveBack_8 : decode cX3_giveBack 8 = .ok (.aload_n 2, 1) := by decide +kernel
theorem dX3_giveBack_9 : decode cX3_giveBack 9 = .ok (.aload_n 0, 1) := by decide +kernel
theorem dX3_giveBack_10 : decode cX3_giveBack 10 = .ok (.getfield 19, 3) := by decide +kernel
theorem dX3_giveBack_13 : decode cX3_giveBack 13 = .ok (.invokevirtual 34, 3) := by decide +kernel
theorem dX3_giveBack_16 : decode cX3_giveBack 16 = .ok (.aload_n 3, 1) := by decide +kernel
theorem dX3_giveBack_17 : decode cX3_giveBack 17 = .ok (.aload_n 0, 1) := by decide +kernel
theorem dX3_giveBack_18 : decode cX3_giveBack 18 = .ok (.getfield 26, 3) := by decide +kernel
theorem dX3_giveBack_21 : decode cX3_giveBack 21 = .ok (.invokevirtual 37, 3) := by decide +kernel
theorem dX3_giveBack_24 : decode cX3_giveBack 24 = .ok (.return_, 1) := by decide +kernel
theorem dX4_init_0 : decode cX4_init 0 = .ok (.aload_n 0, 1) := by decide +kernel
theorem dX4_init_1 : decode cX4_init 1 = .ok (.invokespecial 3, 3) := by decide +kernel
theorem dX4_init_4 : decode cX4_init 4 = .ok (.aload_n 0, 1) := by decide +kernel
theorem dX4_init_5 : decode cX4_init 5 = .ok (.iconst 5, 1) := by decide +kernel
theorem dX4_init_6 : decode cX4_init 6 = .ok (.newarray .int, 2) := by decide +kernel
theorem dX4_init_8 : decode cX4_init 8 = .ok (.putfield 9, 3) := by decide +kernel
theorem dX4_init_11 : decode cX4_init 11 = .ok (.aload_n 0, 1) := by decide +kernel
theorem dX4_init_12 : decode cX4_init 12 = .ok (.iconst 5, 1) := by decide +kernel
theorem dX4_init_13 : decode cX4_init 13 = .ok (.newarray .int, 2) := by decide +kernel
theorem dX4_init_15 : decode cX4_init 15 = .ok (.putfield 15, 3) := by decide +kernel
theorem dX4_init_18 : decode cX4_init 18 = .ok (.return_, 1) := by decide +kernel
theorem dX4_beginAt_0 : decode cX4_beginAt 0 = .ok (.iconst 0, 1) := by decide +kernel
theorem dX4_beginAt_1 : decode cX4_beginAt 1 = .ok (.istore_n 2, 1) := by decide +kernel
theorem dX4_beginAt_2 : decode cX4_beginAt 2 = .ok (.iload_n 2, 1) := by decide +kernel
theorem dX4_beginAt_3 : decode cX4_beginAt 3 = .ok (.iconst 5, 1) := by decide +kernel
theorem dX4_beginAt_4 : decode cX4_beginAt 4 = .ok (.if_icmp .ge 28, 3) := by decide +kernel
theorem dX4_beginAt_7 : decode cX4_beginAt 7 = .ok (.aload_n 0, 1) := by decide +kernel
theorem dX4_beginAt_8 : decode cX4_beginAt 8 = .ok (.getfield 9, 3) := by decide +kernel
theorem dX4_beginAt_11 : decode cX4_beginAt 11 = .ok (.iload_n 2, 1) := by decide +kernel
theorem dX4_beginAt_12 : decode cX4_beginAt 12 = .ok (.aload_n 1, 1) := by decide +kernel
theorem dX4_beginAt_13 : decode cX4_beginAt 13 = .ok (.getfield 18, 3) := by decide +kernel
theorem dX4_beginAt_16 : decode cX4_beginAt 16 = .ok (.iload_n 2, 1) := by decide +kernel
theorem dX4_beginAt_17 : decode cX4_beginAt 17 = .ok (.iaload, 1) := by decide +kernel
theorem dX4_beginAt_18 : decode cX4_beginAt 18 = .ok (.iastore, 1) := by decide +kernel
theorem dX4_beginAt_19 : decode cX4_beginAt 19 = .ok (.aload_n 0, 1) := by decide +kernel
theorem dX4_beginAt_20 : decode cX4_beginAt 20 = .ok (.getfield 15, 3) := by decide +kernel
theorem dX4_beginAt_23 : decode cX4_beginAt 23 = .ok (.iload_n 2, 1) := by decide +kernel
theorem dX4_beginAt_24 : decode cX4_beginAt 24 = .ok (.iconst 0, 1) := by decide +kernel
theorem dX4_beginAt_25 : decode cX4_beginAt 25 = .ok (.iastore, 1) := by decide +kernel
theorem dX4_beginAt_26 : decode cX4_beginAt 26 = .ok (.iinc 2 1, 3) := by decide +kernel
theorem dX4_beginAt_29 : decode cX4_beginAt 29 = .ok (.goto (-27), 3) := by decide +kernel
theorem dX4_beginAt_32 : decode cX4_beginAt 32 = .ok (.aload_n 0, 1) := by decide +kernel
theorem dX4_beginAt_33 : decode cX4_beginAt 33 = .ok (.iconst 0, 1) := by decide +kernel
theorem dX4_beginAt_34 : decode cX4_beginAt 34 = .ok (.putfield 23, 3) := by decide +kernel
theorem dX4_beginAt_37 : decode cX4_beginAt 37 = .ok (.aload_n 0, 1) := by decide +kernel
theorem dX4_beginAt_38 : decode cX4_beginAt 38 = .ok (.iconst 0, 1) := by decide +kernel
theorem dX4_beginAt_39 : decode cX4_beginAt 39 = .ok (.putfield 27, 3) := by decide +kernel
theorem dX4_beginAt_42 : decode cX4_beginAt 42 = .ok (.aload_n 0, 1) := by decide +kernel
theorem dX4_beginAt_43 : decode cX4_beginAt 43 = .ok (.iconst 0, 1) := by decide +kernel
theorem dX4_beginAt_44 : decode cX4_beginAt 44 = .ok (.putfield 30, 3) := by decide +kernel
theorem dX4_beginAt_47 : decode cX4_beginAt 47 = .ok (.return_, 1) := by decide +kernel
theorem dX4_copyFrom_0 : decode cX4_copyFrom 0 = .ok (.iconst 0, 1) := by decide +kernel
theorem dX4_copyFrom_1 : decode cX4_copyFrom 1 = .ok (.istore_n 2, 1) := by decide +kernel
theorem dX4_copyFrom_2 : decode cX4_copyFrom 2 = .ok (.iload_n 2, 1) := by decide +kernel
theorem dX4_copyFrom_3 : decode cX4_copyFrom 3 = .ok (.iconst 5, 1) := by decide +kernel
theorem dX4_copyFrom_4 : decode cX4_copyFrom 4 = .ok (.if_icmp .ge 33, 3) := by decide +kernel
theorem dX4_copyFrom_7 : decode cX4_copyFrom 7 = .ok (.aload_n 0, 1) := by decide +kernel
theorem dX4_copyFrom_8 : decode cX4_copyFrom 8 = .ok (.getfield 9, 3) := by decide +kernel
theorem dX4_copyFrom_11 : decode cX4_copyFrom 11 = .ok (.iload_n 2, 1) := by decide +kernel
theorem dX4_copyFrom_12 : decode cX4_copyFrom 12 = .ok (.aload_n 1, 1) := by decide +kernel
theorem dX4_copyFrom_13 : decode cX4_copyFrom 13 = .ok (.getfield 9, 3) := by decide +kernel
theorem dX4_copyFrom_16 : decode cX4_copyFrom 16 = .ok (.iload_n 2, 1) := by decide +kernel
theorem dX4_copyFrom_17 : decode cX4_copyFrom 17 = .ok (.iaload, 1) := by decide +kernel
theorem dX4_copyFrom_18 : decode cX4_copyFrom 18 = .ok (.iastore, 1) := by decide +kernel
theorem dX4_copyFrom_19 : decode cX4_copyFrom 19 = .ok (.aload_n 0, 1) := by decide +kernel
theorem dX4_copyFrom_20 : decode cX4_copyFrom 20 = .ok (.getfield 15, 3) := by decide +kernel
theorem dX4_copyFrom_23 : decode cX4_copyFrom 23 = .ok (.iload_n 2, 1) := by decide +kernel
theorem dX4_copyFrom_24 : decode cX4_copyFrom 24 = .ok (.aload_n 1, 1) := by decide +kernel
theorem dX4_copyFrom_25 : decode cX4_copyFrom 25 = .ok (.getfield 15, 3) := by decide +kernel
theorem dX4_copyFrom_28 : decode cX4_copyFrom 28 = .ok (.iload_n 2, 1) := by decide +kernel
theorem dX4_copyFrom_29 : decode cX4_copyFrom 29 = .ok (.iaload, 1) := by decide +kernel
theorem dX4_copyFrom_30 : decode cX4_copyFrom 30 = .ok (.iastore, 1) := by decide +kernel
theorem dX4_copyFrom_31 : decode cX4_copyFrom 31 = .ok (.iinc 2 1, 3) := by decide +kernel
theorem dX4_copyFrom_34 : decode cX4_copyFrom 34 = .ok (.goto (-32), 3) := by decide +kernel
theorem dX4_copyFrom_37 : decode cX4_copyFrom 37 = .ok (.aload_n 0, 1) := by decide +kernel
theorem dX4_copyFrom_38 : decode cX4_copyFrom 38 = .ok (.aload_n 1, 1) := by decide +kernel
theorem dX4_copyFrom_39 : decode cX4_copyFrom 39 = .ok (.getfield 23, 3) := by decide +kernel
theorem dX4_copyFrom_42 : decode cX4_copyFrom 42 = .ok (.putfield 23, 3) := by decide +kernel
theorem dX4_copyFrom_45 : decode cX4_copyFrom 45 = .ok (.aload_n 0, 1) := by decide +kernel
theorem dX4_copyFrom_46 : decode cX4_copyFrom 46 = .ok (.aload_n 1, 1) := by decide +kernel
theorem dX4_copyFrom_47 : decode cX4_copyFrom 47 = .ok (.getfield 27, 3) := by decide +kernel
theorem dX4_copyFrom_50 : decode cX4_copyFrom 50 = .ok (.putfield 27, 3) := by decide +kernel
theorem dX4_copyFrom_53 : decode cX4_copyFrom 53 = .ok (.aload_n 0, 1) := by decide +kernel
theorem dX4_copyFrom_54 : decode cX4_copyFrom 54 = .ok (.aload_n 1, 1) := by decide +kernel
theorem dX4_copyFrom_55 : decode cX4_copyFrom 55 = .ok (.getfield 30, 3) := by decide +kernel
theorem dX4_copyFrom_58 : decode cX4_copyFrom 58 = .ok (.putfield 30, 3) := by decide +kernel
theorem dX4_copyFrom_61 : decode cX4_copyFrom 61 = .ok (.return_, 1) := by decide +kernel
theorem dX4_placeOf_0 : decode cX4_placeOf 0 = .ok (.iconst 0, 1) := by decide +kernel
theorem dX4_placeOf_1 : decode cX4_placeOf 1 = .ok (.istore_n 2, 1) := by decide +kernel
theorem dX4_placeOf_2 : decode cX4_placeOf 2 = .ok (.iload_n 2, 1) := by decide +kernel
theorem dX4_placeOf_3 : decode cX4_placeOf 3 = .ok (.iconst 5, 1) := by decide +kernel
theorem dX4_placeOf_4 : decode cX4_placeOf 4 = .ok (.if_icmp .ge 24, 3) := by decide +kernel
theorem dX4_placeOf_7 : decode cX4_placeOf 7 = .ok (.aload_n 0, 1) := by decide +kernel
theorem dX4_placeOf_8 : decode cX4_placeOf 8 = .ok (.getfield 15, 3) := by decide +kernel
theorem dX4_placeOf_11 : decode cX4_placeOf 11 = .ok (.iload_n 2, 1) := by decide +kernel
theorem dX4_placeOf_12 : decode cX4_placeOf 12 = .ok (.iaload, 1) := by decide +kernel
theorem dX4_placeOf_13 : decode cX4_placeOf 13 = .ok (.iload_n 1, 1) := by decide +kernel
theorem dX4_placeOf_14 : decode cX4_placeOf 14 = .ok (.ishr, 1) := by decide +kernel
theorem dX4_placeOf_15 : decode cX4_placeOf 15 = .ok (.iconst 1, 1) := by decide +kernel
theorem dX4_placeOf_16 : decode cX4_placeOf 16 = .ok (.iand, 1) := by decide +kernel
theorem dX4_placeOf_17 : decode cX4_placeOf 17 = .ok (.ifCond .eq 5, 3) := by decide +kernel
theorem dX4_placeOf_20 : decode cX4_placeOf 20 = .ok (.iload_n 2, 1) := by decide +kernel
theorem dX4_placeOf_21 : decode cX4_placeOf 21 = .ok (.ireturn, 1) := by decide +kernel
theorem dX4_placeOf_22 : decode cX4_placeOf 22 = .ok (.iinc 2 1, 3) := by decide +kernel
theorem dX4_placeOf_25 : decode cX4_placeOf 25 = .ok (.goto (-23), 3) := by decide +kernel
theorem dX4_placeOf_28 : decode cX4_placeOf 28 = .ok (.iconst (-1), 1) := by decide +kernel
theorem dX4_placeOf_29 : decode cX4_placeOf 29 = .ok (.ireturn, 1) := by decide +kernel
theorem dX4_streetBits_0 : decode cX4_streetBits 0 = .ok (.iconst 0, 1) := by decide +kernel
theorem dX4_streetBits_1 : decode cX4_streetBits 1 = .ok (.istore_n 2, 1) := by decide +kernel
theorem dX4_streetBits_2 : decode cX4_streetBits 2 = .ok (.iconst 0, 1) := by decide +kernel
theorem dX4_streetBits_3 : decode cX4_streetBits 3 = .ok (.istore_n 3, 1) := by decide +kernel
theorem dX4_streetBits_4 : decode cX4_streetBits 4 = .ok (.iload_n 3, 1) := by decide +kernel
theorem dX4_streetBits_5 : decode cX4_streetBits 5 = .ok (.aload_n 1, 1) := by decide +kernel
theorem dX4_streetBits_6 : decode cX4_streetBits 6 = .ok (.getfield 33, 3) := by decide +kernel
theorem dX4_streetBits_9 : decode cX4_streetBits 9 = .ok (.if_icmp .ge 18, 3) := by decide +kernel
theorem dX4_streetBits_12 : decode cX4_streetBits 12 = .ok (.iload_n 2, 1) := by decide +kernel
theorem dX4_streetBits_13 : decode cX4_streetBits 13 = .ok (.aload_n 0, 1) := by decide +kernel
theorem dX4_streetBits_14 : decode cX4_streetBits 14 = .ok (.getfield 15, 3) := by decide +kernel
theorem dX4_streetBits_17 : decode cX4_streetBits 17 = .ok (.iload_n 3, 1) := by decide +kernel
theorem dX4_streetBits_18 : decode cX4_streetBits 18 = .ok (.iaload, 1) := by decide +kernel
theorem dX4_streetBits_19 : decode cX4_streetBits 19 = .ok (.ior, 1) := by decide +kernel
theorem dX4_streetBits_20 : decode cX4_streetBits 20 = .ok (.istore_n 2, 1) := by decide +kernel
theorem dX4_streetBits_21 : decode cX4_streetBits 21 = .ok (.iinc 3 1, 3) := by decide +kernel
theorem dX4_streetBits_24 : decode cX4_streetBits 24 = .ok (.goto (-20), 3) := by decide +kernel
theorem dX4_streetBits_27 : decode cX4_streetBits 27 = .ok (.iconst 1, 1) := by decide +kernel
theorem dX4_streetBits_28 : decode cX4_streetBits 28 = .ok (.aload_n 1, 1) := by decide +kernel
theorem dX4_streetBits_29 : decode cX4_streetBits 29 = .ok (.getfield 36, 3) := by decide +kernel
theorem dX4_streetBits_32 : decode cX4_streetBits 32 = .ok (.ishl, 1) := by decide +kernel
theorem dX4_streetBits_33 : decode cX4_streetBits 33 = .ok (.iconst 1, 1) := by decide +kernel
theorem dX4_streetBits_34 : decode cX4_streetBits 34 = .ok (.isub, 1) := by decide +kernel
theorem dX4_streetBits_35 : decode cX4_streetBits 35 = .ok (.iload_n 2, 1) := by decide +kernel
theorem dX4_streetBits_36 : decode cX4_streetBits 36 = .ok (.iconst (-1), 1) := by decide +kernel
theorem dX4_streetBits_37 : decode cX4_streetBits 37 = .ok (.ixor, 1) := by decide +kernel
theorem dX4_streetBits_38 : decode cX4_streetBits 38 = .ok (.iand, 1) := by decide +kernel
theorem dX4_streetBits_39 : decode cX4_streetBits 39 = .ok (.aload_n 0, 1) := by decide +kernel
theorem dX4_streetBits_40 : decode cX4_streetBits 40 = .ok (.getfield 23, 3) := by decide +kernel
theorem dX4_streetBits_43 : decode cX4_streetBits 43 = .ok (.iconst (-1), 1) := by decide +kernel
theorem dX4_streetBits_44 : decode cX4_streetBits 44 = .ok (.ixor, 1) := by decide +kernel
theorem dX4_streetBits_45 : decode cX4_streetBits 45 = .ok (.iand, 1) := by decide +kernel
theorem dX4_streetBits_46 : decode cX4_streetBits 46 = .ok (.ireturn, 1) := by decide +kernel
theorem dX4_foesBits_0 : decode cX4_foesBits 0 = .ok (.aload_n 0, 1) := by decide +kernel
theorem dX4_foesBits_1 : decode cX4_foesBits 1 = .ok (.getfield 23, 3) := by decide +kernel
theorem dX4_foesBits_4 : decode cX4_foesBits 4 = .ok (.iload_n 2, 1) := by decide +kernel
theorem dX4_foesBits_5 : decode cX4_foesBits 5 = .ok (.ishr, 1) := by decide +kernel
theorem dX4_foesBits_6 : decode cX4_foesBits 6 = .ok (.iconst 1, 1) := by decide +kernel
theorem dX4_foesBits_7 : decode cX4_foesBits 7 = .ok (.iand, 1) := by decide +kernel
theorem dX4_foesBits_8 : decode cX4_foesBits 8 = .ok (.ifCond .eq 5, 3) := by decide +kernel
theorem dX4_foesBits_11 : decode cX4_foesBits 11 = .ok (.iconst 0, 1) := by decide +kernel
theorem dX4_foesBits_12 : decode cX4_foesBits 12 = .ok (.ireturn, 1) := by decide +kernel
theorem dX4_foesBits_13 : decode cX4_foesBits 13 = .ok (.aload_n 0, 1) := by decide +kernel
theorem dX4_foesBits_14 : decode cX4_foesBits 14 = .ok (.iload_n 2, 1) := by decide +kernel
theorem dX4_foesBits_15 : decode cX4_foesBits 15 = .ok (.invokevirtual 39, 3) := by decide +kernel
theorem dX4_foesBits_18 : decode cX4_foesBits 18 = .ok (.istore_n 3, 1) := by decide +kernel
theorem dX4_foesBits_19 : decode cX4_foesBits 19 = .ok (.aload_n 1, 1) := by decide +kernel
theorem dX4_foesBits_20 : decode cX4_foesBits 20 = .ok (.getfield 43, 3) := by decide +kernel
theorem dX4_foesBits_23 : decode cX4_foesBits 23 = .ok (.iload_n 2, 1) := by decide +kernel
theorem dX4_foesBits_24 : decode cX4_foesBits 24 = .ok (.iaload, 1) := by decide +kernel
theorem dX4_foesBits_25 : decode cX4_foesBits 25 = .ok (.iload_n 3, 1) := by decide +kernel
theorem dX4_foesBits_26 : decode cX4_foesBits 26 = .ok (.iconst (-1), 1) := by decide +kernel
theorem dX4_foesBits_27 : decode cX4_foesBits 27 = .ok (.if_icmp .ne 11, 3) := by decide +kernel
theorem dX4_foesBits_30 : decode cX4_foesBits 30 = .ok (.aload_n 0, 1) := by decide +kernel
theorem dX4_foesBits_31 : decode cX4_foesBits 31 = .ok (.aload_n 1, 1) := by decide +kernel
theorem dX4_foesBits_32 : decode cX4_foesBits 32 = .ok (.invokevirtual 46, 3) := by decide +kernel
theorem dX4_foesBits_35 : decode cX4_foesBits 35 = .ok (.goto 9, 3) := by decide +kernel
theorem dX4_foesBits_38 : decode cX4_foesBits 38 = .ok (.aload_n 0, 1) := by decide +kernel
theorem dX4_foesBits_39 : decode cX4_foesBits 39 = .ok (.getfield 15, 3) := by decide +kernel
theorem dX4_foesBits_42 : decode cX4_foesBits 42 = .ok (.iload_n 3, 1) := by decide +kernel
theorem dX4_foesBits_43 : decode cX4_foesBits 43 = .ok (.iaload, 1) := by decide +kernel
theorem dX4_foesBits_44 : decode cX4_foesBits 44 = .ok (.iand, 1) := by decide +kernel
theorem dX4_foesBits_45 : decode cX4_foesBits 45 = .ok (.ireturn, 1) := by decide +kernel
theorem dX4_allCoal_0 : decode cX4_allCoal 0 = .ok (.iconst 0, 1) := by decide +kernel
theorem dX4_allCoal_1 : decode cX4_allCoal 1 = .ok (.istore_n 2, 1) := by decide +kernel
theorem dX4_allCoal_2 : decode cX4_allCoal 2 = .ok (.iconst 0, 1) := by decide +kernel
theorem dX4_allCoal_3 : decode cX4_allCoal 3 = .ok (.istore_n 3, 1) := by decide +kernel
theorem dX4_allCoal_4 : decode cX4_allCoal 4 = .ok (.iload_n 3, 1) := by decide +kernel
theorem dX4_allCoal_5 : decode cX4_allCoal 5 = .ok (.aload_n 1, 1) := by decide +kernel
theorem dX4_allCoal_6 : decode cX4_allCoal 6 = .ok (.getfield 33, 3) := by decide +kernel
theorem dX4_allCoal_9 : decode cX4_allCoal 9 = .ok (.if_icmp .ge 18, 3) := by decide +kernel
theorem dX4_allCoal_12 : decode cX4_allCoal 12 = .ok (.iload_n 2, 1) := by decide +kernel
theorem dX4_allCoal_13 : decode cX4_allCoal 13 = .ok (.aload_n 0, 1) := by decide +kernel
theorem dX4_allCoal_14 : decode cX4_allCoal 14 = .ok (.getfield 9, 3) := by decide +kernel
theorem dX4_allCoal_17 : decode cX4_allCoal 17 = .ok (.iload_n 3, 1) := by decide +kernel
theorem dX4_allCoal_18 : decode cX4_allCoal 18 = .ok (.iaload, 1) := by decide +kernel
theorem dX4_allCoal_19 : decode cX4_allCoal 19 = .ok (.iadd, 1) := by decide +kernel
theorem dX4_allCoal_20 : decode cX4_allCoal 20 = .ok (.istore_n 2, 1) := by decide +kernel
theorem dX4_allCoal_21 : decode cX4_allCoal 21 = .ok (.iinc 3 1, 3) := by decide +kernel
theorem dX4_allCoal_24 : decode cX4_allCoal 24 = .ok (.goto (-20), 3) := by decide +kernel
theorem dX4_allCoal_27 : decode cX4_allCoal 27 = .ok (.iload_n 2, 1) := by decide +kernel
theorem dX4_allCoal_28 : decode cX4_allCoal 28 = .ok (.ireturn, 1) := by decide +kernel
theorem dX4_takes_0 : decode cX4_takes 0 = .ok (.aload_n 1, 1) := by decide +kernel
theorem dX4_takes_1 : decode cX4_takes 1 = .ok (.getfield 50, 3) := by decide +kernel
theorem dX4_takes_4 : decode cX4_takes 4 = .ok (.iload_n 3, 1) := by decide +kernel
theorem dX4_takes_5 : decode cX4_takes 5 = .ok (.iaload, 1) := by decide +kernel
theorem dX4_takes_6 : decode cX4_takes 6 = .ok (.istore 4, 2) := by decide +kernel
theorem dX4_takes_8 : decode cX4_takes 8 = .ok (.iload 4, 2) := by decide +kernel
theorem dX4_takes_10 : decode cX4_takes 10 = .ok (.sipush 146, 3) := by decide +kernel
theorem dX4_takes_13 : decode cX4_takes 13 = .ok (.if_icmp .eq 45, 3) := by decide +kernel
theorem dX4_takes_16 : decode cX4_takes 16 = .ok (.aload_n 0, 1) := by decide +kernel
theorem dX4_takes_17 : decode cX4_takes 17 = .ok (.aload_n 1, 1) := by decide +kernel
theorem dX4_takes_18 : decode cX4_takes 18 = .ok (.iload_n 2, 1) := by decide +kernel
theorem dX4_takes_19 : decode cX4_takes 19 = .ok (.iload_n 3, 1) := by decide +kernel
theorem dX4_takes_20 : decode cX4_takes 20 = .ok (.invokevirtual 53, 3) := by decide +kernel
theorem dX4_takes_23 : decode cX4_takes 23 = .ok (.ifCond .eq 39, 3) := by decide +kernel
theorem dX4_takes_26 : decode cX4_takes 26 = .ok (.iload 4, 2) := by decide +kernel
theorem dX4_takes_28 : decode cX4_takes 28 = .ok (.sipush 145, 3) := by decide +kernel
theorem dX4_takes_31 : decode cX4_takes 31 = .ok (.if_icmp .eq 27, 3) := by decide +kernel
theorem dX4_takes_34 : decode cX4_takes 34 = .ok (.aload_n 0, 1) := by decide +kernel
theorem dX4_takes_35 : decode cX4_takes 35 = .ok (.aload_n 1, 1) := by decide +kernel
theorem dX4_takes_36 : decode cX4_takes 36 = .ok (.iload_n 2, 1) := by decide +kernel
theorem dX4_takes_37 : decode cX4_takes 37 = .ok (.aload_n 0, 1) := by decide +kernel
theorem dX4_takes_38 : decode cX4_takes 38 = .ok (.getfield 15, 3) := by decide +kernel
theorem dX4_takes_41 : decode cX4_takes 41 = .ok (.iload_n 2, 1) := by decide +kernel
theorem dX4_takes_42 : decode cX4_takes 42 = .ok (.iaload, 1) := by decide +kernel
theorem dX4_takes_43 : decode cX4_takes 43 = .ok (.invokestatic 57, 3) := by decide +kernel
theorem dX4_takes_46 : decode cX4_takes 46 = .ok (.aload_n 1, 1) := by decide +kernel
theorem dX4_takes_47 : decode cX4_takes 47 = .ok (.getfield 62, 3) := by decide +kernel
theorem dX4_takes_50 : decode cX4_takes 50 = .ok (.iload_n 3, 1) := by decide +kernel
theorem dX4_takes_51 : decode cX4_takes 51 = .ok (.iaload, 1) := by decide +kernel
theorem dX4_takes_52 : decode cX4_takes 52 = .ok (.invokevirtual 65, 3) := by decide +kernel
theorem dX4_takes_55 : decode cX4_takes 55 = .ok (.ifCond .eq 7, 3) := by decide +kernel
theorem dX4_takes_58 : decode cX4_takes 58 = .ok (.iconst 1, 1) := by decide +kernel
theorem dX4_takes_59 : decode cX4_takes 59 = .ok (.goto 4, 3) := by decide +kernel
theorem dX4_takes_62 : decode cX4_takes 62 = .ok (.iconst 0, 1) := by decide +kernel
theorem dX4_takes_63 : decode cX4_takes 63 = .ok (.ireturn, 1) := by decide +kernel
theorem dX4_isPeaceful_0 : decode cX4_isPeaceful 0 = .ok (.aload_n 0, 1) := by decide +kernel
theorem dX4_isPeaceful_1 : decode cX4_isPeaceful 1 = .ok (.getfield 9, 3) := by decide +kernel
theorem dX4_isPeaceful_4 : decode cX4_isPeaceful 4 = .ok (.iload_n 2, 1) := by decide +kernel
theorem dX4_isPeaceful_5 : decode cX4_isPeaceful 5 = .ok (.iaload, 1) := by decide +kernel
theorem dX4_isPeaceful_6 : decode cX4_isPeaceful 6 = .ok (.ifCond .le 34, 3) := by decide +kernel
theorem dX4_isPeaceful_9 : decode cX4_isPeaceful 9 = .ok (.aload_n 0, 1) := by decide +kernel
theorem dX4_isPeaceful_10 : decode cX4_isPeaceful 10 = .ok (.getfield 9, 3) := by decide +kernel
theorem dX4_isPeaceful_13 : decode cX4_isPeaceful 13 = .ok (.iload_n 2, 1) := by decide +kernel
theorem dX4_isPeaceful_14 : decode cX4_isPeaceful 14 = .ok (.iaload, 1) := by decide +kernel
theorem dX4_isPeaceful_15 : decode cX4_isPeaceful 15 = .ok (.bipush 20, 2) := by decide +kernel
theorem dX4_isPeaceful_17 : decode cX4_isPeaceful 17 = .ok (.if_icmp .ge 19, 3) := by decide +kernel
theorem dX4_isPeaceful_20 : decode cX4_isPeaceful 20 = .ok (.aload_n 0, 1) := by decide +kernel
theorem dX4_isPeaceful_21 : decode cX4_isPeaceful 21 = .ok (.getfield 15, 3) := by decide +kernel
theorem dX4_isPeaceful_24 : decode cX4_isPeaceful 24 = .ok (.iload_n 2, 1) := by decide +kernel
theorem dX4_isPeaceful_25 : decode cX4_isPeaceful 25 = .ok (.iaload, 1) := by decide +kernel
theorem dX4_isPeaceful_26 : decode cX4_isPeaceful 26 = .ok (.aload_n 1, 1) := by decide +kernel
theorem dX4_isPeaceful_27 : decode cX4_isPeaceful 27 = .ok (.getfield 43, 3) := by decide +kernel
theorem dX4_isPeaceful_30 : decode cX4_isPeaceful 30 = .ok (.iload_n 3, 1) := by decide +kernel
theorem dX4_isPeaceful_31 : decode cX4_isPeaceful 31 = .ok (.iaload, 1) := by decide +kernel
theorem dX4_isPeaceful_32 : decode cX4_isPeaceful 32 = .ok (.iand, 1) := by decide +kernel
theorem dX4_isPeaceful_33 : decode cX4_isPeaceful 33 = .ok (.ifCond .ne 7, 3) := by decide +kernel
theorem dX4_isPeaceful_36 : decode cX4_isPeaceful 36 = .ok (.iconst 1, 1) := by decide +kernel
theorem dX4_isPeaceful_37 : decode cX4_isPeaceful 37 = .ok (.goto 4, 3) := by decide +kernel
theorem dX4_isPeaceful_40 : decode cX4_isPeaceful 40 = .ok (.iconst 0, 1) := by decide +kernel
theorem dX4_isPeaceful_41 : decode cX4_isPeaceful 41 = .ok (.ireturn, 1) := by decide +kernel
theorem dX4_isLawful_0 : decode cX4_isLawful 0 = .ok (.aload_n 1, 1) := by decide +kernel
theorem dX4_isLawful_1 : decode cX4_isLawful 1 = .ok (.getfield 69, 3) := by decide +kernel
theorem dX4_isLawful_4 : decode cX4_isLawful 4 = .ok (.aload_n 0, 1) := by decide +kernel
theorem dX4_isLawful_5 : decode cX4_isLawful 5 = .ok (.getfield 9, 3) := by decide +kernel
theorem dX4_isLawful_8 : decode cX4_isLawful 8 = .ok (.iload_n 2, 1) := by decide +kernel
theorem dX4_isLawful_9 : decode cX4_isLawful 9 = .ok (.iaload, 1) := by decide +kernel
theorem dX4_isLawful_10 : decode cX4_isLawful 10 = .ok (.iload_n 3, 1) := by decide +kernel
theorem dX4_isLawful_11 : decode cX4_isLawful 11 = .ok (.aload_n 1, 1) := by decide +kernel
theorem dX4_isLawful_12 : decode cX4_isLawful 12 = .ok (.getfield 73, 3) := by decide +kernel
theorem dX4_isLawful_15 : decode cX4_isLawful 15 = .ok (.iload_n 2, 1) := by decide +kernel
theorem dX4_isLawful_16 : decode cX4_isLawful 16 = .ok (.iaload, 1) := by decide +kernel
theorem dX4_isLawful_17 : decode cX4_isLawful 17 = .ok (.iload 4, 2) := by decide +kernel
theorem dX4_isLawful_19 : decode cX4_isLawful 19 = .ok (.if_icmp .ne 7, 3) := by decide +kernel
theorem dX4_isLawful_22 : decode cX4_isLawful 22 = .ok (.iconst 1, 1) := by decide +kernel
theorem dX4_isLawful_23 : decode cX4_isLawful 23 = .ok (.goto 4, 3) := by decide +kernel
theorem dX4_isLawful_26 : decode cX4_isLawful 26 = .ok (.iconst 0, 1) := by decide +kernel
theorem dX4_isLawful_27 : decode cX4_isLawful 27 = .ok (.aload_n 0, 1) := by decide +kernel
theorem dX4_isLawful_28 : decode cX4_isLawful 28 = .ok (.getfield 27, 3) := by decide +kernel
theorem dX4_isLawful_31 : decode cX4_isLawful 31 = .ok (.invokevirtual 76, 3) := by decide +kernel
theorem dX4_isLawful_34 : decode cX4_isLawful 34 = .ok (.ireturn, 1) := by decide +kernel
theorem dX4_takenBits_0 : decode cX4_takenBits 0 = .ok (.iconst 0, 1) := by decide +kernel
theorem dX4_takenBits_1 : decode cX4_takenBits 1 = .ok (.istore_n 3, 1) := by decide +kernel
theorem dX4_takenBits_2 : decode cX4_takenBits 2 = .ok (.iconst 0, 1) := by decide +kernel
theorem dX4_takenBits_3 : decode cX4_takenBits 3 = .ok (.istore 4, 2) := by decide +kernel
theorem dX4_takenBits_5 : decode cX4_takenBits 5 = .ok (.iload 4, 2) := by decide +kernel
theorem dX4_takenBits_7 : decode cX4_takenBits 7 = .ok (.aload_n 1, 1) := by decide +kernel
theorem dX4_takenBits_8 : decode cX4_takenBits 8 = .ok (.getfield 36, 3) := by decide +kernel
theorem dX4_takenBits_11 : decode cX4_takenBits 11 = .ok (.if_icmp .ge 41, 3) := by decide +kernel
theorem dX4_takenBits_14 : decode cX4_takenBits 14 = .ok (.aload_n 0, 1) := by decide +kernel
theorem dX4_takenBits_15 : decode cX4_takenBits 15 = .ok (.getfield 15, 3) := by decide +kernel
theorem dX4_takenBits_18 : decode cX4_takenBits 18 = .ok (.iload_n 2, 1) := by decide +kernel
theorem dX4_takenBits_19 : decode cX4_takenBits 19 = .ok (.iaload, 1) := by decide +kernel
theorem dX4_takenBits_20 : decode cX4_takenBits 20 = .ok (.iload 4, 2) := by decide +kernel
theorem dX4_takenBits_22 : decode cX4_takenBits 22 = .ok (.ishr, 1) := by decide +kernel
theorem dX4_takenBits_23 : decode cX4_takenBits 23 = .ok (.iconst 1, 1) := by decide +kernel
theorem dX4_takenBits_24 : decode cX4_takenBits 24 = .ok (.iand, 1) := by decide +kernel
theorem dX4_takenBits_25 : decode cX4_takenBits 25 = .ok (.ifCond .ne 21, 3) := by decide +kernel
theorem dX4_takenBits_28 : decode cX4_takenBits 28 = .ok (.aload_n 0, 1) := by decide +kernel
theorem dX4_takenBits_29 : decode cX4_takenBits 29 = .ok (.aload_n 1, 1) := by decide +kernel
theorem dX4_takenBits_30 : decode cX4_takenBits 30 = .ok (.iload_n 2, 1) := by decide +kernel
theorem dX4_takenBits_31 : decode cX4_takenBits 31 = .ok (.iload 4, 2) := by decide +kernel
theorem dX4_takenBits_33 : decode cX4_takenBits 33 = .ok (.invokevirtual 82, 3) := by decide +kernel
theorem dX4_takenBits_36 : decode cX4_takenBits 36 = .ok (.ifCond .eq 10, 3) := by decide +kernel
theorem dX4_takenBits_39 : decode cX4_takenBits 39 = .ok (.iload_n 3, 1) := by decide +kernel
theorem dX4_takenBits_40 : decode cX4_takenBits 40 = .ok (.iconst 1, 1) := by decide +kernel
theorem dX4_takenBits_41 : decode cX4_takenBits 41 = .ok (.iload 4, 2) := by decide +kernel
theorem dX4_takenBits_43 : decode cX4_takenBits 43 = .ok (.ishl, 1) := by decide +kernel
theorem dX4_takenBits_44 : decode cX4_takenBits 44 = .ok (.ior, 1) := by decide +kernel
theorem dX4_takenBits_45 : decode cX4_takenBits 45 = .ok (.istore_n 3, 1) := by decide +kernel
theorem dX4_takenBits_46 : decode cX4_takenBits 46 = .ok (.iinc 4 1, 3) := by decide +kernel
theorem dX4_takenBits_49 : decode cX4_takenBits 49 = .ok (.goto (-44), 3) := by decide +kernel
theorem dX4_takenBits_52 : decode cX4_takenBits 52 = .ok (.iload_n 3, 1) := by decide +kernel
theorem dX4_takenBits_53 : decode cX4_takenBits 53 = .ok (.ireturn, 1) := by decide +kernel
theorem dX4_canGoDown_0 : decode cX4_canGoDown 0 = .ok (.aload_n 1, 1) := by decide +kernel
theorem dX4_canGoDown_1 : decode cX4_canGoDown 1 = .ok (.iload_n 2, 1) := by decide +kernel
theorem dX4_canGoDown_2 : decode cX4_canGoDown 2 = .ok (.invokevirtual 85, 3) := by decide +kernel
theorem dX4_canGoDown_5 : decode cX4_canGoDown 5 = .ok (.ifCond .eq 37, 3) := by decide +kernel
theorem dX4_canGoDown_8 : decode cX4_canGoDown 8 = .ok (.aload_n 1, 1) := by decide +kernel
theorem dX4_canGoDown_9 : decode cX4_canGoDown 9 = .ok (.iload_n 3, 1) := by decide +kernel
theorem dX4_canGoDown_10 : decode cX4_canGoDown 10 = .ok (.invokevirtual 89, 3) := by decide +kernel
theorem dX4_canGoDown_13 : decode cX4_canGoDown 13 = .ok (.ifCond .eq 29, 3) := by decide +kernel
theorem dX4_canGoDown_16 : decode cX4_canGoDown 16 = .ok (.aload_n 0, 1) := by decide +kernel
theorem dX4_canGoDown_17 : decode cX4_canGoDown 17 = .ok (.aload_n 1, 1) := by decide +kernel
theorem dX4_canGoDown_18 : decode cX4_canGoDown 18 = .ok (.invokevirtual 46, 3) := by decide +kernel
theorem dX4_canGoDown_21 : decode cX4_canGoDown 21 = .ok (.iload_n 2, 1) := by decide +kernel
theorem dX4_canGoDown_22 : decode cX4_canGoDown 22 = .ok (.ishr, 1) := by decide +kernel
theorem dX4_canGoDown_23 : decode cX4_canGoDown 23 = .ok (.iconst 1, 1) := by decide +kernel
theorem dX4_canGoDown_24 : decode cX4_canGoDown 24 = .ok (.iand, 1) := by decide +kernel
theorem dX4_canGoDown_25 : decode cX4_canGoDown 25 = .ok (.ifCond .eq 17, 3) := by decide +kernel
theorem dX4_canGoDown_28 : decode cX4_canGoDown 28 = .ok (.aload_n 0, 1) := by decide +kernel
theorem dX4_canGoDown_29 : decode cX4_canGoDown 29 = .ok (.aload_n 1, 1) := by decide +kernel
theorem dX4_canGoDown_30 : decode cX4_canGoDown 30 = .ok (.iload_n 3, 1) := by decide +kernel
theorem dX4_canGoDown_31 : decode cX4_canGoDown 31 = .ok (.iload_n 2, 1) := by decide +kernel
theorem dX4_canGoDown_32 : decode cX4_canGoDown 32 = .ok (.invokevirtual 82, 3) := by decide +kernel
theorem dX4_canGoDown_35 : decode cX4_canGoDown 35 = .ok (.ifCond .eq 7, 3) := by decide +kernel
theorem dX4_canGoDown_38 : decode cX4_canGoDown 38 = .ok (.iconst 1, 1) := by decide +kernel
theorem dX4_canGoDown_39 : decode cX4_canGoDown 39 = .ok (.goto 4, 3) := by decide +kernel
theorem dX4_canGoDown_42 : decode cX4_canGoDown 42 = .ok (.iconst 0, 1) := by decide +kernel
theorem dX4_canGoDown_43 : decode cX4_canGoDown 43 = .ok (.ireturn, 1) := by decide +kernel
theorem dX4_canClimb_0 : decode cX4_canClimb 0 = .ok (.aload_n 1, 1) := by decide +kernel
theorem dX4_canClimb_1 : decode cX4_canClimb 1 = .ok (.iload_n 2, 1) := by decide +kernel
theorem dX4_canClimb_2 : decode cX4_canClimb 2 = .ok (.invokevirtual 85, 3) := by decide +kernel
theorem dX4_canClimb_5 : decode cX4_canClimb 5 = .ok (.ifCond .eq 16, 3) := by decide +kernel
theorem dX4_canClimb_8 : decode cX4_canClimb 8 = .ok (.aload_n 0, 1) := by decide +kernel
theorem dX4_canClimb_9 : decode cX4_canClimb 9 = .ok (.iload_n 2, 1) := by decide +kernel
theorem dX4_canClimb_10 : decode cX4_canClimb 10 = .ok (.invokevirtual 39, 3) := by decide +kernel
theorem dX4_canClimb_13 : decode cX4_canClimb 13 = .ok (.iconst (-1), 1) := by decide +kernel
theorem dX4_canClimb_14 : decode cX4_canClimb 14 = .ok (.if_icmp .eq 7, 3) := by decide +kernel
theorem dX4_canClimb_17 : decode cX4_canClimb 17 = .ok (.iconst 1, 1) := by decide +kernel
theorem dX4_canClimb_18 : decode cX4_canClimb 18 = .ok (.goto 4, 3) := by decide +kernel
theorem dX4_canClimb_21 : decode cX4_canClimb 21 = .ok (.iconst 0, 1) := by decide +kernel
theorem dX4_canClimb_22 : decode cX4_canClimb 22 = .ok (.ireturn, 1) := by decide +kernel
theorem dX4_canGoThrough_0 : decode cX4_canGoThrough 0 = .ok (.aload_n 0, 1) := by decide +kernel
theorem dX4_canGoThrough_1 : decode cX4_canGoThrough 1 = .ok (.aload_n 1, 1) := by decide +kernel
theorem dX4_canGoThrough_2 : decode cX4_canGoThrough 2 = .ok (.iload_n 2, 1) := by decide +kernel
theorem dX4_canGoThrough_3 : decode cX4_canGoThrough 3 = .ok (.invokevirtual 92, 3) := by decide +kernel
theorem dX4_canGoThrough_6 : decode cX4_canGoThrough 6 = .ok (.ifCond .eq 42, 3) := by decide +kernel
theorem dX4_canGoThrough_9 : decode cX4_canGoThrough 9 = .ok (.aload_n 1, 1) := by decide +kernel
theorem dX4_canGoThrough_10 : decode cX4_canGoThrough 10 = .ok (.iload_n 3, 1) := by decide +kernel
theorem dX4_canGoThrough_11 : decode cX4_canGoThrough 11 = .ok (.invokevirtual 89, 3) := by decide +kernel
theorem dX4_canGoThrough_14 : decode cX4_canGoThrough 14 = .ok (.ifCond .eq 34, 3) := by decide +kernel
theorem dX4_canGoThrough_17 : decode cX4_canGoThrough 17 = .ok (.aload_n 1, 1) := by decide +kernel
theorem dX4_canGoThrough_18 : decode cX4_canGoThrough 18 = .ok (.getfield 96, 3) := by decide +kernel
theorem dX4_canGoThrough_21 : decode cX4_canGoThrough 21 = .ok (.iload_n 3, 1) := by decide +kernel
theorem dX4_canGoThrough_22 : decode cX4_canGoThrough 22 = .ok (.iaload, 1) := by decide +kernel
theorem dX4_canGoThrough_23 : decode cX4_canGoThrough 23 = .ok (.aload_n 0, 1) := by decide +kernel
theorem dX4_canGoThrough_24 : decode cX4_canGoThrough 24 = .ok (.iload_n 2, 1) := by decide +kernel
theorem dX4_canGoThrough_25 : decode cX4_canGoThrough 25 = .ok (.invokevirtual 39, 3) := by decide +kernel
theorem dX4_canGoThrough_28 : decode cX4_canGoThrough 28 = .ok (.ishr, 1) := by decide +kernel
theorem dX4_canGoThrough_29 : decode cX4_canGoThrough 29 = .ok (.iconst 1, 1) := by decide +kernel
theorem dX4_canGoThrough_30 : decode cX4_canGoThrough 30 = .ok (.iand, 1) := by decide +kernel
theorem dX4_canGoThrough_31 : decode cX4_canGoThrough 31 = .ok (.ifCond .eq 17, 3) := by decide +kernel
theorem dX4_canGoThrough_34 : decode cX4_canGoThrough 34 = .ok (.aload_n 0, 1) := by decide +kernel
theorem dX4_canGoThrough_35 : decode cX4_canGoThrough 35 = .ok (.aload_n 1, 1) := by decide +kernel
theorem dX4_canGoThrough_36 : decode cX4_canGoThrough 36 = .ok (.iload_n 3, 1) := by decide +kernel
theorem dX4_canGoThrough_37 : decode cX4_canGoThrough 37 = .ok (.iload_n 2, 1) := by decide +kernel
theorem dX4_canGoThrough_38 : decode cX4_canGoThrough 38 = .ok (.invokevirtual 82, 3) := by decide +kernel
theorem dX4_canGoThrough_41 : decode cX4_canGoThrough 41 = .ok (.ifCond .eq 7, 3) := by decide +kernel
theorem dX4_canGoThrough_44 : decode cX4_canGoThrough 44 = .ok (.iconst 1, 1) := by decide +kernel
theorem dX4_canGoThrough_45 : decode cX4_canGoThrough 45 = .ok (.goto 4, 3) := by decide +kernel
theorem dX4_canGoThrough_48 : decode cX4_canGoThrough 48 = .ok (.iconst 0, 1) := by decide +kernel
theorem dX4_canGoThrough_49 : decode cX4_canGoThrough 49 = .ok (.ireturn, 1) := by decide +kernel
theorem dX4_move_0 : decode cX4_move 0 = .ok (.iconst 0, 1) := by decide +kernel
theorem dX4_move_1 : decode cX4_move 1 = .ok (.istore_n 3, 1) := by decide +kernel
theorem dX4_move_2 : decode cX4_move 2 = .ok (.iload_n 3, 1) := by decide +kernel
theorem dX4_move_3 : decode cX4_move 3 = .ok (.iconst 5, 1) := by decide +kernel
theorem dX4_move_4 : decode cX4_move 4 = .ok (.if_icmp .ge 44, 3) := by decide +kernel
theorem dX4_move_7 : decode cX4_move 7 = .ok (.aload_n 0, 1) := by decide +kernel
theorem dX4_move_8 : decode cX4_move 8 = .ok (.getfield 15, 3) := by decide +kernel
theorem dX4_move_11 : decode cX4_move 11 = .ok (.iload_n 3, 1) := by decide +kernel
theorem dX4_move_12 : decode cX4_move 12 = .ok (.dup2, 1) := by decide +kernel
theorem dX4_move_13 : decode cX4_move 13 = .ok (.iaload, 1) := by decide +kernel
theorem dX4_move_14 : decode cX4_move 14 = .ok (.iconst 1, 1) := by decide +kernel
theorem dX4_move_15 : decode cX4_move 15 = .ok (.iload_n 1, 1) := by decide +kernel
theorem dX4_move_16 : decode cX4_move 16 = .ok (.ishl, 1) := by decide +kernel
theorem dX4_move_17 : decode cX4_move 17 = .ok (.iconst (-1), 1) := by decide +kernel
theorem dX4_move_18 : decode cX4_move 18 = .ok (.ixor, 1) := by decide +kernel
theorem dX4_move_19 : decode cX4_move 19 = .ok (.iand, 1) := by decide +kernel
theorem dX4_move_20 : decode cX4_move 20 = .ok (.iastore, 1) := by decide +kernel
theorem dX4_move_21 : decode cX4_move 21 = .ok (.aload_n 0, 1) := by decide +kernel
theorem dX4_move_22 : decode cX4_move 22 = .ok (.getfield 15, 3) := by decide +kernel
theorem dX4_move_25 : decode cX4_move 25 = .ok (.iload_n 3, 1) := by decide +kernel
theorem dX4_move_26 : decode cX4_move 26 = .ok (.dup2, 1) := by decide +kernel
theorem dX4_move_27 : decode cX4_move 27 = .ok (.iaload, 1) := by decide +kernel
theorem dX4_move_28 : decode cX4_move 28 = .ok (.iload_n 3, 1) := by decide +kernel
theorem dX4_move_29 : decode cX4_move 29 = .ok (.iload_n 2, 1) := by decide +kernel
theorem dX4_move_30 : decode cX4_move 30 = .ok (.if_icmp .ne 9, 3) := by decide +kernel
theorem dX4_move_33 : decode cX4_move 33 = .ok (.iconst 1, 1) := by decide +kernel
theorem dX4_move_34 : decode cX4_move 34 = .ok (.iload_n 1, 1) := by decide +kernel
theorem dX4_move_35 : decode cX4_move 35 = .ok (.ishl, 1) := by decide +kernel
theorem dX4_move_36 : decode cX4_move 36 = .ok (.goto 4, 3) := by decide +kernel
theorem dX4_move_39 : decode cX4_move 39 = .ok (.iconst 0, 1) := by decide +kernel
theorem dX4_move_40 : decode cX4_move 40 = .ok (.ior, 1) := by decide +kernel
theorem dX4_move_41 : decode cX4_move 41 = .ok (.iastore, 1) := by decide +kernel
theorem dX4_move_42 : decode cX4_move 42 = .ok (.iinc 3 1, 3) := by decide +kernel
theorem dX4_move_45 : decode cX4_move 45 = .ok (.goto (-43), 3) := by decide +kernel
theorem dX4_move_48 : decode cX4_move 48 = .ok (.return_, 1) := by decide +kernel
theorem dX4_addSack_0 : decode cX4_addSack 0 = .ok (.aload_n 0, 1) := by decide +kernel
theorem dX4_addSack_1 : decode cX4_addSack 1 = .ok (.getfield 9, 3) := by decide +kernel
theorem dX4_addSack_4 : decode cX4_addSack 4 = .ok (.iload_n 2, 1) := by decide +kernel
theorem dX4_addSack_5 : decode cX4_addSack 5 = .ok (.aload_n 0, 1) := by decide +kernel
theorem dX4_addSack_6 : decode cX4_addSack 6 = .ok (.getfield 9, 3) := by decide +kernel
theorem dX4_addSack_9 : decode cX4_addSack 9 = .ok (.iload_n 2, 1) := by decide +kernel
theorem dX4_addSack_10 : decode cX4_addSack 10 = .ok (.iaload, 1) := by decide +kernel
theorem dX4_addSack_11 : decode cX4_addSack 11 = .ok (.aload_n 1, 1) := by decide +kernel
theorem dX4_addSack_12 : decode cX4_addSack 12 = .ok (.getfield 99, 3) := by decide +kernel
theorem dX4_addSack_15 : decode cX4_addSack 15 = .ok (.iadd, 1) := by decide +kernel
theorem dX4_addSack_16 : decode cX4_addSack 16 = .ok (.bipush 99, 2) := by decide +kernel
theorem dX4_addSack_18 : decode cX4_addSack 18 = .ok (.invokestatic 102, 3) := by decide +kernel
theorem dX4_addSack_21 : decode cX4_addSack 21 = .ok (.iastore, 1) := by decide +kernel
theorem dX4_addSack_22 : decode cX4_addSack 22 = .ok (.aload_n 0, 1) := by decide +kernel
theorem dX4_addSack_23 : decode cX4_addSack 23 = .ok (.dup, 1) := by decide +kernel
theorem dX4_addSack_24 : decode cX4_addSack 24 = .ok (.getfield 30, 3) := by decide +kernel
theorem dX4_addSack_27 : decode cX4_addSack 27 = .ok (.iconst 1, 1) := by decide +kernel
theorem dX4_addSack_28 : decode cX4_addSack 28 = .ok (.iadd, 1) := by decide +kernel
theorem dX4_addSack_29 : decode cX4_addSack 29 = .ok (.putfield 30, 3) := by decide +kernel
theorem dX4_addSack_32 : decode cX4_addSack 32 = .ok (.return_, 1) := by decide +kernel
theorem dX4_passDay_0 : decode cX4_passDay 0 = .ok (.aload_n 1, 1) := by decide +kernel
theorem dX4_passDay_1 : decode cX4_passDay 1 = .ok (.aload_n 0, 1) := by decide +kernel
theorem dX4_passDay_2 : decode cX4_passDay 2 = .ok (.getfield 27, 3) := by decide +kernel
theorem dX4_passDay_5 : decode cX4_passDay 5 = .ok (.invokevirtual 108, 3) := by decide +kernel
theorem dX4_passDay_8 : decode cX4_passDay 8 = .ok (.istore_n 2, 1) := by decide +kernel
theorem dX4_passDay_9 : decode cX4_passDay 9 = .ok (.iconst 0, 1) := by decide +kernel
theorem dX4_passDay_10 : decode cX4_passDay 10 = .ok (.istore_n 3, 1) := by decide +kernel
theorem dX4_passDay_11 : decode cX4_passDay 11 = .ok (.iload_n 3, 1) := by decide +kernel
theorem dX4_passDay_12 : decode cX4_passDay 12 = .ok (.aload_n 1, 1) := by decide +kernel
theorem dX4_passDay_13 : decode cX4_passDay 13 = .ok (.getfield 33, 3) := by decide +kernel
theorem dX4_passDay_16 : decode cX4_passDay 16 = .ok (.if_icmp .ge 56, 3) := by decide +kernel
theorem dX4_passDay_19 : decode cX4_passDay 19 = .ok (.aload_n 0, 1) := by decide +kernel
theorem dX4_passDay_20 : decode cX4_passDay 20 = .ok (.getfield 9, 3) := by decide +kernel
theorem dX4_passDay_23 : decode cX4_passDay 23 = .ok (.iload_n 3, 1) := by decide +kernel
theorem dX4_passDay_24 : decode cX4_passDay 24 = .ok (.aload_n 0, 1) := by decide +kernel
theorem dX4_passDay_25 : decode cX4_passDay 25 = .ok (.getfield 9, 3) := by decide +kernel
theorem dX4_passDay_28 : decode cX4_passDay 28 = .ok (.iload_n 3, 1) := by decide +kernel
theorem dX4_passDay_29 : decode cX4_passDay 29 = .ok (.iaload, 1) := by decide +kernel
theorem dX4_passDay_30 : decode cX4_passDay 30 = .ok (.aload_n 1, 1) := by decide +kernel
theorem dX4_passDay_31 : decode cX4_passDay 31 = .ok (.getfield 111, 3) := by decide +kernel
theorem dX4_passDay_34 : decode cX4_passDay 34 = .ok (.iload_n 3, 1) := by decide +kernel
theorem dX4_passDay_35 : decode cX4_passDay 35 = .ok (.iaload, 1) := by decide +kernel
theorem dX4_passDay_36 : decode cX4_passDay 36 = .ok (.iload_n 2, 1) := by decide +kernel
theorem dX4_passDay_37 : decode cX4_passDay 37 = .ok (.imul, 1) := by decide +kernel
theorem dX4_passDay_38 : decode cX4_passDay 38 = .ok (.isub, 1) := by decide +kernel
theorem dX4_passDay_39 : decode cX4_passDay 39 = .ok (.iconst 0, 1) := by decide +kernel
theorem dX4_passDay_40 : decode cX4_passDay 40 = .ok (.invokestatic 114, 3) := by decide +kernel
theorem dX4_passDay_43 : decode cX4_passDay 43 = .ok (.iastore, 1) := by decide +kernel
theorem dX4_passDay_44 : decode cX4_passDay 44 = .ok (.aload_n 0, 1) := by decide +kernel
theorem dX4_passDay_45 : decode cX4_passDay 45 = .ok (.getfield 9, 3) := by decide +kernel
theorem dX4_passDay_48 : decode cX4_passDay 48 = .ok (.iload_n 3, 1) := by decide +kernel
theorem dX4_passDay_49 : decode cX4_passDay 49 = .ok (.iaload, 1) := by decide +kernel
theorem dX4_passDay_50 : decode cX4_passDay 50 = .ok (.ifCond .ne 16, 3) := by decide +kernel
theorem dX4_passDay_53 : decode cX4_passDay 53 = .ok (.aload_n 0, 1) := by decide +kernel
theorem dX4_passDay_54 : decode cX4_passDay 54 = .ok (.getfield 15, 3) := by decide +kernel
theorem dX4_passDay_57 : decode cX4_passDay 57 = .ok (.iload_n 3, 1) := by decide +kernel
theorem dX4_passDay_58 : decode cX4_passDay 58 = .ok (.dup2, 1) := by decide +kernel
theorem dX4_passDay_59 : decode cX4_passDay 59 = .ok (.iaload, 1) := by decide +kernel
theorem dX4_passDay_60 : decode cX4_passDay 60 = .ok (.aload_n 1, 1) := by decide +kernel
theorem dX4_passDay_61 : decode cX4_passDay 61 = .ok (.getfield 117, 3) := by decide +kernel
theorem dX4_passDay_64 : decode cX4_passDay 64 = .ok (.iand, 1) := by decide +kernel
theorem dX4_passDay_65 : decode cX4_passDay 65 = .ok (.iastore, 1) := by decide +kernel
theorem dX4_passDay_66 : decode cX4_passDay 66 = .ok (.iinc 3 1, 3) := by decide +kernel
theorem dX4_passDay_69 : decode cX4_passDay 69 = .ok (.goto (-58), 3) := by decide +kernel
theorem dX4_passDay_72 : decode cX4_passDay 72 = .ok (.aload_n 0, 1) := by decide +kernel
theorem dX4_passDay_73 : decode cX4_passDay 73 = .ok (.aload_n 1, 1) := by decide +kernel
theorem dX4_passDay_74 : decode cX4_passDay 74 = .ok (.invokevirtual 46, 3) := by decide +kernel
theorem dX4_passDay_77 : decode cX4_passDay 77 = .ok (.aload_n 1, 1) := by decide +kernel
theorem dX4_passDay_78 : decode cX4_passDay 78 = .ok (.getfield 120, 3) := by decide +kernel
theorem dX4_passDay_81 : decode cX4_passDay 81 = .ok (.iand, 1) := by decide +kernel
theorem dX4_passDay_82 : decode cX4_passDay 82 = .ok (.istore_n 3, 1) := by decide +kernel
theorem dX4_passDay_83 : decode cX4_passDay 83 = .ok (.aload_n 0, 1) := by decide +kernel
theorem dX4_passDay_84 : decode cX4_passDay 84 = .ok (.dup, 1) := by decide +kernel
theorem dX4_passDay_85 : decode cX4_passDay 85 = .ok (.getfield 23, 3) := by decide +kernel
theorem dX4_passDay_88 : decode cX4_passDay 88 = .ok (.iload_n 3, 1) := by decide +kernel
theorem dX4_passDay_89 : decode cX4_passDay 89 = .ok (.ior, 1) := by decide +kernel
theorem dX4_passDay_90 : decode cX4_passDay 90 = .ok (.putfield 23, 3) := by decide +kernel
theorem dX4_passDay_93 : decode cX4_passDay 93 = .ok (.aload_n 0, 1) := by decide +kernel
theorem dX4_passDay_94 : decode cX4_passDay 94 = .ok (.dup, 1) := by decide +kernel
theorem dX4_passDay_95 : decode cX4_passDay 95 = .ok (.getfield 27, 3) := by decide +kernel
theorem dX4_passDay_98 : decode cX4_passDay 98 = .ok (.iconst 1, 1) := by decide +kernel
theorem dX4_passDay_99 : decode cX4_passDay 99 = .ok (.iadd, 1) := by decide +kernel
theorem dX4_passDay_100 : decode cX4_passDay 100 = .ok (.putfield 27, 3) := by decide +kernel
theorem dX4_passDay_103 : decode cX4_passDay 103 = .ok (.iload_n 3, 1) := by decide +kernel
theorem dX4_passDay_104 : decode cX4_passDay 104 = .ok (.ireturn, 1) := by decide +kernel
theorem dX4_daysUntilBelow_0 : decode cX4_daysUntilBelow 0 = .ok (.aload_n 0, 1) := by decide +kernel
theorem dX4_daysUntilBelow_1 : decode cX4_daysUntilBelow 1 = .ok (.getfield 9, 3) := by decide +kernel
theorem dX4_daysUntilBelow_4 : decode cX4_daysUntilBelow 4 = .ok (.iload_n 2, 1) := by decide +kernel
theorem dX4_daysUntilBelow_5 : decode cX4_daysUntilBelow 5 = .ok (.iaload, 1) := by decide +kernel
theorem dX4_daysUntilBelow_6 : decode cX4_daysUntilBelow 6 = .ok (.istore 4, 2) := by decide +kernel
theorem dX4_daysUntilBelow_8 : decode cX4_daysUntilBelow 8 = .ok (.iconst 0, 1) := by decide +kernel
theorem dX4_daysUntilBelow_9 : decode cX4_daysUntilBelow 9 = .ok (.istore 5, 2) := by decide +kernel
theorem dX4_daysUntilBelow_11 : decode cX4_daysUntilBelow 11 = .ok (.iload 5, 2) := by decide +kernel
theorem dX4_daysUntilBelow_13 : decode cX4_daysUntilBelow 13 = .ok (.bipush 99, 2) := by decide +kernel
theorem dX4_daysUntilBelow_15 : decode cX4_daysUntilBelow 15 = .ok (.if_icmp .gt 41, 3) := by decide +kernel
theorem dX4_daysUntilBelow_18 : decode cX4_daysUntilBelow 18 = .ok (.iload 4, 2) := by decide +kernel
theorem dX4_daysUntilBelow_20 : decode cX4_daysUntilBelow 20 = .ok (.iload_n 3, 1) := by decide +kernel
theorem dX4_daysUntilBelow_21 : decode cX4_daysUntilBelow 21 = .ok (.if_icmp .ge 6, 3) := by decide +kernel
theorem dX4_daysUntilBelow_24 : decode cX4_daysUntilBelow 24 = .ok (.iload 5, 2) := by decide +kernel
theorem dX4_daysUntilBelow_26 : decode cX4_daysUntilBelow 26 = .ok (.ireturn, 1) := by decide +kernel
theorem dX4_daysUntilBelow_27 : decode cX4_daysUntilBelow 27 = .ok (.iload 4, 2) := by decide +kernel
theorem dX4_daysUntilBelow_29 : decode cX4_daysUntilBelow 29 = .ok (.aload_n 1, 1) := by decide +kernel
theorem dX4_daysUntilBelow_30 : decode cX4_daysUntilBelow 30 = .ok (.getfield 111, 3) := by decide +kernel
theorem dX4_daysUntilBelow_33 : decode cX4_daysUntilBelow 33 = .ok (.iload_n 2, 1) := by decide +kernel
theorem dX4_daysUntilBelow_34 : decode cX4_daysUntilBelow 34 = .ok (.iaload, 1) := by decide +kernel
theorem dX4_daysUntilBelow_35 : decode cX4_daysUntilBelow 35 = .ok (.aload_n 1, 1) := by decide +kernel
theorem dX4_daysUntilBelow_36 : decode cX4_daysUntilBelow 36 = .ok (.aload_n 0, 1) := by decide +kernel
theorem dX4_daysUntilBelow_37 : decode cX4_daysUntilBelow 37 = .ok (.getfield 27, 3) := by decide +kernel
theorem dX4_daysUntilBelow_40 : decode cX4_daysUntilBelow 40 = .ok (.iload 5, 2) := by decide +kernel
theorem dX4_daysUntilBelow_42 : decode cX4_daysUntilBelow 42 = .ok (.iadd, 1) := by decide +kernel
theorem dX4_daysUntilBelow_43 : decode cX4_daysUntilBelow 43 = .ok (.invokevirtual 108, 3) := by decide +kernel
theorem dX4_daysUntilBelow_46 : decode cX4_daysUntilBelow 46 = .ok (.imul, 1) := by decide +kernel
theorem dX4_daysUntilBelow_47 : decode cX4_daysUntilBelow 47 = .ok (.isub, 1) := by decide +kernel
theorem dX4_daysUntilBelow_48 : decode cX4_daysUntilBelow 48 = .ok (.istore 4, 2) := by decide +kernel
theorem dX4_daysUntilBelow_50 : decode cX4_daysUntilBelow 50 = .ok (.iinc 5 1, 3) := by decide +kernel
theorem dX4_daysUntilBelow_53 : decode cX4_daysUntilBelow 53 = .ok (.goto (-42), 3) := by decide +kernel
theorem dX4_daysUntilBelow_56 : decode cX4_daysUntilBelow 56 = .ok (.iconst (-1), 1) := by decide +kernel
theorem dX4_daysUntilBelow_57 : decode cX4_daysUntilBelow 57 = .ok (.ireturn, 1) := by decide +kernel
theorem dX4_safeDays_0 : decode cX4_safeDays 0 = .ok (.aload_n 1, 1) := by decide +kernel
theorem dX4_safeDays_1 : decode cX4_safeDays 1 = .ok (.getfield 50, 3) := by decide +kernel
theorem dX4_safeDays_4 : decode cX4_safeDays 4 = .ok (.iload_n 2, 1) := by decide +kernel
theorem dX4_safeDays_5 : decode cX4_safeDays 5 = .ok (.iaload, 1) := by decide +kernel
theorem dX4_safeDays_6 : decode cX4_safeDays 6 = .ok (.sipush 146, 3) := by decide +kernel
theorem dX4_safeDays_9 : decode cX4_safeDays 9 = .ok (.if_icmp .ne 7, 3) := by decide +kernel
theorem dX4_safeDays_12 : decode cX4_safeDays 12 = .ok (.iconst (-1), 1) := by decide +kernel
theorem dX4_safeDays_13 : decode cX4_safeDays 13 = .ok (.goto 10, 3) := by decide +kernel
theorem dX4_safeDays_16 : decode cX4_safeDays 16 = .ok (.aload_n 0, 1) := by decide +kernel
theorem dX4_safeDays_17 : decode cX4_safeDays 17 = .ok (.aload_n 1, 1) := by decide +kernel
theorem dX4_safeDays_18 : decode cX4_safeDays 18 = .ok (.iload_n 3, 1) := by decide +kernel
theorem dX4_safeDays_19 : decode cX4_safeDays 19 = .ok (.iconst 1, 1) := by decide +kernel
theorem dX4_safeDays_20 : decode cX4_safeDays 20 = .ok (.invokevirtual 123, 3) := by decide +kernel
theorem dX4_safeDays_23 : decode cX4_safeDays 23 = .ok (.ireturn, 1) := by decide +kernel
theorem dX4_lastingBits_0 : decode cX4_lastingBits 0 = .ok (.iconst 0, 1) := by decide +kernel
theorem dX4_lastingBits_1 : decode cX4_lastingBits 1 = .ok (.istore_n 3, 1) := by decide +kernel
theorem dX4_lastingBits_2 : decode cX4_lastingBits 2 = .ok (.iconst 0, 1) := by decide +kernel
theorem dX4_lastingBits_3 : decode cX4_lastingBits 3 = .ok (.istore 4, 2) := by decide +kernel
theorem dX4_lastingBits_5 : decode cX4_lastingBits 5 = .ok (.iload 4, 2) := by decide +kernel
theorem dX4_lastingBits_7 : decode cX4_lastingBits 7 = .ok (.aload_n 1, 1) := by decide +kernel
theorem dX4_lastingBits_8 : decode cX4_lastingBits 8 = .ok (.getfield 33, 3) := by decide +kernel
theorem dX4_lastingBits_11 : decode cX4_lastingBits 11 = .ok (.if_icmp .ge 39, 3) := by decide +kernel
theorem dX4_lastingBits_14 : decode cX4_lastingBits 14 = .ok (.iload_n 3, 1) := by decide +kernel
theorem dX4_lastingBits_15 : decode cX4_lastingBits 15 = .ok (.aload_n 0, 1) := by decide +kernel
theorem dX4_lastingBits_16 : decode cX4_lastingBits 16 = .ok (.getfield 9, 3) := by decide +kernel
theorem dX4_lastingBits_19 : decode cX4_lastingBits 19 = .ok (.iload 4, 2) := by decide +kernel
theorem dX4_lastingBits_21 : decode cX4_lastingBits 21 = .ok (.iaload, 1) := by decide +kernel
theorem dX4_lastingBits_22 : decode cX4_lastingBits 22 = .ok (.aload_n 1, 1) := by decide +kernel
theorem dX4_lastingBits_23 : decode cX4_lastingBits 23 = .ok (.getfield 111, 3) := by decide +kernel
theorem dX4_lastingBits_26 : decode cX4_lastingBits 26 = .ok (.iload 4, 2) := by decide +kernel
theorem dX4_lastingBits_28 : decode cX4_lastingBits 28 = .ok (.iaload, 1) := by decide +kernel
theorem dX4_lastingBits_29 : decode cX4_lastingBits 29 = .ok (.iload_n 2, 1) := by decide +kernel
theorem dX4_lastingBits_30 : decode cX4_lastingBits 30 = .ok (.imul, 1) := by decide +kernel
theorem dX4_lastingBits_31 : decode cX4_lastingBits 31 = .ok (.if_icmp .le 10, 3) := by decide +kernel
theorem dX4_lastingBits_34 : decode cX4_lastingBits 34 = .ok (.iconst 1, 1) := by decide +kernel
theorem dX4_lastingBits_35 : decode cX4_lastingBits 35 = .ok (.iload 4, 2) := by decide +kernel
theorem dX4_lastingBits_37 : decode cX4_lastingBits 37 = .ok (.ishl, 1) := by decide +kernel
theorem dX4_lastingBits_38 : decode cX4_lastingBits 38 = .ok (.goto 4, 3) := by decide +kernel
theorem dX4_lastingBits_41 : decode cX4_lastingBits 41 = .ok (.iconst 0, 1) := by decide +kernel
theorem dX4_lastingBits_42 : decode cX4_lastingBits 42 = .ok (.ior, 1) := by decide +kernel
theorem dX4_lastingBits_43 : decode cX4_lastingBits 43 = .ok (.istore_n 3, 1) := by decide +kernel
theorem dX4_lastingBits_44 : decode cX4_lastingBits 44 = .ok (.iinc 4 1, 3) := by decide +kernel
theorem dX4_lastingBits_47 : decode cX4_lastingBits 47 = .ok (.goto (-42), 3) := by decide +kernel
theorem dX4_lastingBits_50 : decode cX4_lastingBits 50 = .ok (.iload_n 3, 1) := by decide +kernel
theorem dX4_lastingBits_51 : decode cX4_lastingBits 51 = .ok (.ireturn, 1) := by decide +kernel
theorem dX4_seizedIfLasting_0 : decode cX4_seizedIfLasting 0 = .ok (.aload_n 0, 1) := by decide +kernel
theorem dX4_seizedIfLasting_1 : decode cX4_seizedIfLasting 1 = .ok (.aload_n 1, 1) := by decide +kernel
theorem dX4_seizedIfLasting_2 : decode cX4_seizedIfLasting 2 = .ok (.invokevirtual 46, 3) := by decide +kernel
theorem dX4_seizedIfLasting_5 : decode cX4_seizedIfLasting 5 = .ok (.istore_n 3, 1) := by decide +kernel
theorem dX4_seizedIfLasting_6 : decode cX4_seizedIfLasting 6 = .ok (.iconst 0, 1) := by decide +kernel
theorem dX4_seizedIfLasting_7 : decode cX4_seizedIfLasting 7 = .ok (.istore 4, 2) := by decide +kernel
theorem dX4_seizedIfLasting_9 : decode cX4_seizedIfLasting 9 = .ok (.iload 4, 2) := by decide +kernel
theorem dX4_seizedIfLasting_11 : decode cX4_seizedIfLasting 11 = .ok (.aload_n 1, 1) := by decide +kernel
theorem dX4_seizedIfLasting_12 : decode cX4_seizedIfLasting 12 = .ok (.getfield 33, 3) := by decide +kernel
theorem dX4_seizedIfLasting_15 : decode cX4_seizedIfLasting 15 = .ok (.if_icmp .ge 32, 3) := by decide +kernel
theorem dX4_seizedIfLasting_18 : decode cX4_seizedIfLasting 18 = .ok (.iload_n 3, 1) := by decide +kernel
theorem dX4_seizedIfLasting_19 : decode cX4_seizedIfLasting 19 = .ok (.iload_n 2, 1) := by decide +kernel
theorem dX4_seizedIfLasting_20 : decode cX4_seizedIfLasting 20 = .ok (.iload 4, 2) := by decide +kernel
theorem dX4_seizedIfLasting_22 : decode cX4_seizedIfLasting 22 = .ok (.ishr, 1) := by decide +kernel
theorem dX4_seizedIfLasting_23 : decode cX4_seizedIfLasting 23 = .ok (.iconst 1, 1) := by decide +kernel
theorem dX4_seizedIfLasting_24 : decode cX4_seizedIfLasting 24 = .ok (.iand, 1) := by decide +kernel
theorem dX4_seizedIfLasting_25 : decode cX4_seizedIfLasting 25 = .ok (.ifCond .ne 13, 3) := by decide +kernel
theorem dX4_seizedIfLasting_28 : decode cX4_seizedIfLasting 28 = .ok (.aload_n 0, 1) := by decide +kernel
theorem dX4_seizedIfLasting_29 : decode cX4_seizedIfLasting 29 = .ok (.getfield 15, 3) := by decide +kernel
theorem dX4_seizedIfLasting_32 : decode cX4_seizedIfLasting 32 = .ok (.iload 4, 2) := by decide +kernel
theorem dX4_seizedIfLasting_34 : decode cX4_seizedIfLasting 34 = .ok (.iaload, 1) := by decide +kernel
theorem dX4_seizedIfLasting_35 : decode cX4_seizedIfLasting 35 = .ok (.goto 4, 3) := by decide +kernel
theorem dX4_seizedIfLasting_38 : decode cX4_seizedIfLasting 38 = .ok (.iconst 0, 1) := by decide +kernel
theorem dX4_seizedIfLasting_39 : decode cX4_seizedIfLasting 39 = .ok (.ior, 1) := by decide +kernel
theorem dX4_seizedIfLasting_40 : decode cX4_seizedIfLasting 40 = .ok (.istore_n 3, 1) := by decide +kernel
theorem dX4_seizedIfLasting_41 : decode cX4_seizedIfLasting 41 = .ok (.iinc 4 1, 3) := by decide +kernel
theorem dX4_seizedIfLasting_44 : decode cX4_seizedIfLasting 44 = .ok (.goto (-35), 3) := by decide +kernel
theorem dX4_seizedIfLasting_47 : decode cX4_seizedIfLasting 47 = .ok (.aload_n 0, 1) := by decide +kernel
theorem dX4_seizedIfLasting_48 : decode cX4_seizedIfLasting 48 = .ok (.getfield 23, 3) := by decide +kernel
theorem dX4_seizedIfLasting_51 : decode cX4_seizedIfLasting 51 = .ok (.iload_n 3, 1) := by decide +kernel
theorem dX4_seizedIfLasting_52 : decode cX4_seizedIfLasting 52 = .ok (.aload_n 1, 1) := by decide +kernel
theorem dX4_seizedIfLasting_53 : decode cX4_seizedIfLasting 53 = .ok (.getfield 120, 3) := by decide +kernel
theorem dX4_seizedIfLasting_56 : decode cX4_seizedIfLasting 56 = .ok (.iand, 1) := by decide +kernel
theorem dX4_seizedIfLasting_57 : decode cX4_seizedIfLasting 57 = .ok (.ior, 1) := by decide +kernel
theorem dX4_seizedIfLasting_58 : decode cX4_seizedIfLasting 58 = .ok (.ireturn, 1) := by decide +kernel
theorem dX4_sacksDue_0 : decode cX4_sacksDue 0 = .ok (.aload_n 0, 1) := by decide +kernel
theorem dX4_sacksDue_1 : decode cX4_sacksDue 1 = .ok (.getfield 15, 3) := by decide +kernel
theorem dX4_sacksDue_4 : decode cX4_sacksDue 4 = .ok (.iload_n 2, 1) := by decide +kernel
theorem dX4_sacksDue_5 : decode cX4_sacksDue 5 = .ok (.iaload, 1) := by decide +kernel
theorem dX4_sacksDue_6 : decode cX4_sacksDue 6 = .ok (.aload_n 1, 1) := by decide +kernel
theorem dX4_sacksDue_7 : decode cX4_sacksDue 7 = .ok (.getfield 120, 3) := by decide +kernel
theorem dX4_sacksDue_10 : decode cX4_sacksDue 10 = .ok (.iand, 1) := by decide +kernel
theorem dX4_sacksDue_11 : decode cX4_sacksDue 11 = .ok (.ifCond .ne 5, 3) := by decide +kernel
theorem dX4_sacksDue_14 : decode cX4_sacksDue 14 = .ok (.iconst 0, 1) := by decide +kernel
theorem dX4_sacksDue_15 : decode cX4_sacksDue 15 = .ok (.ireturn, 1) := by decide +kernel
theorem dX4_sacksDue_16 : decode cX4_sacksDue 16 = .ok (.aload_n 1, 1) := by decide +kernel
theorem dX4_sacksDue_17 : decode cX4_sacksDue 17 = .ok (.getfield 111, 3) := by decide +kernel
theorem dX4_sacksDue_20 : decode cX4_sacksDue 20 = .ok (.iload_n 2, 1) := by decide +kernel
theorem dX4_sacksDue_21 : decode cX4_sacksDue 21 = .ok (.iaload, 1) := by decide +kernel
theorem dX4_sacksDue_22 : decode cX4_sacksDue 22 = .ok (.aload_n 1, 1) := by decide +kernel
theorem dX4_sacksDue_23 : decode cX4_sacksDue 23 = .ok (.aload_n 0, 1) := by decide +kernel
theorem dX4_sacksDue_24 : decode cX4_sacksDue 24 = .ok (.getfield 27, 3) := by decide +kernel
theorem dX4_sacksDue_27 : decode cX4_sacksDue 27 = .ok (.iload_n 3, 1) := by decide +kernel
theorem dX4_sacksDue_28 : decode cX4_sacksDue 28 = .ok (.invokevirtual 127, 3) := by decide +kernel
theorem dX4_sacksDue_31 : decode cX4_sacksDue 31 = .ok (.imul, 1) := by decide +kernel
theorem dX4_sacksDue_32 : decode cX4_sacksDue 32 = .ok (.istore 4, 2) := by decide +kernel
theorem dX4_sacksDue_34 : decode cX4_sacksDue 34 = .ok (.iconst 0, 1) := by decide +kernel
theorem dX4_sacksDue_35 : decode cX4_sacksDue 35 = .ok (.istore 5, 2) := by decide +kernel
theorem dX4_sacksDue_37 : decode cX4_sacksDue 37 = .ok (.iload 5, 2) := by decide +kernel
theorem dX4_sacksDue_39 : decode cX4_sacksDue 39 = .ok (.iconst 3, 1) := by decide +kernel
theorem dX4_sacksDue_40 : decode cX4_sacksDue 40 = .ok (.if_icmp .gt 36, 3) := by decide +kernel
theorem dX4_sacksDue_43 : decode cX4_sacksDue 43 = .ok (.aload_n 0, 1) := by decide +kernel
theorem dX4_sacksDue_44 : decode cX4_sacksDue 44 = .ok (.getfield 9, 3) := by decide +kernel
theorem dX4_sacksDue_47 : decode cX4_sacksDue 47 = .ok (.iload_n 2, 1) := by decide +kernel
theorem dX4_sacksDue_48 : decode cX4_sacksDue 48 = .ok (.iaload, 1) := by decide +kernel
theorem dX4_sacksDue_49 : decode cX4_sacksDue 49 = .ok (.iload 5, 2) := by decide +kernel
theorem dX4_sacksDue_51 : decode cX4_sacksDue 51 = .ok (.aload_n 1, 1) := by decide +kernel
theorem dX4_sacksDue_52 : decode cX4_sacksDue 52 = .ok (.getfield 99, 3) := by decide +kernel
theorem dX4_sacksDue_55 : decode cX4_sacksDue 55 = .ok (.imul, 1) := by decide +kernel
theorem dX4_sacksDue_56 : decode cX4_sacksDue 56 = .ok (.iadd, 1) := by decide +kernel
theorem dX4_sacksDue_57 : decode cX4_sacksDue 57 = .ok (.bipush 99, 2) := by decide +kernel
theorem dX4_sacksDue_59 : decode cX4_sacksDue 59 = .ok (.invokestatic 102, 3) := by decide +kernel
theorem dX4_sacksDue_62 : decode cX4_sacksDue 62 = .ok (.iload 4, 2) := by decide +kernel
theorem dX4_sacksDue_64 : decode cX4_sacksDue 64 = .ok (.if_icmp .le 6, 3) := by decide +kernel
theorem dX4_sacksDue_67 : decode cX4_sacksDue 67 = .ok (.iload 5, 2) := by decide +kernel
theorem dX4_sacksDue_69 : decode cX4_sacksDue 69 = .ok (.ireturn, 1) := by decide +kernel
theorem dX4_sacksDue_70 : decode cX4_sacksDue 70 = .ok (.iinc 5 1, 3) := by decide +kernel
theorem dX4_sacksDue_73 : decode cX4_sacksDue 73 = .ok (.goto (-36), 3) := by decide +kernel
theorem dX4_sacksDue_76 : decode cX4_sacksDue 76 = .ok (.iconst 4, 1) := by decide +kernel
theorem dX4_sacksDue_77 : decode cX4_sacksDue 77 = .ok (.ireturn, 1) := by decide +kernel
theorem dX5_init_0 : decode cX5_init 0 = .ok (.aload_n 0, 1) := by decide +kernel
theorem dX5_init_1 : decode cX5_init 1 = .ok (.invokespecial 3, 3) := by decide +kernel
theorem dX5_init_4 : decode cX5_init 4 = .ok (.aload_n 0, 1) := by decide +kernel
theorem dX5_init_5 : decode cX5_init 5 = .ok (.sipush 1000, 3) := by decide +kernel
theorem dX5_init_8 : decode cX5_init 8 = .ok (.newarray .byte, 2) := by decide +kernel
theorem dX5_init_10 : decode cX5_init 10 = .ok (.putfield 9, 3) := by decide +kernel
theorem dX5_init_13 : decode cX5_init 13 = .ok (.aload_n 0, 1) := by decide +kernel
theorem dX5_init_14 : decode cX5_init 14 = .ok (.bipush 26, 2) := by decide +kernel
theorem dX5_init_16 : decode cX5_init 16 = .ok (.newarray .long, 2) := by decide +kernel
theorem dX5_init_18 : decode cX5_init 18 = .ok (.putfield 15, 3) := by decide +kernel
theorem dX5_init_21 : decode cX5_init 21 = .ok (.iconst 0, 1) := by decide +kernel
theorem dX5_init_22 : decode cX5_init 22 = .ok (.istore_n 1, 1) := by decide +kernel
theorem dX5_init_23 : decode cX5_init 23 = .ok (.iconst 0, 1) := by decide +kernel
theorem dX5_init_24 : decode cX5_init 24 = .ok (.istore_n 2, 1) := by decide +kernel
theorem dX5_init_25 : decode cX5_init 25 = .ok (.iload_n 2, 1) := by decide +kernel
theorem dX5_init_26 : decode cX5_init 26 = .ok (.ldc 19, 2) := by decide +kernel
theorem dX5_init_28 : decode cX5_init 28 = .ok (.invokevirtual 21, 3) := by decide +kernel
theorem dX5_init_31 : decode cX5_init 31 = .ok (.if_icmp .ge 55, 3) := by decide +kernel
theorem dX5_init_34 : decode cX5_init 34 = .ok (.ldc 19, 2) := by decide +kernel
theorem dX5_init_36 : decode cX5_init 36 = .ok (.iload_n 2, 1) := by decide +kernel
theorem dX5_init_37 : decode cX5_init 37 = .ok (.invokevirtual 27, 3) := by decide +kernel
theorem dX5_init_40 : decode cX5_init 40 = .ok (.bipush 32, 2) := by decide +kernel
theorem dX5_init_42 : decode cX5_init 42 = .ok (.if_icmp .ne 9, 3) := by decide +kernel
theorem dX5_init_45 : decode cX5_init 45 = .ok (.iinc 1 1, 3) := by decide +kernel
theorem dX5_init_48 : decode cX5_init 48 = .ok (.goto 32, 3) := by decide +kernel
theorem dX5_init_51 : decode cX5_init 51 = .ok (.iload_n 1, 1) := by decide +kernel
theorem dX5_init_52 : decode cX5_init 52 = .ok (.bipush 26, 2) := by decide +kernel
theorem dX5_init_54 : decode cX5_init 54 = .ok (.if_icmp .ge 26, 3) := by decide +kernel
theorem dX5_init_57 : decode cX5_init 57 = .ok (.aload_n 0, 1) := by decide +kernel
theorem dX5_init_58 : decode cX5_init 58 = .ok (.getfield 15, 3) := by decide +kernel
theorem dX5_init_61 : decode cX5_init 61 = .ok (.iload_n 1, 1) := by decide +kernel
theorem dX5_init_62 : decode cX5_init 62 = .ok (.aload_n 0, 1) := by decide +kernel
theorem dX5_init_63 : decode cX5_init 63 = .ok (.getfield 15, 3) := by decide +kernel
theorem dX5_init_66 : decode cX5_init 66 = .ok (.iload_n 1, 1) := by decide +kernel
theorem dX5_init_67 : decode cX5_init 67 = .ok (.laload, 1) := by decide +kernel
theorem dX5_init_68 : decode cX5_init 68 = .ok (.bipush 8, 2) := by decide +kernel
theorem dX5_init_70 : decode cX5_init 70 = .ok (.lshl, 1) := by decide +kernel
theorem dX5_init_71 : decode cX5_init 71 = .ok (.ldc 19, 2) := by decide +kernel
theorem dX5_init_73 : decode cX5_init 73 = .ok (.iload_n 2, 1) := by decide +kernel
theorem dX5_init_74 : decode cX5_init 74 = .ok (.invokevirtual 27, 3) := by decide +kernel
theorem dX5_init_77 : decode cX5_init 77 = .ok (.i2l, 1) := by decide +kernel
theorem dX5_init_78 : decode cX5_init 78 = .ok (.lor, 1) := by decide +kernel
theorem dX5_init_79 : decode cX5_init 79 = .ok (.lastore, 1) := by decide +kernel
theorem dX5_init_80 : decode cX5_init 80 = .ok (.iinc 2 1, 3) := by decide +kernel
theorem dX5_init_83 : decode cX5_init 83 = .ok (.goto (-58), 3) := by decide +kernel
theorem dX5_init_86 : decode cX5_init 86 = .ok (.return_, 1) := by decide +kernel
theorem dX5_addBytes_0 : decode cX5_addBytes 0 = .ok (.bipush 56, 2) := by decide +kernel
theorem dX5_addBytes_2 : decode cX5_addBytes 2 = .ok (.istore_n 3, 1) := by decide +kernel
theorem dX5_addBytes_3 : decode cX5_addBytes 3 = .ok (.iload_n 3, 1) := by decide +kernel
theorem dX5_addBytes_4 : decode cX5_addBytes 4 = .ok (.ifCond .lt 72, 3) := by decide +kernel
theorem dX5_addBytes_7 : decode cX5_addBytes 7 = .ok (.lload_n 1, 1) := by decide +kernel
