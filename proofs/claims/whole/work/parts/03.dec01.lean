theorem dX5_addBytes_8 : decode cX5_addBytes 8 = .ok (.iload_n 3, 1) := by decide +kernel
theorem dX5_addBytes_9 : decode cX5_addBytes 9 = .ok (.lushr, 1) := by decide +kernel
theorem dX5_addBytes_10 : decode cX5_addBytes 10 = .ok (.ldc2_w 31, 3) := by decide +kernel
theorem dX5_addBytes_13 : decode cX5_addBytes 13 = .ok (.land, 1) := by decide +kernel
theorem dX5_addBytes_14 : decode cX5_addBytes 14 = .ok (.l2i, 1) := by decide +kernel
theorem dX5_addBytes_15 : decode cX5_addBytes 15 = .ok (.istore 4, 2) := by decide +kernel
theorem dX5_addBytes_17 : decode cX5_addBytes 17 = .ok (.iload 4, 2) := by decide +kernel
theorem dX5_addBytes_19 : decode cX5_addBytes 19 = .ok (.bipush 10, 2) := by decide +kernel
theorem dX5_addBytes_21 : decode cX5_addBytes 21 = .ok (.if_icmp .eq 17, 3) := by decide +kernel
theorem dX5_addBytes_24 : decode cX5_addBytes 24 = .ok (.iload 4, 2) := by decide +kernel
theorem dX5_addBytes_26 : decode cX5_addBytes 26 = .ok (.bipush 32, 2) := by decide +kernel
theorem dX5_addBytes_28 : decode cX5_addBytes 28 = .ok (.if_icmp .lt 42, 3) := by decide +kernel
theorem dX5_addBytes_31 : decode cX5_addBytes 31 = .ok (.iload 4, 2) := by decide +kernel
theorem dX5_addBytes_33 : decode cX5_addBytes 33 = .ok (.bipush 126, 2) := by decide +kernel
theorem dX5_addBytes_35 : decode cX5_addBytes 35 = .ok (.if_icmp .gt 35, 3) := by decide +kernel
theorem dX5_addBytes_38 : decode cX5_addBytes 38 = .ok (.aload_n 0, 1) := by decide +kernel
theorem dX5_addBytes_39 : decode cX5_addBytes 39 = .ok (.getfield 33, 3) := by decide +kernel
theorem dX5_addBytes_42 : decode cX5_addBytes 42 = .ok (.sipush 1000, 3) := by decide +kernel
theorem dX5_addBytes_45 : decode cX5_addBytes 45 = .ok (.if_icmp .ge 25, 3) := by decide +kernel
theorem dX5_addBytes_48 : decode cX5_addBytes 48 = .ok (.aload_n 0, 1) := by decide +kernel
theorem dX5_addBytes_49 : decode cX5_addBytes 49 = .ok (.getfield 9, 3) := by decide +kernel
theorem dX5_addBytes_52 : decode cX5_addBytes 52 = .ok (.aload_n 0, 1) := by decide +kernel
theorem dX5_addBytes_53 : decode cX5_addBytes 53 = .ok (.getfield 33, 3) := by decide +kernel
theorem dX5_addBytes_56 : decode cX5_addBytes 56 = .ok (.iload 4, 2) := by decide +kernel
theorem dX5_addBytes_58 : decode cX5_addBytes 58 = .ok (.i2b, 1) := by decide +kernel
theorem dX5_addBytes_59 : decode cX5_addBytes 59 = .ok (.bastore, 1) := by decide +kernel
theorem dX5_addBytes_60 : decode cX5_addBytes 60 = .ok (.aload_n 0, 1) := by decide +kernel
theorem dX5_addBytes_61 : decode cX5_addBytes 61 = .ok (.dup, 1) := by decide +kernel
theorem dX5_addBytes_62 : decode cX5_addBytes 62 = .ok (.getfield 33, 3) := by decide +kernel
theorem dX5_addBytes_65 : decode cX5_addBytes 65 = .ok (.iconst 1, 1) := by decide +kernel
theorem dX5_addBytes_66 : decode cX5_addBytes 66 = .ok (.iadd, 1) := by decide +kernel
theorem dX5_addBytes_67 : decode cX5_addBytes 67 = .ok (.putfield 33, 3) := by decide +kernel
theorem dX5_addBytes_70 : decode cX5_addBytes 70 = .ok (.iinc 3 (-8), 3) := by decide +kernel
theorem dX5_addBytes_73 : decode cX5_addBytes 73 = .ok (.goto (-70), 3) := by decide +kernel
theorem dX5_addBytes_76 : decode cX5_addBytes 76 = .ok (.return_, 1) := by decide +kernel
theorem dX5_begin_0 : decode cX5_begin 0 = .ok (.aload_n 0, 1) := by decide +kernel
theorem dX5_begin_1 : decode cX5_begin 1 = .ok (.iconst 0, 1) := by decide +kernel
theorem dX5_begin_2 : decode cX5_begin 2 = .ok (.putfield 36, 3) := by decide +kernel
theorem dX5_begin_5 : decode cX5_begin 5 = .ok (.aload_n 0, 1) := by decide +kernel
theorem dX5_begin_6 : decode cX5_begin 6 = .ok (.iconst 0, 1) := by decide +kernel
theorem dX5_begin_7 : decode cX5_begin 7 = .ok (.putfield 39, 3) := by decide +kernel
theorem dX5_begin_10 : decode cX5_begin 10 = .ok (.aload_n 0, 1) := by decide +kernel
theorem dX5_begin_11 : decode cX5_begin 11 = .ok (.invokevirtual 42, 3) := by decide +kernel
theorem dX5_begin_14 : decode cX5_begin 14 = .ok (.return_, 1) := by decide +kernel
theorem dX5_isAtEnd_0 : decode cX5_isAtEnd 0 = .ok (.aload_n 0, 1) := by decide +kernel
theorem dX5_isAtEnd_1 : decode cX5_isAtEnd 1 = .ok (.getfield 39, 3) := by decide +kernel
theorem dX5_isAtEnd_4 : decode cX5_isAtEnd 4 = .ok (.ifCond .ne 10, 3) := by decide +kernel
theorem dX5_isAtEnd_7 : decode cX5_isAtEnd 7 = .ok (.aload_n 0, 1) := by decide +kernel
theorem dX5_isAtEnd_8 : decode cX5_isAtEnd 8 = .ok (.getfield 45, 3) := by decide +kernel
theorem dX5_isAtEnd_11 : decode cX5_isAtEnd 11 = .ok (.ifCond .ne 7, 3) := by decide +kernel
theorem dX5_isAtEnd_14 : decode cX5_isAtEnd 14 = .ok (.iconst 1, 1) := by decide +kernel
theorem dX5_isAtEnd_15 : decode cX5_isAtEnd 15 = .ok (.goto 4, 3) := by decide +kernel
theorem dX5_isAtEnd_18 : decode cX5_isAtEnd 18 = .ok (.iconst 0, 1) := by decide +kernel
theorem dX5_isAtEnd_19 : decode cX5_isAtEnd 19 = .ok (.ireturn, 1) := by decide +kernel
theorem dX5_next_0 : decode cX5_next 0 = .ok (.aload_n 0, 1) := by decide +kernel
theorem dX5_next_1 : decode cX5_next 1 = .ok (.aload_n 0, 1) := by decide +kernel
theorem dX5_next_2 : decode cX5_next 2 = .ok (.getfield 48, 3) := by decide +kernel
theorem dX5_next_5 : decode cX5_next 5 = .ok (.putfield 51, 3) := by decide +kernel
theorem dX5_next_8 : decode cX5_next 8 = .ok (.aload_n 0, 1) := by decide +kernel
theorem dX5_next_9 : decode cX5_next 9 = .ok (.getfield 36, 3) := by decide +kernel
theorem dX5_next_12 : decode cX5_next 12 = .ok (.istore_n 1, 1) := by decide +kernel
theorem dX5_next_13 : decode cX5_next 13 = .ok (.iload_n 1, 1) := by decide +kernel
theorem dX5_next_14 : decode cX5_next 14 = .ok (.aload_n 0, 1) := by decide +kernel
theorem dX5_next_15 : decode cX5_next 15 = .ok (.getfield 33, 3) := by decide +kernel
theorem dX5_next_18 : decode cX5_next 18 = .ok (.if_icmp .ge 31, 3) := by decide +kernel
theorem dX5_next_21 : decode cX5_next 21 = .ok (.aload_n 0, 1) := by decide +kernel
theorem dX5_next_22 : decode cX5_next 22 = .ok (.getfield 9, 3) := by decide +kernel
theorem dX5_next_25 : decode cX5_next 25 = .ok (.iload_n 1, 1) := by decide +kernel
theorem dX5_next_26 : decode cX5_next 26 = .ok (.baload, 1) := by decide +kernel
theorem dX5_next_27 : decode cX5_next 27 = .ok (.bipush 10, 2) := by decide +kernel
theorem dX5_next_29 : decode cX5_next 29 = .ok (.if_icmp .eq 14, 3) := by decide +kernel
theorem dX5_next_32 : decode cX5_next 32 = .ok (.aload_n 0, 1) := by decide +kernel
theorem dX5_next_33 : decode cX5_next 33 = .ok (.getfield 9, 3) := by decide +kernel
theorem dX5_next_36 : decode cX5_next 36 = .ok (.iload_n 1, 1) := by decide +kernel
theorem dX5_next_37 : decode cX5_next 37 = .ok (.baload, 1) := by decide +kernel
theorem dX5_next_38 : decode cX5_next 38 = .ok (.bipush 32, 2) := by decide +kernel
theorem dX5_next_40 : decode cX5_next 40 = .ok (.if_icmp .ne 9, 3) := by decide +kernel
theorem dX5_next_43 : decode cX5_next 43 = .ok (.iinc 1 1, 3) := by decide +kernel
theorem dX5_next_46 : decode cX5_next 46 = .ok (.goto (-33), 3) := by decide +kernel
theorem dX5_next_49 : decode cX5_next 49 = .ok (.aload_n 0, 1) := by decide +kernel
theorem dX5_next_50 : decode cX5_next 50 = .ok (.iload_n 1, 1) := by decide +kernel
theorem dX5_next_51 : decode cX5_next 51 = .ok (.putfield 48, 3) := by decide +kernel
theorem dX5_next_54 : decode cX5_next 54 = .ok (.aload_n 0, 1) := by decide +kernel
theorem dX5_next_55 : decode cX5_next 55 = .ok (.iload_n 1, 1) := by decide +kernel
theorem dX5_next_56 : decode cX5_next 56 = .ok (.putfield 36, 3) := by decide +kernel
theorem dX5_next_59 : decode cX5_next 59 = .ok (.iload_n 1, 1) := by decide +kernel
theorem dX5_next_60 : decode cX5_next 60 = .ok (.aload_n 0, 1) := by decide +kernel
theorem dX5_next_61 : decode cX5_next 61 = .ok (.getfield 33, 3) := by decide +kernel
theorem dX5_next_64 : decode cX5_next 64 = .ok (.if_icmp .lt 11, 3) := by decide +kernel
theorem dX5_next_67 : decode cX5_next 67 = .ok (.aload_n 0, 1) := by decide +kernel
theorem dX5_next_68 : decode cX5_next 68 = .ok (.iconst 0, 1) := by decide +kernel
theorem dX5_next_69 : decode cX5_next 69 = .ok (.putfield 45, 3) := by decide +kernel
theorem dX5_next_72 : decode cX5_next 72 = .ok (.goto 58, 3) := by decide +kernel
theorem dX5_next_75 : decode cX5_next 75 = .ok (.aload_n 0, 1) := by decide +kernel
theorem dX5_next_76 : decode cX5_next 76 = .ok (.getfield 9, 3) := by decide +kernel
theorem dX5_next_79 : decode cX5_next 79 = .ok (.iload_n 1, 1) := by decide +kernel
theorem dX5_next_80 : decode cX5_next 80 = .ok (.baload, 1) := by decide +kernel
theorem dX5_next_81 : decode cX5_next 81 = .ok (.invokestatic 54, 3) := by decide +kernel
theorem dX5_next_84 : decode cX5_next 84 = .ok (.ifCond .eq 10, 3) := by decide +kernel
theorem dX5_next_87 : decode cX5_next 87 = .ok (.aload_n 0, 1) := by decide +kernel
theorem dX5_next_88 : decode cX5_next 88 = .ok (.invokevirtual 58, 3) := by decide +kernel
theorem dX5_next_91 : decode cX5_next 91 = .ok (.goto 39, 3) := by decide +kernel
theorem dX5_next_94 : decode cX5_next 94 = .ok (.aload_n 0, 1) := by decide +kernel
theorem dX5_next_95 : decode cX5_next 95 = .ok (.getfield 9, 3) := by decide +kernel
theorem dX5_next_98 : decode cX5_next 98 = .ok (.iload_n 1, 1) := by decide +kernel
theorem dX5_next_99 : decode cX5_next 99 = .ok (.baload, 1) := by decide +kernel
theorem dX5_next_100 : decode cX5_next 100 = .ok (.invokestatic 61, 3) := by decide +kernel
theorem dX5_next_103 : decode cX5_next 103 = .ok (.ifCond .eq 10, 3) := by decide +kernel
theorem dX5_next_106 : decode cX5_next 106 = .ok (.aload_n 0, 1) := by decide +kernel
theorem dX5_next_107 : decode cX5_next 107 = .ok (.invokevirtual 64, 3) := by decide +kernel
theorem dX5_next_110 : decode cX5_next 110 = .ok (.goto 20, 3) := by decide +kernel
theorem dX5_next_113 : decode cX5_next 113 = .ok (.aload_n 0, 1) := by decide +kernel
theorem dX5_next_114 : decode cX5_next 114 = .ok (.iload_n 1, 1) := by decide +kernel
theorem dX5_next_115 : decode cX5_next 115 = .ok (.iconst 1, 1) := by decide +kernel
theorem dX5_next_116 : decode cX5_next 116 = .ok (.iadd, 1) := by decide +kernel
theorem dX5_next_117 : decode cX5_next 117 = .ok (.putfield 36, 3) := by decide +kernel
theorem dX5_next_120 : decode cX5_next 120 = .ok (.aload_n 0, 1) := by decide +kernel
theorem dX5_next_121 : decode cX5_next 121 = .ok (.aload_n 0, 1) := by decide +kernel
theorem dX5_next_122 : decode cX5_next 122 = .ok (.getfield 9, 3) := by decide +kernel
theorem dX5_next_125 : decode cX5_next 125 = .ok (.iload_n 1, 1) := by decide +kernel
theorem dX5_next_126 : decode cX5_next 126 = .ok (.baload, 1) := by decide +kernel
theorem dX5_next_127 : decode cX5_next 127 = .ok (.putfield 45, 3) := by decide +kernel
theorem dX5_next_130 : decode cX5_next 130 = .ok (.return_, 1) := by decide +kernel
theorem dX5_takeNumber_0 : decode cX5_takeNumber 0 = .ok (.aload_n 0, 1) := by decide +kernel
theorem dX5_takeNumber_1 : decode cX5_takeNumber 1 = .ok (.iconst 0, 1) := by decide +kernel
theorem dX5_takeNumber_2 : decode cX5_takeNumber 2 = .ok (.putfield 67, 3) := by decide +kernel
theorem dX5_takeNumber_5 : decode cX5_takeNumber 5 = .ok (.aload_n 0, 1) := by decide +kernel
theorem dX5_takeNumber_6 : decode cX5_takeNumber 6 = .ok (.getfield 36, 3) := by decide +kernel
theorem dX5_takeNumber_9 : decode cX5_takeNumber 9 = .ok (.aload_n 0, 1) := by decide +kernel
theorem dX5_takeNumber_10 : decode cX5_takeNumber 10 = .ok (.getfield 33, 3) := by decide +kernel
theorem dX5_takeNumber_13 : decode cX5_takeNumber 13 = .ok (.if_icmp .ge 68, 3) := by decide +kernel
theorem dX5_takeNumber_16 : decode cX5_takeNumber 16 = .ok (.aload_n 0, 1) := by decide +kernel
theorem dX5_takeNumber_17 : decode cX5_takeNumber 17 = .ok (.getfield 9, 3) := by decide +kernel
theorem dX5_takeNumber_20 : decode cX5_takeNumber 20 = .ok (.aload_n 0, 1) := by decide +kernel
theorem dX5_takeNumber_21 : decode cX5_takeNumber 21 = .ok (.getfield 36, 3) := by decide +kernel
theorem dX5_takeNumber_24 : decode cX5_takeNumber 24 = .ok (.baload, 1) := by decide +kernel
theorem dX5_takeNumber_25 : decode cX5_takeNumber 25 = .ok (.invokestatic 54, 3) := by decide +kernel
theorem dX5_takeNumber_28 : decode cX5_takeNumber 28 = .ok (.ifCond .eq 53, 3) := by decide +kernel
theorem dX5_takeNumber_31 : decode cX5_takeNumber 31 = .ok (.aload_n 0, 1) := by decide +kernel
theorem dX5_takeNumber_32 : decode cX5_takeNumber 32 = .ok (.getfield 36, 3) := by decide +kernel
theorem dX5_takeNumber_35 : decode cX5_takeNumber 35 = .ok (.aload_n 0, 1) := by decide +kernel
theorem dX5_takeNumber_36 : decode cX5_takeNumber 36 = .ok (.getfield 48, 3) := by decide +kernel
theorem dX5_takeNumber_39 : decode cX5_takeNumber 39 = .ok (.isub, 1) := by decide +kernel
theorem dX5_takeNumber_40 : decode cX5_takeNumber 40 = .ok (.iconst 4, 1) := by decide +kernel
theorem dX5_takeNumber_41 : decode cX5_takeNumber 41 = .ok (.if_icmp .ge 27, 3) := by decide +kernel
theorem dX5_takeNumber_44 : decode cX5_takeNumber 44 = .ok (.aload_n 0, 1) := by decide +kernel
theorem dX5_takeNumber_45 : decode cX5_takeNumber 45 = .ok (.aload_n 0, 1) := by decide +kernel
theorem dX5_takeNumber_46 : decode cX5_takeNumber 46 = .ok (.getfield 67, 3) := by decide +kernel
theorem dX5_takeNumber_49 : decode cX5_takeNumber 49 = .ok (.bipush 10, 2) := by decide +kernel
theorem dX5_takeNumber_51 : decode cX5_takeNumber 51 = .ok (.imul, 1) := by decide +kernel
theorem dX5_takeNumber_52 : decode cX5_takeNumber 52 = .ok (.aload_n 0, 1) := by decide +kernel
theorem dX5_takeNumber_53 : decode cX5_takeNumber 53 = .ok (.getfield 9, 3) := by decide +kernel
theorem dX5_takeNumber_56 : decode cX5_takeNumber 56 = .ok (.aload_n 0, 1) := by decide +kernel
theorem dX5_takeNumber_57 : decode cX5_takeNumber 57 = .ok (.getfield 36, 3) := by decide +kernel
theorem dX5_takeNumber_60 : decode cX5_takeNumber 60 = .ok (.baload, 1) := by decide +kernel
theorem dX5_takeNumber_61 : decode cX5_takeNumber 61 = .ok (.iadd, 1) := by decide +kernel
theorem dX5_takeNumber_62 : decode cX5_takeNumber 62 = .ok (.bipush 48, 2) := by decide +kernel
theorem dX5_takeNumber_64 : decode cX5_takeNumber 64 = .ok (.isub, 1) := by decide +kernel
theorem dX5_takeNumber_65 : decode cX5_takeNumber 65 = .ok (.putfield 67, 3) := by decide +kernel
theorem dX5_takeNumber_68 : decode cX5_takeNumber 68 = .ok (.aload_n 0, 1) := by decide +kernel
theorem dX5_takeNumber_69 : decode cX5_takeNumber 69 = .ok (.dup, 1) := by decide +kernel
theorem dX5_takeNumber_70 : decode cX5_takeNumber 70 = .ok (.getfield 36, 3) := by decide +kernel
theorem dX5_takeNumber_73 : decode cX5_takeNumber 73 = .ok (.iconst 1, 1) := by decide +kernel
theorem dX5_takeNumber_74 : decode cX5_takeNumber 74 = .ok (.iadd, 1) := by decide +kernel
theorem dX5_takeNumber_75 : decode cX5_takeNumber 75 = .ok (.putfield 36, 3) := by decide +kernel
theorem dX5_takeNumber_78 : decode cX5_takeNumber 78 = .ok (.goto (-73), 3) := by decide +kernel
theorem dX5_takeNumber_81 : decode cX5_takeNumber 81 = .ok (.aload_n 0, 1) := by decide +kernel
theorem dX5_takeNumber_82 : decode cX5_takeNumber 82 = .ok (.aload_n 0, 1) := by decide +kernel
theorem dX5_takeNumber_83 : decode cX5_takeNumber 83 = .ok (.getfield 36, 3) := by decide +kernel
theorem dX5_takeNumber_86 : decode cX5_takeNumber 86 = .ok (.aload_n 0, 1) := by decide +kernel
theorem dX5_takeNumber_87 : decode cX5_takeNumber 87 = .ok (.getfield 48, 3) := by decide +kernel
theorem dX5_takeNumber_90 : decode cX5_takeNumber 90 = .ok (.isub, 1) := by decide +kernel
theorem dX5_takeNumber_91 : decode cX5_takeNumber 91 = .ok (.iconst 4, 1) := by decide +kernel
theorem dX5_takeNumber_92 : decode cX5_takeNumber 92 = .ok (.if_icmp .le 7, 3) := by decide +kernel
theorem dX5_takeNumber_95 : decode cX5_takeNumber 95 = .ok (.iconst 1, 1) := by decide +kernel
theorem dX5_takeNumber_96 : decode cX5_takeNumber 96 = .ok (.goto 4, 3) := by decide +kernel
theorem dX5_takeNumber_99 : decode cX5_takeNumber 99 = .ok (.iconst 2, 1) := by decide +kernel
theorem dX5_takeNumber_100 : decode cX5_takeNumber 100 = .ok (.putfield 45, 3) := by decide +kernel
theorem dX5_takeNumber_103 : decode cX5_takeNumber 103 = .ok (.return_, 1) := by decide +kernel
theorem dX5_takeWord_0 : decode cX5_takeWord 0 = .ok (.aload_n 0, 1) := by decide +kernel
theorem dX5_takeWord_1 : decode cX5_takeWord 1 = .ok (.lconst 0, 1) := by decide +kernel
theorem dX5_takeWord_2 : decode cX5_takeWord 2 = .ok (.putfield 70, 3) := by decide +kernel
theorem dX5_takeWord_5 : decode cX5_takeWord 5 = .ok (.aload_n 0, 1) := by decide +kernel
theorem dX5_takeWord_6 : decode cX5_takeWord 6 = .ok (.getfield 36, 3) := by decide +kernel
theorem dX5_takeWord_9 : decode cX5_takeWord 9 = .ok (.aload_n 0, 1) := by decide +kernel
theorem dX5_takeWord_10 : decode cX5_takeWord 10 = .ok (.getfield 33, 3) := by decide +kernel
theorem dX5_takeWord_13 : decode cX5_takeWord 13 = .ok (.if_icmp .ge 67, 3) := by decide +kernel
theorem dX5_takeWord_16 : decode cX5_takeWord 16 = .ok (.aload_n 0, 1) := by decide +kernel
theorem dX5_takeWord_17 : decode cX5_takeWord 17 = .ok (.getfield 9, 3) := by decide +kernel
theorem dX5_takeWord_20 : decode cX5_takeWord 20 = .ok (.aload_n 0, 1) := by decide +kernel
theorem dX5_takeWord_21 : decode cX5_takeWord 21 = .ok (.getfield 36, 3) := by decide +kernel
theorem dX5_takeWord_24 : decode cX5_takeWord 24 = .ok (.baload, 1) := by decide +kernel
theorem dX5_takeWord_25 : decode cX5_takeWord 25 = .ok (.invokestatic 61, 3) := by decide +kernel
theorem dX5_takeWord_28 : decode cX5_takeWord 28 = .ok (.ifCond .eq 52, 3) := by decide +kernel
theorem dX5_takeWord_31 : decode cX5_takeWord 31 = .ok (.aload_n 0, 1) := by decide +kernel
theorem dX5_takeWord_32 : decode cX5_takeWord 32 = .ok (.getfield 36, 3) := by decide +kernel
theorem dX5_takeWord_35 : decode cX5_takeWord 35 = .ok (.aload_n 0, 1) := by decide +kernel
theorem dX5_takeWord_36 : decode cX5_takeWord 36 = .ok (.getfield 48, 3) := by decide +kernel
theorem dX5_takeWord_39 : decode cX5_takeWord 39 = .ok (.isub, 1) := by decide +kernel
theorem dX5_takeWord_40 : decode cX5_takeWord 40 = .ok (.bipush 8, 2) := by decide +kernel
theorem dX5_takeWord_42 : decode cX5_takeWord 42 = .ok (.if_icmp .ge 25, 3) := by decide +kernel
theorem dX5_takeWord_45 : decode cX5_takeWord 45 = .ok (.aload_n 0, 1) := by decide +kernel
theorem dX5_takeWord_46 : decode cX5_takeWord 46 = .ok (.aload_n 0, 1) := by decide +kernel
theorem dX5_takeWord_47 : decode cX5_takeWord 47 = .ok (.getfield 70, 3) := by decide +kernel
theorem dX5_takeWord_50 : decode cX5_takeWord 50 = .ok (.bipush 8, 2) := by decide +kernel
theorem dX5_takeWord_52 : decode cX5_takeWord 52 = .ok (.lshl, 1) := by decide +kernel
theorem dX5_takeWord_53 : decode cX5_takeWord 53 = .ok (.aload_n 0, 1) := by decide +kernel
theorem dX5_takeWord_54 : decode cX5_takeWord 54 = .ok (.getfield 9, 3) := by decide +kernel
theorem dX5_takeWord_57 : decode cX5_takeWord 57 = .ok (.aload_n 0, 1) := by decide +kernel
theorem dX5_takeWord_58 : decode cX5_takeWord 58 = .ok (.getfield 36, 3) := by decide +kernel
theorem dX5_takeWord_61 : decode cX5_takeWord 61 = .ok (.baload, 1) := by decide +kernel
theorem dX5_takeWord_62 : decode cX5_takeWord 62 = .ok (.i2l, 1) := by decide +kernel
theorem dX5_takeWord_63 : decode cX5_takeWord 63 = .ok (.lor, 1) := by decide +kernel
theorem dX5_takeWord_64 : decode cX5_takeWord 64 = .ok (.putfield 70, 3) := by decide +kernel
theorem dX5_takeWord_67 : decode cX5_takeWord 67 = .ok (.aload_n 0, 1) := by decide +kernel
theorem dX5_takeWord_68 : decode cX5_takeWord 68 = .ok (.dup, 1) := by decide +kernel
theorem dX5_takeWord_69 : decode cX5_takeWord 69 = .ok (.getfield 36, 3) := by decide +kernel
theorem dX5_takeWord_72 : decode cX5_takeWord 72 = .ok (.iconst 1, 1) := by decide +kernel
theorem dX5_takeWord_73 : decode cX5_takeWord 73 = .ok (.iadd, 1) := by decide +kernel
theorem dX5_takeWord_74 : decode cX5_takeWord 74 = .ok (.putfield 36, 3) := by decide +kernel
theorem dX5_takeWord_77 : decode cX5_takeWord 77 = .ok (.goto (-72), 3) := by decide +kernel
theorem dX5_takeWord_80 : decode cX5_takeWord 80 = .ok (.aload_n 0, 1) := by decide +kernel
theorem dX5_takeWord_81 : decode cX5_takeWord 81 = .ok (.aload_n 0, 1) := by decide +kernel
theorem dX5_takeWord_82 : decode cX5_takeWord 82 = .ok (.getfield 36, 3) := by decide +kernel
theorem dX5_takeWord_85 : decode cX5_takeWord 85 = .ok (.aload_n 0, 1) := by decide +kernel
theorem dX5_takeWord_86 : decode cX5_takeWord 86 = .ok (.getfield 48, 3) := by decide +kernel
theorem dX5_takeWord_89 : decode cX5_takeWord 89 = .ok (.isub, 1) := by decide +kernel
theorem dX5_takeWord_90 : decode cX5_takeWord 90 = .ok (.bipush 8, 2) := by decide +kernel
theorem dX5_takeWord_92 : decode cX5_takeWord 92 = .ok (.if_icmp .le 7, 3) := by decide +kernel
theorem dX5_takeWord_95 : decode cX5_takeWord 95 = .ok (.iconst 1, 1) := by decide +kernel
theorem dX5_takeWord_96 : decode cX5_takeWord 96 = .ok (.goto 7, 3) := by decide +kernel
theorem dX5_takeWord_99 : decode cX5_takeWord 99 = .ok (.aload_n 0, 1) := by decide +kernel
theorem dX5_takeWord_100 : decode cX5_takeWord 100 = .ok (.invokevirtual 74, 3) := by decide +kernel
theorem dX5_takeWord_103 : decode cX5_takeWord 103 = .ok (.putfield 45, 3) := by decide +kernel
theorem dX5_takeWord_106 : decode cX5_takeWord 106 = .ok (.return_, 1) := by decide +kernel
theorem dX5_wordToken_0 : decode cX5_wordToken 0 = .ok (.iconst 0, 1) := by decide +kernel
theorem dX5_wordToken_1 : decode cX5_wordToken 1 = .ok (.istore_n 1, 1) := by decide +kernel
theorem dX5_wordToken_2 : decode cX5_wordToken 2 = .ok (.iload_n 1, 1) := by decide +kernel
theorem dX5_wordToken_3 : decode cX5_wordToken 3 = .ok (.bipush 26, 2) := by decide +kernel
theorem dX5_wordToken_5 : decode cX5_wordToken 5 = .ok (.if_icmp .ge 29, 3) := by decide +kernel
theorem dX5_wordToken_8 : decode cX5_wordToken 8 = .ok (.aload_n 0, 1) := by decide +kernel
theorem dX5_wordToken_9 : decode cX5_wordToken 9 = .ok (.getfield 15, 3) := by decide +kernel
theorem dX5_wordToken_12 : decode cX5_wordToken 12 = .ok (.iload_n 1, 1) := by decide +kernel
theorem dX5_wordToken_13 : decode cX5_wordToken 13 = .ok (.laload, 1) := by decide +kernel
theorem dX5_wordToken_14 : decode cX5_wordToken 14 = .ok (.aload_n 0, 1) := by decide +kernel
theorem dX5_wordToken_15 : decode cX5_wordToken 15 = .ok (.getfield 70, 3) := by decide +kernel
theorem dX5_wordToken_18 : decode cX5_wordToken 18 = .ok (.lcmp, 1) := by decide +kernel
theorem dX5_wordToken_19 : decode cX5_wordToken 19 = .ok (.ifCond .ne 9, 3) := by decide +kernel
theorem dX5_wordToken_22 : decode cX5_wordToken 22 = .ok (.sipush 128, 3) := by decide +kernel
theorem dX5_wordToken_25 : decode cX5_wordToken 25 = .ok (.iload_n 1, 1) := by decide +kernel
theorem dX5_wordToken_26 : decode cX5_wordToken 26 = .ok (.iadd, 1) := by decide +kernel
theorem dX5_wordToken_27 : decode cX5_wordToken 27 = .ok (.ireturn, 1) := by decide +kernel
theorem dX5_wordToken_28 : decode cX5_wordToken 28 = .ok (.iinc 1 1, 3) := by decide +kernel
theorem dX5_wordToken_31 : decode cX5_wordToken 31 = .ok (.goto (-29), 3) := by decide +kernel
theorem dX5_wordToken_34 : decode cX5_wordToken 34 = .ok (.iconst 3, 1) := by decide +kernel
theorem dX5_wordToken_35 : decode cX5_wordToken 35 = .ok (.ireturn, 1) := by decide +kernel
theorem dX5_isDigit_0 : decode cX5_isDigit 0 = .ok (.iload_n 0, 1) := by decide +kernel
theorem dX5_isDigit_1 : decode cX5_isDigit 1 = .ok (.bipush 48, 2) := by decide +kernel
theorem dX5_isDigit_3 : decode cX5_isDigit 3 = .ok (.if_icmp .lt 13, 3) := by decide +kernel
theorem dX5_isDigit_6 : decode cX5_isDigit 6 = .ok (.iload_n 0, 1) := by decide +kernel
theorem dX5_isDigit_7 : decode cX5_isDigit 7 = .ok (.bipush 57, 2) := by decide +kernel
theorem dX5_isDigit_9 : decode cX5_isDigit 9 = .ok (.if_icmp .gt 7, 3) := by decide +kernel
theorem dX5_isDigit_12 : decode cX5_isDigit 12 = .ok (.iconst 1, 1) := by decide +kernel
theorem dX5_isDigit_13 : decode cX5_isDigit 13 = .ok (.goto 4, 3) := by decide +kernel
theorem dX5_isDigit_16 : decode cX5_isDigit 16 = .ok (.iconst 0, 1) := by decide +kernel
theorem dX5_isDigit_17 : decode cX5_isDigit 17 = .ok (.ireturn, 1) := by decide +kernel
theorem dX5_isLetter_0 : decode cX5_isLetter 0 = .ok (.iload_n 0, 1) := by decide +kernel
theorem dX5_isLetter_1 : decode cX5_isLetter 1 = .ok (.bipush 97, 2) := by decide +kernel
theorem dX5_isLetter_3 : decode cX5_isLetter 3 = .ok (.if_icmp .lt 13, 3) := by decide +kernel
theorem dX5_isLetter_6 : decode cX5_isLetter 6 = .ok (.iload_n 0, 1) := by decide +kernel
theorem dX5_isLetter_7 : decode cX5_isLetter 7 = .ok (.bipush 122, 2) := by decide +kernel
theorem dX5_isLetter_9 : decode cX5_isLetter 9 = .ok (.if_icmp .gt 7, 3) := by decide +kernel
theorem dX5_isLetter_12 : decode cX5_isLetter 12 = .ok (.iconst 1, 1) := by decide +kernel
theorem dX5_isLetter_13 : decode cX5_isLetter 13 = .ok (.goto 4, 3) := by decide +kernel
theorem dX5_isLetter_16 : decode cX5_isLetter 16 = .ok (.iconst 0, 1) := by decide +kernel
theorem dX5_isLetter_17 : decode cX5_isLetter 17 = .ok (.ireturn, 1) := by decide +kernel
theorem dX5_refuse_0 : decode cX5_refuse 0 = .ok (.aload_n 0, 1) := by decide +kernel
theorem dX5_refuse_1 : decode cX5_refuse 1 = .ok (.getfield 39, 3) := by decide +kernel
theorem dX5_refuse_4 : decode cX5_refuse 4 = .ok (.ifCond .ne 16, 3) := by decide +kernel
theorem dX5_refuse_7 : decode cX5_refuse 7 = .ok (.aload_n 0, 1) := by decide +kernel
theorem dX5_refuse_8 : decode cX5_refuse 8 = .ok (.iload_n 1, 1) := by decide +kernel
theorem dX5_refuse_9 : decode cX5_refuse 9 = .ok (.bipush 16, 2) := by decide +kernel
theorem dX5_refuse_11 : decode cX5_refuse 11 = .ok (.aload_n 0, 1) := by decide +kernel
theorem dX5_refuse_12 : decode cX5_refuse 12 = .ok (.getfield 48, 3) := by decide +kernel
theorem dX5_refuse_15 : decode cX5_refuse 15 = .ok (.imul, 1) := by decide +kernel
theorem dX5_refuse_16 : decode cX5_refuse 16 = .ok (.iadd, 1) := by decide +kernel
theorem dX5_refuse_17 : decode cX5_refuse 17 = .ok (.putfield 39, 3) := by decide +kernel
theorem dX5_refuse_20 : decode cX5_refuse 20 = .ok (.return_, 1) := by decide +kernel
theorem dX5_refuseTaken_0 : decode cX5_refuseTaken 0 = .ok (.aload_n 0, 1) := by decide +kernel
theorem dX5_refuseTaken_1 : decode cX5_refuseTaken 1 = .ok (.getfield 39, 3) := by decide +kernel
theorem dX5_refuseTaken_4 : decode cX5_refuseTaken 4 = .ok (.ifCond .ne 16, 3) := by decide +kernel
theorem dX5_refuseTaken_7 : decode cX5_refuseTaken 7 = .ok (.aload_n 0, 1) := by decide +kernel
theorem dX5_refuseTaken_8 : decode cX5_refuseTaken 8 = .ok (.iload_n 1, 1) := by decide +kernel
theorem dX5_refuseTaken_9 : decode cX5_refuseTaken 9 = .ok (.bipush 16, 2) := by decide +kernel
theorem dX5_refuseTaken_11 : decode cX5_refuseTaken 11 = .ok (.aload_n 0, 1) := by decide +kernel
theorem dX5_refuseTaken_12 : decode cX5_refuseTaken 12 = .ok (.getfield 51, 3) := by decide +kernel
theorem dX5_refuseTaken_15 : decode cX5_refuseTaken 15 = .ok (.imul, 1) := by decide +kernel
theorem dX5_refuseTaken_16 : decode cX5_refuseTaken 16 = .ok (.iadd, 1) := by decide +kernel
theorem dX5_refuseTaken_17 : decode cX5_refuseTaken 17 = .ok (.putfield 39, 3) := by decide +kernel
theorem dX5_refuseTaken_20 : decode cX5_refuseTaken 20 = .ok (.return_, 1) := by decide +kernel
theorem dX5_expect_0 : decode cX5_expect 0 = .ok (.aload_n 0, 1) := by decide +kernel
theorem dX5_expect_1 : decode cX5_expect 1 = .ok (.getfield 45, 3) := by decide +kernel
theorem dX5_expect_4 : decode cX5_expect 4 = .ok (.iload_n 1, 1) := by decide +kernel
theorem dX5_expect_5 : decode cX5_expect 5 = .ok (.if_icmp .eq 8, 3) := by decide +kernel
theorem dX5_expect_8 : decode cX5_expect 8 = .ok (.aload_n 0, 1) := by decide +kernel
theorem dX5_expect_9 : decode cX5_expect 9 = .ok (.iconst 1, 1) := by decide +kernel
theorem dX5_expect_10 : decode cX5_expect 10 = .ok (.invokevirtual 77, 3) := by decide +kernel
theorem dX5_expect_13 : decode cX5_expect 13 = .ok (.aload_n 0, 1) := by decide +kernel
theorem dX5_expect_14 : decode cX5_expect 14 = .ok (.getfield 39, 3) := by decide +kernel
theorem dX5_expect_17 : decode cX5_expect 17 = .ok (.ifCond .ne 7, 3) := by decide +kernel
theorem dX5_expect_20 : decode cX5_expect 20 = .ok (.aload_n 0, 1) := by decide +kernel
theorem dX5_expect_21 : decode cX5_expect 21 = .ok (.invokevirtual 42, 3) := by decide +kernel
theorem dX5_expect_24 : decode cX5_expect 24 = .ok (.return_, 1) := by decide +kernel
theorem dX5_expectNumber_0 : decode cX5_expectNumber 0 = .ok (.aload_n 0, 1) := by decide +kernel
theorem dX5_expectNumber_1 : decode cX5_expectNumber 1 = .ok (.getfield 67, 3) := by decide +kernel
theorem dX5_expectNumber_4 : decode cX5_expectNumber 4 = .ok (.istore_n 3, 1) := by decide +kernel
theorem dX5_expectNumber_5 : decode cX5_expectNumber 5 = .ok (.aload_n 0, 1) := by decide +kernel
theorem dX5_expectNumber_6 : decode cX5_expectNumber 6 = .ok (.iconst 2, 1) := by decide +kernel
theorem dX5_expectNumber_7 : decode cX5_expectNumber 7 = .ok (.invokevirtual 81, 3) := by decide +kernel
theorem dX5_expectNumber_10 : decode cX5_expectNumber 10 = .ok (.aload_n 0, 1) := by decide +kernel
theorem dX5_expectNumber_11 : decode cX5_expectNumber 11 = .ok (.getfield 39, 3) := by decide +kernel
theorem dX5_expectNumber_14 : decode cX5_expectNumber 14 = .ok (.ifCond .ne 17, 3) := by decide +kernel
theorem dX5_expectNumber_17 : decode cX5_expectNumber 17 = .ok (.iload_n 3, 1) := by decide +kernel
theorem dX5_expectNumber_18 : decode cX5_expectNumber 18 = .ok (.iload_n 1, 1) := by decide +kernel
theorem dX5_expectNumber_19 : decode cX5_expectNumber 19 = .ok (.iload_n 2, 1) := by decide +kernel
theorem dX5_expectNumber_20 : decode cX5_expectNumber 20 = .ok (.invokestatic 84, 3) := by decide +kernel
theorem dX5_expectNumber_23 : decode cX5_expectNumber 23 = .ok (.ifCond .ne 8, 3) := by decide +kernel
theorem dX5_expectNumber_26 : decode cX5_expectNumber 26 = .ok (.aload_n 0, 1) := by decide +kernel
theorem dX5_expectNumber_27 : decode cX5_expectNumber 27 = .ok (.iconst 4, 1) := by decide +kernel
theorem dX5_expectNumber_28 : decode cX5_expectNumber 28 = .ok (.invokevirtual 88, 3) := by decide +kernel
theorem dX5_expectNumber_31 : decode cX5_expectNumber 31 = .ok (.aload_n 0, 1) := by decide +kernel
theorem dX5_expectNumber_32 : decode cX5_expectNumber 32 = .ok (.getfield 39, 3) := by decide +kernel
theorem dX5_expectNumber_35 : decode cX5_expectNumber 35 = .ok (.ifCond .ne 7, 3) := by decide +kernel
theorem dX5_expectNumber_38 : decode cX5_expectNumber 38 = .ok (.iload_n 3, 1) := by decide +kernel
theorem dX5_expectNumber_39 : decode cX5_expectNumber 39 = .ok (.goto 4, 3) := by decide +kernel
theorem dX5_expectNumber_42 : decode cX5_expectNumber 42 = .ok (.iload_n 1, 1) := by decide +kernel
theorem dX5_expectNumber_43 : decode cX5_expectNumber 43 = .ok (.ireturn, 1) := by decide +kernel
theorem dX5_expectName_0 : decode cX5_expectName 0 = .ok (.aload_n 0, 1) := by decide +kernel
theorem dX5_expectName_1 : decode cX5_expectName 1 = .ok (.getfield 70, 3) := by decide +kernel
theorem dX5_expectName_4 : decode cX5_expectName 4 = .ok (.lstore_n 1, 1) := by decide +kernel
theorem dX5_expectName_5 : decode cX5_expectName 5 = .ok (.aload_n 0, 1) := by decide +kernel
theorem dX5_expectName_6 : decode cX5_expectName 6 = .ok (.getfield 45, 3) := by decide +kernel
theorem dX5_expectName_9 : decode cX5_expectName 9 = .ok (.iconst 3, 1) := by decide +kernel
theorem dX5_expectName_10 : decode cX5_expectName 10 = .ok (.if_icmp .eq 18, 3) := by decide +kernel
theorem dX5_expectName_13 : decode cX5_expectName 13 = .ok (.aload_n 0, 1) := by decide +kernel
theorem dX5_expectName_14 : decode cX5_expectName 14 = .ok (.getfield 45, 3) := by decide +kernel
theorem dX5_expectName_17 : decode cX5_expectName 17 = .ok (.invokestatic 91, 3) := by decide +kernel
theorem dX5_expectName_20 : decode cX5_expectName 20 = .ok (.ifCond .ne 8, 3) := by decide +kernel
theorem dX5_expectName_23 : decode cX5_expectName 23 = .ok (.aload_n 0, 1) := by decide +kernel
theorem dX5_expectName_24 : decode cX5_expectName 24 = .ok (.iconst 1, 1) := by decide +kernel
theorem dX5_expectName_25 : decode cX5_expectName 25 = .ok (.invokevirtual 77, 3) := by decide +kernel
theorem dX5_expectName_28 : decode cX5_expectName 28 = .ok (.aload_n 0, 1) := by decide +kernel
theorem dX5_expectName_29 : decode cX5_expectName 29 = .ok (.getfield 39, 3) := by decide +kernel
theorem dX5_expectName_32 : decode cX5_expectName 32 = .ok (.ifCond .eq 5, 3) := by decide +kernel
theorem dX5_expectName_35 : decode cX5_expectName 35 = .ok (.lconst 0, 1) := by decide +kernel
theorem dX5_expectName_36 : decode cX5_expectName 36 = .ok (.lreturn, 1) := by decide +kernel
theorem dX5_expectName_37 : decode cX5_expectName 37 = .ok (.aload_n 0, 1) := by decide +kernel
theorem dX5_expectName_38 : decode cX5_expectName 38 = .ok (.invokevirtual 42, 3) := by decide +kernel
theorem dX5_expectName_41 : decode cX5_expectName 41 = .ok (.lload_n 1, 1) := by decide +kernel
theorem dX5_expectName_42 : decode cX5_expectName 42 = .ok (.lreturn, 1) := by decide +kernel
theorem dX6_init_0 : decode cX6_init 0 = .ok (.aload_n 0, 1) := by decide +kernel
theorem dX6_init_1 : decode cX6_init 1 = .ok (.invokespecial 3, 3) := by decide +kernel
theorem dX6_init_4 : decode cX6_init 4 = .ok (.aload_n 0, 1) := by decide +kernel
theorem dX6_init_5 : decode cX6_init 5 = .ok (.iconst 5, 1) := by decide +kernel
theorem dX6_init_6 : decode cX6_init 6 = .ok (.newarray .long, 2) := by decide +kernel
theorem dX6_init_8 : decode cX6_init 8 = .ok (.putfield 9, 3) := by decide +kernel
theorem dX6_init_11 : decode cX6_init 11 = .ok (.aload_n 0, 1) := by decide +kernel
theorem dX6_init_12 : decode cX6_init 12 = .ok (.iconst 5, 1) := by decide +kernel
theorem dX6_init_13 : decode cX6_init 13 = .ok (.newarray .long, 2) := by decide +kernel
theorem dX6_init_15 : decode cX6_init 15 = .ok (.putfield 15, 3) := by decide +kernel
theorem dX6_init_18 : decode cX6_init 18 = .ok (.aload_n 0, 1) := by decide +kernel
theorem dX6_init_19 : decode cX6_init 19 = .ok (.bipush 10, 2) := by decide +kernel
theorem dX6_init_21 : decode cX6_init 21 = .ok (.newarray .int, 2) := by decide +kernel
theorem dX6_init_23 : decode cX6_init 23 = .ok (.putfield 18, 3) := by decide +kernel
theorem dX6_init_26 : decode cX6_init 26 = .ok (.aload_n 0, 1) := by decide +kernel
theorem dX6_init_27 : decode cX6_init 27 = .ok (.bipush 12, 2) := by decide +kernel
theorem dX6_init_29 : decode cX6_init 29 = .ok (.newarray .int, 2) := by decide +kernel
theorem dX6_init_31 : decode cX6_init 31 = .ok (.putfield 22, 3) := by decide +kernel
theorem dX6_init_34 : decode cX6_init 34 = .ok (.aload_n 0, 1) := by decide +kernel
theorem dX6_init_35 : decode cX6_init 35 = .ok (.iconst 5, 1) := by decide +kernel
theorem dX6_init_36 : decode cX6_init 36 = .ok (.newarray .int, 2) := by decide +kernel
theorem dX6_init_38 : decode cX6_init 38 = .ok (.putfield 25, 3) := by decide +kernel
theorem dX6_init_41 : decode cX6_init 41 = .ok (.aload_n 0, 1) := by decide +kernel
theorem dX6_init_42 : decode cX6_init 42 = .ok (.iconst 5, 1) := by decide +kernel
theorem dX6_init_43 : decode cX6_init 43 = .ok (.newarray .int, 2) := by decide +kernel
theorem dX6_init_45 : decode cX6_init 45 = .ok (.putfield 28, 3) := by decide +kernel
theorem dX6_init_48 : decode cX6_init 48 = .ok (.aload_n 0, 1) := by decide +kernel
theorem dX6_init_49 : decode cX6_init 49 = .ok (.iconst 5, 1) := by decide +kernel
theorem dX6_init_50 : decode cX6_init 50 = .ok (.newarray .int, 2) := by decide +kernel
theorem dX6_init_52 : decode cX6_init 52 = .ok (.putfield 31, 3) := by decide +kernel
theorem dX6_init_55 : decode cX6_init 55 = .ok (.aload_n 0, 1) := by decide +kernel
theorem dX6_init_56 : decode cX6_init 56 = .ok (.iconst 5, 1) := by decide +kernel
theorem dX6_init_57 : decode cX6_init 57 = .ok (.newarray .int, 2) := by decide +kernel
theorem dX6_init_59 : decode cX6_init 59 = .ok (.putfield 34, 3) := by decide +kernel
theorem dX6_init_62 : decode cX6_init 62 = .ok (.aload_n 0, 1) := by decide +kernel
theorem dX6_init_63 : decode cX6_init 63 = .ok (.iconst 5, 1) := by decide +kernel
theorem dX6_init_64 : decode cX6_init 64 = .ok (.newarray .int, 2) := by decide +kernel
theorem dX6_init_66 : decode cX6_init 66 = .ok (.putfield 37, 3) := by decide +kernel
theorem dX6_init_69 : decode cX6_init 69 = .ok (.aload_n 0, 1) := by decide +kernel
theorem dX6_init_70 : decode cX6_init 70 = .ok (.iconst 5, 1) := by decide +kernel
theorem dX6_init_71 : decode cX6_init 71 = .ok (.newarray .int, 2) := by decide +kernel
theorem dX6_init_73 : decode cX6_init 73 = .ok (.putfield 40, 3) := by decide +kernel
theorem dX6_init_76 : decode cX6_init 76 = .ok (.aload_n 0, 1) := by decide +kernel
theorem dX6_init_77 : decode cX6_init 77 = .ok (.iconst 5, 1) := by decide +kernel
theorem dX6_init_78 : decode cX6_init 78 = .ok (.newarray .int, 2) := by decide +kernel
theorem dX6_init_80 : decode cX6_init 80 = .ok (.putfield 43, 3) := by decide +kernel
theorem dX6_init_83 : decode cX6_init 83 = .ok (.aload_n 0, 1) := by decide +kernel
theorem dX6_init_84 : decode cX6_init 84 = .ok (.new 46, 3) := by decide +kernel
theorem dX6_init_87 : decode cX6_init 87 = .ok (.dup, 1) := by decide +kernel
theorem dX6_init_88 : decode cX6_init 88 = .ok (.invokespecial 48, 3) := by decide +kernel
theorem dX6_init_91 : decode cX6_init 91 = .ok (.putfield 49, 3) := by decide +kernel
theorem dX6_init_94 : decode cX6_init 94 = .ok (.aload_n 0, 1) := by decide +kernel
theorem dX6_init_95 : decode cX6_init 95 = .ok (.invokevirtual 53, 3) := by decide +kernel
theorem dX6_init_98 : decode cX6_init 98 = .ok (.return_, 1) := by decide +kernel
theorem dX6_readFrom_0 : decode cX6_readFrom 0 = .ok (.aload_n 0, 1) := by decide +kernel
theorem dX6_readFrom_1 : decode cX6_readFrom 1 = .ok (.invokevirtual 56, 3) := by decide +kernel
theorem dX6_readFrom_4 : decode cX6_readFrom 4 = .ok (.aload_n 1, 1) := by decide +kernel
theorem dX6_readFrom_5 : decode cX6_readFrom 5 = .ok (.invokevirtual 59, 3) := by decide +kernel
theorem dX6_readFrom_8 : decode cX6_readFrom 8 = .ok (.iconst 0, 1) := by decide +kernel
theorem dX6_readFrom_9 : decode cX6_readFrom 9 = .ok (.istore_n 2, 1) := by decide +kernel
theorem dX6_readFrom_10 : decode cX6_readFrom 10 = .ok (.iload_n 2, 1) := by decide +kernel
theorem dX6_readFrom_11 : decode cX6_readFrom 11 = .ok (.sipush 1000, 3) := by decide +kernel
theorem dX6_readFrom_14 : decode cX6_readFrom 14 = .ok (.if_icmp .ge 143, 3) := by decide +kernel
theorem dX6_readFrom_17 : decode cX6_readFrom 17 = .ok (.aload_n 1, 1) := by decide +kernel
theorem dX6_readFrom_18 : decode cX6_readFrom 18 = .ok (.invokevirtual 64, 3) := by decide +kernel
theorem dX6_readFrom_21 : decode cX6_readFrom 21 = .ok (.ifCond .ne 136, 3) := by decide +kernel
theorem dX6_readFrom_24 : decode cX6_readFrom 24 = .ok (.aload_n 1, 1) := by decide +kernel
theorem dX6_readFrom_25 : decode cX6_readFrom 25 = .ok (.getfield 68, 3) := by decide +kernel
theorem dX6_readFrom_28 : decode cX6_readFrom 28 = .ok (.tableswitch 112 128 137 #[56, 112, 112, 112, 64, 72, 80, 88, 96, 104], 56) := by decide +kernel
theorem dX6_readFrom_84 : decode cX6_readFrom 84 = .ok (.aload_n 0, 1) := by decide +kernel
theorem dX6_readFrom_85 : decode cX6_readFrom 85 = .ok (.aload_n 1, 1) := by decide +kernel
theorem dX6_readFrom_86 : decode cX6_readFrom 86 = .ok (.invokevirtual 72, 3) := by decide +kernel
theorem dX6_readFrom_89 : decode cX6_readFrom 89 = .ok (.goto 56, 3) := by decide +kernel
theorem dX6_readFrom_92 : decode cX6_readFrom 92 = .ok (.aload_n 0, 1) := by decide +kernel
theorem dX6_readFrom_93 : decode cX6_readFrom 93 = .ok (.aload_n 1, 1) := by decide +kernel
theorem dX6_readFrom_94 : decode cX6_readFrom 94 = .ok (.invokevirtual 76, 3) := by decide +kernel
theorem dX6_readFrom_97 : decode cX6_readFrom 97 = .ok (.goto 48, 3) := by decide +kernel
theorem dX6_readFrom_100 : decode cX6_readFrom 100 = .ok (.aload_n 0, 1) := by decide +kernel
theorem dX6_readFrom_101 : decode cX6_readFrom 101 = .ok (.aload_n 1, 1) := by decide +kernel
theorem dX6_readFrom_102 : decode cX6_readFrom 102 = .ok (.invokevirtual 79, 3) := by decide +kernel
theorem dX6_readFrom_105 : decode cX6_readFrom 105 = .ok (.goto 40, 3) := by decide +kernel
theorem dX6_readFrom_108 : decode cX6_readFrom 108 = .ok (.aload_n 0, 1) := by decide +kernel
theorem dX6_readFrom_109 : decode cX6_readFrom 109 = .ok (.aload_n 1, 1) := by decide +kernel
theorem dX6_readFrom_110 : decode cX6_readFrom 110 = .ok (.invokevirtual 82, 3) := by decide +kernel
theorem dX6_readFrom_113 : decode cX6_readFrom 113 = .ok (.goto 32, 3) := by decide +kernel
theorem dX6_readFrom_116 : decode cX6_readFrom 116 = .ok (.aload_n 0, 1) := by decide +kernel
theorem dX6_readFrom_117 : decode cX6_readFrom 117 = .ok (.aload_n 1, 1) := by decide +kernel
theorem dX6_readFrom_118 : decode cX6_readFrom 118 = .ok (.invokevirtual 85, 3) := by decide +kernel
theorem dX6_readFrom_121 : decode cX6_readFrom 121 = .ok (.goto 24, 3) := by decide +kernel
theorem dX6_readFrom_124 : decode cX6_readFrom 124 = .ok (.aload_n 0, 1) := by decide +kernel
theorem dX6_readFrom_125 : decode cX6_readFrom 125 = .ok (.aload_n 1, 1) := by decide +kernel
theorem dX6_readFrom_126 : decode cX6_readFrom 126 = .ok (.invokevirtual 88, 3) := by decide +kernel
theorem dX6_readFrom_129 : decode cX6_readFrom 129 = .ok (.goto 16, 3) := by decide +kernel
theorem dX6_readFrom_132 : decode cX6_readFrom 132 = .ok (.aload_n 0, 1) := by decide +kernel
theorem dX6_readFrom_133 : decode cX6_readFrom 133 = .ok (.aload_n 1, 1) := by decide +kernel
theorem dX6_readFrom_134 : decode cX6_readFrom 134 = .ok (.invokevirtual 91, 3) := by decide +kernel
theorem dX6_readFrom_137 : decode cX6_readFrom 137 = .ok (.goto 8, 3) := by decide +kernel
theorem dX6_readFrom_140 : decode cX6_readFrom 140 = .ok (.aload_n 1, 1) := by decide +kernel
theorem dX6_readFrom_141 : decode cX6_readFrom 141 = .ok (.iconst 1, 1) := by decide +kernel
theorem dX6_readFrom_142 : decode cX6_readFrom 142 = .ok (.invokevirtual 94, 3) := by decide +kernel
theorem dX6_readFrom_145 : decode cX6_readFrom 145 = .ok (.aload_n 1, 1) := by decide +kernel
theorem dX6_readFrom_146 : decode cX6_readFrom 146 = .ok (.bipush 59, 2) := by decide +kernel
theorem dX6_readFrom_148 : decode cX6_readFrom 148 = .ok (.invokevirtual 98, 3) := by decide +kernel
theorem dX6_readFrom_151 : decode cX6_readFrom 151 = .ok (.iinc 2 1, 3) := by decide +kernel
theorem dX6_readFrom_154 : decode cX6_readFrom 154 = .ok (.goto (-144), 3) := by decide +kernel
theorem dX6_readFrom_157 : decode cX6_readFrom 157 = .ok (.aload_n 1, 1) := by decide +kernel
theorem dX6_readFrom_158 : decode cX6_readFrom 158 = .ok (.iconst 0, 1) := by decide +kernel
theorem dX6_readFrom_159 : decode cX6_readFrom 159 = .ok (.putfield 101, 3) := by decide +kernel
theorem dX6_readFrom_162 : decode cX6_readFrom 162 = .ok (.aload_n 0, 1) := by decide +kernel
theorem dX6_readFrom_163 : decode cX6_readFrom 163 = .ok (.invokevirtual 53, 3) := by decide +kernel
theorem dX6_readFrom_166 : decode cX6_readFrom 166 = .ok (.aload_n 1, 1) := by decide +kernel
theorem dX6_readFrom_167 : decode cX6_readFrom 167 = .ok (.getfield 104, 3) := by decide +kernel
theorem dX6_readFrom_170 : decode cX6_readFrom 170 = .ok (.ireturn, 1) := by decide +kernel
theorem dX6_clear_0 : decode cX6_clear 0 = .ok (.iconst 0, 1) := by decide +kernel
theorem dX6_clear_1 : decode cX6_clear 1 = .ok (.istore_n 1, 1) := by decide +kernel
theorem dX6_clear_2 : decode cX6_clear 2 = .ok (.iload_n 1, 1) := by decide +kernel
theorem dX6_clear_3 : decode cX6_clear 3 = .ok (.iconst 5, 1) := by decide +kernel
theorem dX6_clear_4 : decode cX6_clear 4 = .ok (.if_icmp .ge 16, 3) := by decide +kernel
theorem dX6_clear_7 : decode cX6_clear 7 = .ok (.aload_n 0, 1) := by decide +kernel
theorem dX6_clear_8 : decode cX6_clear 8 = .ok (.getfield 34, 3) := by decide +kernel
theorem dX6_clear_11 : decode cX6_clear 11 = .ok (.iload_n 1, 1) := by decide +kernel
theorem dX6_clear_12 : decode cX6_clear 12 = .ok (.iconst 0, 1) := by decide +kernel
theorem dX6_clear_13 : decode cX6_clear 13 = .ok (.iastore, 1) := by decide +kernel
theorem dX6_clear_14 : decode cX6_clear 14 = .ok (.iinc 1 1, 3) := by decide +kernel
theorem dX6_clear_17 : decode cX6_clear 17 = .ok (.goto (-15), 3) := by decide +kernel
theorem dX6_clear_20 : decode cX6_clear 20 = .ok (.iconst 0, 1) := by decide +kernel
theorem dX6_clear_21 : decode cX6_clear 21 = .ok (.istore_n 1, 1) := by decide +kernel
theorem dX6_clear_22 : decode cX6_clear 22 = .ok (.iload_n 1, 1) := by decide +kernel
theorem dX6_clear_23 : decode cX6_clear 23 = .ok (.bipush 9, 2) := by decide +kernel
theorem dX6_clear_25 : decode cX6_clear 25 = .ok (.if_icmp .gt 16, 3) := by decide +kernel
theorem dX6_clear_28 : decode cX6_clear 28 = .ok (.aload_n 0, 1) := by decide +kernel
theorem dX6_clear_29 : decode cX6_clear 29 = .ok (.getfield 18, 3) := by decide +kernel
theorem dX6_clear_32 : decode cX6_clear 32 = .ok (.iload_n 1, 1) := by decide +kernel
theorem dX6_clear_33 : decode cX6_clear 33 = .ok (.iconst 0, 1) := by decide +kernel
theorem dX6_clear_34 : decode cX6_clear 34 = .ok (.iastore, 1) := by decide +kernel
theorem dX6_clear_35 : decode cX6_clear 35 = .ok (.iinc 1 1, 3) := by decide +kernel
theorem dX6_clear_38 : decode cX6_clear 38 = .ok (.goto (-16), 3) := by decide +kernel
theorem dX6_clear_41 : decode cX6_clear 41 = .ok (.aload_n 0, 1) := by decide +kernel
theorem dX6_clear_42 : decode cX6_clear 42 = .ok (.iconst 0, 1) := by decide +kernel
theorem dX6_clear_43 : decode cX6_clear 43 = .ok (.putfield 107, 3) := by decide +kernel
theorem dX6_clear_46 : decode cX6_clear 46 = .ok (.aload_n 0, 1) := by decide +kernel
theorem dX6_clear_47 : decode cX6_clear 47 = .ok (.iconst 0, 1) := by decide +kernel
theorem dX6_clear_48 : decode cX6_clear 48 = .ok (.putfield 110, 3) := by decide +kernel
theorem dX6_clear_51 : decode cX6_clear 51 = .ok (.aload_n 0, 1) := by decide +kernel
theorem dX6_clear_52 : decode cX6_clear 52 = .ok (.iconst 0, 1) := by decide +kernel
theorem dX6_clear_53 : decode cX6_clear 53 = .ok (.putfield 113, 3) := by decide +kernel
theorem dX6_clear_56 : decode cX6_clear 56 = .ok (.aload_n 0, 1) := by decide +kernel
theorem dX6_clear_57 : decode cX6_clear 57 = .ok (.iconst 0, 1) := by decide +kernel
theorem dX6_clear_58 : decode cX6_clear 58 = .ok (.putfield 116, 3) := by decide +kernel
theorem dX6_clear_61 : decode cX6_clear 61 = .ok (.aload_n 0, 1) := by decide +kernel
theorem dX6_clear_62 : decode cX6_clear 62 = .ok (.getfield 49, 3) := by decide +kernel
theorem dX6_clear_65 : decode cX6_clear 65 = .ok (.iconst 0, 1) := by decide +kernel
theorem dX6_clear_66 : decode cX6_clear 66 = .ok (.putfield 119, 3) := by decide +kernel
theorem dX6_clear_69 : decode cX6_clear 69 = .ok (.return_, 1) := by decide +kernel
theorem dX6_readHole_0 : decode cX6_readHole 0 = .ok (.aload_n 0, 1) := by decide +kernel
theorem dX6_readHole_1 : decode cX6_readHole 1 = .ok (.getfield 107, 3) := by decide +kernel
theorem dX6_readHole_4 : decode cX6_readHole 4 = .ok (.iconst 5, 1) := by decide +kernel
theorem dX6_readHole_5 : decode cX6_readHole 5 = .ok (.if_icmp .lt 9, 3) := by decide +kernel
theorem dX6_readHole_8 : decode cX6_readHole 8 = .ok (.aload_n 1, 1) := by decide +kernel
theorem dX6_readHole_9 : decode cX6_readHole 9 = .ok (.iconst 5, 1) := by decide +kernel
theorem dX6_readHole_10 : decode cX6_readHole 10 = .ok (.invokevirtual 94, 3) := by decide +kernel
theorem dX6_readHole_13 : decode cX6_readHole 13 = .ok (.return_, 1) := by decide +kernel
theorem dX6_readHole_14 : decode cX6_readHole 14 = .ok (.aload_n 1, 1) := by decide +kernel
theorem dX6_readHole_15 : decode cX6_readHole 15 = .ok (.invokevirtual 120, 3) := by decide +kernel
theorem dX6_readHole_18 : decode cX6_readHole 18 = .ok (.aload_n 0, 1) := by decide +kernel
theorem dX6_readHole_19 : decode cX6_readHole 19 = .ok (.getfield 9, 3) := by decide +kernel
theorem dX6_readHole_22 : decode cX6_readHole 22 = .ok (.aload_n 0, 1) := by decide +kernel
theorem dX6_readHole_23 : decode cX6_readHole 23 = .ok (.getfield 107, 3) := by decide +kernel
theorem dX6_readHole_26 : decode cX6_readHole 26 = .ok (.aload_n 0, 1) := by decide +kernel
theorem dX6_readHole_27 : decode cX6_readHole 27 = .ok (.aload_n 1, 1) := by decide +kernel
theorem dX6_readHole_28 : decode cX6_readHole 28 = .ok (.invokevirtual 123, 3) := by decide +kernel
theorem dX6_readHole_31 : decode cX6_readHole 31 = .ok (.lastore, 1) := by decide +kernel
theorem dX6_readHole_32 : decode cX6_readHole 32 = .ok (.aload_n 1, 1) := by decide +kernel
theorem dX6_readHole_33 : decode cX6_readHole 33 = .ok (.sipush 129, 3) := by decide +kernel
theorem dX6_readHole_36 : decode cX6_readHole 36 = .ok (.invokevirtual 98, 3) := by decide +kernel
theorem dX6_readHole_39 : decode cX6_readHole 39 = .ok (.aload_n 0, 1) := by decide +kernel
theorem dX6_readHole_40 : decode cX6_readHole 40 = .ok (.getfield 25, 3) := by decide +kernel
theorem dX6_readHole_43 : decode cX6_readHole 43 = .ok (.aload_n 0, 1) := by decide +kernel
theorem dX6_readHole_44 : decode cX6_readHole 44 = .ok (.getfield 107, 3) := by decide +kernel
theorem dX6_readHole_47 : decode cX6_readHole 47 = .ok (.aload_n 1, 1) := by decide +kernel
theorem dX6_readHole_48 : decode cX6_readHole 48 = .ok (.iconst 0, 1) := by decide +kernel
theorem dX6_readHole_49 : decode cX6_readHole 49 = .ok (.bipush 9, 2) := by decide +kernel
theorem dX6_readHole_51 : decode cX6_readHole 51 = .ok (.invokevirtual 127, 3) := by decide +kernel
theorem dX6_readHole_54 : decode cX6_readHole 54 = .ok (.iastore, 1) := by decide +kernel
theorem dX6_readHole_55 : decode cX6_readHole 55 = .ok (.aload_n 1, 1) := by decide +kernel
theorem dX6_readHole_56 : decode cX6_readHole 56 = .ok (.sipush 130, 3) := by decide +kernel
theorem dX6_readHole_59 : decode cX6_readHole 59 = .ok (.invokevirtual 98, 3) := by decide +kernel
theorem dX6_readHole_62 : decode cX6_readHole 62 = .ok (.aload_n 0, 1) := by decide +kernel
theorem dX6_readHole_63 : decode cX6_readHole 63 = .ok (.getfield 28, 3) := by decide +kernel
theorem dX6_readHole_66 : decode cX6_readHole 66 = .ok (.aload_n 0, 1) := by decide +kernel
theorem dX6_readHole_67 : decode cX6_readHole 67 = .ok (.getfield 107, 3) := by decide +kernel
theorem dX6_readHole_70 : decode cX6_readHole 70 = .ok (.aload_n 1, 1) := by decide +kernel
theorem dX6_readHole_71 : decode cX6_readHole 71 = .ok (.iconst 0, 1) := by decide +kernel
theorem dX6_readHole_72 : decode cX6_readHole 72 = .ok (.bipush 60, 2) := by decide +kernel
theorem dX6_readHole_74 : decode cX6_readHole 74 = .ok (.invokevirtual 127, 3) := by decide +kernel
theorem dX6_readHole_77 : decode cX6_readHole 77 = .ok (.iastore, 1) := by decide +kernel
theorem dX6_readHole_78 : decode cX6_readHole 78 = .ok (.aload_n 1, 1) := by decide +kernel
theorem dX6_readHole_79 : decode cX6_readHole 79 = .ok (.sipush 131, 3) := by decide +kernel
theorem dX6_readHole_82 : decode cX6_readHole 82 = .ok (.invokevirtual 98, 3) := by decide +kernel
theorem dX6_readHole_85 : decode cX6_readHole 85 = .ok (.aload_n 0, 1) := by decide +kernel
theorem dX6_readHole_86 : decode cX6_readHole 86 = .ok (.getfield 31, 3) := by decide +kernel
theorem dX6_readHole_89 : decode cX6_readHole 89 = .ok (.aload_n 0, 1) := by decide +kernel
theorem dX6_readHole_90 : decode cX6_readHole 90 = .ok (.getfield 107, 3) := by decide +kernel
theorem dX6_readHole_93 : decode cX6_readHole 93 = .ok (.aload_n 1, 1) := by decide +kernel
theorem dX6_readHole_94 : decode cX6_readHole 94 = .ok (.iconst 0, 1) := by decide +kernel
theorem dX6_readHole_95 : decode cX6_readHole 95 = .ok (.bipush 9, 2) := by decide +kernel
theorem dX6_readHole_97 : decode cX6_readHole 97 = .ok (.invokevirtual 127, 3) := by decide +kernel
theorem dX6_readHole_100 : decode cX6_readHole 100 = .ok (.iastore, 1) := by decide +kernel
theorem dX6_readHole_101 : decode cX6_readHole 101 = .ok (.aload_n 0, 1) := by decide +kernel
theorem dX6_readHole_102 : decode cX6_readHole 102 = .ok (.dup, 1) := by decide +kernel
theorem dX6_readHole_103 : decode cX6_readHole 103 = .ok (.getfield 107, 3) := by decide +kernel
theorem dX6_readHole_106 : decode cX6_readHole 106 = .ok (.iconst 1, 1) := by decide +kernel
theorem dX6_readHole_107 : decode cX6_readHole 107 = .ok (.iadd, 1) := by decide +kernel
theorem dX6_readHole_108 : decode cX6_readHole 108 = .ok (.putfield 107, 3) := by decide +kernel
theorem dX6_readHole_111 : decode cX6_readHole 111 = .ok (.return_, 1) := by decide +kernel
theorem dX6_readWall_0 : decode cX6_readWall 0 = .ok (.aload_n 1, 1) := by decide +kernel
theorem dX6_readWall_1 : decode cX6_readWall 1 = .ok (.invokevirtual 120, 3) := by decide +kernel
theorem dX6_readWall_4 : decode cX6_readWall 4 = .ok (.aload_n 0, 1) := by decide +kernel
theorem dX6_readWall_5 : decode cX6_readWall 5 = .ok (.aload_n 1, 1) := by decide +kernel
theorem dX6_readWall_6 : decode cX6_readWall 6 = .ok (.invokevirtual 131, 3) := by decide +kernel
theorem dX6_readWall_9 : decode cX6_readWall 9 = .ok (.istore_n 2, 1) := by decide +kernel
theorem dX6_readWall_10 : decode cX6_readWall 10 = .ok (.aload_n 0, 1) := by decide +kernel
theorem dX6_readWall_11 : decode cX6_readWall 11 = .ok (.aload_n 1, 1) := by decide +kernel
theorem dX6_readWall_12 : decode cX6_readWall 12 = .ok (.invokevirtual 131, 3) := by decide +kernel
theorem dX6_readWall_15 : decode cX6_readWall 15 = .ok (.istore_n 3, 1) := by decide +kernel
theorem dX6_readWall_16 : decode cX6_readWall 16 = .ok (.iload_n 2, 1) := by decide +kernel
theorem dX6_readWall_17 : decode cX6_readWall 17 = .ok (.iconst (-1), 1) := by decide +kernel
theorem dX6_readWall_18 : decode cX6_readWall 18 = .ok (.if_icmp .eq 8, 3) := by decide +kernel
theorem dX6_readWall_21 : decode cX6_readWall 21 = .ok (.iload_n 3, 1) := by decide +kernel
theorem dX6_readWall_22 : decode cX6_readWall 22 = .ok (.iconst (-1), 1) := by decide +kernel
theorem dX6_readWall_23 : decode cX6_readWall 23 = .ok (.if_icmp .ne 4, 3) := by decide +kernel
theorem dX6_readWall_26 : decode cX6_readWall 26 = .ok (.return_, 1) := by decide +kernel
theorem dX6_readWall_27 : decode cX6_readWall 27 = .ok (.iload_n 2, 1) := by decide +kernel
theorem dX6_readWall_28 : decode cX6_readWall 28 = .ok (.iload_n 3, 1) := by decide +kernel
theorem dX6_readWall_29 : decode cX6_readWall 29 = .ok (.if_icmp .eq 16, 3) := by decide +kernel
theorem dX6_readWall_32 : decode cX6_readWall 32 = .ok (.aload_n 0, 1) := by decide +kernel
theorem dX6_readWall_33 : decode cX6_readWall 33 = .ok (.getfield 34, 3) := by decide +kernel
theorem dX6_readWall_36 : decode cX6_readWall 36 = .ok (.iload_n 2, 1) := by decide +kernel
theorem dX6_readWall_37 : decode cX6_readWall 37 = .ok (.iaload, 1) := by decide +kernel
theorem dX6_readWall_38 : decode cX6_readWall 38 = .ok (.iload_n 3, 1) := by decide +kernel
theorem dX6_readWall_39 : decode cX6_readWall 39 = .ok (.ishr, 1) := by decide +kernel
theorem dX6_readWall_40 : decode cX6_readWall 40 = .ok (.iconst 1, 1) := by decide +kernel
theorem dX6_readWall_41 : decode cX6_readWall 41 = .ok (.iand, 1) := by decide +kernel
theorem dX6_readWall_42 : decode cX6_readWall 42 = .ok (.ifCond .eq 8, 3) := by decide +kernel
theorem dX6_readWall_45 : decode cX6_readWall 45 = .ok (.aload_n 1, 1) := by decide +kernel
theorem dX6_readWall_46 : decode cX6_readWall 46 = .ok (.iconst 3, 1) := by decide +kernel
theorem dX6_readWall_47 : decode cX6_readWall 47 = .ok (.invokevirtual 135, 3) := by decide +kernel
theorem dX6_readWall_50 : decode cX6_readWall 50 = .ok (.aload_n 0, 1) := by decide +kernel
theorem dX6_readWall_51 : decode cX6_readWall 51 = .ok (.getfield 34, 3) := by decide +kernel
theorem dX6_readWall_54 : decode cX6_readWall 54 = .ok (.iload_n 2, 1) := by decide +kernel
theorem dX6_readWall_55 : decode cX6_readWall 55 = .ok (.dup2, 1) := by decide +kernel
theorem dX6_readWall_56 : decode cX6_readWall 56 = .ok (.iaload, 1) := by decide +kernel
theorem dX6_readWall_57 : decode cX6_readWall 57 = .ok (.iconst 1, 1) := by decide +kernel
theorem dX6_readWall_58 : decode cX6_readWall 58 = .ok (.iload_n 3, 1) := by decide +kernel
theorem dX6_readWall_59 : decode cX6_readWall 59 = .ok (.ishl, 1) := by decide +kernel
theorem dX6_readWall_60 : decode cX6_readWall 60 = .ok (.ior, 1) := by decide +kernel
theorem dX6_readWall_61 : decode cX6_readWall 61 = .ok (.iastore, 1) := by decide +kernel
theorem dX6_readWall_62 : decode cX6_readWall 62 = .ok (.aload_n 0, 1) := by decide +kernel
theorem dX6_readWall_63 : decode cX6_readWall 63 = .ok (.getfield 34, 3) := by decide +kernel
theorem dX6_readWall_66 : decode cX6_readWall 66 = .ok (.iload_n 3, 1) := by decide +kernel
theorem dX6_readWall_67 : decode cX6_readWall 67 = .ok (.dup2, 1) := by decide +kernel
theorem dX6_readWall_68 : decode cX6_readWall 68 = .ok (.iaload, 1) := by decide +kernel
theorem dX6_readWall_69 : decode cX6_readWall 69 = .ok (.iconst 1, 1) := by decide +kernel
theorem dX6_readWall_70 : decode cX6_readWall 70 = .ok (.iload_n 2, 1) := by decide +kernel
theorem dX6_readWall_71 : decode cX6_readWall 71 = .ok (.ishl, 1) := by decide +kernel
theorem dX6_readWall_72 : decode cX6_readWall 72 = .ok (.ior, 1) := by decide +kernel
theorem dX6_readWall_73 : decode cX6_readWall 73 = .ok (.iastore, 1) := by decide +kernel
theorem dX6_readWall_74 : decode cX6_readWall 74 = .ok (.return_, 1) := by decide +kernel
theorem dX6_readGuest_0 : decode cX6_readGuest 0 = .ok (.aload_n 0, 1) := by decide +kernel
theorem dX6_readGuest_1 : decode cX6_readGuest 1 = .ok (.getfield 110, 3) := by decide +kernel
theorem dX6_readGuest_4 : decode cX6_readGuest 4 = .ok (.iconst 5, 1) := by decide +kernel
theorem dX6_readGuest_5 : decode cX6_readGuest 5 = .ok (.if_icmp .lt 9, 3) := by decide +kernel
theorem dX6_readGuest_8 : decode cX6_readGuest 8 = .ok (.aload_n 1, 1) := by decide +kernel
theorem dX6_readGuest_9 : decode cX6_readGuest 9 = .ok (.iconst 5, 1) := by decide +kernel
theorem dX6_readGuest_10 : decode cX6_readGuest 10 = .ok (.invokevirtual 94, 3) := by decide +kernel
theorem dX6_readGuest_13 : decode cX6_readGuest 13 = .ok (.return_, 1) := by decide +kernel
theorem dX6_readGuest_14 : decode cX6_readGuest 14 = .ok (.aload_n 1, 1) := by decide +kernel
theorem dX6_readGuest_15 : decode cX6_readGuest 15 = .ok (.invokevirtual 120, 3) := by decide +kernel
theorem dX6_readGuest_18 : decode cX6_readGuest 18 = .ok (.aload_n 0, 1) := by decide +kernel
theorem dX6_readGuest_19 : decode cX6_readGuest 19 = .ok (.getfield 15, 3) := by decide +kernel
theorem dX6_readGuest_22 : decode cX6_readGuest 22 = .ok (.aload_n 0, 1) := by decide +kernel
theorem dX6_readGuest_23 : decode cX6_readGuest 23 = .ok (.getfield 110, 3) := by decide +kernel
theorem dX6_readGuest_26 : decode cX6_readGuest 26 = .ok (.aload_n 0, 1) := by decide +kernel
theorem dX6_readGuest_27 : decode cX6_readGuest 27 = .ok (.aload_n 1, 1) := by decide +kernel
theorem dX6_readGuest_28 : decode cX6_readGuest 28 = .ok (.invokevirtual 123, 3) := by decide +kernel
theorem dX6_readGuest_31 : decode cX6_readGuest 31 = .ok (.lastore, 1) := by decide +kernel
theorem dX6_readGuest_32 : decode cX6_readGuest 32 = .ok (.aload_n 0, 1) := by decide +kernel
theorem dX6_readGuest_33 : decode cX6_readGuest 33 = .ok (.getfield 37, 3) := by decide +kernel
theorem dX6_readGuest_36 : decode cX6_readGuest 36 = .ok (.aload_n 0, 1) := by decide +kernel
theorem dX6_readGuest_37 : decode cX6_readGuest 37 = .ok (.getfield 110, 3) := by decide +kernel
theorem dX6_readGuest_40 : decode cX6_readGuest 40 = .ok (.aload_n 1, 1) := by decide +kernel
theorem dX6_readGuest_41 : decode cX6_readGuest 41 = .ok (.getfield 68, 3) := by decide +kernel
theorem dX6_readGuest_44 : decode cX6_readGuest 44 = .ok (.iastore, 1) := by decide +kernel
theorem dX6_readGuest_45 : decode cX6_readGuest 45 = .ok (.aload_n 1, 1) := by decide +kernel
theorem dX6_readGuest_46 : decode cX6_readGuest 46 = .ok (.aload_n 1, 1) := by decide +kernel
theorem dX6_readGuest_47 : decode cX6_readGuest 47 = .ok (.getfield 68, 3) := by decide +kernel
theorem dX6_readGuest_50 : decode cX6_readGuest 50 = .ok (.sipush 143, 3) := by decide +kernel
theorem dX6_readGuest_53 : decode cX6_readGuest 53 = .ok (.sipush 146, 3) := by decide +kernel
theorem dX6_readGuest_56 : decode cX6_readGuest 56 = .ok (.invokestatic 138, 3) := by decide +kernel
theorem dX6_readGuest_59 : decode cX6_readGuest 59 = .ok (.ifCond .eq 10, 3) := by decide +kernel
theorem dX6_readGuest_62 : decode cX6_readGuest 62 = .ok (.aload_n 1, 1) := by decide +kernel
theorem dX6_readGuest_63 : decode cX6_readGuest 63 = .ok (.getfield 68, 3) := by decide +kernel
theorem dX6_readGuest_66 : decode cX6_readGuest 66 = .ok (.goto 6, 3) := by decide +kernel
theorem dX6_readGuest_69 : decode cX6_readGuest 69 = .ok (.sipush 143, 3) := by decide +kernel
theorem dX6_readGuest_72 : decode cX6_readGuest 72 = .ok (.invokevirtual 98, 3) := by decide +kernel
theorem dX6_readGuest_75 : decode cX6_readGuest 75 = .ok (.aload_n 1, 1) := by decide +kernel
theorem dX6_readGuest_76 : decode cX6_readGuest 76 = .ok (.sipush 129, 3) := by decide +kernel
theorem dX6_readGuest_79 : decode cX6_readGuest 79 = .ok (.invokevirtual 98, 3) := by decide +kernel
theorem dX6_readGuest_82 : decode cX6_readGuest 82 = .ok (.aload_n 0, 1) := by decide +kernel
theorem dX6_readGuest_83 : decode cX6_readGuest 83 = .ok (.getfield 40, 3) := by decide +kernel
theorem dX6_readGuest_86 : decode cX6_readGuest 86 = .ok (.aload_n 0, 1) := by decide +kernel
theorem dX6_readGuest_87 : decode cX6_readGuest 87 = .ok (.getfield 110, 3) := by decide +kernel
theorem dX6_readGuest_90 : decode cX6_readGuest 90 = .ok (.aload_n 1, 1) := by decide +kernel
theorem dX6_readGuest_91 : decode cX6_readGuest 91 = .ok (.iconst 0, 1) := by decide +kernel
theorem dX6_readGuest_92 : decode cX6_readGuest 92 = .ok (.bipush 9, 2) := by decide +kernel
theorem dX6_readGuest_94 : decode cX6_readGuest 94 = .ok (.invokevirtual 127, 3) := by decide +kernel
theorem dX6_readGuest_97 : decode cX6_readGuest 97 = .ok (.iastore, 1) := by decide +kernel
theorem dX6_readGuest_98 : decode cX6_readGuest 98 = .ok (.aload_n 0, 1) := by decide +kernel
theorem dX6_readGuest_99 : decode cX6_readGuest 99 = .ok (.dup, 1) := by decide +kernel
theorem dX6_readGuest_100 : decode cX6_readGuest 100 = .ok (.getfield 110, 3) := by decide +kernel
theorem dX6_readGuest_103 : decode cX6_readGuest 103 = .ok (.iconst 1, 1) := by decide +kernel
theorem dX6_readGuest_104 : decode cX6_readGuest 104 = .ok (.iadd, 1) := by decide +kernel
theorem dX6_readGuest_105 : decode cX6_readGuest 105 = .ok (.putfield 110, 3) := by decide +kernel
theorem dX6_readGuest_108 : decode cX6_readGuest 108 = .ok (.return_, 1) := by decide +kernel
theorem dX6_readWar_0 : decode cX6_readWar 0 = .ok (.aload_n 1, 1) := by decide +kernel
theorem dX6_readWar_1 : decode cX6_readWar 1 = .ok (.invokevirtual 120, 3) := by decide +kernel
theorem dX6_readWar_4 : decode cX6_readWar 4 = .ok (.aload_n 1, 1) := by decide +kernel
theorem dX6_readWar_5 : decode cX6_readWar 5 = .ok (.iconst 0, 1) := by decide +kernel
theorem dX6_readWar_6 : decode cX6_readWar 6 = .ok (.bipush 9, 2) := by decide +kernel
theorem dX6_readWar_8 : decode cX6_readWar 8 = .ok (.invokevirtual 127, 3) := by decide +kernel
theorem dX6_readWar_11 : decode cX6_readWar 11 = .ok (.istore_n 2, 1) := by decide +kernel
theorem dX6_readWar_12 : decode cX6_readWar 12 = .ok (.aload_n 1, 1) := by decide +kernel
theorem dX6_readWar_13 : decode cX6_readWar 13 = .ok (.iconst 0, 1) := by decide +kernel
theorem dX6_readWar_14 : decode cX6_readWar 14 = .ok (.bipush 9, 2) := by decide +kernel
theorem dX6_readWar_16 : decode cX6_readWar 16 = .ok (.invokevirtual 127, 3) := by decide +kernel
theorem dX6_readWar_19 : decode cX6_readWar 19 = .ok (.istore_n 3, 1) := by decide +kernel
theorem dX6_readWar_20 : decode cX6_readWar 20 = .ok (.iload_n 2, 1) := by decide +kernel
theorem dX6_readWar_21 : decode cX6_readWar 21 = .ok (.iload_n 3, 1) := by decide +kernel
theorem dX6_readWar_22 : decode cX6_readWar 22 = .ok (.if_icmp .eq 16, 3) := by decide +kernel
theorem dX6_readWar_25 : decode cX6_readWar 25 = .ok (.aload_n 0, 1) := by decide +kernel
theorem dX6_readWar_26 : decode cX6_readWar 26 = .ok (.getfield 18, 3) := by decide +kernel
theorem dX6_readWar_29 : decode cX6_readWar 29 = .ok (.iload_n 2, 1) := by decide +kernel
theorem dX6_readWar_30 : decode cX6_readWar 30 = .ok (.iaload, 1) := by decide +kernel
theorem dX6_readWar_31 : decode cX6_readWar 31 = .ok (.iload_n 3, 1) := by decide +kernel
theorem dX6_readWar_32 : decode cX6_readWar 32 = .ok (.ishr, 1) := by decide +kernel
theorem dX6_readWar_33 : decode cX6_readWar 33 = .ok (.iconst 1, 1) := by decide +kernel
theorem dX6_readWar_34 : decode cX6_readWar 34 = .ok (.iand, 1) := by decide +kernel
theorem dX6_readWar_35 : decode cX6_readWar 35 = .ok (.ifCond .eq 8, 3) := by decide +kernel
theorem dX6_readWar_38 : decode cX6_readWar 38 = .ok (.aload_n 1, 1) := by decide +kernel
theorem dX6_readWar_39 : decode cX6_readWar 39 = .ok (.iconst 3, 1) := by decide +kernel
theorem dX6_readWar_40 : decode cX6_readWar 40 = .ok (.invokevirtual 135, 3) := by decide +kernel
theorem dX6_readWar_43 : decode cX6_readWar 43 = .ok (.aload_n 0, 1) := by decide +kernel
theorem dX6_readWar_44 : decode cX6_readWar 44 = .ok (.getfield 18, 3) := by decide +kernel
theorem dX6_readWar_47 : decode cX6_readWar 47 = .ok (.iload_n 2, 1) := by decide +kernel
theorem dX6_readWar_48 : decode cX6_readWar 48 = .ok (.dup2, 1) := by decide +kernel
theorem dX6_readWar_49 : decode cX6_readWar 49 = .ok (.iaload, 1) := by decide +kernel
theorem dX6_readWar_50 : decode cX6_readWar 50 = .ok (.iconst 1, 1) := by decide +kernel
theorem dX6_readWar_51 : decode cX6_readWar 51 = .ok (.iload_n 3, 1) := by decide +kernel
theorem dX6_readWar_52 : decode cX6_readWar 52 = .ok (.ishl, 1) := by decide +kernel
theorem dX6_readWar_53 : decode cX6_readWar 53 = .ok (.ior, 1) := by decide +kernel
theorem dX6_readWar_54 : decode cX6_readWar 54 = .ok (.iastore, 1) := by decide +kernel
theorem dX6_readWar_55 : decode cX6_readWar 55 = .ok (.aload_n 0, 1) := by decide +kernel
theorem dX6_readWar_56 : decode cX6_readWar 56 = .ok (.getfield 18, 3) := by decide +kernel
theorem dX6_readWar_59 : decode cX6_readWar 59 = .ok (.iload_n 3, 1) := by decide +kernel
theorem dX6_readWar_60 : decode cX6_readWar 60 = .ok (.dup2, 1) := by decide +kernel
theorem dX6_readWar_61 : decode cX6_readWar 61 = .ok (.iaload, 1) := by decide +kernel
theorem dX6_readWar_62 : decode cX6_readWar 62 = .ok (.iconst 1, 1) := by decide +kernel
theorem dX6_readWar_63 : decode cX6_readWar 63 = .ok (.iload_n 2, 1) := by decide +kernel
theorem dX6_readWar_64 : decode cX6_readWar 64 = .ok (.ishl, 1) := by decide +kernel
theorem dX6_readWar_65 : decode cX6_readWar 65 = .ok (.ior, 1) := by decide +kernel
theorem dX6_readWar_66 : decode cX6_readWar 66 = .ok (.iastore, 1) := by decide +kernel
theorem dX6_readWar_67 : decode cX6_readWar 67 = .ok (.return_, 1) := by decide +kernel
theorem dX6_readCold_0 : decode cX6_readCold 0 = .ok (.aload_n 0, 1) := by decide +kernel
theorem dX6_readCold_1 : decode cX6_readCold 1 = .ok (.getfield 113, 3) := by decide +kernel
theorem dX6_readCold_4 : decode cX6_readCold 4 = .ok (.ifCond .le 9, 3) := by decide +kernel
theorem dX6_readCold_7 : decode cX6_readCold 7 = .ok (.aload_n 1, 1) := by decide +kernel
theorem dX6_readCold_8 : decode cX6_readCold 8 = .ok (.iconst 3, 1) := by decide +kernel
theorem dX6_readCold_9 : decode cX6_readCold 9 = .ok (.invokevirtual 94, 3) := by decide +kernel
theorem dX6_readCold_12 : decode cX6_readCold 12 = .ok (.return_, 1) := by decide +kernel
theorem dX6_readCold_13 : decode cX6_readCold 13 = .ok (.aload_n 1, 1) := by decide +kernel
theorem dX6_readCold_14 : decode cX6_readCold 14 = .ok (.invokevirtual 120, 3) := by decide +kernel
theorem dX6_readCold_17 : decode cX6_readCold 17 = .ok (.iconst 0, 1) := by decide +kernel
theorem dX6_readCold_18 : decode cX6_readCold 18 = .ok (.istore_n 2, 1) := by decide +kernel
theorem dX6_readCold_19 : decode cX6_readCold 19 = .ok (.iload_n 2, 1) := by decide +kernel
theorem dX6_readCold_20 : decode cX6_readCold 20 = .ok (.bipush 12, 2) := by decide +kernel
theorem dX6_readCold_22 : decode cX6_readCold 22 = .ok (.if_icmp .gt 56, 3) := by decide +kernel
theorem dX6_readCold_25 : decode cX6_readCold 25 = .ok (.iload_n 2, 1) := by decide +kernel
theorem dX6_readCold_26 : decode cX6_readCold 26 = .ok (.ifCond .eq 11, 3) := by decide +kernel
theorem dX6_readCold_29 : decode cX6_readCold 29 = .ok (.aload_n 1, 1) := by decide +kernel
theorem dX6_readCold_30 : decode cX6_readCold 30 = .ok (.getfield 68, 3) := by decide +kernel
theorem dX6_readCold_33 : decode cX6_readCold 33 = .ok (.iconst 2, 1) := by decide +kernel
theorem dX6_readCold_34 : decode cX6_readCold 34 = .ok (.if_icmp .ne 44, 3) := by decide +kernel
theorem dX6_readCold_37 : decode cX6_readCold 37 = .ok (.aload_n 1, 1) := by decide +kernel
theorem dX6_readCold_38 : decode cX6_readCold 38 = .ok (.iconst 0, 1) := by decide +kernel
theorem dX6_readCold_39 : decode cX6_readCold 39 = .ok (.iconst 3, 1) := by decide +kernel
theorem dX6_readCold_40 : decode cX6_readCold 40 = .ok (.invokevirtual 127, 3) := by decide +kernel
theorem dX6_readCold_43 : decode cX6_readCold 43 = .ok (.istore_n 3, 1) := by decide +kernel
theorem dX6_readCold_44 : decode cX6_readCold 44 = .ok (.iload_n 2, 1) := by decide +kernel
theorem dX6_readCold_45 : decode cX6_readCold 45 = .ok (.bipush 12, 2) := by decide +kernel
theorem dX6_readCold_47 : decode cX6_readCold 47 = .ok (.if_icmp .ge 20, 3) := by decide +kernel
theorem dX6_readCold_50 : decode cX6_readCold 50 = .ok (.aload_n 0, 1) := by decide +kernel
theorem dX6_readCold_51 : decode cX6_readCold 51 = .ok (.getfield 22, 3) := by decide +kernel
theorem dX6_readCold_54 : decode cX6_readCold 54 = .ok (.iload_n 2, 1) := by decide +kernel
theorem dX6_readCold_55 : decode cX6_readCold 55 = .ok (.iload_n 3, 1) := by decide +kernel
theorem dX6_readCold_56 : decode cX6_readCold 56 = .ok (.iastore, 1) := by decide +kernel
theorem dX6_readCold_57 : decode cX6_readCold 57 = .ok (.aload_n 0, 1) := by decide +kernel
theorem dX6_readCold_58 : decode cX6_readCold 58 = .ok (.iload_n 2, 1) := by decide +kernel
theorem dX6_readCold_59 : decode cX6_readCold 59 = .ok (.iconst 1, 1) := by decide +kernel
theorem dX6_readCold_60 : decode cX6_readCold 60 = .ok (.iadd, 1) := by decide +kernel
theorem dX6_readCold_61 : decode cX6_readCold 61 = .ok (.putfield 113, 3) := by decide +kernel
theorem dX6_readCold_64 : decode cX6_readCold 64 = .ok (.goto 8, 3) := by decide +kernel
theorem dX6_readCold_67 : decode cX6_readCold 67 = .ok (.aload_n 1, 1) := by decide +kernel
theorem dX6_readCold_68 : decode cX6_readCold 68 = .ok (.iconst 5, 1) := by decide +kernel
theorem dX6_readCold_69 : decode cX6_readCold 69 = .ok (.invokevirtual 135, 3) := by decide +kernel
theorem dX6_readCold_72 : decode cX6_readCold 72 = .ok (.iinc 2 1, 3) := by decide +kernel
theorem dX6_readCold_75 : decode cX6_readCold 75 = .ok (.goto (-56), 3) := by decide +kernel
theorem dX6_readCold_78 : decode cX6_readCold 78 = .ok (.return_, 1) := by decide +kernel
theorem dX6_readSack_0 : decode cX6_readSack 0 = .ok (.aload_n 0, 1) := by decide +kernel
theorem dX6_readSack_1 : decode cX6_readSack 1 = .ok (.getfield 116, 3) := by decide +kernel
theorem dX6_readSack_4 : decode cX6_readSack 4 = .ok (.ifCond .le 9, 3) := by decide +kernel
theorem dX6_readSack_7 : decode cX6_readSack 7 = .ok (.aload_n 1, 1) := by decide +kernel
theorem dX6_readSack_8 : decode cX6_readSack 8 = .ok (.iconst 3, 1) := by decide +kernel
theorem dX6_readSack_9 : decode cX6_readSack 9 = .ok (.invokevirtual 94, 3) := by decide +kernel
theorem dX6_readSack_12 : decode cX6_readSack 12 = .ok (.return_, 1) := by decide +kernel
theorem dX6_readSack_13 : decode cX6_readSack 13 = .ok (.aload_n 1, 1) := by decide +kernel
theorem dX6_readSack_14 : decode cX6_readSack 14 = .ok (.invokevirtual 120, 3) := by decide +kernel
theorem dX6_readSack_17 : decode cX6_readSack 17 = .ok (.aload_n 0, 1) := by decide +kernel
theorem dX6_readSack_18 : decode cX6_readSack 18 = .ok (.aload_n 1, 1) := by decide +kernel
theorem dX6_readSack_19 : decode cX6_readSack 19 = .ok (.iconst 1, 1) := by decide +kernel
theorem dX6_readSack_20 : decode cX6_readSack 20 = .ok (.bipush 20, 2) := by decide +kernel
theorem dX6_readSack_22 : decode cX6_readSack 22 = .ok (.invokevirtual 127, 3) := by decide +kernel
theorem dX6_readSack_25 : decode cX6_readSack 25 = .ok (.putfield 116, 3) := by decide +kernel
theorem dX6_readSack_28 : decode cX6_readSack 28 = .ok (.return_, 1) := by decide +kernel
theorem dX6_readTakes_0 : decode cX6_readTakes 0 = .ok (.aload_n 0, 1) := by decide +kernel
theorem dX6_readTakes_1 : decode cX6_readTakes 1 = .ok (.getfield 49, 3) := by decide +kernel
theorem dX6_readTakes_4 : decode cX6_readTakes 4 = .ok (.getfield 119, 3) := by decide +kernel
theorem dX6_readTakes_7 : decode cX6_readTakes 7 = .ok (.ifCond .le 9, 3) := by decide +kernel
theorem dX6_readTakes_10 : decode cX6_readTakes 10 = .ok (.aload_n 1, 1) := by decide +kernel
theorem dX6_readTakes_11 : decode cX6_readTakes 11 = .ok (.iconst 3, 1) := by decide +kernel
theorem dX6_readTakes_12 : decode cX6_readTakes 12 = .ok (.invokevirtual 94, 3) := by decide +kernel
theorem dX6_readTakes_15 : decode cX6_readTakes 15 = .ok (.return_, 1) := by decide +kernel
theorem dX6_readTakes_16 : decode cX6_readTakes 16 = .ok (.aload_n 1, 1) := by decide +kernel
theorem dX6_readTakes_17 : decode cX6_readTakes 17 = .ok (.invokevirtual 120, 3) := by decide +kernel
theorem dX6_readTakes_20 : decode cX6_readTakes 20 = .ok (.aload_n 0, 1) := by decide +kernel
theorem dX6_readTakes_21 : decode cX6_readTakes 21 = .ok (.getfield 49, 3) := by decide +kernel
theorem dX6_readTakes_24 : decode cX6_readTakes 24 = .ok (.aload_n 1, 1) := by decide +kernel
theorem dX6_readTakes_25 : decode cX6_readTakes 25 = .ok (.invokevirtual 142, 3) := by decide +kernel
theorem dX6_readTakes_28 : decode cX6_readTakes 28 = .ok (.return_, 1) := by decide +kernel
theorem dX6_readNewName_0 : decode cX6_readNewName 0 = .ok (.aload_n 1, 1) := by decide +kernel
theorem dX6_readNewName_1 : decode cX6_readNewName 1 = .ok (.invokevirtual 145, 3) := by decide +kernel
theorem dX6_readNewName_4 : decode cX6_readNewName 4 = .ok (.lstore_n 2, 1) := by decide +kernel
theorem dX6_readNewName_5 : decode cX6_readNewName 5 = .ok (.aload_n 0, 1) := by decide +kernel
theorem dX6_readNewName_6 : decode cX6_readNewName 6 = .ok (.getfield 9, 3) := by decide +kernel
theorem dX6_readNewName_9 : decode cX6_readNewName 9 = .ok (.aload_n 0, 1) := by decide +kernel
theorem dX6_readNewName_10 : decode cX6_readNewName 10 = .ok (.getfield 107, 3) := by decide +kernel
theorem dX6_readNewName_13 : decode cX6_readNewName 13 = .ok (.lload_n 2, 1) := by decide +kernel
theorem dX6_readNewName_14 : decode cX6_readNewName 14 = .ok (.invokestatic 149, 3) := by decide +kernel
theorem dX6_readNewName_17 : decode cX6_readNewName 17 = .ok (.iconst (-1), 1) := by decide +kernel
theorem dX6_readNewName_18 : decode cX6_readNewName 18 = .ok (.if_icmp .ne 19, 3) := by decide +kernel
theorem dX6_readNewName_21 : decode cX6_readNewName 21 = .ok (.aload_n 0, 1) := by decide +kernel
theorem dX6_readNewName_22 : decode cX6_readNewName 22 = .ok (.getfield 15, 3) := by decide +kernel
theorem dX6_readNewName_25 : decode cX6_readNewName 25 = .ok (.aload_n 0, 1) := by decide +kernel
theorem dX6_readNewName_26 : decode cX6_readNewName 26 = .ok (.getfield 110, 3) := by decide +kernel
theorem dX6_readNewName_29 : decode cX6_readNewName 29 = .ok (.lload_n 2, 1) := by decide +kernel
theorem dX6_readNewName_30 : decode cX6_readNewName 30 = .ok (.invokestatic 149, 3) := by decide +kernel
theorem dX6_readNewName_33 : decode cX6_readNewName 33 = .ok (.iconst (-1), 1) := by decide +kernel
theorem dX6_readNewName_34 : decode cX6_readNewName 34 = .ok (.if_icmp .eq 8, 3) := by decide +kernel
theorem dX6_readNewName_37 : decode cX6_readNewName 37 = .ok (.aload_n 1, 1) := by decide +kernel
theorem dX6_readNewName_38 : decode cX6_readNewName 38 = .ok (.iconst 3, 1) := by decide +kernel
theorem dX6_readNewName_39 : decode cX6_readNewName 39 = .ok (.invokevirtual 135, 3) := by decide +kernel
theorem dX6_readNewName_42 : decode cX6_readNewName 42 = .ok (.lload_n 2, 1) := by decide +kernel
theorem dX6_readNewName_43 : decode cX6_readNewName 43 = .ok (.lreturn, 1) := by decide +kernel
theorem dX6_readHoleName_0 : decode cX6_readHoleName 0 = .ok (.aload_n 1, 1) := by decide +kernel
theorem dX6_readHoleName_1 : decode cX6_readHoleName 1 = .ok (.aload_n 0, 1) := by decide +kernel
theorem dX6_readHoleName_2 : decode cX6_readHoleName 2 = .ok (.getfield 9, 3) := by decide +kernel
theorem dX6_readHoleName_5 : decode cX6_readHoleName 5 = .ok (.aload_n 0, 1) := by decide +kernel
theorem dX6_readHoleName_6 : decode cX6_readHoleName 6 = .ok (.getfield 107, 3) := by decide +kernel
theorem dX6_readHoleName_9 : decode cX6_readHoleName 9 = .ok (.aload_n 1, 1) := by decide +kernel
theorem dX6_readHoleName_10 : decode cX6_readHoleName 10 = .ok (.invokevirtual 145, 3) := by decide +kernel
theorem dX6_readHoleName_13 : decode cX6_readHoleName 13 = .ok (.invokestatic 149, 3) := by decide +kernel
theorem dX6_readHoleName_16 : decode cX6_readHoleName 16 = .ok (.invokestatic 153, 3) := by decide +kernel
theorem dX6_readHoleName_19 : decode cX6_readHoleName 19 = .ok (.ireturn, 1) := by decide +kernel
theorem dX6_readGuestName_0 : decode cX6_readGuestName 0 = .ok (.aload_n 1, 1) := by decide +kernel
theorem dX6_readGuestName_1 : decode cX6_readGuestName 1 = .ok (.aload_n 0, 1) := by decide +kernel
theorem dX6_readGuestName_2 : decode cX6_readGuestName 2 = .ok (.getfield 15, 3) := by decide +kernel
theorem dX6_readGuestName_5 : decode cX6_readGuestName 5 = .ok (.aload_n 0, 1) := by decide +kernel
theorem dX6_readGuestName_6 : decode cX6_readGuestName 6 = .ok (.getfield 110, 3) := by decide +kernel
theorem dX6_readGuestName_9 : decode cX6_readGuestName 9 = .ok (.aload_n 1, 1) := by decide +kernel
theorem dX6_readGuestName_10 : decode cX6_readGuestName 10 = .ok (.invokevirtual 145, 3) := by decide +kernel
theorem dX6_readGuestName_13 : decode cX6_readGuestName 13 = .ok (.invokestatic 149, 3) := by decide +kernel
theorem dX6_readGuestName_16 : decode cX6_readGuestName 16 = .ok (.invokestatic 153, 3) := by decide +kernel
theorem dX6_readGuestName_19 : decode cX6_readGuestName 19 = .ok (.ireturn, 1) := by decide +kernel
theorem dX6_known_0 : decode cX6_known 0 = .ok (.iload_n 1, 1) := by decide +kernel
theorem dX6_known_1 : decode cX6_known 1 = .ok (.iconst (-1), 1) := by decide +kernel
theorem dX6_known_2 : decode cX6_known 2 = .ok (.if_icmp .ne 8, 3) := by decide +kernel
theorem dX6_known_5 : decode cX6_known 5 = .ok (.aload_n 0, 1) := by decide +kernel
theorem dX6_known_6 : decode cX6_known 6 = .ok (.iconst 2, 1) := by decide +kernel
theorem dX6_known_7 : decode cX6_known 7 = .ok (.invokevirtual 135, 3) := by decide +kernel
theorem dX6_known_10 : decode cX6_known 10 = .ok (.iload_n 1, 1) := by decide +kernel
theorem dX6_known_11 : decode cX6_known 11 = .ok (.ireturn, 1) := by decide +kernel
theorem dX6_indexOf_0 : decode cX6_indexOf 0 = .ok (.iconst 0, 1) := by decide +kernel
theorem dX6_indexOf_1 : decode cX6_indexOf 1 = .ok (.istore 4, 2) := by decide +kernel
theorem dX6_indexOf_3 : decode cX6_indexOf 3 = .ok (.iload 4, 2) := by decide +kernel
theorem dX6_indexOf_5 : decode cX6_indexOf 5 = .ok (.iload_n 1, 1) := by decide +kernel
theorem dX6_indexOf_6 : decode cX6_indexOf 6 = .ok (.if_icmp .ge 28, 3) := by decide +kernel
theorem dX6_indexOf_9 : decode cX6_indexOf 9 = .ok (.iload 4, 2) := by decide +kernel
theorem dX6_indexOf_11 : decode cX6_indexOf 11 = .ok (.aload_n 0, 1) := by decide +kernel
theorem dX6_indexOf_12 : decode cX6_indexOf 12 = .ok (.arraylength, 1) := by decide +kernel
theorem dX6_indexOf_13 : decode cX6_indexOf 13 = .ok (.if_icmp .ge 21, 3) := by decide +kernel
theorem dX6_indexOf_16 : decode cX6_indexOf 16 = .ok (.aload_n 0, 1) := by decide +kernel
theorem dX6_indexOf_17 : decode cX6_indexOf 17 = .ok (.iload 4, 2) := by decide +kernel
theorem dX6_indexOf_19 : decode cX6_indexOf 19 = .ok (.laload, 1) := by decide +kernel
theorem dX6_indexOf_20 : decode cX6_indexOf 20 = .ok (.lload_n 2, 1) := by decide +kernel
theorem dX6_indexOf_21 : decode cX6_indexOf 21 = .ok (.lcmp, 1) := by decide +kernel
theorem dX6_indexOf_22 : decode cX6_indexOf 22 = .ok (.ifCond .ne 6, 3) := by decide +kernel
theorem dX6_indexOf_25 : decode cX6_indexOf 25 = .ok (.iload 4, 2) := by decide +kernel
theorem dX6_indexOf_27 : decode cX6_indexOf 27 = .ok (.ireturn, 1) := by decide +kernel
theorem dX6_indexOf_28 : decode cX6_indexOf 28 = .ok (.iinc 4 1, 3) := by decide +kernel
theorem dX6_indexOf_31 : decode cX6_indexOf 31 = .ok (.goto (-28), 3) := by decide +kernel
theorem dX6_indexOf_34 : decode cX6_indexOf 34 = .ok (.iconst (-1), 1) := by decide +kernel
theorem dX6_indexOf_35 : decode cX6_indexOf 35 = .ok (.ireturn, 1) := by decide +kernel
theorem dX6_settle_0 : decode cX6_settle 0 = .ok (.aload_n 0, 1) := by decide +kernel
theorem dX6_settle_1 : decode cX6_settle 1 = .ok (.getfield 116, 3) := by decide +kernel
theorem dX6_settle_4 : decode cX6_settle 4 = .ok (.ifCond .ne 8, 3) := by decide +kernel
theorem dX6_settle_7 : decode cX6_settle 7 = .ok (.aload_n 0, 1) := by decide +kernel
theorem dX6_settle_8 : decode cX6_settle 8 = .ok (.iconst 5, 1) := by decide +kernel
theorem dX6_settle_9 : decode cX6_settle 9 = .ok (.putfield 116, 3) := by decide +kernel
theorem dX6_settle_12 : decode cX6_settle 12 = .ok (.aload_n 0, 1) := by decide +kernel
theorem dX6_settle_13 : decode cX6_settle 13 = .ok (.aload_n 0, 1) := by decide +kernel
theorem dX6_settle_14 : decode cX6_settle 14 = .ok (.sipush 146, 3) := by decide +kernel
theorem dX6_settle_17 : decode cX6_settle 17 = .ok (.invokevirtual 157, 3) := by decide +kernel
theorem dX6_settle_20 : decode cX6_settle 20 = .ok (.putfield 161, 3) := by decide +kernel
theorem dX6_settle_23 : decode cX6_settle 23 = .ok (.aload_n 0, 1) := by decide +kernel
theorem dX6_settle_24 : decode cX6_settle 24 = .ok (.aload_n 0, 1) := by decide +kernel
theorem dX6_settle_25 : decode cX6_settle 25 = .ok (.sipush 144, 3) := by decide +kernel
theorem dX6_settle_28 : decode cX6_settle 28 = .ok (.invokevirtual 157, 3) := by decide +kernel
theorem dX6_settle_31 : decode cX6_settle 31 = .ok (.putfield 164, 3) := by decide +kernel
theorem dX6_settle_34 : decode cX6_settle 34 = .ok (.iconst 0, 1) := by decide +kernel
theorem dX6_settle_35 : decode cX6_settle 35 = .ok (.istore_n 1, 1) := by decide +kernel
theorem dX6_settle_36 : decode cX6_settle 36 = .ok (.iload_n 1, 1) := by decide +kernel
theorem dX6_settle_37 : decode cX6_settle 37 = .ok (.aload_n 0, 1) := by decide +kernel
theorem dX6_settle_38 : decode cX6_settle 38 = .ok (.getfield 110, 3) := by decide +kernel
theorem dX6_settle_41 : decode cX6_settle 41 = .ok (.if_icmp .ge 63, 3) := by decide +kernel
theorem dX6_settle_44 : decode cX6_settle 44 = .ok (.aload_n 0, 1) := by decide +kernel
theorem dX6_settle_45 : decode cX6_settle 45 = .ok (.getfield 43, 3) := by decide +kernel
theorem dX6_settle_48 : decode cX6_settle 48 = .ok (.iload_n 1, 1) := by decide +kernel
theorem dX6_settle_49 : decode cX6_settle 49 = .ok (.iconst 0, 1) := by decide +kernel
theorem dX6_settle_50 : decode cX6_settle 50 = .ok (.iastore, 1) := by decide +kernel
theorem dX6_settle_51 : decode cX6_settle 51 = .ok (.iconst 0, 1) := by decide +kernel
theorem dX6_settle_52 : decode cX6_settle 52 = .ok (.istore_n 2, 1) := by decide +kernel
theorem dX6_settle_53 : decode cX6_settle 53 = .ok (.iload_n 2, 1) := by decide +kernel
theorem dX6_settle_54 : decode cX6_settle 54 = .ok (.aload_n 0, 1) := by decide +kernel
theorem dX6_settle_55 : decode cX6_settle 55 = .ok (.getfield 110, 3) := by decide +kernel
theorem dX6_settle_58 : decode cX6_settle 58 = .ok (.if_icmp .ge 40, 3) := by decide +kernel
theorem dX6_settle_61 : decode cX6_settle 61 = .ok (.aload_n 0, 1) := by decide +kernel
theorem dX6_settle_62 : decode cX6_settle 62 = .ok (.getfield 43, 3) := by decide +kernel
theorem dX6_settle_65 : decode cX6_settle 65 = .ok (.iload_n 1, 1) := by decide +kernel
theorem dX6_settle_66 : decode cX6_settle 66 = .ok (.dup2, 1) := by decide +kernel
theorem dX6_settle_67 : decode cX6_settle 67 = .ok (.iaload, 1) := by decide +kernel
theorem dX6_settle_68 : decode cX6_settle 68 = .ok (.aload_n 0, 1) := by decide +kernel
theorem dX6_settle_69 : decode cX6_settle 69 = .ok (.getfield 18, 3) := by decide +kernel
theorem dX6_settle_72 : decode cX6_settle 72 = .ok (.aload_n 0, 1) := by decide +kernel
theorem dX6_settle_73 : decode cX6_settle 73 = .ok (.getfield 40, 3) := by decide +kernel
theorem dX6_settle_76 : decode cX6_settle 76 = .ok (.iload_n 1, 1) := by decide +kernel
theorem dX6_settle_77 : decode cX6_settle 77 = .ok (.iaload, 1) := by decide +kernel
theorem dX6_settle_78 : decode cX6_settle 78 = .ok (.iaload, 1) := by decide +kernel
theorem dX6_settle_79 : decode cX6_settle 79 = .ok (.aload_n 0, 1) := by decide +kernel
theorem dX6_settle_80 : decode cX6_settle 80 = .ok (.getfield 40, 3) := by decide +kernel
theorem dX6_settle_83 : decode cX6_settle 83 = .ok (.iload_n 2, 1) := by decide +kernel
theorem dX6_settle_84 : decode cX6_settle 84 = .ok (.iaload, 1) := by decide +kernel
theorem dX6_settle_85 : decode cX6_settle 85 = .ok (.ishr, 1) := by decide +kernel
theorem dX6_settle_86 : decode cX6_settle 86 = .ok (.iconst 1, 1) := by decide +kernel
theorem dX6_settle_87 : decode cX6_settle 87 = .ok (.iand, 1) := by decide +kernel
theorem dX6_settle_88 : decode cX6_settle 88 = .ok (.iload_n 2, 1) := by decide +kernel
theorem dX6_settle_89 : decode cX6_settle 89 = .ok (.ishl, 1) := by decide +kernel
theorem dX6_settle_90 : decode cX6_settle 90 = .ok (.ior, 1) := by decide +kernel
theorem dX6_settle_91 : decode cX6_settle 91 = .ok (.iastore, 1) := by decide +kernel
theorem dX6_settle_92 : decode cX6_settle 92 = .ok (.iinc 2 1, 3) := by decide +kernel
theorem dX6_settle_95 : decode cX6_settle 95 = .ok (.goto (-42), 3) := by decide +kernel
theorem dX6_settle_98 : decode cX6_settle 98 = .ok (.iinc 1 1, 3) := by decide +kernel
theorem dX6_settle_101 : decode cX6_settle 101 = .ok (.goto (-65), 3) := by decide +kernel
theorem dX6_settle_104 : decode cX6_settle 104 = .ok (.return_, 1) := by decide +kernel
theorem dX6_bitsOfKind_0 : decode cX6_bitsOfKind 0 = .ok (.iconst 0, 1) := by decide +kernel
theorem dX6_bitsOfKind_1 : decode cX6_bitsOfKind 1 = .ok (.istore_n 2, 1) := by decide +kernel
theorem dX6_bitsOfKind_2 : decode cX6_bitsOfKind 2 = .ok (.iconst 0, 1) := by decide +kernel
theorem dX6_bitsOfKind_3 : decode cX6_bitsOfKind 3 = .ok (.istore_n 3, 1) := by decide +kernel
theorem dX6_bitsOfKind_4 : decode cX6_bitsOfKind 4 = .ok (.iload_n 3, 1) := by decide +kernel
theorem dX6_bitsOfKind_5 : decode cX6_bitsOfKind 5 = .ok (.aload_n 0, 1) := by decide +kernel
theorem dX6_bitsOfKind_6 : decode cX6_bitsOfKind 6 = .ok (.getfield 110, 3) := by decide +kernel
theorem dX6_bitsOfKind_9 : decode cX6_bitsOfKind 9 = .ok (.if_icmp .ge 29, 3) := by decide +kernel
theorem dX6_bitsOfKind_12 : decode cX6_bitsOfKind 12 = .ok (.iload_n 2, 1) := by decide +kernel
theorem dX6_bitsOfKind_13 : decode cX6_bitsOfKind 13 = .ok (.aload_n 0, 1) := by decide +kernel
theorem dX6_bitsOfKind_14 : decode cX6_bitsOfKind 14 = .ok (.getfield 37, 3) := by decide +kernel
theorem dX6_bitsOfKind_17 : decode cX6_bitsOfKind 17 = .ok (.iload_n 3, 1) := by decide +kernel
theorem dX6_bitsOfKind_18 : decode cX6_bitsOfKind 18 = .ok (.iaload, 1) := by decide +kernel
theorem dX6_bitsOfKind_19 : decode cX6_bitsOfKind 19 = .ok (.iload_n 1, 1) := by decide +kernel
theorem dX6_bitsOfKind_20 : decode cX6_bitsOfKind 20 = .ok (.if_icmp .ne 9, 3) := by decide +kernel
theorem dX6_bitsOfKind_23 : decode cX6_bitsOfKind 23 = .ok (.iconst 1, 1) := by decide +kernel
theorem dX6_bitsOfKind_24 : decode cX6_bitsOfKind 24 = .ok (.iload_n 3, 1) := by decide +kernel
theorem dX6_bitsOfKind_25 : decode cX6_bitsOfKind 25 = .ok (.ishl, 1) := by decide +kernel
theorem dX6_bitsOfKind_26 : decode cX6_bitsOfKind 26 = .ok (.goto 4, 3) := by decide +kernel
theorem dX6_bitsOfKind_29 : decode cX6_bitsOfKind 29 = .ok (.iconst 0, 1) := by decide +kernel
theorem dX6_bitsOfKind_30 : decode cX6_bitsOfKind 30 = .ok (.ior, 1) := by decide +kernel
theorem dX6_bitsOfKind_31 : decode cX6_bitsOfKind 31 = .ok (.istore_n 2, 1) := by decide +kernel
theorem dX6_bitsOfKind_32 : decode cX6_bitsOfKind 32 = .ok (.iinc 3 1, 3) := by decide +kernel
theorem dX6_bitsOfKind_35 : decode cX6_bitsOfKind 35 = .ok (.goto (-31), 3) := by decide +kernel
theorem dX6_bitsOfKind_38 : decode cX6_bitsOfKind 38 = .ok (.iload_n 2, 1) := by decide +kernel
theorem dX6_bitsOfKind_39 : decode cX6_bitsOfKind 39 = .ok (.ireturn, 1) := by decide +kernel
theorem dX6_hasHole_0 : decode cX6_hasHole 0 = .ok (.iload_n 1, 1) := by decide +kernel
theorem dX6_hasHole_1 : decode cX6_hasHole 1 = .ok (.ifCond .lt 15, 3) := by decide +kernel
theorem dX6_hasHole_4 : decode cX6_hasHole 4 = .ok (.iload_n 1, 1) := by decide +kernel
theorem dX6_hasHole_5 : decode cX6_hasHole 5 = .ok (.aload_n 0, 1) := by decide +kernel
theorem dX6_hasHole_6 : decode cX6_hasHole 6 = .ok (.getfield 107, 3) := by decide +kernel
theorem dX6_hasHole_9 : decode cX6_hasHole 9 = .ok (.if_icmp .ge 7, 3) := by decide +kernel
theorem dX6_hasHole_12 : decode cX6_hasHole 12 = .ok (.iconst 1, 1) := by decide +kernel
theorem dX6_hasHole_13 : decode cX6_hasHole 13 = .ok (.goto 4, 3) := by decide +kernel
theorem dX6_hasHole_16 : decode cX6_hasHole 16 = .ok (.iconst 0, 1) := by decide +kernel
theorem dX6_hasHole_17 : decode cX6_hasHole 17 = .ok (.ireturn, 1) := by decide +kernel
theorem dX6_hasGuest_0 : decode cX6_hasGuest 0 = .ok (.iload_n 1, 1) := by decide +kernel
theorem dX6_hasGuest_1 : decode cX6_hasGuest 1 = .ok (.ifCond .lt 15, 3) := by decide +kernel
theorem dX6_hasGuest_4 : decode cX6_hasGuest 4 = .ok (.iload_n 1, 1) := by decide +kernel
theorem dX6_hasGuest_5 : decode cX6_hasGuest 5 = .ok (.aload_n 0, 1) := by decide +kernel
theorem dX6_hasGuest_6 : decode cX6_hasGuest 6 = .ok (.getfield 110, 3) := by decide +kernel
theorem dX6_hasGuest_9 : decode cX6_hasGuest 9 = .ok (.if_icmp .ge 7, 3) := by decide +kernel
theorem dX6_hasGuest_12 : decode cX6_hasGuest 12 = .ok (.iconst 1, 1) := by decide +kernel
theorem dX6_hasGuest_13 : decode cX6_hasGuest 13 = .ok (.goto 4, 3) := by decide +kernel
theorem dX6_hasGuest_16 : decode cX6_hasGuest 16 = .ok (.iconst 0, 1) := by decide +kernel
theorem dX6_hasGuest_17 : decode cX6_hasGuest 17 = .ok (.ireturn, 1) := by decide +kernel
theorem dX6_areAtWar_0 : decode cX6_areAtWar 0 = .ok (.aload_n 0, 1) := by decide +kernel
theorem dX6_areAtWar_1 : decode cX6_areAtWar 1 = .ok (.iload_n 1, 1) := by decide +kernel
theorem dX6_areAtWar_2 : decode cX6_areAtWar 2 = .ok (.invokevirtual 167, 3) := by decide +kernel
theorem dX6_areAtWar_5 : decode cX6_areAtWar 5 = .ok (.ifCond .eq 28, 3) := by decide +kernel
theorem dX6_areAtWar_8 : decode cX6_areAtWar 8 = .ok (.aload_n 0, 1) := by decide +kernel
theorem dX6_areAtWar_9 : decode cX6_areAtWar 9 = .ok (.iload_n 2, 1) := by decide +kernel
theorem dX6_areAtWar_10 : decode cX6_areAtWar 10 = .ok (.invokevirtual 167, 3) := by decide +kernel
theorem dX6_areAtWar_13 : decode cX6_areAtWar 13 = .ok (.ifCond .eq 20, 3) := by decide +kernel
theorem dX6_areAtWar_16 : decode cX6_areAtWar 16 = .ok (.aload_n 0, 1) := by decide +kernel
theorem dX6_areAtWar_17 : decode cX6_areAtWar 17 = .ok (.getfield 43, 3) := by decide +kernel
theorem dX6_areAtWar_20 : decode cX6_areAtWar 20 = .ok (.iload_n 1, 1) := by decide +kernel
theorem dX6_areAtWar_21 : decode cX6_areAtWar 21 = .ok (.iaload, 1) := by decide +kernel
theorem dX6_areAtWar_22 : decode cX6_areAtWar 22 = .ok (.iload_n 2, 1) := by decide +kernel
theorem dX6_areAtWar_23 : decode cX6_areAtWar 23 = .ok (.ishr, 1) := by decide +kernel
theorem dX6_areAtWar_24 : decode cX6_areAtWar 24 = .ok (.iconst 1, 1) := by decide +kernel
theorem dX6_areAtWar_25 : decode cX6_areAtWar 25 = .ok (.iand, 1) := by decide +kernel
theorem dX6_areAtWar_26 : decode cX6_areAtWar 26 = .ok (.ifCond .eq 7, 3) := by decide +kernel
theorem dX6_areAtWar_29 : decode cX6_areAtWar 29 = .ok (.iconst 1, 1) := by decide +kernel
theorem dX6_areAtWar_30 : decode cX6_areAtWar 30 = .ok (.goto 4, 3) := by decide +kernel
theorem dX6_areAtWar_33 : decode cX6_areAtWar 33 = .ok (.iconst 0, 1) := by decide +kernel
theorem dX6_areAtWar_34 : decode cX6_areAtWar 34 = .ok (.ireturn, 1) := by decide +kernel
theorem dX6_besideBits_0 : decode cX6_besideBits 0 = .ok (.iconst 0, 1) := by decide +kernel
theorem dX6_besideBits_1 : decode cX6_besideBits 1 = .ok (.istore_n 2, 1) := by decide +kernel
theorem dX6_besideBits_2 : decode cX6_besideBits 2 = .ok (.iconst 0, 1) := by decide +kernel
theorem dX6_besideBits_3 : decode cX6_besideBits 3 = .ok (.istore_n 3, 1) := by decide +kernel
theorem dX6_besideBits_4 : decode cX6_besideBits 4 = .ok (.iload_n 3, 1) := by decide +kernel
theorem dX6_besideBits_5 : decode cX6_besideBits 5 = .ok (.aload_n 0, 1) := by decide +kernel
theorem dX6_besideBits_6 : decode cX6_besideBits 6 = .ok (.getfield 107, 3) := by decide +kernel
theorem dX6_besideBits_9 : decode cX6_besideBits 9 = .ok (.if_icmp .ge 30, 3) := by decide +kernel
theorem dX6_besideBits_12 : decode cX6_besideBits 12 = .ok (.iload_n 2, 1) := by decide +kernel
theorem dX6_besideBits_13 : decode cX6_besideBits 13 = .ok (.iload_n 1, 1) := by decide +kernel
theorem dX6_besideBits_14 : decode cX6_besideBits 14 = .ok (.iload_n 3, 1) := by decide +kernel
theorem dX6_besideBits_15 : decode cX6_besideBits 15 = .ok (.ishr, 1) := by decide +kernel
theorem dX6_besideBits_16 : decode cX6_besideBits 16 = .ok (.iconst 1, 1) := by decide +kernel
theorem dX6_besideBits_17 : decode cX6_besideBits 17 = .ok (.iand, 1) := by decide +kernel
theorem dX6_besideBits_18 : decode cX6_besideBits 18 = .ok (.ifCond .eq 12, 3) := by decide +kernel
theorem dX6_besideBits_21 : decode cX6_besideBits 21 = .ok (.aload_n 0, 1) := by decide +kernel
theorem dX6_besideBits_22 : decode cX6_besideBits 22 = .ok (.getfield 34, 3) := by decide +kernel
theorem dX6_besideBits_25 : decode cX6_besideBits 25 = .ok (.iload_n 3, 1) := by decide +kernel
theorem dX6_besideBits_26 : decode cX6_besideBits 26 = .ok (.iaload, 1) := by decide +kernel
theorem dX6_besideBits_27 : decode cX6_besideBits 27 = .ok (.goto 4, 3) := by decide +kernel
theorem dX6_besideBits_30 : decode cX6_besideBits 30 = .ok (.iconst 0, 1) := by decide +kernel
theorem dX6_besideBits_31 : decode cX6_besideBits 31 = .ok (.ior, 1) := by decide +kernel
theorem dX6_besideBits_32 : decode cX6_besideBits 32 = .ok (.istore_n 2, 1) := by decide +kernel
theorem dX6_besideBits_33 : decode cX6_besideBits 33 = .ok (.iinc 3 1, 3) := by decide +kernel
theorem dX6_besideBits_36 : decode cX6_besideBits 36 = .ok (.goto (-32), 3) := by decide +kernel
theorem dX6_besideBits_39 : decode cX6_besideBits 39 = .ok (.iload_n 2, 1) := by decide +kernel
theorem dX6_besideBits_40 : decode cX6_besideBits 40 = .ok (.ireturn, 1) := by decide +kernel
theorem dX6_coldOf_0 : decode cX6_coldOf 0 = .ok (.aload_n 0, 1) := by decide +kernel
theorem dX6_coldOf_1 : decode cX6_coldOf 1 = .ok (.getfield 113, 3) := by decide +kernel
theorem dX6_coldOf_4 : decode cX6_coldOf 4 = .ok (.ifCond .le 21, 3) := by decide +kernel
theorem dX6_coldOf_7 : decode cX6_coldOf 7 = .ok (.iload_n 1, 1) := by decide +kernel
theorem dX6_coldOf_8 : decode cX6_coldOf 8 = .ok (.ifCond .lt 17, 3) := by decide +kernel
theorem dX6_coldOf_11 : decode cX6_coldOf 11 = .ok (.aload_n 0, 1) := by decide +kernel
theorem dX6_coldOf_12 : decode cX6_coldOf 12 = .ok (.getfield 22, 3) := by decide +kernel
theorem dX6_coldOf_15 : decode cX6_coldOf 15 = .ok (.iload_n 1, 1) := by decide +kernel
theorem dX6_coldOf_16 : decode cX6_coldOf 16 = .ok (.aload_n 0, 1) := by decide +kernel
theorem dX6_coldOf_17 : decode cX6_coldOf 17 = .ok (.getfield 113, 3) := by decide +kernel
theorem dX6_coldOf_20 : decode cX6_coldOf 20 = .ok (.irem, 1) := by decide +kernel
theorem dX6_coldOf_21 : decode cX6_coldOf 21 = .ok (.iaload, 1) := by decide +kernel
theorem dX6_coldOf_22 : decode cX6_coldOf 22 = .ok (.goto 4, 3) := by decide +kernel
theorem dX6_coldOf_25 : decode cX6_coldOf 25 = .ok (.iconst 1, 1) := by decide +kernel
theorem dX6_coldOf_26 : decode cX6_coldOf 26 = .ok (.ireturn, 1) := by decide +kernel
theorem dX6_coldOver_0 : decode cX6_coldOver 0 = .ok (.iconst 0, 1) := by decide +kernel
theorem dX6_coldOver_1 : decode cX6_coldOver 1 = .ok (.istore_n 3, 1) := by decide +kernel
theorem dX6_coldOver_2 : decode cX6_coldOver 2 = .ok (.iconst 0, 1) := by decide +kernel
theorem dX6_coldOver_3 : decode cX6_coldOver 3 = .ok (.istore 4, 2) := by decide +kernel
theorem dX6_coldOver_5 : decode cX6_coldOver 5 = .ok (.iload 4, 2) := by decide +kernel
theorem dX6_coldOver_7 : decode cX6_coldOver 7 = .ok (.iload_n 2, 1) := by decide +kernel
theorem dX6_coldOver_8 : decode cX6_coldOver 8 = .ok (.if_icmp .ge 20, 3) := by decide +kernel
theorem dX6_coldOver_11 : decode cX6_coldOver 11 = .ok (.iload_n 3, 1) := by decide +kernel
theorem dX6_coldOver_12 : decode cX6_coldOver 12 = .ok (.aload_n 0, 1) := by decide +kernel
theorem dX6_coldOver_13 : decode cX6_coldOver 13 = .ok (.iload_n 1, 1) := by decide +kernel
theorem dX6_coldOver_14 : decode cX6_coldOver 14 = .ok (.iload 4, 2) := by decide +kernel
theorem dX6_coldOver_16 : decode cX6_coldOver 16 = .ok (.iadd, 1) := by decide +kernel
theorem dX6_coldOver_17 : decode cX6_coldOver 17 = .ok (.invokevirtual 171, 3) := by decide +kernel
theorem dX6_coldOver_20 : decode cX6_coldOver 20 = .ok (.iadd, 1) := by decide +kernel
theorem dX6_coldOver_21 : decode cX6_coldOver 21 = .ok (.istore_n 3, 1) := by decide +kernel
theorem dX6_coldOver_22 : decode cX6_coldOver 22 = .ok (.iinc 4 1, 3) := by decide +kernel
theorem dX6_coldOver_25 : decode cX6_coldOver 25 = .ok (.goto (-20), 3) := by decide +kernel
theorem dX6_coldOver_28 : decode cX6_coldOver 28 = .ok (.iload_n 3, 1) := by decide +kernel
theorem dX6_coldOver_29 : decode cX6_coldOver 29 = .ok (.ireturn, 1) := by decide +kernel
theorem dX7_init_0 : decode cX7_init 0 = .ok (.aload_n 0, 1) := by decide +kernel
theorem dX7_init_1 : decode cX7_init 1 = .ok (.invokespecial 3, 3) := by decide +kernel
theorem dX7_init_4 : decode cX7_init 4 = .ok (.aload_n 0, 1) := by decide +kernel
theorem dX7_init_5 : decode cX7_init 5 = .ok (.bipush 40, 2) := by decide +kernel
theorem dX7_init_7 : decode cX7_init 7 = .ok (.newarray .byte, 2) := by decide +kernel
theorem dX7_init_9 : decode cX7_init 9 = .ok (.putfield 9, 3) := by decide +kernel
theorem dX7_init_12 : decode cX7_init 12 = .ok (.aload_n 0, 1) := by decide +kernel
theorem dX7_init_13 : decode cX7_init 13 = .ok (.bipush 40, 2) := by decide +kernel
theorem dX7_init_15 : decode cX7_init 15 = .ok (.newarray .byte, 2) := by decide +kernel
theorem dX7_init_17 : decode cX7_init 17 = .ok (.putfield 15, 3) := by decide +kernel
theorem dX7_init_20 : decode cX7_init 20 = .ok (.aload_n 0, 1) := by decide +kernel
theorem dX7_init_21 : decode cX7_init 21 = .ok (.bipush 40, 2) := by decide +kernel
theorem dX7_init_23 : decode cX7_init 23 = .ok (.newarray .int, 2) := by decide +kernel
theorem dX7_init_25 : decode cX7_init 25 = .ok (.putfield 18, 3) := by decide +kernel
theorem dX7_init_28 : decode cX7_init 28 = .ok (.return_, 1) := by decide +kernel
theorem dX7_readFrom_0 : decode cX7_readFrom 0 = .ok (.aload_n 0, 1) := by decide +kernel
theorem dX7_readFrom_1 : decode cX7_readFrom 1 = .ok (.iconst 0, 1) := by decide +kernel
theorem dX7_readFrom_2 : decode cX7_readFrom 2 = .ok (.putfield 22, 3) := by decide +kernel
theorem dX7_readFrom_5 : decode cX7_readFrom 5 = .ok (.aload_n 1, 1) := by decide +kernel
theorem dX7_readFrom_6 : decode cX7_readFrom 6 = .ok (.invokevirtual 26, 3) := by decide +kernel
theorem dX7_readFrom_9 : decode cX7_readFrom 9 = .ok (.iconst 0, 1) := by decide +kernel
theorem dX7_readFrom_10 : decode cX7_readFrom 10 = .ok (.istore_n 3, 1) := by decide +kernel
theorem dX7_readFrom_11 : decode cX7_readFrom 11 = .ok (.iload_n 3, 1) := by decide +kernel
theorem dX7_readFrom_12 : decode cX7_readFrom 12 = .ok (.sipush 1000, 3) := by decide +kernel
theorem dX7_readFrom_15 : decode cX7_readFrom 15 = .ok (.if_icmp .ge 28, 3) := by decide +kernel
theorem dX7_readFrom_18 : decode cX7_readFrom 18 = .ok (.aload_n 1, 1) := by decide +kernel
theorem dX7_readFrom_19 : decode cX7_readFrom 19 = .ok (.invokevirtual 31, 3) := by decide +kernel
theorem dX7_readFrom_22 : decode cX7_readFrom 22 = .ok (.ifCond .ne 21, 3) := by decide +kernel
theorem dX7_readFrom_25 : decode cX7_readFrom 25 = .ok (.aload_n 0, 1) := by decide +kernel
theorem dX7_readFrom_26 : decode cX7_readFrom 26 = .ok (.aload_n 1, 1) := by decide +kernel
theorem dX7_readFrom_27 : decode cX7_readFrom 27 = .ok (.aload_n 2, 1) := by decide +kernel
theorem dX7_readFrom_28 : decode cX7_readFrom 28 = .ok (.invokevirtual 35, 3) := by decide +kernel
theorem dX7_readFrom_31 : decode cX7_readFrom 31 = .ok (.aload_n 1, 1) := by decide +kernel
theorem dX7_readFrom_32 : decode cX7_readFrom 32 = .ok (.bipush 59, 2) := by decide +kernel
theorem dX7_readFrom_34 : decode cX7_readFrom 34 = .ok (.invokevirtual 39, 3) := by decide +kernel
theorem dX7_readFrom_37 : decode cX7_readFrom 37 = .ok (.iinc 3 1, 3) := by decide +kernel
theorem dX7_readFrom_40 : decode cX7_readFrom 40 = .ok (.goto (-29), 3) := by decide +kernel
theorem dX7_readFrom_43 : decode cX7_readFrom 43 = .ok (.aload_n 1, 1) := by decide +kernel
theorem dX7_readFrom_44 : decode cX7_readFrom 44 = .ok (.iconst 0, 1) := by decide +kernel
theorem dX7_readFrom_45 : decode cX7_readFrom 45 = .ok (.putfield 43, 3) := by decide +kernel
theorem dX7_readFrom_48 : decode cX7_readFrom 48 = .ok (.aload_n 1, 1) := by decide +kernel
theorem dX7_readFrom_49 : decode cX7_readFrom 49 = .ok (.getfield 46, 3) := by decide +kernel
theorem dX7_readFrom_52 : decode cX7_readFrom 52 = .ok (.ireturn, 1) := by decide +kernel
theorem dX7_readLine_0 : decode cX7_readLine 0 = .ok (.aload_n 1, 1) := by decide +kernel
theorem dX7_readLine_1 : decode cX7_readLine 1 = .ok (.getfield 49, 3) := by decide +kernel
theorem dX7_readLine_4 : decode cX7_readLine 4 = .ok (.istore_n 3, 1) := by decide +kernel
theorem dX7_readLine_5 : decode cX7_readLine 5 = .ok (.iload_n 3, 1) := by decide +kernel
theorem dX7_readLine_6 : decode cX7_readLine 6 = .ok (.sipush 138, 3) := by decide +kernel
theorem dX7_readLine_9 : decode cX7_readLine 9 = .ok (.sipush 142, 3) := by decide +kernel
theorem dX7_readLine_12 : decode cX7_readLine 12 = .ok (.invokestatic 52, 3) := by decide +kernel
theorem dX7_readLine_15 : decode cX7_readLine 15 = .ok (.ifCond .ne 9, 3) := by decide +kernel
theorem dX7_readLine_18 : decode cX7_readLine 18 = .ok (.aload_n 1, 1) := by decide +kernel
theorem dX7_readLine_19 : decode cX7_readLine 19 = .ok (.iconst 1, 1) := by decide +kernel
theorem dX7_readLine_20 : decode cX7_readLine 20 = .ok (.invokevirtual 56, 3) := by decide +kernel
theorem dX7_readLine_23 : decode cX7_readLine 23 = .ok (.return_, 1) := by decide +kernel
theorem dX7_readLine_24 : decode cX7_readLine 24 = .ok (.aload_n 0, 1) := by decide +kernel
theorem dX7_readLine_25 : decode cX7_readLine 25 = .ok (.getfield 22, 3) := by decide +kernel
theorem dX7_readLine_28 : decode cX7_readLine 28 = .ok (.bipush 40, 2) := by decide +kernel
theorem dX7_readLine_30 : decode cX7_readLine 30 = .ok (.if_icmp .lt 9, 3) := by decide +kernel
theorem dX7_readLine_33 : decode cX7_readLine 33 = .ok (.aload_n 1, 1) := by decide +kernel
theorem dX7_readLine_34 : decode cX7_readLine 34 = .ok (.iconst 5, 1) := by decide +kernel
theorem dX7_readLine_35 : decode cX7_readLine 35 = .ok (.invokevirtual 56, 3) := by decide +kernel
theorem dX7_readLine_38 : decode cX7_readLine 38 = .ok (.return_, 1) := by decide +kernel
theorem dX7_readLine_39 : decode cX7_readLine 39 = .ok (.aload_n 1, 1) := by decide +kernel
theorem dX7_readLine_40 : decode cX7_readLine 40 = .ok (.invokevirtual 59, 3) := by decide +kernel
theorem dX7_readLine_43 : decode cX7_readLine 43 = .ok (.aload_n 0, 1) := by decide +kernel
theorem dX7_readLine_44 : decode cX7_readLine 44 = .ok (.getfield 18, 3) := by decide +kernel
theorem dX7_readLine_47 : decode cX7_readLine 47 = .ok (.aload_n 0, 1) := by decide +kernel
theorem dX7_readLine_48 : decode cX7_readLine 48 = .ok (.getfield 22, 3) := by decide +kernel
theorem dX7_readLine_51 : decode cX7_readLine 51 = .ok (.iload_n 3, 1) := by decide +kernel
theorem dX7_readLine_52 : decode cX7_readLine 52 = .ok (.iastore, 1) := by decide +kernel
theorem dX7_readLine_53 : decode cX7_readLine 53 = .ok (.iload_n 3, 1) := by decide +kernel
theorem dX7_readLine_54 : decode cX7_readLine 54 = .ok (.sipush 138, 3) := by decide +kernel
theorem dX7_readLine_57 : decode cX7_readLine 57 = .ok (.if_icmp .eq 17, 3) := by decide +kernel
theorem dX7_readLine_60 : decode cX7_readLine 60 = .ok (.iload_n 3, 1) := by decide +kernel
theorem dX7_readLine_61 : decode cX7_readLine 61 = .ok (.sipush 139, 3) := by decide +kernel
theorem dX7_readLine_64 : decode cX7_readLine 64 = .ok (.if_icmp .eq 10, 3) := by decide +kernel
theorem dX7_readLine_67 : decode cX7_readLine 67 = .ok (.iload_n 3, 1) := by decide +kernel
theorem dX7_readLine_68 : decode cX7_readLine 68 = .ok (.sipush 140, 3) := by decide +kernel
theorem dX7_readLine_71 : decode cX7_readLine 71 = .ok (.if_icmp .ne 7, 3) := by decide +kernel
theorem dX7_readLine_74 : decode cX7_readLine 74 = .ok (.iconst 1, 1) := by decide +kernel
theorem dX7_readLine_75 : decode cX7_readLine 75 = .ok (.goto 4, 3) := by decide +kernel
theorem dX7_readLine_78 : decode cX7_readLine 78 = .ok (.iconst 0, 1) := by decide +kernel
theorem dX7_readLine_79 : decode cX7_readLine 79 = .ok (.istore 4, 2) := by decide +kernel
theorem dX7_readLine_81 : decode cX7_readLine 81 = .ok (.iload_n 3, 1) := by decide +kernel
theorem dX7_readLine_82 : decode cX7_readLine 82 = .ok (.sipush 138, 3) := by decide +kernel
theorem dX7_readLine_85 : decode cX7_readLine 85 = .ok (.if_icmp .eq 17, 3) := by decide +kernel
theorem dX7_readLine_88 : decode cX7_readLine 88 = .ok (.iload_n 3, 1) := by decide +kernel
theorem dX7_readLine_89 : decode cX7_readLine 89 = .ok (.sipush 140, 3) := by decide +kernel
theorem dX7_readLine_92 : decode cX7_readLine 92 = .ok (.if_icmp .eq 10, 3) := by decide +kernel
theorem dX7_readLine_95 : decode cX7_readLine 95 = .ok (.iload_n 3, 1) := by decide +kernel
theorem dX7_readLine_96 : decode cX7_readLine 96 = .ok (.sipush 141, 3) := by decide +kernel
theorem dX7_readLine_99 : decode cX7_readLine 99 = .ok (.if_icmp .ne 7, 3) := by decide +kernel
theorem dX7_readLine_102 : decode cX7_readLine 102 = .ok (.iconst 1, 1) := by decide +kernel
theorem dX7_readLine_103 : decode cX7_readLine 103 = .ok (.goto 4, 3) := by decide +kernel
theorem dX7_readLine_106 : decode cX7_readLine 106 = .ok (.iconst 0, 1) := by decide +kernel
theorem dX7_readLine_107 : decode cX7_readLine 107 = .ok (.istore 5, 2) := by decide +kernel
theorem dX7_readLine_109 : decode cX7_readLine 109 = .ok (.aload_n 0, 1) := by decide +kernel
theorem dX7_readLine_110 : decode cX7_readLine 110 = .ok (.getfield 9, 3) := by decide +kernel
theorem dX7_readLine_113 : decode cX7_readLine 113 = .ok (.aload_n 0, 1) := by decide +kernel
theorem dX7_readLine_114 : decode cX7_readLine 114 = .ok (.getfield 22, 3) := by decide +kernel
theorem dX7_readLine_117 : decode cX7_readLine 117 = .ok (.iload 4, 2) := by decide +kernel
theorem dX7_readLine_119 : decode cX7_readLine 119 = .ok (.ifCond .eq 11, 3) := by decide +kernel
theorem dX7_readLine_122 : decode cX7_readLine 122 = .ok (.aload_n 2, 1) := by decide +kernel
theorem dX7_readLine_123 : decode cX7_readLine 123 = .ok (.aload_n 1, 1) := by decide +kernel
theorem dX7_readLine_124 : decode cX7_readLine 124 = .ok (.invokevirtual 62, 3) := by decide +kernel
theorem dX7_readLine_127 : decode cX7_readLine 127 = .ok (.goto 4, 3) := by decide +kernel
theorem dX7_readLine_130 : decode cX7_readLine 130 = .ok (.iconst (-1), 1) := by decide +kernel
theorem dX7_readLine_131 : decode cX7_readLine 131 = .ok (.i2b, 1) := by decide +kernel
theorem dX7_readLine_132 : decode cX7_readLine 132 = .ok (.bastore, 1) := by decide +kernel
theorem dX7_readLine_133 : decode cX7_readLine 133 = .ok (.aload_n 0, 1) := by decide +kernel
theorem dX7_readLine_134 : decode cX7_readLine 134 = .ok (.getfield 15, 3) := by decide +kernel
theorem dX7_readLine_137 : decode cX7_readLine 137 = .ok (.aload_n 0, 1) := by decide +kernel
theorem dX7_readLine_138 : decode cX7_readLine 138 = .ok (.getfield 22, 3) := by decide +kernel
theorem dX7_readLine_141 : decode cX7_readLine 141 = .ok (.iload 5, 2) := by decide +kernel
theorem dX7_readLine_143 : decode cX7_readLine 143 = .ok (.ifCond .eq 11, 3) := by decide +kernel
theorem dX7_readLine_146 : decode cX7_readLine 146 = .ok (.aload_n 2, 1) := by decide +kernel
theorem dX7_readLine_147 : decode cX7_readLine 147 = .ok (.aload_n 1, 1) := by decide +kernel
theorem dX7_readLine_148 : decode cX7_readLine 148 = .ok (.invokevirtual 68, 3) := by decide +kernel
theorem dX7_readLine_151 : decode cX7_readLine 151 = .ok (.goto 4, 3) := by decide +kernel
theorem dX7_readLine_154 : decode cX7_readLine 154 = .ok (.iconst (-1), 1) := by decide +kernel
theorem dX7_readLine_155 : decode cX7_readLine 155 = .ok (.i2b, 1) := by decide +kernel
theorem dX7_readLine_156 : decode cX7_readLine 156 = .ok (.bastore, 1) := by decide +kernel
theorem dX7_readLine_157 : decode cX7_readLine 157 = .ok (.aload_n 0, 1) := by decide +kernel
theorem dX7_readLine_158 : decode cX7_readLine 158 = .ok (.dup, 1) := by decide +kernel
theorem dX7_readLine_159 : decode cX7_readLine 159 = .ok (.getfield 22, 3) := by decide +kernel
theorem dX7_readLine_162 : decode cX7_readLine 162 = .ok (.iconst 1, 1) := by decide +kernel
theorem dX7_readLine_163 : decode cX7_readLine 163 = .ok (.iadd, 1) := by decide +kernel
theorem dX7_readLine_164 : decode cX7_readLine 164 = .ok (.putfield 22, 3) := by decide +kernel
theorem dX7_readLine_167 : decode cX7_readLine 167 = .ok (.return_, 1) := by decide +kernel
theorem dX7_copyFrom_0 : decode cX7_copyFrom 0 = .ok (.iconst 0, 1) := by decide +kernel
theorem dX7_copyFrom_1 : decode cX7_copyFrom 1 = .ok (.istore_n 2, 1) := by decide +kernel
theorem dX7_copyFrom_2 : decode cX7_copyFrom 2 = .ok (.iload_n 2, 1) := by decide +kernel
theorem dX7_copyFrom_3 : decode cX7_copyFrom 3 = .ok (.bipush 40, 2) := by decide +kernel
theorem dX7_copyFrom_5 : decode cX7_copyFrom 5 = .ok (.if_icmp .ge 45, 3) := by decide +kernel
theorem dX7_copyFrom_8 : decode cX7_copyFrom 8 = .ok (.aload_n 0, 1) := by decide +kernel
theorem dX7_copyFrom_9 : decode cX7_copyFrom 9 = .ok (.getfield 9, 3) := by decide +kernel
theorem dX7_copyFrom_12 : decode cX7_copyFrom 12 = .ok (.iload_n 2, 1) := by decide +kernel
theorem dX7_copyFrom_13 : decode cX7_copyFrom 13 = .ok (.aload_n 1, 1) := by decide +kernel
theorem dX7_copyFrom_14 : decode cX7_copyFrom 14 = .ok (.getfield 9, 3) := by decide +kernel
theorem dX7_copyFrom_17 : decode cX7_copyFrom 17 = .ok (.iload_n 2, 1) := by decide +kernel
theorem dX7_copyFrom_18 : decode cX7_copyFrom 18 = .ok (.baload, 1) := by decide +kernel
theorem dX7_copyFrom_19 : decode cX7_copyFrom 19 = .ok (.bastore, 1) := by decide +kernel
theorem dX7_copyFrom_20 : decode cX7_copyFrom 20 = .ok (.aload_n 0, 1) := by decide +kernel
theorem dX7_copyFrom_21 : decode cX7_copyFrom 21 = .ok (.getfield 15, 3) := by decide +kernel
theorem dX7_copyFrom_24 : decode cX7_copyFrom 24 = .ok (.iload_n 2, 1) := by decide +kernel
theorem dX7_copyFrom_25 : decode cX7_copyFrom 25 = .ok (.aload_n 1, 1) := by decide +kernel
theorem dX7_copyFrom_26 : decode cX7_copyFrom 26 = .ok (.getfield 15, 3) := by decide +kernel
theorem dX7_copyFrom_29 : decode cX7_copyFrom 29 = .ok (.iload_n 2, 1) := by decide +kernel
theorem dX7_copyFrom_30 : decode cX7_copyFrom 30 = .ok (.baload, 1) := by decide +kernel
theorem dX7_copyFrom_31 : decode cX7_copyFrom 31 = .ok (.bastore, 1) := by decide +kernel
theorem dX7_copyFrom_32 : decode cX7_copyFrom 32 = .ok (.aload_n 0, 1) := by decide +kernel
theorem dX7_copyFrom_33 : decode cX7_copyFrom 33 = .ok (.getfield 18, 3) := by decide +kernel
theorem dX7_copyFrom_36 : decode cX7_copyFrom 36 = .ok (.iload_n 2, 1) := by decide +kernel
theorem dX7_copyFrom_37 : decode cX7_copyFrom 37 = .ok (.aload_n 1, 1) := by decide +kernel
theorem dX7_copyFrom_38 : decode cX7_copyFrom 38 = .ok (.getfield 18, 3) := by decide +kernel
theorem dX7_copyFrom_41 : decode cX7_copyFrom 41 = .ok (.iload_n 2, 1) := by decide +kernel
theorem dX7_copyFrom_42 : decode cX7_copyFrom 42 = .ok (.iaload, 1) := by decide +kernel
theorem dX7_copyFrom_43 : decode cX7_copyFrom 43 = .ok (.iastore, 1) := by decide +kernel
theorem dX7_copyFrom_44 : decode cX7_copyFrom 44 = .ok (.iinc 2 1, 3) := by decide +kernel
theorem dX7_copyFrom_47 : decode cX7_copyFrom 47 = .ok (.goto (-45), 3) := by decide +kernel
theorem dX7_copyFrom_50 : decode cX7_copyFrom 50 = .ok (.aload_n 0, 1) := by decide +kernel
theorem dX7_copyFrom_51 : decode cX7_copyFrom 51 = .ok (.aload_n 1, 1) := by decide +kernel
theorem dX7_copyFrom_52 : decode cX7_copyFrom 52 = .ok (.getfield 22, 3) := by decide +kernel
theorem dX7_copyFrom_55 : decode cX7_copyFrom 55 = .ok (.putfield 22, 3) := by decide +kernel
theorem dX7_copyFrom_58 : decode cX7_copyFrom 58 = .ok (.return_, 1) := by decide +kernel
theorem dX7_judge_0 : decode cX7_judge 0 = .ok (.iconst (-1), 1) := by decide +kernel
theorem dX7_judge_1 : decode cX7_judge 1 = .ok (.istore 4, 2) := by decide +kernel
theorem dX7_judge_3 : decode cX7_judge 3 = .ok (.iconst (-1), 1) := by decide +kernel
theorem dX7_judge_4 : decode cX7_judge 4 = .ok (.istore 5, 2) := by decide +kernel
theorem dX7_judge_6 : decode cX7_judge 6 = .ok (.aload_n 2, 1) := by decide +kernel
theorem dX7_judge_7 : decode cX7_judge 7 = .ok (.aload_n 1, 1) := by decide +kernel
theorem dX7_judge_8 : decode cX7_judge 8 = .ok (.invokevirtual 71, 3) := by decide +kernel
theorem dX7_judge_11 : decode cX7_judge 11 = .ok (.iconst 0, 1) := by decide +kernel
theorem dX7_judge_12 : decode cX7_judge 12 = .ok (.istore 6, 2) := by decide +kernel
theorem dX7_judge_14 : decode cX7_judge 14 = .ok (.iload 6, 2) := by decide +kernel
theorem dX7_judge_16 : decode cX7_judge 16 = .ok (.aload_n 0, 1) := by decide +kernel
theorem dX7_judge_17 : decode cX7_judge 17 = .ok (.getfield 22, 3) := by decide +kernel
theorem dX7_judge_20 : decode cX7_judge 20 = .ok (.if_icmp .ge 55, 3) := by decide +kernel
theorem dX7_judge_23 : decode cX7_judge 23 = .ok (.aload_n 2, 1) := by decide +kernel
theorem dX7_judge_24 : decode cX7_judge 24 = .ok (.getfield 77, 3) := by decide +kernel
theorem dX7_judge_27 : decode cX7_judge 27 = .ok (.istore 7, 2) := by decide +kernel
theorem dX7_judge_29 : decode cX7_judge 29 = .ok (.aload_n 0, 1) := by decide +kernel
theorem dX7_judge_30 : decode cX7_judge 30 = .ok (.aload_n 1, 1) := by decide +kernel
theorem dX7_judge_31 : decode cX7_judge 31 = .ok (.aload_n 2, 1) := by decide +kernel
theorem dX7_judge_32 : decode cX7_judge 32 = .ok (.iload 6, 2) := by decide +kernel
theorem dX7_judge_34 : decode cX7_judge 34 = .ok (.invokevirtual 80, 3) := by decide +kernel
theorem dX7_judge_37 : decode cX7_judge 37 = .ok (.ifCond .ne 13, 3) := by decide +kernel
theorem dX7_judge_40 : decode cX7_judge 40 = .ok (.iload 4, 2) := by decide +kernel
theorem dX7_judge_42 : decode cX7_judge 42 = .ok (.iconst (-1), 1) := by decide +kernel
theorem dX7_judge_43 : decode cX7_judge 43 = .ok (.if_icmp .ne 7, 3) := by decide +kernel
theorem dX7_judge_46 : decode cX7_judge 46 = .ok (.iload 6, 2) := by decide +kernel
theorem dX7_judge_48 : decode cX7_judge 48 = .ok (.istore 4, 2) := by decide +kernel
theorem dX7_judge_50 : decode cX7_judge 50 = .ok (.aload_n 2, 1) := by decide +kernel
theorem dX7_judge_51 : decode cX7_judge 51 = .ok (.getfield 77, 3) := by decide +kernel
theorem dX7_judge_54 : decode cX7_judge 54 = .ok (.iload 7, 2) := by decide +kernel
theorem dX7_judge_56 : decode cX7_judge 56 = .ok (.if_icmp .eq 13, 3) := by decide +kernel
theorem dX7_judge_59 : decode cX7_judge 59 = .ok (.iload 5, 2) := by decide +kernel
theorem dX7_judge_61 : decode cX7_judge 61 = .ok (.iconst (-1), 1) := by decide +kernel
theorem dX7_judge_62 : decode cX7_judge 62 = .ok (.if_icmp .ne 7, 3) := by decide +kernel
theorem dX7_judge_65 : decode cX7_judge 65 = .ok (.iload 6, 2) := by decide +kernel
theorem dX7_judge_67 : decode cX7_judge 67 = .ok (.istore 5, 2) := by decide +kernel
theorem dX7_judge_69 : decode cX7_judge 69 = .ok (.iinc 6 1, 3) := by decide +kernel
theorem dX7_judge_72 : decode cX7_judge 72 = .ok (.goto (-58), 3) := by decide +kernel
theorem dX7_judge_75 : decode cX7_judge 75 = .ok (.iload_n 3, 1) := by decide +kernel
theorem dX7_judge_76 : decode cX7_judge 76 = .ok (.ifCond .ne 8, 3) := by decide +kernel
theorem dX7_judge_79 : decode cX7_judge 79 = .ok (.iload 4, 2) := by decide +kernel
theorem dX7_judge_81 : decode cX7_judge 81 = .ok (.goto 17, 3) := by decide +kernel
theorem dX7_judge_84 : decode cX7_judge 84 = .ok (.iload_n 3, 1) := by decide +kernel
theorem dX7_judge_85 : decode cX7_judge 85 = .ok (.iconst 1, 1) := by decide +kernel
theorem dX7_judge_86 : decode cX7_judge 86 = .ok (.if_icmp .ne 8, 3) := by decide +kernel
theorem dX7_judge_89 : decode cX7_judge 89 = .ok (.iload 5, 2) := by decide +kernel
theorem dX7_judge_91 : decode cX7_judge 91 = .ok (.goto 7, 3) := by decide +kernel
theorem dX7_judge_94 : decode cX7_judge 94 = .ok (.aload_n 2, 1) := by decide +kernel
theorem dX7_judge_95 : decode cX7_judge 95 = .ok (.getfield 84, 3) := by decide +kernel
theorem dX7_judge_98 : decode cX7_judge 98 = .ok (.ireturn, 1) := by decide +kernel
theorem dX7_follow_0 : decode cX7_follow 0 = .ok (.aload_n 0, 1) := by decide +kernel
theorem dX7_follow_1 : decode cX7_follow 1 = .ok (.getfield 9, 3) := by decide +kernel
theorem dX7_follow_4 : decode cX7_follow 4 = .ok (.iload_n 3, 1) := by decide +kernel
theorem dX7_follow_5 : decode cX7_follow 5 = .ok (.baload, 1) := by decide +kernel
theorem dX7_follow_6 : decode cX7_follow 6 = .ok (.istore 4, 2) := by decide +kernel
theorem dX7_follow_8 : decode cX7_follow 8 = .ok (.aload_n 0, 1) := by decide +kernel
theorem dX7_follow_9 : decode cX7_follow 9 = .ok (.getfield 15, 3) := by decide +kernel
theorem dX7_follow_12 : decode cX7_follow 12 = .ok (.iload_n 3, 1) := by decide +kernel
theorem dX7_follow_13 : decode cX7_follow 13 = .ok (.baload, 1) := by decide +kernel
theorem dX7_follow_14 : decode cX7_follow 14 = .ok (.istore 5, 2) := by decide +kernel
theorem dX7_follow_16 : decode cX7_follow 16 = .ok (.aload_n 0, 1) := by decide +kernel
theorem dX7_follow_17 : decode cX7_follow 17 = .ok (.getfield 18, 3) := by decide +kernel
theorem dX7_follow_20 : decode cX7_follow 20 = .ok (.iload_n 3, 1) := by decide +kernel
theorem dX7_follow_21 : decode cX7_follow 21 = .ok (.iaload, 1) := by decide +kernel
theorem dX7_follow_22 : decode cX7_follow 22 = .ok (.tableswitch 88 138 141 #[30, 44, 56, 70], 30) := by decide +kernel
theorem dX7_follow_52 : decode cX7_follow 52 = .ok (.aload_n 2, 1) := by decide +kernel
theorem dX7_follow_53 : decode cX7_follow 53 = .ok (.aload_n 1, 1) := by decide +kernel
theorem dX7_follow_54 : decode cX7_follow 54 = .ok (.iload 4, 2) := by decide +kernel
theorem dX7_follow_56 : decode cX7_follow 56 = .ok (.iload 5, 2) := by decide +kernel
theorem dX7_follow_58 : decode cX7_follow 58 = .ok (.invokevirtual 87, 3) := by decide +kernel
theorem dX7_follow_61 : decode cX7_follow 61 = .ok (.istore 6, 2) := by decide +kernel
theorem dX7_follow_63 : decode cX7_follow 63 = .ok (.goto 55, 3) := by decide +kernel
theorem dX7_follow_66 : decode cX7_follow 66 = .ok (.aload_n 2, 1) := by decide +kernel
theorem dX7_follow_67 : decode cX7_follow 67 = .ok (.aload_n 1, 1) := by decide +kernel
theorem dX7_follow_68 : decode cX7_follow 68 = .ok (.iload 4, 2) := by decide +kernel
theorem dX7_follow_70 : decode cX7_follow 70 = .ok (.invokevirtual 91, 3) := by decide +kernel
theorem dX7_follow_73 : decode cX7_follow 73 = .ok (.istore 6, 2) := by decide +kernel
theorem dX7_follow_75 : decode cX7_follow 75 = .ok (.goto 43, 3) := by decide +kernel
theorem dX7_follow_78 : decode cX7_follow 78 = .ok (.aload_n 2, 1) := by decide +kernel
theorem dX7_follow_79 : decode cX7_follow 79 = .ok (.aload_n 1, 1) := by decide +kernel
theorem dX7_follow_80 : decode cX7_follow 80 = .ok (.iload 4, 2) := by decide +kernel
theorem dX7_follow_82 : decode cX7_follow 82 = .ok (.iload 5, 2) := by decide +kernel
theorem dX7_follow_84 : decode cX7_follow 84 = .ok (.invokevirtual 95, 3) := by decide +kernel
theorem dX7_follow_87 : decode cX7_follow 87 = .ok (.istore 6, 2) := by decide +kernel
theorem dX7_follow_89 : decode cX7_follow 89 = .ok (.goto 29, 3) := by decide +kernel
theorem dX7_follow_92 : decode cX7_follow 92 = .ok (.aload_n 1, 1) := by decide +kernel
theorem dX7_follow_93 : decode cX7_follow 93 = .ok (.iload 5, 2) := by decide +kernel
theorem dX7_follow_95 : decode cX7_follow 95 = .ok (.invokevirtual 98, 3) := by decide +kernel
theorem dX7_follow_98 : decode cX7_follow 98 = .ok (.ifCond .eq 10, 3) := by decide +kernel
theorem dX7_follow_101 : decode cX7_follow 101 = .ok (.aload_n 2, 1) := by decide +kernel
theorem dX7_follow_102 : decode cX7_follow 102 = .ok (.aload_n 1, 1) := by decide +kernel
theorem dX7_follow_103 : decode cX7_follow 103 = .ok (.iload 5, 2) := by decide +kernel
theorem dX7_follow_105 : decode cX7_follow 105 = .ok (.invokevirtual 102, 3) := by decide +kernel
theorem dX7_follow_108 : decode cX7_follow 108 = .ok (.iconst 1, 1) := by decide +kernel
theorem dX7_follow_109 : decode cX7_follow 109 = .ok (.ireturn, 1) := by decide +kernel
theorem dX7_follow_110 : decode cX7_follow 110 = .ok (.aload_n 2, 1) := by decide +kernel
theorem dX7_follow_111 : decode cX7_follow 111 = .ok (.aload_n 1, 1) := by decide +kernel
theorem dX7_follow_112 : decode cX7_follow 112 = .ok (.invokevirtual 106, 3) := by decide +kernel
theorem dX7_follow_115 : decode cX7_follow 115 = .ok (.pop, 1) := by decide +kernel
theorem dX7_follow_116 : decode cX7_follow 116 = .ok (.iconst 1, 1) := by decide +kernel
theorem dX7_follow_117 : decode cX7_follow 117 = .ok (.ireturn, 1) := by decide +kernel
theorem dX7_follow_118 : decode cX7_follow 118 = .ok (.iload 6, 2) := by decide +kernel
theorem dX7_follow_120 : decode cX7_follow 120 = .ok (.ifCond .eq 11, 3) := by decide +kernel
theorem dX7_follow_123 : decode cX7_follow 123 = .ok (.aload_n 2, 1) := by decide +kernel
theorem dX7_follow_124 : decode cX7_follow 124 = .ok (.iload 4, 2) := by decide +kernel
theorem dX7_follow_126 : decode cX7_follow 126 = .ok (.iload 5, 2) := by decide +kernel
theorem dX7_follow_128 : decode cX7_follow 128 = .ok (.invokevirtual 110, 3) := by decide +kernel
theorem dX7_follow_131 : decode cX7_follow 131 = .ok (.iload 6, 2) := by decide +kernel
theorem dX7_follow_133 : decode cX7_follow 133 = .ok (.ireturn, 1) := by decide +kernel
theorem dX8_init_0 : decode cX8_init 0 = .ok (.aload_n 0, 1) := by decide +kernel
theorem dX8_init_1 : decode cX8_init 1 = .ok (.invokespecial 1, 3) := by decide +kernel
theorem dX8_init_4 : decode cX8_init 4 = .ok (.aload_n 0, 1) := by decide +kernel
theorem dX8_init_5 : decode cX8_init 5 = .ok (.new 7, 3) := by decide +kernel
theorem dX8_init_8 : decode cX8_init 8 = .ok (.dup, 1) := by decide +kernel
theorem dX8_init_9 : decode cX8_init 9 = .ok (.invokespecial 9, 3) := by decide +kernel
theorem dX8_init_12 : decode cX8_init 12 = .ok (.putfield 10, 3) := by decide +kernel
theorem dX8_init_15 : decode cX8_init 15 = .ok (.aload_n 0, 1) := by decide +kernel
theorem dX8_init_16 : decode cX8_init 16 = .ok (.new 16, 3) := by decide +kernel
theorem dX8_init_19 : decode cX8_init 19 = .ok (.dup, 1) := by decide +kernel
theorem dX8_init_20 : decode cX8_init 20 = .ok (.invokespecial 18, 3) := by decide +kernel
theorem dX8_init_23 : decode cX8_init 23 = .ok (.putfield 19, 3) := by decide +kernel
theorem dX8_init_26 : decode cX8_init 26 = .ok (.aload_n 0, 1) := by decide +kernel
theorem dX8_init_27 : decode cX8_init 27 = .ok (.new 16, 3) := by decide +kernel
theorem dX8_init_30 : decode cX8_init 30 = .ok (.dup, 1) := by decide +kernel
theorem dX8_init_31 : decode cX8_init 31 = .ok (.invokespecial 18, 3) := by decide +kernel
theorem dX8_init_34 : decode cX8_init 34 = .ok (.putfield 23, 3) := by decide +kernel
theorem dX8_init_37 : decode cX8_init 37 = .ok (.aload_n 0, 1) := by decide +kernel
theorem dX8_init_38 : decode cX8_init 38 = .ok (.new 26, 3) := by decide +kernel
theorem dX8_init_41 : decode cX8_init 41 = .ok (.dup, 1) := by decide +kernel
theorem dX8_init_42 : decode cX8_init 42 = .ok (.invokespecial 28, 3) := by decide +kernel
theorem dX8_init_45 : decode cX8_init 45 = .ok (.putfield 29, 3) := by decide +kernel
theorem dX8_init_48 : decode cX8_init 48 = .ok (.aload_n 0, 1) := by decide +kernel
theorem dX8_init_49 : decode cX8_init 49 = .ok (.new 33, 3) := by decide +kernel
theorem dX8_init_52 : decode cX8_init 52 = .ok (.dup, 1) := by decide +kernel
theorem dX8_init_53 : decode cX8_init 53 = .ok (.invokespecial 35, 3) := by decide +kernel
theorem dX8_init_56 : decode cX8_init 56 = .ok (.putfield 36, 3) := by decide +kernel
theorem dX8_init_59 : decode cX8_init 59 = .ok (.aload_n 0, 1) := by decide +kernel
theorem dX8_init_60 : decode cX8_init 60 = .ok (.iconst 4, 1) := by decide +kernel
theorem dX8_init_61 : decode cX8_init 61 = .ok (.anewarray 40, 3) := by decide +kernel
theorem dX8_init_64 : decode cX8_init 64 = .ok (.putfield 42, 3) := by decide +kernel
theorem dX8_init_67 : decode cX8_init 67 = .ok (.aload_n 0, 1) := by decide +kernel
theorem dX8_init_68 : decode cX8_init 68 = .ok (.bipush 16, 2) := by decide +kernel
theorem dX8_init_70 : decode cX8_init 70 = .ok (.anewarray 16, 3) := by decide +kernel
theorem dX8_init_73 : decode cX8_init 73 = .ok (.putfield 46, 3) := by decide +kernel
theorem dX8_init_76 : decode cX8_init 76 = .ok (.aload_n 0, 1) := by decide +kernel
theorem dX8_init_77 : decode cX8_init 77 = .ok (.new 50, 3) := by decide +kernel
theorem dX8_init_80 : decode cX8_init 80 = .ok (.dup, 1) := by decide +kernel
theorem dX8_init_81 : decode cX8_init 81 = .ok (.invokespecial 52, 3) := by decide +kernel
theorem dX8_init_84 : decode cX8_init 84 = .ok (.putfield 53, 3) := by decide +kernel
theorem dX8_init_87 : decode cX8_init 87 = .ok (.aload_n 0, 1) := by decide +kernel
theorem dX8_init_88 : decode cX8_init 88 = .ok (.new 50, 3) := by decide +kernel
theorem dX8_init_91 : decode cX8_init 91 = .ok (.dup, 1) := by decide +kernel
theorem dX8_init_92 : decode cX8_init 92 = .ok (.invokespecial 52, 3) := by decide +kernel
theorem dX8_init_95 : decode cX8_init 95 = .ok (.putfield 57, 3) := by decide +kernel
theorem dX8_init_98 : decode cX8_init 98 = .ok (.aload_n 0, 1) := by decide +kernel
theorem dX8_init_99 : decode cX8_init 99 = .ok (.new 60, 3) := by decide +kernel
theorem dX8_init_102 : decode cX8_init 102 = .ok (.dup, 1) := by decide +kernel
theorem dX8_init_103 : decode cX8_init 103 = .ok (.invokespecial 62, 3) := by decide +kernel
theorem dX8_init_106 : decode cX8_init 106 = .ok (.putfield 63, 3) := by decide +kernel
theorem dX8_init_109 : decode cX8_init 109 = .ok (.aload_n 0, 1) := by decide +kernel
theorem dX8_init_110 : decode cX8_init 110 = .ok (.new 60, 3) := by decide +kernel
theorem dX8_init_113 : decode cX8_init 113 = .ok (.dup, 1) := by decide +kernel
theorem dX8_init_114 : decode cX8_init 114 = .ok (.invokespecial 62, 3) := by decide +kernel
theorem dX8_init_117 : decode cX8_init 117 = .ok (.putfield 67, 3) := by decide +kernel
theorem dX8_init_120 : decode cX8_init 120 = .ok (.iconst 0, 1) := by decide +kernel
theorem dX8_init_121 : decode cX8_init 121 = .ok (.istore_n 1, 1) := by decide +kernel
theorem dX8_init_122 : decode cX8_init 122 = .ok (.iload_n 1, 1) := by decide +kernel
theorem dX8_init_123 : decode cX8_init 123 = .ok (.iconst 4, 1) := by decide +kernel
theorem dX8_init_124 : decode cX8_init 124 = .ok (.if_icmp .ge 22, 3) := by decide +kernel
theorem dX8_init_127 : decode cX8_init 127 = .ok (.aload_n 0, 1) := by decide +kernel
theorem dX8_init_128 : decode cX8_init 128 = .ok (.getfield 42, 3) := by decide +kernel
theorem dX8_init_131 : decode cX8_init 131 = .ok (.iload_n 1, 1) := by decide +kernel
theorem dX8_init_132 : decode cX8_init 132 = .ok (.new 40, 3) := by decide +kernel
theorem dX8_init_135 : decode cX8_init 135 = .ok (.dup, 1) := by decide +kernel
theorem dX8_init_136 : decode cX8_init 136 = .ok (.invokespecial 70, 3) := by decide +kernel
theorem dX8_init_139 : decode cX8_init 139 = .ok (.aastore, 1) := by decide +kernel
theorem dX8_init_140 : decode cX8_init 140 = .ok (.iinc 1 1, 3) := by decide +kernel
theorem dX8_init_143 : decode cX8_init 143 = .ok (.goto (-21), 3) := by decide +kernel
theorem dX8_init_146 : decode cX8_init 146 = .ok (.iconst 0, 1) := by decide +kernel
theorem dX8_init_147 : decode cX8_init 147 = .ok (.istore_n 1, 1) := by decide +kernel
theorem dX8_init_148 : decode cX8_init 148 = .ok (.iload_n 1, 1) := by decide +kernel
theorem dX8_init_149 : decode cX8_init 149 = .ok (.bipush 16, 2) := by decide +kernel
theorem dX8_init_151 : decode cX8_init 151 = .ok (.if_icmp .ge 22, 3) := by decide +kernel
theorem dX8_init_154 : decode cX8_init 154 = .ok (.aload_n 0, 1) := by decide +kernel
theorem dX8_init_155 : decode cX8_init 155 = .ok (.getfield 46, 3) := by decide +kernel
theorem dX8_init_158 : decode cX8_init 158 = .ok (.iload_n 1, 1) := by decide +kernel
theorem dX8_init_159 : decode cX8_init 159 = .ok (.new 16, 3) := by decide +kernel
theorem dX8_init_162 : decode cX8_init 162 = .ok (.dup, 1) := by decide +kernel
theorem dX8_init_163 : decode cX8_init 163 = .ok (.invokespecial 18, 3) := by decide +kernel
theorem dX8_init_166 : decode cX8_init 166 = .ok (.aastore, 1) := by decide +kernel
theorem dX8_init_167 : decode cX8_init 167 = .ok (.iinc 1 1, 3) := by decide +kernel
theorem dX8_init_170 : decode cX8_init 170 = .ok (.goto (-22), 3) := by decide +kernel
theorem dX8_init_173 : decode cX8_init 173 = .ok (.return_, 1) := by decide +kernel
theorem dX8_feed_0 : decode cX8_feed 0 = .ok (.aload_n 0, 1) := by decide +kernel
theorem dX8_feed_1 : decode cX8_feed 1 = .ok (.getfield 10, 3) := by decide +kernel
theorem dX8_feed_4 : decode cX8_feed 4 = .ok (.lload_n 1, 1) := by decide +kernel
theorem dX8_feed_5 : decode cX8_feed 5 = .ok (.invokevirtual 71, 3) := by decide +kernel
theorem dX8_feed_8 : decode cX8_feed 8 = .ok (.aload_n 0, 1) := by decide +kernel
theorem dX8_feed_9 : decode cX8_feed 9 = .ok (.getfield 10, 3) := by decide +kernel
theorem dX8_feed_12 : decode cX8_feed 12 = .ok (.lload_n 3, 1) := by decide +kernel
theorem dX8_feed_13 : decode cX8_feed 13 = .ok (.invokevirtual 71, 3) := by decide +kernel
theorem dX8_feed_16 : decode cX8_feed 16 = .ok (.aload_n 0, 1) := by decide +kernel
theorem dX8_feed_17 : decode cX8_feed 17 = .ok (.getfield 10, 3) := by decide +kernel
theorem dX8_feed_20 : decode cX8_feed 20 = .ok (.lload 5, 2) := by decide +kernel
theorem dX8_feed_22 : decode cX8_feed 22 = .ok (.invokevirtual 71, 3) := by decide +kernel
theorem dX8_feed_25 : decode cX8_feed 25 = .ok (.aload_n 0, 1) := by decide +kernel
theorem dX8_feed_26 : decode cX8_feed 26 = .ok (.getfield 10, 3) := by decide +kernel
theorem dX8_feed_29 : decode cX8_feed 29 = .ok (.getfield 75, 3) := by decide +kernel
theorem dX8_feed_32 : decode cX8_feed 32 = .ok (.ireturn, 1) := by decide +kernel
theorem dX8_terrace_0 : decode cX8_terrace 0 = .ok (.aload_n 0, 1) := by decide +kernel
theorem dX8_terrace_1 : decode cX8_terrace 1 = .ok (.getfield 57, 3) := by decide +kernel
theorem dX8_terrace_4 : decode cX8_terrace 4 = .ok (.aload_n 0, 1) := by decide +kernel
theorem dX8_terrace_5 : decode cX8_terrace 5 = .ok (.getfield 10, 3) := by decide +kernel
theorem dX8_terrace_8 : decode cX8_terrace 8 = .ok (.invokevirtual 79, 3) := by decide +kernel
theorem dX8_terrace_11 : decode cX8_terrace 11 = .ok (.istore_n 1, 1) := by decide +kernel
theorem dX8_terrace_12 : decode cX8_terrace 12 = .ok (.iload_n 1, 1) := by decide +kernel
theorem dX8_terrace_13 : decode cX8_terrace 13 = .ok (.ifCond .eq 5, 3) := by decide +kernel
theorem dX8_terrace_16 : decode cX8_terrace 16 = .ok (.iload_n 1, 1) := by decide +kernel
theorem dX8_terrace_17 : decode cX8_terrace 17 = .ok (.ireturn, 1) := by decide +kernel
theorem dX8_terrace_18 : decode cX8_terrace 18 = .ok (.aload_n 0, 1) := by decide +kernel
theorem dX8_terrace_19 : decode cX8_terrace 19 = .ok (.getfield 53, 3) := by decide +kernel
theorem dX8_terrace_22 : decode cX8_terrace 22 = .ok (.astore_n 2, 1) := by decide +kernel
theorem dX8_terrace_23 : decode cX8_terrace 23 = .ok (.aload_n 0, 1) := by decide +kernel
theorem dX8_terrace_24 : decode cX8_terrace 24 = .ok (.aload_n 0, 1) := by decide +kernel
theorem dX8_terrace_25 : decode cX8_terrace 25 = .ok (.getfield 57, 3) := by decide +kernel
theorem dX8_terrace_28 : decode cX8_terrace 28 = .ok (.putfield 53, 3) := by decide +kernel
theorem dX8_terrace_31 : decode cX8_terrace 31 = .ok (.aload_n 0, 1) := by decide +kernel
theorem dX8_terrace_32 : decode cX8_terrace 32 = .ok (.aload_n 2, 1) := by decide +kernel
theorem dX8_terrace_33 : decode cX8_terrace 33 = .ok (.putfield 57, 3) := by decide +kernel
theorem dX8_terrace_36 : decode cX8_terrace 36 = .ok (.aload_n 0, 1) := by decide +kernel
theorem dX8_terrace_37 : decode cX8_terrace 37 = .ok (.getfield 19, 3) := by decide +kernel
theorem dX8_terrace_40 : decode cX8_terrace 40 = .ok (.aload_n 0, 1) := by decide +kernel
theorem dX8_terrace_41 : decode cX8_terrace 41 = .ok (.getfield 53, 3) := by decide +kernel
theorem dX8_terrace_44 : decode cX8_terrace 44 = .ok (.invokevirtual 83, 3) := by decide +kernel
theorem dX8_terrace_47 : decode cX8_terrace 47 = .ok (.aload_n 0, 1) := by decide +kernel
theorem dX8_terrace_48 : decode cX8_terrace 48 = .ok (.getfield 63, 3) := by decide +kernel
theorem dX8_terrace_51 : decode cX8_terrace 51 = .ok (.iconst 0, 1) := by decide +kernel
theorem dX8_terrace_52 : decode cX8_terrace 52 = .ok (.putfield 87, 3) := by decide +kernel
theorem dX8_terrace_55 : decode cX8_terrace 55 = .ok (.aload_n 0, 1) := by decide +kernel
theorem dX8_terrace_56 : decode cX8_terrace 56 = .ok (.getfield 29, 3) := by decide +kernel
theorem dX8_terrace_59 : decode cX8_terrace 59 = .ok (.iconst 0, 1) := by decide +kernel
theorem dX8_terrace_60 : decode cX8_terrace 60 = .ok (.putfield 90, 3) := by decide +kernel
theorem dX8_terrace_63 : decode cX8_terrace 63 = .ok (.aload_n 0, 1) := by decide +kernel
theorem dX8_terrace_64 : decode cX8_terrace 64 = .ok (.iconst 0, 1) := by decide +kernel
theorem dX8_terrace_65 : decode cX8_terrace 65 = .ok (.putfield 93, 3) := by decide +kernel
theorem dX8_terrace_68 : decode cX8_terrace 68 = .ok (.iconst 0, 1) := by decide +kernel
theorem dX8_terrace_69 : decode cX8_terrace 69 = .ok (.istore_n 3, 1) := by decide +kernel
theorem dX8_terrace_70 : decode cX8_terrace 70 = .ok (.iload_n 3, 1) := by decide +kernel
theorem dX8_terrace_71 : decode cX8_terrace 71 = .ok (.iconst 4, 1) := by decide +kernel
theorem dX8_terrace_72 : decode cX8_terrace 72 = .ok (.if_icmp .ge 19, 3) := by decide +kernel
theorem dX8_terrace_75 : decode cX8_terrace 75 = .ok (.aload_n 0, 1) := by decide +kernel
theorem dX8_terrace_76 : decode cX8_terrace 76 = .ok (.getfield 42, 3) := by decide +kernel
theorem dX8_terrace_79 : decode cX8_terrace 79 = .ok (.iload_n 3, 1) := by decide +kernel
theorem dX8_terrace_80 : decode cX8_terrace 80 = .ok (.aaload, 1) := by decide +kernel
theorem dX8_terrace_81 : decode cX8_terrace 81 = .ok (.iconst 0, 1) := by decide +kernel
theorem dX8_terrace_82 : decode cX8_terrace 82 = .ok (.putfield 96, 3) := by decide +kernel
theorem dX8_terrace_85 : decode cX8_terrace 85 = .ok (.iinc 3 1, 3) := by decide +kernel
theorem dX8_terrace_88 : decode cX8_terrace 88 = .ok (.goto (-18), 3) := by decide +kernel
theorem dX8_terrace_91 : decode cX8_terrace 91 = .ok (.iconst 0, 1) := by decide +kernel
theorem dX8_terrace_92 : decode cX8_terrace 92 = .ok (.ireturn, 1) := by decide +kernel
theorem dX8_winter_0 : decode cX8_winter 0 = .ok (.aload_n 0, 1) := by decide +kernel
theorem dX8_winter_1 : decode cX8_winter 1 = .ok (.getfield 67, 3) := by decide +kernel
theorem dX8_winter_4 : decode cX8_winter 4 = .ok (.aload_n 0, 1) := by decide +kernel
theorem dX8_winter_5 : decode cX8_winter 5 = .ok (.getfield 10, 3) := by decide +kernel
theorem dX8_winter_8 : decode cX8_winter 8 = .ok (.aload_n 0, 1) := by decide +kernel
theorem dX8_winter_9 : decode cX8_winter 9 = .ok (.getfield 53, 3) := by decide +kernel
theorem dX8_winter_12 : decode cX8_winter 12 = .ok (.invokevirtual 100, 3) := by decide +kernel
theorem dX8_winter_15 : decode cX8_winter 15 = .ok (.istore_n 1, 1) := by decide +kernel
theorem dX8_winter_16 : decode cX8_winter 16 = .ok (.iload_n 1, 1) := by decide +kernel
theorem dX8_winter_17 : decode cX8_winter 17 = .ok (.ifCond .eq 5, 3) := by decide +kernel
theorem dX8_winter_20 : decode cX8_winter 20 = .ok (.iload_n 1, 1) := by decide +kernel
theorem dX8_winter_21 : decode cX8_winter 21 = .ok (.ireturn, 1) := by decide +kernel
theorem dX8_winter_22 : decode cX8_winter 22 = .ok (.aload_n 0, 1) := by decide +kernel
theorem dX8_winter_23 : decode cX8_winter 23 = .ok (.getfield 63, 3) := by decide +kernel
theorem dX8_winter_26 : decode cX8_winter 26 = .ok (.astore_n 2, 1) := by decide +kernel
theorem dX8_winter_27 : decode cX8_winter 27 = .ok (.aload_n 0, 1) := by decide +kernel
theorem dX8_winter_28 : decode cX8_winter 28 = .ok (.aload_n 0, 1) := by decide +kernel
theorem dX8_winter_29 : decode cX8_winter 29 = .ok (.getfield 67, 3) := by decide +kernel
theorem dX8_winter_32 : decode cX8_winter 32 = .ok (.putfield 63, 3) := by decide +kernel
theorem dX8_winter_35 : decode cX8_winter 35 = .ok (.aload_n 0, 1) := by decide +kernel
theorem dX8_winter_36 : decode cX8_winter 36 = .ok (.aload_n 2, 1) := by decide +kernel
theorem dX8_winter_37 : decode cX8_winter 37 = .ok (.putfield 67, 3) := by decide +kernel
theorem dX8_winter_40 : decode cX8_winter 40 = .ok (.iconst 0, 1) := by decide +kernel
theorem dX8_winter_41 : decode cX8_winter 41 = .ok (.ireturn, 1) := by decide +kernel
theorem dX8_hole_0 : decode cX8_hole 0 = .ok (.aload_n 0, 1) := by decide +kernel
theorem dX8_hole_1 : decode cX8_hole 1 = .ok (.getfield 53, 3) := by decide +kernel
theorem dX8_hole_4 : decode cX8_hole 4 = .ok (.iload_n 1, 1) := by decide +kernel
theorem dX8_hole_5 : decode cX8_hole 5 = .ok (.invokevirtual 103, 3) := by decide +kernel
theorem dX8_hole_8 : decode cX8_hole 8 = .ok (.ifCond .ne 5, 3) := by decide +kernel
theorem dX8_hole_11 : decode cX8_hole 11 = .ok (.iconst (-1), 1) := by decide +kernel
theorem dX8_hole_12 : decode cX8_hole 12 = .ok (.ireturn, 1) := by decide +kernel
theorem dX8_hole_13 : decode cX8_hole 13 = .ok (.iload_n 2, 1) := by decide +kernel
theorem dX8_hole_14 : decode cX8_hole 14 = .ok (.tableswitch 101 0 5 #[38, 48, 58, 68, 78, 88], 38) := by decide +kernel
theorem dX8_hole_52 : decode cX8_hole 52 = .ok (.aload_n 0, 1) := by decide +kernel
theorem dX8_hole_53 : decode cX8_hole 53 = .ok (.getfield 53, 3) := by decide +kernel
theorem dX8_hole_56 : decode cX8_hole 56 = .ok (.getfield 107, 3) := by decide +kernel
theorem dX8_hole_59 : decode cX8_hole 59 = .ok (.iload_n 1, 1) := by decide +kernel
theorem dX8_hole_60 : decode cX8_hole 60 = .ok (.iaload, 1) := by decide +kernel
theorem dX8_hole_61 : decode cX8_hole 61 = .ok (.ireturn, 1) := by decide +kernel
theorem dX8_hole_62 : decode cX8_hole 62 = .ok (.aload_n 0, 1) := by decide +kernel
theorem dX8_hole_63 : decode cX8_hole 63 = .ok (.getfield 19, 3) := by decide +kernel
theorem dX8_hole_66 : decode cX8_hole 66 = .ok (.getfield 111, 3) := by decide +kernel
theorem dX8_hole_69 : decode cX8_hole 69 = .ok (.iload_n 1, 1) := by decide +kernel
theorem dX8_hole_70 : decode cX8_hole 70 = .ok (.iaload, 1) := by decide +kernel
theorem dX8_hole_71 : decode cX8_hole 71 = .ok (.ireturn, 1) := by decide +kernel
theorem dX8_hole_72 : decode cX8_hole 72 = .ok (.aload_n 0, 1) := by decide +kernel
theorem dX8_hole_73 : decode cX8_hole 73 = .ok (.getfield 53, 3) := by decide +kernel
theorem dX8_hole_76 : decode cX8_hole 76 = .ok (.getfield 114, 3) := by decide +kernel
theorem dX8_hole_79 : decode cX8_hole 79 = .ok (.iload_n 1, 1) := by decide +kernel
theorem dX8_hole_80 : decode cX8_hole 80 = .ok (.iaload, 1) := by decide +kernel
theorem dX8_hole_81 : decode cX8_hole 81 = .ok (.ireturn, 1) := by decide +kernel
theorem dX8_hole_82 : decode cX8_hole 82 = .ok (.aload_n 0, 1) := by decide +kernel
theorem dX8_hole_83 : decode cX8_hole 83 = .ok (.getfield 19, 3) := by decide +kernel
theorem dX8_hole_86 : decode cX8_hole 86 = .ok (.getfield 117, 3) := by decide +kernel
theorem dX8_hole_89 : decode cX8_hole 89 = .ok (.iload_n 1, 1) := by decide +kernel
theorem dX8_hole_90 : decode cX8_hole 90 = .ok (.iaload, 1) := by decide +kernel
theorem dX8_hole_91 : decode cX8_hole 91 = .ok (.ireturn, 1) := by decide +kernel
theorem dX8_hole_92 : decode cX8_hole 92 = .ok (.aload_n 0, 1) := by decide +kernel
theorem dX8_hole_93 : decode cX8_hole 93 = .ok (.getfield 53, 3) := by decide +kernel
theorem dX8_hole_96 : decode cX8_hole 96 = .ok (.getfield 120, 3) := by decide +kernel
theorem dX8_hole_99 : decode cX8_hole 99 = .ok (.iload_n 1, 1) := by decide +kernel
theorem dX8_hole_100 : decode cX8_hole 100 = .ok (.iaload, 1) := by decide +kernel
theorem dX8_hole_101 : decode cX8_hole 101 = .ok (.ireturn, 1) := by decide +kernel
theorem dX8_hole_102 : decode cX8_hole 102 = .ok (.aload_n 0, 1) := by decide +kernel
theorem dX8_hole_103 : decode cX8_hole 103 = .ok (.getfield 19, 3) := by decide +kernel
theorem dX8_hole_106 : decode cX8_hole 106 = .ok (.aload_n 0, 1) := by decide +kernel
theorem dX8_hole_107 : decode cX8_hole 107 = .ok (.getfield 53, 3) := by decide +kernel
theorem dX8_hole_110 : decode cX8_hole 110 = .ok (.iload_n 1, 1) := by decide +kernel
theorem dX8_hole_111 : decode cX8_hole 111 = .ok (.invokevirtual 123, 3) := by decide +kernel
theorem dX8_hole_114 : decode cX8_hole 114 = .ok (.ireturn, 1) := by decide +kernel
theorem dX8_hole_115 : decode cX8_hole 115 = .ok (.iconst (-1), 1) := by decide +kernel
theorem dX8_hole_116 : decode cX8_hole 116 = .ok (.ireturn, 1) := by decide +kernel
theorem dX8_guest_0 : decode cX8_guest 0 = .ok (.aload_n 0, 1) := by decide +kernel
theorem dX8_guest_1 : decode cX8_guest 1 = .ok (.getfield 53, 3) := by decide +kernel
theorem dX8_guest_4 : decode cX8_guest 4 = .ok (.iload_n 1, 1) := by decide +kernel
theorem dX8_guest_5 : decode cX8_guest 5 = .ok (.invokevirtual 127, 3) := by decide +kernel
theorem dX8_guest_8 : decode cX8_guest 8 = .ok (.ifCond .ne 6, 3) := by decide +kernel
theorem dX8_guest_11 : decode cX8_guest 11 = .ok (.bipush (-2), 2) := by decide +kernel
theorem dX8_guest_13 : decode cX8_guest 13 = .ok (.ireturn, 1) := by decide +kernel
theorem dX8_guest_14 : decode cX8_guest 14 = .ok (.iload_n 2, 1) := by decide +kernel
theorem dX8_guest_15 : decode cX8_guest 15 = .ok (.tableswitch 91 0 4 #[33, 47, 57, 66, 78], 33) := by decide +kernel
theorem dX8_guest_48 : decode cX8_guest 48 = .ok (.aload_n 0, 1) := by decide +kernel
theorem dX8_guest_49 : decode cX8_guest 49 = .ok (.getfield 53, 3) := by decide +kernel
theorem dX8_guest_52 : decode cX8_guest 52 = .ok (.getfield 130, 3) := by decide +kernel
theorem dX8_guest_55 : decode cX8_guest 55 = .ok (.iload_n 1, 1) := by decide +kernel
theorem dX8_guest_56 : decode cX8_guest 56 = .ok (.iaload, 1) := by decide +kernel
theorem dX8_guest_57 : decode cX8_guest 57 = .ok (.sipush 143, 3) := by decide +kernel
theorem dX8_guest_60 : decode cX8_guest 60 = .ok (.isub, 1) := by decide +kernel
theorem dX8_guest_61 : decode cX8_guest 61 = .ok (.ireturn, 1) := by decide +kernel
theorem dX8_guest_62 : decode cX8_guest 62 = .ok (.aload_n 0, 1) := by decide +kernel
theorem dX8_guest_63 : decode cX8_guest 63 = .ok (.getfield 53, 3) := by decide +kernel
theorem dX8_guest_66 : decode cX8_guest 66 = .ok (.getfield 133, 3) := by decide +kernel
theorem dX8_guest_69 : decode cX8_guest 69 = .ok (.iload_n 1, 1) := by decide +kernel
theorem dX8_guest_70 : decode cX8_guest 70 = .ok (.iaload, 1) := by decide +kernel
theorem dX8_guest_71 : decode cX8_guest 71 = .ok (.ireturn, 1) := by decide +kernel
theorem dX8_guest_72 : decode cX8_guest 72 = .ok (.aload_n 0, 1) := by decide +kernel
theorem dX8_guest_73 : decode cX8_guest 73 = .ok (.getfield 19, 3) := by decide +kernel
theorem dX8_guest_76 : decode cX8_guest 76 = .ok (.iload_n 1, 1) := by decide +kernel
theorem dX8_guest_77 : decode cX8_guest 77 = .ok (.invokevirtual 136, 3) := by decide +kernel
theorem dX8_guest_80 : decode cX8_guest 80 = .ok (.ireturn, 1) := by decide +kernel
theorem dX8_guest_81 : decode cX8_guest 81 = .ok (.aload_n 0, 1) := by decide +kernel
theorem dX8_guest_82 : decode cX8_guest 82 = .ok (.getfield 19, 3) := by decide +kernel
theorem dX8_guest_85 : decode cX8_guest 85 = .ok (.getfield 140, 3) := by decide +kernel
theorem dX8_guest_88 : decode cX8_guest 88 = .ok (.iload_n 1, 1) := by decide +kernel
theorem dX8_guest_89 : decode cX8_guest 89 = .ok (.ishr, 1) := by decide +kernel
theorem dX8_guest_90 : decode cX8_guest 90 = .ok (.iconst 1, 1) := by decide +kernel
theorem dX8_guest_91 : decode cX8_guest 91 = .ok (.iand, 1) := by decide +kernel
theorem dX8_guest_92 : decode cX8_guest 92 = .ok (.ireturn, 1) := by decide +kernel
theorem dX8_guest_93 : decode cX8_guest 93 = .ok (.aload_n 0, 1) := by decide +kernel
theorem dX8_guest_94 : decode cX8_guest 94 = .ok (.getfield 19, 3) := by decide +kernel
theorem dX8_guest_97 : decode cX8_guest 97 = .ok (.aload_n 0, 1) := by decide +kernel
theorem dX8_guest_98 : decode cX8_guest 98 = .ok (.getfield 53, 3) := by decide +kernel
theorem dX8_guest_101 : decode cX8_guest 101 = .ok (.iload_n 1, 1) := by decide +kernel
theorem dX8_guest_102 : decode cX8_guest 102 = .ok (.invokevirtual 143, 3) := by decide +kernel
theorem dX8_guest_105 : decode cX8_guest 105 = .ok (.ireturn, 1) := by decide +kernel
theorem dX8_guest_106 : decode cX8_guest 106 = .ok (.bipush (-2), 2) := by decide +kernel
theorem dX8_guest_108 : decode cX8_guest 108 = .ok (.ireturn, 1) := by decide +kernel
theorem dX8_down_0 : decode cX8_down 0 = .ok (.aload_n 0, 1) := by decide +kernel
theorem dX8_down_1 : decode cX8_down 1 = .ok (.getfield 19, 3) := by decide +kernel
theorem dX8_down_4 : decode cX8_down 4 = .ok (.aload_n 0, 1) := by decide +kernel
theorem dX8_down_5 : decode cX8_down 5 = .ok (.getfield 53, 3) := by decide +kernel
theorem dX8_down_8 : decode cX8_down 8 = .ok (.iload_n 1, 1) := by decide +kernel
theorem dX8_down_9 : decode cX8_down 9 = .ok (.iload_n 2, 1) := by decide +kernel
theorem dX8_down_10 : decode cX8_down 10 = .ok (.invokevirtual 146, 3) := by decide +kernel
theorem dX8_down_13 : decode cX8_down 13 = .ok (.ifCond .ne 5, 3) := by decide +kernel
theorem dX8_down_16 : decode cX8_down 16 = .ok (.iconst 0, 1) := by decide +kernel
theorem dX8_down_17 : decode cX8_down 17 = .ok (.ireturn, 1) := by decide +kernel
theorem dX8_down_18 : decode cX8_down 18 = .ok (.aload_n 0, 1) := by decide +kernel
theorem dX8_down_19 : decode cX8_down 19 = .ok (.invokevirtual 150, 3) := by decide +kernel
theorem dX8_down_22 : decode cX8_down 22 = .ok (.aload_n 0, 1) := by decide +kernel
theorem dX8_down_23 : decode cX8_down 23 = .ok (.getfield 19, 3) := by decide +kernel
theorem dX8_down_26 : decode cX8_down 26 = .ok (.iload_n 1, 1) := by decide +kernel
theorem dX8_down_27 : decode cX8_down 27 = .ok (.iload_n 2, 1) := by decide +kernel
theorem dX8_down_28 : decode cX8_down 28 = .ok (.invokevirtual 153, 3) := by decide +kernel
theorem dX8_down_31 : decode cX8_down 31 = .ok (.iconst 1, 1) := by decide +kernel
theorem dX8_down_32 : decode cX8_down 32 = .ok (.ireturn, 1) := by decide +kernel
theorem dX8_up_0 : decode cX8_up 0 = .ok (.aload_n 0, 1) := by decide +kernel
theorem dX8_up_1 : decode cX8_up 1 = .ok (.getfield 19, 3) := by decide +kernel
theorem dX8_up_4 : decode cX8_up 4 = .ok (.aload_n 0, 1) := by decide +kernel
theorem dX8_up_5 : decode cX8_up 5 = .ok (.getfield 53, 3) := by decide +kernel
theorem dX8_up_8 : decode cX8_up 8 = .ok (.iload_n 1, 1) := by decide +kernel
theorem dX8_up_9 : decode cX8_up 9 = .ok (.invokevirtual 157, 3) := by decide +kernel
theorem dX8_up_12 : decode cX8_up 12 = .ok (.ifCond .ne 5, 3) := by decide +kernel
theorem dX8_up_15 : decode cX8_up 15 = .ok (.iconst 0, 1) := by decide +kernel
theorem dX8_up_16 : decode cX8_up 16 = .ok (.ireturn, 1) := by decide +kernel
theorem dX8_up_17 : decode cX8_up 17 = .ok (.aload_n 0, 1) := by decide +kernel
theorem dX8_up_18 : decode cX8_up 18 = .ok (.invokevirtual 150, 3) := by decide +kernel
theorem dX8_up_21 : decode cX8_up 21 = .ok (.aload_n 0, 1) := by decide +kernel
theorem dX8_up_22 : decode cX8_up 22 = .ok (.getfield 19, 3) := by decide +kernel
theorem dX8_up_25 : decode cX8_up 25 = .ok (.iload_n 1, 1) := by decide +kernel
theorem dX8_up_26 : decode cX8_up 26 = .ok (.iconst (-1), 1) := by decide +kernel
theorem dX8_up_27 : decode cX8_up 27 = .ok (.invokevirtual 153, 3) := by decide +kernel
theorem dX8_up_30 : decode cX8_up 30 = .ok (.iconst 1, 1) := by decide +kernel
theorem dX8_up_31 : decode cX8_up 31 = .ok (.ireturn, 1) := by decide +kernel
theorem dX8_through_0 : decode cX8_through 0 = .ok (.aload_n 0, 1) := by decide +kernel
theorem dX8_through_1 : decode cX8_through 1 = .ok (.getfield 19, 3) := by decide +kernel
theorem dX8_through_4 : decode cX8_through 4 = .ok (.aload_n 0, 1) := by decide +kernel
theorem dX8_through_5 : decode cX8_through 5 = .ok (.getfield 53, 3) := by decide +kernel
theorem dX8_through_8 : decode cX8_through 8 = .ok (.iload_n 1, 1) := by decide +kernel
theorem dX8_through_9 : decode cX8_through 9 = .ok (.iload_n 2, 1) := by decide +kernel
theorem dX8_through_10 : decode cX8_through 10 = .ok (.invokevirtual 161, 3) := by decide +kernel
theorem dX8_through_13 : decode cX8_through 13 = .ok (.ifCond .ne 5, 3) := by decide +kernel
theorem dX8_through_16 : decode cX8_through 16 = .ok (.iconst 0, 1) := by decide +kernel
theorem dX8_through_17 : decode cX8_through 17 = .ok (.ireturn, 1) := by decide +kernel
theorem dX8_through_18 : decode cX8_through 18 = .ok (.aload_n 0, 1) := by decide +kernel
theorem dX8_through_19 : decode cX8_through 19 = .ok (.invokevirtual 150, 3) := by decide +kernel
theorem dX8_through_22 : decode cX8_through 22 = .ok (.aload_n 0, 1) := by decide +kernel
theorem dX8_through_23 : decode cX8_through 23 = .ok (.getfield 19, 3) := by decide +kernel
theorem dX8_through_26 : decode cX8_through 26 = .ok (.iload_n 1, 1) := by decide +kernel
theorem dX8_through_27 : decode cX8_through 27 = .ok (.iload_n 2, 1) := by decide +kernel
theorem dX8_through_28 : decode cX8_through 28 = .ok (.invokevirtual 153, 3) := by decide +kernel
theorem dX8_through_31 : decode cX8_through 31 = .ok (.iconst 1, 1) := by decide +kernel
theorem dX8_through_32 : decode cX8_through 32 = .ok (.ireturn, 1) := by decide +kernel
theorem dX8_bring_0 : decode cX8_bring 0 = .ok (.aload_n 0, 1) := by decide +kernel
theorem dX8_bring_1 : decode cX8_bring 1 = .ok (.getfield 53, 3) := by decide +kernel
theorem dX8_bring_4 : decode cX8_bring 4 = .ok (.iload_n 1, 1) := by decide +kernel
theorem dX8_bring_5 : decode cX8_bring 5 = .ok (.invokevirtual 103, 3) := by decide +kernel
theorem dX8_bring_8 : decode cX8_bring 8 = .ok (.ifCond .ne 5, 3) := by decide +kernel
theorem dX8_bring_11 : decode cX8_bring 11 = .ok (.iconst (-1), 1) := by decide +kernel
theorem dX8_bring_12 : decode cX8_bring 12 = .ok (.ireturn, 1) := by decide +kernel
theorem dX8_bring_13 : decode cX8_bring 13 = .ok (.aload_n 0, 1) := by decide +kernel
theorem dX8_bring_14 : decode cX8_bring 14 = .ok (.invokevirtual 150, 3) := by decide +kernel
theorem dX8_bring_17 : decode cX8_bring 17 = .ok (.aload_n 0, 1) := by decide +kernel
theorem dX8_bring_18 : decode cX8_bring 18 = .ok (.getfield 19, 3) := by decide +kernel
theorem dX8_bring_21 : decode cX8_bring 21 = .ok (.aload_n 0, 1) := by decide +kernel
theorem dX8_bring_22 : decode cX8_bring 22 = .ok (.getfield 53, 3) := by decide +kernel
theorem dX8_bring_25 : decode cX8_bring 25 = .ok (.iload_n 1, 1) := by decide +kernel
theorem dX8_bring_26 : decode cX8_bring 26 = .ok (.invokevirtual 164, 3) := by decide +kernel
theorem dX8_bring_29 : decode cX8_bring 29 = .ok (.aload_n 0, 1) := by decide +kernel
theorem dX8_bring_30 : decode cX8_bring 30 = .ok (.getfield 19, 3) := by decide +kernel
theorem dX8_bring_33 : decode cX8_bring 33 = .ok (.getfield 111, 3) := by decide +kernel
theorem dX8_bring_36 : decode cX8_bring 36 = .ok (.iload_n 1, 1) := by decide +kernel
theorem dX8_bring_37 : decode cX8_bring 37 = .ok (.iaload, 1) := by decide +kernel
theorem dX8_bring_38 : decode cX8_bring 38 = .ok (.ireturn, 1) := by decide +kernel
theorem dX8_day_0 : decode cX8_day 0 = .ok (.aload_n 0, 1) := by decide +kernel
theorem dX8_day_1 : decode cX8_day 1 = .ok (.invokevirtual 150, 3) := by decide +kernel
theorem dX8_day_4 : decode cX8_day 4 = .ok (.aload_n 0, 1) := by decide +kernel
theorem dX8_day_5 : decode cX8_day 5 = .ok (.getfield 19, 3) := by decide +kernel
theorem dX8_day_8 : decode cX8_day 8 = .ok (.aload_n 0, 1) := by decide +kernel
theorem dX8_day_9 : decode cX8_day 9 = .ok (.getfield 53, 3) := by decide +kernel
theorem dX8_day_12 : decode cX8_day 12 = .ok (.invokevirtual 168, 3) := by decide +kernel
theorem dX8_day_15 : decode cX8_day 15 = .ok (.ireturn, 1) := by decide +kernel
theorem dX8_undo_0 : decode cX8_undo 0 = .ok (.aload_n 0, 1) := by decide +kernel
theorem dX8_undo_1 : decode cX8_undo 1 = .ok (.getfield 93, 3) := by decide +kernel
theorem dX8_undo_4 : decode cX8_undo 4 = .ok (.ifCond .ne 5, 3) := by decide +kernel
theorem dX8_undo_7 : decode cX8_undo 7 = .ok (.iconst 0, 1) := by decide +kernel
theorem dX8_undo_8 : decode cX8_undo 8 = .ok (.ireturn, 1) := by decide +kernel
theorem dX8_undo_9 : decode cX8_undo 9 = .ok (.aload_n 0, 1) := by decide +kernel
theorem dX8_undo_10 : decode cX8_undo 10 = .ok (.dup, 1) := by decide +kernel
theorem dX8_undo_11 : decode cX8_undo 11 = .ok (.getfield 93, 3) := by decide +kernel
theorem dX8_undo_14 : decode cX8_undo 14 = .ok (.iconst 1, 1) := by decide +kernel
theorem dX8_undo_15 : decode cX8_undo 15 = .ok (.isub, 1) := by decide +kernel
theorem dX8_undo_16 : decode cX8_undo 16 = .ok (.putfield 93, 3) := by decide +kernel
theorem dX8_undo_19 : decode cX8_undo 19 = .ok (.aload_n 0, 1) := by decide +kernel
theorem dX8_undo_20 : decode cX8_undo 20 = .ok (.aload_n 0, 1) := by decide +kernel
theorem dX8_undo_21 : decode cX8_undo 21 = .ok (.getfield 172, 3) := by decide +kernel
theorem dX8_undo_24 : decode cX8_undo 24 = .ok (.bipush 16, 2) := by decide +kernel
theorem dX8_undo_26 : decode cX8_undo 26 = .ok (.iadd, 1) := by decide +kernel
theorem dX8_undo_27 : decode cX8_undo 27 = .ok (.iconst 1, 1) := by decide +kernel
theorem dX8_undo_28 : decode cX8_undo 28 = .ok (.isub, 1) := by decide +kernel
theorem dX8_undo_29 : decode cX8_undo 29 = .ok (.bipush 16, 2) := by decide +kernel
theorem dX8_undo_31 : decode cX8_undo 31 = .ok (.irem, 1) := by decide +kernel
theorem dX8_undo_32 : decode cX8_undo 32 = .ok (.putfield 172, 3) := by decide +kernel
theorem dX8_undo_35 : decode cX8_undo 35 = .ok (.aload_n 0, 1) := by decide +kernel
theorem dX8_undo_36 : decode cX8_undo 36 = .ok (.getfield 19, 3) := by decide +kernel
theorem dX8_undo_39 : decode cX8_undo 39 = .ok (.aload_n 0, 1) := by decide +kernel
theorem dX8_undo_40 : decode cX8_undo 40 = .ok (.getfield 46, 3) := by decide +kernel
theorem dX8_undo_43 : decode cX8_undo 43 = .ok (.aload_n 0, 1) := by decide +kernel
theorem dX8_undo_44 : decode cX8_undo 44 = .ok (.getfield 172, 3) := by decide +kernel
theorem dX8_undo_47 : decode cX8_undo 47 = .ok (.aaload, 1) := by decide +kernel
theorem dX8_undo_48 : decode cX8_undo 48 = .ok (.invokevirtual 175, 3) := by decide +kernel
theorem dX8_undo_51 : decode cX8_undo 51 = .ok (.iconst 1, 1) := by decide +kernel
theorem dX8_undo_52 : decode cX8_undo 52 = .ok (.ireturn, 1) := by decide +kernel
theorem dX8_judged_0 : decode cX8_judged 0 = .ok (.iload_n 1, 1) := by decide +kernel
theorem dX8_judged_1 : decode cX8_judged 1 = .ok (.ifCond .lt 8, 3) := by decide +kernel
theorem dX8_judged_4 : decode cX8_judged 4 = .ok (.iload_n 1, 1) := by decide +kernel
theorem dX8_judged_5 : decode cX8_judged 5 = .ok (.iconst 2, 1) := by decide +kernel
theorem dX8_judged_6 : decode cX8_judged 6 = .ok (.if_icmp .le 6, 3) := by decide +kernel
theorem dX8_judged_9 : decode cX8_judged 9 = .ok (.bipush (-2), 2) := by decide +kernel
theorem dX8_judged_11 : decode cX8_judged 11 = .ok (.ireturn, 1) := by decide +kernel
theorem dX8_judged_12 : decode cX8_judged 12 = .ok (.aload_n 0, 1) := by decide +kernel
theorem dX8_judged_13 : decode cX8_judged 13 = .ok (.getfield 63, 3) := by decide +kernel
theorem dX8_judged_16 : decode cX8_judged 16 = .ok (.aload_n 0, 1) := by decide +kernel
theorem dX8_judged_17 : decode cX8_judged 17 = .ok (.getfield 53, 3) := by decide +kernel
theorem dX8_judged_20 : decode cX8_judged 20 = .ok (.aload_n 0, 1) := by decide +kernel
theorem dX8_judged_21 : decode cX8_judged 21 = .ok (.getfield 23, 3) := by decide +kernel
theorem dX8_judged_24 : decode cX8_judged 24 = .ok (.iload_n 1, 1) := by decide +kernel
theorem dX8_judged_25 : decode cX8_judged 25 = .ok (.invokevirtual 179, 3) := by decide +kernel
theorem dX8_judged_28 : decode cX8_judged 28 = .ok (.ireturn, 1) := by decide +kernel
theorem dX8_lasts_0 : decode cX8_lasts 0 = .ok (.aload_n 0, 1) := by decide +kernel
theorem dX8_lasts_1 : decode cX8_lasts 1 = .ok (.getfield 53, 3) := by decide +kernel
theorem dX8_lasts_4 : decode cX8_lasts 4 = .ok (.iload_n 1, 1) := by decide +kernel
theorem dX8_lasts_5 : decode cX8_lasts 5 = .ok (.invokevirtual 103, 3) := by decide +kernel
theorem dX8_lasts_8 : decode cX8_lasts 8 = .ok (.ifCond .eq 19, 3) := by decide +kernel
theorem dX8_lasts_11 : decode cX8_lasts 11 = .ok (.aload_n 0, 1) := by decide +kernel
theorem dX8_lasts_12 : decode cX8_lasts 12 = .ok (.getfield 19, 3) := by decide +kernel
theorem dX8_lasts_15 : decode cX8_lasts 15 = .ok (.aload_n 0, 1) := by decide +kernel
theorem dX8_lasts_16 : decode cX8_lasts 16 = .ok (.getfield 53, 3) := by decide +kernel
theorem dX8_lasts_19 : decode cX8_lasts 19 = .ok (.iload_n 1, 1) := by decide +kernel
theorem dX8_lasts_20 : decode cX8_lasts 20 = .ok (.iconst 1, 1) := by decide +kernel
theorem dX8_lasts_21 : decode cX8_lasts 21 = .ok (.invokevirtual 183, 3) := by decide +kernel
theorem dX8_lasts_24 : decode cX8_lasts 24 = .ok (.goto 4, 3) := by decide +kernel
theorem dX8_lasts_27 : decode cX8_lasts 27 = .ok (.iconst (-1), 1) := by decide +kernel
theorem dX8_lasts_28 : decode cX8_lasts 28 = .ok (.ireturn, 1) := by decide +kernel
theorem dX8_safe_0 : decode cX8_safe 0 = .ok (.aload_n 0, 1) := by decide +kernel
theorem dX8_safe_1 : decode cX8_safe 1 = .ok (.getfield 53, 3) := by decide +kernel
theorem dX8_safe_4 : decode cX8_safe 4 = .ok (.iload_n 1, 1) := by decide +kernel
theorem dX8_safe_5 : decode cX8_safe 5 = .ok (.invokevirtual 127, 3) := by decide +kernel
theorem dX8_safe_8 : decode cX8_safe 8 = .ok (.ifCond .eq 14, 3) := by decide +kernel
theorem dX8_safe_11 : decode cX8_safe 11 = .ok (.aload_n 0, 1) := by decide +kernel
theorem dX8_safe_12 : decode cX8_safe 12 = .ok (.getfield 19, 3) := by decide +kernel
theorem dX8_safe_15 : decode cX8_safe 15 = .ok (.iload_n 1, 1) := by decide +kernel
theorem dX8_safe_16 : decode cX8_safe 16 = .ok (.invokevirtual 136, 3) := by decide +kernel
theorem dX8_safe_19 : decode cX8_safe 19 = .ok (.goto 4, 3) := by decide +kernel
theorem dX8_safe_22 : decode cX8_safe 22 = .ok (.iconst (-1), 1) := by decide +kernel
theorem dX8_safe_23 : decode cX8_safe 23 = .ok (.istore_n 2, 1) := by decide +kernel
theorem dX8_safe_24 : decode cX8_safe 24 = .ok (.iload_n 2, 1) := by decide +kernel
theorem dX8_safe_25 : decode cX8_safe 25 = .ok (.iconst (-1), 1) := by decide +kernel
theorem dX8_safe_26 : decode cX8_safe 26 = .ok (.if_icmp .ne 7, 3) := by decide +kernel
theorem dX8_safe_29 : decode cX8_safe 29 = .ok (.iconst (-1), 1) := by decide +kernel
theorem dX8_safe_30 : decode cX8_safe 30 = .ok (.goto 16, 3) := by decide +kernel
theorem dX8_safe_33 : decode cX8_safe 33 = .ok (.aload_n 0, 1) := by decide +kernel
theorem dX8_safe_34 : decode cX8_safe 34 = .ok (.getfield 19, 3) := by decide +kernel
theorem dX8_safe_37 : decode cX8_safe 37 = .ok (.aload_n 0, 1) := by decide +kernel
theorem dX8_safe_38 : decode cX8_safe 38 = .ok (.getfield 53, 3) := by decide +kernel
theorem dX8_safe_41 : decode cX8_safe 41 = .ok (.iload_n 1, 1) := by decide +kernel
theorem dX8_safe_42 : decode cX8_safe 42 = .ok (.iload_n 2, 1) := by decide +kernel
theorem dX8_safe_43 : decode cX8_safe 43 = .ok (.invokevirtual 187, 3) := by decide +kernel
theorem dX8_safe_46 : decode cX8_safe 46 = .ok (.ireturn, 1) := by decide +kernel
theorem dX8_refuge_0 : decode cX8_refuge 0 = .ok (.aload_n 0, 1) := by decide +kernel
theorem dX8_refuge_1 : decode cX8_refuge 1 = .ok (.getfield 53, 3) := by decide +kernel
theorem dX8_refuge_4 : decode cX8_refuge 4 = .ok (.iload_n 1, 1) := by decide +kernel
theorem dX8_refuge_5 : decode cX8_refuge 5 = .ok (.invokevirtual 127, 3) := by decide +kernel
theorem dX8_refuge_8 : decode cX8_refuge 8 = .ok (.ifCond .eq 21, 3) := by decide +kernel
theorem dX8_refuge_11 : decode cX8_refuge 11 = .ok (.aload_n 0, 1) := by decide +kernel
theorem dX8_refuge_12 : decode cX8_refuge 12 = .ok (.getfield 19, 3) := by decide +kernel
theorem dX8_refuge_15 : decode cX8_refuge 15 = .ok (.aload_n 0, 1) := by decide +kernel
theorem dX8_refuge_16 : decode cX8_refuge 16 = .ok (.getfield 53, 3) := by decide +kernel
theorem dX8_refuge_19 : decode cX8_refuge 19 = .ok (.invokevirtual 190, 3) := by decide +kernel
theorem dX8_refuge_22 : decode cX8_refuge 22 = .ok (.iload_n 1, 1) := by decide +kernel
theorem dX8_refuge_23 : decode cX8_refuge 23 = .ok (.ishr, 1) := by decide +kernel
theorem dX8_refuge_24 : decode cX8_refuge 24 = .ok (.iconst 1, 1) := by decide +kernel
theorem dX8_refuge_25 : decode cX8_refuge 25 = .ok (.iand, 1) := by decide +kernel
theorem dX8_refuge_26 : decode cX8_refuge 26 = .ok (.ifCond .ne 5, 3) := by decide +kernel
