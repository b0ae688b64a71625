theorem dX8_refuge_29 : decode cX8_refuge 29 = .ok (.iconst (-1), 1) := by decide +kernel
theorem dX8_refuge_30 : decode cX8_refuge 30 = .ok (.ireturn, 1) := by decide +kernel
theorem dX8_refuge_31 : decode cX8_refuge 31 = .ok (.iconst (-1), 1) := by decide +kernel
theorem dX8_refuge_32 : decode cX8_refuge 32 = .ok (.istore_n 2, 1) := by decide +kernel
theorem dX8_refuge_33 : decode cX8_refuge 33 = .ok (.iconst 0, 1) := by decide +kernel
theorem dX8_refuge_34 : decode cX8_refuge 34 = .ok (.istore_n 3, 1) := by decide +kernel
theorem dX8_refuge_35 : decode cX8_refuge 35 = .ok (.iconst 0, 1) := by decide +kernel
theorem dX8_refuge_36 : decode cX8_refuge 36 = .ok (.istore 4, 2) := by decide +kernel
theorem dX8_refuge_38 : decode cX8_refuge 38 = .ok (.iload 4, 2) := by decide +kernel
theorem dX8_refuge_40 : decode cX8_refuge 40 = .ok (.aload_n 0, 1) := by decide +kernel
theorem dX8_refuge_41 : decode cX8_refuge 41 = .ok (.getfield 53, 3) := by decide +kernel
theorem dX8_refuge_44 : decode cX8_refuge 44 = .ok (.getfield 193, 3) := by decide +kernel
theorem dX8_refuge_47 : decode cX8_refuge 47 = .ok (.if_icmp .ge 69, 3) := by decide +kernel
theorem dX8_refuge_50 : decode cX8_refuge 50 = .ok (.aload_n 0, 1) := by decide +kernel
theorem dX8_refuge_51 : decode cX8_refuge 51 = .ok (.getfield 19, 3) := by decide +kernel
theorem dX8_refuge_54 : decode cX8_refuge 54 = .ok (.aload_n 0, 1) := by decide +kernel
theorem dX8_refuge_55 : decode cX8_refuge 55 = .ok (.getfield 53, 3) := by decide +kernel
theorem dX8_refuge_58 : decode cX8_refuge 58 = .ok (.iload 4, 2) := by decide +kernel
theorem dX8_refuge_60 : decode cX8_refuge 60 = .ok (.iload_n 1, 1) := by decide +kernel
theorem dX8_refuge_61 : decode cX8_refuge 61 = .ok (.invokevirtual 196, 3) := by decide +kernel
theorem dX8_refuge_64 : decode cX8_refuge 64 = .ok (.ifCond .eq 46, 3) := by decide +kernel
theorem dX8_refuge_67 : decode cX8_refuge 67 = .ok (.aload_n 0, 1) := by decide +kernel
theorem dX8_refuge_68 : decode cX8_refuge 68 = .ok (.getfield 19, 3) := by decide +kernel
theorem dX8_refuge_71 : decode cX8_refuge 71 = .ok (.aload_n 0, 1) := by decide +kernel
theorem dX8_refuge_72 : decode cX8_refuge 72 = .ok (.getfield 53, 3) := by decide +kernel
theorem dX8_refuge_75 : decode cX8_refuge 75 = .ok (.iload_n 1, 1) := by decide +kernel
theorem dX8_refuge_76 : decode cX8_refuge 76 = .ok (.iload 4, 2) := by decide +kernel
theorem dX8_refuge_78 : decode cX8_refuge 78 = .ok (.invokevirtual 187, 3) := by decide +kernel
theorem dX8_refuge_81 : decode cX8_refuge 81 = .ok (.istore 5, 2) := by decide +kernel
theorem dX8_refuge_83 : decode cX8_refuge 83 = .ok (.iload 5, 2) := by decide +kernel
theorem dX8_refuge_85 : decode cX8_refuge 85 = .ok (.iconst (-1), 1) := by decide +kernel
theorem dX8_refuge_86 : decode cX8_refuge 86 = .ok (.if_icmp .ne 8, 3) := by decide +kernel
theorem dX8_refuge_89 : decode cX8_refuge 89 = .ok (.bipush 100, 2) := by decide +kernel
theorem dX8_refuge_91 : decode cX8_refuge 91 = .ok (.goto 5, 3) := by decide +kernel
theorem dX8_refuge_94 : decode cX8_refuge 94 = .ok (.iload 5, 2) := by decide +kernel
theorem dX8_refuge_96 : decode cX8_refuge 96 = .ok (.istore 5, 2) := by decide +kernel
theorem dX8_refuge_98 : decode cX8_refuge 98 = .ok (.iload 5, 2) := by decide +kernel
theorem dX8_refuge_100 : decode cX8_refuge 100 = .ok (.iload_n 3, 1) := by decide +kernel
theorem dX8_refuge_101 : decode cX8_refuge 101 = .ok (.if_icmp .le 9, 3) := by decide +kernel
theorem dX8_refuge_104 : decode cX8_refuge 104 = .ok (.iload 5, 2) := by decide +kernel
theorem dX8_refuge_106 : decode cX8_refuge 106 = .ok (.istore_n 3, 1) := by decide +kernel
theorem dX8_refuge_107 : decode cX8_refuge 107 = .ok (.iload 4, 2) := by decide +kernel
theorem dX8_refuge_109 : decode cX8_refuge 109 = .ok (.istore_n 2, 1) := by decide +kernel
theorem dX8_refuge_110 : decode cX8_refuge 110 = .ok (.iinc 4 1, 3) := by decide +kernel
theorem dX8_refuge_113 : decode cX8_refuge 113 = .ok (.goto (-75), 3) := by decide +kernel
theorem dX8_refuge_116 : decode cX8_refuge 116 = .ok (.iload_n 2, 1) := by decide +kernel
theorem dX8_refuge_117 : decode cX8_refuge 117 = .ok (.ireturn, 1) := by decide +kernel
theorem dX8_sacks_0 : decode cX8_sacks 0 = .ok (.iload_n 1, 1) := by decide +kernel
theorem dX8_sacks_1 : decode cX8_sacks 1 = .ok (.iconst 1, 1) := by decide +kernel
theorem dX8_sacks_2 : decode cX8_sacks 2 = .ok (.bipush 30, 2) := by decide +kernel
theorem dX8_sacks_4 : decode cX8_sacks 4 = .ok (.invokestatic 199, 3) := by decide +kernel
theorem dX8_sacks_7 : decode cX8_sacks 7 = .ok (.ifCond .eq 20, 3) := by decide +kernel
theorem dX8_sacks_10 : decode cX8_sacks 10 = .ok (.iload_n 2, 1) := by decide +kernel
theorem dX8_sacks_11 : decode cX8_sacks 11 = .ok (.iconst (-1), 1) := by decide +kernel
theorem dX8_sacks_12 : decode cX8_sacks 12 = .ok (.aload_n 0, 1) := by decide +kernel
theorem dX8_sacks_13 : decode cX8_sacks 13 = .ok (.getfield 53, 3) := by decide +kernel
theorem dX8_sacks_16 : decode cX8_sacks 16 = .ok (.getfield 193, 3) := by decide +kernel
theorem dX8_sacks_19 : decode cX8_sacks 19 = .ok (.iconst 1, 1) := by decide +kernel
theorem dX8_sacks_20 : decode cX8_sacks 20 = .ok (.isub, 1) := by decide +kernel
theorem dX8_sacks_21 : decode cX8_sacks 21 = .ok (.invokestatic 199, 3) := by decide +kernel
theorem dX8_sacks_24 : decode cX8_sacks 24 = .ok (.ifCond .ne 6, 3) := by decide +kernel
theorem dX8_sacks_27 : decode cX8_sacks 27 = .ok (.bipush (-2), 2) := by decide +kernel
theorem dX8_sacks_29 : decode cX8_sacks 29 = .ok (.ireturn, 1) := by decide +kernel
theorem dX8_sacks_30 : decode cX8_sacks 30 = .ok (.aload_n 0, 1) := by decide +kernel
theorem dX8_sacks_31 : decode cX8_sacks 31 = .ok (.getfield 19, 3) := by decide +kernel
theorem dX8_sacks_34 : decode cX8_sacks 34 = .ok (.aload_n 0, 1) := by decide +kernel
theorem dX8_sacks_35 : decode cX8_sacks 35 = .ok (.getfield 53, 3) := by decide +kernel
theorem dX8_sacks_38 : decode cX8_sacks 38 = .ok (.invokevirtual 190, 3) := by decide +kernel
theorem dX8_sacks_41 : decode cX8_sacks 41 = .ok (.aload_n 0, 1) := by decide +kernel
theorem dX8_sacks_42 : decode cX8_sacks 42 = .ok (.getfield 53, 3) := by decide +kernel
theorem dX8_sacks_45 : decode cX8_sacks 45 = .ok (.getfield 203, 3) := by decide +kernel
theorem dX8_sacks_48 : decode cX8_sacks 48 = .ok (.iand, 1) := by decide +kernel
theorem dX8_sacks_49 : decode cX8_sacks 49 = .ok (.ifCond .eq 6, 3) := by decide +kernel
theorem dX8_sacks_52 : decode cX8_sacks 52 = .ok (.bipush (-2), 2) := by decide +kernel
theorem dX8_sacks_54 : decode cX8_sacks 54 = .ok (.ireturn, 1) := by decide +kernel
theorem dX8_sacks_55 : decode cX8_sacks 55 = .ok (.iconst 0, 1) := by decide +kernel
theorem dX8_sacks_56 : decode cX8_sacks 56 = .ok (.istore_n 3, 1) := by decide +kernel
theorem dX8_sacks_57 : decode cX8_sacks 57 = .ok (.iconst 0, 1) := by decide +kernel
theorem dX8_sacks_58 : decode cX8_sacks 58 = .ok (.istore 4, 2) := by decide +kernel
theorem dX8_sacks_60 : decode cX8_sacks 60 = .ok (.iconst 0, 1) := by decide +kernel
theorem dX8_sacks_61 : decode cX8_sacks 61 = .ok (.istore 5, 2) := by decide +kernel
theorem dX8_sacks_63 : decode cX8_sacks 63 = .ok (.iload 5, 2) := by decide +kernel
theorem dX8_sacks_65 : decode cX8_sacks 65 = .ok (.aload_n 0, 1) := by decide +kernel
theorem dX8_sacks_66 : decode cX8_sacks 66 = .ok (.getfield 53, 3) := by decide +kernel
theorem dX8_sacks_69 : decode cX8_sacks 69 = .ok (.getfield 193, 3) := by decide +kernel
theorem dX8_sacks_72 : decode cX8_sacks 72 = .ok (.if_icmp .ge 54, 3) := by decide +kernel
theorem dX8_sacks_75 : decode cX8_sacks 75 = .ok (.aload_n 0, 1) := by decide +kernel
theorem dX8_sacks_76 : decode cX8_sacks 76 = .ok (.getfield 19, 3) := by decide +kernel
theorem dX8_sacks_79 : decode cX8_sacks 79 = .ok (.aload_n 0, 1) := by decide +kernel
theorem dX8_sacks_80 : decode cX8_sacks 80 = .ok (.getfield 53, 3) := by decide +kernel
theorem dX8_sacks_83 : decode cX8_sacks 83 = .ok (.iload 5, 2) := by decide +kernel
theorem dX8_sacks_85 : decode cX8_sacks 85 = .ok (.iload_n 1, 1) := by decide +kernel
theorem dX8_sacks_86 : decode cX8_sacks 86 = .ok (.invokevirtual 206, 3) := by decide +kernel
theorem dX8_sacks_89 : decode cX8_sacks 89 = .ok (.istore 6, 2) := by decide +kernel
theorem dX8_sacks_91 : decode cX8_sacks 91 = .ok (.iload 6, 2) := by decide +kernel
theorem dX8_sacks_93 : decode cX8_sacks 93 = .ok (.iconst 3, 1) := by decide +kernel
theorem dX8_sacks_94 : decode cX8_sacks 94 = .ok (.if_icmp .le 6, 3) := by decide +kernel
theorem dX8_sacks_97 : decode cX8_sacks 97 = .ok (.bipush (-2), 2) := by decide +kernel
theorem dX8_sacks_99 : decode cX8_sacks 99 = .ok (.ireturn, 1) := by decide +kernel
theorem dX8_sacks_100 : decode cX8_sacks 100 = .ok (.iload_n 3, 1) := by decide +kernel
theorem dX8_sacks_101 : decode cX8_sacks 101 = .ok (.iload 6, 2) := by decide +kernel
theorem dX8_sacks_103 : decode cX8_sacks 103 = .ok (.iadd, 1) := by decide +kernel
theorem dX8_sacks_104 : decode cX8_sacks 104 = .ok (.istore_n 3, 1) := by decide +kernel
theorem dX8_sacks_105 : decode cX8_sacks 105 = .ok (.iload 5, 2) := by decide +kernel
theorem dX8_sacks_107 : decode cX8_sacks 107 = .ok (.iload_n 2, 1) := by decide +kernel
theorem dX8_sacks_108 : decode cX8_sacks 108 = .ok (.if_icmp .ne 8, 3) := by decide +kernel
theorem dX8_sacks_111 : decode cX8_sacks 111 = .ok (.iload 6, 2) := by decide +kernel
theorem dX8_sacks_113 : decode cX8_sacks 113 = .ok (.goto 5, 3) := by decide +kernel
theorem dX8_sacks_116 : decode cX8_sacks 116 = .ok (.iload 4, 2) := by decide +kernel
theorem dX8_sacks_118 : decode cX8_sacks 118 = .ok (.istore 4, 2) := by decide +kernel
theorem dX8_sacks_120 : decode cX8_sacks 120 = .ok (.iinc 5 1, 3) := by decide +kernel
theorem dX8_sacks_123 : decode cX8_sacks 123 = .ok (.goto (-60), 3) := by decide +kernel
theorem dX8_sacks_126 : decode cX8_sacks 126 = .ok (.iload_n 2, 1) := by decide +kernel
theorem dX8_sacks_127 : decode cX8_sacks 127 = .ok (.iconst (-1), 1) := by decide +kernel
theorem dX8_sacks_128 : decode cX8_sacks 128 = .ok (.if_icmp .ne 7, 3) := by decide +kernel
theorem dX8_sacks_131 : decode cX8_sacks 131 = .ok (.iload_n 3, 1) := by decide +kernel
theorem dX8_sacks_132 : decode cX8_sacks 132 = .ok (.goto 5, 3) := by decide +kernel
theorem dX8_sacks_135 : decode cX8_sacks 135 = .ok (.iload 4, 2) := by decide +kernel
theorem dX8_sacks_137 : decode cX8_sacks 137 = .ok (.ireturn, 1) := by decide +kernel
theorem dX8_lodging_0 : decode cX8_lodging 0 = .ok (.iload_n 1, 1) := by decide +kernel
theorem dX8_lodging_1 : decode cX8_lodging 1 = .ok (.iconst 1, 1) := by decide +kernel
theorem dX8_lodging_2 : decode cX8_lodging 2 = .ok (.bipush 30, 2) := by decide +kernel
theorem dX8_lodging_4 : decode cX8_lodging 4 = .ok (.invokestatic 199, 3) := by decide +kernel
theorem dX8_lodging_7 : decode cX8_lodging 7 = .ok (.ifCond .eq 20, 3) := by decide +kernel
theorem dX8_lodging_10 : decode cX8_lodging 10 = .ok (.iload_n 2, 1) := by decide +kernel
theorem dX8_lodging_11 : decode cX8_lodging 11 = .ok (.iconst (-1), 1) := by decide +kernel
theorem dX8_lodging_12 : decode cX8_lodging 12 = .ok (.aload_n 0, 1) := by decide +kernel
theorem dX8_lodging_13 : decode cX8_lodging 13 = .ok (.getfield 53, 3) := by decide +kernel
theorem dX8_lodging_16 : decode cX8_lodging 16 = .ok (.getfield 209, 3) := by decide +kernel
theorem dX8_lodging_19 : decode cX8_lodging 19 = .ok (.iconst 1, 1) := by decide +kernel
theorem dX8_lodging_20 : decode cX8_lodging 20 = .ok (.isub, 1) := by decide +kernel
theorem dX8_lodging_21 : decode cX8_lodging 21 = .ok (.invokestatic 199, 3) := by decide +kernel
theorem dX8_lodging_24 : decode cX8_lodging 24 = .ok (.ifCond .ne 6, 3) := by decide +kernel
theorem dX8_lodging_27 : decode cX8_lodging 27 = .ok (.bipush (-2), 2) := by decide +kernel
theorem dX8_lodging_29 : decode cX8_lodging 29 = .ok (.ireturn, 1) := by decide +kernel
theorem dX8_lodging_30 : decode cX8_lodging 30 = .ok (.aload_n 0, 1) := by decide +kernel
theorem dX8_lodging_31 : decode cX8_lodging 31 = .ok (.getfield 23, 3) := by decide +kernel
theorem dX8_lodging_34 : decode cX8_lodging 34 = .ok (.aload_n 0, 1) := by decide +kernel
theorem dX8_lodging_35 : decode cX8_lodging 35 = .ok (.getfield 19, 3) := by decide +kernel
theorem dX8_lodging_38 : decode cX8_lodging 38 = .ok (.invokevirtual 175, 3) := by decide +kernel
theorem dX8_lodging_41 : decode cX8_lodging 41 = .ok (.aload_n 0, 1) := by decide +kernel
theorem dX8_lodging_42 : decode cX8_lodging 42 = .ok (.getfield 36, 3) := by decide +kernel
theorem dX8_lodging_45 : decode cX8_lodging 45 = .ok (.aload_n 0, 1) := by decide +kernel
theorem dX8_lodging_46 : decode cX8_lodging 46 = .ok (.getfield 53, 3) := by decide +kernel
theorem dX8_lodging_49 : decode cX8_lodging 49 = .ok (.aload_n 0, 1) := by decide +kernel
theorem dX8_lodging_50 : decode cX8_lodging 50 = .ok (.getfield 23, 3) := by decide +kernel
theorem dX8_lodging_53 : decode cX8_lodging 53 = .ok (.iload_n 1, 1) := by decide +kernel
theorem dX8_lodging_54 : decode cX8_lodging 54 = .ok (.invokevirtual 212, 3) := by decide +kernel
theorem dX8_lodging_57 : decode cX8_lodging 57 = .ok (.iload_n 2, 1) := by decide +kernel
theorem dX8_lodging_58 : decode cX8_lodging 58 = .ok (.iconst (-1), 1) := by decide +kernel
theorem dX8_lodging_59 : decode cX8_lodging 59 = .ok (.if_icmp .ne 13, 3) := by decide +kernel
theorem dX8_lodging_62 : decode cX8_lodging 62 = .ok (.aload_n 0, 1) := by decide +kernel
theorem dX8_lodging_63 : decode cX8_lodging 63 = .ok (.getfield 36, 3) := by decide +kernel
theorem dX8_lodging_66 : decode cX8_lodging 66 = .ok (.getfield 216, 3) := by decide +kernel
theorem dX8_lodging_69 : decode cX8_lodging 69 = .ok (.goto 12, 3) := by decide +kernel
theorem dX8_lodging_72 : decode cX8_lodging 72 = .ok (.aload_n 0, 1) := by decide +kernel
theorem dX8_lodging_73 : decode cX8_lodging 73 = .ok (.getfield 36, 3) := by decide +kernel
theorem dX8_lodging_76 : decode cX8_lodging 76 = .ok (.getfield 217, 3) := by decide +kernel
theorem dX8_lodging_79 : decode cX8_lodging 79 = .ok (.iload_n 2, 1) := by decide +kernel
theorem dX8_lodging_80 : decode cX8_lodging 80 = .ok (.iaload, 1) := by decide +kernel
theorem dX8_lodging_81 : decode cX8_lodging 81 = .ok (.ireturn, 1) := by decide +kernel
theorem dX8_note_0 : decode cX8_note 0 = .ok (.aload_n 0, 1) := by decide +kernel
theorem dX8_note_1 : decode cX8_note 1 = .ok (.getfield 53, 3) := by decide +kernel
theorem dX8_note_4 : decode cX8_note 4 = .ok (.iload_n 1, 1) := by decide +kernel
theorem dX8_note_5 : decode cX8_note 5 = .ok (.invokevirtual 103, 3) := by decide +kernel
theorem dX8_note_8 : decode cX8_note 8 = .ok (.ifCond .eq 14, 3) := by decide +kernel
theorem dX8_note_11 : decode cX8_note 11 = .ok (.aload_n 0, 1) := by decide +kernel
theorem dX8_note_12 : decode cX8_note 12 = .ok (.getfield 53, 3) := by decide +kernel
theorem dX8_note_15 : decode cX8_note 15 = .ok (.iload_n 2, 1) := by decide +kernel
theorem dX8_note_16 : decode cX8_note 16 = .ok (.invokevirtual 103, 3) := by decide +kernel
theorem dX8_note_19 : decode cX8_note 19 = .ok (.ifCond .ne 5, 3) := by decide +kernel
theorem dX8_note_22 : decode cX8_note 22 = .ok (.iconst (-1), 1) := by decide +kernel
theorem dX8_note_23 : decode cX8_note 23 = .ok (.ireturn, 1) := by decide +kernel
theorem dX8_note_24 : decode cX8_note 24 = .ok (.iconst 1, 1) := by decide +kernel
theorem dX8_note_25 : decode cX8_note 25 = .ok (.iload_n 1, 1) := by decide +kernel
theorem dX8_note_26 : decode cX8_note 26 = .ok (.ishl, 1) := by decide +kernel
theorem dX8_note_27 : decode cX8_note 27 = .ok (.istore_n 3, 1) := by decide +kernel
theorem dX8_note_28 : decode cX8_note 28 = .ok (.iconst 0, 1) := by decide +kernel
theorem dX8_note_29 : decode cX8_note 29 = .ok (.istore 4, 2) := by decide +kernel
theorem dX8_note_31 : decode cX8_note 31 = .ok (.iload 4, 2) := by decide +kernel
theorem dX8_note_33 : decode cX8_note 33 = .ok (.aload_n 0, 1) := by decide +kernel
theorem dX8_note_34 : decode cX8_note 34 = .ok (.getfield 53, 3) := by decide +kernel
theorem dX8_note_37 : decode cX8_note 37 = .ok (.getfield 193, 3) := by decide +kernel
theorem dX8_note_40 : decode cX8_note 40 = .ok (.if_icmp .ge 31, 3) := by decide +kernel
theorem dX8_note_43 : decode cX8_note 43 = .ok (.iload_n 3, 1) := by decide +kernel
theorem dX8_note_44 : decode cX8_note 44 = .ok (.iload_n 2, 1) := by decide +kernel
theorem dX8_note_45 : decode cX8_note 45 = .ok (.ishr, 1) := by decide +kernel
theorem dX8_note_46 : decode cX8_note 46 = .ok (.iconst 1, 1) := by decide +kernel
theorem dX8_note_47 : decode cX8_note 47 = .ok (.iand, 1) := by decide +kernel
theorem dX8_note_48 : decode cX8_note 48 = .ok (.ifCond .eq 6, 3) := by decide +kernel
theorem dX8_note_51 : decode cX8_note 51 = .ok (.iload 4, 2) := by decide +kernel
theorem dX8_note_53 : decode cX8_note 53 = .ok (.ireturn, 1) := by decide +kernel
theorem dX8_note_54 : decode cX8_note 54 = .ok (.iload_n 3, 1) := by decide +kernel
theorem dX8_note_55 : decode cX8_note 55 = .ok (.aload_n 0, 1) := by decide +kernel
theorem dX8_note_56 : decode cX8_note 56 = .ok (.getfield 53, 3) := by decide +kernel
theorem dX8_note_59 : decode cX8_note 59 = .ok (.iload_n 3, 1) := by decide +kernel
theorem dX8_note_60 : decode cX8_note 60 = .ok (.invokevirtual 220, 3) := by decide +kernel
theorem dX8_note_63 : decode cX8_note 63 = .ok (.ior, 1) := by decide +kernel
theorem dX8_note_64 : decode cX8_note 64 = .ok (.istore_n 3, 1) := by decide +kernel
theorem dX8_note_65 : decode cX8_note 65 = .ok (.iinc 4 1, 3) := by decide +kernel
theorem dX8_note_68 : decode cX8_note 68 = .ok (.goto (-37), 3) := by decide +kernel
theorem dX8_note_71 : decode cX8_note 71 = .ok (.iconst (-1), 1) := by decide +kernel
theorem dX8_note_72 : decode cX8_note 72 = .ok (.ireturn, 1) := by decide +kernel
theorem dX8_full_0 : decode cX8_full 0 = .ok (.aload_n 0, 1) := by decide +kernel
theorem dX8_full_1 : decode cX8_full 1 = .ok (.getfield 19, 3) := by decide +kernel
theorem dX8_full_4 : decode cX8_full 4 = .ok (.aload_n 0, 1) := by decide +kernel
theorem dX8_full_5 : decode cX8_full 5 = .ok (.getfield 53, 3) := by decide +kernel
theorem dX8_full_8 : decode cX8_full 8 = .ok (.invokevirtual 190, 3) := by decide +kernel
theorem dX8_full_11 : decode cX8_full 11 = .ok (.istore_n 1, 1) := by decide +kernel
theorem dX8_full_12 : decode cX8_full 12 = .ok (.iconst 0, 1) := by decide +kernel
theorem dX8_full_13 : decode cX8_full 13 = .ok (.istore_n 2, 1) := by decide +kernel
theorem dX8_full_14 : decode cX8_full 14 = .ok (.iconst 0, 1) := by decide +kernel
theorem dX8_full_15 : decode cX8_full 15 = .ok (.istore_n 3, 1) := by decide +kernel
theorem dX8_full_16 : decode cX8_full 16 = .ok (.iload_n 3, 1) := by decide +kernel
theorem dX8_full_17 : decode cX8_full 17 = .ok (.aload_n 0, 1) := by decide +kernel
theorem dX8_full_18 : decode cX8_full 18 = .ok (.getfield 53, 3) := by decide +kernel
theorem dX8_full_21 : decode cX8_full 21 = .ok (.getfield 193, 3) := by decide +kernel
theorem dX8_full_24 : decode cX8_full 24 = .ok (.if_icmp .ge 32, 3) := by decide +kernel
theorem dX8_full_27 : decode cX8_full 27 = .ok (.aload_n 0, 1) := by decide +kernel
theorem dX8_full_28 : decode cX8_full 28 = .ok (.getfield 19, 3) := by decide +kernel
theorem dX8_full_31 : decode cX8_full 31 = .ok (.aload_n 0, 1) := by decide +kernel
theorem dX8_full_32 : decode cX8_full 32 = .ok (.getfield 53, 3) := by decide +kernel
theorem dX8_full_35 : decode cX8_full 35 = .ok (.iload_n 3, 1) := by decide +kernel
theorem dX8_full_36 : decode cX8_full 36 = .ok (.invokevirtual 123, 3) := by decide +kernel
theorem dX8_full_39 : decode cX8_full 39 = .ok (.iload_n 1, 1) := by decide +kernel
theorem dX8_full_40 : decode cX8_full 40 = .ok (.iand, 1) := by decide +kernel
theorem dX8_full_41 : decode cX8_full 41 = .ok (.ifCond .ne 9, 3) := by decide +kernel
theorem dX8_full_44 : decode cX8_full 44 = .ok (.iload_n 2, 1) := by decide +kernel
theorem dX8_full_45 : decode cX8_full 45 = .ok (.iconst 1, 1) := by decide +kernel
theorem dX8_full_46 : decode cX8_full 46 = .ok (.iload_n 3, 1) := by decide +kernel
theorem dX8_full_47 : decode cX8_full 47 = .ok (.ishl, 1) := by decide +kernel
theorem dX8_full_48 : decode cX8_full 48 = .ok (.ior, 1) := by decide +kernel
theorem dX8_full_49 : decode cX8_full 49 = .ok (.istore_n 2, 1) := by decide +kernel
theorem dX8_full_50 : decode cX8_full 50 = .ok (.iinc 3 1, 3) := by decide +kernel
theorem dX8_full_53 : decode cX8_full 53 = .ok (.goto (-37), 3) := by decide +kernel
theorem dX8_full_56 : decode cX8_full 56 = .ok (.iload_n 2, 1) := by decide +kernel
theorem dX8_full_57 : decode cX8_full 57 = .ok (.ireturn, 1) := by decide +kernel
theorem dX8_pairs_0 : decode cX8_pairs 0 = .ok (.iconst 0, 1) := by decide +kernel
theorem dX8_pairs_1 : decode cX8_pairs 1 = .ok (.istore_n 1, 1) := by decide +kernel
theorem dX8_pairs_2 : decode cX8_pairs 2 = .ok (.iconst 0, 1) := by decide +kernel
theorem dX8_pairs_3 : decode cX8_pairs 3 = .ok (.istore_n 2, 1) := by decide +kernel
theorem dX8_pairs_4 : decode cX8_pairs 4 = .ok (.iload_n 2, 1) := by decide +kernel
theorem dX8_pairs_5 : decode cX8_pairs 5 = .ok (.aload_n 0, 1) := by decide +kernel
theorem dX8_pairs_6 : decode cX8_pairs 6 = .ok (.getfield 53, 3) := by decide +kernel
theorem dX8_pairs_9 : decode cX8_pairs 9 = .ok (.getfield 209, 3) := by decide +kernel
theorem dX8_pairs_12 : decode cX8_pairs 12 = .ok (.if_icmp .ge 24, 3) := by decide +kernel
theorem dX8_pairs_15 : decode cX8_pairs 15 = .ok (.iload_n 1, 1) := by decide +kernel
theorem dX8_pairs_16 : decode cX8_pairs 16 = .ok (.aload_n 0, 1) := by decide +kernel
theorem dX8_pairs_17 : decode cX8_pairs 17 = .ok (.getfield 53, 3) := by decide +kernel
theorem dX8_pairs_20 : decode cX8_pairs 20 = .ok (.getfield 223, 3) := by decide +kernel
theorem dX8_pairs_23 : decode cX8_pairs 23 = .ok (.iload_n 2, 1) := by decide +kernel
theorem dX8_pairs_24 : decode cX8_pairs 24 = .ok (.iaload, 1) := by decide +kernel
theorem dX8_pairs_25 : decode cX8_pairs 25 = .ok (.invokestatic 226, 3) := by decide +kernel
theorem dX8_pairs_28 : decode cX8_pairs 28 = .ok (.iadd, 1) := by decide +kernel
theorem dX8_pairs_29 : decode cX8_pairs 29 = .ok (.istore_n 1, 1) := by decide +kernel
theorem dX8_pairs_30 : decode cX8_pairs 30 = .ok (.iinc 2 1, 3) := by decide +kernel
theorem dX8_pairs_33 : decode cX8_pairs 33 = .ok (.goto (-29), 3) := by decide +kernel
theorem dX8_pairs_36 : decode cX8_pairs 36 = .ok (.iload_n 1, 1) := by decide +kernel
theorem dX8_pairs_37 : decode cX8_pairs 37 = .ok (.iconst 2, 1) := by decide +kernel
theorem dX8_pairs_38 : decode cX8_pairs 38 = .ok (.idiv, 1) := by decide +kernel
theorem dX8_pairs_39 : decode cX8_pairs 39 = .ok (.ireturn, 1) := by decide +kernel
theorem dX8_line_0 : decode cX8_line 0 = .ok (.aload_n 0, 1) := by decide +kernel
theorem dX8_line_1 : decode cX8_line 1 = .ok (.getfield 53, 3) := by decide +kernel
theorem dX8_line_4 : decode cX8_line 4 = .ok (.iload_n 1, 1) := by decide +kernel
theorem dX8_line_5 : decode cX8_line 5 = .ok (.iload_n 2, 1) := by decide +kernel
theorem dX8_line_6 : decode cX8_line 6 = .ok (.invokevirtual 231, 3) := by decide +kernel
theorem dX8_line_9 : decode cX8_line 9 = .ok (.ifCond .ne 5, 3) := by decide +kernel
theorem dX8_line_12 : decode cX8_line 12 = .ok (.iconst (-1), 1) := by decide +kernel
theorem dX8_line_13 : decode cX8_line 13 = .ok (.ireturn, 1) := by decide +kernel
theorem dX8_line_14 : decode cX8_line 14 = .ok (.aload_n 0, 1) := by decide +kernel
theorem dX8_line_15 : decode cX8_line 15 = .ok (.getfield 19, 3) := by decide +kernel
theorem dX8_line_18 : decode cX8_line 18 = .ok (.iload_n 1, 1) := by decide +kernel
theorem dX8_line_19 : decode cX8_line 19 = .ok (.invokevirtual 136, 3) := by decide +kernel
theorem dX8_line_22 : decode cX8_line 22 = .ok (.istore_n 3, 1) := by decide +kernel
theorem dX8_line_23 : decode cX8_line 23 = .ok (.iload_n 3, 1) := by decide +kernel
theorem dX8_line_24 : decode cX8_line 24 = .ok (.iconst (-1), 1) := by decide +kernel
theorem dX8_line_25 : decode cX8_line 25 = .ok (.if_icmp .eq 15, 3) := by decide +kernel
theorem dX8_line_28 : decode cX8_line 28 = .ok (.iload_n 3, 1) := by decide +kernel
theorem dX8_line_29 : decode cX8_line 29 = .ok (.aload_n 0, 1) := by decide +kernel
theorem dX8_line_30 : decode cX8_line 30 = .ok (.getfield 19, 3) := by decide +kernel
theorem dX8_line_33 : decode cX8_line 33 = .ok (.iload_n 2, 1) := by decide +kernel
theorem dX8_line_34 : decode cX8_line 34 = .ok (.invokevirtual 136, 3) := by decide +kernel
theorem dX8_line_37 : decode cX8_line 37 = .ok (.if_icmp .eq 5, 3) := by decide +kernel
theorem dX8_line_40 : decode cX8_line 40 = .ok (.iconst (-1), 1) := by decide +kernel
theorem dX8_line_41 : decode cX8_line 41 = .ok (.ireturn, 1) := by decide +kernel
theorem dX8_line_42 : decode cX8_line 42 = .ok (.aload_n 0, 1) := by decide +kernel
theorem dX8_line_43 : decode cX8_line 43 = .ok (.getfield 19, 3) := by decide +kernel
theorem dX8_line_46 : decode cX8_line 46 = .ok (.aload_n 0, 1) := by decide +kernel
theorem dX8_line_47 : decode cX8_line 47 = .ok (.getfield 53, 3) := by decide +kernel
theorem dX8_line_50 : decode cX8_line 50 = .ok (.iload_n 3, 1) := by decide +kernel
theorem dX8_line_51 : decode cX8_line 51 = .ok (.bipush 20, 2) := by decide +kernel
theorem dX8_line_53 : decode cX8_line 53 = .ok (.invokevirtual 183, 3) := by decide +kernel
theorem dX8_line_56 : decode cX8_line 56 = .ok (.ireturn, 1) := by decide +kernel
theorem dX8_hear_0 : decode cX8_hear 0 = .ok (.iload_n 1, 1) := by decide +kernel
theorem dX8_hear_1 : decode cX8_hear 1 = .ok (.iconst 1, 1) := by decide +kernel
theorem dX8_hear_2 : decode cX8_hear 2 = .ok (.bipush 30, 2) := by decide +kernel
theorem dX8_hear_4 : decode cX8_hear 4 = .ok (.invokestatic 199, 3) := by decide +kernel
theorem dX8_hear_7 : decode cX8_hear 7 = .ok (.ifCond .eq 19, 3) := by decide +kernel
theorem dX8_hear_10 : decode cX8_hear 10 = .ok (.aload_n 0, 1) := by decide +kernel
theorem dX8_hear_11 : decode cX8_hear 11 = .ok (.getfield 29, 3) := by decide +kernel
theorem dX8_hear_14 : decode cX8_hear 14 = .ok (.iload_n 1, 1) := by decide +kernel
theorem dX8_hear_15 : decode cX8_hear 15 = .ok (.iload_n 2, 1) := by decide +kernel
theorem dX8_hear_16 : decode cX8_hear 16 = .ok (.invokevirtual 235, 3) := by decide +kernel
theorem dX8_hear_19 : decode cX8_hear 19 = .ok (.ifCond .eq 7, 3) := by decide +kernel
theorem dX8_hear_22 : decode cX8_hear 22 = .ok (.iconst 1, 1) := by decide +kernel
theorem dX8_hear_23 : decode cX8_hear 23 = .ok (.goto 4, 3) := by decide +kernel
theorem dX8_hear_26 : decode cX8_hear 26 = .ok (.iconst 0, 1) := by decide +kernel
theorem dX8_hear_27 : decode cX8_hear 27 = .ok (.ireturn, 1) := by decide +kernel
theorem dX8_coals_0 : decode cX8_coals 0 = .ok (.aload_n 0, 1) := by decide +kernel
theorem dX8_coals_1 : decode cX8_coals 1 = .ok (.getfield 29, 3) := by decide +kernel
theorem dX8_coals_4 : decode cX8_coals 4 = .ok (.aload_n 0, 1) := by decide +kernel
theorem dX8_coals_5 : decode cX8_coals 5 = .ok (.getfield 53, 3) := by decide +kernel
theorem dX8_coals_8 : decode cX8_coals 8 = .ok (.aload_n 0, 1) := by decide +kernel
theorem dX8_coals_9 : decode cX8_coals 9 = .ok (.getfield 19, 3) := by decide +kernel
theorem dX8_coals_12 : decode cX8_coals 12 = .ok (.getfield 239, 3) := by decide +kernel
theorem dX8_coals_15 : decode cX8_coals 15 = .ok (.invokevirtual 242, 3) := by decide +kernel
theorem dX8_coals_18 : decode cX8_coals 18 = .ok (.aload_n 0, 1) := by decide +kernel
theorem dX8_coals_19 : decode cX8_coals 19 = .ok (.getfield 29, 3) := by decide +kernel
theorem dX8_coals_22 : decode cX8_coals 22 = .ok (.invokevirtual 245, 3) := by decide +kernel
theorem dX8_coals_25 : decode cX8_coals 25 = .ok (.istore_n 2, 1) := by decide +kernel
theorem dX8_coals_26 : decode cX8_coals 26 = .ok (.iload_n 1, 1) := by decide +kernel
theorem dX8_coals_27 : decode cX8_coals 27 = .ok (.tableswitch 59 0 2 #[25, 27, 43], 25) := by decide +kernel
theorem dX8_coals_52 : decode cX8_coals 52 = .ok (.iload_n 2, 1) := by decide +kernel
theorem dX8_coals_53 : decode cX8_coals 53 = .ok (.ireturn, 1) := by decide +kernel
theorem dX8_coals_54 : decode cX8_coals 54 = .ok (.iload_n 2, 1) := by decide +kernel
theorem dX8_coals_55 : decode cX8_coals 55 = .ok (.ifCond .ne 7, 3) := by decide +kernel
theorem dX8_coals_58 : decode cX8_coals 58 = .ok (.iconst (-1), 1) := by decide +kernel
theorem dX8_coals_59 : decode cX8_coals 59 = .ok (.goto 10, 3) := by decide +kernel
theorem dX8_coals_62 : decode cX8_coals 62 = .ok (.aload_n 0, 1) := by decide +kernel
theorem dX8_coals_63 : decode cX8_coals 63 = .ok (.getfield 29, 3) := by decide +kernel
theorem dX8_coals_66 : decode cX8_coals 66 = .ok (.getfield 249, 3) := by decide +kernel
theorem dX8_coals_69 : decode cX8_coals 69 = .ok (.ireturn, 1) := by decide +kernel
theorem dX8_coals_70 : decode cX8_coals 70 = .ok (.iload_n 2, 1) := by decide +kernel
theorem dX8_coals_71 : decode cX8_coals 71 = .ok (.ifCond .ne 7, 3) := by decide +kernel
theorem dX8_coals_74 : decode cX8_coals 74 = .ok (.iconst (-1), 1) := by decide +kernel
theorem dX8_coals_75 : decode cX8_coals 75 = .ok (.goto 10, 3) := by decide +kernel
theorem dX8_coals_78 : decode cX8_coals 78 = .ok (.aload_n 0, 1) := by decide +kernel
theorem dX8_coals_79 : decode cX8_coals 79 = .ok (.getfield 29, 3) := by decide +kernel
theorem dX8_coals_82 : decode cX8_coals 82 = .ok (.getfield 252, 3) := by decide +kernel
theorem dX8_coals_85 : decode cX8_coals 85 = .ok (.ireturn, 1) := by decide +kernel
theorem dX8_coals_86 : decode cX8_coals 86 = .ok (.iconst (-1), 1) := by decide +kernel
theorem dX8_coals_87 : decode cX8_coals 87 = .ok (.ireturn, 1) := by decide +kernel
theorem dX8_ask_0 : decode cX8_ask 0 = .ok (.aload_n 0, 1) := by decide +kernel
theorem dX8_ask_1 : decode cX8_ask 1 = .ok (.getfield 29, 3) := by decide +kernel
theorem dX8_ask_4 : decode cX8_ask 4 = .ok (.aload_n 0, 1) := by decide +kernel
theorem dX8_ask_5 : decode cX8_ask 5 = .ok (.getfield 53, 3) := by decide +kernel
theorem dX8_ask_8 : decode cX8_ask 8 = .ok (.aload_n 0, 1) := by decide +kernel
theorem dX8_ask_9 : decode cX8_ask 9 = .ok (.getfield 19, 3) := by decide +kernel
theorem dX8_ask_12 : decode cX8_ask 12 = .ok (.getfield 239, 3) := by decide +kernel
theorem dX8_ask_15 : decode cX8_ask 15 = .ok (.invokevirtual 242, 3) := by decide +kernel
theorem dX8_ask_18 : decode cX8_ask 18 = .ok (.aload_n 0, 1) := by decide +kernel
theorem dX8_ask_19 : decode cX8_ask 19 = .ok (.getfield 29, 3) := by decide +kernel
theorem dX8_ask_22 : decode cX8_ask 22 = .ok (.aload_n 0, 1) := by decide +kernel
theorem dX8_ask_23 : decode cX8_ask 23 = .ok (.getfield 53, 3) := by decide +kernel
theorem dX8_ask_26 : decode cX8_ask 26 = .ok (.aload_n 0, 1) := by decide +kernel
theorem dX8_ask_27 : decode cX8_ask 27 = .ok (.getfield 19, 3) := by decide +kernel
theorem dX8_ask_30 : decode cX8_ask 30 = .ok (.getfield 239, 3) := by decide +kernel
theorem dX8_ask_33 : decode cX8_ask 33 = .ok (.invokevirtual 255, 3) := by decide +kernel
theorem dX8_ask_36 : decode cX8_ask 36 = .ok (.ireturn, 1) := by decide +kernel
theorem dX8_colder_0 : decode cX8_colder 0 = .ok (.iload_n 1, 1) := by decide +kernel
theorem dX8_colder_1 : decode cX8_colder 1 = .ok (.iconst 1, 1) := by decide +kernel
theorem dX8_colder_2 : decode cX8_colder 2 = .ok (.bipush 30, 2) := by decide +kernel
theorem dX8_colder_4 : decode cX8_colder 4 = .ok (.invokestatic 199, 3) := by decide +kernel
theorem dX8_colder_7 : decode cX8_colder 7 = .ok (.ifCond .eq 12, 3) := by decide +kernel
theorem dX8_colder_10 : decode cX8_colder 10 = .ok (.iload_n 2, 1) := by decide +kernel
theorem dX8_colder_11 : decode cX8_colder 11 = .ok (.iconst 0, 1) := by decide +kernel
theorem dX8_colder_12 : decode cX8_colder 12 = .ok (.iconst 3, 1) := by decide +kernel
theorem dX8_colder_13 : decode cX8_colder 13 = .ok (.invokestatic 199, 3) := by decide +kernel
theorem dX8_colder_16 : decode cX8_colder 16 = .ok (.ifCond .ne 5, 3) := by decide +kernel
theorem dX8_colder_19 : decode cX8_colder 19 = .ok (.iconst (-1), 1) := by decide +kernel
theorem dX8_colder_20 : decode cX8_colder 20 = .ok (.ireturn, 1) := by decide +kernel
theorem dX8_colder_21 : decode cX8_colder 21 = .ok (.aload_n 0, 1) := by decide +kernel
theorem dX8_colder_22 : decode cX8_colder 22 = .ok (.getfield 19, 3) := by decide +kernel
theorem dX8_colder_25 : decode cX8_colder 25 = .ok (.aload_n 0, 1) := by decide +kernel
theorem dX8_colder_26 : decode cX8_colder 26 = .ok (.getfield 53, 3) := by decide +kernel
theorem dX8_colder_29 : decode cX8_colder 29 = .ok (.aload_n 0, 1) := by decide +kernel
theorem dX8_colder_30 : decode cX8_colder 30 = .ok (.getfield 53, 3) := by decide +kernel
theorem dX8_colder_33 : decode cX8_colder 33 = .ok (.aload_n 0, 1) := by decide +kernel
theorem dX8_colder_34 : decode cX8_colder 34 = .ok (.getfield 19, 3) := by decide +kernel
theorem dX8_colder_37 : decode cX8_colder 37 = .ok (.getfield 239, 3) := by decide +kernel
theorem dX8_colder_40 : decode cX8_colder 40 = .ok (.iload_n 1, 1) := by decide +kernel
theorem dX8_colder_41 : decode cX8_colder 41 = .ok (.invokevirtual 258, 3) := by decide +kernel
theorem dX8_colder_44 : decode cX8_colder 44 = .ok (.iload_n 1, 1) := by decide +kernel
theorem dX8_colder_45 : decode cX8_colder 45 = .ok (.iload_n 2, 1) := by decide +kernel
theorem dX8_colder_46 : decode cX8_colder 46 = .ok (.imul, 1) := by decide +kernel
theorem dX8_colder_47 : decode cX8_colder 47 = .ok (.iadd, 1) := by decide +kernel
theorem dX8_colder_48 : decode cX8_colder 48 = .ok (.invokevirtual 262, 3) := by decide +kernel
theorem dX8_colder_51 : decode cX8_colder 51 = .ok (.istore_n 3, 1) := by decide +kernel
theorem dX8_colder_52 : decode cX8_colder 52 = .ok (.aload_n 0, 1) := by decide +kernel
theorem dX8_colder_53 : decode cX8_colder 53 = .ok (.getfield 19, 3) := by decide +kernel
theorem dX8_colder_56 : decode cX8_colder 56 = .ok (.aload_n 0, 1) := by decide +kernel
theorem dX8_colder_57 : decode cX8_colder 57 = .ok (.getfield 53, 3) := by decide +kernel
theorem dX8_colder_60 : decode cX8_colder 60 = .ok (.iload_n 3, 1) := by decide +kernel
theorem dX8_colder_61 : decode cX8_colder 61 = .ok (.invokevirtual 265, 3) := by decide +kernel
theorem dX8_colder_64 : decode cX8_colder 64 = .ok (.ireturn, 1) := by decide +kernel
theorem dX8_rests_0 : decode cX8_rests 0 = .ok (.iload_n 1, 1) := by decide +kernel
theorem dX8_rests_1 : decode cX8_rests 1 = .ok (.iconst 0, 1) := by decide +kernel
theorem dX8_rests_2 : decode cX8_rests 2 = .ok (.bipush 9, 2) := by decide +kernel
theorem dX8_rests_4 : decode cX8_rests 4 = .ok (.invokestatic 199, 3) := by decide +kernel
theorem dX8_rests_7 : decode cX8_rests 7 = .ok (.ifCond .eq 29, 3) := by decide +kernel
theorem dX8_rests_10 : decode cX8_rests 10 = .ok (.iload_n 2, 1) := by decide +kernel
theorem dX8_rests_11 : decode cX8_rests 11 = .ok (.iconst 0, 1) := by decide +kernel
theorem dX8_rests_12 : decode cX8_rests 12 = .ok (.bipush 9, 2) := by decide +kernel
theorem dX8_rests_14 : decode cX8_rests 14 = .ok (.invokestatic 199, 3) := by decide +kernel
theorem dX8_rests_17 : decode cX8_rests 17 = .ok (.ifCond .eq 19, 3) := by decide +kernel
theorem dX8_rests_20 : decode cX8_rests 20 = .ok (.iload_n 3, 1) := by decide +kernel
theorem dX8_rests_21 : decode cX8_rests 21 = .ok (.iconst 0, 1) := by decide +kernel
theorem dX8_rests_22 : decode cX8_rests 22 = .ok (.bipush 9, 2) := by decide +kernel
theorem dX8_rests_24 : decode cX8_rests 24 = .ok (.invokestatic 199, 3) := by decide +kernel
theorem dX8_rests_27 : decode cX8_rests 27 = .ok (.ifCond .eq 9, 3) := by decide +kernel
theorem dX8_rests_30 : decode cX8_rests 30 = .ok (.iload 4, 2) := by decide +kernel
theorem dX8_rests_32 : decode cX8_rests 32 = .ok (.iconst (-1), 1) := by decide +kernel
theorem dX8_rests_33 : decode cX8_rests 33 = .ok (.if_icmp .ge 11, 3) := by decide +kernel
theorem dX8_rests_36 : decode cX8_rests 36 = .ok (.new 268, 3) := by decide +kernel
theorem dX8_rests_39 : decode cX8_rests 39 = .ok (.dup, 1) := by decide +kernel
theorem dX8_rests_40 : decode cX8_rests 40 = .ok (.invokespecial 270, 3) := by decide +kernel
theorem dX8_rests_43 : decode cX8_rests 43 = .ok (.athrow, 1) := by decide +kernel
theorem dX8_rests_44 : decode cX8_rests 44 = .ok (.iconst 0, 1) := by decide +kernel
theorem dX8_rests_45 : decode cX8_rests 45 = .ok (.istore 5, 2) := by decide +kernel
theorem dX8_rests_47 : decode cX8_rests 47 = .ok (.iconst 0, 1) := by decide +kernel
theorem dX8_rests_48 : decode cX8_rests 48 = .ok (.istore 6, 2) := by decide +kernel
theorem dX8_rests_50 : decode cX8_rests 50 = .ok (.iload 6, 2) := by decide +kernel
theorem dX8_rests_52 : decode cX8_rests 52 = .ok (.iconst 4, 1) := by decide +kernel
theorem dX8_rests_53 : decode cX8_rests 53 = .ok (.if_icmp .ge 78, 3) := by decide +kernel
theorem dX8_rests_56 : decode cX8_rests 56 = .ok (.iload 6, 2) := by decide +kernel
theorem dX8_rests_58 : decode cX8_rests 58 = .ok (.iconst 1, 1) := by decide +kernel
theorem dX8_rests_59 : decode cX8_rests 59 = .ok (.ishr, 1) := by decide +kernel
theorem dX8_rests_60 : decode cX8_rests 60 = .ok (.istore 7, 2) := by decide +kernel
theorem dX8_rests_62 : decode cX8_rests 62 = .ok (.iload 6, 2) := by decide +kernel
theorem dX8_rests_64 : decode cX8_rests 64 = .ok (.iconst 1, 1) := by decide +kernel
theorem dX8_rests_65 : decode cX8_rests 65 = .ok (.iand, 1) := by decide +kernel
theorem dX8_rests_66 : decode cX8_rests 66 = .ok (.istore 8, 2) := by decide +kernel
theorem dX8_rests_68 : decode cX8_rests 68 = .ok (.iload 7, 2) := by decide +kernel
theorem dX8_rests_70 : decode cX8_rests 70 = .ok (.iload 8, 2) := by decide +kernel
theorem dX8_rests_72 : decode cX8_rests 72 = .ok (.iconst 1, 1) := by decide +kernel
theorem dX8_rests_73 : decode cX8_rests 73 = .ok (.if_icmp .ne 9, 3) := by decide +kernel
theorem dX8_rests_76 : decode cX8_rests 76 = .ok (.iload_n 1, 1) := by decide +kernel
theorem dX8_rests_77 : decode cX8_rests 77 = .ok (.iload_n 3, 1) := by decide +kernel
theorem dX8_rests_78 : decode cX8_rests 78 = .ok (.isub, 1) := by decide +kernel
theorem dX8_rests_79 : decode cX8_rests 79 = .ok (.goto 5, 3) := by decide +kernel
theorem dX8_rests_82 : decode cX8_rests 82 = .ok (.iload_n 2, 1) := by decide +kernel
theorem dX8_rests_83 : decode cX8_rests 83 = .ok (.ineg, 1) := by decide +kernel
theorem dX8_rests_84 : decode cX8_rests 84 = .ok (.invokestatic 271, 3) := by decide +kernel
theorem dX8_rests_87 : decode cX8_rests 87 = .ok (.ifCond .eq 38, 3) := by decide +kernel
theorem dX8_rests_90 : decode cX8_rests 90 = .ok (.iload 8, 2) := by decide +kernel
theorem dX8_rests_92 : decode cX8_rests 92 = .ok (.iload 7, 2) := by decide +kernel
theorem dX8_rests_94 : decode cX8_rests 94 = .ok (.iconst 1, 1) := by decide +kernel
theorem dX8_rests_95 : decode cX8_rests 95 = .ok (.if_icmp .ne 9, 3) := by decide +kernel
theorem dX8_rests_98 : decode cX8_rests 98 = .ok (.iload_n 1, 1) := by decide +kernel
theorem dX8_rests_99 : decode cX8_rests 99 = .ok (.iload_n 3, 1) := by decide +kernel
theorem dX8_rests_100 : decode cX8_rests 100 = .ok (.isub, 1) := by decide +kernel
theorem dX8_rests_101 : decode cX8_rests 101 = .ok (.goto 5, 3) := by decide +kernel
theorem dX8_rests_104 : decode cX8_rests 104 = .ok (.iload_n 2, 1) := by decide +kernel
theorem dX8_rests_105 : decode cX8_rests 105 = .ok (.ineg, 1) := by decide +kernel
theorem dX8_rests_106 : decode cX8_rests 106 = .ok (.invokestatic 271, 3) := by decide +kernel
theorem dX8_rests_109 : decode cX8_rests 109 = .ok (.ifCond .eq 16, 3) := by decide +kernel
theorem dX8_rests_112 : decode cX8_rests 112 = .ok (.iload 5, 2) := by decide +kernel
theorem dX8_rests_114 : decode cX8_rests 114 = .ok (.iload 4, 2) := by decide +kernel
theorem dX8_rests_116 : decode cX8_rests 116 = .ok (.if_icmp .ne 6, 3) := by decide +kernel
theorem dX8_rests_119 : decode cX8_rests 119 = .ok (.iload 6, 2) := by decide +kernel
theorem dX8_rests_121 : decode cX8_rests 121 = .ok (.ireturn, 1) := by decide +kernel
theorem dX8_rests_122 : decode cX8_rests 122 = .ok (.iinc 5 1, 3) := by decide +kernel
theorem dX8_rests_125 : decode cX8_rests 125 = .ok (.iinc 6 1, 3) := by decide +kernel
theorem dX8_rests_128 : decode cX8_rests 128 = .ok (.goto (-78), 3) := by decide +kernel
theorem dX8_rests_131 : decode cX8_rests 131 = .ok (.iload 4, 2) := by decide +kernel
theorem dX8_rests_133 : decode cX8_rests 133 = .ok (.iconst (-1), 1) := by decide +kernel
theorem dX8_rests_134 : decode cX8_rests 134 = .ok (.if_icmp .eq 11, 3) := by decide +kernel
theorem dX8_rests_137 : decode cX8_rests 137 = .ok (.new 268, 3) := by decide +kernel
theorem dX8_rests_140 : decode cX8_rests 140 = .ok (.dup, 1) := by decide +kernel
theorem dX8_rests_141 : decode cX8_rests 141 = .ok (.invokespecial 270, 3) := by decide +kernel
theorem dX8_rests_144 : decode cX8_rests 144 = .ok (.athrow, 1) := by decide +kernel
theorem dX8_rests_145 : decode cX8_rests 145 = .ok (.iload 5, 2) := by decide +kernel
theorem dX8_rests_147 : decode cX8_rests 147 = .ok (.ireturn, 1) := by decide +kernel
theorem dX8_winters_0 : decode cX8_winters 0 = .ok (.iload_n 1, 1) := by decide +kernel
theorem dX8_winters_1 : decode cX8_winters 1 = .ok (.iconst 0, 1) := by decide +kernel
theorem dX8_winters_2 : decode cX8_winters 2 = .ok (.sipush 9999, 3) := by decide +kernel
theorem dX8_winters_5 : decode cX8_winters 5 = .ok (.invokestatic 199, 3) := by decide +kernel
theorem dX8_winters_8 : decode cX8_winters 8 = .ok (.ifCond .eq 22, 3) := by decide +kernel
theorem dX8_winters_11 : decode cX8_winters 11 = .ok (.iload_n 2, 1) := by decide +kernel
theorem dX8_winters_12 : decode cX8_winters 12 = .ok (.iconst 1, 1) := by decide +kernel
theorem dX8_winters_13 : decode cX8_winters 13 = .ok (.bipush 99, 2) := by decide +kernel
theorem dX8_winters_15 : decode cX8_winters 15 = .ok (.invokestatic 199, 3) := by decide +kernel
theorem dX8_winters_18 : decode cX8_winters 18 = .ok (.ifCond .eq 12, 3) := by decide +kernel
theorem dX8_winters_21 : decode cX8_winters 21 = .ok (.iload_n 3, 1) := by decide +kernel
theorem dX8_winters_22 : decode cX8_winters 22 = .ok (.iconst 0, 1) := by decide +kernel
theorem dX8_winters_23 : decode cX8_winters 23 = .ok (.iconst 2, 1) := by decide +kernel
theorem dX8_winters_24 : decode cX8_winters 24 = .ok (.invokestatic 199, 3) := by decide +kernel
theorem dX8_winters_27 : decode cX8_winters 27 = .ok (.ifCond .ne 5, 3) := by decide +kernel
theorem dX8_winters_30 : decode cX8_winters 30 = .ok (.iconst (-1), 1) := by decide +kernel
theorem dX8_winters_31 : decode cX8_winters 31 = .ok (.ireturn, 1) := by decide +kernel
theorem dX8_winters_32 : decode cX8_winters 32 = .ok (.aload_n 0, 1) := by decide +kernel
theorem dX8_winters_33 : decode cX8_winters 33 = .ok (.getfield 23, 3) := by decide +kernel
theorem dX8_winters_36 : decode cX8_winters 36 = .ok (.aload_n 0, 1) := by decide +kernel
theorem dX8_winters_37 : decode cX8_winters 37 = .ok (.getfield 19, 3) := by decide +kernel
theorem dX8_winters_40 : decode cX8_winters 40 = .ok (.invokevirtual 175, 3) := by decide +kernel
theorem dX8_winters_43 : decode cX8_winters 43 = .ok (.aload_n 0, 1) := by decide +kernel
theorem dX8_winters_44 : decode cX8_winters 44 = .ok (.iload_n 1, 1) := by decide +kernel
theorem dX8_winters_45 : decode cX8_winters 45 = .ok (.i2l, 1) := by decide +kernel
theorem dX8_winters_46 : decode cX8_winters 46 = .ok (.putfield 274, 3) := by decide +kernel
theorem dX8_winters_49 : decode cX8_winters 49 = .ok (.iconst 0, 1) := by decide +kernel
theorem dX8_winters_50 : decode cX8_winters 50 = .ok (.istore 4, 2) := by decide +kernel
theorem dX8_winters_52 : decode cX8_winters 52 = .ok (.iconst 0, 1) := by decide +kernel
theorem dX8_winters_53 : decode cX8_winters 53 = .ok (.istore 5, 2) := by decide +kernel
theorem dX8_winters_55 : decode cX8_winters 55 = .ok (.iload 5, 2) := by decide +kernel
theorem dX8_winters_57 : decode cX8_winters 57 = .ok (.iload_n 2, 1) := by decide +kernel
theorem dX8_winters_58 : decode cX8_winters 58 = .ok (.if_icmp .ge 30, 3) := by decide +kernel
theorem dX8_winters_61 : decode cX8_winters 61 = .ok (.iload 4, 2) := by decide +kernel
theorem dX8_winters_63 : decode cX8_winters 63 = .ok (.aload_n 0, 1) := by decide +kernel
theorem dX8_winters_64 : decode cX8_winters 64 = .ok (.invokevirtual 278, 3) := by decide +kernel
theorem dX8_winters_67 : decode cX8_winters 67 = .ok (.iadd, 1) := by decide +kernel
theorem dX8_winters_68 : decode cX8_winters 68 = .ok (.istore 4, 2) := by decide +kernel
theorem dX8_winters_70 : decode cX8_winters 70 = .ok (.aload_n 0, 1) := by decide +kernel
theorem dX8_winters_71 : decode cX8_winters 71 = .ok (.getfield 23, 3) := by decide +kernel
theorem dX8_winters_74 : decode cX8_winters 74 = .ok (.aload_n 0, 1) := by decide +kernel
theorem dX8_winters_75 : decode cX8_winters 75 = .ok (.getfield 53, 3) := by decide +kernel
theorem dX8_winters_78 : decode cX8_winters 78 = .ok (.invokevirtual 168, 3) := by decide +kernel
theorem dX8_winters_81 : decode cX8_winters 81 = .ok (.pop, 1) := by decide +kernel
theorem dX8_winters_82 : decode cX8_winters 82 = .ok (.iinc 5 1, 3) := by decide +kernel
theorem dX8_winters_85 : decode cX8_winters 85 = .ok (.goto (-30), 3) := by decide +kernel
theorem dX8_winters_88 : decode cX8_winters 88 = .ok (.iload_n 3, 1) := by decide +kernel
theorem dX8_winters_89 : decode cX8_winters 89 = .ok (.ifCond .ne 8, 3) := by decide +kernel
theorem dX8_winters_92 : decode cX8_winters 92 = .ok (.iload 4, 2) := by decide +kernel
theorem dX8_winters_94 : decode cX8_winters 94 = .ok (.goto 29, 3) := by decide +kernel
theorem dX8_winters_97 : decode cX8_winters 97 = .ok (.iload_n 3, 1) := by decide +kernel
theorem dX8_winters_98 : decode cX8_winters 98 = .ok (.iconst 1, 1) := by decide +kernel
theorem dX8_winters_99 : decode cX8_winters 99 = .ok (.if_icmp .ne 13, 3) := by decide +kernel
theorem dX8_winters_102 : decode cX8_winters 102 = .ok (.aload_n 0, 1) := by decide +kernel
theorem dX8_winters_103 : decode cX8_winters 103 = .ok (.getfield 23, 3) := by decide +kernel
theorem dX8_winters_106 : decode cX8_winters 106 = .ok (.getfield 140, 3) := by decide +kernel
theorem dX8_winters_109 : decode cX8_winters 109 = .ok (.goto 14, 3) := by decide +kernel
theorem dX8_winters_112 : decode cX8_winters 112 = .ok (.aload_n 0, 1) := by decide +kernel
theorem dX8_winters_113 : decode cX8_winters 113 = .ok (.getfield 23, 3) := by decide +kernel
theorem dX8_winters_116 : decode cX8_winters 116 = .ok (.aload_n 0, 1) := by decide +kernel
theorem dX8_winters_117 : decode cX8_winters 117 = .ok (.getfield 53, 3) := by decide +kernel
theorem dX8_winters_120 : decode cX8_winters 120 = .ok (.invokevirtual 281, 3) := by decide +kernel
theorem dX8_winters_123 : decode cX8_winters 123 = .ok (.ireturn, 1) := by decide +kernel
theorem dX8_mark_0 : decode cX8_mark 0 = .ok (.iload_n 1, 1) := by decide +kernel
theorem dX8_mark_1 : decode cX8_mark 1 = .ok (.iconst 0, 1) := by decide +kernel
theorem dX8_mark_2 : decode cX8_mark 2 = .ok (.iconst 3, 1) := by decide +kernel
theorem dX8_mark_3 : decode cX8_mark 3 = .ok (.invokestatic 199, 3) := by decide +kernel
theorem dX8_mark_6 : decode cX8_mark 6 = .ok (.ifCond .eq 19, 3) := by decide +kernel
theorem dX8_mark_9 : decode cX8_mark 9 = .ok (.iload_n 2, 1) := by decide +kernel
theorem dX8_mark_10 : decode cX8_mark 10 = .ok (.ifCond .eq 17, 3) := by decide +kernel
theorem dX8_mark_13 : decode cX8_mark 13 = .ok (.aload_n 0, 1) := by decide +kernel
theorem dX8_mark_14 : decode cX8_mark 14 = .ok (.getfield 42, 3) := by decide +kernel
theorem dX8_mark_17 : decode cX8_mark 17 = .ok (.iload_n 1, 1) := by decide +kernel
theorem dX8_mark_18 : decode cX8_mark 18 = .ok (.aaload, 1) := by decide +kernel
theorem dX8_mark_19 : decode cX8_mark 19 = .ok (.getfield 96, 3) := by decide +kernel
theorem dX8_mark_22 : decode cX8_mark 22 = .ok (.ifCond .ne 5, 3) := by decide +kernel
theorem dX8_mark_25 : decode cX8_mark 25 = .ok (.iconst 0, 1) := by decide +kernel
theorem dX8_mark_26 : decode cX8_mark 26 = .ok (.ireturn, 1) := by decide +kernel
theorem dX8_mark_27 : decode cX8_mark 27 = .ok (.iload_n 2, 1) := by decide +kernel
theorem dX8_mark_28 : decode cX8_mark 28 = .ok (.ifCond .eq 32, 3) := by decide +kernel
theorem dX8_mark_31 : decode cX8_mark 31 = .ok (.aload_n 0, 1) := by decide +kernel
theorem dX8_mark_32 : decode cX8_mark 32 = .ok (.getfield 42, 3) := by decide +kernel
theorem dX8_mark_35 : decode cX8_mark 35 = .ok (.iload_n 1, 1) := by decide +kernel
theorem dX8_mark_36 : decode cX8_mark 36 = .ok (.aaload, 1) := by decide +kernel
theorem dX8_mark_37 : decode cX8_mark 37 = .ok (.aload_n 0, 1) := by decide +kernel
theorem dX8_mark_38 : decode cX8_mark 38 = .ok (.getfield 19, 3) := by decide +kernel
theorem dX8_mark_41 : decode cX8_mark 41 = .ok (.aload_n 0, 1) := by decide +kernel
theorem dX8_mark_42 : decode cX8_mark 42 = .ok (.getfield 63, 3) := by decide +kernel
theorem dX8_mark_45 : decode cX8_mark 45 = .ok (.aload_n 0, 1) := by decide +kernel
theorem dX8_mark_46 : decode cX8_mark 46 = .ok (.getfield 29, 3) := by decide +kernel
theorem dX8_mark_49 : decode cX8_mark 49 = .ok (.invokevirtual 284, 3) := by decide +kernel
theorem dX8_mark_52 : decode cX8_mark 52 = .ok (.aload_n 0, 1) := by decide +kernel
theorem dX8_mark_53 : decode cX8_mark 53 = .ok (.iconst 0, 1) := by decide +kernel
theorem dX8_mark_54 : decode cX8_mark 54 = .ok (.putfield 93, 3) := by decide +kernel
theorem dX8_mark_57 : decode cX8_mark 57 = .ok (.goto 24, 3) := by decide +kernel
theorem dX8_mark_60 : decode cX8_mark 60 = .ok (.aload_n 0, 1) := by decide +kernel
theorem dX8_mark_61 : decode cX8_mark 61 = .ok (.getfield 42, 3) := by decide +kernel
theorem dX8_mark_64 : decode cX8_mark 64 = .ok (.iload_n 1, 1) := by decide +kernel
theorem dX8_mark_65 : decode cX8_mark 65 = .ok (.aaload, 1) := by decide +kernel
theorem dX8_mark_66 : decode cX8_mark 66 = .ok (.aload_n 0, 1) := by decide +kernel
theorem dX8_mark_67 : decode cX8_mark 67 = .ok (.getfield 19, 3) := by decide +kernel
theorem dX8_mark_70 : decode cX8_mark 70 = .ok (.aload_n 0, 1) := by decide +kernel
theorem dX8_mark_71 : decode cX8_mark 71 = .ok (.getfield 63, 3) := by decide +kernel
theorem dX8_mark_74 : decode cX8_mark 74 = .ok (.aload_n 0, 1) := by decide +kernel
theorem dX8_mark_75 : decode cX8_mark 75 = .ok (.getfield 29, 3) := by decide +kernel
theorem dX8_mark_78 : decode cX8_mark 78 = .ok (.invokevirtual 288, 3) := by decide +kernel
theorem dX8_mark_81 : decode cX8_mark 81 = .ok (.iconst 1, 1) := by decide +kernel
theorem dX8_mark_82 : decode cX8_mark 82 = .ok (.ireturn, 1) := by decide +kernel
theorem dX8_count_0 : decode cX8_count 0 = .ok (.iload_n 1, 1) := by decide +kernel
theorem dX8_count_1 : decode cX8_count 1 = .ok (.tableswitch 183 0 12 #[67, 75, 83, 91, 99, 114, 126, 138, 146, 154, 162, 170, 175], 67) := by decide +kernel
theorem dX8_count_68 : decode cX8_count 68 = .ok (.aload_n 0, 1) := by decide +kernel
theorem dX8_count_69 : decode cX8_count 69 = .ok (.getfield 53, 3) := by decide +kernel
theorem dX8_count_72 : decode cX8_count 72 = .ok (.getfield 193, 3) := by decide +kernel
theorem dX8_count_75 : decode cX8_count 75 = .ok (.ireturn, 1) := by decide +kernel
theorem dX8_count_76 : decode cX8_count 76 = .ok (.aload_n 0, 1) := by decide +kernel
theorem dX8_count_77 : decode cX8_count 77 = .ok (.getfield 53, 3) := by decide +kernel
theorem dX8_count_80 : decode cX8_count 80 = .ok (.getfield 209, 3) := by decide +kernel
theorem dX8_count_83 : decode cX8_count 83 = .ok (.ireturn, 1) := by decide +kernel
theorem dX8_count_84 : decode cX8_count 84 = .ok (.aload_n 0, 1) := by decide +kernel
theorem dX8_count_85 : decode cX8_count 85 = .ok (.getfield 53, 3) := by decide +kernel
theorem dX8_count_88 : decode cX8_count 88 = .ok (.getfield 291, 3) := by decide +kernel
theorem dX8_count_91 : decode cX8_count 91 = .ok (.ireturn, 1) := by decide +kernel
theorem dX8_count_92 : decode cX8_count 92 = .ok (.aload_n 0, 1) := by decide +kernel
theorem dX8_count_93 : decode cX8_count 93 = .ok (.getfield 19, 3) := by decide +kernel
theorem dX8_count_96 : decode cX8_count 96 = .ok (.getfield 239, 3) := by decide +kernel
theorem dX8_count_99 : decode cX8_count 99 = .ok (.ireturn, 1) := by decide +kernel
theorem dX8_count_100 : decode cX8_count 100 = .ok (.aload_n 0, 1) := by decide +kernel
theorem dX8_count_101 : decode cX8_count 101 = .ok (.getfield 53, 3) := by decide +kernel
theorem dX8_count_104 : decode cX8_count 104 = .ok (.aload_n 0, 1) := by decide +kernel
theorem dX8_count_105 : decode cX8_count 105 = .ok (.getfield 19, 3) := by decide +kernel
theorem dX8_count_108 : decode cX8_count 108 = .ok (.getfield 239, 3) := by decide +kernel
theorem dX8_count_111 : decode cX8_count 111 = .ok (.invokevirtual 294, 3) := by decide +kernel
theorem dX8_count_114 : decode cX8_count 114 = .ok (.ireturn, 1) := by decide +kernel
theorem dX8_count_115 : decode cX8_count 115 = .ok (.aload_n 0, 1) := by decide +kernel
theorem dX8_count_116 : decode cX8_count 116 = .ok (.getfield 19, 3) := by decide +kernel
theorem dX8_count_119 : decode cX8_count 119 = .ok (.aload_n 0, 1) := by decide +kernel
theorem dX8_count_120 : decode cX8_count 120 = .ok (.getfield 53, 3) := by decide +kernel
theorem dX8_count_123 : decode cX8_count 123 = .ok (.invokevirtual 281, 3) := by decide +kernel
theorem dX8_count_126 : decode cX8_count 126 = .ok (.ireturn, 1) := by decide +kernel
theorem dX8_count_127 : decode cX8_count 127 = .ok (.aload_n 0, 1) := by decide +kernel
theorem dX8_count_128 : decode cX8_count 128 = .ok (.getfield 19, 3) := by decide +kernel
theorem dX8_count_131 : decode cX8_count 131 = .ok (.aload_n 0, 1) := by decide +kernel
theorem dX8_count_132 : decode cX8_count 132 = .ok (.getfield 53, 3) := by decide +kernel
theorem dX8_count_135 : decode cX8_count 135 = .ok (.invokevirtual 190, 3) := by decide +kernel
theorem dX8_count_138 : decode cX8_count 138 = .ok (.ireturn, 1) := by decide +kernel
theorem dX8_count_139 : decode cX8_count 139 = .ok (.aload_n 0, 1) := by decide +kernel
theorem dX8_count_140 : decode cX8_count 140 = .ok (.getfield 19, 3) := by decide +kernel
theorem dX8_count_143 : decode cX8_count 143 = .ok (.getfield 140, 3) := by decide +kernel
theorem dX8_count_146 : decode cX8_count 146 = .ok (.ireturn, 1) := by decide +kernel
theorem dX8_count_147 : decode cX8_count 147 = .ok (.aload_n 0, 1) := by decide +kernel
theorem dX8_count_148 : decode cX8_count 148 = .ok (.getfield 19, 3) := by decide +kernel
theorem dX8_count_151 : decode cX8_count 151 = .ok (.getfield 297, 3) := by decide +kernel
theorem dX8_count_154 : decode cX8_count 154 = .ok (.ireturn, 1) := by decide +kernel
theorem dX8_count_155 : decode cX8_count 155 = .ok (.aload_n 0, 1) := by decide +kernel
theorem dX8_count_156 : decode cX8_count 156 = .ok (.getfield 63, 3) := by decide +kernel
theorem dX8_count_159 : decode cX8_count 159 = .ok (.getfield 87, 3) := by decide +kernel
theorem dX8_count_162 : decode cX8_count 162 = .ok (.ireturn, 1) := by decide +kernel
theorem dX8_count_163 : decode cX8_count 163 = .ok (.aload_n 0, 1) := by decide +kernel
theorem dX8_count_164 : decode cX8_count 164 = .ok (.getfield 29, 3) := by decide +kernel
theorem dX8_count_167 : decode cX8_count 167 = .ok (.getfield 90, 3) := by decide +kernel
theorem dX8_count_170 : decode cX8_count 170 = .ok (.ireturn, 1) := by decide +kernel
theorem dX8_count_171 : decode cX8_count 171 = .ok (.aload_n 0, 1) := by decide +kernel
theorem dX8_count_172 : decode cX8_count 172 = .ok (.getfield 93, 3) := by decide +kernel
theorem dX8_count_175 : decode cX8_count 175 = .ok (.ireturn, 1) := by decide +kernel
theorem dX8_count_176 : decode cX8_count 176 = .ok (.aload_n 0, 1) := by decide +kernel
theorem dX8_count_177 : decode cX8_count 177 = .ok (.getfield 10, 3) := by decide +kernel
theorem dX8_count_180 : decode cX8_count 180 = .ok (.getfield 75, 3) := by decide +kernel
theorem dX8_count_183 : decode cX8_count 183 = .ok (.ireturn, 1) := by decide +kernel
theorem dX8_count_184 : decode cX8_count 184 = .ok (.iconst (-1), 1) := by decide +kernel
theorem dX8_count_185 : decode cX8_count 185 = .ok (.ireturn, 1) := by decide +kernel
theorem dX8_isWithin_0 : decode cX8_isWithin 0 = .ok (.iload_n 0, 1) := by decide +kernel
theorem dX8_isWithin_1 : decode cX8_isWithin 1 = .ok (.iload_n 1, 1) := by decide +kernel
theorem dX8_isWithin_2 : decode cX8_isWithin 2 = .ok (.if_icmp .lt 12, 3) := by decide +kernel
theorem dX8_isWithin_5 : decode cX8_isWithin 5 = .ok (.iload_n 0, 1) := by decide +kernel
theorem dX8_isWithin_6 : decode cX8_isWithin 6 = .ok (.iload_n 2, 1) := by decide +kernel
theorem dX8_isWithin_7 : decode cX8_isWithin 7 = .ok (.if_icmp .gt 7, 3) := by decide +kernel
theorem dX8_isWithin_10 : decode cX8_isWithin 10 = .ok (.iconst 1, 1) := by decide +kernel
theorem dX8_isWithin_11 : decode cX8_isWithin 11 = .ok (.goto 4, 3) := by decide +kernel
theorem dX8_isWithin_14 : decode cX8_isWithin 14 = .ok (.iconst 0, 1) := by decide +kernel
theorem dX8_isWithin_15 : decode cX8_isWithin 15 = .ok (.ireturn, 1) := by decide +kernel
theorem dX8_isFact_0 : decode cX8_isFact 0 = .ok (.iload_n 0, 1) := by decide +kernel
theorem dX8_isFact_1 : decode cX8_isFact 1 = .ok (.sipush 150, 3) := by decide +kernel
theorem dX8_isFact_4 : decode cX8_isFact 4 = .ok (.sipush 153, 3) := by decide +kernel
theorem dX8_isFact_7 : decode cX8_isFact 7 = .ok (.invokestatic 199, 3) := by decide +kernel
theorem dX8_isFact_10 : decode cX8_isFact 10 = .ok (.ireturn, 1) := by decide +kernel
theorem dX8_isContent_0 : decode cX8_isContent 0 = .ok (.iload_n 0, 1) := by decide +kernel
theorem dX8_isContent_1 : decode cX8_isContent 1 = .ok (.iconst 1, 1) := by decide +kernel
theorem dX8_isContent_2 : decode cX8_isContent 2 = .ok (.if_icmp .ne 15, 3) := by decide +kernel
theorem dX8_isContent_5 : decode cX8_isContent 5 = .ok (.iload_n 1, 1) := by decide +kernel
theorem dX8_isContent_6 : decode cX8_isContent 6 = .ok (.ifCond .lt 7, 3) := by decide +kernel
theorem dX8_isContent_9 : decode cX8_isContent 9 = .ok (.iconst 1, 1) := by decide +kernel
theorem dX8_isContent_10 : decode cX8_isContent 10 = .ok (.goto 16, 3) := by decide +kernel
theorem dX8_isContent_13 : decode cX8_isContent 13 = .ok (.iconst 0, 1) := by decide +kernel
theorem dX8_isContent_14 : decode cX8_isContent 14 = .ok (.goto 12, 3) := by decide +kernel
theorem dX8_isContent_17 : decode cX8_isContent 17 = .ok (.iload_n 1, 1) := by decide +kernel
theorem dX8_isContent_18 : decode cX8_isContent 18 = .ok (.ifCond .gt 7, 3) := by decide +kernel
theorem dX8_isContent_21 : decode cX8_isContent 21 = .ok (.iconst 1, 1) := by decide +kernel
theorem dX8_isContent_22 : decode cX8_isContent 22 = .ok (.goto 4, 3) := by decide +kernel
theorem dX8_isContent_25 : decode cX8_isContent 25 = .ok (.iconst 0, 1) := by decide +kernel
theorem dX8_isContent_26 : decode cX8_isContent 26 = .ok (.ireturn, 1) := by decide +kernel
theorem dX8_remember_0 : decode cX8_remember 0 = .ok (.aload_n 0, 1) := by decide +kernel
theorem dX8_remember_1 : decode cX8_remember 1 = .ok (.getfield 46, 3) := by decide +kernel
theorem dX8_remember_4 : decode cX8_remember 4 = .ok (.aload_n 0, 1) := by decide +kernel
theorem dX8_remember_5 : decode cX8_remember 5 = .ok (.getfield 172, 3) := by decide +kernel
theorem dX8_remember_8 : decode cX8_remember 8 = .ok (.aaload, 1) := by decide +kernel
theorem dX8_remember_9 : decode cX8_remember 9 = .ok (.aload_n 0, 1) := by decide +kernel
theorem dX8_remember_10 : decode cX8_remember 10 = .ok (.getfield 19, 3) := by decide +kernel
theorem dX8_remember_13 : decode cX8_remember 13 = .ok (.invokevirtual 175, 3) := by decide +kernel
theorem dX8_remember_16 : decode cX8_remember 16 = .ok (.aload_n 0, 1) := by decide +kernel
theorem dX8_remember_17 : decode cX8_remember 17 = .ok (.aload_n 0, 1) := by decide +kernel
theorem dX8_remember_18 : decode cX8_remember 18 = .ok (.getfield 172, 3) := by decide +kernel
theorem dX8_remember_21 : decode cX8_remember 21 = .ok (.iconst 1, 1) := by decide +kernel
theorem dX8_remember_22 : decode cX8_remember 22 = .ok (.iadd, 1) := by decide +kernel
theorem dX8_remember_23 : decode cX8_remember 23 = .ok (.bipush 16, 2) := by decide +kernel
theorem dX8_remember_25 : decode cX8_remember 25 = .ok (.irem, 1) := by decide +kernel
theorem dX8_remember_26 : decode cX8_remember 26 = .ok (.putfield 172, 3) := by decide +kernel
theorem dX8_remember_29 : decode cX8_remember 29 = .ok (.aload_n 0, 1) := by decide +kernel
theorem dX8_remember_30 : decode cX8_remember 30 = .ok (.aload_n 0, 1) := by decide +kernel
theorem dX8_remember_31 : decode cX8_remember 31 = .ok (.getfield 93, 3) := by decide +kernel
theorem dX8_remember_34 : decode cX8_remember 34 = .ok (.iconst 1, 1) := by decide +kernel
theorem dX8_remember_35 : decode cX8_remember 35 = .ok (.iadd, 1) := by decide +kernel
theorem dX8_remember_36 : decode cX8_remember 36 = .ok (.bipush 16, 2) := by decide +kernel
theorem dX8_remember_38 : decode cX8_remember 38 = .ok (.invokestatic 300, 3) := by decide +kernel
theorem dX8_remember_41 : decode cX8_remember 41 = .ok (.putfield 93, 3) := by decide +kernel
theorem dX8_remember_44 : decode cX8_remember 44 = .ok (.return_, 1) := by decide +kernel
theorem dX8_goByDraws_0 : decode cX8_goByDraws 0 = .ok (.aload_n 0, 1) := by decide +kernel
theorem dX8_goByDraws_1 : decode cX8_goByDraws 1 = .ok (.getfield 53, 3) := by decide +kernel
theorem dX8_goByDraws_4 : decode cX8_goByDraws 4 = .ok (.getfield 193, 3) := by decide +kernel
theorem dX8_goByDraws_7 : decode cX8_goByDraws 7 = .ok (.ifCond .ne 5, 3) := by decide +kernel
theorem dX8_goByDraws_10 : decode cX8_goByDraws 10 = .ok (.iconst 0, 1) := by decide +kernel
theorem dX8_goByDraws_11 : decode cX8_goByDraws 11 = .ok (.ireturn, 1) := by decide +kernel
theorem dX8_goByDraws_12 : decode cX8_goByDraws 12 = .ok (.iconst 0, 1) := by decide +kernel
theorem dX8_goByDraws_13 : decode cX8_goByDraws 13 = .ok (.istore_n 1, 1) := by decide +kernel
theorem dX8_goByDraws_14 : decode cX8_goByDraws 14 = .ok (.iconst 0, 1) := by decide +kernel
theorem dX8_goByDraws_15 : decode cX8_goByDraws 15 = .ok (.istore_n 2, 1) := by decide +kernel
theorem dX8_goByDraws_16 : decode cX8_goByDraws 16 = .ok (.iload_n 2, 1) := by decide +kernel
theorem dX8_goByDraws_17 : decode cX8_goByDraws 17 = .ok (.aload_n 0, 1) := by decide +kernel
theorem dX8_goByDraws_18 : decode cX8_goByDraws 18 = .ok (.getfield 53, 3) := by decide +kernel
theorem dX8_goByDraws_21 : decode cX8_goByDraws 21 = .ok (.getfield 209, 3) := by decide +kernel
theorem dX8_goByDraws_24 : decode cX8_goByDraws 24 = .ok (.if_icmp .ge 65, 3) := by decide +kernel
theorem dX8_goByDraws_27 : decode cX8_goByDraws 27 = .ok (.aload_n 0, 1) := by decide +kernel
theorem dX8_goByDraws_28 : decode cX8_goByDraws 28 = .ok (.aload_n 0, 1) := by decide +kernel
theorem dX8_goByDraws_29 : decode cX8_goByDraws 29 = .ok (.getfield 53, 3) := by decide +kernel
theorem dX8_goByDraws_32 : decode cX8_goByDraws 32 = .ok (.getfield 193, 3) := by decide +kernel
theorem dX8_goByDraws_35 : decode cX8_goByDraws 35 = .ok (.invokevirtual 305, 3) := by decide +kernel
theorem dX8_goByDraws_38 : decode cX8_goByDraws 38 = .ok (.istore_n 3, 1) := by decide +kernel
theorem dX8_goByDraws_39 : decode cX8_goByDraws 39 = .ok (.aload_n 0, 1) := by decide +kernel
theorem dX8_goByDraws_40 : decode cX8_goByDraws 40 = .ok (.getfield 23, 3) := by decide +kernel
theorem dX8_goByDraws_43 : decode cX8_goByDraws 43 = .ok (.aload_n 0, 1) := by decide +kernel
theorem dX8_goByDraws_44 : decode cX8_goByDraws 44 = .ok (.getfield 53, 3) := by decide +kernel
theorem dX8_goByDraws_47 : decode cX8_goByDraws 47 = .ok (.iload_n 2, 1) := by decide +kernel
theorem dX8_goByDraws_48 : decode cX8_goByDraws 48 = .ok (.iload_n 3, 1) := by decide +kernel
theorem dX8_goByDraws_49 : decode cX8_goByDraws 49 = .ok (.invokevirtual 146, 3) := by decide +kernel
theorem dX8_goByDraws_52 : decode cX8_goByDraws 52 = .ok (.ifCond .ne 19, 3) := by decide +kernel
theorem dX8_goByDraws_55 : decode cX8_goByDraws 55 = .ok (.aload_n 0, 1) := by decide +kernel
theorem dX8_goByDraws_56 : decode cX8_goByDraws 56 = .ok (.getfield 23, 3) := by decide +kernel
theorem dX8_goByDraws_59 : decode cX8_goByDraws 59 = .ok (.aload_n 0, 1) := by decide +kernel
theorem dX8_goByDraws_60 : decode cX8_goByDraws 60 = .ok (.getfield 53, 3) := by decide +kernel
theorem dX8_goByDraws_63 : decode cX8_goByDraws 63 = .ok (.iload_n 2, 1) := by decide +kernel
theorem dX8_goByDraws_64 : decode cX8_goByDraws 64 = .ok (.iload_n 3, 1) := by decide +kernel
theorem dX8_goByDraws_65 : decode cX8_goByDraws 65 = .ok (.invokevirtual 161, 3) := by decide +kernel
theorem dX8_goByDraws_68 : decode cX8_goByDraws 68 = .ok (.ifCond .eq 15, 3) := by decide +kernel
theorem dX8_goByDraws_71 : decode cX8_goByDraws 71 = .ok (.aload_n 0, 1) := by decide +kernel
theorem dX8_goByDraws_72 : decode cX8_goByDraws 72 = .ok (.getfield 23, 3) := by decide +kernel
theorem dX8_goByDraws_75 : decode cX8_goByDraws 75 = .ok (.iload_n 2, 1) := by decide +kernel
theorem dX8_goByDraws_76 : decode cX8_goByDraws 76 = .ok (.iload_n 3, 1) := by decide +kernel
theorem dX8_goByDraws_77 : decode cX8_goByDraws 77 = .ok (.invokevirtual 153, 3) := by decide +kernel
theorem dX8_goByDraws_80 : decode cX8_goByDraws 80 = .ok (.iinc 1 1, 3) := by decide +kernel
theorem dX8_goByDraws_83 : decode cX8_goByDraws 83 = .ok (.iinc 2 1, 3) := by decide +kernel
theorem dX8_goByDraws_86 : decode cX8_goByDraws 86 = .ok (.goto (-70), 3) := by decide +kernel
theorem dX8_goByDraws_89 : decode cX8_goByDraws 89 = .ok (.aload_n 0, 1) := by decide +kernel
theorem dX8_goByDraws_90 : decode cX8_goByDraws 90 = .ok (.getfield 23, 3) := by decide +kernel
theorem dX8_goByDraws_93 : decode cX8_goByDraws 93 = .ok (.aload_n 0, 1) := by decide +kernel
theorem dX8_goByDraws_94 : decode cX8_goByDraws 94 = .ok (.getfield 53, 3) := by decide +kernel
theorem dX8_goByDraws_97 : decode cX8_goByDraws 97 = .ok (.aload_n 0, 1) := by decide +kernel
theorem dX8_goByDraws_98 : decode cX8_goByDraws 98 = .ok (.aload_n 0, 1) := by decide +kernel
theorem dX8_goByDraws_99 : decode cX8_goByDraws 99 = .ok (.getfield 53, 3) := by decide +kernel
theorem dX8_goByDraws_102 : decode cX8_goByDraws 102 = .ok (.getfield 193, 3) := by decide +kernel
theorem dX8_goByDraws_105 : decode cX8_goByDraws 105 = .ok (.invokevirtual 305, 3) := by decide +kernel
theorem dX8_goByDraws_108 : decode cX8_goByDraws 108 = .ok (.invokevirtual 164, 3) := by decide +kernel
theorem dX8_goByDraws_111 : decode cX8_goByDraws 111 = .ok (.iload_n 1, 1) := by decide +kernel
theorem dX8_goByDraws_112 : decode cX8_goByDraws 112 = .ok (.ireturn, 1) := by decide +kernel
theorem dX8_drawBelow_0 : decode cX8_drawBelow 0 = .ok (.aload_n 0, 1) := by decide +kernel
theorem dX8_drawBelow_1 : decode cX8_drawBelow 1 = .ok (.aload_n 0, 1) := by decide +kernel
theorem dX8_drawBelow_2 : decode cX8_drawBelow 2 = .ok (.getfield 274, 3) := by decide +kernel
theorem dX8_drawBelow_5 : decode cX8_drawBelow 5 = .ok (.ldc2_w 308, 3) := by decide +kernel
theorem dX8_drawBelow_8 : decode cX8_drawBelow 8 = .ok (.lmul, 1) := by decide +kernel
theorem dX8_drawBelow_9 : decode cX8_drawBelow 9 = .ok (.ldc2_w 310, 3) := by decide +kernel
theorem dX8_drawBelow_12 : decode cX8_drawBelow 12 = .ok (.ladd, 1) := by decide +kernel
theorem dX8_drawBelow_13 : decode cX8_drawBelow 13 = .ok (.ldc2_w 312, 3) := by decide +kernel
theorem dX8_drawBelow_16 : decode cX8_drawBelow 16 = .ok (.lrem, 1) := by decide +kernel
theorem dX8_drawBelow_17 : decode cX8_drawBelow 17 = .ok (.putfield 274, 3) := by decide +kernel
theorem dX8_drawBelow_20 : decode cX8_drawBelow 20 = .ok (.iload_n 1, 1) := by decide +kernel
theorem dX8_drawBelow_21 : decode cX8_drawBelow 21 = .ok (.ifCond .le 18, 3) := by decide +kernel
theorem dX8_drawBelow_24 : decode cX8_drawBelow 24 = .ok (.aload_n 0, 1) := by decide +kernel
theorem dX8_drawBelow_25 : decode cX8_drawBelow 25 = .ok (.getfield 274, 3) := by decide +kernel
theorem dX8_drawBelow_28 : decode cX8_drawBelow 28 = .ok (.ldc2_w 314, 3) := by decide +kernel
theorem dX8_drawBelow_31 : decode cX8_drawBelow 31 = .ok (.ldiv, 1) := by decide +kernel
theorem dX8_drawBelow_32 : decode cX8_drawBelow 32 = .ok (.iload_n 1, 1) := by decide +kernel
theorem dX8_drawBelow_33 : decode cX8_drawBelow 33 = .ok (.i2l, 1) := by decide +kernel
theorem dX8_drawBelow_34 : decode cX8_drawBelow 34 = .ok (.lrem, 1) := by decide +kernel
theorem dX8_drawBelow_35 : decode cX8_drawBelow 35 = .ok (.l2i, 1) := by decide +kernel
theorem dX8_drawBelow_36 : decode cX8_drawBelow 36 = .ok (.goto 4, 3) := by decide +kernel
theorem dX8_drawBelow_39 : decode cX8_drawBelow 39 = .ok (.iconst 0, 1) := by decide +kernel
theorem dX8_drawBelow_40 : decode cX8_drawBelow 40 = .ok (.ireturn, 1) := by decide +kernel
theorem dX9_init_0 : decode cX9_init 0 = .ok (.aload_n 0, 1) := by decide +kernel
theorem dX9_init_1 : decode cX9_init 1 = .ok (.invokespecial 1, 3) := by decide +kernel
theorem dX9_init_4 : decode cX9_init 4 = .ok (.aload_n 0, 1) := by decide +kernel
theorem dX9_init_5 : decode cX9_init 5 = .ok (.sipush 1000, 3) := by decide +kernel
theorem dX9_init_8 : decode cX9_init 8 = .ok (.newarray .int, 2) := by decide +kernel
theorem dX9_init_10 : decode cX9_init 10 = .ok (.putfield 7, 3) := by decide +kernel
theorem dX9_init_13 : decode cX9_init 13 = .ok (.aload_n 0, 1) := by decide +kernel
theorem dX9_init_14 : decode cX9_init 14 = .ok (.bipush 8, 2) := by decide +kernel
theorem dX9_init_16 : decode cX9_init 16 = .ok (.newarray .int, 2) := by decide +kernel
theorem dX9_init_18 : decode cX9_init 18 = .ok (.putfield 13, 3) := by decide +kernel
theorem dX9_init_21 : decode cX9_init 21 = .ok (.aload_n 0, 1) := by decide +kernel
theorem dX9_init_22 : decode cX9_init 22 = .ok (.bipush 10, 2) := by decide +kernel
theorem dX9_init_24 : decode cX9_init 24 = .ok (.newarray .long, 2) := by decide +kernel
theorem dX9_init_26 : decode cX9_init 26 = .ok (.putfield 16, 3) := by decide +kernel
theorem dX9_init_29 : decode cX9_init 29 = .ok (.aload_n 0, 1) := by decide +kernel
theorem dX9_init_30 : decode cX9_init 30 = .ok (.bipush 10, 2) := by decide +kernel
theorem dX9_init_32 : decode cX9_init 32 = .ok (.newarray .long, 2) := by decide +kernel
theorem dX9_init_34 : decode cX9_init 34 = .ok (.putfield 20, 3) := by decide +kernel
theorem dX9_init_37 : decode cX9_init 37 = .ok (.aload_n 0, 1) := by decide +kernel
theorem dX9_init_38 : decode cX9_init 38 = .ok (.bipush 10, 2) := by decide +kernel
theorem dX9_init_40 : decode cX9_init 40 = .ok (.newarray .int, 2) := by decide +kernel
theorem dX9_init_42 : decode cX9_init 42 = .ok (.putfield 23, 3) := by decide +kernel
theorem dX9_init_45 : decode cX9_init 45 = .ok (.aload_n 0, 1) := by decide +kernel
theorem dX9_init_46 : decode cX9_init 46 = .ok (.bipush 10, 2) := by decide +kernel
theorem dX9_init_48 : decode cX9_init 48 = .ok (.newarray .int, 2) := by decide +kernel
theorem dX9_init_50 : decode cX9_init 50 = .ok (.putfield 26, 3) := by decide +kernel
theorem dX9_init_53 : decode cX9_init 53 = .ok (.aload_n 0, 1) := by decide +kernel
theorem dX9_init_54 : decode cX9_init 54 = .ok (.bipush 10, 2) := by decide +kernel
theorem dX9_init_56 : decode cX9_init 56 = .ok (.newarray .int, 2) := by decide +kernel
theorem dX9_init_58 : decode cX9_init 58 = .ok (.putfield 29, 3) := by decide +kernel
theorem dX9_init_61 : decode cX9_init 61 = .ok (.aload_n 0, 1) := by decide +kernel
theorem dX9_init_62 : decode cX9_init 62 = .ok (.bipush 10, 2) := by decide +kernel
theorem dX9_init_64 : decode cX9_init 64 = .ok (.newarray .int, 2) := by decide +kernel
theorem dX9_init_66 : decode cX9_init 66 = .ok (.putfield 32, 3) := by decide +kernel
theorem dX9_init_69 : decode cX9_init 69 = .ok (.aload_n 0, 1) := by decide +kernel
theorem dX9_init_70 : decode cX9_init 70 = .ok (.bipush 10, 2) := by decide +kernel
theorem dX9_init_72 : decode cX9_init 72 = .ok (.newarray .int, 2) := by decide +kernel
theorem dX9_init_74 : decode cX9_init 74 = .ok (.putfield 35, 3) := by decide +kernel
theorem dX9_init_77 : decode cX9_init 77 = .ok (.aload_n 0, 1) := by decide +kernel
theorem dX9_init_78 : decode cX9_init 78 = .ok (.bipush 10, 2) := by decide +kernel
theorem dX9_init_80 : decode cX9_init 80 = .ok (.newarray .int, 2) := by decide +kernel
theorem dX9_init_82 : decode cX9_init 82 = .ok (.putfield 38, 3) := by decide +kernel
theorem dX9_init_85 : decode cX9_init 85 = .ok (.aload_n 0, 1) := by decide +kernel
theorem dX9_init_86 : decode cX9_init 86 = .ok (.bipush 20, 2) := by decide +kernel
theorem dX9_init_88 : decode cX9_init 88 = .ok (.newarray .int, 2) := by decide +kernel
theorem dX9_init_90 : decode cX9_init 90 = .ok (.putfield 41, 3) := by decide +kernel
theorem dX9_init_93 : decode cX9_init 93 = .ok (.aload_n 0, 1) := by decide +kernel
theorem dX9_init_94 : decode cX9_init 94 = .ok (.bipush 24, 2) := by decide +kernel
theorem dX9_init_96 : decode cX9_init 96 = .ok (.newarray .int, 2) := by decide +kernel
theorem dX9_init_98 : decode cX9_init 98 = .ok (.putfield 44, 3) := by decide +kernel
theorem dX9_init_101 : decode cX9_init 101 = .ok (.aload_n 0, 1) := by decide +kernel
theorem dX9_init_102 : decode cX9_init 102 = .ok (.iconst 2, 1) := by decide +kernel
theorem dX9_init_103 : decode cX9_init 103 = .ok (.newarray .int, 2) := by decide +kernel
theorem dX9_init_105 : decode cX9_init 105 = .ok (.putfield 47, 3) := by decide +kernel
theorem dX9_init_108 : decode cX9_init 108 = .ok (.aload_n 0, 1) := by decide +kernel
theorem dX9_init_109 : decode cX9_init 109 = .ok (.iconst 2, 1) := by decide +kernel
theorem dX9_init_110 : decode cX9_init 110 = .ok (.newarray .int, 2) := by decide +kernel
theorem dX9_init_112 : decode cX9_init 112 = .ok (.putfield 50, 3) := by decide +kernel
theorem dX9_init_115 : decode cX9_init 115 = .ok (.aload_n 0, 1) := by decide +kernel
theorem dX9_init_116 : decode cX9_init 116 = .ok (.sipush 2000, 3) := by decide +kernel
theorem dX9_init_119 : decode cX9_init 119 = .ok (.newarray .int, 2) := by decide +kernel
theorem dX9_init_121 : decode cX9_init 121 = .ok (.putfield 53, 3) := by decide +kernel
theorem dX9_init_124 : decode cX9_init 124 = .ok (.aload_n 0, 1) := by decide +kernel
theorem dX9_init_125 : decode cX9_init 125 = .ok (.bipush 7, 2) := by decide +kernel
theorem dX9_init_127 : decode cX9_init 127 = .ok (.newarray .int, 2) := by decide +kernel
theorem dX9_init_129 : decode cX9_init 129 = .ok (.putfield 56, 3) := by decide +kernel
theorem dX9_init_132 : decode cX9_init 132 = .ok (.aload_n 0, 1) := by decide +kernel
theorem dX9_init_133 : decode cX9_init 133 = .ok (.bipush 7, 2) := by decide +kernel
theorem dX9_init_135 : decode cX9_init 135 = .ok (.newarray .boolean, 2) := by decide +kernel
theorem dX9_init_137 : decode cX9_init 137 = .ok (.putfield 59, 3) := by decide +kernel
theorem dX9_init_140 : decode cX9_init 140 = .ok (.aload_n 0, 1) := by decide +kernel
theorem dX9_init_141 : decode cX9_init 141 = .ok (.bipush 7, 2) := by decide +kernel
theorem dX9_init_143 : decode cX9_init 143 = .ok (.newarray .int, 2) := by decide +kernel
theorem dX9_init_145 : decode cX9_init 145 = .ok (.putfield 63, 3) := by decide +kernel
theorem dX9_init_148 : decode cX9_init 148 = .ok (.aload_n 0, 1) := by decide +kernel
theorem dX9_init_149 : decode cX9_init 149 = .ok (.bipush 7, 2) := by decide +kernel
theorem dX9_init_151 : decode cX9_init 151 = .ok (.newarray .int, 2) := by decide +kernel
theorem dX9_init_153 : decode cX9_init 153 = .ok (.putfield 66, 3) := by decide +kernel
theorem dX9_init_156 : decode cX9_init 156 = .ok (.aload_n 0, 1) := by decide +kernel
theorem dX9_init_157 : decode cX9_init 157 = .ok (.bipush 7, 2) := by decide +kernel
theorem dX9_init_159 : decode cX9_init 159 = .ok (.newarray .int, 2) := by decide +kernel
theorem dX9_init_161 : decode cX9_init 161 = .ok (.putfield 69, 3) := by decide +kernel
theorem dX9_init_164 : decode cX9_init 164 = .ok (.aload_n 0, 1) := by decide +kernel
theorem dX9_init_165 : decode cX9_init 165 = .ok (.bipush 7, 2) := by decide +kernel
theorem dX9_init_167 : decode cX9_init 167 = .ok (.newarray .int, 2) := by decide +kernel
theorem dX9_init_169 : decode cX9_init 169 = .ok (.putfield 72, 3) := by decide +kernel
theorem dX9_init_172 : decode cX9_init 172 = .ok (.aload_n 0, 1) := by decide +kernel
theorem dX9_init_173 : decode cX9_init 173 = .ok (.bipush 7, 2) := by decide +kernel
theorem dX9_init_175 : decode cX9_init 175 = .ok (.newarray .int, 2) := by decide +kernel
theorem dX9_init_177 : decode cX9_init 177 = .ok (.putfield 75, 3) := by decide +kernel
theorem dX9_init_180 : decode cX9_init 180 = .ok (.aload_n 0, 1) := by decide +kernel
theorem dX9_init_181 : decode cX9_init 181 = .ok (.bipush 7, 2) := by decide +kernel
theorem dX9_init_183 : decode cX9_init 183 = .ok (.newarray .int, 2) := by decide +kernel
theorem dX9_init_185 : decode cX9_init 185 = .ok (.putfield 78, 3) := by decide +kernel
theorem dX9_init_188 : decode cX9_init 188 = .ok (.aload_n 0, 1) := by decide +kernel
theorem dX9_init_189 : decode cX9_init 189 = .ok (.bipush 7, 2) := by decide +kernel
theorem dX9_init_191 : decode cX9_init 191 = .ok (.newarray .int, 2) := by decide +kernel
theorem dX9_init_193 : decode cX9_init 193 = .ok (.putfield 81, 3) := by decide +kernel
theorem dX9_init_196 : decode cX9_init 196 = .ok (.aload_n 0, 1) := by decide +kernel
theorem dX9_init_197 : decode cX9_init 197 = .ok (.bipush 7, 2) := by decide +kernel
theorem dX9_init_199 : decode cX9_init 199 = .ok (.newarray .int, 2) := by decide +kernel
theorem dX9_init_201 : decode cX9_init 201 = .ok (.putfield 84, 3) := by decide +kernel
theorem dX9_init_204 : decode cX9_init 204 = .ok (.aload_n 0, 1) := by decide +kernel
theorem dX9_init_205 : decode cX9_init 205 = .ok (.bipush 7, 2) := by decide +kernel
theorem dX9_init_207 : decode cX9_init 207 = .ok (.newarray .int, 2) := by decide +kernel
theorem dX9_init_209 : decode cX9_init 209 = .ok (.putfield 87, 3) := by decide +kernel
theorem dX9_init_212 : decode cX9_init 212 = .ok (.aload_n 0, 1) := by decide +kernel
theorem dX9_init_213 : decode cX9_init 213 = .ok (.bipush 20, 2) := by decide +kernel
theorem dX9_init_215 : decode cX9_init 215 = .ok (.newarray .int, 2) := by decide +kernel
theorem dX9_init_217 : decode cX9_init 217 = .ok (.putfield 90, 3) := by decide +kernel
theorem dX9_init_220 : decode cX9_init 220 = .ok (.aload_n 0, 1) := by decide +kernel
theorem dX9_init_221 : decode cX9_init 221 = .ok (.bipush 6, 2) := by decide +kernel
theorem dX9_init_223 : decode cX9_init 223 = .ok (.newarray .int, 2) := by decide +kernel
theorem dX9_init_225 : decode cX9_init 225 = .ok (.putfield 93, 3) := by decide +kernel
theorem dX9_init_228 : decode cX9_init 228 = .ok (.aload_n 0, 1) := by decide +kernel
theorem dX9_init_229 : decode cX9_init 229 = .ok (.sipush 240, 3) := by decide +kernel
theorem dX9_init_232 : decode cX9_init 232 = .ok (.newarray .int, 2) := by decide +kernel
theorem dX9_init_234 : decode cX9_init 234 = .ok (.putfield 96, 3) := by decide +kernel
theorem dX9_init_237 : decode cX9_init 237 = .ok (.aload_n 0, 1) := by decide +kernel
theorem dX9_init_238 : decode cX9_init 238 = .ok (.sipush 240, 3) := by decide +kernel
theorem dX9_init_241 : decode cX9_init 241 = .ok (.newarray .int, 2) := by decide +kernel
theorem dX9_init_243 : decode cX9_init 243 = .ok (.putfield 99, 3) := by decide +kernel
theorem dX9_init_246 : decode cX9_init 246 = .ok (.aload_n 0, 1) := by decide +kernel
theorem dX9_init_247 : decode cX9_init 247 = .ok (.sipush 240, 3) := by decide +kernel
theorem dX9_init_250 : decode cX9_init 250 = .ok (.newarray .int, 2) := by decide +kernel
theorem dX9_init_252 : decode cX9_init 252 = .ok (.putfield 102, 3) := by decide +kernel
theorem dX9_init_255 : decode cX9_init 255 = .ok (.aload_n 0, 1) := by decide +kernel
theorem dX9_init_256 : decode cX9_init 256 = .ok (.iconst 5, 1) := by decide +kernel
theorem dX9_init_257 : decode cX9_init 257 = .ok (.newarray .int, 2) := by decide +kernel
theorem dX9_init_259 : decode cX9_init 259 = .ok (.putfield 105, 3) := by decide +kernel
theorem dX9_init_262 : decode cX9_init 262 = .ok (.aload_n 0, 1) := by decide +kernel
theorem dX9_init_263 : decode cX9_init 263 = .ok (.bipush 40, 2) := by decide +kernel
theorem dX9_init_265 : decode cX9_init 265 = .ok (.newarray .int, 2) := by decide +kernel
theorem dX9_init_267 : decode cX9_init 267 = .ok (.putfield 108, 3) := by decide +kernel
theorem dX9_init_270 : decode cX9_init 270 = .ok (.aload_n 0, 1) := by decide +kernel
theorem dX9_init_271 : decode cX9_init 271 = .ok (.bipush 40, 2) := by decide +kernel
theorem dX9_init_273 : decode cX9_init 273 = .ok (.newarray .boolean, 2) := by decide +kernel
theorem dX9_init_275 : decode cX9_init 275 = .ok (.putfield 111, 3) := by decide +kernel
theorem dX9_init_278 : decode cX9_init 278 = .ok (.aload_n 0, 1) := by decide +kernel
theorem dX9_init_279 : decode cX9_init 279 = .ok (.bipush 13, 2) := by decide +kernel
theorem dX9_init_281 : decode cX9_init 281 = .ok (.newarray .int, 2) := by decide +kernel
theorem dX9_init_283 : decode cX9_init 283 = .ok (.putfield 114, 3) := by decide +kernel
theorem dX9_init_286 : decode cX9_init 286 = .ok (.aload_n 0, 1) := by decide +kernel
theorem dX9_init_287 : decode cX9_init 287 = .ok (.bipush 13, 2) := by decide +kernel
theorem dX9_init_289 : decode cX9_init 289 = .ok (.newarray .int, 2) := by decide +kernel
theorem dX9_init_291 : decode cX9_init 291 = .ok (.putfield 117, 3) := by decide +kernel
theorem dX9_init_294 : decode cX9_init 294 = .ok (.aload_n 0, 1) := by decide +kernel
theorem dX9_init_295 : decode cX9_init 295 = .ok (.bipush 13, 2) := by decide +kernel
theorem dX9_init_297 : decode cX9_init 297 = .ok (.newarray .int, 2) := by decide +kernel
theorem dX9_init_299 : decode cX9_init 299 = .ok (.putfield 120, 3) := by decide +kernel
theorem dX9_init_302 : decode cX9_init 302 = .ok (.aload_n 0, 1) := by decide +kernel
theorem dX9_init_303 : decode cX9_init 303 = .ok (.bipush 52, 2) := by decide +kernel
theorem dX9_init_305 : decode cX9_init 305 = .ok (.newarray .int, 2) := by decide +kernel
theorem dX9_init_307 : decode cX9_init 307 = .ok (.putfield 123, 3) := by decide +kernel
theorem dX9_init_310 : decode cX9_init 310 = .ok (.aload_n 0, 1) := by decide +kernel
theorem dX9_init_311 : decode cX9_init 311 = .ok (.sipush 208, 3) := by decide +kernel
theorem dX9_init_314 : decode cX9_init 314 = .ok (.newarray .int, 2) := by decide +kernel
theorem dX9_init_316 : decode cX9_init 316 = .ok (.putfield 126, 3) := by decide +kernel
theorem dX9_init_319 : decode cX9_init 319 = .ok (.aload_n 0, 1) := by decide +kernel
theorem dX9_init_320 : decode cX9_init 320 = .ok (.iconst 4, 1) := by decide +kernel
theorem dX9_init_321 : decode cX9_init 321 = .ok (.newarray .boolean, 2) := by decide +kernel
theorem dX9_init_323 : decode cX9_init 323 = .ok (.putfield 129, 3) := by decide +kernel
theorem dX9_init_326 : decode cX9_init 326 = .ok (.aload_n 0, 1) := by decide +kernel
theorem dX9_init_327 : decode cX9_init 327 = .ok (.iconst 5, 1) := by decide +kernel
theorem dX9_init_328 : decode cX9_init 328 = .ok (.newarray .int, 2) := by decide +kernel
theorem dX9_init_330 : decode cX9_init 330 = .ok (.putfield 132, 3) := by decide +kernel
theorem dX9_init_333 : decode cX9_init 333 = .ok (.aload_n 0, 1) := by decide +kernel
theorem dX9_init_334 : decode cX9_init 334 = .ok (.iconst 5, 1) := by decide +kernel
theorem dX9_init_335 : decode cX9_init 335 = .ok (.newarray .int, 2) := by decide +kernel
theorem dX9_init_337 : decode cX9_init 337 = .ok (.putfield 135, 3) := by decide +kernel
theorem dX9_init_340 : decode cX9_init 340 = .ok (.aload_n 0, 1) := by decide +kernel
theorem dX9_init_341 : decode cX9_init 341 = .ok (.iconst 0, 1) := by decide +kernel
theorem dX9_init_342 : decode cX9_init 342 = .ok (.invokevirtual 138, 3) := by decide +kernel
theorem dX9_init_345 : decode cX9_init 345 = .ok (.return_, 1) := by decide +kernel
theorem dX9_thrown_0 : decode cX9_thrown 0 = .ok (.aload_n 0, 1) := by decide +kernel
theorem dX9_thrown_1 : decode cX9_thrown 1 = .ok (.getfield 142, 3) := by decide +kernel
theorem dX9_thrown_4 : decode cX9_thrown 4 = .ok (.ireturn, 1) := by decide +kernel
theorem dX9_within_0 : decode cX9_within 0 = .ok (.iload_n 0, 1) := by decide +kernel
theorem dX9_within_1 : decode cX9_within 1 = .ok (.iload_n 1, 1) := by decide +kernel
theorem dX9_within_2 : decode cX9_within 2 = .ok (.if_icmp .lt 12, 3) := by decide +kernel
theorem dX9_within_5 : decode cX9_within 5 = .ok (.iload_n 0, 1) := by decide +kernel
theorem dX9_within_6 : decode cX9_within 6 = .ok (.iload_n 2, 1) := by decide +kernel
theorem dX9_within_7 : decode cX9_within 7 = .ok (.if_icmp .gt 7, 3) := by decide +kernel
theorem dX9_within_10 : decode cX9_within 10 = .ok (.iconst 1, 1) := by decide +kernel
theorem dX9_within_11 : decode cX9_within 11 = .ok (.goto 4, 3) := by decide +kernel
theorem dX9_within_14 : decode cX9_within 14 = .ok (.iconst 0, 1) := by decide +kernel
theorem dX9_within_15 : decode cX9_within 15 = .ok (.ireturn, 1) := by decide +kernel
theorem dX9_bits_0 : decode cX9_bits 0 = .ok (.iconst 0, 1) := by decide +kernel
theorem dX9_bits_1 : decode cX9_bits 1 = .ok (.istore_n 1, 1) := by decide +kernel
theorem dX9_bits_2 : decode cX9_bits 2 = .ok (.iconst 0, 1) := by decide +kernel
theorem dX9_bits_3 : decode cX9_bits 3 = .ok (.istore_n 2, 1) := by decide +kernel
theorem dX9_bits_4 : decode cX9_bits 4 = .ok (.iload_n 2, 1) := by decide +kernel
theorem dX9_bits_5 : decode cX9_bits 5 = .ok (.bipush 6, 2) := by decide +kernel
theorem dX9_bits_7 : decode cX9_bits 7 = .ok (.if_icmp .ge 17, 3) := by decide +kernel
theorem dX9_bits_10 : decode cX9_bits 10 = .ok (.iload_n 1, 1) := by decide +kernel
theorem dX9_bits_11 : decode cX9_bits 11 = .ok (.iload_n 0, 1) := by decide +kernel
theorem dX9_bits_12 : decode cX9_bits 12 = .ok (.iload_n 2, 1) := by decide +kernel
theorem dX9_bits_13 : decode cX9_bits 13 = .ok (.ishr, 1) := by decide +kernel
theorem dX9_bits_14 : decode cX9_bits 14 = .ok (.iconst 1, 1) := by decide +kernel
theorem dX9_bits_15 : decode cX9_bits 15 = .ok (.iand, 1) := by decide +kernel
theorem dX9_bits_16 : decode cX9_bits 16 = .ok (.iadd, 1) := by decide +kernel
theorem dX9_bits_17 : decode cX9_bits 17 = .ok (.istore_n 1, 1) := by decide +kernel
theorem dX9_bits_18 : decode cX9_bits 18 = .ok (.iinc 2 1, 3) := by decide +kernel
theorem dX9_bits_21 : decode cX9_bits 21 = .ok (.goto (-17), 3) := by decide +kernel
theorem dX9_bits_24 : decode cX9_bits 24 = .ok (.iload_n 1, 1) := by decide +kernel
theorem dX9_bits_25 : decode cX9_bits 25 = .ok (.ireturn, 1) := by decide +kernel
theorem dX9_feed_0 : decode cX9_feed 0 = .ok (.aload_n 0, 1) := by decide +kernel
theorem dX9_feed_1 : decode cX9_feed 1 = .ok (.iconst 0, 1) := by decide +kernel
theorem dX9_feed_2 : decode cX9_feed 2 = .ok (.putfield 142, 3) := by decide +kernel
theorem dX9_feed_5 : decode cX9_feed 5 = .ok (.iconst 0, 1) := by decide +kernel
theorem dX9_feed_6 : decode cX9_feed 6 = .ok (.istore 7, 2) := by decide +kernel
theorem dX9_feed_8 : decode cX9_feed 8 = .ok (.iload 7, 2) := by decide +kernel
theorem dX9_feed_10 : decode cX9_feed 10 = .ok (.bipush 24, 2) := by decide +kernel
theorem dX9_feed_12 : decode cX9_feed 12 = .ok (.if_icmp .ge 108, 3) := by decide +kernel
theorem dX9_feed_15 : decode cX9_feed 15 = .ok (.iload 7, 2) := by decide +kernel
theorem dX9_feed_17 : decode cX9_feed 17 = .ok (.bipush 8, 2) := by decide +kernel
theorem dX9_feed_19 : decode cX9_feed 19 = .ok (.if_icmp .ge 7, 3) := by decide +kernel
theorem dX9_feed_22 : decode cX9_feed 22 = .ok (.lload_n 1, 1) := by decide +kernel
theorem dX9_feed_23 : decode cX9_feed 23 = .ok (.goto 16, 3) := by decide +kernel
theorem dX9_feed_26 : decode cX9_feed 26 = .ok (.iload 7, 2) := by decide +kernel
theorem dX9_feed_28 : decode cX9_feed 28 = .ok (.bipush 16, 2) := by decide +kernel
theorem dX9_feed_30 : decode cX9_feed 30 = .ok (.if_icmp .ge 7, 3) := by decide +kernel
theorem dX9_feed_33 : decode cX9_feed 33 = .ok (.lload_n 3, 1) := by decide +kernel
theorem dX9_feed_34 : decode cX9_feed 34 = .ok (.goto 5, 3) := by decide +kernel
theorem dX9_feed_37 : decode cX9_feed 37 = .ok (.lload 5, 2) := by decide +kernel
theorem dX9_feed_39 : decode cX9_feed 39 = .ok (.lstore 8, 2) := by decide +kernel
theorem dX9_feed_41 : decode cX9_feed 41 = .ok (.lload 8, 2) := by decide +kernel
theorem dX9_feed_43 : decode cX9_feed 43 = .ok (.bipush 56, 2) := by decide +kernel
theorem dX9_feed_45 : decode cX9_feed 45 = .ok (.bipush 8, 2) := by decide +kernel
theorem dX9_feed_47 : decode cX9_feed 47 = .ok (.iload 7, 2) := by decide +kernel
theorem dX9_feed_49 : decode cX9_feed 49 = .ok (.bipush 7, 2) := by decide +kernel
theorem dX9_feed_51 : decode cX9_feed 51 = .ok (.iand, 1) := by decide +kernel
theorem dX9_feed_52 : decode cX9_feed 52 = .ok (.imul, 1) := by decide +kernel
theorem dX9_feed_53 : decode cX9_feed 53 = .ok (.isub, 1) := by decide +kernel
theorem dX9_feed_54 : decode cX9_feed 54 = .ok (.lushr, 1) := by decide +kernel
theorem dX9_feed_55 : decode cX9_feed 55 = .ok (.ldc2_w 146, 3) := by decide +kernel
theorem dX9_feed_58 : decode cX9_feed 58 = .ok (.land, 1) := by decide +kernel
theorem dX9_feed_59 : decode cX9_feed 59 = .ok (.l2i, 1) := by decide +kernel
theorem dX9_feed_60 : decode cX9_feed 60 = .ok (.istore 10, 2) := by decide +kernel
theorem dX9_feed_62 : decode cX9_feed 62 = .ok (.aload_n 0, 1) := by decide +kernel
theorem dX9_feed_63 : decode cX9_feed 63 = .ok (.getfield 148, 3) := by decide +kernel
theorem dX9_feed_66 : decode cX9_feed 66 = .ok (.sipush 1000, 3) := by decide +kernel
theorem dX9_feed_69 : decode cX9_feed 69 = .ok (.if_icmp .ge 45, 3) := by decide +kernel
theorem dX9_feed_72 : decode cX9_feed 72 = .ok (.iload 10, 2) := by decide +kernel
theorem dX9_feed_74 : decode cX9_feed 74 = .ok (.bipush 10, 2) := by decide +kernel
theorem dX9_feed_76 : decode cX9_feed 76 = .ok (.if_icmp .eq 17, 3) := by decide +kernel
theorem dX9_feed_79 : decode cX9_feed 79 = .ok (.iload 10, 2) := by decide +kernel
theorem dX9_feed_81 : decode cX9_feed 81 = .ok (.bipush 32, 2) := by decide +kernel
theorem dX9_feed_83 : decode cX9_feed 83 = .ok (.if_icmp .lt 31, 3) := by decide +kernel
theorem dX9_feed_86 : decode cX9_feed 86 = .ok (.iload 10, 2) := by decide +kernel
theorem dX9_feed_88 : decode cX9_feed 88 = .ok (.bipush 126, 2) := by decide +kernel
theorem dX9_feed_90 : decode cX9_feed 90 = .ok (.if_icmp .gt 24, 3) := by decide +kernel
theorem dX9_feed_93 : decode cX9_feed 93 = .ok (.aload_n 0, 1) := by decide +kernel
theorem dX9_feed_94 : decode cX9_feed 94 = .ok (.getfield 7, 3) := by decide +kernel
theorem dX9_feed_97 : decode cX9_feed 97 = .ok (.aload_n 0, 1) := by decide +kernel
theorem dX9_feed_98 : decode cX9_feed 98 = .ok (.getfield 148, 3) := by decide +kernel
theorem dX9_feed_101 : decode cX9_feed 101 = .ok (.iload 10, 2) := by decide +kernel
theorem dX9_feed_103 : decode cX9_feed 103 = .ok (.iastore, 1) := by decide +kernel
theorem dX9_feed_104 : decode cX9_feed 104 = .ok (.aload_n 0, 1) := by decide +kernel
theorem dX9_feed_105 : decode cX9_feed 105 = .ok (.dup, 1) := by decide +kernel
theorem dX9_feed_106 : decode cX9_feed 106 = .ok (.getfield 148, 3) := by decide +kernel
theorem dX9_feed_109 : decode cX9_feed 109 = .ok (.iconst 1, 1) := by decide +kernel
theorem dX9_feed_110 : decode cX9_feed 110 = .ok (.iadd, 1) := by decide +kernel
theorem dX9_feed_111 : decode cX9_feed 111 = .ok (.putfield 148, 3) := by decide +kernel
theorem dX9_feed_114 : decode cX9_feed 114 = .ok (.iinc 7 1, 3) := by decide +kernel
theorem dX9_feed_117 : decode cX9_feed 117 = .ok (.goto (-109), 3) := by decide +kernel
theorem dX9_feed_120 : decode cX9_feed 120 = .ok (.aload_n 0, 1) := by decide +kernel
theorem dX9_feed_121 : decode cX9_feed 121 = .ok (.getfield 148, 3) := by decide +kernel
theorem dX9_feed_124 : decode cX9_feed 124 = .ok (.ireturn, 1) := by decide +kernel
theorem dX9_signAt_0 : decode cX9_signAt 0 = .ok (.iload_n 1, 1) := by decide +kernel
theorem dX9_signAt_1 : decode cX9_signAt 1 = .ok (.aload_n 0, 1) := by decide +kernel
theorem dX9_signAt_2 : decode cX9_signAt 2 = .ok (.getfield 151, 3) := by decide +kernel
theorem dX9_signAt_5 : decode cX9_signAt 5 = .ok (.if_icmp .ge 12, 3) := by decide +kernel
theorem dX9_signAt_8 : decode cX9_signAt 8 = .ok (.aload_n 0, 1) := by decide +kernel
theorem dX9_signAt_9 : decode cX9_signAt 9 = .ok (.getfield 7, 3) := by decide +kernel
theorem dX9_signAt_12 : decode cX9_signAt 12 = .ok (.iload_n 1, 1) := by decide +kernel
theorem dX9_signAt_13 : decode cX9_signAt 13 = .ok (.iaload, 1) := by decide +kernel
theorem dX9_signAt_14 : decode cX9_signAt 14 = .ok (.goto 4, 3) := by decide +kernel
theorem dX9_signAt_17 : decode cX9_signAt 17 = .ok (.iconst 0, 1) := by decide +kernel
theorem dX9_signAt_18 : decode cX9_signAt 18 = .ok (.ireturn, 1) := by decide +kernel
theorem dX9_nextToken_0 : decode cX9_nextToken 0 = .ok (.aload_n 0, 1) := by decide +kernel
theorem dX9_nextToken_1 : decode cX9_nextToken 1 = .ok (.getfield 154, 3) := by decide +kernel
theorem dX9_nextToken_4 : decode cX9_nextToken 4 = .ok (.aload_n 0, 1) := by decide +kernel
theorem dX9_nextToken_5 : decode cX9_nextToken 5 = .ok (.getfield 151, 3) := by decide +kernel
theorem dX9_nextToken_8 : decode cX9_nextToken 8 = .ok (.if_icmp .ge 44, 3) := by decide +kernel
theorem dX9_nextToken_11 : decode cX9_nextToken 11 = .ok (.aload_n 0, 1) := by decide +kernel
theorem dX9_nextToken_12 : decode cX9_nextToken 12 = .ok (.getfield 7, 3) := by decide +kernel
theorem dX9_nextToken_15 : decode cX9_nextToken 15 = .ok (.aload_n 0, 1) := by decide +kernel
theorem dX9_nextToken_16 : decode cX9_nextToken 16 = .ok (.getfield 154, 3) := by decide +kernel
theorem dX9_nextToken_19 : decode cX9_nextToken 19 = .ok (.iaload, 1) := by decide +kernel
theorem dX9_nextToken_20 : decode cX9_nextToken 20 = .ok (.bipush 32, 2) := by decide +kernel
theorem dX9_nextToken_22 : decode cX9_nextToken 22 = .ok (.if_icmp .eq 17, 3) := by decide +kernel
theorem dX9_nextToken_25 : decode cX9_nextToken 25 = .ok (.aload_n 0, 1) := by decide +kernel
theorem dX9_nextToken_26 : decode cX9_nextToken 26 = .ok (.getfield 7, 3) := by decide +kernel
theorem dX9_nextToken_29 : decode cX9_nextToken 29 = .ok (.aload_n 0, 1) := by decide +kernel
theorem dX9_nextToken_30 : decode cX9_nextToken 30 = .ok (.getfield 154, 3) := by decide +kernel
theorem dX9_nextToken_33 : decode cX9_nextToken 33 = .ok (.iaload, 1) := by decide +kernel
theorem dX9_nextToken_34 : decode cX9_nextToken 34 = .ok (.bipush 10, 2) := by decide +kernel
theorem dX9_nextToken_36 : decode cX9_nextToken 36 = .ok (.if_icmp .ne 16, 3) := by decide +kernel
theorem dX9_nextToken_39 : decode cX9_nextToken 39 = .ok (.aload_n 0, 1) := by decide +kernel
theorem dX9_nextToken_40 : decode cX9_nextToken 40 = .ok (.dup, 1) := by decide +kernel
theorem dX9_nextToken_41 : decode cX9_nextToken 41 = .ok (.getfield 154, 3) := by decide +kernel
theorem dX9_nextToken_44 : decode cX9_nextToken 44 = .ok (.iconst 1, 1) := by decide +kernel
theorem dX9_nextToken_45 : decode cX9_nextToken 45 = .ok (.iadd, 1) := by decide +kernel
theorem dX9_nextToken_46 : decode cX9_nextToken 46 = .ok (.putfield 154, 3) := by decide +kernel
theorem dX9_nextToken_49 : decode cX9_nextToken 49 = .ok (.goto (-49), 3) := by decide +kernel
theorem dX9_nextToken_52 : decode cX9_nextToken 52 = .ok (.aload_n 0, 1) := by decide +kernel
theorem dX9_nextToken_53 : decode cX9_nextToken 53 = .ok (.aload_n 0, 1) := by decide +kernel
theorem dX9_nextToken_54 : decode cX9_nextToken 54 = .ok (.getfield 154, 3) := by decide +kernel
theorem dX9_nextToken_57 : decode cX9_nextToken 57 = .ok (.putfield 157, 3) := by decide +kernel
theorem dX9_nextToken_60 : decode cX9_nextToken 60 = .ok (.aload_n 0, 1) := by decide +kernel
theorem dX9_nextToken_61 : decode cX9_nextToken 61 = .ok (.lconst 0, 1) := by decide +kernel
theorem dX9_nextToken_62 : decode cX9_nextToken 62 = .ok (.putfield 160, 3) := by decide +kernel
theorem dX9_nextToken_65 : decode cX9_nextToken 65 = .ok (.aload_n 0, 1) := by decide +kernel
theorem dX9_nextToken_66 : decode cX9_nextToken 66 = .ok (.iconst 0, 1) := by decide +kernel
theorem dX9_nextToken_67 : decode cX9_nextToken 67 = .ok (.putfield 164, 3) := by decide +kernel
theorem dX9_nextToken_70 : decode cX9_nextToken 70 = .ok (.aload_n 0, 1) := by decide +kernel
theorem dX9_nextToken_71 : decode cX9_nextToken 71 = .ok (.getfield 154, 3) := by decide +kernel
theorem dX9_nextToken_74 : decode cX9_nextToken 74 = .ok (.aload_n 0, 1) := by decide +kernel
theorem dX9_nextToken_75 : decode cX9_nextToken 75 = .ok (.getfield 151, 3) := by decide +kernel
theorem dX9_nextToken_78 : decode cX9_nextToken 78 = .ok (.if_icmp .ne 9, 3) := by decide +kernel
theorem dX9_nextToken_81 : decode cX9_nextToken 81 = .ok (.aload_n 0, 1) := by decide +kernel
theorem dX9_nextToken_82 : decode cX9_nextToken 82 = .ok (.iconst 0, 1) := by decide +kernel
theorem dX9_nextToken_83 : decode cX9_nextToken 83 = .ok (.putfield 167, 3) := by decide +kernel
theorem dX9_nextToken_86 : decode cX9_nextToken 86 = .ok (.return_, 1) := by decide +kernel
theorem dX9_nextToken_87 : decode cX9_nextToken 87 = .ok (.aload_n 0, 1) := by decide +kernel
theorem dX9_nextToken_88 : decode cX9_nextToken 88 = .ok (.getfield 7, 3) := by decide +kernel
theorem dX9_nextToken_91 : decode cX9_nextToken 91 = .ok (.aload_n 0, 1) := by decide +kernel
theorem dX9_nextToken_92 : decode cX9_nextToken 92 = .ok (.getfield 154, 3) := by decide +kernel
theorem dX9_nextToken_95 : decode cX9_nextToken 95 = .ok (.iaload, 1) := by decide +kernel
theorem dX9_nextToken_96 : decode cX9_nextToken 96 = .ok (.istore_n 1, 1) := by decide +kernel
theorem dX9_nextToken_97 : decode cX9_nextToken 97 = .ok (.iload_n 1, 1) := by decide +kernel
theorem dX9_nextToken_98 : decode cX9_nextToken 98 = .ok (.bipush 97, 2) := by decide +kernel
theorem dX9_nextToken_100 : decode cX9_nextToken 100 = .ok (.if_icmp .lt 112, 3) := by decide +kernel
theorem dX9_nextToken_103 : decode cX9_nextToken 103 = .ok (.iload_n 1, 1) := by decide +kernel
theorem dX9_nextToken_104 : decode cX9_nextToken 104 = .ok (.bipush 122, 2) := by decide +kernel
theorem dX9_nextToken_106 : decode cX9_nextToken 106 = .ok (.if_icmp .gt 106, 3) := by decide +kernel
theorem dX9_nextToken_109 : decode cX9_nextToken 109 = .ok (.aload_n 0, 1) := by decide +kernel
theorem dX9_nextToken_110 : decode cX9_nextToken 110 = .ok (.aload_n 0, 1) := by decide +kernel
theorem dX9_nextToken_111 : decode cX9_nextToken 111 = .ok (.getfield 154, 3) := by decide +kernel
theorem dX9_nextToken_114 : decode cX9_nextToken 114 = .ok (.invokevirtual 170, 3) := by decide +kernel
theorem dX9_nextToken_117 : decode cX9_nextToken 117 = .ok (.bipush 97, 2) := by decide +kernel
theorem dX9_nextToken_119 : decode cX9_nextToken 119 = .ok (.if_icmp .lt 69, 3) := by decide +kernel
theorem dX9_nextToken_122 : decode cX9_nextToken 122 = .ok (.aload_n 0, 1) := by decide +kernel
theorem dX9_nextToken_123 : decode cX9_nextToken 123 = .ok (.aload_n 0, 1) := by decide +kernel
theorem dX9_nextToken_124 : decode cX9_nextToken 124 = .ok (.getfield 154, 3) := by decide +kernel
theorem dX9_nextToken_127 : decode cX9_nextToken 127 = .ok (.invokevirtual 170, 3) := by decide +kernel
theorem dX9_nextToken_130 : decode cX9_nextToken 130 = .ok (.bipush 122, 2) := by decide +kernel
theorem dX9_nextToken_132 : decode cX9_nextToken 132 = .ok (.if_icmp .gt 56, 3) := by decide +kernel
theorem dX9_nextToken_135 : decode cX9_nextToken 135 = .ok (.aload_n 0, 1) := by decide +kernel
theorem dX9_nextToken_136 : decode cX9_nextToken 136 = .ok (.getfield 154, 3) := by decide +kernel
theorem dX9_nextToken_139 : decode cX9_nextToken 139 = .ok (.aload_n 0, 1) := by decide +kernel
theorem dX9_nextToken_140 : decode cX9_nextToken 140 = .ok (.getfield 157, 3) := by decide +kernel
theorem dX9_nextToken_143 : decode cX9_nextToken 143 = .ok (.isub, 1) := by decide +kernel
theorem dX9_nextToken_144 : decode cX9_nextToken 144 = .ok (.bipush 8, 2) := by decide +kernel
theorem dX9_nextToken_146 : decode cX9_nextToken 146 = .ok (.if_icmp .ge 29, 3) := by decide +kernel
theorem dX9_nextToken_149 : decode cX9_nextToken 149 = .ok (.aload_n 0, 1) := by decide +kernel
theorem dX9_nextToken_150 : decode cX9_nextToken 150 = .ok (.aload_n 0, 1) := by decide +kernel
theorem dX9_nextToken_151 : decode cX9_nextToken 151 = .ok (.getfield 160, 3) := by decide +kernel
theorem dX9_nextToken_154 : decode cX9_nextToken 154 = .ok (.ldc2_w 174, 3) := by decide +kernel
theorem dX9_nextToken_157 : decode cX9_nextToken 157 = .ok (.lmul, 1) := by decide +kernel
theorem dX9_nextToken_158 : decode cX9_nextToken 158 = .ok (.aload_n 0, 1) := by decide +kernel
theorem dX9_nextToken_159 : decode cX9_nextToken 159 = .ok (.aload_n 0, 1) := by decide +kernel
theorem dX9_nextToken_160 : decode cX9_nextToken 160 = .ok (.getfield 154, 3) := by decide +kernel
theorem dX9_nextToken_163 : decode cX9_nextToken 163 = .ok (.invokevirtual 170, 3) := by decide +kernel
theorem dX9_nextToken_166 : decode cX9_nextToken 166 = .ok (.i2l, 1) := by decide +kernel
theorem dX9_nextToken_167 : decode cX9_nextToken 167 = .ok (.ladd, 1) := by decide +kernel
theorem dX9_nextToken_168 : decode cX9_nextToken 168 = .ok (.ldc2_w 176, 3) := by decide +kernel
theorem dX9_nextToken_171 : decode cX9_nextToken 171 = .ok (.lsub, 1) := by decide +kernel
theorem dX9_nextToken_172 : decode cX9_nextToken 172 = .ok (.putfield 160, 3) := by decide +kernel
theorem dX9_nextToken_175 : decode cX9_nextToken 175 = .ok (.aload_n 0, 1) := by decide +kernel
theorem dX9_nextToken_176 : decode cX9_nextToken 176 = .ok (.dup, 1) := by decide +kernel
theorem dX9_nextToken_177 : decode cX9_nextToken 177 = .ok (.getfield 154, 3) := by decide +kernel
theorem dX9_nextToken_180 : decode cX9_nextToken 180 = .ok (.iconst 1, 1) := by decide +kernel
theorem dX9_nextToken_181 : decode cX9_nextToken 181 = .ok (.iadd, 1) := by decide +kernel
theorem dX9_nextToken_182 : decode cX9_nextToken 182 = .ok (.putfield 154, 3) := by decide +kernel
theorem dX9_nextToken_185 : decode cX9_nextToken 185 = .ok (.goto (-76), 3) := by decide +kernel
theorem dX9_nextToken_188 : decode cX9_nextToken 188 = .ok (.aload_n 0, 1) := by decide +kernel
theorem dX9_nextToken_189 : decode cX9_nextToken 189 = .ok (.aload_n 0, 1) := by decide +kernel
theorem dX9_nextToken_190 : decode cX9_nextToken 190 = .ok (.getfield 154, 3) := by decide +kernel
theorem dX9_nextToken_193 : decode cX9_nextToken 193 = .ok (.aload_n 0, 1) := by decide +kernel
theorem dX9_nextToken_194 : decode cX9_nextToken 194 = .ok (.getfield 157, 3) := by decide +kernel
theorem dX9_nextToken_197 : decode cX9_nextToken 197 = .ok (.isub, 1) := by decide +kernel
theorem dX9_nextToken_198 : decode cX9_nextToken 198 = .ok (.bipush 8, 2) := by decide +kernel
theorem dX9_nextToken_200 : decode cX9_nextToken 200 = .ok (.if_icmp .le 7, 3) := by decide +kernel
theorem dX9_nextToken_203 : decode cX9_nextToken 203 = .ok (.iconst 4, 1) := by decide +kernel
theorem dX9_nextToken_204 : decode cX9_nextToken 204 = .ok (.goto 4, 3) := by decide +kernel
theorem dX9_nextToken_207 : decode cX9_nextToken 207 = .ok (.iconst 1, 1) := by decide +kernel
theorem dX9_nextToken_208 : decode cX9_nextToken 208 = .ok (.putfield 167, 3) := by decide +kernel
theorem dX9_nextToken_211 : decode cX9_nextToken 211 = .ok (.return_, 1) := by decide +kernel
theorem dX9_nextToken_212 : decode cX9_nextToken 212 = .ok (.iload_n 1, 1) := by decide +kernel
theorem dX9_nextToken_213 : decode cX9_nextToken 213 = .ok (.bipush 48, 2) := by decide +kernel
theorem dX9_nextToken_215 : decode cX9_nextToken 215 = .ok (.if_icmp .lt 107, 3) := by decide +kernel
theorem dX9_nextToken_218 : decode cX9_nextToken 218 = .ok (.iload_n 1, 1) := by decide +kernel
theorem dX9_nextToken_219 : decode cX9_nextToken 219 = .ok (.bipush 57, 2) := by decide +kernel
theorem dX9_nextToken_221 : decode cX9_nextToken 221 = .ok (.if_icmp .gt 101, 3) := by decide +kernel
theorem dX9_nextToken_224 : decode cX9_nextToken 224 = .ok (.aload_n 0, 1) := by decide +kernel
theorem dX9_nextToken_225 : decode cX9_nextToken 225 = .ok (.aload_n 0, 1) := by decide +kernel
theorem dX9_nextToken_226 : decode cX9_nextToken 226 = .ok (.getfield 154, 3) := by decide +kernel
theorem dX9_nextToken_229 : decode cX9_nextToken 229 = .ok (.invokevirtual 170, 3) := by decide +kernel
theorem dX9_nextToken_232 : decode cX9_nextToken 232 = .ok (.bipush 48, 2) := by decide +kernel
theorem dX9_nextToken_234 : decode cX9_nextToken 234 = .ok (.if_icmp .lt 65, 3) := by decide +kernel
theorem dX9_nextToken_237 : decode cX9_nextToken 237 = .ok (.aload_n 0, 1) := by decide +kernel
theorem dX9_nextToken_238 : decode cX9_nextToken 238 = .ok (.aload_n 0, 1) := by decide +kernel
theorem dX9_nextToken_239 : decode cX9_nextToken 239 = .ok (.getfield 154, 3) := by decide +kernel
theorem dX9_nextToken_242 : decode cX9_nextToken 242 = .ok (.invokevirtual 170, 3) := by decide +kernel
theorem dX9_nextToken_245 : decode cX9_nextToken 245 = .ok (.bipush 57, 2) := by decide +kernel
theorem dX9_nextToken_247 : decode cX9_nextToken 247 = .ok (.if_icmp .gt 52, 3) := by decide +kernel
theorem dX9_nextToken_250 : decode cX9_nextToken 250 = .ok (.aload_n 0, 1) := by decide +kernel
theorem dX9_nextToken_251 : decode cX9_nextToken 251 = .ok (.getfield 154, 3) := by decide +kernel
theorem dX9_nextToken_254 : decode cX9_nextToken 254 = .ok (.aload_n 0, 1) := by decide +kernel
theorem dX9_nextToken_255 : decode cX9_nextToken 255 = .ok (.getfield 157, 3) := by decide +kernel
theorem dX9_nextToken_258 : decode cX9_nextToken 258 = .ok (.isub, 1) := by decide +kernel
theorem dX9_nextToken_259 : decode cX9_nextToken 259 = .ok (.iconst 4, 1) := by decide +kernel
theorem dX9_nextToken_260 : decode cX9_nextToken 260 = .ok (.if_icmp .ge 26, 3) := by decide +kernel
theorem dX9_nextToken_263 : decode cX9_nextToken 263 = .ok (.aload_n 0, 1) := by decide +kernel
theorem dX9_nextToken_264 : decode cX9_nextToken 264 = .ok (.aload_n 0, 1) := by decide +kernel
theorem dX9_nextToken_265 : decode cX9_nextToken 265 = .ok (.getfield 164, 3) := by decide +kernel
theorem dX9_nextToken_268 : decode cX9_nextToken 268 = .ok (.bipush 10, 2) := by decide +kernel
theorem dX9_nextToken_270 : decode cX9_nextToken 270 = .ok (.imul, 1) := by decide +kernel
theorem dX9_nextToken_271 : decode cX9_nextToken 271 = .ok (.aload_n 0, 1) := by decide +kernel
theorem dX9_nextToken_272 : decode cX9_nextToken 272 = .ok (.aload_n 0, 1) := by decide +kernel
theorem dX9_nextToken_273 : decode cX9_nextToken 273 = .ok (.getfield 154, 3) := by decide +kernel
theorem dX9_nextToken_276 : decode cX9_nextToken 276 = .ok (.invokevirtual 170, 3) := by decide +kernel
theorem dX9_nextToken_279 : decode cX9_nextToken 279 = .ok (.iadd, 1) := by decide +kernel
theorem dX9_nextToken_280 : decode cX9_nextToken 280 = .ok (.bipush 48, 2) := by decide +kernel
theorem dX9_nextToken_282 : decode cX9_nextToken 282 = .ok (.isub, 1) := by decide +kernel
theorem dX9_nextToken_283 : decode cX9_nextToken 283 = .ok (.putfield 164, 3) := by decide +kernel
theorem dX9_nextToken_286 : decode cX9_nextToken 286 = .ok (.aload_n 0, 1) := by decide +kernel
theorem dX9_nextToken_287 : decode cX9_nextToken 287 = .ok (.dup, 1) := by decide +kernel
theorem dX9_nextToken_288 : decode cX9_nextToken 288 = .ok (.getfield 154, 3) := by decide +kernel
theorem dX9_nextToken_291 : decode cX9_nextToken 291 = .ok (.iconst 1, 1) := by decide +kernel
theorem dX9_nextToken_292 : decode cX9_nextToken 292 = .ok (.iadd, 1) := by decide +kernel
theorem dX9_nextToken_293 : decode cX9_nextToken 293 = .ok (.putfield 154, 3) := by decide +kernel
theorem dX9_nextToken_296 : decode cX9_nextToken 296 = .ok (.goto (-72), 3) := by decide +kernel
theorem dX9_nextToken_299 : decode cX9_nextToken 299 = .ok (.aload_n 0, 1) := by decide +kernel
theorem dX9_nextToken_300 : decode cX9_nextToken 300 = .ok (.aload_n 0, 1) := by decide +kernel
theorem dX9_nextToken_301 : decode cX9_nextToken 301 = .ok (.getfield 154, 3) := by decide +kernel
theorem dX9_nextToken_304 : decode cX9_nextToken 304 = .ok (.aload_n 0, 1) := by decide +kernel
theorem dX9_nextToken_305 : decode cX9_nextToken 305 = .ok (.getfield 157, 3) := by decide +kernel
theorem dX9_nextToken_308 : decode cX9_nextToken 308 = .ok (.isub, 1) := by decide +kernel
theorem dX9_nextToken_309 : decode cX9_nextToken 309 = .ok (.iconst 4, 1) := by decide +kernel
theorem dX9_nextToken_310 : decode cX9_nextToken 310 = .ok (.if_icmp .le 7, 3) := by decide +kernel
theorem dX9_nextToken_313 : decode cX9_nextToken 313 = .ok (.iconst 4, 1) := by decide +kernel
theorem dX9_nextToken_314 : decode cX9_nextToken 314 = .ok (.goto 4, 3) := by decide +kernel
theorem dX9_nextToken_317 : decode cX9_nextToken 317 = .ok (.iconst 2, 1) := by decide +kernel
theorem dX9_nextToken_318 : decode cX9_nextToken 318 = .ok (.putfield 167, 3) := by decide +kernel
theorem dX9_nextToken_321 : decode cX9_nextToken 321 = .ok (.return_, 1) := by decide +kernel
theorem dX9_nextToken_322 : decode cX9_nextToken 322 = .ok (.aload_n 0, 1) := by decide +kernel
theorem dX9_nextToken_323 : decode cX9_nextToken 323 = .ok (.dup, 1) := by decide +kernel
theorem dX9_nextToken_324 : decode cX9_nextToken 324 = .ok (.getfield 154, 3) := by decide +kernel
theorem dX9_nextToken_327 : decode cX9_nextToken 327 = .ok (.iconst 1, 1) := by decide +kernel
theorem dX9_nextToken_328 : decode cX9_nextToken 328 = .ok (.iadd, 1) := by decide +kernel
theorem dX9_nextToken_329 : decode cX9_nextToken 329 = .ok (.putfield 154, 3) := by decide +kernel
theorem dX9_nextToken_332 : decode cX9_nextToken 332 = .ok (.aload_n 0, 1) := by decide +kernel
theorem dX9_nextToken_333 : decode cX9_nextToken 333 = .ok (.iload_n 1, 1) := by decide +kernel
theorem dX9_nextToken_334 : decode cX9_nextToken 334 = .ok (.bipush 40, 2) := by decide +kernel
theorem dX9_nextToken_336 : decode cX9_nextToken 336 = .ok (.if_icmp .lt 9, 3) := by decide +kernel
theorem dX9_nextToken_339 : decode cX9_nextToken 339 = .ok (.iload_n 1, 1) := by decide +kernel
theorem dX9_nextToken_340 : decode cX9_nextToken 340 = .ok (.bipush 43, 2) := by decide +kernel
theorem dX9_nextToken_342 : decode cX9_nextToken 342 = .ok (.if_icmp .le 21, 3) := by decide +kernel
theorem dX9_nextToken_345 : decode cX9_nextToken 345 = .ok (.iload_n 1, 1) := by decide +kernel
theorem dX9_nextToken_346 : decode cX9_nextToken 346 = .ok (.bipush 45, 2) := by decide +kernel
theorem dX9_nextToken_348 : decode cX9_nextToken 348 = .ok (.if_icmp .eq 15, 3) := by decide +kernel
theorem dX9_nextToken_351 : decode cX9_nextToken 351 = .ok (.iload_n 1, 1) := by decide +kernel
theorem dX9_nextToken_352 : decode cX9_nextToken 352 = .ok (.bipush 59, 2) := by decide +kernel
theorem dX9_nextToken_354 : decode cX9_nextToken 354 = .ok (.if_icmp .lt 13, 3) := by decide +kernel
theorem dX9_nextToken_357 : decode cX9_nextToken 357 = .ok (.iload_n 1, 1) := by decide +kernel
theorem dX9_nextToken_358 : decode cX9_nextToken 358 = .ok (.bipush 61, 2) := by decide +kernel
theorem dX9_nextToken_360 : decode cX9_nextToken 360 = .ok (.if_icmp .gt 7, 3) := by decide +kernel
theorem dX9_nextToken_363 : decode cX9_nextToken 363 = .ok (.iconst 3, 1) := by decide +kernel
theorem dX9_nextToken_364 : decode cX9_nextToken 364 = .ok (.goto 4, 3) := by decide +kernel
theorem dX9_nextToken_367 : decode cX9_nextToken 367 = .ok (.iconst 4, 1) := by decide +kernel
theorem dX9_nextToken_368 : decode cX9_nextToken 368 = .ok (.putfield 167, 3) := by decide +kernel
theorem dX9_nextToken_371 : decode cX9_nextToken 371 = .ok (.return_, 1) := by decide +kernel
theorem dX9_isWord_0 : decode cX9_isWord 0 = .ok (.aload_n 0, 1) := by decide +kernel
theorem dX9_isWord_1 : decode cX9_isWord 1 = .ok (.getfield 167, 3) := by decide +kernel
theorem dX9_isWord_4 : decode cX9_isWord 4 = .ok (.iconst 1, 1) := by decide +kernel
theorem dX9_isWord_5 : decode cX9_isWord 5 = .ok (.if_icmp .ne 16, 3) := by decide +kernel
theorem dX9_isWord_8 : decode cX9_isWord 8 = .ok (.aload_n 0, 1) := by decide +kernel
theorem dX9_isWord_9 : decode cX9_isWord 9 = .ok (.getfield 160, 3) := by decide +kernel
theorem dX9_isWord_12 : decode cX9_isWord 12 = .ok (.lload_n 1, 1) := by decide +kernel
theorem dX9_isWord_13 : decode cX9_isWord 13 = .ok (.lcmp, 1) := by decide +kernel
theorem dX9_isWord_14 : decode cX9_isWord 14 = .ok (.ifCond .ne 7, 3) := by decide +kernel
theorem dX9_isWord_17 : decode cX9_isWord 17 = .ok (.iconst 1, 1) := by decide +kernel
theorem dX9_isWord_18 : decode cX9_isWord 18 = .ok (.goto 4, 3) := by decide +kernel
theorem dX9_isWord_21 : decode cX9_isWord 21 = .ok (.iconst 0, 1) := by decide +kernel
theorem dX9_isWord_22 : decode cX9_isWord 22 = .ok (.ireturn, 1) := by decide +kernel
theorem dX9_isSign_0 : decode cX9_isSign 0 = .ok (.aload_n 0, 1) := by decide +kernel
theorem dX9_isSign_1 : decode cX9_isSign 1 = .ok (.getfield 167, 3) := by decide +kernel
theorem dX9_isSign_4 : decode cX9_isSign 4 = .ok (.iconst 3, 1) := by decide +kernel
theorem dX9_isSign_5 : decode cX9_isSign 5 = .ok (.if_icmp .ne 20, 3) := by decide +kernel
theorem dX9_isSign_8 : decode cX9_isSign 8 = .ok (.aload_n 0, 1) := by decide +kernel
theorem dX9_isSign_9 : decode cX9_isSign 9 = .ok (.getfield 7, 3) := by decide +kernel
theorem dX9_isSign_12 : decode cX9_isSign 12 = .ok (.aload_n 0, 1) := by decide +kernel
theorem dX9_isSign_13 : decode cX9_isSign 13 = .ok (.getfield 157, 3) := by decide +kernel
theorem dX9_isSign_16 : decode cX9_isSign 16 = .ok (.iaload, 1) := by decide +kernel
theorem dX9_isSign_17 : decode cX9_isSign 17 = .ok (.iload_n 1, 1) := by decide +kernel
theorem dX9_isSign_18 : decode cX9_isSign 18 = .ok (.if_icmp .ne 7, 3) := by decide +kernel
theorem dX9_isSign_21 : decode cX9_isSign 21 = .ok (.iconst 1, 1) := by decide +kernel
theorem dX9_isSign_22 : decode cX9_isSign 22 = .ok (.goto 4, 3) := by decide +kernel
theorem dX9_isSign_25 : decode cX9_isSign 25 = .ok (.iconst 0, 1) := by decide +kernel
theorem dX9_isSign_26 : decode cX9_isSign 26 = .ok (.ireturn, 1) := by decide +kernel
theorem dX9_fails_0 : decode cX9_fails 0 = .ok (.aload_n 0, 1) := by decide +kernel
theorem dX9_fails_1 : decode cX9_fails 1 = .ok (.iload_n 1, 1) := by decide +kernel
theorem dX9_fails_2 : decode cX9_fails 2 = .ok (.bipush 16, 2) := by decide +kernel
theorem dX9_fails_4 : decode cX9_fails 4 = .ok (.aload_n 0, 1) := by decide +kernel
theorem dX9_fails_5 : decode cX9_fails 5 = .ok (.getfield 157, 3) := by decide +kernel
theorem dX9_fails_8 : decode cX9_fails 8 = .ok (.imul, 1) := by decide +kernel
theorem dX9_fails_9 : decode cX9_fails 9 = .ok (.iadd, 1) := by decide +kernel
theorem dX9_fails_10 : decode cX9_fails 10 = .ok (.putfield 178, 3) := by decide +kernel
theorem dX9_fails_13 : decode cX9_fails 13 = .ok (.iconst 0, 1) := by decide +kernel
theorem dX9_fails_14 : decode cX9_fails 14 = .ok (.ireturn, 1) := by decide +kernel
theorem dX9_usual_0 : decode cX9_usual 0 = .ok (.aload_n 0, 1) := by decide +kernel
theorem dX9_usual_1 : decode cX9_usual 1 = .ok (.getfield 13, 3) := by decide +kernel
theorem dX9_usual_4 : decode cX9_usual 4 = .ok (.iconst 4, 1) := by decide +kernel
theorem dX9_usual_5 : decode cX9_usual 5 = .ok (.iload_n 1, 1) := by decide +kernel
theorem dX9_usual_6 : decode cX9_usual 6 = .ok (.imul, 1) := by decide +kernel
theorem dX9_usual_7 : decode cX9_usual 7 = .ok (.iconst 0, 1) := by decide +kernel
theorem dX9_usual_8 : decode cX9_usual 8 = .ok (.iadd, 1) := by decide +kernel
theorem dX9_usual_9 : decode cX9_usual 9 = .ok (.iconst 0, 1) := by decide +kernel
theorem dX9_usual_10 : decode cX9_usual 10 = .ok (.iastore, 1) := by decide +kernel
theorem dX9_usual_11 : decode cX9_usual 11 = .ok (.aload_n 0, 1) := by decide +kernel
theorem dX9_usual_12 : decode cX9_usual 12 = .ok (.getfield 13, 3) := by decide +kernel
theorem dX9_usual_15 : decode cX9_usual 15 = .ok (.iconst 4, 1) := by decide +kernel
theorem dX9_usual_16 : decode cX9_usual 16 = .ok (.iload_n 1, 1) := by decide +kernel
theorem dX9_usual_17 : decode cX9_usual 17 = .ok (.imul, 1) := by decide +kernel
theorem dX9_usual_18 : decode cX9_usual 18 = .ok (.iconst 1, 1) := by decide +kernel
theorem dX9_usual_19 : decode cX9_usual 19 = .ok (.iadd, 1) := by decide +kernel
theorem dX9_usual_20 : decode cX9_usual 20 = .ok (.iconst 0, 1) := by decide +kernel
theorem dX9_usual_21 : decode cX9_usual 21 = .ok (.iastore, 1) := by decide +kernel
theorem dX9_usual_22 : decode cX9_usual 22 = .ok (.aload_n 0, 1) := by decide +kernel
theorem dX9_usual_23 : decode cX9_usual 23 = .ok (.getfield 13, 3) := by decide +kernel
theorem dX9_usual_26 : decode cX9_usual 26 = .ok (.iconst 4, 1) := by decide +kernel
theorem dX9_usual_27 : decode cX9_usual 27 = .ok (.iload_n 1, 1) := by decide +kernel
theorem dX9_usual_28 : decode cX9_usual 28 = .ok (.imul, 1) := by decide +kernel
theorem dX9_usual_29 : decode cX9_usual 29 = .ok (.iconst 2, 1) := by decide +kernel
theorem dX9_usual_30 : decode cX9_usual 30 = .ok (.iadd, 1) := by decide +kernel
theorem dX9_usual_31 : decode cX9_usual 31 = .ok (.iconst 5, 1) := by decide +kernel
theorem dX9_usual_32 : decode cX9_usual 32 = .ok (.iastore, 1) := by decide +kernel
theorem dX9_usual_33 : decode cX9_usual 33 = .ok (.aload_n 0, 1) := by decide +kernel
theorem dX9_usual_34 : decode cX9_usual 34 = .ok (.getfield 13, 3) := by decide +kernel
theorem dX9_usual_37 : decode cX9_usual 37 = .ok (.iconst 4, 1) := by decide +kernel
theorem dX9_usual_38 : decode cX9_usual 38 = .ok (.iload_n 1, 1) := by decide +kernel
theorem dX9_usual_39 : decode cX9_usual 39 = .ok (.imul, 1) := by decide +kernel
theorem dX9_usual_40 : decode cX9_usual 40 = .ok (.iconst 3, 1) := by decide +kernel
theorem dX9_usual_41 : decode cX9_usual 41 = .ok (.iadd, 1) := by decide +kernel
theorem dX9_usual_42 : decode cX9_usual 42 = .ok (.iconst 0, 1) := by decide +kernel
theorem dX9_usual_43 : decode cX9_usual 43 = .ok (.iastore, 1) := by decide +kernel
theorem dX9_usual_44 : decode cX9_usual 44 = .ok (.iconst 0, 1) := by decide +kernel
theorem dX9_usual_45 : decode cX9_usual 45 = .ok (.istore_n 2, 1) := by decide +kernel
theorem dX9_usual_46 : decode cX9_usual 46 = .ok (.iload_n 2, 1) := by decide +kernel
theorem dX9_usual_47 : decode cX9_usual 47 = .ok (.bipush 10, 2) := by decide +kernel
theorem dX9_usual_49 : decode cX9_usual 49 = .ok (.if_icmp .ge 21, 3) := by decide +kernel
theorem dX9_usual_52 : decode cX9_usual 52 = .ok (.aload_n 0, 1) := by decide +kernel
theorem dX9_usual_53 : decode cX9_usual 53 = .ok (.getfield 41, 3) := by decide +kernel
theorem dX9_usual_56 : decode cX9_usual 56 = .ok (.bipush 10, 2) := by decide +kernel
theorem dX9_usual_58 : decode cX9_usual 58 = .ok (.iload_n 1, 1) := by decide +kernel
theorem dX9_usual_59 : decode cX9_usual 59 = .ok (.imul, 1) := by decide +kernel
theorem dX9_usual_60 : decode cX9_usual 60 = .ok (.iload_n 2, 1) := by decide +kernel
theorem dX9_usual_61 : decode cX9_usual 61 = .ok (.iadd, 1) := by decide +kernel
theorem dX9_usual_62 : decode cX9_usual 62 = .ok (.iconst 0, 1) := by decide +kernel
theorem dX9_usual_63 : decode cX9_usual 63 = .ok (.iastore, 1) := by decide +kernel
theorem dX9_usual_64 : decode cX9_usual 64 = .ok (.iinc 2 1, 3) := by decide +kernel
theorem dX9_usual_67 : decode cX9_usual 67 = .ok (.goto (-21), 3) := by decide +kernel
theorem dX9_usual_70 : decode cX9_usual 70 = .ok (.return_, 1) := by decide +kernel
theorem dX9_puts_0 : decode cX9_puts 0 = .ok (.aload_n 0, 1) := by decide +kernel
theorem dX9_puts_1 : decode cX9_puts 1 = .ok (.getfield 53, 3) := by decide +kernel
theorem dX9_puts_4 : decode cX9_puts 4 = .ok (.aload_n 0, 1) := by decide +kernel
theorem dX9_puts_5 : decode cX9_puts 5 = .ok (.getfield 181, 3) := by decide +kernel
theorem dX9_puts_8 : decode cX9_puts 8 = .ok (.iload_n 1, 1) := by decide +kernel
theorem dX9_puts_9 : decode cX9_puts 9 = .ok (.iastore, 1) := by decide +kernel
theorem dX9_puts_10 : decode cX9_puts 10 = .ok (.aload_n 0, 1) := by decide +kernel
theorem dX9_puts_11 : decode cX9_puts 11 = .ok (.dup, 1) := by decide +kernel
theorem dX9_puts_12 : decode cX9_puts 12 = .ok (.getfield 181, 3) := by decide +kernel
theorem dX9_puts_15 : decode cX9_puts 15 = .ok (.iconst 1, 1) := by decide +kernel
theorem dX9_puts_16 : decode cX9_puts 16 = .ok (.iadd, 1) := by decide +kernel
theorem dX9_puts_17 : decode cX9_puts 17 = .ok (.putfield 181, 3) := by decide +kernel
theorem dX9_puts_20 : decode cX9_puts 20 = .ok (.return_, 1) := by decide +kernel
theorem dX9_fact_0 : decode cX9_fact 0 = .ok (.aload_n 0, 1) := by decide +kernel
theorem dX9_fact_1 : decode cX9_fact 1 = .ok (.getfield 167, 3) := by decide +kernel
theorem dX9_fact_4 : decode cX9_fact 4 = .ok (.iconst 1, 1) := by decide +kernel
theorem dX9_fact_5 : decode cX9_fact 5 = .ok (.if_icmp .eq 5, 3) := by decide +kernel
theorem dX9_fact_8 : decode cX9_fact 8 = .ok (.iconst 0, 1) := by decide +kernel
theorem dX9_fact_9 : decode cX9_fact 9 = .ok (.ireturn, 1) := by decide +kernel
theorem dX9_fact_10 : decode cX9_fact 10 = .ok (.aload_n 0, 1) := by decide +kernel
theorem dX9_fact_11 : decode cX9_fact 11 = .ok (.getfield 160, 3) := by decide +kernel
theorem dX9_fact_14 : decode cX9_fact 14 = .ok (.ldc2_w 184, 3) := by decide +kernel
theorem dX9_fact_17 : decode cX9_fact 17 = .ok (.lcmp, 1) := by decide +kernel
theorem dX9_fact_18 : decode cX9_fact 18 = .ok (.ifCond .ne 5, 3) := by decide +kernel
theorem dX9_fact_21 : decode cX9_fact 21 = .ok (.iconst 1, 1) := by decide +kernel
theorem dX9_fact_22 : decode cX9_fact 22 = .ok (.ireturn, 1) := by decide +kernel
theorem dX9_fact_23 : decode cX9_fact 23 = .ok (.aload_n 0, 1) := by decide +kernel
theorem dX9_fact_24 : decode cX9_fact 24 = .ok (.getfield 160, 3) := by decide +kernel
theorem dX9_fact_27 : decode cX9_fact 27 = .ok (.ldc2_w 186, 3) := by decide +kernel
theorem dX9_fact_30 : decode cX9_fact 30 = .ok (.lcmp, 1) := by decide +kernel
theorem dX9_fact_31 : decode cX9_fact 31 = .ok (.ifCond .ne 5, 3) := by decide +kernel
theorem dX9_fact_34 : decode cX9_fact 34 = .ok (.iconst 2, 1) := by decide +kernel
theorem dX9_fact_35 : decode cX9_fact 35 = .ok (.ireturn, 1) := by decide +kernel
theorem dX9_fact_36 : decode cX9_fact 36 = .ok (.aload_n 0, 1) := by decide +kernel
theorem dX9_fact_37 : decode cX9_fact 37 = .ok (.getfield 160, 3) := by decide +kernel
theorem dX9_fact_40 : decode cX9_fact 40 = .ok (.ldc2_w 188, 3) := by decide +kernel
theorem dX9_fact_43 : decode cX9_fact 43 = .ok (.lcmp, 1) := by decide +kernel
theorem dX9_fact_44 : decode cX9_fact 44 = .ok (.ifCond .ne 7, 3) := by decide +kernel
theorem dX9_fact_47 : decode cX9_fact 47 = .ok (.iconst 3, 1) := by decide +kernel
theorem dX9_fact_48 : decode cX9_fact 48 = .ok (.goto 19, 3) := by decide +kernel
theorem dX9_fact_51 : decode cX9_fact 51 = .ok (.aload_n 0, 1) := by decide +kernel
theorem dX9_fact_52 : decode cX9_fact 52 = .ok (.getfield 160, 3) := by decide +kernel
theorem dX9_fact_55 : decode cX9_fact 55 = .ok (.ldc2_w 190, 3) := by decide +kernel
theorem dX9_fact_58 : decode cX9_fact 58 = .ok (.lcmp, 1) := by decide +kernel
theorem dX9_fact_59 : decode cX9_fact 59 = .ok (.ifCond .ne 7, 3) := by decide +kernel
theorem dX9_fact_62 : decode cX9_fact 62 = .ok (.iconst 4, 1) := by decide +kernel
theorem dX9_fact_63 : decode cX9_fact 63 = .ok (.goto 4, 3) := by decide +kernel
theorem dX9_fact_66 : decode cX9_fact 66 = .ok (.iconst 0, 1) := by decide +kernel
theorem dX9_fact_67 : decode cX9_fact 67 = .ok (.ireturn, 1) := by decide +kernel
theorem dX9_reads_0 : decode cX9_reads 0 = .ok (.iconst 0, 1) := by decide +kernel
theorem dX9_reads_1 : decode cX9_reads 1 = .ok (.istore_n 1, 1) := by decide +kernel
theorem dX9_reads_2 : decode cX9_reads 2 = .ok (.iconst 1, 1) := by decide +kernel
theorem dX9_reads_3 : decode cX9_reads 3 = .ok (.istore_n 2, 1) := by decide +kernel
theorem dX9_reads_4 : decode cX9_reads 4 = .ok (.aload_n 0, 1) := by decide +kernel
theorem dX9_reads_5 : decode cX9_reads 5 = .ok (.getfield 59, 3) := by decide +kernel
theorem dX9_reads_8 : decode cX9_reads 8 = .ok (.iconst 0, 1) := by decide +kernel
theorem dX9_reads_9 : decode cX9_reads 9 = .ok (.iconst 0, 1) := by decide +kernel
theorem dX9_reads_10 : decode cX9_reads 10 = .ok (.bastore, 1) := by decide +kernel
theorem dX9_reads_11 : decode cX9_reads 11 = .ok (.iload_n 2, 1) := by decide +kernel
theorem dX9_reads_12 : decode cX9_reads 12 = .ok (.ifCond .eq 167, 3) := by decide +kernel
theorem dX9_reads_15 : decode cX9_reads 15 = .ok (.aload_n 0, 1) := by decide +kernel
theorem dX9_reads_16 : decode cX9_reads 16 = .ok (.invokevirtual 192, 3) := by decide +kernel
theorem dX9_reads_19 : decode cX9_reads 19 = .ok (.istore_n 3, 1) := by decide +kernel
theorem dX9_reads_20 : decode cX9_reads 20 = .ok (.aload_n 0, 1) := by decide +kernel
theorem dX9_reads_21 : decode cX9_reads 21 = .ok (.ldc2_w 196, 3) := by decide +kernel
theorem dX9_reads_24 : decode cX9_reads 24 = .ok (.invokevirtual 198, 3) := by decide +kernel
theorem dX9_reads_27 : decode cX9_reads 27 = .ok (.istore 4, 2) := by decide +kernel
theorem dX9_reads_29 : decode cX9_reads 29 = .ok (.aload_n 0, 1) := by decide +kernel
theorem dX9_reads_30 : decode cX9_reads 30 = .ok (.bipush 40, 2) := by decide +kernel
theorem dX9_reads_32 : decode cX9_reads 32 = .ok (.invokevirtual 202, 3) := by decide +kernel
theorem dX9_reads_35 : decode cX9_reads 35 = .ok (.istore 5, 2) := by decide +kernel
theorem dX9_reads_37 : decode cX9_reads 37 = .ok (.iload_n 3, 1) := by decide +kernel
theorem dX9_reads_38 : decode cX9_reads 38 = .ok (.ifCond .ne 27, 3) := by decide +kernel
theorem dX9_reads_41 : decode cX9_reads 41 = .ok (.iload 4, 2) := by decide +kernel
theorem dX9_reads_43 : decode cX9_reads 43 = .ok (.ifCond .ne 22, 3) := by decide +kernel
theorem dX9_reads_46 : decode cX9_reads 46 = .ok (.iload 5, 2) := by decide +kernel
theorem dX9_reads_48 : decode cX9_reads 48 = .ok (.ifCond .ne 17, 3) := by decide +kernel
theorem dX9_reads_51 : decode cX9_reads 51 = .ok (.aload_n 0, 1) := by decide +kernel
theorem dX9_reads_52 : decode cX9_reads 52 = .ok (.getfield 167, 3) := by decide +kernel
theorem dX9_reads_55 : decode cX9_reads 55 = .ok (.iconst 2, 1) := by decide +kernel
theorem dX9_reads_56 : decode cX9_reads 56 = .ok (.if_icmp .eq 9, 3) := by decide +kernel
theorem dX9_reads_59 : decode cX9_reads 59 = .ok (.aload_n 0, 1) := by decide +kernel
theorem dX9_reads_60 : decode cX9_reads 60 = .ok (.iconst 1, 1) := by decide +kernel
theorem dX9_reads_61 : decode cX9_reads 61 = .ok (.invokevirtual 206, 3) := by decide +kernel
theorem dX9_reads_64 : decode cX9_reads 64 = .ok (.ireturn, 1) := by decide +kernel
theorem dX9_reads_65 : decode cX9_reads 65 = .ok (.iload_n 1, 1) := by decide +kernel
theorem dX9_reads_66 : decode cX9_reads 66 = .ok (.iconst 5, 1) := by decide +kernel
theorem dX9_reads_67 : decode cX9_reads 67 = .ok (.if_icmp .ne 9, 3) := by decide +kernel
theorem dX9_reads_70 : decode cX9_reads 70 = .ok (.aload_n 0, 1) := by decide +kernel
theorem dX9_reads_71 : decode cX9_reads 71 = .ok (.iconst 5, 1) := by decide +kernel
theorem dX9_reads_72 : decode cX9_reads 72 = .ok (.invokevirtual 206, 3) := by decide +kernel
theorem dX9_reads_75 : decode cX9_reads 75 = .ok (.ireturn, 1) := by decide +kernel
theorem dX9_reads_76 : decode cX9_reads 76 = .ok (.iload 4, 2) := by decide +kernel
theorem dX9_reads_78 : decode cX9_reads 78 = .ok (.ifCond .ne 8, 3) := by decide +kernel
theorem dX9_reads_81 : decode cX9_reads 81 = .ok (.iload 5, 2) := by decide +kernel
theorem dX9_reads_83 : decode cX9_reads 83 = .ok (.ifCond .eq 48, 3) := by decide +kernel
theorem dX9_reads_86 : decode cX9_reads 86 = .ok (.aload_n 0, 1) := by decide +kernel
theorem dX9_reads_87 : decode cX9_reads 87 = .ok (.iload 4, 2) := by decide +kernel
theorem dX9_reads_89 : decode cX9_reads 89 = .ok (.ifCond .eq 8, 3) := by decide +kernel
theorem dX9_reads_92 : decode cX9_reads 92 = .ok (.bipush 30, 2) := by decide +kernel
theorem dX9_reads_94 : decode cX9_reads 94 = .ok (.goto 5, 3) := by decide +kernel
theorem dX9_reads_97 : decode cX9_reads 97 = .ok (.bipush 28, 2) := by decide +kernel
theorem dX9_reads_99 : decode cX9_reads 99 = .ok (.invokevirtual 209, 3) := by decide +kernel
theorem dX9_reads_102 : decode cX9_reads 102 = .ok (.iinc 1 1, 3) := by decide +kernel
theorem dX9_reads_105 : decode cX9_reads 105 = .ok (.aload_n 0, 1) := by decide +kernel
theorem dX9_reads_106 : decode cX9_reads 106 = .ok (.getfield 56, 3) := by decide +kernel
theorem dX9_reads_109 : decode cX9_reads 109 = .ok (.iload_n 1, 1) := by decide +kernel
theorem dX9_reads_110 : decode cX9_reads 110 = .ok (.iload 4, 2) := by decide +kernel
theorem dX9_reads_112 : decode cX9_reads 112 = .ok (.ifCond .eq 7, 3) := by decide +kernel
theorem dX9_reads_115 : decode cX9_reads 115 = .ok (.iconst 1, 1) := by decide +kernel
theorem dX9_reads_116 : decode cX9_reads 116 = .ok (.goto 4, 3) := by decide +kernel
theorem dX9_reads_119 : decode cX9_reads 119 = .ok (.iconst 2, 1) := by decide +kernel
theorem dX9_reads_120 : decode cX9_reads 120 = .ok (.iastore, 1) := by decide +kernel
theorem dX9_reads_121 : decode cX9_reads 121 = .ok (.aload_n 0, 1) := by decide +kernel
theorem dX9_reads_122 : decode cX9_reads 122 = .ok (.getfield 59, 3) := by decide +kernel
theorem dX9_reads_125 : decode cX9_reads 125 = .ok (.iload_n 1, 1) := by decide +kernel
theorem dX9_reads_126 : decode cX9_reads 126 = .ok (.iconst 0, 1) := by decide +kernel
theorem dX9_reads_127 : decode cX9_reads 127 = .ok (.bastore, 1) := by decide +kernel
theorem dX9_reads_128 : decode cX9_reads 128 = .ok (.goto 44, 3) := by decide +kernel
theorem dX9_reads_131 : decode cX9_reads 131 = .ok (.aload_n 0, 1) := by decide +kernel
theorem dX9_reads_132 : decode cX9_reads 132 = .ok (.iload_n 3, 1) := by decide +kernel
theorem dX9_reads_133 : decode cX9_reads 133 = .ok (.ifCond .le 7, 3) := by decide +kernel
theorem dX9_reads_136 : decode cX9_reads 136 = .ok (.iload_n 3, 1) := by decide +kernel
theorem dX9_reads_137 : decode cX9_reads 137 = .ok (.goto 10, 3) := by decide +kernel
theorem dX9_reads_140 : decode cX9_reads 140 = .ok (.bipush 100, 2) := by decide +kernel
theorem dX9_reads_142 : decode cX9_reads 142 = .ok (.aload_n 0, 1) := by decide +kernel
theorem dX9_reads_143 : decode cX9_reads 143 = .ok (.getfield 164, 3) := by decide +kernel
theorem dX9_reads_146 : decode cX9_reads 146 = .ok (.iadd, 1) := by decide +kernel
theorem dX9_reads_147 : decode cX9_reads 147 = .ok (.invokevirtual 209, 3) := by decide +kernel
theorem dX9_reads_150 : decode cX9_reads 150 = .ok (.iconst 0, 1) := by decide +kernel
theorem dX9_reads_151 : decode cX9_reads 151 = .ok (.istore_n 2, 1) := by decide +kernel
theorem dX9_reads_152 : decode cX9_reads 152 = .ok (.iload_n 1, 1) := by decide +kernel
theorem dX9_reads_153 : decode cX9_reads 153 = .ok (.ifCond .le 19, 3) := by decide +kernel
theorem dX9_reads_156 : decode cX9_reads 156 = .ok (.aload_n 0, 1) := by decide +kernel
theorem dX9_reads_157 : decode cX9_reads 157 = .ok (.getfield 56, 3) := by decide +kernel
theorem dX9_reads_160 : decode cX9_reads 160 = .ok (.iload_n 1, 1) := by decide +kernel
theorem dX9_reads_161 : decode cX9_reads 161 = .ok (.iaload, 1) := by decide +kernel
theorem dX9_reads_162 : decode cX9_reads 162 = .ok (.iconst 1, 1) := by decide +kernel
theorem dX9_reads_163 : decode cX9_reads 163 = .ok (.if_icmp .ne 9, 3) := by decide +kernel
theorem dX9_reads_166 : decode cX9_reads 166 = .ok (.iinc 1 (-1), 3) := by decide +kernel
theorem dX9_reads_169 : decode cX9_reads 169 = .ok (.goto (-17), 3) := by decide +kernel
theorem dX9_reads_172 : decode cX9_reads 172 = .ok (.aload_n 0, 1) := by decide +kernel
theorem dX9_reads_173 : decode cX9_reads 173 = .ok (.invokevirtual 212, 3) := by decide +kernel
theorem dX9_reads_176 : decode cX9_reads 176 = .ok (.goto (-165), 3) := by decide +kernel
theorem dX9_reads_179 : decode cX9_reads 179 = .ok (.aload_n 0, 1) := by decide +kernel
theorem dX9_reads_180 : decode cX9_reads 180 = .ok (.bipush 43, 2) := by decide +kernel
theorem dX9_reads_182 : decode cX9_reads 182 = .ok (.invokevirtual 202, 3) := by decide +kernel
theorem dX9_reads_185 : decode cX9_reads 185 = .ok (.ifCond .ne 21, 3) := by decide +kernel
theorem dX9_reads_188 : decode cX9_reads 188 = .ok (.aload_n 0, 1) := by decide +kernel
theorem dX9_reads_189 : decode cX9_reads 189 = .ok (.bipush 45, 2) := by decide +kernel
theorem dX9_reads_191 : decode cX9_reads 191 = .ok (.invokevirtual 202, 3) := by decide +kernel
theorem dX9_reads_194 : decode cX9_reads 194 = .ok (.ifCond .ne 12, 3) := by decide +kernel
theorem dX9_reads_197 : decode cX9_reads 197 = .ok (.aload_n 0, 1) := by decide +kernel
theorem dX9_reads_198 : decode cX9_reads 198 = .ok (.bipush 42, 2) := by decide +kernel
theorem dX9_reads_200 : decode cX9_reads 200 = .ok (.invokevirtual 202, 3) := by decide +kernel
theorem dX9_reads_203 : decode cX9_reads 203 = .ok (.ifCond .eq 42, 3) := by decide +kernel
theorem dX9_reads_206 : decode cX9_reads 206 = .ok (.aload_n 0, 1) := by decide +kernel
theorem dX9_reads_207 : decode cX9_reads 207 = .ok (.aload_n 0, 1) := by decide +kernel
theorem dX9_reads_208 : decode cX9_reads 208 = .ok (.bipush 43, 2) := by decide +kernel
theorem dX9_reads_210 : decode cX9_reads 210 = .ok (.invokevirtual 202, 3) := by decide +kernel
theorem dX9_reads_213 : decode cX9_reads 213 = .ok (.ifCond .eq 8, 3) := by decide +kernel
theorem dX9_reads_216 : decode cX9_reads 216 = .ok (.bipush 20, 2) := by decide +kernel
theorem dX9_reads_218 : decode cX9_reads 218 = .ok (.goto 19, 3) := by decide +kernel
theorem dX9_reads_221 : decode cX9_reads 221 = .ok (.aload_n 0, 1) := by decide +kernel
theorem dX9_reads_222 : decode cX9_reads 222 = .ok (.bipush 45, 2) := by decide +kernel
theorem dX9_reads_224 : decode cX9_reads 224 = .ok (.invokevirtual 202, 3) := by decide +kernel
theorem dX9_reads_227 : decode cX9_reads 227 = .ok (.ifCond .eq 8, 3) := by decide +kernel
theorem dX9_reads_230 : decode cX9_reads 230 = .ok (.bipush 21, 2) := by decide +kernel
theorem dX9_reads_232 : decode cX9_reads 232 = .ok (.goto 5, 3) := by decide +kernel
theorem dX9_reads_235 : decode cX9_reads 235 = .ok (.bipush 22, 2) := by decide +kernel
theorem dX9_reads_237 : decode cX9_reads 237 = .ok (.invokevirtual 209, 3) := by decide +kernel
theorem dX9_reads_240 : decode cX9_reads 240 = .ok (.iconst 1, 1) := by decide +kernel
theorem dX9_reads_241 : decode cX9_reads 241 = .ok (.istore_n 2, 1) := by decide +kernel
theorem dX9_reads_242 : decode cX9_reads 242 = .ok (.goto 182, 3) := by decide +kernel
theorem dX9_reads_245 : decode cX9_reads 245 = .ok (.aload_n 0, 1) := by decide +kernel
theorem dX9_reads_246 : decode cX9_reads 246 = .ok (.bipush 60, 2) := by decide +kernel
theorem dX9_reads_248 : decode cX9_reads 248 = .ok (.invokevirtual 202, 3) := by decide +kernel
theorem dX9_reads_251 : decode cX9_reads 251 = .ok (.ifCond .ne 12, 3) := by decide +kernel
theorem dX9_reads_254 : decode cX9_reads 254 = .ok (.aload_n 0, 1) := by decide +kernel
theorem dX9_reads_255 : decode cX9_reads 255 = .ok (.bipush 61, 2) := by decide +kernel
theorem dX9_reads_257 : decode cX9_reads 257 = .ok (.invokevirtual 202, 3) := by decide +kernel
theorem dX9_reads_260 : decode cX9_reads 260 = .ok (.ifCond .eq 44, 3) := by decide +kernel
theorem dX9_reads_263 : decode cX9_reads 263 = .ok (.aload_n 0, 1) := by decide +kernel
theorem dX9_reads_264 : decode cX9_reads 264 = .ok (.getfield 59, 3) := by decide +kernel
theorem dX9_reads_267 : decode cX9_reads 267 = .ok (.iload_n 1, 1) := by decide +kernel
theorem dX9_reads_268 : decode cX9_reads 268 = .ok (.baload, 1) := by decide +kernel
theorem dX9_reads_269 : decode cX9_reads 269 = .ok (.ifCond .ne 35, 3) := by decide +kernel
theorem dX9_reads_272 : decode cX9_reads 272 = .ok (.aload_n 0, 1) := by decide +kernel
theorem dX9_reads_273 : decode cX9_reads 273 = .ok (.aload_n 0, 1) := by decide +kernel
theorem dX9_reads_274 : decode cX9_reads 274 = .ok (.bipush 60, 2) := by decide +kernel
theorem dX9_reads_276 : decode cX9_reads 276 = .ok (.invokevirtual 202, 3) := by decide +kernel
theorem dX9_reads_279 : decode cX9_reads 279 = .ok (.ifCond .eq 8, 3) := by decide +kernel
theorem dX9_reads_282 : decode cX9_reads 282 = .ok (.bipush 24, 2) := by decide +kernel
theorem dX9_reads_284 : decode cX9_reads 284 = .ok (.goto 5, 3) := by decide +kernel
theorem dX9_reads_287 : decode cX9_reads 287 = .ok (.bipush 25, 2) := by decide +kernel
theorem dX9_reads_289 : decode cX9_reads 289 = .ok (.invokevirtual 209, 3) := by decide +kernel
theorem dX9_reads_292 : decode cX9_reads 292 = .ok (.aload_n 0, 1) := by decide +kernel
theorem dX9_reads_293 : decode cX9_reads 293 = .ok (.getfield 59, 3) := by decide +kernel
theorem dX9_reads_296 : decode cX9_reads 296 = .ok (.iload_n 1, 1) := by decide +kernel
theorem dX9_reads_297 : decode cX9_reads 297 = .ok (.iconst 1, 1) := by decide +kernel
theorem dX9_reads_298 : decode cX9_reads 298 = .ok (.bastore, 1) := by decide +kernel
theorem dX9_reads_299 : decode cX9_reads 299 = .ok (.iconst 1, 1) := by decide +kernel
theorem dX9_reads_300 : decode cX9_reads 300 = .ok (.istore_n 2, 1) := by decide +kernel
theorem dX9_reads_301 : decode cX9_reads 301 = .ok (.goto 123, 3) := by decide +kernel
theorem dX9_reads_304 : decode cX9_reads 304 = .ok (.aload_n 0, 1) := by decide +kernel
theorem dX9_reads_305 : decode cX9_reads 305 = .ok (.ldc2_w 215, 3) := by decide +kernel
theorem dX9_reads_308 : decode cX9_reads 308 = .ok (.invokevirtual 198, 3) := by decide +kernel
theorem dX9_reads_311 : decode cX9_reads 311 = .ok (.ifCond .ne 13, 3) := by decide +kernel
theorem dX9_reads_314 : decode cX9_reads 314 = .ok (.aload_n 0, 1) := by decide +kernel
theorem dX9_reads_315 : decode cX9_reads 315 = .ok (.ldc2_w 217, 3) := by decide +kernel
theorem dX9_reads_318 : decode cX9_reads 318 = .ok (.invokevirtual 198, 3) := by decide +kernel
theorem dX9_reads_321 : decode cX9_reads 321 = .ok (.ifCond .eq 36, 3) := by decide +kernel
theorem dX9_reads_324 : decode cX9_reads 324 = .ok (.aload_n 0, 1) := by decide +kernel
theorem dX9_reads_325 : decode cX9_reads 325 = .ok (.aload_n 0, 1) := by decide +kernel
theorem dX9_reads_326 : decode cX9_reads 326 = .ok (.ldc2_w 215, 3) := by decide +kernel
theorem dX9_reads_329 : decode cX9_reads 329 = .ok (.invokevirtual 198, 3) := by decide +kernel
theorem dX9_reads_332 : decode cX9_reads 332 = .ok (.ifCond .eq 8, 3) := by decide +kernel
theorem dX9_reads_335 : decode cX9_reads 335 = .ok (.bipush 26, 2) := by decide +kernel
theorem dX9_reads_337 : decode cX9_reads 337 = .ok (.goto 5, 3) := by decide +kernel
theorem dX9_reads_340 : decode cX9_reads 340 = .ok (.bipush 27, 2) := by decide +kernel
theorem dX9_reads_342 : decode cX9_reads 342 = .ok (.invokevirtual 209, 3) := by decide +kernel
theorem dX9_reads_345 : decode cX9_reads 345 = .ok (.aload_n 0, 1) := by decide +kernel
theorem dX9_reads_346 : decode cX9_reads 346 = .ok (.getfield 59, 3) := by decide +kernel
theorem dX9_reads_349 : decode cX9_reads 349 = .ok (.iload_n 1, 1) := by decide +kernel
theorem dX9_reads_350 : decode cX9_reads 350 = .ok (.iconst 0, 1) := by decide +kernel
theorem dX9_reads_351 : decode cX9_reads 351 = .ok (.bastore, 1) := by decide +kernel
theorem dX9_reads_352 : decode cX9_reads 352 = .ok (.iconst 1, 1) := by decide +kernel
theorem dX9_reads_353 : decode cX9_reads 353 = .ok (.istore_n 2, 1) := by decide +kernel
theorem dX9_reads_354 : decode cX9_reads 354 = .ok (.goto 70, 3) := by decide +kernel
theorem dX9_reads_357 : decode cX9_reads 357 = .ok (.aload_n 0, 1) := by decide +kernel
theorem dX9_reads_358 : decode cX9_reads 358 = .ok (.bipush 41, 2) := by decide +kernel
theorem dX9_reads_360 : decode cX9_reads 360 = .ok (.invokevirtual 202, 3) := by decide +kernel
theorem dX9_reads_363 : decode cX9_reads 363 = .ok (.ifCond .eq 36, 3) := by decide +kernel
theorem dX9_reads_366 : decode cX9_reads 366 = .ok (.iload_n 1, 1) := by decide +kernel
theorem dX9_reads_367 : decode cX9_reads 367 = .ok (.ifCond .le 32, 3) := by decide +kernel
theorem dX9_reads_370 : decode cX9_reads 370 = .ok (.aload_n 0, 1) := by decide +kernel
theorem dX9_reads_371 : decode cX9_reads 371 = .ok (.bipush 29, 2) := by decide +kernel
theorem dX9_reads_373 : decode cX9_reads 373 = .ok (.invokevirtual 209, 3) := by decide +kernel
theorem dX9_reads_376 : decode cX9_reads 376 = .ok (.iinc 1 (-1), 3) := by decide +kernel
theorem dX9_reads_379 : decode cX9_reads 379 = .ok (.iload_n 1, 1) := by decide +kernel
theorem dX9_reads_380 : decode cX9_reads 380 = .ok (.ifCond .le 44, 3) := by decide +kernel
theorem dX9_reads_383 : decode cX9_reads 383 = .ok (.aload_n 0, 1) := by decide +kernel
theorem dX9_reads_384 : decode cX9_reads 384 = .ok (.getfield 56, 3) := by decide +kernel
theorem dX9_reads_387 : decode cX9_reads 387 = .ok (.iload_n 1, 1) := by decide +kernel
theorem dX9_reads_388 : decode cX9_reads 388 = .ok (.iaload, 1) := by decide +kernel
theorem dX9_reads_389 : decode cX9_reads 389 = .ok (.iconst 1, 1) := by decide +kernel
theorem dX9_reads_390 : decode cX9_reads 390 = .ok (.if_icmp .ne 34, 3) := by decide +kernel
theorem dX9_reads_393 : decode cX9_reads 393 = .ok (.iinc 1 (-1), 3) := by decide +kernel
theorem dX9_reads_396 : decode cX9_reads 396 = .ok (.goto (-17), 3) := by decide +kernel
theorem dX9_reads_399 : decode cX9_reads 399 = .ok (.iload_n 1, 1) := by decide +kernel
theorem dX9_reads_400 : decode cX9_reads 400 = .ok (.ifCond .ne 18, 3) := by decide +kernel
theorem dX9_reads_403 : decode cX9_reads 403 = .ok (.aload_n 0, 1) := by decide +kernel
theorem dX9_reads_404 : decode cX9_reads 404 = .ok (.bipush 59, 2) := by decide +kernel
theorem dX9_reads_406 : decode cX9_reads 406 = .ok (.invokevirtual 202, 3) := by decide +kernel
theorem dX9_reads_409 : decode cX9_reads 409 = .ok (.ifCond .eq 9, 3) := by decide +kernel
theorem dX9_reads_412 : decode cX9_reads 412 = .ok (.aload_n 0, 1) := by decide +kernel
theorem dX9_reads_413 : decode cX9_reads 413 = .ok (.invokevirtual 212, 3) := by decide +kernel
theorem dX9_reads_416 : decode cX9_reads 416 = .ok (.iconst 1, 1) := by decide +kernel
theorem dX9_reads_417 : decode cX9_reads 417 = .ok (.ireturn, 1) := by decide +kernel
theorem dX9_reads_418 : decode cX9_reads 418 = .ok (.aload_n 0, 1) := by decide +kernel
theorem dX9_reads_419 : decode cX9_reads 419 = .ok (.iconst 1, 1) := by decide +kernel
theorem dX9_reads_420 : decode cX9_reads 420 = .ok (.invokevirtual 206, 3) := by decide +kernel
theorem dX9_reads_423 : decode cX9_reads 423 = .ok (.ireturn, 1) := by decide +kernel
theorem dX9_reads_424 : decode cX9_reads 424 = .ok (.aload_n 0, 1) := by decide +kernel
theorem dX9_reads_425 : decode cX9_reads 425 = .ok (.invokevirtual 212, 3) := by decide +kernel
theorem dX9_reads_428 : decode cX9_reads 428 = .ok (.goto (-417), 3) := by decide +kernel
theorem dX9_opens_0 : decode cX9_opens 0 = .ok (.aload_n 0, 1) := by decide +kernel
theorem dX9_opens_1 : decode cX9_opens 1 = .ok (.getfield 66, 3) := by decide +kernel
theorem dX9_opens_4 : decode cX9_opens 4 = .ok (.iload_n 1, 1) := by decide +kernel
theorem dX9_opens_5 : decode cX9_opens 5 = .ok (.iconst 0, 1) := by decide +kernel
theorem dX9_opens_6 : decode cX9_opens 6 = .ok (.iastore, 1) := by decide +kernel
theorem dX9_opens_7 : decode cX9_opens 7 = .ok (.aload_n 0, 1) := by decide +kernel
theorem dX9_opens_8 : decode cX9_opens 8 = .ok (.getfield 72, 3) := by decide +kernel
theorem dX9_opens_11 : decode cX9_opens 11 = .ok (.iload_n 1, 1) := by decide +kernel
theorem dX9_opens_12 : decode cX9_opens 12 = .ok (.iconst 0, 1) := by decide +kernel
theorem dX9_opens_13 : decode cX9_opens 13 = .ok (.iastore, 1) := by decide +kernel
theorem dX9_opens_14 : decode cX9_opens 14 = .ok (.aload_n 0, 1) := by decide +kernel
theorem dX9_opens_15 : decode cX9_opens 15 = .ok (.getfield 75, 3) := by decide +kernel
theorem dX9_opens_18 : decode cX9_opens 18 = .ok (.iload_n 1, 1) := by decide +kernel
theorem dX9_opens_19 : decode cX9_opens 19 = .ok (.iconst 0, 1) := by decide +kernel
theorem dX9_opens_20 : decode cX9_opens 20 = .ok (.iastore, 1) := by decide +kernel
theorem dX9_opens_21 : decode cX9_opens 21 = .ok (.aload_n 0, 1) := by decide +kernel
theorem dX9_opens_22 : decode cX9_opens 22 = .ok (.getfield 78, 3) := by decide +kernel
theorem dX9_opens_25 : decode cX9_opens 25 = .ok (.iload_n 1, 1) := by decide +kernel
theorem dX9_opens_26 : decode cX9_opens 26 = .ok (.bipush 20, 2) := by decide +kernel
theorem dX9_opens_28 : decode cX9_opens 28 = .ok (.iastore, 1) := by decide +kernel
theorem dX9_opens_29 : decode cX9_opens 29 = .ok (.aload_n 0, 1) := by decide +kernel
theorem dX9_opens_30 : decode cX9_opens 30 = .ok (.getfield 84, 3) := by decide +kernel
theorem dX9_opens_33 : decode cX9_opens 33 = .ok (.iload_n 1, 1) := by decide +kernel
theorem dX9_opens_34 : decode cX9_opens 34 = .ok (.iconst 0, 1) := by decide +kernel
theorem dX9_opens_35 : decode cX9_opens 35 = .ok (.iastore, 1) := by decide +kernel
theorem dX9_opens_36 : decode cX9_opens 36 = .ok (.return_, 1) := by decide +kernel
theorem dX9_sums_0 : decode cX9_sums 0 = .ok (.aload_n 0, 1) := by decide +kernel
theorem dX9_sums_1 : decode cX9_sums 1 = .ok (.getfield 75, 3) := by decide +kernel
theorem dX9_sums_4 : decode cX9_sums 4 = .ok (.iload_n 1, 1) := by decide +kernel
theorem dX9_sums_5 : decode cX9_sums 5 = .ok (.aload_n 0, 1) := by decide +kernel
theorem dX9_sums_6 : decode cX9_sums 6 = .ok (.getfield 78, 3) := by decide +kernel
theorem dX9_sums_9 : decode cX9_sums 9 = .ok (.iload_n 1, 1) := by decide +kernel
theorem dX9_sums_10 : decode cX9_sums 10 = .ok (.iaload, 1) := by decide +kernel
theorem dX9_sums_11 : decode cX9_sums 11 = .ok (.bipush 21, 2) := by decide +kernel
theorem dX9_sums_13 : decode cX9_sums 13 = .ok (.if_icmp .ne 19, 3) := by decide +kernel
theorem dX9_sums_16 : decode cX9_sums 16 = .ok (.aload_n 0, 1) := by decide +kernel
theorem dX9_sums_17 : decode cX9_sums 17 = .ok (.getfield 75, 3) := by decide +kernel
theorem dX9_sums_20 : decode cX9_sums 20 = .ok (.iload_n 1, 1) := by decide +kernel
theorem dX9_sums_21 : decode cX9_sums 21 = .ok (.iaload, 1) := by decide +kernel
theorem dX9_sums_22 : decode cX9_sums 22 = .ok (.aload_n 0, 1) := by decide +kernel
theorem dX9_sums_23 : decode cX9_sums 23 = .ok (.getfield 81, 3) := by decide +kernel
theorem dX9_sums_26 : decode cX9_sums 26 = .ok (.iload_n 1, 1) := by decide +kernel
theorem dX9_sums_27 : decode cX9_sums 27 = .ok (.iaload, 1) := by decide +kernel
theorem dX9_sums_28 : decode cX9_sums 28 = .ok (.isub, 1) := by decide +kernel
theorem dX9_sums_29 : decode cX9_sums 29 = .ok (.goto 16, 3) := by decide +kernel
theorem dX9_sums_32 : decode cX9_sums 32 = .ok (.aload_n 0, 1) := by decide +kernel
theorem dX9_sums_33 : decode cX9_sums 33 = .ok (.getfield 75, 3) := by decide +kernel
theorem dX9_sums_36 : decode cX9_sums 36 = .ok (.iload_n 1, 1) := by decide +kernel
theorem dX9_sums_37 : decode cX9_sums 37 = .ok (.iaload, 1) := by decide +kernel
theorem dX9_sums_38 : decode cX9_sums 38 = .ok (.aload_n 0, 1) := by decide +kernel
theorem dX9_sums_39 : decode cX9_sums 39 = .ok (.getfield 81, 3) := by decide +kernel
theorem dX9_sums_42 : decode cX9_sums 42 = .ok (.iload_n 1, 1) := by decide +kernel
theorem dX9_sums_43 : decode cX9_sums 43 = .ok (.iaload, 1) := by decide +kernel
theorem dX9_sums_44 : decode cX9_sums 44 = .ok (.iadd, 1) := by decide +kernel
theorem dX9_sums_45 : decode cX9_sums 45 = .ok (.iastore, 1) := by decide +kernel
theorem dX9_sums_46 : decode cX9_sums 46 = .ok (.aload_n 0, 1) := by decide +kernel
theorem dX9_sums_47 : decode cX9_sums 47 = .ok (.getfield 84, 3) := by decide +kernel
theorem dX9_sums_50 : decode cX9_sums 50 = .ok (.iload_n 1, 1) := by decide +kernel
theorem dX9_sums_51 : decode cX9_sums 51 = .ok (.iconst 0, 1) := by decide +kernel
theorem dX9_sums_52 : decode cX9_sums 52 = .ok (.iastore, 1) := by decide +kernel
theorem dX9_sums_53 : decode cX9_sums 53 = .ok (.return_, 1) := by decide +kernel
theorem dX9_tests_0 : decode cX9_tests 0 = .ok (.aload_n 0, 1) := by decide +kernel
theorem dX9_tests_1 : decode cX9_tests 1 = .ok (.iload_n 1, 1) := by decide +kernel
theorem dX9_tests_2 : decode cX9_tests 2 = .ok (.invokevirtual 219, 3) := by decide +kernel
theorem dX9_tests_5 : decode cX9_tests 5 = .ok (.aload_n 0, 1) := by decide +kernel
theorem dX9_tests_6 : decode cX9_tests 6 = .ok (.getfield 75, 3) := by decide +kernel
theorem dX9_tests_9 : decode cX9_tests 9 = .ok (.iload_n 1, 1) := by decide +kernel
theorem dX9_tests_10 : decode cX9_tests 10 = .ok (.iaload, 1) := by decide +kernel
theorem dX9_tests_11 : decode cX9_tests 11 = .ok (.istore_n 2, 1) := by decide +kernel
theorem dX9_tests_12 : decode cX9_tests 12 = .ok (.aload_n 0, 1) := by decide +kernel
theorem dX9_tests_13 : decode cX9_tests 13 = .ok (.getfield 72, 3) := by decide +kernel
theorem dX9_tests_16 : decode cX9_tests 16 = .ok (.iload_n 1, 1) := by decide +kernel
theorem dX9_tests_17 : decode cX9_tests 17 = .ok (.iaload, 1) := by decide +kernel
theorem dX9_tests_18 : decode cX9_tests 18 = .ok (.bipush 24, 2) := by decide +kernel
theorem dX9_tests_20 : decode cX9_tests 20 = .ok (.if_icmp .ne 24, 3) := by decide +kernel
theorem dX9_tests_23 : decode cX9_tests 23 = .ok (.aload_n 0, 1) := by decide +kernel
theorem dX9_tests_24 : decode cX9_tests 24 = .ok (.getfield 69, 3) := by decide +kernel
theorem dX9_tests_27 : decode cX9_tests 27 = .ok (.iload_n 1, 1) := by decide +kernel
theorem dX9_tests_28 : decode cX9_tests 28 = .ok (.iaload, 1) := by decide +kernel
theorem dX9_tests_29 : decode cX9_tests 29 = .ok (.aload_n 0, 1) := by decide +kernel
theorem dX9_tests_30 : decode cX9_tests 30 = .ok (.getfield 75, 3) := by decide +kernel
theorem dX9_tests_33 : decode cX9_tests 33 = .ok (.iload_n 1, 1) := by decide +kernel
theorem dX9_tests_34 : decode cX9_tests 34 = .ok (.iaload, 1) := by decide +kernel
theorem dX9_tests_35 : decode cX9_tests 35 = .ok (.if_icmp .ge 7, 3) := by decide +kernel
theorem dX9_tests_38 : decode cX9_tests 38 = .ok (.iconst 1, 1) := by decide +kernel
theorem dX9_tests_39 : decode cX9_tests 39 = .ok (.goto 4, 3) := by decide +kernel
theorem dX9_tests_42 : decode cX9_tests 42 = .ok (.iconst 0, 1) := by decide +kernel
theorem dX9_tests_43 : decode cX9_tests 43 = .ok (.istore_n 2, 1) := by decide +kernel
theorem dX9_tests_44 : decode cX9_tests 44 = .ok (.aload_n 0, 1) := by decide +kernel
theorem dX9_tests_45 : decode cX9_tests 45 = .ok (.getfield 72, 3) := by decide +kernel
theorem dX9_tests_48 : decode cX9_tests 48 = .ok (.iload_n 1, 1) := by decide +kernel
theorem dX9_tests_49 : decode cX9_tests 49 = .ok (.iaload, 1) := by decide +kernel
theorem dX9_tests_50 : decode cX9_tests 50 = .ok (.bipush 25, 2) := by decide +kernel
theorem dX9_tests_52 : decode cX9_tests 52 = .ok (.if_icmp .ne 24, 3) := by decide +kernel
theorem dX9_tests_55 : decode cX9_tests 55 = .ok (.aload_n 0, 1) := by decide +kernel
theorem dX9_tests_56 : decode cX9_tests 56 = .ok (.getfield 69, 3) := by decide +kernel
theorem dX9_tests_59 : decode cX9_tests 59 = .ok (.iload_n 1, 1) := by decide +kernel
theorem dX9_tests_60 : decode cX9_tests 60 = .ok (.iaload, 1) := by decide +kernel
theorem dX9_tests_61 : decode cX9_tests 61 = .ok (.aload_n 0, 1) := by decide +kernel
theorem dX9_tests_62 : decode cX9_tests 62 = .ok (.getfield 75, 3) := by decide +kernel
theorem dX9_tests_65 : decode cX9_tests 65 = .ok (.iload_n 1, 1) := by decide +kernel
theorem dX9_tests_66 : decode cX9_tests 66 = .ok (.iaload, 1) := by decide +kernel
theorem dX9_tests_67 : decode cX9_tests 67 = .ok (.if_icmp .ne 7, 3) := by decide +kernel
theorem dX9_tests_70 : decode cX9_tests 70 = .ok (.iconst 1, 1) := by decide +kernel
theorem dX9_tests_71 : decode cX9_tests 71 = .ok (.goto 4, 3) := by decide +kernel
theorem dX9_tests_74 : decode cX9_tests 74 = .ok (.iconst 0, 1) := by decide +kernel
theorem dX9_tests_75 : decode cX9_tests 75 = .ok (.istore_n 2, 1) := by decide +kernel
theorem dX9_tests_76 : decode cX9_tests 76 = .ok (.aload_n 0, 1) := by decide +kernel
theorem dX9_tests_77 : decode cX9_tests 77 = .ok (.getfield 66, 3) := by decide +kernel
theorem dX9_tests_80 : decode cX9_tests 80 = .ok (.iload_n 1, 1) := by decide +kernel
theorem dX9_tests_81 : decode cX9_tests 81 = .ok (.iaload, 1) := by decide +kernel
theorem dX9_tests_82 : decode cX9_tests 82 = .ok (.bipush 26, 2) := by decide +kernel
theorem dX9_tests_84 : decode cX9_tests 84 = .ok (.if_icmp .ne 22, 3) := by decide +kernel
theorem dX9_tests_87 : decode cX9_tests 87 = .ok (.aload_n 0, 1) := by decide +kernel
theorem dX9_tests_88 : decode cX9_tests 88 = .ok (.getfield 63, 3) := by decide +kernel
theorem dX9_tests_91 : decode cX9_tests 91 = .ok (.iload_n 1, 1) := by decide +kernel
theorem dX9_tests_92 : decode cX9_tests 92 = .ok (.iaload, 1) := by decide +kernel
theorem dX9_tests_93 : decode cX9_tests 93 = .ok (.ifCond .eq 11, 3) := by decide +kernel
theorem dX9_tests_96 : decode cX9_tests 96 = .ok (.iload_n 2, 1) := by decide +kernel
theorem dX9_tests_97 : decode cX9_tests 97 = .ok (.ifCond .eq 7, 3) := by decide +kernel
theorem dX9_tests_100 : decode cX9_tests 100 = .ok (.iconst 1, 1) := by decide +kernel
theorem dX9_tests_101 : decode cX9_tests 101 = .ok (.goto 4, 3) := by decide +kernel
theorem dX9_tests_104 : decode cX9_tests 104 = .ok (.iconst 0, 1) := by decide +kernel
theorem dX9_tests_105 : decode cX9_tests 105 = .ok (.istore_n 2, 1) := by decide +kernel
theorem dX9_tests_106 : decode cX9_tests 106 = .ok (.aload_n 0, 1) := by decide +kernel
theorem dX9_tests_107 : decode cX9_tests 107 = .ok (.getfield 66, 3) := by decide +kernel
theorem dX9_tests_110 : decode cX9_tests 110 = .ok (.iload_n 1, 1) := by decide +kernel
theorem dX9_tests_111 : decode cX9_tests 111 = .ok (.iaload, 1) := by decide +kernel
theorem dX9_tests_112 : decode cX9_tests 112 = .ok (.bipush 27, 2) := by decide +kernel
theorem dX9_tests_114 : decode cX9_tests 114 = .ok (.if_icmp .ne 22, 3) := by decide +kernel
theorem dX9_tests_117 : decode cX9_tests 117 = .ok (.aload_n 0, 1) := by decide +kernel
theorem dX9_tests_118 : decode cX9_tests 118 = .ok (.getfield 63, 3) := by decide +kernel
theorem dX9_tests_121 : decode cX9_tests 121 = .ok (.iload_n 1, 1) := by decide +kernel
theorem dX9_tests_122 : decode cX9_tests 122 = .ok (.iaload, 1) := by decide +kernel
theorem dX9_tests_123 : decode cX9_tests 123 = .ok (.ifCond .ne 7, 3) := by decide +kernel
theorem dX9_tests_126 : decode cX9_tests 126 = .ok (.iload_n 2, 1) := by decide +kernel
theorem dX9_tests_127 : decode cX9_tests 127 = .ok (.ifCond .eq 7, 3) := by decide +kernel
theorem dX9_tests_130 : decode cX9_tests 130 = .ok (.iconst 1, 1) := by decide +kernel
theorem dX9_tests_131 : decode cX9_tests 131 = .ok (.goto 4, 3) := by decide +kernel
theorem dX9_tests_134 : decode cX9_tests 134 = .ok (.iconst 0, 1) := by decide +kernel
theorem dX9_tests_135 : decode cX9_tests 135 = .ok (.istore_n 2, 1) := by decide +kernel
theorem dX9_tests_136 : decode cX9_tests 136 = .ok (.aload_n 0, 1) := by decide +kernel
theorem dX9_tests_137 : decode cX9_tests 137 = .ok (.getfield 63, 3) := by decide +kernel
theorem dX9_tests_140 : decode cX9_tests 140 = .ok (.iload_n 1, 1) := by decide +kernel
theorem dX9_tests_141 : decode cX9_tests 141 = .ok (.iload_n 2, 1) := by decide +kernel
theorem dX9_tests_142 : decode cX9_tests 142 = .ok (.iastore, 1) := by decide +kernel
theorem dX9_tests_143 : decode cX9_tests 143 = .ok (.aload_n 0, 1) := by decide +kernel
theorem dX9_tests_144 : decode cX9_tests 144 = .ok (.getfield 72, 3) := by decide +kernel
theorem dX9_tests_147 : decode cX9_tests 147 = .ok (.iload_n 1, 1) := by decide +kernel
theorem dX9_tests_148 : decode cX9_tests 148 = .ok (.iconst 0, 1) := by decide +kernel
theorem dX9_tests_149 : decode cX9_tests 149 = .ok (.iastore, 1) := by decide +kernel
theorem dX9_tests_150 : decode cX9_tests 150 = .ok (.aload_n 0, 1) := by decide +kernel
theorem dX9_tests_151 : decode cX9_tests 151 = .ok (.getfield 75, 3) := by decide +kernel
theorem dX9_tests_154 : decode cX9_tests 154 = .ok (.iload_n 1, 1) := by decide +kernel
theorem dX9_tests_155 : decode cX9_tests 155 = .ok (.iconst 0, 1) := by decide +kernel
theorem dX9_tests_156 : decode cX9_tests 156 = .ok (.iastore, 1) := by decide +kernel
theorem dX9_tests_157 : decode cX9_tests 157 = .ok (.aload_n 0, 1) := by decide +kernel
theorem dX9_tests_158 : decode cX9_tests 158 = .ok (.getfield 78, 3) := by decide +kernel
theorem dX9_tests_161 : decode cX9_tests 161 = .ok (.iload_n 1, 1) := by decide +kernel
theorem dX9_tests_162 : decode cX9_tests 162 = .ok (.bipush 20, 2) := by decide +kernel
theorem dX9_tests_164 : decode cX9_tests 164 = .ok (.iastore, 1) := by decide +kernel
theorem dX9_tests_165 : decode cX9_tests 165 = .ok (.return_, 1) := by decide +kernel
theorem dX9_worked_0 : decode cX9_worked 0 = .ok (.iconst 0, 1) := by decide +kernel
theorem dX9_worked_1 : decode cX9_worked 1 = .ok (.istore_n 2, 1) := by decide +kernel
theorem dX9_worked_2 : decode cX9_worked 2 = .ok (.aload_n 0, 1) := by decide +kernel
theorem dX9_worked_3 : decode cX9_worked 3 = .ok (.iconst 0, 1) := by decide +kernel
theorem dX9_worked_4 : decode cX9_worked 4 = .ok (.invokevirtual 222, 3) := by decide +kernel
theorem dX9_worked_7 : decode cX9_worked 7 = .ok (.aload_n 0, 1) := by decide +kernel
theorem dX9_worked_8 : decode cX9_worked 8 = .ok (.getfield 47, 3) := by decide +kernel
theorem dX9_worked_11 : decode cX9_worked 11 = .ok (.iload_n 1, 1) := by decide +kernel
theorem dX9_worked_12 : decode cX9_worked 12 = .ok (.iaload, 1) := by decide +kernel
theorem dX9_worked_13 : decode cX9_worked 13 = .ok (.istore_n 3, 1) := by decide +kernel
theorem dX9_worked_14 : decode cX9_worked 14 = .ok (.iload_n 3, 1) := by decide +kernel
theorem dX9_worked_15 : decode cX9_worked 15 = .ok (.aload_n 0, 1) := by decide +kernel
theorem dX9_worked_16 : decode cX9_worked 16 = .ok (.getfield 50, 3) := by decide +kernel
theorem dX9_worked_19 : decode cX9_worked 19 = .ok (.iload_n 1, 1) := by decide +kernel
theorem dX9_worked_20 : decode cX9_worked 20 = .ok (.iaload, 1) := by decide +kernel
theorem dX9_worked_21 : decode cX9_worked 21 = .ok (.if_icmp .ge 314, 3) := by decide +kernel
theorem dX9_worked_24 : decode cX9_worked 24 = .ok (.aload_n 0, 1) := by decide +kernel
theorem dX9_worked_25 : decode cX9_worked 25 = .ok (.getfield 53, 3) := by decide +kernel
theorem dX9_worked_28 : decode cX9_worked 28 = .ok (.iload_n 3, 1) := by decide +kernel
theorem dX9_worked_29 : decode cX9_worked 29 = .ok (.iaload, 1) := by decide +kernel
theorem dX9_worked_30 : decode cX9_worked 30 = .ok (.istore 4, 2) := by decide +kernel
theorem dX9_worked_32 : decode cX9_worked 32 = .ok (.iload 4, 2) := by decide +kernel
theorem dX9_worked_34 : decode cX9_worked 34 = .ok (.bipush 28, 2) := by decide +kernel
theorem dX9_worked_36 : decode cX9_worked 36 = .ok (.if_icmp .eq 10, 3) := by decide +kernel
theorem dX9_worked_39 : decode cX9_worked 39 = .ok (.iload 4, 2) := by decide +kernel
theorem dX9_worked_41 : decode cX9_worked 41 = .ok (.bipush 30, 2) := by decide +kernel
theorem dX9_worked_43 : decode cX9_worked 43 = .ok (.if_icmp .ne 32, 3) := by decide +kernel
theorem dX9_worked_46 : decode cX9_worked 46 = .ok (.iinc 2 1, 3) := by decide +kernel
