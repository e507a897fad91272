theorem dX11_person_38 : decode cX11_person 38 = .ok (.ifCond .ne 5, 3) := by decide +kernel
theorem dX11_person_41 : decode cX11_person 41 = .ok (.iconst (-1), 1) := by decide +kernel
theorem dX11_person_42 : decode cX11_person 42 = .ok (.ireturn, 1) := by decide +kernel
theorem dX11_person_43 : decode cX11_person 43 = .ok (.aload_n 0, 1) := by decide +kernel
theorem dX11_person_44 : decode cX11_person 44 = .ok (.getfield 7, 3) := by decide +kernel
theorem dX11_person_47 : decode cX11_person 47 = .ok (.bipush 6, 2) := by decide +kernel
theorem dX11_person_49 : decode cX11_person 49 = .ok (.iaload, 1) := by decide +kernel
theorem dX11_person_50 : decode cX11_person 50 = .ok (.bipush 6, 2) := by decide +kernel
theorem dX11_person_52 : decode cX11_person 52 = .ok (.if_icmp .ne 6, 3) := by decide +kernel
theorem dX11_person_55 : decode cX11_person 55 = .ok (.bipush (-3), 2) := by decide +kernel
theorem dX11_person_57 : decode cX11_person 57 = .ok (.ireturn, 1) := by decide +kernel
theorem dX11_person_58 : decode cX11_person 58 = .ok (.bipush 7, 2) := by decide +kernel
theorem dX11_person_60 : decode cX11_person 60 = .ok (.iconst 4, 1) := by decide +kernel
theorem dX11_person_61 : decode cX11_person 61 = .ok (.aload_n 0, 1) := by decide +kernel
theorem dX11_person_62 : decode cX11_person 62 = .ok (.getfield 7, 3) := by decide +kernel
theorem dX11_person_65 : decode cX11_person 65 = .ok (.bipush 6, 2) := by decide +kernel
theorem dX11_person_67 : decode cX11_person 67 = .ok (.iaload, 1) := by decide +kernel
theorem dX11_person_68 : decode cX11_person 68 = .ok (.imul, 1) := by decide +kernel
theorem dX11_person_69 : decode cX11_person 69 = .ok (.iadd, 1) := by decide +kernel
theorem dX11_person_70 : decode cX11_person 70 = .ok (.istore 4, 2) := by decide +kernel
theorem dX11_person_72 : decode cX11_person 72 = .ok (.aload_n 0, 1) := by decide +kernel
theorem dX11_person_73 : decode cX11_person 73 = .ok (.getfield 7, 3) := by decide +kernel
theorem dX11_person_76 : decode cX11_person 76 = .ok (.iload 4, 2) := by decide +kernel
theorem dX11_person_78 : decode cX11_person 78 = .ok (.iload_n 1, 1) := by decide +kernel
theorem dX11_person_79 : decode cX11_person 79 = .ok (.iastore, 1) := by decide +kernel
theorem dX11_person_80 : decode cX11_person 80 = .ok (.aload_n 0, 1) := by decide +kernel
theorem dX11_person_81 : decode cX11_person 81 = .ok (.getfield 7, 3) := by decide +kernel
theorem dX11_person_84 : decode cX11_person 84 = .ok (.iload 4, 2) := by decide +kernel
theorem dX11_person_86 : decode cX11_person 86 = .ok (.iconst 1, 1) := by decide +kernel
theorem dX11_person_87 : decode cX11_person 87 = .ok (.iadd, 1) := by decide +kernel
theorem dX11_person_88 : decode cX11_person 88 = .ok (.iload_n 2, 1) := by decide +kernel
theorem dX11_person_89 : decode cX11_person 89 = .ok (.iastore, 1) := by decide +kernel
theorem dX11_person_90 : decode cX11_person 90 = .ok (.aload_n 0, 1) := by decide +kernel
theorem dX11_person_91 : decode cX11_person 91 = .ok (.getfield 7, 3) := by decide +kernel
theorem dX11_person_94 : decode cX11_person 94 = .ok (.iload 4, 2) := by decide +kernel
theorem dX11_person_96 : decode cX11_person 96 = .ok (.iconst 2, 1) := by decide +kernel
theorem dX11_person_97 : decode cX11_person 97 = .ok (.iadd, 1) := by decide +kernel
theorem dX11_person_98 : decode cX11_person 98 = .ok (.iload_n 3, 1) := by decide +kernel
theorem dX11_person_99 : decode cX11_person 99 = .ok (.iastore, 1) := by decide +kernel
theorem dX11_person_100 : decode cX11_person 100 = .ok (.aload_n 0, 1) := by decide +kernel
theorem dX11_person_101 : decode cX11_person 101 = .ok (.getfield 7, 3) := by decide +kernel
theorem dX11_person_104 : decode cX11_person 104 = .ok (.iload 4, 2) := by decide +kernel
theorem dX11_person_106 : decode cX11_person 106 = .ok (.iconst 3, 1) := by decide +kernel
theorem dX11_person_107 : decode cX11_person 107 = .ok (.iadd, 1) := by decide +kernel
theorem dX11_person_108 : decode cX11_person 108 = .ok (.iconst 1, 1) := by decide +kernel
theorem dX11_person_109 : decode cX11_person 109 = .ok (.iastore, 1) := by decide +kernel
theorem dX11_person_110 : decode cX11_person 110 = .ok (.aload_n 0, 1) := by decide +kernel
theorem dX11_person_111 : decode cX11_person 111 = .ok (.getfield 7, 3) := by decide +kernel
theorem dX11_person_114 : decode cX11_person 114 = .ok (.bipush 6, 2) := by decide +kernel
theorem dX11_person_116 : decode cX11_person 116 = .ok (.dup2, 1) := by decide +kernel
theorem dX11_person_117 : decode cX11_person 117 = .ok (.iaload, 1) := by decide +kernel
theorem dX11_person_118 : decode cX11_person 118 = .ok (.iconst 1, 1) := by decide +kernel
theorem dX11_person_119 : decode cX11_person 119 = .ok (.iadd, 1) := by decide +kernel
theorem dX11_person_120 : decode cX11_person 120 = .ok (.iastore, 1) := by decide +kernel
theorem dX11_person_121 : decode cX11_person 121 = .ok (.aload_n 0, 1) := by decide +kernel
theorem dX11_person_122 : decode cX11_person 122 = .ok (.iconst 0, 1) := by decide +kernel
theorem dX11_person_123 : decode cX11_person 123 = .ok (.putfield 102, 3) := by decide +kernel
theorem dX11_person_126 : decode cX11_person 126 = .ok (.aload_n 0, 1) := by decide +kernel
theorem dX11_person_127 : decode cX11_person 127 = .ok (.getfield 7, 3) := by decide +kernel
theorem dX11_person_130 : decode cX11_person 130 = .ok (.bipush 6, 2) := by decide +kernel
theorem dX11_person_132 : decode cX11_person 132 = .ok (.iaload, 1) := by decide +kernel
theorem dX11_person_133 : decode cX11_person 133 = .ok (.iconst 1, 1) := by decide +kernel
theorem dX11_person_134 : decode cX11_person 134 = .ok (.isub, 1) := by decide +kernel
theorem dX11_person_135 : decode cX11_person 135 = .ok (.ireturn, 1) := by decide +kernel
theorem dX11_of_0 : decode cX11_of 0 = .ok (.aload_n 0, 1) := by decide +kernel
theorem dX11_of_1 : decode cX11_of 1 = .ok (.iconst 0, 1) := by decide +kernel
theorem dX11_of_2 : decode cX11_of 2 = .ok (.putfield 48, 3) := by decide +kernel
theorem dX11_of_5 : decode cX11_of 5 = .ok (.aload_n 0, 1) := by decide +kernel
theorem dX11_of_6 : decode cX11_of 6 = .ok (.iload_n 1, 1) := by decide +kernel
theorem dX11_of_7 : decode cX11_of 7 = .ok (.invokevirtual 105, 3) := by decide +kernel
theorem dX11_of_10 : decode cX11_of 10 = .ok (.ifCond .eq 15, 3) := by decide +kernel
theorem dX11_of_13 : decode cX11_of 13 = .ok (.iload_n 2, 1) := by decide +kernel
theorem dX11_of_14 : decode cX11_of 14 = .ok (.i2l, 1) := by decide +kernel
theorem dX11_of_15 : decode cX11_of 15 = .ok (.lconst 0, 1) := by decide +kernel
theorem dX11_of_16 : decode cX11_of 16 = .ok (.ldc2_w 109, 3) := by decide +kernel
theorem dX11_of_19 : decode cX11_of 19 = .ok (.invokestatic 52, 3) := by decide +kernel
theorem dX11_of_22 : decode cX11_of 22 = .ok (.ifCond .ne 5, 3) := by decide +kernel
theorem dX11_of_25 : decode cX11_of 25 = .ok (.iconst (-1), 1) := by decide +kernel
theorem dX11_of_26 : decode cX11_of 26 = .ok (.ireturn, 1) := by decide +kernel
theorem dX11_of_27 : decode cX11_of 27 = .ok (.aload_n 0, 1) := by decide +kernel
theorem dX11_of_28 : decode cX11_of 28 = .ok (.getfield 7, 3) := by decide +kernel
theorem dX11_of_31 : decode cX11_of 31 = .ok (.iconst 0, 1) := by decide +kernel
theorem dX11_of_32 : decode cX11_of 32 = .ok (.invokestatic 74, 3) := by decide +kernel
theorem dX11_of_35 : decode cX11_of 35 = .ok (.istore_n 3, 1) := by decide +kernel
theorem dX11_of_36 : decode cX11_of 36 = .ok (.iload_n 2, 1) := by decide +kernel
theorem dX11_of_37 : decode cX11_of 37 = .ok (.iconst 4, 1) := by decide +kernel
theorem dX11_of_38 : decode cX11_of 38 = .ok (.if_icmp .ge 15, 3) := by decide +kernel
theorem dX11_of_41 : decode cX11_of 41 = .ok (.aload_n 0, 1) := by decide +kernel
theorem dX11_of_42 : decode cX11_of 42 = .ok (.getfield 7, 3) := by decide +kernel
theorem dX11_of_45 : decode cX11_of 45 = .ok (.iload_n 1, 1) := by decide +kernel
theorem dX11_of_46 : decode cX11_of 46 = .ok (.iload_n 2, 1) := by decide +kernel
theorem dX11_of_47 : decode cX11_of 47 = .ok (.invokestatic 56, 3) := by decide +kernel
theorem dX11_of_50 : decode cX11_of 50 = .ok (.goto 46, 3) := by decide +kernel
theorem dX11_of_53 : decode cX11_of 53 = .ok (.iload_n 2, 1) := by decide +kernel
theorem dX11_of_54 : decode cX11_of 54 = .ok (.iconst 4, 1) := by decide +kernel
theorem dX11_of_55 : decode cX11_of 55 = .ok (.if_icmp .ne 15, 3) := by decide +kernel
theorem dX11_of_58 : decode cX11_of 58 = .ok (.aload_n 0, 1) := by decide +kernel
theorem dX11_of_59 : decode cX11_of 59 = .ok (.getfield 7, 3) := by decide +kernel
theorem dX11_of_62 : decode cX11_of 62 = .ok (.iload_n 1, 1) := by decide +kernel
theorem dX11_of_63 : decode cX11_of 63 = .ok (.iload_n 3, 1) := by decide +kernel
theorem dX11_of_64 : decode cX11_of 64 = .ok (.invokestatic 68, 3) := by decide +kernel
theorem dX11_of_67 : decode cX11_of 67 = .ok (.goto 29, 3) := by decide +kernel
theorem dX11_of_70 : decode cX11_of 70 = .ok (.iload_n 2, 1) := by decide +kernel
theorem dX11_of_71 : decode cX11_of 71 = .ok (.iconst 5, 1) := by decide +kernel
theorem dX11_of_72 : decode cX11_of 72 = .ok (.if_icmp .ne 15, 3) := by decide +kernel
theorem dX11_of_75 : decode cX11_of 75 = .ok (.aload_n 0, 1) := by decide +kernel
theorem dX11_of_76 : decode cX11_of 76 = .ok (.getfield 7, 3) := by decide +kernel
theorem dX11_of_79 : decode cX11_of 79 = .ok (.iload_n 1, 1) := by decide +kernel
theorem dX11_of_80 : decode cX11_of 80 = .ok (.iload_n 3, 1) := by decide +kernel
theorem dX11_of_81 : decode cX11_of 81 = .ok (.invokestatic 71, 3) := by decide +kernel
theorem dX11_of_84 : decode cX11_of 84 = .ok (.goto 12, 3) := by decide +kernel
theorem dX11_of_87 : decode cX11_of 87 = .ok (.aload_n 0, 1) := by decide +kernel
theorem dX11_of_88 : decode cX11_of 88 = .ok (.getfield 7, 3) := by decide +kernel
theorem dX11_of_91 : decode cX11_of 91 = .ok (.iload_n 1, 1) := by decide +kernel
theorem dX11_of_92 : decode cX11_of 92 = .ok (.iload_n 3, 1) := by decide +kernel
theorem dX11_of_93 : decode cX11_of 93 = .ok (.invokestatic 84, 3) := by decide +kernel
theorem dX11_of_96 : decode cX11_of 96 = .ok (.ireturn, 1) := by decide +kernel
theorem dX11_rule_0 : decode cX11_rule 0 = .ok (.aload_n 0, 1) := by decide +kernel
theorem dX11_rule_1 : decode cX11_rule 1 = .ok (.iconst 0, 1) := by decide +kernel
theorem dX11_rule_2 : decode cX11_rule 2 = .ok (.putfield 48, 3) := by decide +kernel
theorem dX11_rule_5 : decode cX11_rule 5 = .ok (.iload_n 1, 1) := by decide +kernel
theorem dX11_rule_6 : decode cX11_rule 6 = .ok (.ifCond .ne 15, 3) := by decide +kernel
theorem dX11_rule_9 : decode cX11_rule 9 = .ok (.iload_n 2, 1) := by decide +kernel
theorem dX11_rule_10 : decode cX11_rule 10 = .ok (.i2l, 1) := by decide +kernel
theorem dX11_rule_11 : decode cX11_rule 11 = .ok (.lconst 1, 1) := by decide +kernel
theorem dX11_rule_12 : decode cX11_rule 12 = .ok (.ldc2_w 111, 3) := by decide +kernel
theorem dX11_rule_15 : decode cX11_rule 15 = .ok (.invokestatic 52, 3) := by decide +kernel
theorem dX11_rule_18 : decode cX11_rule 18 = .ok (.goto 42, 3) := by decide +kernel
theorem dX11_rule_21 : decode cX11_rule 21 = .ok (.iload_n 1, 1) := by decide +kernel
theorem dX11_rule_22 : decode cX11_rule 22 = .ok (.iconst 1, 1) := by decide +kernel
theorem dX11_rule_23 : decode cX11_rule 23 = .ok (.if_icmp .ne 15, 3) := by decide +kernel
theorem dX11_rule_26 : decode cX11_rule 26 = .ok (.iload_n 2, 1) := by decide +kernel
theorem dX11_rule_27 : decode cX11_rule 27 = .ok (.i2l, 1) := by decide +kernel
theorem dX11_rule_28 : decode cX11_rule 28 = .ok (.lconst 1, 1) := by decide +kernel
theorem dX11_rule_29 : decode cX11_rule 29 = .ok (.ldc2_w 113, 3) := by decide +kernel
theorem dX11_rule_32 : decode cX11_rule 32 = .ok (.invokestatic 52, 3) := by decide +kernel
theorem dX11_rule_35 : decode cX11_rule 35 = .ok (.goto 25, 3) := by decide +kernel
theorem dX11_rule_38 : decode cX11_rule 38 = .ok (.iload_n 1, 1) := by decide +kernel
theorem dX11_rule_39 : decode cX11_rule 39 = .ok (.iconst 2, 1) := by decide +kernel
theorem dX11_rule_40 : decode cX11_rule 40 = .ok (.if_icmp .ne 19, 3) := by decide +kernel
theorem dX11_rule_43 : decode cX11_rule 43 = .ok (.iload_n 2, 1) := by decide +kernel
theorem dX11_rule_44 : decode cX11_rule 44 = .ok (.i2l, 1) := by decide +kernel
theorem dX11_rule_45 : decode cX11_rule 45 = .ok (.lconst 0, 1) := by decide +kernel
theorem dX11_rule_46 : decode cX11_rule 46 = .ok (.ldc2_w 98, 3) := by decide +kernel
theorem dX11_rule_49 : decode cX11_rule 49 = .ok (.invokestatic 52, 3) := by decide +kernel
theorem dX11_rule_52 : decode cX11_rule 52 = .ok (.ifCond .eq 7, 3) := by decide +kernel
theorem dX11_rule_55 : decode cX11_rule 55 = .ok (.iconst 1, 1) := by decide +kernel
theorem dX11_rule_56 : decode cX11_rule 56 = .ok (.goto 4, 3) := by decide +kernel
theorem dX11_rule_59 : decode cX11_rule 59 = .ok (.iconst 0, 1) := by decide +kernel
theorem dX11_rule_60 : decode cX11_rule 60 = .ok (.istore_n 3, 1) := by decide +kernel
theorem dX11_rule_61 : decode cX11_rule 61 = .ok (.iload_n 3, 1) := by decide +kernel
theorem dX11_rule_62 : decode cX11_rule 62 = .ok (.ifCond .ne 5, 3) := by decide +kernel
theorem dX11_rule_65 : decode cX11_rule 65 = .ok (.iconst (-1), 1) := by decide +kernel
theorem dX11_rule_66 : decode cX11_rule 66 = .ok (.ireturn, 1) := by decide +kernel
theorem dX11_rule_67 : decode cX11_rule 67 = .ok (.aload_n 0, 1) := by decide +kernel
theorem dX11_rule_68 : decode cX11_rule 68 = .ok (.getfield 7, 3) := by decide +kernel
theorem dX11_rule_71 : decode cX11_rule 71 = .ok (.iconst 1, 1) := by decide +kernel
theorem dX11_rule_72 : decode cX11_rule 72 = .ok (.iload_n 1, 1) := by decide +kernel
theorem dX11_rule_73 : decode cX11_rule 73 = .ok (.iadd, 1) := by decide +kernel
theorem dX11_rule_74 : decode cX11_rule 74 = .ok (.iaload, 1) := by decide +kernel
theorem dX11_rule_75 : decode cX11_rule 75 = .ok (.istore 4, 2) := by decide +kernel
theorem dX11_rule_77 : decode cX11_rule 77 = .ok (.aload_n 0, 1) := by decide +kernel
theorem dX11_rule_78 : decode cX11_rule 78 = .ok (.getfield 7, 3) := by decide +kernel
theorem dX11_rule_81 : decode cX11_rule 81 = .ok (.iconst 1, 1) := by decide +kernel
theorem dX11_rule_82 : decode cX11_rule 82 = .ok (.iload_n 1, 1) := by decide +kernel
theorem dX11_rule_83 : decode cX11_rule 83 = .ok (.iadd, 1) := by decide +kernel
theorem dX11_rule_84 : decode cX11_rule 84 = .ok (.iload_n 2, 1) := by decide +kernel
theorem dX11_rule_85 : decode cX11_rule 85 = .ok (.iastore, 1) := by decide +kernel
theorem dX11_rule_86 : decode cX11_rule 86 = .ok (.iload 4, 2) := by decide +kernel
theorem dX11_rule_88 : decode cX11_rule 88 = .ok (.ireturn, 1) := by decide +kernel
theorem dX11_hope_0 : decode cX11_hope 0 = .ok (.aload_n 0, 1) := by decide +kernel
theorem dX11_hope_1 : decode cX11_hope 1 = .ok (.iconst 0, 1) := by decide +kernel
theorem dX11_hope_2 : decode cX11_hope 2 = .ok (.putfield 48, 3) := by decide +kernel
theorem dX11_hope_5 : decode cX11_hope 5 = .ok (.aload_n 0, 1) := by decide +kernel
theorem dX11_hope_6 : decode cX11_hope 6 = .ok (.iload_n 1, 1) := by decide +kernel
theorem dX11_hope_7 : decode cX11_hope 7 = .ok (.invokevirtual 105, 3) := by decide +kernel
theorem dX11_hope_10 : decode cX11_hope 10 = .ok (.ifCond .eq 13, 3) := by decide +kernel
theorem dX11_hope_13 : decode cX11_hope 13 = .ok (.iload_n 2, 1) := by decide +kernel
theorem dX11_hope_14 : decode cX11_hope 14 = .ok (.i2l, 1) := by decide +kernel
theorem dX11_hope_15 : decode cX11_hope 15 = .ok (.lconst 0, 1) := by decide +kernel
theorem dX11_hope_16 : decode cX11_hope 16 = .ok (.lconst 1, 1) := by decide +kernel
theorem dX11_hope_17 : decode cX11_hope 17 = .ok (.invokestatic 52, 3) := by decide +kernel
theorem dX11_hope_20 : decode cX11_hope 20 = .ok (.ifCond .ne 5, 3) := by decide +kernel
theorem dX11_hope_23 : decode cX11_hope 23 = .ok (.iconst (-1), 1) := by decide +kernel
theorem dX11_hope_24 : decode cX11_hope 24 = .ok (.ireturn, 1) := by decide +kernel
theorem dX11_hope_25 : decode cX11_hope 25 = .ok (.aload_n 0, 1) := by decide +kernel
theorem dX11_hope_26 : decode cX11_hope 26 = .ok (.getfield 7, 3) := by decide +kernel
theorem dX11_hope_29 : decode cX11_hope 29 = .ok (.iload_n 1, 1) := by decide +kernel
theorem dX11_hope_30 : decode cX11_hope 30 = .ok (.iconst 3, 1) := by decide +kernel
theorem dX11_hope_31 : decode cX11_hope 31 = .ok (.invokestatic 56, 3) := by decide +kernel
theorem dX11_hope_34 : decode cX11_hope 34 = .ok (.istore_n 3, 1) := by decide +kernel
theorem dX11_hope_35 : decode cX11_hope 35 = .ok (.aload_n 0, 1) := by decide +kernel
theorem dX11_hope_36 : decode cX11_hope 36 = .ok (.getfield 7, 3) := by decide +kernel
theorem dX11_hope_39 : decode cX11_hope 39 = .ok (.bipush 7, 2) := by decide +kernel
theorem dX11_hope_41 : decode cX11_hope 41 = .ok (.iconst 4, 1) := by decide +kernel
theorem dX11_hope_42 : decode cX11_hope 42 = .ok (.iload_n 1, 1) := by decide +kernel
theorem dX11_hope_43 : decode cX11_hope 43 = .ok (.imul, 1) := by decide +kernel
theorem dX11_hope_44 : decode cX11_hope 44 = .ok (.iadd, 1) := by decide +kernel
theorem dX11_hope_45 : decode cX11_hope 45 = .ok (.iconst 3, 1) := by decide +kernel
theorem dX11_hope_46 : decode cX11_hope 46 = .ok (.iadd, 1) := by decide +kernel
theorem dX11_hope_47 : decode cX11_hope 47 = .ok (.iload_n 2, 1) := by decide +kernel
theorem dX11_hope_48 : decode cX11_hope 48 = .ok (.iastore, 1) := by decide +kernel
theorem dX11_hope_49 : decode cX11_hope 49 = .ok (.iload_n 3, 1) := by decide +kernel
theorem dX11_hope_50 : decode cX11_hope 50 = .ok (.ireturn, 1) := by decide +kernel
theorem dX11_type_0 : decode cX11_type 0 = .ok (.aload_n 0, 1) := by decide +kernel
theorem dX11_type_1 : decode cX11_type 1 = .ok (.iconst 0, 1) := by decide +kernel
theorem dX11_type_2 : decode cX11_type 2 = .ok (.putfield 48, 3) := by decide +kernel
theorem dX11_type_5 : decode cX11_type 5 = .ok (.iload_n 1, 1) := by decide +kernel
theorem dX11_type_6 : decode cX11_type 6 = .ok (.i2l, 1) := by decide +kernel
theorem dX11_type_7 : decode cX11_type 7 = .ok (.ldc2_w 115, 3) := by decide +kernel
theorem dX11_type_10 : decode cX11_type 10 = .ok (.ldc2_w 117, 3) := by decide +kernel
theorem dX11_type_13 : decode cX11_type 13 = .ok (.invokestatic 52, 3) := by decide +kernel
theorem dX11_type_16 : decode cX11_type 16 = .ok (.ifCond .ne 5, 3) := by decide +kernel
theorem dX11_type_19 : decode cX11_type 19 = .ok (.iconst (-1), 1) := by decide +kernel
theorem dX11_type_20 : decode cX11_type 20 = .ok (.ireturn, 1) := by decide +kernel
theorem dX11_type_21 : decode cX11_type 21 = .ok (.aload_n 0, 1) := by decide +kernel
theorem dX11_type_22 : decode cX11_type 22 = .ok (.getfield 119, 3) := by decide +kernel
theorem dX11_type_25 : decode cX11_type 25 = .ok (.bipush 60, 2) := by decide +kernel
theorem dX11_type_27 : decode cX11_type 27 = .ok (.if_icmp .ne 6, 3) := by decide +kernel
theorem dX11_type_30 : decode cX11_type 30 = .ok (.bipush (-3), 2) := by decide +kernel
theorem dX11_type_32 : decode cX11_type 32 = .ok (.ireturn, 1) := by decide +kernel
theorem dX11_type_33 : decode cX11_type 33 = .ok (.aload_n 0, 1) := by decide +kernel
theorem dX11_type_34 : decode cX11_type 34 = .ok (.getfield 28, 3) := by decide +kernel
theorem dX11_type_37 : decode cX11_type 37 = .ok (.aload_n 0, 1) := by decide +kernel
theorem dX11_type_38 : decode cX11_type 38 = .ok (.getfield 119, 3) := by decide +kernel
theorem dX11_type_41 : decode cX11_type 41 = .ok (.iload_n 1, 1) := by decide +kernel
theorem dX11_type_42 : decode cX11_type 42 = .ok (.iastore, 1) := by decide +kernel
theorem dX11_type_43 : decode cX11_type 43 = .ok (.aload_n 0, 1) := by decide +kernel
theorem dX11_type_44 : decode cX11_type 44 = .ok (.dup, 1) := by decide +kernel
theorem dX11_type_45 : decode cX11_type 45 = .ok (.getfield 119, 3) := by decide +kernel
theorem dX11_type_48 : decode cX11_type 48 = .ok (.iconst 1, 1) := by decide +kernel
theorem dX11_type_49 : decode cX11_type 49 = .ok (.iadd, 1) := by decide +kernel
theorem dX11_type_50 : decode cX11_type 50 = .ok (.putfield 119, 3) := by decide +kernel
theorem dX11_type_53 : decode cX11_type 53 = .ok (.aload_n 0, 1) := by decide +kernel
theorem dX11_type_54 : decode cX11_type 54 = .ok (.getfield 119, 3) := by decide +kernel
theorem dX11_type_57 : decode cX11_type 57 = .ok (.ireturn, 1) := by decide +kernel
theorem dX11_blanks_0 : decode cX11_blanks 0 = .ok (.aload_n 0, 1) := by decide +kernel
theorem dX11_blanks_1 : decode cX11_blanks 1 = .ok (.getfield 122, 3) := by decide +kernel
theorem dX11_blanks_4 : decode cX11_blanks 4 = .ok (.aload_n 0, 1) := by decide +kernel
theorem dX11_blanks_5 : decode cX11_blanks 5 = .ok (.getfield 119, 3) := by decide +kernel
theorem dX11_blanks_8 : decode cX11_blanks 8 = .ok (.if_icmp .ge 30, 3) := by decide +kernel
theorem dX11_blanks_11 : decode cX11_blanks 11 = .ok (.aload_n 0, 1) := by decide +kernel
theorem dX11_blanks_12 : decode cX11_blanks 12 = .ok (.getfield 28, 3) := by decide +kernel
theorem dX11_blanks_15 : decode cX11_blanks 15 = .ok (.aload_n 0, 1) := by decide +kernel
theorem dX11_blanks_16 : decode cX11_blanks 16 = .ok (.getfield 122, 3) := by decide +kernel
theorem dX11_blanks_19 : decode cX11_blanks 19 = .ok (.iaload, 1) := by decide +kernel
theorem dX11_blanks_20 : decode cX11_blanks 20 = .ok (.bipush 32, 2) := by decide +kernel
theorem dX11_blanks_22 : decode cX11_blanks 22 = .ok (.if_icmp .ne 16, 3) := by decide +kernel
theorem dX11_blanks_25 : decode cX11_blanks 25 = .ok (.aload_n 0, 1) := by decide +kernel
theorem dX11_blanks_26 : decode cX11_blanks 26 = .ok (.dup, 1) := by decide +kernel
theorem dX11_blanks_27 : decode cX11_blanks 27 = .ok (.getfield 122, 3) := by decide +kernel
theorem dX11_blanks_30 : decode cX11_blanks 30 = .ok (.iconst 1, 1) := by decide +kernel
theorem dX11_blanks_31 : decode cX11_blanks 31 = .ok (.iadd, 1) := by decide +kernel
theorem dX11_blanks_32 : decode cX11_blanks 32 = .ok (.putfield 122, 3) := by decide +kernel
theorem dX11_blanks_35 : decode cX11_blanks 35 = .ok (.goto (-35), 3) := by decide +kernel
theorem dX11_blanks_38 : decode cX11_blanks 38 = .ok (.return_, 1) := by decide +kernel
theorem dX11_bad_0 : decode cX11_bad 0 = .ok (.aload_n 0, 1) := by decide +kernel
theorem dX11_bad_1 : decode cX11_bad 1 = .ok (.aload_n 0, 1) := by decide +kernel
theorem dX11_bad_2 : decode cX11_bad 2 = .ok (.getfield 125, 3) := by decide +kernel
theorem dX11_bad_5 : decode cX11_bad 5 = .ok (.ifCond .eq 10, 3) := by decide +kernel
theorem dX11_bad_8 : decode cX11_bad 8 = .ok (.aload_n 0, 1) := by decide +kernel
theorem dX11_bad_9 : decode cX11_bad 9 = .ok (.getfield 129, 3) := by decide +kernel
theorem dX11_bad_12 : decode cX11_bad 12 = .ok (.goto 4, 3) := by decide +kernel
theorem dX11_bad_15 : decode cX11_bad 15 = .ok (.iload_n 1, 1) := by decide +kernel
theorem dX11_bad_16 : decode cX11_bad 16 = .ok (.putfield 129, 3) := by decide +kernel
theorem dX11_bad_19 : decode cX11_bad 19 = .ok (.aload_n 0, 1) := by decide +kernel
theorem dX11_bad_20 : decode cX11_bad 20 = .ok (.iconst 1, 1) := by decide +kernel
theorem dX11_bad_21 : decode cX11_bad 21 = .ok (.putfield 125, 3) := by decide +kernel
theorem dX11_bad_24 : decode cX11_bad 24 = .ok (.return_, 1) := by decide +kernel
theorem dX11_isNext_0 : decode cX11_isNext 0 = .ok (.aload_n 0, 1) := by decide +kernel
theorem dX11_isNext_1 : decode cX11_isNext 1 = .ok (.invokevirtual 132, 3) := by decide +kernel
theorem dX11_isNext_4 : decode cX11_isNext 4 = .ok (.aload_n 0, 1) := by decide +kernel
theorem dX11_isNext_5 : decode cX11_isNext 5 = .ok (.getfield 125, 3) := by decide +kernel
theorem dX11_isNext_8 : decode cX11_isNext 8 = .ok (.ifCond .ne 31, 3) := by decide +kernel
theorem dX11_isNext_11 : decode cX11_isNext 11 = .ok (.aload_n 0, 1) := by decide +kernel
theorem dX11_isNext_12 : decode cX11_isNext 12 = .ok (.getfield 122, 3) := by decide +kernel
theorem dX11_isNext_15 : decode cX11_isNext 15 = .ok (.aload_n 0, 1) := by decide +kernel
theorem dX11_isNext_16 : decode cX11_isNext 16 = .ok (.getfield 119, 3) := by decide +kernel
theorem dX11_isNext_19 : decode cX11_isNext 19 = .ok (.if_icmp .ge 20, 3) := by decide +kernel
theorem dX11_isNext_22 : decode cX11_isNext 22 = .ok (.aload_n 0, 1) := by decide +kernel
theorem dX11_isNext_23 : decode cX11_isNext 23 = .ok (.getfield 28, 3) := by decide +kernel
theorem dX11_isNext_26 : decode cX11_isNext 26 = .ok (.aload_n 0, 1) := by decide +kernel
theorem dX11_isNext_27 : decode cX11_isNext 27 = .ok (.getfield 122, 3) := by decide +kernel
theorem dX11_isNext_30 : decode cX11_isNext 30 = .ok (.iaload, 1) := by decide +kernel
theorem dX11_isNext_31 : decode cX11_isNext 31 = .ok (.iload_n 1, 1) := by decide +kernel
theorem dX11_isNext_32 : decode cX11_isNext 32 = .ok (.if_icmp .ne 7, 3) := by decide +kernel
theorem dX11_isNext_35 : decode cX11_isNext 35 = .ok (.iconst 1, 1) := by decide +kernel
theorem dX11_isNext_36 : decode cX11_isNext 36 = .ok (.goto 4, 3) := by decide +kernel
theorem dX11_isNext_39 : decode cX11_isNext 39 = .ok (.iconst 0, 1) := by decide +kernel
theorem dX11_isNext_40 : decode cX11_isNext 40 = .ok (.ireturn, 1) := by decide +kernel
theorem dX11_must_0 : decode cX11_must 0 = .ok (.aload_n 0, 1) := by decide +kernel
theorem dX11_must_1 : decode cX11_must 1 = .ok (.iload_n 1, 1) := by decide +kernel
theorem dX11_must_2 : decode cX11_must 2 = .ok (.invokevirtual 135, 3) := by decide +kernel
theorem dX11_must_5 : decode cX11_must 5 = .ok (.ifCond .ne 11, 3) := by decide +kernel
theorem dX11_must_8 : decode cX11_must 8 = .ok (.aload_n 0, 1) := by decide +kernel
theorem dX11_must_9 : decode cX11_must 9 = .ok (.aload_n 0, 1) := by decide +kernel
theorem dX11_must_10 : decode cX11_must 10 = .ok (.getfield 122, 3) := by decide +kernel
theorem dX11_must_13 : decode cX11_must 13 = .ok (.invokevirtual 138, 3) := by decide +kernel
theorem dX11_must_16 : decode cX11_must 16 = .ok (.aload_n 0, 1) := by decide +kernel
theorem dX11_must_17 : decode cX11_must 17 = .ok (.dup, 1) := by decide +kernel
theorem dX11_must_18 : decode cX11_must 18 = .ok (.getfield 122, 3) := by decide +kernel
theorem dX11_must_21 : decode cX11_must 21 = .ok (.iconst 1, 1) := by decide +kernel
theorem dX11_must_22 : decode cX11_must 22 = .ok (.iadd, 1) := by decide +kernel
theorem dX11_must_23 : decode cX11_must 23 = .ok (.putfield 122, 3) := by decide +kernel
theorem dX11_must_26 : decode cX11_must 26 = .ok (.return_, 1) := by decide +kernel
theorem dX11_digit_0 : decode cX11_digit 0 = .ok (.aload_n 0, 1) := by decide +kernel
theorem dX11_digit_1 : decode cX11_digit 1 = .ok (.invokevirtual 132, 3) := by decide +kernel
theorem dX11_digit_4 : decode cX11_digit 4 = .ok (.aload_n 0, 1) := by decide +kernel
theorem dX11_digit_5 : decode cX11_digit 5 = .ok (.getfield 122, 3) := by decide +kernel
theorem dX11_digit_8 : decode cX11_digit 8 = .ok (.aload_n 0, 1) := by decide +kernel
theorem dX11_digit_9 : decode cX11_digit 9 = .ok (.getfield 119, 3) := by decide +kernel
theorem dX11_digit_12 : decode cX11_digit 12 = .ok (.if_icmp .ge 31, 3) := by decide +kernel
theorem dX11_digit_15 : decode cX11_digit 15 = .ok (.aload_n 0, 1) := by decide +kernel
theorem dX11_digit_16 : decode cX11_digit 16 = .ok (.getfield 28, 3) := by decide +kernel
theorem dX11_digit_19 : decode cX11_digit 19 = .ok (.aload_n 0, 1) := by decide +kernel
theorem dX11_digit_20 : decode cX11_digit 20 = .ok (.getfield 122, 3) := by decide +kernel
theorem dX11_digit_23 : decode cX11_digit 23 = .ok (.iaload, 1) := by decide +kernel
theorem dX11_digit_24 : decode cX11_digit 24 = .ok (.i2l, 1) := by decide +kernel
theorem dX11_digit_25 : decode cX11_digit 25 = .ok (.bipush 48, 2) := by decide +kernel
theorem dX11_digit_27 : decode cX11_digit 27 = .ok (.iload_n 1, 1) := by decide +kernel
theorem dX11_digit_28 : decode cX11_digit 28 = .ok (.iadd, 1) := by decide +kernel
theorem dX11_digit_29 : decode cX11_digit 29 = .ok (.i2l, 1) := by decide +kernel
theorem dX11_digit_30 : decode cX11_digit 30 = .ok (.ldc2_w 142, 3) := by decide +kernel
theorem dX11_digit_33 : decode cX11_digit 33 = .ok (.invokestatic 52, 3) := by decide +kernel
theorem dX11_digit_36 : decode cX11_digit 36 = .ok (.ifCond .eq 7, 3) := by decide +kernel
theorem dX11_digit_39 : decode cX11_digit 39 = .ok (.iconst 1, 1) := by decide +kernel
theorem dX11_digit_40 : decode cX11_digit 40 = .ok (.goto 4, 3) := by decide +kernel
theorem dX11_digit_43 : decode cX11_digit 43 = .ok (.iconst 0, 1) := by decide +kernel
theorem dX11_digit_44 : decode cX11_digit 44 = .ok (.istore_n 2, 1) := by decide +kernel
theorem dX11_digit_45 : decode cX11_digit 45 = .ok (.iload_n 2, 1) := by decide +kernel
theorem dX11_digit_46 : decode cX11_digit 46 = .ok (.ifCond .ne 11, 3) := by decide +kernel
theorem dX11_digit_49 : decode cX11_digit 49 = .ok (.aload_n 0, 1) := by decide +kernel
theorem dX11_digit_50 : decode cX11_digit 50 = .ok (.aload_n 0, 1) := by decide +kernel
theorem dX11_digit_51 : decode cX11_digit 51 = .ok (.getfield 122, 3) := by decide +kernel
theorem dX11_digit_54 : decode cX11_digit 54 = .ok (.invokevirtual 138, 3) := by decide +kernel
theorem dX11_digit_57 : decode cX11_digit 57 = .ok (.iload_n 2, 1) := by decide +kernel
theorem dX11_digit_58 : decode cX11_digit 58 = .ok (.ifCond .eq 18, 3) := by decide +kernel
theorem dX11_digit_61 : decode cX11_digit 61 = .ok (.aload_n 0, 1) := by decide +kernel
theorem dX11_digit_62 : decode cX11_digit 62 = .ok (.getfield 28, 3) := by decide +kernel
theorem dX11_digit_65 : decode cX11_digit 65 = .ok (.aload_n 0, 1) := by decide +kernel
theorem dX11_digit_66 : decode cX11_digit 66 = .ok (.getfield 122, 3) := by decide +kernel
theorem dX11_digit_69 : decode cX11_digit 69 = .ok (.iaload, 1) := by decide +kernel
theorem dX11_digit_70 : decode cX11_digit 70 = .ok (.bipush 48, 2) := by decide +kernel
theorem dX11_digit_72 : decode cX11_digit 72 = .ok (.isub, 1) := by decide +kernel
theorem dX11_digit_73 : decode cX11_digit 73 = .ok (.goto 4, 3) := by decide +kernel
theorem dX11_digit_76 : decode cX11_digit 76 = .ok (.iconst 0, 1) := by decide +kernel
theorem dX11_digit_77 : decode cX11_digit 77 = .ok (.istore_n 3, 1) := by decide +kernel
theorem dX11_digit_78 : decode cX11_digit 78 = .ok (.aload_n 0, 1) := by decide +kernel
theorem dX11_digit_79 : decode cX11_digit 79 = .ok (.dup, 1) := by decide +kernel
theorem dX11_digit_80 : decode cX11_digit 80 = .ok (.getfield 122, 3) := by decide +kernel
theorem dX11_digit_83 : decode cX11_digit 83 = .ok (.iconst 1, 1) := by decide +kernel
theorem dX11_digit_84 : decode cX11_digit 84 = .ok (.iadd, 1) := by decide +kernel
theorem dX11_digit_85 : decode cX11_digit 85 = .ok (.putfield 122, 3) := by decide +kernel
theorem dX11_digit_88 : decode cX11_digit 88 = .ok (.iload_n 3, 1) := by decide +kernel
theorem dX11_digit_89 : decode cX11_digit 89 = .ok (.ireturn, 1) := by decide +kernel
theorem dX11_number_0 : decode cX11_number 0 = .ok (.aload_n 0, 1) := by decide +kernel
theorem dX11_number_1 : decode cX11_number 1 = .ok (.invokevirtual 132, 3) := by decide +kernel
theorem dX11_number_4 : decode cX11_number 4 = .ok (.aload_n 0, 1) := by decide +kernel
theorem dX11_number_5 : decode cX11_number 5 = .ok (.getfield 122, 3) := by decide +kernel
theorem dX11_number_8 : decode cX11_number 8 = .ok (.istore_n 2, 1) := by decide +kernel
theorem dX11_number_9 : decode cX11_number 9 = .ok (.iconst 0, 1) := by decide +kernel
theorem dX11_number_10 : decode cX11_number 10 = .ok (.istore_n 3, 1) := by decide +kernel
theorem dX11_number_11 : decode cX11_number 11 = .ok (.aload_n 0, 1) := by decide +kernel
theorem dX11_number_12 : decode cX11_number 12 = .ok (.getfield 122, 3) := by decide +kernel
theorem dX11_number_15 : decode cX11_number 15 = .ok (.aload_n 0, 1) := by decide +kernel
theorem dX11_number_16 : decode cX11_number 16 = .ok (.getfield 119, 3) := by decide +kernel
theorem dX11_number_19 : decode cX11_number 19 = .ok (.if_icmp .ge 66, 3) := by decide +kernel
theorem dX11_number_22 : decode cX11_number 22 = .ok (.aload_n 0, 1) := by decide +kernel
theorem dX11_number_23 : decode cX11_number 23 = .ok (.getfield 122, 3) := by decide +kernel
theorem dX11_number_26 : decode cX11_number 26 = .ok (.iload_n 2, 1) := by decide +kernel
theorem dX11_number_27 : decode cX11_number 27 = .ok (.isub, 1) := by decide +kernel
theorem dX11_number_28 : decode cX11_number 28 = .ok (.iconst 4, 1) := by decide +kernel
theorem dX11_number_29 : decode cX11_number 29 = .ok (.if_icmp .ge 56, 3) := by decide +kernel
theorem dX11_number_32 : decode cX11_number 32 = .ok (.aload_n 0, 1) := by decide +kernel
theorem dX11_number_33 : decode cX11_number 33 = .ok (.getfield 28, 3) := by decide +kernel
theorem dX11_number_36 : decode cX11_number 36 = .ok (.aload_n 0, 1) := by decide +kernel
theorem dX11_number_37 : decode cX11_number 37 = .ok (.getfield 122, 3) := by decide +kernel
theorem dX11_number_40 : decode cX11_number 40 = .ok (.iaload, 1) := by decide +kernel
theorem dX11_number_41 : decode cX11_number 41 = .ok (.i2l, 1) := by decide +kernel
theorem dX11_number_42 : decode cX11_number 42 = .ok (.ldc2_w 144, 3) := by decide +kernel
theorem dX11_number_45 : decode cX11_number 45 = .ok (.ldc2_w 142, 3) := by decide +kernel
theorem dX11_number_48 : decode cX11_number 48 = .ok (.invokestatic 52, 3) := by decide +kernel
theorem dX11_number_51 : decode cX11_number 51 = .ok (.ifCond .eq 34, 3) := by decide +kernel
theorem dX11_number_54 : decode cX11_number 54 = .ok (.bipush 10, 2) := by decide +kernel
theorem dX11_number_56 : decode cX11_number 56 = .ok (.iload_n 3, 1) := by decide +kernel
theorem dX11_number_57 : decode cX11_number 57 = .ok (.imul, 1) := by decide +kernel
theorem dX11_number_58 : decode cX11_number 58 = .ok (.aload_n 0, 1) := by decide +kernel
theorem dX11_number_59 : decode cX11_number 59 = .ok (.getfield 28, 3) := by decide +kernel
theorem dX11_number_62 : decode cX11_number 62 = .ok (.aload_n 0, 1) := by decide +kernel
theorem dX11_number_63 : decode cX11_number 63 = .ok (.getfield 122, 3) := by decide +kernel
theorem dX11_number_66 : decode cX11_number 66 = .ok (.iaload, 1) := by decide +kernel
theorem dX11_number_67 : decode cX11_number 67 = .ok (.iadd, 1) := by decide +kernel
theorem dX11_number_68 : decode cX11_number 68 = .ok (.bipush 48, 2) := by decide +kernel
theorem dX11_number_70 : decode cX11_number 70 = .ok (.isub, 1) := by decide +kernel
theorem dX11_number_71 : decode cX11_number 71 = .ok (.istore_n 3, 1) := by decide +kernel
theorem dX11_number_72 : decode cX11_number 72 = .ok (.aload_n 0, 1) := by decide +kernel
theorem dX11_number_73 : decode cX11_number 73 = .ok (.dup, 1) := by decide +kernel
theorem dX11_number_74 : decode cX11_number 74 = .ok (.getfield 122, 3) := by decide +kernel
theorem dX11_number_77 : decode cX11_number 77 = .ok (.iconst 1, 1) := by decide +kernel
theorem dX11_number_78 : decode cX11_number 78 = .ok (.iadd, 1) := by decide +kernel
theorem dX11_number_79 : decode cX11_number 79 = .ok (.putfield 122, 3) := by decide +kernel
theorem dX11_number_82 : decode cX11_number 82 = .ok (.goto (-71), 3) := by decide +kernel
theorem dX11_number_85 : decode cX11_number 85 = .ok (.aload_n 0, 1) := by decide +kernel
theorem dX11_number_86 : decode cX11_number 86 = .ok (.getfield 122, 3) := by decide +kernel
theorem dX11_number_89 : decode cX11_number 89 = .ok (.iload_n 2, 1) := by decide +kernel
theorem dX11_number_90 : decode cX11_number 90 = .ok (.if_icmp .eq 14, 3) := by decide +kernel
theorem dX11_number_93 : decode cX11_number 93 = .ok (.iload_n 3, 1) := by decide +kernel
theorem dX11_number_94 : decode cX11_number 94 = .ok (.i2l, 1) := by decide +kernel
theorem dX11_number_95 : decode cX11_number 95 = .ok (.lconst 1, 1) := by decide +kernel
theorem dX11_number_96 : decode cX11_number 96 = .ok (.iload_n 1, 1) := by decide +kernel
theorem dX11_number_97 : decode cX11_number 97 = .ok (.i2l, 1) := by decide +kernel
theorem dX11_number_98 : decode cX11_number 98 = .ok (.invokestatic 52, 3) := by decide +kernel
theorem dX11_number_101 : decode cX11_number 101 = .ok (.ifCond .ne 8, 3) := by decide +kernel
theorem dX11_number_104 : decode cX11_number 104 = .ok (.aload_n 0, 1) := by decide +kernel
theorem dX11_number_105 : decode cX11_number 105 = .ok (.iload_n 2, 1) := by decide +kernel
theorem dX11_number_106 : decode cX11_number 106 = .ok (.invokevirtual 138, 3) := by decide +kernel
theorem dX11_number_109 : decode cX11_number 109 = .ok (.iload_n 3, 1) := by decide +kernel
theorem dX11_number_110 : decode cX11_number 110 = .ok (.ireturn, 1) := by decide +kernel
theorem dX11_kindBy_0 : decode cX11_kindBy 0 = .ok (.aload_n 0, 1) := by decide +kernel
theorem dX11_kindBy_1 : decode cX11_kindBy 1 = .ok (.invokevirtual 132, 3) := by decide +kernel
theorem dX11_kindBy_4 : decode cX11_kindBy 4 = .ok (.aload_n 0, 1) := by decide +kernel
theorem dX11_kindBy_5 : decode cX11_kindBy 5 = .ok (.getfield 122, 3) := by decide +kernel
theorem dX11_kindBy_8 : decode cX11_kindBy 8 = .ok (.aload_n 0, 1) := by decide +kernel
theorem dX11_kindBy_9 : decode cX11_kindBy 9 = .ok (.getfield 119, 3) := by decide +kernel
theorem dX11_kindBy_12 : decode cX11_kindBy 12 = .ok (.if_icmp .ge 15, 3) := by decide +kernel
theorem dX11_kindBy_15 : decode cX11_kindBy 15 = .ok (.aload_n 0, 1) := by decide +kernel
theorem dX11_kindBy_16 : decode cX11_kindBy 16 = .ok (.getfield 28, 3) := by decide +kernel
theorem dX11_kindBy_19 : decode cX11_kindBy 19 = .ok (.aload_n 0, 1) := by decide +kernel
theorem dX11_kindBy_20 : decode cX11_kindBy 20 = .ok (.getfield 122, 3) := by decide +kernel
theorem dX11_kindBy_23 : decode cX11_kindBy 23 = .ok (.iaload, 1) := by decide +kernel
theorem dX11_kindBy_24 : decode cX11_kindBy 24 = .ok (.goto 4, 3) := by decide +kernel
theorem dX11_kindBy_27 : decode cX11_kindBy 27 = .ok (.iconst 0, 1) := by decide +kernel
theorem dX11_kindBy_28 : decode cX11_kindBy 28 = .ok (.istore_n 1, 1) := by decide +kernel
theorem dX11_kindBy_29 : decode cX11_kindBy 29 = .ok (.iload_n 1, 1) := by decide +kernel
theorem dX11_kindBy_30 : decode cX11_kindBy 30 = .ok (.bipush 112, 2) := by decide +kernel
theorem dX11_kindBy_32 : decode cX11_kindBy 32 = .ok (.if_icmp .ne 7, 3) := by decide +kernel
theorem dX11_kindBy_35 : decode cX11_kindBy 35 = .ok (.iconst 0, 1) := by decide +kernel
theorem dX11_kindBy_36 : decode cX11_kindBy 36 = .ok (.goto 55, 3) := by decide +kernel
theorem dX11_kindBy_39 : decode cX11_kindBy 39 = .ok (.iload_n 1, 1) := by decide +kernel
theorem dX11_kindBy_40 : decode cX11_kindBy 40 = .ok (.bipush 98, 2) := by decide +kernel
theorem dX11_kindBy_42 : decode cX11_kindBy 42 = .ok (.if_icmp .ne 7, 3) := by decide +kernel
theorem dX11_kindBy_45 : decode cX11_kindBy 45 = .ok (.iconst 1, 1) := by decide +kernel
theorem dX11_kindBy_46 : decode cX11_kindBy 46 = .ok (.goto 45, 3) := by decide +kernel
theorem dX11_kindBy_49 : decode cX11_kindBy 49 = .ok (.iload_n 1, 1) := by decide +kernel
theorem dX11_kindBy_50 : decode cX11_kindBy 50 = .ok (.bipush 103, 2) := by decide +kernel
theorem dX11_kindBy_52 : decode cX11_kindBy 52 = .ok (.if_icmp .ne 7, 3) := by decide +kernel
theorem dX11_kindBy_55 : decode cX11_kindBy 55 = .ok (.iconst 2, 1) := by decide +kernel
theorem dX11_kindBy_56 : decode cX11_kindBy 56 = .ok (.goto 35, 3) := by decide +kernel
theorem dX11_kindBy_59 : decode cX11_kindBy 59 = .ok (.iload_n 1, 1) := by decide +kernel
theorem dX11_kindBy_60 : decode cX11_kindBy 60 = .ok (.bipush 104, 2) := by decide +kernel
theorem dX11_kindBy_62 : decode cX11_kindBy 62 = .ok (.if_icmp .ne 7, 3) := by decide +kernel
theorem dX11_kindBy_65 : decode cX11_kindBy 65 = .ok (.iconst 3, 1) := by decide +kernel
theorem dX11_kindBy_66 : decode cX11_kindBy 66 = .ok (.goto 25, 3) := by decide +kernel
theorem dX11_kindBy_69 : decode cX11_kindBy 69 = .ok (.iload_n 1, 1) := by decide +kernel
theorem dX11_kindBy_70 : decode cX11_kindBy 70 = .ok (.bipush 115, 2) := by decide +kernel
theorem dX11_kindBy_72 : decode cX11_kindBy 72 = .ok (.if_icmp .ne 7, 3) := by decide +kernel
theorem dX11_kindBy_75 : decode cX11_kindBy 75 = .ok (.iconst 4, 1) := by decide +kernel
theorem dX11_kindBy_76 : decode cX11_kindBy 76 = .ok (.goto 15, 3) := by decide +kernel
theorem dX11_kindBy_79 : decode cX11_kindBy 79 = .ok (.iload_n 1, 1) := by decide +kernel
theorem dX11_kindBy_80 : decode cX11_kindBy 80 = .ok (.bipush 99, 2) := by decide +kernel
theorem dX11_kindBy_82 : decode cX11_kindBy 82 = .ok (.if_icmp .ne 7, 3) := by decide +kernel
theorem dX11_kindBy_85 : decode cX11_kindBy 85 = .ok (.iconst 5, 1) := by decide +kernel
theorem dX11_kindBy_86 : decode cX11_kindBy 86 = .ok (.goto 5, 3) := by decide +kernel
theorem dX11_kindBy_89 : decode cX11_kindBy 89 = .ok (.bipush (-4), 2) := by decide +kernel
theorem dX11_kindBy_91 : decode cX11_kindBy 91 = .ok (.ireturn, 1) := by decide +kernel
theorem dX11_readPerson_0 : decode cX11_readPerson 0 = .ok (.aload_n 0, 1) := by decide +kernel
theorem dX11_readPerson_1 : decode cX11_readPerson 1 = .ok (.invokevirtual 146, 3) := by decide +kernel
theorem dX11_readPerson_4 : decode cX11_readPerson 4 = .ok (.istore_n 1, 1) := by decide +kernel
theorem dX11_readPerson_5 : decode cX11_readPerson 5 = .ok (.iload_n 1, 1) := by decide +kernel
theorem dX11_readPerson_6 : decode cX11_readPerson 6 = .ok (.bipush (-4), 2) := by decide +kernel
theorem dX11_readPerson_8 : decode cX11_readPerson 8 = .ok (.if_icmp .ne 11, 3) := by decide +kernel
theorem dX11_readPerson_11 : decode cX11_readPerson 11 = .ok (.aload_n 0, 1) := by decide +kernel
theorem dX11_readPerson_12 : decode cX11_readPerson 12 = .ok (.aload_n 0, 1) := by decide +kernel
theorem dX11_readPerson_13 : decode cX11_readPerson 13 = .ok (.getfield 122, 3) := by decide +kernel
theorem dX11_readPerson_16 : decode cX11_readPerson 16 = .ok (.invokevirtual 138, 3) := by decide +kernel
theorem dX11_readPerson_19 : decode cX11_readPerson 19 = .ok (.aload_n 0, 1) := by decide +kernel
theorem dX11_readPerson_20 : decode cX11_readPerson 20 = .ok (.dup, 1) := by decide +kernel
theorem dX11_readPerson_21 : decode cX11_readPerson 21 = .ok (.getfield 122, 3) := by decide +kernel
theorem dX11_readPerson_24 : decode cX11_readPerson 24 = .ok (.iconst 1, 1) := by decide +kernel
theorem dX11_readPerson_25 : decode cX11_readPerson 25 = .ok (.iadd, 1) := by decide +kernel
theorem dX11_readPerson_26 : decode cX11_readPerson 26 = .ok (.putfield 122, 3) := by decide +kernel
theorem dX11_readPerson_29 : decode cX11_readPerson 29 = .ok (.aload_n 0, 1) := by decide +kernel
theorem dX11_readPerson_30 : decode cX11_readPerson 30 = .ok (.iconst 1, 1) := by decide +kernel
theorem dX11_readPerson_31 : decode cX11_readPerson 31 = .ok (.invokevirtual 150, 3) := by decide +kernel
theorem dX11_readPerson_34 : decode cX11_readPerson 34 = .ok (.istore_n 2, 1) := by decide +kernel
theorem dX11_readPerson_35 : decode cX11_readPerson 35 = .ok (.aload_n 0, 1) := by decide +kernel
theorem dX11_readPerson_36 : decode cX11_readPerson 36 = .ok (.iconst 0, 1) := by decide +kernel
theorem dX11_readPerson_37 : decode cX11_readPerson 37 = .ok (.invokevirtual 150, 3) := by decide +kernel
theorem dX11_readPerson_40 : decode cX11_readPerson 40 = .ok (.istore_n 3, 1) := by decide +kernel
theorem dX11_readPerson_41 : decode cX11_readPerson 41 = .ok (.bipush 10, 2) := by decide +kernel
theorem dX11_readPerson_43 : decode cX11_readPerson 43 = .ok (.iload_n 3, 1) := by decide +kernel
theorem dX11_readPerson_44 : decode cX11_readPerson 44 = .ok (.imul, 1) := by decide +kernel
theorem dX11_readPerson_45 : decode cX11_readPerson 45 = .ok (.aload_n 0, 1) := by decide +kernel
theorem dX11_readPerson_46 : decode cX11_readPerson 46 = .ok (.iconst 0, 1) := by decide +kernel
theorem dX11_readPerson_47 : decode cX11_readPerson 47 = .ok (.invokevirtual 150, 3) := by decide +kernel
theorem dX11_readPerson_50 : decode cX11_readPerson 50 = .ok (.iadd, 1) := by decide +kernel
theorem dX11_readPerson_51 : decode cX11_readPerson 51 = .ok (.istore 4, 2) := by decide +kernel
theorem dX11_readPerson_53 : decode cX11_readPerson 53 = .ok (.aload_n 0, 1) := by decide +kernel
theorem dX11_readPerson_54 : decode cX11_readPerson 54 = .ok (.bipush 120, 2) := by decide +kernel
theorem dX11_readPerson_56 : decode cX11_readPerson 56 = .ok (.invokevirtual 135, 3) := by decide +kernel
theorem dX11_readPerson_59 : decode cX11_readPerson 59 = .ok (.istore 5, 2) := by decide +kernel
theorem dX11_readPerson_61 : decode cX11_readPerson 61 = .ok (.iload 5, 2) := by decide +kernel
theorem dX11_readPerson_63 : decode cX11_readPerson 63 = .ok (.ifCond .eq 13, 3) := by decide +kernel
theorem dX11_readPerson_66 : decode cX11_readPerson 66 = .ok (.aload_n 0, 1) := by decide +kernel
theorem dX11_readPerson_67 : decode cX11_readPerson 67 = .ok (.dup, 1) := by decide +kernel
theorem dX11_readPerson_68 : decode cX11_readPerson 68 = .ok (.getfield 122, 3) := by decide +kernel
theorem dX11_readPerson_71 : decode cX11_readPerson 71 = .ok (.iconst 1, 1) := by decide +kernel
theorem dX11_readPerson_72 : decode cX11_readPerson 72 = .ok (.iadd, 1) := by decide +kernel
theorem dX11_readPerson_73 : decode cX11_readPerson 73 = .ok (.putfield 122, 3) := by decide +kernel
theorem dX11_readPerson_76 : decode cX11_readPerson 76 = .ok (.bipush 7, 2) := by decide +kernel
theorem dX11_readPerson_78 : decode cX11_readPerson 78 = .ok (.iconst 4, 1) := by decide +kernel
theorem dX11_readPerson_79 : decode cX11_readPerson 79 = .ok (.aload_n 0, 1) := by decide +kernel
theorem dX11_readPerson_80 : decode cX11_readPerson 80 = .ok (.getfield 16, 3) := by decide +kernel
theorem dX11_readPerson_83 : decode cX11_readPerson 83 = .ok (.bipush 6, 2) := by decide +kernel
theorem dX11_readPerson_85 : decode cX11_readPerson 85 = .ok (.iaload, 1) := by decide +kernel
theorem dX11_readPerson_86 : decode cX11_readPerson 86 = .ok (.imul, 1) := by decide +kernel
theorem dX11_readPerson_87 : decode cX11_readPerson 87 = .ok (.iadd, 1) := by decide +kernel
theorem dX11_readPerson_88 : decode cX11_readPerson 88 = .ok (.istore 6, 2) := by decide +kernel
theorem dX11_readPerson_90 : decode cX11_readPerson 90 = .ok (.aload_n 0, 1) := by decide +kernel
theorem dX11_readPerson_91 : decode cX11_readPerson 91 = .ok (.getfield 16, 3) := by decide +kernel
theorem dX11_readPerson_94 : decode cX11_readPerson 94 = .ok (.iload 6, 2) := by decide +kernel
theorem dX11_readPerson_96 : decode cX11_readPerson 96 = .ok (.iload_n 1, 1) := by decide +kernel
theorem dX11_readPerson_97 : decode cX11_readPerson 97 = .ok (.iastore, 1) := by decide +kernel
theorem dX11_readPerson_98 : decode cX11_readPerson 98 = .ok (.aload_n 0, 1) := by decide +kernel
theorem dX11_readPerson_99 : decode cX11_readPerson 99 = .ok (.getfield 16, 3) := by decide +kernel
theorem dX11_readPerson_102 : decode cX11_readPerson 102 = .ok (.iload 6, 2) := by decide +kernel
theorem dX11_readPerson_104 : decode cX11_readPerson 104 = .ok (.iconst 1, 1) := by decide +kernel
theorem dX11_readPerson_105 : decode cX11_readPerson 105 = .ok (.iadd, 1) := by decide +kernel
theorem dX11_readPerson_106 : decode cX11_readPerson 106 = .ok (.iload_n 2, 1) := by decide +kernel
theorem dX11_readPerson_107 : decode cX11_readPerson 107 = .ok (.iastore, 1) := by decide +kernel
theorem dX11_readPerson_108 : decode cX11_readPerson 108 = .ok (.aload_n 0, 1) := by decide +kernel
theorem dX11_readPerson_109 : decode cX11_readPerson 109 = .ok (.getfield 16, 3) := by decide +kernel
theorem dX11_readPerson_112 : decode cX11_readPerson 112 = .ok (.iload 6, 2) := by decide +kernel
theorem dX11_readPerson_114 : decode cX11_readPerson 114 = .ok (.iconst 2, 1) := by decide +kernel
theorem dX11_readPerson_115 : decode cX11_readPerson 115 = .ok (.iadd, 1) := by decide +kernel
theorem dX11_readPerson_116 : decode cX11_readPerson 116 = .ok (.iload 4, 2) := by decide +kernel
theorem dX11_readPerson_118 : decode cX11_readPerson 118 = .ok (.iastore, 1) := by decide +kernel
theorem dX11_readPerson_119 : decode cX11_readPerson 119 = .ok (.aload_n 0, 1) := by decide +kernel
theorem dX11_readPerson_120 : decode cX11_readPerson 120 = .ok (.getfield 16, 3) := by decide +kernel
theorem dX11_readPerson_123 : decode cX11_readPerson 123 = .ok (.iload 6, 2) := by decide +kernel
theorem dX11_readPerson_125 : decode cX11_readPerson 125 = .ok (.iconst 3, 1) := by decide +kernel
theorem dX11_readPerson_126 : decode cX11_readPerson 126 = .ok (.iadd, 1) := by decide +kernel
theorem dX11_readPerson_127 : decode cX11_readPerson 127 = .ok (.iload 5, 2) := by decide +kernel
theorem dX11_readPerson_129 : decode cX11_readPerson 129 = .ok (.ifCond .eq 7, 3) := by decide +kernel
theorem dX11_readPerson_132 : decode cX11_readPerson 132 = .ok (.iconst 0, 1) := by decide +kernel
theorem dX11_readPerson_133 : decode cX11_readPerson 133 = .ok (.goto 4, 3) := by decide +kernel
theorem dX11_readPerson_136 : decode cX11_readPerson 136 = .ok (.iconst 1, 1) := by decide +kernel
theorem dX11_readPerson_137 : decode cX11_readPerson 137 = .ok (.iastore, 1) := by decide +kernel
theorem dX11_readPerson_138 : decode cX11_readPerson 138 = .ok (.aload_n 0, 1) := by decide +kernel
theorem dX11_readPerson_139 : decode cX11_readPerson 139 = .ok (.getfield 16, 3) := by decide +kernel
theorem dX11_readPerson_142 : decode cX11_readPerson 142 = .ok (.bipush 6, 2) := by decide +kernel
theorem dX11_readPerson_144 : decode cX11_readPerson 144 = .ok (.dup2, 1) := by decide +kernel
theorem dX11_readPerson_145 : decode cX11_readPerson 145 = .ok (.iaload, 1) := by decide +kernel
theorem dX11_readPerson_146 : decode cX11_readPerson 146 = .ok (.iconst 1, 1) := by decide +kernel
theorem dX11_readPerson_147 : decode cX11_readPerson 147 = .ok (.iadd, 1) := by decide +kernel
theorem dX11_readPerson_148 : decode cX11_readPerson 148 = .ok (.iastore, 1) := by decide +kernel
theorem dX11_readPerson_149 : decode cX11_readPerson 149 = .ok (.return_, 1) := by decide +kernel
theorem dX11_house_0 : decode cX11_house 0 = .ok (.aload_n 0, 1) := by decide +kernel
theorem dX11_house_1 : decode cX11_house 1 = .ok (.iconst 0, 1) := by decide +kernel
theorem dX11_house_2 : decode cX11_house 2 = .ok (.putfield 48, 3) := by decide +kernel
theorem dX11_house_5 : decode cX11_house 5 = .ok (.iconst 0, 1) := by decide +kernel
theorem dX11_house_6 : decode cX11_house 6 = .ok (.istore_n 1, 1) := by decide +kernel
theorem dX11_house_7 : decode cX11_house 7 = .ok (.iload_n 1, 1) := by decide +kernel
theorem dX11_house_8 : decode cX11_house 8 = .ok (.bipush 31, 2) := by decide +kernel
theorem dX11_house_10 : decode cX11_house 10 = .ok (.if_icmp .ge 16, 3) := by decide +kernel
theorem dX11_house_13 : decode cX11_house 13 = .ok (.aload_n 0, 1) := by decide +kernel
theorem dX11_house_14 : decode cX11_house 14 = .ok (.getfield 16, 3) := by decide +kernel
theorem dX11_house_17 : decode cX11_house 17 = .ok (.iload_n 1, 1) := by decide +kernel
theorem dX11_house_18 : decode cX11_house 18 = .ok (.iconst 0, 1) := by decide +kernel
theorem dX11_house_19 : decode cX11_house 19 = .ok (.iastore, 1) := by decide +kernel
theorem dX11_house_20 : decode cX11_house 20 = .ok (.iinc 1 1, 3) := by decide +kernel
theorem dX11_house_23 : decode cX11_house 23 = .ok (.goto (-16), 3) := by decide +kernel
theorem dX11_house_26 : decode cX11_house 26 = .ok (.aload_n 0, 1) := by decide +kernel
theorem dX11_house_27 : decode cX11_house 27 = .ok (.iconst 0, 1) := by decide +kernel
theorem dX11_house_28 : decode cX11_house 28 = .ok (.putfield 122, 3) := by decide +kernel
theorem dX11_house_31 : decode cX11_house 31 = .ok (.aload_n 0, 1) := by decide +kernel
theorem dX11_house_32 : decode cX11_house 32 = .ok (.iconst 0, 1) := by decide +kernel
theorem dX11_house_33 : decode cX11_house 33 = .ok (.putfield 125, 3) := by decide +kernel
theorem dX11_house_36 : decode cX11_house 36 = .ok (.aload_n 0, 1) := by decide +kernel
theorem dX11_house_37 : decode cX11_house 37 = .ok (.getfield 16, 3) := by decide +kernel
theorem dX11_house_40 : decode cX11_house 40 = .ok (.iconst 1, 1) := by decide +kernel
theorem dX11_house_41 : decode cX11_house 41 = .ok (.aload_n 0, 1) := by decide +kernel
theorem dX11_house_42 : decode cX11_house 42 = .ok (.sipush 9999, 3) := by decide +kernel
theorem dX11_house_45 : decode cX11_house 45 = .ok (.invokevirtual 153, 3) := by decide +kernel
theorem dX11_house_48 : decode cX11_house 48 = .ok (.iastore, 1) := by decide +kernel
theorem dX11_house_49 : decode cX11_house 49 = .ok (.aload_n 0, 1) := by decide +kernel
theorem dX11_house_50 : decode cX11_house 50 = .ok (.bipush 44, 2) := by decide +kernel
theorem dX11_house_52 : decode cX11_house 52 = .ok (.invokevirtual 156, 3) := by decide +kernel
theorem dX11_house_55 : decode cX11_house 55 = .ok (.aload_n 0, 1) := by decide +kernel
theorem dX11_house_56 : decode cX11_house 56 = .ok (.getfield 16, 3) := by decide +kernel
theorem dX11_house_59 : decode cX11_house 59 = .ok (.iconst 2, 1) := by decide +kernel
theorem dX11_house_60 : decode cX11_house 60 = .ok (.aload_n 0, 1) := by decide +kernel
theorem dX11_house_61 : decode cX11_house 61 = .ok (.getfield 125, 3) := by decide +kernel
theorem dX11_house_64 : decode cX11_house 64 = .ok (.ifCond .eq 7, 3) := by decide +kernel
theorem dX11_house_67 : decode cX11_house 67 = .ok (.iconst 0, 1) := by decide +kernel
theorem dX11_house_68 : decode cX11_house 68 = .ok (.goto 9, 3) := by decide +kernel
theorem dX11_house_71 : decode cX11_house 71 = .ok (.aload_n 0, 1) := by decide +kernel
theorem dX11_house_72 : decode cX11_house 72 = .ok (.bipush 100, 2) := by decide +kernel
theorem dX11_house_74 : decode cX11_house 74 = .ok (.invokevirtual 153, 3) := by decide +kernel
theorem dX11_house_77 : decode cX11_house 77 = .ok (.iastore, 1) := by decide +kernel
theorem dX11_house_78 : decode cX11_house 78 = .ok (.aload_n 0, 1) := by decide +kernel
theorem dX11_house_79 : decode cX11_house 79 = .ok (.bipush 44, 2) := by decide +kernel
theorem dX11_house_81 : decode cX11_house 81 = .ok (.invokevirtual 156, 3) := by decide +kernel
theorem dX11_house_84 : decode cX11_house 84 = .ok (.aload_n 0, 1) := by decide +kernel
theorem dX11_house_85 : decode cX11_house 85 = .ok (.getfield 16, 3) := by decide +kernel
theorem dX11_house_88 : decode cX11_house 88 = .ok (.iconst 3, 1) := by decide +kernel
theorem dX11_house_89 : decode cX11_house 89 = .ok (.aload_n 0, 1) := by decide +kernel
theorem dX11_house_90 : decode cX11_house 90 = .ok (.getfield 125, 3) := by decide +kernel
theorem dX11_house_93 : decode cX11_house 93 = .ok (.ifCond .eq 7, 3) := by decide +kernel
theorem dX11_house_96 : decode cX11_house 96 = .ok (.iconst 0, 1) := by decide +kernel
theorem dX11_house_97 : decode cX11_house 97 = .ok (.goto 8, 3) := by decide +kernel
theorem dX11_house_100 : decode cX11_house 100 = .ok (.aload_n 0, 1) := by decide +kernel
theorem dX11_house_101 : decode cX11_house 101 = .ok (.iconst 0, 1) := by decide +kernel
theorem dX11_house_102 : decode cX11_house 102 = .ok (.invokevirtual 150, 3) := by decide +kernel
theorem dX11_house_105 : decode cX11_house 105 = .ok (.iastore, 1) := by decide +kernel
theorem dX11_house_106 : decode cX11_house 106 = .ok (.aload_n 0, 1) := by decide +kernel
theorem dX11_house_107 : decode cX11_house 107 = .ok (.bipush 59, 2) := by decide +kernel
theorem dX11_house_109 : decode cX11_house 109 = .ok (.invokevirtual 156, 3) := by decide +kernel
theorem dX11_house_112 : decode cX11_house 112 = .ok (.aload_n 0, 1) := by decide +kernel
theorem dX11_house_113 : decode cX11_house 113 = .ok (.getfield 125, 3) := by decide +kernel
theorem dX11_house_116 : decode cX11_house 116 = .ok (.ifCond .ne 7, 3) := by decide +kernel
theorem dX11_house_119 : decode cX11_house 119 = .ok (.iconst 1, 1) := by decide +kernel
theorem dX11_house_120 : decode cX11_house 120 = .ok (.goto 4, 3) := by decide +kernel
theorem dX11_house_123 : decode cX11_house 123 = .ok (.iconst 0, 1) := by decide +kernel
theorem dX11_house_124 : decode cX11_house 124 = .ok (.istore_n 1, 1) := by decide +kernel
theorem dX11_house_125 : decode cX11_house 125 = .ok (.iload_n 1, 1) := by decide +kernel
theorem dX11_house_126 : decode cX11_house 126 = .ok (.ifCond .eq 62, 3) := by decide +kernel
theorem dX11_house_129 : decode cX11_house 129 = .ok (.aload_n 0, 1) := by decide +kernel
theorem dX11_house_130 : decode cX11_house 130 = .ok (.invokevirtual 159, 3) := by decide +kernel
theorem dX11_house_133 : decode cX11_house 133 = .ok (.aload_n 0, 1) := by decide +kernel
theorem dX11_house_134 : decode cX11_house 134 = .ok (.getfield 125, 3) := by decide +kernel
theorem dX11_house_137 : decode cX11_house 137 = .ok (.ifCond .ne 28, 3) := by decide +kernel
theorem dX11_house_140 : decode cX11_house 140 = .ok (.aload_n 0, 1) := by decide +kernel
theorem dX11_house_141 : decode cX11_house 141 = .ok (.getfield 16, 3) := by decide +kernel
theorem dX11_house_144 : decode cX11_house 144 = .ok (.bipush 6, 2) := by decide +kernel
theorem dX11_house_146 : decode cX11_house 146 = .ok (.iaload, 1) := by decide +kernel
theorem dX11_house_147 : decode cX11_house 147 = .ok (.bipush 6, 2) := by decide +kernel
theorem dX11_house_149 : decode cX11_house 149 = .ok (.if_icmp .ge 16, 3) := by decide +kernel
theorem dX11_house_152 : decode cX11_house 152 = .ok (.aload_n 0, 1) := by decide +kernel
theorem dX11_house_153 : decode cX11_house 153 = .ok (.bipush 44, 2) := by decide +kernel
theorem dX11_house_155 : decode cX11_house 155 = .ok (.invokevirtual 135, 3) := by decide +kernel
theorem dX11_house_158 : decode cX11_house 158 = .ok (.ifCond .eq 7, 3) := by decide +kernel
theorem dX11_house_161 : decode cX11_house 161 = .ok (.iconst 1, 1) := by decide +kernel
theorem dX11_house_162 : decode cX11_house 162 = .ok (.goto 4, 3) := by decide +kernel
theorem dX11_house_165 : decode cX11_house 165 = .ok (.iconst 0, 1) := by decide +kernel
theorem dX11_house_166 : decode cX11_house 166 = .ok (.istore_n 1, 1) := by decide +kernel
theorem dX11_house_167 : decode cX11_house 167 = .ok (.aload_n 0, 1) := by decide +kernel
theorem dX11_house_168 : decode cX11_house 168 = .ok (.dup, 1) := by decide +kernel
theorem dX11_house_169 : decode cX11_house 169 = .ok (.getfield 122, 3) := by decide +kernel
theorem dX11_house_172 : decode cX11_house 172 = .ok (.iload_n 1, 1) := by decide +kernel
theorem dX11_house_173 : decode cX11_house 173 = .ok (.ifCond .eq 7, 3) := by decide +kernel
theorem dX11_house_176 : decode cX11_house 176 = .ok (.iconst 1, 1) := by decide +kernel
theorem dX11_house_177 : decode cX11_house 177 = .ok (.goto 4, 3) := by decide +kernel
theorem dX11_house_180 : decode cX11_house 180 = .ok (.iconst 0, 1) := by decide +kernel
theorem dX11_house_181 : decode cX11_house 181 = .ok (.iadd, 1) := by decide +kernel
theorem dX11_house_182 : decode cX11_house 182 = .ok (.putfield 122, 3) := by decide +kernel
theorem dX11_house_185 : decode cX11_house 185 = .ok (.goto (-60), 3) := by decide +kernel
theorem dX11_house_188 : decode cX11_house 188 = .ok (.aload_n 0, 1) := by decide +kernel
theorem dX11_house_189 : decode cX11_house 189 = .ok (.invokevirtual 132, 3) := by decide +kernel
theorem dX11_house_192 : decode cX11_house 192 = .ok (.aload_n 0, 1) := by decide +kernel
theorem dX11_house_193 : decode cX11_house 193 = .ok (.getfield 125, 3) := by decide +kernel
theorem dX11_house_196 : decode cX11_house 196 = .ok (.ifCond .ne 22, 3) := by decide +kernel
theorem dX11_house_199 : decode cX11_house 199 = .ok (.aload_n 0, 1) := by decide +kernel
theorem dX11_house_200 : decode cX11_house 200 = .ok (.getfield 122, 3) := by decide +kernel
theorem dX11_house_203 : decode cX11_house 203 = .ok (.aload_n 0, 1) := by decide +kernel
theorem dX11_house_204 : decode cX11_house 204 = .ok (.getfield 119, 3) := by decide +kernel
theorem dX11_house_207 : decode cX11_house 207 = .ok (.if_icmp .ge 11, 3) := by decide +kernel
theorem dX11_house_210 : decode cX11_house 210 = .ok (.aload_n 0, 1) := by decide +kernel
theorem dX11_house_211 : decode cX11_house 211 = .ok (.aload_n 0, 1) := by decide +kernel
theorem dX11_house_212 : decode cX11_house 212 = .ok (.getfield 122, 3) := by decide +kernel
theorem dX11_house_215 : decode cX11_house 215 = .ok (.invokevirtual 138, 3) := by decide +kernel
theorem dX11_house_218 : decode cX11_house 218 = .ok (.aload_n 0, 1) := by decide +kernel
theorem dX11_house_219 : decode cX11_house 219 = .ok (.getfield 129, 3) := by decide +kernel
theorem dX11_house_222 : decode cX11_house 222 = .ok (.aload_n 0, 1) := by decide +kernel
theorem dX11_house_223 : decode cX11_house 223 = .ok (.getfield 119, 3) := by decide +kernel
theorem dX11_house_226 : decode cX11_house 226 = .ok (.if_icmp .le 10, 3) := by decide +kernel
theorem dX11_house_229 : decode cX11_house 229 = .ok (.aload_n 0, 1) := by decide +kernel
theorem dX11_house_230 : decode cX11_house 230 = .ok (.getfield 119, 3) := by decide +kernel
theorem dX11_house_233 : decode cX11_house 233 = .ok (.goto 7, 3) := by decide +kernel
theorem dX11_house_236 : decode cX11_house 236 = .ok (.aload_n 0, 1) := by decide +kernel
theorem dX11_house_237 : decode cX11_house 237 = .ok (.getfield 129, 3) := by decide +kernel
theorem dX11_house_240 : decode cX11_house 240 = .ok (.istore_n 2, 1) := by decide +kernel
theorem dX11_house_241 : decode cX11_house 241 = .ok (.aload_n 0, 1) := by decide +kernel
theorem dX11_house_242 : decode cX11_house 242 = .ok (.iconst 0, 1) := by decide +kernel
theorem dX11_house_243 : decode cX11_house 243 = .ok (.putfield 119, 3) := by decide +kernel
theorem dX11_house_246 : decode cX11_house 246 = .ok (.aload_n 0, 1) := by decide +kernel
theorem dX11_house_247 : decode cX11_house 247 = .ok (.getfield 125, 3) := by decide +kernel
theorem dX11_house_250 : decode cX11_house 250 = .ok (.ifCond .eq 8, 3) := by decide +kernel
theorem dX11_house_253 : decode cX11_house 253 = .ok (.bipush (-20), 2) := by decide +kernel
theorem dX11_house_255 : decode cX11_house 255 = .ok (.iload_n 2, 1) := by decide +kernel
theorem dX11_house_256 : decode cX11_house 256 = .ok (.isub, 1) := by decide +kernel
theorem dX11_house_257 : decode cX11_house 257 = .ok (.ireturn, 1) := by decide +kernel
theorem dX11_house_258 : decode cX11_house 258 = .ok (.aload_n 0, 1) := by decide +kernel
theorem dX11_house_259 : decode cX11_house 259 = .ok (.getfield 16, 3) := by decide +kernel
theorem dX11_house_262 : decode cX11_house 262 = .ok (.iconst 5, 1) := by decide +kernel
theorem dX11_house_263 : decode cX11_house 263 = .ok (.aload_n 0, 1) := by decide +kernel
theorem dX11_house_264 : decode cX11_house 264 = .ok (.getfield 7, 3) := by decide +kernel
theorem dX11_house_267 : decode cX11_house 267 = .ok (.iconst 5, 1) := by decide +kernel
theorem dX11_house_268 : decode cX11_house 268 = .ok (.iaload, 1) := by decide +kernel
theorem dX11_house_269 : decode cX11_house 269 = .ok (.iastore, 1) := by decide +kernel
theorem dX11_house_270 : decode cX11_house 270 = .ok (.aload_n 0, 1) := by decide +kernel
theorem dX11_house_271 : decode cX11_house 271 = .ok (.getfield 16, 3) := by decide +kernel
theorem dX11_house_274 : decode cX11_house 274 = .ok (.aload_n 0, 1) := by decide +kernel
theorem dX11_house_275 : decode cX11_house 275 = .ok (.getfield 7, 3) := by decide +kernel
theorem dX11_house_278 : decode cX11_house 278 = .ok (.invokestatic 162, 3) := by decide +kernel
theorem dX11_house_281 : decode cX11_house 281 = .ok (.aload_n 0, 1) := by decide +kernel
theorem dX11_house_282 : decode cX11_house 282 = .ok (.iconst 0, 1) := by decide +kernel
theorem dX11_house_283 : decode cX11_house 283 = .ok (.putfield 102, 3) := by decide +kernel
theorem dX11_house_286 : decode cX11_house 286 = .ok (.aload_n 0, 1) := by decide +kernel
theorem dX11_house_287 : decode cX11_house 287 = .ok (.getfield 7, 3) := by decide +kernel
theorem dX11_house_290 : decode cX11_house 290 = .ok (.bipush 6, 2) := by decide +kernel
theorem dX11_house_292 : decode cX11_house 292 = .ok (.iaload, 1) := by decide +kernel
theorem dX11_house_293 : decode cX11_house 293 = .ok (.ireturn, 1) := by decide +kernel
theorem dX11_count_0 : decode cX11_count 0 = .ok (.aload_n 0, 1) := by decide +kernel
theorem dX11_count_1 : decode cX11_count 1 = .ok (.iconst 0, 1) := by decide +kernel
theorem dX11_count_2 : decode cX11_count 2 = .ok (.putfield 48, 3) := by decide +kernel
theorem dX11_count_5 : decode cX11_count 5 = .ok (.aload_n 0, 1) := by decide +kernel
theorem dX11_count_6 : decode cX11_count 6 = .ok (.getfield 7, 3) := by decide +kernel
theorem dX11_count_9 : decode cX11_count 9 = .ok (.iconst 0, 1) := by decide +kernel
theorem dX11_count_10 : decode cX11_count 10 = .ok (.invokestatic 74, 3) := by decide +kernel
theorem dX11_count_13 : decode cX11_count 13 = .ok (.istore_n 2, 1) := by decide +kernel
theorem dX11_count_14 : decode cX11_count 14 = .ok (.iload_n 1, 1) := by decide +kernel
theorem dX11_count_15 : decode cX11_count 15 = .ok (.tableswitch 133 0 10 #[57, 65, 72, 79, 86, 93, 100, 102, 111, 120, 128], 57) := by decide +kernel
theorem dX11_count_72 : decode cX11_count 72 = .ok (.aload_n 0, 1) := by decide +kernel
theorem dX11_count_73 : decode cX11_count 73 = .ok (.getfield 7, 3) := by decide +kernel
theorem dX11_count_76 : decode cX11_count 76 = .ok (.bipush 6, 2) := by decide +kernel
theorem dX11_count_78 : decode cX11_count 78 = .ok (.iaload, 1) := by decide +kernel
theorem dX11_count_79 : decode cX11_count 79 = .ok (.ireturn, 1) := by decide +kernel
theorem dX11_count_80 : decode cX11_count 80 = .ok (.aload_n 0, 1) := by decide +kernel
theorem dX11_count_81 : decode cX11_count 81 = .ok (.getfield 7, 3) := by decide +kernel
theorem dX11_count_84 : decode cX11_count 84 = .ok (.iconst 4, 1) := by decide +kernel
theorem dX11_count_85 : decode cX11_count 85 = .ok (.iaload, 1) := by decide +kernel
theorem dX11_count_86 : decode cX11_count 86 = .ok (.ireturn, 1) := by decide +kernel
theorem dX11_count_87 : decode cX11_count 87 = .ok (.aload_n 0, 1) := by decide +kernel
theorem dX11_count_88 : decode cX11_count 88 = .ok (.getfield 7, 3) := by decide +kernel
theorem dX11_count_91 : decode cX11_count 91 = .ok (.iconst 0, 1) := by decide +kernel
theorem dX11_count_92 : decode cX11_count 92 = .ok (.iaload, 1) := by decide +kernel
theorem dX11_count_93 : decode cX11_count 93 = .ok (.ireturn, 1) := by decide +kernel
theorem dX11_count_94 : decode cX11_count 94 = .ok (.aload_n 0, 1) := by decide +kernel
theorem dX11_count_95 : decode cX11_count 95 = .ok (.getfield 7, 3) := by decide +kernel
theorem dX11_count_98 : decode cX11_count 98 = .ok (.iconst 1, 1) := by decide +kernel
theorem dX11_count_99 : decode cX11_count 99 = .ok (.iaload, 1) := by decide +kernel
theorem dX11_count_100 : decode cX11_count 100 = .ok (.ireturn, 1) := by decide +kernel
theorem dX11_count_101 : decode cX11_count 101 = .ok (.aload_n 0, 1) := by decide +kernel
theorem dX11_count_102 : decode cX11_count 102 = .ok (.getfield 7, 3) := by decide +kernel
theorem dX11_count_105 : decode cX11_count 105 = .ok (.iconst 2, 1) := by decide +kernel
theorem dX11_count_106 : decode cX11_count 106 = .ok (.iaload, 1) := by decide +kernel
theorem dX11_count_107 : decode cX11_count 107 = .ok (.ireturn, 1) := by decide +kernel
theorem dX11_count_108 : decode cX11_count 108 = .ok (.aload_n 0, 1) := by decide +kernel
theorem dX11_count_109 : decode cX11_count 109 = .ok (.getfield 7, 3) := by decide +kernel
theorem dX11_count_112 : decode cX11_count 112 = .ok (.iconst 3, 1) := by decide +kernel
theorem dX11_count_113 : decode cX11_count 113 = .ok (.iaload, 1) := by decide +kernel
theorem dX11_count_114 : decode cX11_count 114 = .ok (.ireturn, 1) := by decide +kernel
theorem dX11_count_115 : decode cX11_count 115 = .ok (.iload_n 2, 1) := by decide +kernel
theorem dX11_count_116 : decode cX11_count 116 = .ok (.ireturn, 1) := by decide +kernel
theorem dX11_count_117 : decode cX11_count 117 = .ok (.aload_n 0, 1) := by decide +kernel
theorem dX11_count_118 : decode cX11_count 118 = .ok (.getfield 7, 3) := by decide +kernel
theorem dX11_count_121 : decode cX11_count 121 = .ok (.iload_n 2, 1) := by decide +kernel
theorem dX11_count_122 : decode cX11_count 122 = .ok (.invokestatic 78, 3) := by decide +kernel
theorem dX11_count_125 : decode cX11_count 125 = .ok (.ireturn, 1) := by decide +kernel
theorem dX11_count_126 : decode cX11_count 126 = .ok (.aload_n 0, 1) := by decide +kernel
theorem dX11_count_127 : decode cX11_count 127 = .ok (.getfield 7, 3) := by decide +kernel
theorem dX11_count_130 : decode cX11_count 130 = .ok (.iload_n 2, 1) := by decide +kernel
theorem dX11_count_131 : decode cX11_count 131 = .ok (.invokestatic 81, 3) := by decide +kernel
theorem dX11_count_134 : decode cX11_count 134 = .ok (.ireturn, 1) := by decide +kernel
theorem dX11_count_135 : decode cX11_count 135 = .ok (.aload_n 0, 1) := by decide +kernel
theorem dX11_count_136 : decode cX11_count 136 = .ok (.getfield 7, 3) := by decide +kernel
theorem dX11_count_139 : decode cX11_count 139 = .ok (.invokestatic 60, 3) := by decide +kernel
theorem dX11_count_142 : decode cX11_count 142 = .ok (.ireturn, 1) := by decide +kernel
theorem dX11_count_143 : decode cX11_count 143 = .ok (.aload_n 0, 1) := by decide +kernel
theorem dX11_count_144 : decode cX11_count 144 = .ok (.getfield 102, 3) := by decide +kernel
theorem dX11_count_147 : decode cX11_count 147 = .ok (.ireturn, 1) := by decide +kernel
theorem dX11_count_148 : decode cX11_count 148 = .ok (.iconst (-1), 1) := by decide +kernel
theorem dX11_count_149 : decode cX11_count 149 = .ok (.ireturn, 1) := by decide +kernel
theorem dX11_know_0 : decode cX11_know 0 = .ok (.aload_n 0, 1) := by decide +kernel
theorem dX11_know_1 : decode cX11_know 1 = .ok (.getfield 102, 3) := by decide +kernel
theorem dX11_know_4 : decode cX11_know 4 = .ok (.bipush 8, 2) := by decide +kernel
theorem dX11_know_6 : decode cX11_know 6 = .ok (.if_icmp .ne 42, 3) := by decide +kernel
theorem dX11_know_9 : decode cX11_know 9 = .ok (.iconst 0, 1) := by decide +kernel
theorem dX11_know_10 : decode cX11_know 10 = .ok (.istore_n 1, 1) := by decide +kernel
theorem dX11_know_11 : decode cX11_know 11 = .ok (.iload_n 1, 1) := by decide +kernel
theorem dX11_know_12 : decode cX11_know 12 = .ok (.bipush 63, 2) := by decide +kernel
theorem dX11_know_14 : decode cX11_know 14 = .ok (.if_icmp .ge 24, 3) := by decide +kernel
theorem dX11_know_17 : decode cX11_know 17 = .ok (.aload_n 0, 1) := by decide +kernel
theorem dX11_know_18 : decode cX11_know 18 = .ok (.getfield 19, 3) := by decide +kernel
theorem dX11_know_21 : decode cX11_know 21 = .ok (.iload_n 1, 1) := by decide +kernel
theorem dX11_know_22 : decode cX11_know 22 = .ok (.aload_n 0, 1) := by decide +kernel
theorem dX11_know_23 : decode cX11_know 23 = .ok (.getfield 19, 3) := by decide +kernel
theorem dX11_know_26 : decode cX11_know 26 = .ok (.iload_n 1, 1) := by decide +kernel
theorem dX11_know_27 : decode cX11_know 27 = .ok (.bipush 9, 2) := by decide +kernel
theorem dX11_know_29 : decode cX11_know 29 = .ok (.iadd, 1) := by decide +kernel
theorem dX11_know_30 : decode cX11_know 30 = .ok (.iaload, 1) := by decide +kernel
theorem dX11_know_31 : decode cX11_know 31 = .ok (.iastore, 1) := by decide +kernel
theorem dX11_know_32 : decode cX11_know 32 = .ok (.iinc 1 1, 3) := by decide +kernel
theorem dX11_know_35 : decode cX11_know 35 = .ok (.goto (-24), 3) := by decide +kernel
theorem dX11_know_38 : decode cX11_know 38 = .ok (.aload_n 0, 1) := by decide +kernel
theorem dX11_know_39 : decode cX11_know 39 = .ok (.dup, 1) := by decide +kernel
theorem dX11_know_40 : decode cX11_know 40 = .ok (.getfield 102, 3) := by decide +kernel
theorem dX11_know_43 : decode cX11_know 43 = .ok (.iconst 1, 1) := by decide +kernel
theorem dX11_know_44 : decode cX11_know 44 = .ok (.isub, 1) := by decide +kernel
theorem dX11_know_45 : decode cX11_know 45 = .ok (.putfield 102, 3) := by decide +kernel
theorem dX11_know_48 : decode cX11_know 48 = .ok (.aload_n 0, 1) := by decide +kernel
theorem dX11_know_49 : decode cX11_know 49 = .ok (.getfield 19, 3) := by decide +kernel
theorem dX11_know_52 : decode cX11_know 52 = .ok (.bipush 9, 2) := by decide +kernel
theorem dX11_know_54 : decode cX11_know 54 = .ok (.aload_n 0, 1) := by decide +kernel
theorem dX11_know_55 : decode cX11_know 55 = .ok (.getfield 102, 3) := by decide +kernel
theorem dX11_know_58 : decode cX11_know 58 = .ok (.imul, 1) := by decide +kernel
theorem dX11_know_59 : decode cX11_know 59 = .ok (.aload_n 0, 1) := by decide +kernel
theorem dX11_know_60 : decode cX11_know 60 = .ok (.getfield 7, 3) := by decide +kernel
theorem dX11_know_63 : decode cX11_know 63 = .ok (.iconst 0, 1) := by decide +kernel
theorem dX11_know_64 : decode cX11_know 64 = .ok (.iaload, 1) := by decide +kernel
theorem dX11_know_65 : decode cX11_know 65 = .ok (.iastore, 1) := by decide +kernel
theorem dX11_know_66 : decode cX11_know 66 = .ok (.aload_n 0, 1) := by decide +kernel
theorem dX11_know_67 : decode cX11_know 67 = .ok (.getfield 19, 3) := by decide +kernel
theorem dX11_know_70 : decode cX11_know 70 = .ok (.bipush 9, 2) := by decide +kernel
theorem dX11_know_72 : decode cX11_know 72 = .ok (.aload_n 0, 1) := by decide +kernel
theorem dX11_know_73 : decode cX11_know 73 = .ok (.getfield 102, 3) := by decide +kernel
theorem dX11_know_76 : decode cX11_know 76 = .ok (.imul, 1) := by decide +kernel
theorem dX11_know_77 : decode cX11_know 77 = .ok (.iconst 1, 1) := by decide +kernel
theorem dX11_know_78 : decode cX11_know 78 = .ok (.iadd, 1) := by decide +kernel
theorem dX11_know_79 : decode cX11_know 79 = .ok (.aload_n 0, 1) := by decide +kernel
theorem dX11_know_80 : decode cX11_know 80 = .ok (.getfield 7, 3) := by decide +kernel
theorem dX11_know_83 : decode cX11_know 83 = .ok (.iconst 4, 1) := by decide +kernel
theorem dX11_know_84 : decode cX11_know 84 = .ok (.iaload, 1) := by decide +kernel
theorem dX11_know_85 : decode cX11_know 85 = .ok (.iastore, 1) := by decide +kernel
theorem dX11_know_86 : decode cX11_know 86 = .ok (.aload_n 0, 1) := by decide +kernel
theorem dX11_know_87 : decode cX11_know 87 = .ok (.getfield 19, 3) := by decide +kernel
theorem dX11_know_90 : decode cX11_know 90 = .ok (.bipush 9, 2) := by decide +kernel
theorem dX11_know_92 : decode cX11_know 92 = .ok (.aload_n 0, 1) := by decide +kernel
theorem dX11_know_93 : decode cX11_know 93 = .ok (.getfield 102, 3) := by decide +kernel
theorem dX11_know_96 : decode cX11_know 96 = .ok (.imul, 1) := by decide +kernel
theorem dX11_know_97 : decode cX11_know 97 = .ok (.iconst 2, 1) := by decide +kernel
theorem dX11_know_98 : decode cX11_know 98 = .ok (.iadd, 1) := by decide +kernel
theorem dX11_know_99 : decode cX11_know 99 = .ok (.aload_n 0, 1) := by decide +kernel
theorem dX11_know_100 : decode cX11_know 100 = .ok (.getfield 7, 3) := by decide +kernel
theorem dX11_know_103 : decode cX11_know 103 = .ok (.iconst 5, 1) := by decide +kernel
theorem dX11_know_104 : decode cX11_know 104 = .ok (.iaload, 1) := by decide +kernel
theorem dX11_know_105 : decode cX11_know 105 = .ok (.iastore, 1) := by decide +kernel
theorem dX11_know_106 : decode cX11_know 106 = .ok (.iconst 0, 1) := by decide +kernel
theorem dX11_know_107 : decode cX11_know 107 = .ok (.istore_n 1, 1) := by decide +kernel
theorem dX11_know_108 : decode cX11_know 108 = .ok (.iload_n 1, 1) := by decide +kernel
theorem dX11_know_109 : decode cX11_know 109 = .ok (.bipush 6, 2) := by decide +kernel
theorem dX11_know_111 : decode cX11_know 111 = .ok (.if_icmp .ge 34, 3) := by decide +kernel
theorem dX11_know_114 : decode cX11_know 114 = .ok (.aload_n 0, 1) := by decide +kernel
theorem dX11_know_115 : decode cX11_know 115 = .ok (.getfield 19, 3) := by decide +kernel
theorem dX11_know_118 : decode cX11_know 118 = .ok (.bipush 9, 2) := by decide +kernel
theorem dX11_know_120 : decode cX11_know 120 = .ok (.aload_n 0, 1) := by decide +kernel
theorem dX11_know_121 : decode cX11_know 121 = .ok (.getfield 102, 3) := by decide +kernel
theorem dX11_know_124 : decode cX11_know 124 = .ok (.imul, 1) := by decide +kernel
theorem dX11_know_125 : decode cX11_know 125 = .ok (.iconst 3, 1) := by decide +kernel
theorem dX11_know_126 : decode cX11_know 126 = .ok (.iadd, 1) := by decide +kernel
theorem dX11_know_127 : decode cX11_know 127 = .ok (.iload_n 1, 1) := by decide +kernel
theorem dX11_know_128 : decode cX11_know 128 = .ok (.iadd, 1) := by decide +kernel
theorem dX11_know_129 : decode cX11_know 129 = .ok (.aload_n 0, 1) := by decide +kernel
theorem dX11_know_130 : decode cX11_know 130 = .ok (.getfield 7, 3) := by decide +kernel
theorem dX11_know_133 : decode cX11_know 133 = .ok (.iload_n 1, 1) := by decide +kernel
theorem dX11_know_134 : decode cX11_know 134 = .ok (.iconst 2, 1) := by decide +kernel
theorem dX11_know_135 : decode cX11_know 135 = .ok (.invokestatic 56, 3) := by decide +kernel
theorem dX11_know_138 : decode cX11_know 138 = .ok (.iastore, 1) := by decide +kernel
theorem dX11_know_139 : decode cX11_know 139 = .ok (.iinc 1 1, 3) := by decide +kernel
theorem dX11_know_142 : decode cX11_know 142 = .ok (.goto (-34), 3) := by decide +kernel
theorem dX11_know_145 : decode cX11_know 145 = .ok (.aload_n 0, 1) := by decide +kernel
theorem dX11_know_146 : decode cX11_know 146 = .ok (.dup, 1) := by decide +kernel
theorem dX11_know_147 : decode cX11_know 147 = .ok (.getfield 102, 3) := by decide +kernel
theorem dX11_know_150 : decode cX11_know 150 = .ok (.iconst 1, 1) := by decide +kernel
theorem dX11_know_151 : decode cX11_know 151 = .ok (.iadd, 1) := by decide +kernel
theorem dX11_know_152 : decode cX11_know 152 = .ok (.putfield 102, 3) := by decide +kernel
theorem dX11_know_155 : decode cX11_know 155 = .ok (.return_, 1) := by decide +kernel
theorem dX11_weeks_0 : decode cX11_weeks 0 = .ok (.aload_n 0, 1) := by decide +kernel
theorem dX11_weeks_1 : decode cX11_weeks 1 = .ok (.iconst 0, 1) := by decide +kernel
theorem dX11_weeks_2 : decode cX11_weeks 2 = .ok (.putfield 48, 3) := by decide +kernel
theorem dX11_weeks_5 : decode cX11_weeks 5 = .ok (.iload_n 1, 1) := by decide +kernel
theorem dX11_weeks_6 : decode cX11_weeks 6 = .ok (.i2l, 1) := by decide +kernel
theorem dX11_weeks_7 : decode cX11_weeks 7 = .ok (.lconst 1, 1) := by decide +kernel
theorem dX11_weeks_8 : decode cX11_weeks 8 = .ok (.ldc2_w 166, 3) := by decide +kernel
theorem dX11_weeks_11 : decode cX11_weeks 11 = .ok (.invokestatic 52, 3) := by decide +kernel
theorem dX11_weeks_14 : decode cX11_weeks 14 = .ok (.ifCond .ne 5, 3) := by decide +kernel
theorem dX11_weeks_17 : decode cX11_weeks 17 = .ok (.iconst (-1), 1) := by decide +kernel
theorem dX11_weeks_18 : decode cX11_weeks 18 = .ok (.ireturn, 1) := by decide +kernel
theorem dX11_weeks_19 : decode cX11_weeks 19 = .ok (.aload_n 0, 1) := by decide +kernel
theorem dX11_weeks_20 : decode cX11_weeks 20 = .ok (.getfield 7, 3) := by decide +kernel
theorem dX11_weeks_23 : decode cX11_weeks 23 = .ok (.iconst 4, 1) := by decide +kernel
theorem dX11_weeks_24 : decode cX11_weeks 24 = .ok (.iaload, 1) := by decide +kernel
theorem dX11_weeks_25 : decode cX11_weeks 25 = .ok (.iload_n 1, 1) := by decide +kernel
theorem dX11_weeks_26 : decode cX11_weeks 26 = .ok (.iadd, 1) := by decide +kernel
theorem dX11_weeks_27 : decode cX11_weeks 27 = .ok (.sipush 9999, 3) := by decide +kernel
theorem dX11_weeks_30 : decode cX11_weeks 30 = .ok (.if_icmp .le 6, 3) := by decide +kernel
theorem dX11_weeks_33 : decode cX11_weeks 33 = .ok (.bipush (-3), 2) := by decide +kernel
theorem dX11_weeks_35 : decode cX11_weeks 35 = .ok (.ireturn, 1) := by decide +kernel
theorem dX11_weeks_36 : decode cX11_weeks 36 = .ok (.iconst 0, 1) := by decide +kernel
theorem dX11_weeks_37 : decode cX11_weeks 37 = .ok (.istore_n 2, 1) := by decide +kernel
theorem dX11_weeks_38 : decode cX11_weeks 38 = .ok (.iload_n 2, 1) := by decide +kernel
theorem dX11_weeks_39 : decode cX11_weeks 39 = .ok (.iload_n 1, 1) := by decide +kernel
theorem dX11_weeks_40 : decode cX11_weeks 40 = .ok (.if_icmp .ge 22, 3) := by decide +kernel
theorem dX11_weeks_43 : decode cX11_weeks 43 = .ok (.aload_n 0, 1) := by decide +kernel
theorem dX11_weeks_44 : decode cX11_weeks 44 = .ok (.invokevirtual 168, 3) := by decide +kernel
theorem dX11_weeks_47 : decode cX11_weeks 47 = .ok (.aload_n 0, 1) := by decide +kernel
theorem dX11_weeks_48 : decode cX11_weeks 48 = .ok (.getfield 7, 3) := by decide +kernel
theorem dX11_weeks_51 : decode cX11_weeks 51 = .ok (.iconst 0, 1) := by decide +kernel
theorem dX11_weeks_52 : decode cX11_weeks 52 = .ok (.invokestatic 93, 3) := by decide +kernel
theorem dX11_weeks_55 : decode cX11_weeks 55 = .ok (.istore_n 3, 1) := by decide +kernel
theorem dX11_weeks_56 : decode cX11_weeks 56 = .ok (.iinc 2 1, 3) := by decide +kernel
theorem dX11_weeks_59 : decode cX11_weeks 59 = .ok (.goto (-21), 3) := by decide +kernel
theorem dX11_weeks_62 : decode cX11_weeks 62 = .ok (.aload_n 0, 1) := by decide +kernel
theorem dX11_weeks_63 : decode cX11_weeks 63 = .ok (.getfield 7, 3) := by decide +kernel
theorem dX11_weeks_66 : decode cX11_weeks 66 = .ok (.iconst 0, 1) := by decide +kernel
theorem dX11_weeks_67 : decode cX11_weeks 67 = .ok (.iaload, 1) := by decide +kernel
theorem dX11_weeks_68 : decode cX11_weeks 68 = .ok (.ireturn, 1) := by decide +kernel
theorem dX11_take_0 : decode cX11_take 0 = .ok (.aload_n 0, 1) := by decide +kernel
theorem dX11_take_1 : decode cX11_take 1 = .ok (.iconst 0, 1) := by decide +kernel
theorem dX11_take_2 : decode cX11_take 2 = .ok (.putfield 48, 3) := by decide +kernel
theorem dX11_take_5 : decode cX11_take 5 = .ok (.iload_n 1, 1) := by decide +kernel
theorem dX11_take_6 : decode cX11_take 6 = .ok (.i2l, 1) := by decide +kernel
theorem dX11_take_7 : decode cX11_take 7 = .ok (.lconst 1, 1) := by decide +kernel
theorem dX11_take_8 : decode cX11_take 8 = .ok (.ldc2_w 111, 3) := by decide +kernel
theorem dX11_take_11 : decode cX11_take 11 = .ok (.invokestatic 52, 3) := by decide +kernel
theorem dX11_take_14 : decode cX11_take 14 = .ok (.ifCond .ne 5, 3) := by decide +kernel
theorem dX11_take_17 : decode cX11_take 17 = .ok (.iconst (-1), 1) := by decide +kernel
theorem dX11_take_18 : decode cX11_take 18 = .ok (.ireturn, 1) := by decide +kernel
theorem dX11_take_19 : decode cX11_take 19 = .ok (.iload_n 1, 1) := by decide +kernel
theorem dX11_take_20 : decode cX11_take 20 = .ok (.aload_n 0, 1) := by decide +kernel
theorem dX11_take_21 : decode cX11_take 21 = .ok (.getfield 7, 3) := by decide +kernel
theorem dX11_take_24 : decode cX11_take 24 = .ok (.iconst 0, 1) := by decide +kernel
theorem dX11_take_25 : decode cX11_take 25 = .ok (.iaload, 1) := by decide +kernel
theorem dX11_take_26 : decode cX11_take 26 = .ok (.if_icmp .le 6, 3) := by decide +kernel
theorem dX11_take_29 : decode cX11_take 29 = .ok (.bipush (-2), 2) := by decide +kernel
theorem dX11_take_31 : decode cX11_take 31 = .ok (.ireturn, 1) := by decide +kernel
theorem dX11_take_32 : decode cX11_take 32 = .ok (.aload_n 0, 1) := by decide +kernel
theorem dX11_take_33 : decode cX11_take 33 = .ok (.invokevirtual 168, 3) := by decide +kernel
theorem dX11_take_36 : decode cX11_take 36 = .ok (.aload_n 0, 1) := by decide +kernel
theorem dX11_take_37 : decode cX11_take 37 = .ok (.getfield 7, 3) := by decide +kernel
theorem dX11_take_40 : decode cX11_take 40 = .ok (.iconst 0, 1) := by decide +kernel
theorem dX11_take_41 : decode cX11_take 41 = .ok (.dup2, 1) := by decide +kernel
theorem dX11_take_42 : decode cX11_take 42 = .ok (.iaload, 1) := by decide +kernel
theorem dX11_take_43 : decode cX11_take 43 = .ok (.iload_n 1, 1) := by decide +kernel
theorem dX11_take_44 : decode cX11_take 44 = .ok (.isub, 1) := by decide +kernel
theorem dX11_take_45 : decode cX11_take 45 = .ok (.iastore, 1) := by decide +kernel
theorem dX11_take_46 : decode cX11_take 46 = .ok (.aload_n 0, 1) := by decide +kernel
theorem dX11_take_47 : decode cX11_take 47 = .ok (.getfield 7, 3) := by decide +kernel
theorem dX11_take_50 : decode cX11_take 50 = .ok (.iconst 0, 1) := by decide +kernel
theorem dX11_take_51 : decode cX11_take 51 = .ok (.iaload, 1) := by decide +kernel
theorem dX11_take_52 : decode cX11_take 52 = .ok (.ireturn, 1) := by decide +kernel
theorem dX11_drift_0 : decode cX11_drift 0 = .ok (.aload_n 0, 1) := by decide +kernel
theorem dX11_drift_1 : decode cX11_drift 1 = .ok (.iconst 0, 1) := by decide +kernel
theorem dX11_drift_2 : decode cX11_drift 2 = .ok (.putfield 48, 3) := by decide +kernel
theorem dX11_drift_5 : decode cX11_drift 5 = .ok (.iload_n 1, 1) := by decide +kernel
theorem dX11_drift_6 : decode cX11_drift 6 = .ok (.i2l, 1) := by decide +kernel
theorem dX11_drift_7 : decode cX11_drift 7 = .ok (.lconst 1, 1) := by decide +kernel
theorem dX11_drift_8 : decode cX11_drift 8 = .ok (.ldc2_w 166, 3) := by decide +kernel
theorem dX11_drift_11 : decode cX11_drift 11 = .ok (.invokestatic 52, 3) := by decide +kernel
theorem dX11_drift_14 : decode cX11_drift 14 = .ok (.ifCond .ne 5, 3) := by decide +kernel
theorem dX11_drift_17 : decode cX11_drift 17 = .ok (.iconst (-1), 1) := by decide +kernel
theorem dX11_drift_18 : decode cX11_drift 18 = .ok (.ireturn, 1) := by decide +kernel
theorem dX11_drift_19 : decode cX11_drift 19 = .ok (.aload_n 0, 1) := by decide +kernel
theorem dX11_drift_20 : decode cX11_drift 20 = .ok (.getfield 7, 3) := by decide +kernel
theorem dX11_drift_23 : decode cX11_drift 23 = .ok (.iconst 4, 1) := by decide +kernel
theorem dX11_drift_24 : decode cX11_drift 24 = .ok (.iaload, 1) := by decide +kernel
theorem dX11_drift_25 : decode cX11_drift 25 = .ok (.iload_n 1, 1) := by decide +kernel
theorem dX11_drift_26 : decode cX11_drift 26 = .ok (.iadd, 1) := by decide +kernel
theorem dX11_drift_27 : decode cX11_drift 27 = .ok (.sipush 9999, 3) := by decide +kernel
theorem dX11_drift_30 : decode cX11_drift 30 = .ok (.if_icmp .le 6, 3) := by decide +kernel
theorem dX11_drift_33 : decode cX11_drift 33 = .ok (.bipush (-3), 2) := by decide +kernel
theorem dX11_drift_35 : decode cX11_drift 35 = .ok (.ireturn, 1) := by decide +kernel
theorem dX11_drift_36 : decode cX11_drift 36 = .ok (.iconst 0, 1) := by decide +kernel
theorem dX11_drift_37 : decode cX11_drift 37 = .ok (.istore_n 2, 1) := by decide +kernel
theorem dX11_drift_38 : decode cX11_drift 38 = .ok (.iconst 0, 1) := by decide +kernel
theorem dX11_drift_39 : decode cX11_drift 39 = .ok (.istore_n 3, 1) := by decide +kernel
theorem dX11_drift_40 : decode cX11_drift 40 = .ok (.iload_n 3, 1) := by decide +kernel
theorem dX11_drift_41 : decode cX11_drift 41 = .ok (.iload_n 1, 1) := by decide +kernel
theorem dX11_drift_42 : decode cX11_drift 42 = .ok (.if_icmp .ge 68, 3) := by decide +kernel
theorem dX11_drift_45 : decode cX11_drift 45 = .ok (.aload_n 0, 1) := by decide +kernel
theorem dX11_drift_46 : decode cX11_drift 46 = .ok (.invokevirtual 168, 3) := by decide +kernel
theorem dX11_drift_49 : decode cX11_drift 49 = .ok (.aload_n 0, 1) := by decide +kernel
theorem dX11_drift_50 : decode cX11_drift 50 = .ok (.getfield 7, 3) := by decide +kernel
theorem dX11_drift_53 : decode cX11_drift 53 = .ok (.iconst 5, 1) := by decide +kernel
theorem dX11_drift_54 : decode cX11_drift 54 = .ok (.aload_n 0, 1) := by decide +kernel
theorem dX11_drift_55 : decode cX11_drift 55 = .ok (.getfield 7, 3) := by decide +kernel
theorem dX11_drift_58 : decode cX11_drift 58 = .ok (.iconst 5, 1) := by decide +kernel
theorem dX11_drift_59 : decode cX11_drift 59 = .ok (.iaload, 1) := by decide +kernel
theorem dX11_drift_60 : decode cX11_drift 60 = .ok (.i2l, 1) := by decide +kernel
theorem dX11_drift_61 : decode cX11_drift 61 = .ok (.ldc2_w 171, 3) := by decide +kernel
theorem dX11_drift_64 : decode cX11_drift 64 = .ok (.lmul, 1) := by decide +kernel
theorem dX11_drift_65 : decode cX11_drift 65 = .ok (.ldc2_w 173, 3) := by decide +kernel
theorem dX11_drift_68 : decode cX11_drift 68 = .ok (.ladd, 1) := by decide +kernel
theorem dX11_drift_69 : decode cX11_drift 69 = .ok (.ldc2_w 175, 3) := by decide +kernel
theorem dX11_drift_72 : decode cX11_drift 72 = .ok (.land, 1) := by decide +kernel
theorem dX11_drift_73 : decode cX11_drift 73 = .ok (.l2i, 1) := by decide +kernel
theorem dX11_drift_74 : decode cX11_drift 74 = .ok (.iastore, 1) := by decide +kernel
theorem dX11_drift_75 : decode cX11_drift 75 = .ok (.iload_n 2, 1) := by decide +kernel
theorem dX11_drift_76 : decode cX11_drift 76 = .ok (.aload_n 0, 1) := by decide +kernel
theorem dX11_drift_77 : decode cX11_drift 77 = .ok (.getfield 7, 3) := by decide +kernel
theorem dX11_drift_80 : decode cX11_drift 80 = .ok (.aload_n 0, 1) := by decide +kernel
theorem dX11_drift_81 : decode cX11_drift 81 = .ok (.getfield 7, 3) := by decide +kernel
theorem dX11_drift_84 : decode cX11_drift 84 = .ok (.iconst 5, 1) := by decide +kernel
theorem dX11_drift_85 : decode cX11_drift 85 = .ok (.iaload, 1) := by decide +kernel
theorem dX11_drift_86 : decode cX11_drift 86 = .ok (.ldc 177, 2) := by decide +kernel
theorem dX11_drift_88 : decode cX11_drift 88 = .ok (.idiv, 1) := by decide +kernel
theorem dX11_drift_89 : decode cX11_drift 89 = .ok (.bipush 10, 2) := by decide +kernel
theorem dX11_drift_91 : decode cX11_drift 91 = .ok (.irem, 1) := by decide +kernel
theorem dX11_drift_92 : decode cX11_drift 92 = .ok (.aload_n 0, 1) := by decide +kernel
theorem dX11_drift_93 : decode cX11_drift 93 = .ok (.getfield 7, 3) := by decide +kernel
theorem dX11_drift_96 : decode cX11_drift 96 = .ok (.iconst 3, 1) := by decide +kernel
theorem dX11_drift_97 : decode cX11_drift 97 = .ok (.iaload, 1) := by decide +kernel
theorem dX11_drift_98 : decode cX11_drift 98 = .ok (.isub, 1) := by decide +kernel
theorem dX11_drift_99 : decode cX11_drift 99 = .ok (.invokestatic 93, 3) := by decide +kernel
theorem dX11_drift_102 : decode cX11_drift 102 = .ok (.iadd, 1) := by decide +kernel
theorem dX11_drift_103 : decode cX11_drift 103 = .ok (.istore_n 2, 1) := by decide +kernel
theorem dX11_drift_104 : decode cX11_drift 104 = .ok (.iinc 3 1, 3) := by decide +kernel
theorem dX11_drift_107 : decode cX11_drift 107 = .ok (.goto (-67), 3) := by decide +kernel
theorem dX11_drift_110 : decode cX11_drift 110 = .ok (.iload_n 2, 1) := by decide +kernel
theorem dX11_drift_111 : decode cX11_drift 111 = .ok (.ireturn, 1) := by decide +kernel
theorem dX11_undo_0 : decode cX11_undo 0 = .ok (.aload_n 0, 1) := by decide +kernel
theorem dX11_undo_1 : decode cX11_undo 1 = .ok (.iconst 0, 1) := by decide +kernel
theorem dX11_undo_2 : decode cX11_undo 2 = .ok (.putfield 48, 3) := by decide +kernel
theorem dX11_undo_5 : decode cX11_undo 5 = .ok (.aload_n 0, 1) := by decide +kernel
theorem dX11_undo_6 : decode cX11_undo 6 = .ok (.getfield 102, 3) := by decide +kernel
theorem dX11_undo_9 : decode cX11_undo 9 = .ok (.ifCond .ne 6, 3) := by decide +kernel
theorem dX11_undo_12 : decode cX11_undo 12 = .ok (.bipush (-4), 2) := by decide +kernel
theorem dX11_undo_14 : decode cX11_undo 14 = .ok (.ireturn, 1) := by decide +kernel
theorem dX11_undo_15 : decode cX11_undo 15 = .ok (.aload_n 0, 1) := by decide +kernel
theorem dX11_undo_16 : decode cX11_undo 16 = .ok (.dup, 1) := by decide +kernel
theorem dX11_undo_17 : decode cX11_undo 17 = .ok (.getfield 102, 3) := by decide +kernel
theorem dX11_undo_20 : decode cX11_undo 20 = .ok (.iconst 1, 1) := by decide +kernel
theorem dX11_undo_21 : decode cX11_undo 21 = .ok (.isub, 1) := by decide +kernel
theorem dX11_undo_22 : decode cX11_undo 22 = .ok (.putfield 102, 3) := by decide +kernel
theorem dX11_undo_25 : decode cX11_undo 25 = .ok (.aload_n 0, 1) := by decide +kernel
theorem dX11_undo_26 : decode cX11_undo 26 = .ok (.getfield 7, 3) := by decide +kernel
theorem dX11_undo_29 : decode cX11_undo 29 = .ok (.iconst 0, 1) := by decide +kernel
theorem dX11_undo_30 : decode cX11_undo 30 = .ok (.aload_n 0, 1) := by decide +kernel
theorem dX11_undo_31 : decode cX11_undo 31 = .ok (.getfield 19, 3) := by decide +kernel
theorem dX11_undo_34 : decode cX11_undo 34 = .ok (.bipush 9, 2) := by decide +kernel
theorem dX11_undo_36 : decode cX11_undo 36 = .ok (.aload_n 0, 1) := by decide +kernel
theorem dX11_undo_37 : decode cX11_undo 37 = .ok (.getfield 102, 3) := by decide +kernel
theorem dX11_undo_40 : decode cX11_undo 40 = .ok (.imul, 1) := by decide +kernel
theorem dX11_undo_41 : decode cX11_undo 41 = .ok (.iaload, 1) := by decide +kernel
theorem dX11_undo_42 : decode cX11_undo 42 = .ok (.iastore, 1) := by decide +kernel
theorem dX11_undo_43 : decode cX11_undo 43 = .ok (.aload_n 0, 1) := by decide +kernel
theorem dX11_undo_44 : decode cX11_undo 44 = .ok (.getfield 7, 3) := by decide +kernel
theorem dX11_undo_47 : decode cX11_undo 47 = .ok (.iconst 4, 1) := by decide +kernel
theorem dX11_undo_48 : decode cX11_undo 48 = .ok (.aload_n 0, 1) := by decide +kernel
theorem dX11_undo_49 : decode cX11_undo 49 = .ok (.getfield 19, 3) := by decide +kernel
theorem dX11_undo_52 : decode cX11_undo 52 = .ok (.bipush 9, 2) := by decide +kernel
theorem dX11_undo_54 : decode cX11_undo 54 = .ok (.aload_n 0, 1) := by decide +kernel
theorem dX11_undo_55 : decode cX11_undo 55 = .ok (.getfield 102, 3) := by decide +kernel
theorem dX11_undo_58 : decode cX11_undo 58 = .ok (.imul, 1) := by decide +kernel
theorem dX11_undo_59 : decode cX11_undo 59 = .ok (.iconst 1, 1) := by decide +kernel
theorem dX11_undo_60 : decode cX11_undo 60 = .ok (.iadd, 1) := by decide +kernel
theorem dX11_undo_61 : decode cX11_undo 61 = .ok (.iaload, 1) := by decide +kernel
theorem dX11_undo_62 : decode cX11_undo 62 = .ok (.iastore, 1) := by decide +kernel
theorem dX11_undo_63 : decode cX11_undo 63 = .ok (.aload_n 0, 1) := by decide +kernel
theorem dX11_undo_64 : decode cX11_undo 64 = .ok (.getfield 7, 3) := by decide +kernel
theorem dX11_undo_67 : decode cX11_undo 67 = .ok (.iconst 5, 1) := by decide +kernel
theorem dX11_undo_68 : decode cX11_undo 68 = .ok (.aload_n 0, 1) := by decide +kernel
theorem dX11_undo_69 : decode cX11_undo 69 = .ok (.getfield 19, 3) := by decide +kernel
theorem dX11_undo_72 : decode cX11_undo 72 = .ok (.bipush 9, 2) := by decide +kernel
theorem dX11_undo_74 : decode cX11_undo 74 = .ok (.aload_n 0, 1) := by decide +kernel
theorem dX11_undo_75 : decode cX11_undo 75 = .ok (.getfield 102, 3) := by decide +kernel
theorem dX11_undo_78 : decode cX11_undo 78 = .ok (.imul, 1) := by decide +kernel
theorem dX11_undo_79 : decode cX11_undo 79 = .ok (.iconst 2, 1) := by decide +kernel
theorem dX11_undo_80 : decode cX11_undo 80 = .ok (.iadd, 1) := by decide +kernel
theorem dX11_undo_81 : decode cX11_undo 81 = .ok (.iaload, 1) := by decide +kernel
theorem dX11_undo_82 : decode cX11_undo 82 = .ok (.iastore, 1) := by decide +kernel
theorem dX11_undo_83 : decode cX11_undo 83 = .ok (.iconst 0, 1) := by decide +kernel
theorem dX11_undo_84 : decode cX11_undo 84 = .ok (.istore_n 1, 1) := by decide +kernel
theorem dX11_undo_85 : decode cX11_undo 85 = .ok (.iload_n 1, 1) := by decide +kernel
theorem dX11_undo_86 : decode cX11_undo 86 = .ok (.bipush 6, 2) := by decide +kernel
theorem dX11_undo_88 : decode cX11_undo 88 = .ok (.if_icmp .ge 38, 3) := by decide +kernel
theorem dX11_undo_91 : decode cX11_undo 91 = .ok (.aload_n 0, 1) := by decide +kernel
theorem dX11_undo_92 : decode cX11_undo 92 = .ok (.getfield 7, 3) := by decide +kernel
theorem dX11_undo_95 : decode cX11_undo 95 = .ok (.bipush 7, 2) := by decide +kernel
theorem dX11_undo_97 : decode cX11_undo 97 = .ok (.iconst 4, 1) := by decide +kernel
theorem dX11_undo_98 : decode cX11_undo 98 = .ok (.iload_n 1, 1) := by decide +kernel
theorem dX11_undo_99 : decode cX11_undo 99 = .ok (.imul, 1) := by decide +kernel
theorem dX11_undo_100 : decode cX11_undo 100 = .ok (.iadd, 1) := by decide +kernel
theorem dX11_undo_101 : decode cX11_undo 101 = .ok (.iconst 2, 1) := by decide +kernel
theorem dX11_undo_102 : decode cX11_undo 102 = .ok (.iadd, 1) := by decide +kernel
theorem dX11_undo_103 : decode cX11_undo 103 = .ok (.aload_n 0, 1) := by decide +kernel
theorem dX11_undo_104 : decode cX11_undo 104 = .ok (.getfield 19, 3) := by decide +kernel
theorem dX11_undo_107 : decode cX11_undo 107 = .ok (.bipush 9, 2) := by decide +kernel
theorem dX11_undo_109 : decode cX11_undo 109 = .ok (.aload_n 0, 1) := by decide +kernel
theorem dX11_undo_110 : decode cX11_undo 110 = .ok (.getfield 102, 3) := by decide +kernel
theorem dX11_undo_113 : decode cX11_undo 113 = .ok (.imul, 1) := by decide +kernel
theorem dX11_undo_114 : decode cX11_undo 114 = .ok (.iconst 3, 1) := by decide +kernel
theorem dX11_undo_115 : decode cX11_undo 115 = .ok (.iadd, 1) := by decide +kernel
theorem dX11_undo_116 : decode cX11_undo 116 = .ok (.iload_n 1, 1) := by decide +kernel
theorem dX11_undo_117 : decode cX11_undo 117 = .ok (.iadd, 1) := by decide +kernel
theorem dX11_undo_118 : decode cX11_undo 118 = .ok (.iaload, 1) := by decide +kernel
theorem dX11_undo_119 : decode cX11_undo 119 = .ok (.iastore, 1) := by decide +kernel
theorem dX11_undo_120 : decode cX11_undo 120 = .ok (.iinc 1 1, 3) := by decide +kernel
theorem dX11_undo_123 : decode cX11_undo 123 = .ok (.goto (-38), 3) := by decide +kernel
theorem dX11_undo_126 : decode cX11_undo 126 = .ok (.aload_n 0, 1) := by decide +kernel
theorem dX11_undo_127 : decode cX11_undo 127 = .ok (.getfield 102, 3) := by decide +kernel
theorem dX11_undo_130 : decode cX11_undo 130 = .ok (.ireturn, 1) := by decide +kernel
theorem dX11_seed_0 : decode cX11_seed 0 = .ok (.aload_n 0, 1) := by decide +kernel
theorem dX11_seed_1 : decode cX11_seed 1 = .ok (.iconst 0, 1) := by decide +kernel
theorem dX11_seed_2 : decode cX11_seed 2 = .ok (.putfield 48, 3) := by decide +kernel
theorem dX11_seed_5 : decode cX11_seed 5 = .ok (.iload_n 1, 1) := by decide +kernel
theorem dX11_seed_6 : decode cX11_seed 6 = .ok (.ifCond .ge 5, 3) := by decide +kernel
theorem dX11_seed_9 : decode cX11_seed 9 = .ok (.iconst (-1), 1) := by decide +kernel
theorem dX11_seed_10 : decode cX11_seed 10 = .ok (.ireturn, 1) := by decide +kernel
theorem dX11_seed_11 : decode cX11_seed 11 = .ok (.aload_n 0, 1) := by decide +kernel
theorem dX11_seed_12 : decode cX11_seed 12 = .ok (.getfield 7, 3) := by decide +kernel
theorem dX11_seed_15 : decode cX11_seed 15 = .ok (.iconst 5, 1) := by decide +kernel
theorem dX11_seed_16 : decode cX11_seed 16 = .ok (.iaload, 1) := by decide +kernel
theorem dX11_seed_17 : decode cX11_seed 17 = .ok (.istore_n 2, 1) := by decide +kernel
theorem dX11_seed_18 : decode cX11_seed 18 = .ok (.aload_n 0, 1) := by decide +kernel
theorem dX11_seed_19 : decode cX11_seed 19 = .ok (.getfield 7, 3) := by decide +kernel
theorem dX11_seed_22 : decode cX11_seed 22 = .ok (.iconst 5, 1) := by decide +kernel
theorem dX11_seed_23 : decode cX11_seed 23 = .ok (.iload_n 1, 1) := by decide +kernel
theorem dX11_seed_24 : decode cX11_seed 24 = .ok (.iastore, 1) := by decide +kernel
theorem dX11_seed_25 : decode cX11_seed 25 = .ok (.iload_n 2, 1) := by decide +kernel
theorem dX11_seed_26 : decode cX11_seed 26 = .ok (.ireturn, 1) := by decide +kernel
theorem dX11_ahead_0 : decode cX11_ahead 0 = .ok (.aload_n 0, 1) := by decide +kernel
theorem dX11_ahead_1 : decode cX11_ahead 1 = .ok (.iconst 0, 1) := by decide +kernel
theorem dX11_ahead_2 : decode cX11_ahead 2 = .ok (.putfield 48, 3) := by decide +kernel
theorem dX11_ahead_5 : decode cX11_ahead 5 = .ok (.iload_n 1, 1) := by decide +kernel
theorem dX11_ahead_6 : decode cX11_ahead 6 = .ok (.i2l, 1) := by decide +kernel
theorem dX11_ahead_7 : decode cX11_ahead 7 = .ok (.lconst 0, 1) := by decide +kernel
theorem dX11_ahead_8 : decode cX11_ahead 8 = .ok (.ldc2_w 100, 3) := by decide +kernel
theorem dX11_ahead_11 : decode cX11_ahead 11 = .ok (.invokestatic 52, 3) := by decide +kernel
theorem dX11_ahead_14 : decode cX11_ahead 14 = .ok (.ifCond .eq 15, 3) := by decide +kernel
theorem dX11_ahead_17 : decode cX11_ahead 17 = .ok (.iload_n 2, 1) := by decide +kernel
theorem dX11_ahead_18 : decode cX11_ahead 18 = .ok (.i2l, 1) := by decide +kernel
theorem dX11_ahead_19 : decode cX11_ahead 19 = .ok (.lconst 0, 1) := by decide +kernel
theorem dX11_ahead_20 : decode cX11_ahead 20 = .ok (.ldc2_w 178, 3) := by decide +kernel
theorem dX11_ahead_23 : decode cX11_ahead 23 = .ok (.invokestatic 52, 3) := by decide +kernel
theorem dX11_ahead_26 : decode cX11_ahead 26 = .ok (.ifCond .ne 5, 3) := by decide +kernel
theorem dX11_ahead_29 : decode cX11_ahead 29 = .ok (.iconst (-1), 1) := by decide +kernel
theorem dX11_ahead_30 : decode cX11_ahead 30 = .ok (.ireturn, 1) := by decide +kernel
theorem dX11_ahead_31 : decode cX11_ahead 31 = .ok (.aload_n 0, 1) := by decide +kernel
theorem dX11_ahead_32 : decode cX11_ahead 32 = .ok (.getfield 7, 3) := by decide +kernel
theorem dX11_ahead_35 : decode cX11_ahead 35 = .ok (.aload_n 0, 1) := by decide +kernel
theorem dX11_ahead_36 : decode cX11_ahead 36 = .ok (.getfield 13, 3) := by decide +kernel
theorem dX11_ahead_39 : decode cX11_ahead 39 = .ok (.invokestatic 162, 3) := by decide +kernel
theorem dX11_ahead_42 : decode cX11_ahead 42 = .ok (.aload_n 0, 1) := by decide +kernel
theorem dX11_ahead_43 : decode cX11_ahead 43 = .ok (.iload_n 1, 1) := by decide +kernel
theorem dX11_ahead_44 : decode cX11_ahead 44 = .ok (.invokevirtual 180, 3) := by decide +kernel
theorem dX11_ahead_47 : decode cX11_ahead 47 = .ok (.iload_n 2, 1) := by decide +kernel
theorem dX11_ahead_48 : decode cX11_ahead 48 = .ok (.ifCond .ne 12, 3) := by decide +kernel
theorem dX11_ahead_51 : decode cX11_ahead 51 = .ok (.aload_n 0, 1) := by decide +kernel
theorem dX11_ahead_52 : decode cX11_ahead 52 = .ok (.getfield 13, 3) := by decide +kernel
theorem dX11_ahead_55 : decode cX11_ahead 55 = .ok (.iconst 0, 1) := by decide +kernel
theorem dX11_ahead_56 : decode cX11_ahead 56 = .ok (.iaload, 1) := by decide +kernel
theorem dX11_ahead_57 : decode cX11_ahead 57 = .ok (.goto 19, 3) := by decide +kernel
theorem dX11_ahead_60 : decode cX11_ahead 60 = .ok (.iload_n 2, 1) := by decide +kernel
theorem dX11_ahead_61 : decode cX11_ahead 61 = .ok (.iconst 1, 1) := by decide +kernel
theorem dX11_ahead_62 : decode cX11_ahead 62 = .ok (.if_icmp .ne 10, 3) := by decide +kernel
theorem dX11_ahead_65 : decode cX11_ahead 65 = .ok (.aload_n 0, 1) := by decide +kernel
theorem dX11_ahead_66 : decode cX11_ahead 66 = .ok (.getfield 87, 3) := by decide +kernel
theorem dX11_ahead_69 : decode cX11_ahead 69 = .ok (.goto 7, 3) := by decide +kernel
theorem dX11_ahead_72 : decode cX11_ahead 72 = .ok (.aload_n 0, 1) := by decide +kernel
theorem dX11_ahead_73 : decode cX11_ahead 73 = .ok (.getfield 90, 3) := by decide +kernel
theorem dX11_ahead_76 : decode cX11_ahead 76 = .ok (.ireturn, 1) := by decide +kernel
theorem dX11_due_0 : decode cX11_due 0 = .ok (.aload_n 0, 1) := by decide +kernel
theorem dX11_due_1 : decode cX11_due 1 = .ok (.iconst 0, 1) := by decide +kernel
theorem dX11_due_2 : decode cX11_due 2 = .ok (.putfield 48, 3) := by decide +kernel
theorem dX11_due_5 : decode cX11_due 5 = .ok (.aload_n 0, 1) := by decide +kernel
theorem dX11_due_6 : decode cX11_due 6 = .ok (.getfield 7, 3) := by decide +kernel
theorem dX11_due_9 : decode cX11_due 9 = .ok (.aload_n 0, 1) := by decide +kernel
theorem dX11_due_10 : decode cX11_due 10 = .ok (.getfield 13, 3) := by decide +kernel
theorem dX11_due_13 : decode cX11_due 13 = .ok (.invokestatic 162, 3) := by decide +kernel
theorem dX11_due_16 : decode cX11_due 16 = .ok (.iconst 0, 1) := by decide +kernel
theorem dX11_due_17 : decode cX11_due 17 = .ok (.istore_n 1, 1) := by decide +kernel
theorem dX11_due_18 : decode cX11_due 18 = .ok (.iload_n 1, 1) := by decide +kernel
theorem dX11_due_19 : decode cX11_due 19 = .ok (.bipush 100, 2) := by decide +kernel
theorem dX11_due_21 : decode cX11_due 21 = .ok (.if_icmp .ge 38, 3) := by decide +kernel
theorem dX11_due_24 : decode cX11_due 24 = .ok (.aload_n 0, 1) := by decide +kernel
theorem dX11_due_25 : decode cX11_due 25 = .ok (.getfield 13, 3) := by decide +kernel
theorem dX11_due_28 : decode cX11_due 28 = .ok (.iconst 0, 1) := by decide +kernel
theorem dX11_due_29 : decode cX11_due 29 = .ok (.iaload, 1) := by decide +kernel
theorem dX11_due_30 : decode cX11_due 30 = .ok (.aload_n 0, 1) := by decide +kernel
theorem dX11_due_31 : decode cX11_due 31 = .ok (.getfield 13, 3) := by decide +kernel
theorem dX11_due_34 : decode cX11_due 34 = .ok (.iconst 1, 1) := by decide +kernel
theorem dX11_due_35 : decode cX11_due 35 = .ok (.iaload, 1) := by decide +kernel
theorem dX11_due_36 : decode cX11_due 36 = .ok (.if_icmp .lt 5, 3) := by decide +kernel
theorem dX11_due_39 : decode cX11_due 39 = .ok (.iload_n 1, 1) := by decide +kernel
theorem dX11_due_40 : decode cX11_due 40 = .ok (.ireturn, 1) := by decide +kernel
theorem dX11_due_41 : decode cX11_due 41 = .ok (.aload_n 0, 1) := by decide +kernel
theorem dX11_due_42 : decode cX11_due 42 = .ok (.aload_n 0, 1) := by decide +kernel
theorem dX11_due_43 : decode cX11_due 43 = .ok (.getfield 13, 3) := by decide +kernel
theorem dX11_due_46 : decode cX11_due 46 = .ok (.iconst 0, 1) := by decide +kernel
theorem dX11_due_47 : decode cX11_due 47 = .ok (.invokestatic 93, 3) := by decide +kernel
theorem dX11_due_50 : decode cX11_due 50 = .ok (.putfield 87, 3) := by decide +kernel
theorem dX11_due_53 : decode cX11_due 53 = .ok (.iinc 1 1, 3) := by decide +kernel
theorem dX11_due_56 : decode cX11_due 56 = .ok (.goto (-38), 3) := by decide +kernel
theorem dX11_due_59 : decode cX11_due 59 = .ok (.bipush (-4), 2) := by decide +kernel
theorem dX11_due_61 : decode cX11_due 61 = .ok (.ireturn, 1) := by decide +kernel
theorem dX11_dearest_0 : decode cX11_dearest 0 = .ok (.aload_n 0, 1) := by decide +kernel
theorem dX11_dearest_1 : decode cX11_dearest 1 = .ok (.iconst 0, 1) := by decide +kernel
theorem dX11_dearest_2 : decode cX11_dearest 2 = .ok (.putfield 48, 3) := by decide +kernel
theorem dX11_dearest_5 : decode cX11_dearest 5 = .ok (.iload_n 1, 1) := by decide +kernel
theorem dX11_dearest_6 : decode cX11_dearest 6 = .ok (.i2l, 1) := by decide +kernel
theorem dX11_dearest_7 : decode cX11_dearest 7 = .ok (.lconst 0, 1) := by decide +kernel
theorem dX11_dearest_8 : decode cX11_dearest 8 = .ok (.ldc2_w 100, 3) := by decide +kernel
theorem dX11_dearest_11 : decode cX11_dearest 11 = .ok (.invokestatic 52, 3) := by decide +kernel
theorem dX11_dearest_14 : decode cX11_dearest 14 = .ok (.ifCond .eq 13, 3) := by decide +kernel
theorem dX11_dearest_17 : decode cX11_dearest 17 = .ok (.iload_n 2, 1) := by decide +kernel
theorem dX11_dearest_18 : decode cX11_dearest 18 = .ok (.i2l, 1) := by decide +kernel
theorem dX11_dearest_19 : decode cX11_dearest 19 = .ok (.lconst 0, 1) := by decide +kernel
theorem dX11_dearest_20 : decode cX11_dearest 20 = .ok (.lconst 1, 1) := by decide +kernel
theorem dX11_dearest_21 : decode cX11_dearest 21 = .ok (.invokestatic 52, 3) := by decide +kernel
theorem dX11_dearest_24 : decode cX11_dearest 24 = .ok (.ifCond .ne 5, 3) := by decide +kernel
theorem dX11_dearest_27 : decode cX11_dearest 27 = .ok (.iconst (-1), 1) := by decide +kernel
theorem dX11_dearest_28 : decode cX11_dearest 28 = .ok (.ireturn, 1) := by decide +kernel
theorem dX11_dearest_29 : decode cX11_dearest 29 = .ok (.bipush (-4), 2) := by decide +kernel
theorem dX11_dearest_31 : decode cX11_dearest 31 = .ok (.istore_n 3, 1) := by decide +kernel
theorem dX11_dearest_32 : decode cX11_dearest 32 = .ok (.iconst (-1), 1) := by decide +kernel
theorem dX11_dearest_33 : decode cX11_dearest 33 = .ok (.istore 4, 2) := by decide +kernel
theorem dX11_dearest_35 : decode cX11_dearest 35 = .ok (.iconst 1, 1) := by decide +kernel
theorem dX11_dearest_36 : decode cX11_dearest 36 = .ok (.istore 5, 2) := by decide +kernel
theorem dX11_dearest_38 : decode cX11_dearest 38 = .ok (.iload 5, 2) := by decide +kernel
theorem dX11_dearest_40 : decode cX11_dearest 40 = .ok (.bipush 100, 2) := by decide +kernel
theorem dX11_dearest_42 : decode cX11_dearest 42 = .ok (.if_icmp .gt 75, 3) := by decide +kernel
theorem dX11_dearest_45 : decode cX11_dearest 45 = .ok (.aload_n 0, 1) := by decide +kernel
theorem dX11_dearest_46 : decode cX11_dearest 46 = .ok (.getfield 7, 3) := by decide +kernel
theorem dX11_dearest_49 : decode cX11_dearest 49 = .ok (.aload_n 0, 1) := by decide +kernel
theorem dX11_dearest_50 : decode cX11_dearest 50 = .ok (.getfield 13, 3) := by decide +kernel
theorem dX11_dearest_53 : decode cX11_dearest 53 = .ok (.invokestatic 162, 3) := by decide +kernel
theorem dX11_dearest_56 : decode cX11_dearest 56 = .ok (.aload_n 0, 1) := by decide +kernel
theorem dX11_dearest_57 : decode cX11_dearest 57 = .ok (.getfield 13, 3) := by decide +kernel
theorem dX11_dearest_60 : decode cX11_dearest 60 = .ok (.iconst 2, 1) := by decide +kernel
theorem dX11_dearest_61 : decode cX11_dearest 61 = .ok (.iload 5, 2) := by decide +kernel
theorem dX11_dearest_63 : decode cX11_dearest 63 = .ok (.iastore, 1) := by decide +kernel
theorem dX11_dearest_64 : decode cX11_dearest 64 = .ok (.aload_n 0, 1) := by decide +kernel
theorem dX11_dearest_65 : decode cX11_dearest 65 = .ok (.iload_n 1, 1) := by decide +kernel
theorem dX11_dearest_66 : decode cX11_dearest 66 = .ok (.invokevirtual 180, 3) := by decide +kernel
theorem dX11_dearest_69 : decode cX11_dearest 69 = .ok (.aload_n 0, 1) := by decide +kernel
theorem dX11_dearest_70 : decode cX11_dearest 70 = .ok (.getfield 13, 3) := by decide +kernel
theorem dX11_dearest_73 : decode cX11_dearest 73 = .ok (.iconst 0, 1) := by decide +kernel
theorem dX11_dearest_74 : decode cX11_dearest 74 = .ok (.iaload, 1) := by decide +kernel
theorem dX11_dearest_75 : decode cX11_dearest 75 = .ok (.iload 4, 2) := by decide +kernel
theorem dX11_dearest_77 : decode cX11_dearest 77 = .ok (.if_icmp .le 8, 3) := by decide +kernel
theorem dX11_dearest_80 : decode cX11_dearest 80 = .ok (.iload 5, 2) := by decide +kernel
theorem dX11_dearest_82 : decode cX11_dearest 82 = .ok (.goto 4, 3) := by decide +kernel
theorem dX11_dearest_85 : decode cX11_dearest 85 = .ok (.iload_n 3, 1) := by decide +kernel
theorem dX11_dearest_86 : decode cX11_dearest 86 = .ok (.istore_n 3, 1) := by decide +kernel
theorem dX11_dearest_87 : decode cX11_dearest 87 = .ok (.aload_n 0, 1) := by decide +kernel
theorem dX11_dearest_88 : decode cX11_dearest 88 = .ok (.getfield 13, 3) := by decide +kernel
theorem dX11_dearest_91 : decode cX11_dearest 91 = .ok (.iconst 0, 1) := by decide +kernel
theorem dX11_dearest_92 : decode cX11_dearest 92 = .ok (.iaload, 1) := by decide +kernel
theorem dX11_dearest_93 : decode cX11_dearest 93 = .ok (.iload 4, 2) := by decide +kernel
theorem dX11_dearest_95 : decode cX11_dearest 95 = .ok (.if_icmp .le 12, 3) := by decide +kernel
theorem dX11_dearest_98 : decode cX11_dearest 98 = .ok (.aload_n 0, 1) := by decide +kernel
theorem dX11_dearest_99 : decode cX11_dearest 99 = .ok (.getfield 13, 3) := by decide +kernel
theorem dX11_dearest_102 : decode cX11_dearest 102 = .ok (.iconst 0, 1) := by decide +kernel
theorem dX11_dearest_103 : decode cX11_dearest 103 = .ok (.iaload, 1) := by decide +kernel
theorem dX11_dearest_104 : decode cX11_dearest 104 = .ok (.goto 5, 3) := by decide +kernel
theorem dX11_dearest_107 : decode cX11_dearest 107 = .ok (.iload 4, 2) := by decide +kernel
theorem dX11_dearest_109 : decode cX11_dearest 109 = .ok (.istore 4, 2) := by decide +kernel
theorem dX11_dearest_111 : decode cX11_dearest 111 = .ok (.iinc 5 1, 3) := by decide +kernel
theorem dX11_dearest_114 : decode cX11_dearest 114 = .ok (.goto (-76), 3) := by decide +kernel
theorem dX11_dearest_117 : decode cX11_dearest 117 = .ok (.iload_n 2, 1) := by decide +kernel
theorem dX11_dearest_118 : decode cX11_dearest 118 = .ok (.ifCond .ne 7, 3) := by decide +kernel
theorem dX11_dearest_121 : decode cX11_dearest 121 = .ok (.iload_n 3, 1) := by decide +kernel
theorem dX11_dearest_122 : decode cX11_dearest 122 = .ok (.goto 5, 3) := by decide +kernel
theorem dX11_dearest_125 : decode cX11_dearest 125 = .ok (.iload 4, 2) := by decide +kernel
theorem dX11_dearest_127 : decode cX11_dearest 127 = .ok (.ireturn, 1) := by decide +kernel
theorem dX11_quiet_0 : decode cX11_quiet 0 = .ok (.aload_n 0, 1) := by decide +kernel
theorem dX11_quiet_1 : decode cX11_quiet 1 = .ok (.iconst 0, 1) := by decide +kernel
theorem dX11_quiet_2 : decode cX11_quiet 2 = .ok (.putfield 48, 3) := by decide +kernel
theorem dX11_quiet_5 : decode cX11_quiet 5 = .ok (.iload_n 1, 1) := by decide +kernel
theorem dX11_quiet_6 : decode cX11_quiet 6 = .ok (.i2l, 1) := by decide +kernel
theorem dX11_quiet_7 : decode cX11_quiet 7 = .ok (.lconst 0, 1) := by decide +kernel
theorem dX11_quiet_8 : decode cX11_quiet 8 = .ok (.ldc2_w 100, 3) := by decide +kernel
theorem dX11_quiet_11 : decode cX11_quiet 11 = .ok (.invokestatic 52, 3) := by decide +kernel
theorem dX11_quiet_14 : decode cX11_quiet 14 = .ok (.ifCond .eq 13, 3) := by decide +kernel
theorem dX11_quiet_17 : decode cX11_quiet 17 = .ok (.iload_n 2, 1) := by decide +kernel
theorem dX11_quiet_18 : decode cX11_quiet 18 = .ok (.i2l, 1) := by decide +kernel
theorem dX11_quiet_19 : decode cX11_quiet 19 = .ok (.lconst 0, 1) := by decide +kernel
theorem dX11_quiet_20 : decode cX11_quiet 20 = .ok (.lconst 1, 1) := by decide +kernel
theorem dX11_quiet_21 : decode cX11_quiet 21 = .ok (.invokestatic 52, 3) := by decide +kernel
theorem dX11_quiet_24 : decode cX11_quiet 24 = .ok (.ifCond .ne 5, 3) := by decide +kernel
theorem dX11_quiet_27 : decode cX11_quiet 27 = .ok (.iconst (-1), 1) := by decide +kernel
theorem dX11_quiet_28 : decode cX11_quiet 28 = .ok (.ireturn, 1) := by decide +kernel
theorem dX11_quiet_29 : decode cX11_quiet 29 = .ok (.bipush (-4), 2) := by decide +kernel
theorem dX11_quiet_31 : decode cX11_quiet 31 = .ok (.istore_n 3, 1) := by decide +kernel
theorem dX11_quiet_32 : decode cX11_quiet 32 = .ok (.iconst (-1), 1) := by decide +kernel
theorem dX11_quiet_33 : decode cX11_quiet 33 = .ok (.istore 4, 2) := by decide +kernel
theorem dX11_quiet_35 : decode cX11_quiet 35 = .ok (.iconst 1, 1) := by decide +kernel
theorem dX11_quiet_36 : decode cX11_quiet 36 = .ok (.istore 5, 2) := by decide +kernel
theorem dX11_quiet_38 : decode cX11_quiet 38 = .ok (.iload 5, 2) := by decide +kernel
theorem dX11_quiet_40 : decode cX11_quiet 40 = .ok (.bipush 100, 2) := by decide +kernel
theorem dX11_quiet_42 : decode cX11_quiet 42 = .ok (.if_icmp .gt 83, 3) := by decide +kernel
theorem dX11_quiet_45 : decode cX11_quiet 45 = .ok (.aload_n 0, 1) := by decide +kernel
theorem dX11_quiet_46 : decode cX11_quiet 46 = .ok (.getfield 7, 3) := by decide +kernel
theorem dX11_quiet_49 : decode cX11_quiet 49 = .ok (.aload_n 0, 1) := by decide +kernel
theorem dX11_quiet_50 : decode cX11_quiet 50 = .ok (.getfield 13, 3) := by decide +kernel
theorem dX11_quiet_53 : decode cX11_quiet 53 = .ok (.invokestatic 162, 3) := by decide +kernel
theorem dX11_quiet_56 : decode cX11_quiet 56 = .ok (.aload_n 0, 1) := by decide +kernel
theorem dX11_quiet_57 : decode cX11_quiet 57 = .ok (.getfield 13, 3) := by decide +kernel
theorem dX11_quiet_60 : decode cX11_quiet 60 = .ok (.iconst 2, 1) := by decide +kernel
theorem dX11_quiet_61 : decode cX11_quiet 61 = .ok (.iload 5, 2) := by decide +kernel
theorem dX11_quiet_63 : decode cX11_quiet 63 = .ok (.iastore, 1) := by decide +kernel
theorem dX11_quiet_64 : decode cX11_quiet 64 = .ok (.aload_n 0, 1) := by decide +kernel
theorem dX11_quiet_65 : decode cX11_quiet 65 = .ok (.iload_n 1, 1) := by decide +kernel
theorem dX11_quiet_66 : decode cX11_quiet 66 = .ok (.invokevirtual 180, 3) := by decide +kernel
theorem dX11_quiet_69 : decode cX11_quiet 69 = .ok (.iload_n 3, 1) := by decide +kernel
theorem dX11_quiet_70 : decode cX11_quiet 70 = .ok (.bipush (-4), 2) := by decide +kernel
theorem dX11_quiet_72 : decode cX11_quiet 72 = .ok (.if_icmp .eq 12, 3) := by decide +kernel
theorem dX11_quiet_75 : decode cX11_quiet 75 = .ok (.aload_n 0, 1) := by decide +kernel
theorem dX11_quiet_76 : decode cX11_quiet 76 = .ok (.getfield 90, 3) := by decide +kernel
theorem dX11_quiet_79 : decode cX11_quiet 79 = .ok (.iload 4, 2) := by decide +kernel
theorem dX11_quiet_81 : decode cX11_quiet 81 = .ok (.if_icmp .ge 7, 3) := by decide +kernel
theorem dX11_quiet_84 : decode cX11_quiet 84 = .ok (.iconst 1, 1) := by decide +kernel
theorem dX11_quiet_85 : decode cX11_quiet 85 = .ok (.goto 4, 3) := by decide +kernel
theorem dX11_quiet_88 : decode cX11_quiet 88 = .ok (.iconst 0, 1) := by decide +kernel
theorem dX11_quiet_89 : decode cX11_quiet 89 = .ok (.istore 6, 2) := by decide +kernel
theorem dX11_quiet_91 : decode cX11_quiet 91 = .ok (.iload 6, 2) := by decide +kernel
theorem dX11_quiet_93 : decode cX11_quiet 93 = .ok (.ifCond .eq 8, 3) := by decide +kernel
theorem dX11_quiet_96 : decode cX11_quiet 96 = .ok (.iload 5, 2) := by decide +kernel
theorem dX11_quiet_98 : decode cX11_quiet 98 = .ok (.goto 4, 3) := by decide +kernel
theorem dX11_quiet_101 : decode cX11_quiet 101 = .ok (.iload_n 3, 1) := by decide +kernel
theorem dX11_quiet_102 : decode cX11_quiet 102 = .ok (.istore_n 3, 1) := by decide +kernel
theorem dX11_quiet_103 : decode cX11_quiet 103 = .ok (.iload 6, 2) := by decide +kernel
theorem dX11_quiet_105 : decode cX11_quiet 105 = .ok (.ifCond .eq 10, 3) := by decide +kernel
theorem dX11_quiet_108 : decode cX11_quiet 108 = .ok (.aload_n 0, 1) := by decide +kernel
theorem dX11_quiet_109 : decode cX11_quiet 109 = .ok (.getfield 90, 3) := by decide +kernel
theorem dX11_quiet_112 : decode cX11_quiet 112 = .ok (.goto 5, 3) := by decide +kernel
theorem dX11_quiet_115 : decode cX11_quiet 115 = .ok (.iload 4, 2) := by decide +kernel
theorem dX11_quiet_117 : decode cX11_quiet 117 = .ok (.istore 4, 2) := by decide +kernel
theorem dX11_quiet_119 : decode cX11_quiet 119 = .ok (.iinc 5 1, 3) := by decide +kernel
theorem dX11_quiet_122 : decode cX11_quiet 122 = .ok (.goto (-84), 3) := by decide +kernel
theorem dX11_quiet_125 : decode cX11_quiet 125 = .ok (.iload_n 2, 1) := by decide +kernel
theorem dX11_quiet_126 : decode cX11_quiet 126 = .ok (.ifCond .ne 7, 3) := by decide +kernel
theorem dX11_quiet_129 : decode cX11_quiet 129 = .ok (.iload_n 3, 1) := by decide +kernel
theorem dX11_quiet_130 : decode cX11_quiet 130 = .ok (.goto 5, 3) := by decide +kernel
theorem dX11_quiet_133 : decode cX11_quiet 133 = .ok (.iload 4, 2) := by decide +kernel
theorem dX11_quiet_135 : decode cX11_quiet 135 = .ok (.ireturn, 1) := by decide +kernel
theorem dX11_ends_0 : decode cX11_ends 0 = .ok (.aload_n 0, 1) := by decide +kernel
theorem dX11_ends_1 : decode cX11_ends 1 = .ok (.iconst 0, 1) := by decide +kernel
theorem dX11_ends_2 : decode cX11_ends 2 = .ok (.putfield 48, 3) := by decide +kernel
theorem dX11_ends_5 : decode cX11_ends 5 = .ok (.iload_n 1, 1) := by decide +kernel
theorem dX11_ends_6 : decode cX11_ends 6 = .ok (.i2l, 1) := by decide +kernel
theorem dX11_ends_7 : decode cX11_ends 7 = .ok (.lconst 1, 1) := by decide +kernel
theorem dX11_ends_8 : decode cX11_ends 8 = .ok (.ldc2_w 100, 3) := by decide +kernel
theorem dX11_ends_11 : decode cX11_ends 11 = .ok (.invokestatic 52, 3) := by decide +kernel
theorem dX11_ends_14 : decode cX11_ends 14 = .ok (.ifCond .ne 5, 3) := by decide +kernel
theorem dX11_ends_17 : decode cX11_ends 17 = .ok (.iconst (-1), 1) := by decide +kernel
theorem dX11_ends_18 : decode cX11_ends 18 = .ok (.ireturn, 1) := by decide +kernel
theorem dX11_ends_19 : decode cX11_ends 19 = .ok (.iconst 1, 1) := by decide +kernel
theorem dX11_ends_20 : decode cX11_ends 20 = .ok (.istore_n 2, 1) := by decide +kernel
theorem dX11_ends_21 : decode cX11_ends 21 = .ok (.iload_n 2, 1) := by decide +kernel
theorem dX11_ends_22 : decode cX11_ends 22 = .ok (.bipush 100, 2) := by decide +kernel
theorem dX11_ends_24 : decode cX11_ends 24 = .ok (.if_icmp .gt 41, 3) := by decide +kernel
theorem dX11_ends_27 : decode cX11_ends 27 = .ok (.aload_n 0, 1) := by decide +kernel
theorem dX11_ends_28 : decode cX11_ends 28 = .ok (.getfield 7, 3) := by decide +kernel
theorem dX11_ends_31 : decode cX11_ends 31 = .ok (.aload_n 0, 1) := by decide +kernel
theorem dX11_ends_32 : decode cX11_ends 32 = .ok (.getfield 13, 3) := by decide +kernel
theorem dX11_ends_35 : decode cX11_ends 35 = .ok (.invokestatic 162, 3) := by decide +kernel
theorem dX11_ends_38 : decode cX11_ends 38 = .ok (.aload_n 0, 1) := by decide +kernel
theorem dX11_ends_39 : decode cX11_ends 39 = .ok (.getfield 13, 3) := by decide +kernel
theorem dX11_ends_42 : decode cX11_ends 42 = .ok (.iconst 2, 1) := by decide +kernel
theorem dX11_ends_43 : decode cX11_ends 43 = .ok (.iload_n 2, 1) := by decide +kernel
theorem dX11_ends_44 : decode cX11_ends 44 = .ok (.iastore, 1) := by decide +kernel
theorem dX11_ends_45 : decode cX11_ends 45 = .ok (.aload_n 0, 1) := by decide +kernel
theorem dX11_ends_46 : decode cX11_ends 46 = .ok (.iload_n 1, 1) := by decide +kernel
theorem dX11_ends_47 : decode cX11_ends 47 = .ok (.invokevirtual 180, 3) := by decide +kernel
theorem dX11_ends_50 : decode cX11_ends 50 = .ok (.aload_n 0, 1) := by decide +kernel
theorem dX11_ends_51 : decode cX11_ends 51 = .ok (.getfield 87, 3) := by decide +kernel
theorem dX11_ends_54 : decode cX11_ends 54 = .ok (.ifCond .ne 5, 3) := by decide +kernel
theorem dX11_ends_57 : decode cX11_ends 57 = .ok (.iload_n 2, 1) := by decide +kernel
theorem dX11_ends_58 : decode cX11_ends 58 = .ok (.ireturn, 1) := by decide +kernel
theorem dX11_ends_59 : decode cX11_ends 59 = .ok (.iinc 2 1, 3) := by decide +kernel
theorem dX11_ends_62 : decode cX11_ends 62 = .ok (.goto (-41), 3) := by decide +kernel
theorem dX11_ends_65 : decode cX11_ends 65 = .ok (.bipush (-4), 2) := by decide +kernel
theorem dX11_ends_67 : decode cX11_ends 67 = .ok (.ireturn, 1) := by decide +kernel
theorem dX11_raised_0 : decode cX11_raised 0 = .ok (.aload_n 0, 1) := by decide +kernel
theorem dX11_raised_1 : decode cX11_raised 1 = .ok (.iconst 0, 1) := by decide +kernel
theorem dX11_raised_2 : decode cX11_raised 2 = .ok (.putfield 48, 3) := by decide +kernel
theorem dX11_raised_5 : decode cX11_raised 5 = .ok (.iload_n 1, 1) := by decide +kernel
theorem dX11_raised_6 : decode cX11_raised 6 = .ok (.i2l, 1) := by decide +kernel
theorem dX11_raised_7 : decode cX11_raised 7 = .ok (.lconst 1, 1) := by decide +kernel
theorem dX11_raised_8 : decode cX11_raised 8 = .ok (.ldc2_w 113, 3) := by decide +kernel
theorem dX11_raised_11 : decode cX11_raised 11 = .ok (.invokestatic 52, 3) := by decide +kernel
theorem dX11_raised_14 : decode cX11_raised 14 = .ok (.ifCond .eq 25, 3) := by decide +kernel
theorem dX11_raised_17 : decode cX11_raised 17 = .ok (.iload_n 2, 1) := by decide +kernel
theorem dX11_raised_18 : decode cX11_raised 18 = .ok (.i2l, 1) := by decide +kernel
theorem dX11_raised_19 : decode cX11_raised 19 = .ok (.lconst 0, 1) := by decide +kernel
theorem dX11_raised_20 : decode cX11_raised 20 = .ok (.ldc2_w 100, 3) := by decide +kernel
theorem dX11_raised_23 : decode cX11_raised 23 = .ok (.invokestatic 52, 3) := by decide +kernel
theorem dX11_raised_26 : decode cX11_raised 26 = .ok (.ifCond .eq 13, 3) := by decide +kernel
theorem dX11_raised_29 : decode cX11_raised 29 = .ok (.iload_n 3, 1) := by decide +kernel
theorem dX11_raised_30 : decode cX11_raised 30 = .ok (.i2l, 1) := by decide +kernel
theorem dX11_raised_31 : decode cX11_raised 31 = .ok (.lconst 0, 1) := by decide +kernel
theorem dX11_raised_32 : decode cX11_raised 32 = .ok (.lconst 1, 1) := by decide +kernel
theorem dX11_raised_33 : decode cX11_raised 33 = .ok (.invokestatic 52, 3) := by decide +kernel
theorem dX11_raised_36 : decode cX11_raised 36 = .ok (.ifCond .ne 5, 3) := by decide +kernel
theorem dX11_raised_39 : decode cX11_raised 39 = .ok (.iconst (-1), 1) := by decide +kernel
theorem dX11_raised_40 : decode cX11_raised 40 = .ok (.ireturn, 1) := by decide +kernel
theorem dX11_raised_41 : decode cX11_raised 41 = .ok (.aload_n 0, 1) := by decide +kernel
theorem dX11_raised_42 : decode cX11_raised 42 = .ok (.getfield 7, 3) := by decide +kernel
theorem dX11_raised_45 : decode cX11_raised 45 = .ok (.aload_n 0, 1) := by decide +kernel
theorem dX11_raised_46 : decode cX11_raised 46 = .ok (.getfield 13, 3) := by decide +kernel
theorem dX11_raised_49 : decode cX11_raised 49 = .ok (.invokestatic 162, 3) := by decide +kernel
theorem dX11_raised_52 : decode cX11_raised 52 = .ok (.iconst 0, 1) := by decide +kernel
theorem dX11_raised_53 : decode cX11_raised 53 = .ok (.istore 4, 2) := by decide +kernel
theorem dX11_raised_55 : decode cX11_raised 55 = .ok (.iconst 0, 1) := by decide +kernel
theorem dX11_raised_56 : decode cX11_raised 56 = .ok (.istore 5, 2) := by decide +kernel
theorem dX11_raised_58 : decode cX11_raised 58 = .ok (.iload 5, 2) := by decide +kernel
theorem dX11_raised_60 : decode cX11_raised 60 = .ok (.iload_n 2, 1) := by decide +kernel
theorem dX11_raised_61 : decode cX11_raised 61 = .ok (.if_icmp .ge 76, 3) := by decide +kernel
theorem dX11_raised_64 : decode cX11_raised 64 = .ok (.aload_n 0, 1) := by decide +kernel
theorem dX11_raised_65 : decode cX11_raised 65 = .ok (.getfield 13, 3) := by decide +kernel
theorem dX11_raised_68 : decode cX11_raised 68 = .ok (.iconst 2, 1) := by decide +kernel
theorem dX11_raised_69 : decode cX11_raised 69 = .ok (.iaload, 1) := by decide +kernel
theorem dX11_raised_70 : decode cX11_raised 70 = .ok (.iload_n 1, 1) := by decide +kernel
theorem dX11_raised_71 : decode cX11_raised 71 = .ok (.if_icmp .ge 7, 3) := by decide +kernel
theorem dX11_raised_74 : decode cX11_raised 74 = .ok (.iconst 1, 1) := by decide +kernel
theorem dX11_raised_75 : decode cX11_raised 75 = .ok (.goto 18, 3) := by decide +kernel
theorem dX11_raised_78 : decode cX11_raised 78 = .ok (.aload_n 0, 1) := by decide +kernel
theorem dX11_raised_79 : decode cX11_raised 79 = .ok (.getfield 13, 3) := by decide +kernel
theorem dX11_raised_82 : decode cX11_raised 82 = .ok (.iconst 2, 1) := by decide +kernel
theorem dX11_raised_83 : decode cX11_raised 83 = .ok (.iaload, 1) := by decide +kernel
theorem dX11_raised_84 : decode cX11_raised 84 = .ok (.iload_n 1, 1) := by decide +kernel
theorem dX11_raised_85 : decode cX11_raised 85 = .ok (.if_icmp .le 7, 3) := by decide +kernel
theorem dX11_raised_88 : decode cX11_raised 88 = .ok (.iconst (-1), 1) := by decide +kernel
theorem dX11_raised_89 : decode cX11_raised 89 = .ok (.goto 4, 3) := by decide +kernel
theorem dX11_raised_92 : decode cX11_raised 92 = .ok (.iconst 0, 1) := by decide +kernel
theorem dX11_raised_93 : decode cX11_raised 93 = .ok (.istore 6, 2) := by decide +kernel
theorem dX11_raised_95 : decode cX11_raised 95 = .ok (.aload_n 0, 1) := by decide +kernel
theorem dX11_raised_96 : decode cX11_raised 96 = .ok (.getfield 13, 3) := by decide +kernel
theorem dX11_raised_99 : decode cX11_raised 99 = .ok (.iconst 2, 1) := by decide +kernel
theorem dX11_raised_100 : decode cX11_raised 100 = .ok (.iload_n 3, 1) := by decide +kernel
theorem dX11_raised_101 : decode cX11_raised 101 = .ok (.ifCond .ne 7, 3) := by decide +kernel
theorem dX11_raised_104 : decode cX11_raised 104 = .ok (.iload_n 1, 1) := by decide +kernel
theorem dX11_raised_105 : decode cX11_raised 105 = .ok (.goto 12, 3) := by decide +kernel
theorem dX11_raised_108 : decode cX11_raised 108 = .ok (.aload_n 0, 1) := by decide +kernel
theorem dX11_raised_109 : decode cX11_raised 109 = .ok (.getfield 13, 3) := by decide +kernel
theorem dX11_raised_112 : decode cX11_raised 112 = .ok (.iconst 2, 1) := by decide +kernel
theorem dX11_raised_113 : decode cX11_raised 113 = .ok (.iaload, 1) := by decide +kernel
theorem dX11_raised_114 : decode cX11_raised 114 = .ok (.iload 6, 2) := by decide +kernel
theorem dX11_raised_116 : decode cX11_raised 116 = .ok (.iadd, 1) := by decide +kernel
theorem dX11_raised_117 : decode cX11_raised 117 = .ok (.iastore, 1) := by decide +kernel
theorem dX11_raised_118 : decode cX11_raised 118 = .ok (.iload 4, 2) := by decide +kernel
theorem dX11_raised_120 : decode cX11_raised 120 = .ok (.aload_n 0, 1) := by decide +kernel
theorem dX11_raised_121 : decode cX11_raised 121 = .ok (.getfield 13, 3) := by decide +kernel
theorem dX11_raised_124 : decode cX11_raised 124 = .ok (.iconst 0, 1) := by decide +kernel
theorem dX11_raised_125 : decode cX11_raised 125 = .ok (.invokestatic 93, 3) := by decide +kernel
theorem dX11_raised_128 : decode cX11_raised 128 = .ok (.iadd, 1) := by decide +kernel
theorem dX11_raised_129 : decode cX11_raised 129 = .ok (.istore 4, 2) := by decide +kernel
theorem dX11_raised_131 : decode cX11_raised 131 = .ok (.iinc 5 1, 3) := by decide +kernel
theorem dX11_raised_134 : decode cX11_raised 134 = .ok (.goto (-76), 3) := by decide +kernel
theorem dX11_raised_137 : decode cX11_raised 137 = .ok (.iload 4, 2) := by decide +kernel
theorem dX11_raised_139 : decode cX11_raised 139 = .ok (.ireturn, 1) := by decide +kernel
theorem dX11_hoped_0 : decode cX11_hoped 0 = .ok (.aload_n 0, 1) := by decide +kernel
theorem dX11_hoped_1 : decode cX11_hoped 1 = .ok (.iconst 0, 1) := by decide +kernel
theorem dX11_hoped_2 : decode cX11_hoped 2 = .ok (.putfield 48, 3) := by decide +kernel
theorem dX11_hoped_5 : decode cX11_hoped 5 = .ok (.iload_n 1, 1) := by decide +kernel
theorem dX11_hoped_6 : decode cX11_hoped 6 = .ok (.i2l, 1) := by decide +kernel
theorem dX11_hoped_7 : decode cX11_hoped 7 = .ok (.lconst 0, 1) := by decide +kernel
theorem dX11_hoped_8 : decode cX11_hoped 8 = .ok (.ldc2_w 100, 3) := by decide +kernel
theorem dX11_hoped_11 : decode cX11_hoped 11 = .ok (.invokestatic 52, 3) := by decide +kernel
theorem dX11_hoped_14 : decode cX11_hoped 14 = .ok (.ifCond .eq 13, 3) := by decide +kernel
theorem dX11_hoped_17 : decode cX11_hoped 17 = .ok (.iload_n 2, 1) := by decide +kernel
theorem dX11_hoped_18 : decode cX11_hoped 18 = .ok (.i2l, 1) := by decide +kernel
theorem dX11_hoped_19 : decode cX11_hoped 19 = .ok (.lconst 0, 1) := by decide +kernel
theorem dX11_hoped_20 : decode cX11_hoped 20 = .ok (.lconst 1, 1) := by decide +kernel
theorem dX11_hoped_21 : decode cX11_hoped 21 = .ok (.invokestatic 52, 3) := by decide +kernel
theorem dX11_hoped_24 : decode cX11_hoped 24 = .ok (.ifCond .ne 5, 3) := by decide +kernel
theorem dX11_hoped_27 : decode cX11_hoped 27 = .ok (.iconst (-1), 1) := by decide +kernel
theorem dX11_hoped_28 : decode cX11_hoped 28 = .ok (.ireturn, 1) := by decide +kernel
theorem dX11_hoped_29 : decode cX11_hoped 29 = .ok (.iconst 0, 1) := by decide +kernel
theorem dX11_hoped_30 : decode cX11_hoped 30 = .ok (.istore_n 3, 1) := by decide +kernel
theorem dX11_hoped_31 : decode cX11_hoped 31 = .ok (.iconst 0, 1) := by decide +kernel
theorem dX11_hoped_32 : decode cX11_hoped 32 = .ok (.istore 4, 2) := by decide +kernel
theorem dX11_hoped_34 : decode cX11_hoped 34 = .ok (.iload 4, 2) := by decide +kernel
theorem dX11_hoped_36 : decode cX11_hoped 36 = .ok (.aload_n 0, 1) := by decide +kernel
theorem dX11_hoped_37 : decode cX11_hoped 37 = .ok (.getfield 7, 3) := by decide +kernel
theorem dX11_hoped_40 : decode cX11_hoped 40 = .ok (.bipush 6, 2) := by decide +kernel
theorem dX11_hoped_42 : decode cX11_hoped 42 = .ok (.iaload, 1) := by decide +kernel
theorem dX11_hoped_43 : decode cX11_hoped 43 = .ok (.if_icmp .ge 34, 3) := by decide +kernel
theorem dX11_hoped_46 : decode cX11_hoped 46 = .ok (.iload_n 3, 1) := by decide +kernel
theorem dX11_hoped_47 : decode cX11_hoped 47 = .ok (.aload_n 0, 1) := by decide +kernel
theorem dX11_hoped_48 : decode cX11_hoped 48 = .ok (.getfield 7, 3) := by decide +kernel
theorem dX11_hoped_51 : decode cX11_hoped 51 = .ok (.iload 4, 2) := by decide +kernel
theorem dX11_hoped_53 : decode cX11_hoped 53 = .ok (.iconst 0, 1) := by decide +kernel
theorem dX11_hoped_54 : decode cX11_hoped 54 = .ok (.invokestatic 56, 3) := by decide +kernel
theorem dX11_hoped_57 : decode cX11_hoped 57 = .ok (.iconst 5, 1) := by decide +kernel
theorem dX11_hoped_58 : decode cX11_hoped 58 = .ok (.if_icmp .ne 10, 3) := by decide +kernel
theorem dX11_hoped_61 : decode cX11_hoped 61 = .ok (.iconst 1, 1) := by decide +kernel
theorem dX11_hoped_62 : decode cX11_hoped 62 = .ok (.iload 4, 2) := by decide +kernel
theorem dX11_hoped_64 : decode cX11_hoped 64 = .ok (.ishl, 1) := by decide +kernel
theorem dX11_hoped_65 : decode cX11_hoped 65 = .ok (.goto 4, 3) := by decide +kernel
theorem dX11_hoped_68 : decode cX11_hoped 68 = .ok (.iconst 0, 1) := by decide +kernel
theorem dX11_hoped_69 : decode cX11_hoped 69 = .ok (.ior, 1) := by decide +kernel
theorem dX11_hoped_70 : decode cX11_hoped 70 = .ok (.istore_n 3, 1) := by decide +kernel
theorem dX11_hoped_71 : decode cX11_hoped 71 = .ok (.iinc 4 1, 3) := by decide +kernel
theorem dX11_hoped_74 : decode cX11_hoped 74 = .ok (.goto (-40), 3) := by decide +kernel
theorem dX11_hoped_77 : decode cX11_hoped 77 = .ok (.bipush (-4), 2) := by decide +kernel
theorem dX11_hoped_79 : decode cX11_hoped 79 = .ok (.istore 4, 2) := by decide +kernel
theorem dX11_hoped_81 : decode cX11_hoped 81 = .ok (.iconst (-1), 1) := by decide +kernel
theorem dX11_hoped_82 : decode cX11_hoped 82 = .ok (.istore 5, 2) := by decide +kernel
theorem dX11_hoped_84 : decode cX11_hoped 84 = .ok (.iconst 0, 1) := by decide +kernel
theorem dX11_hoped_85 : decode cX11_hoped 85 = .ok (.istore 6, 2) := by decide +kernel
theorem dX11_hoped_87 : decode cX11_hoped 87 = .ok (.iload 6, 2) := by decide +kernel
theorem dX11_hoped_89 : decode cX11_hoped 89 = .ok (.iload_n 3, 1) := by decide +kernel
theorem dX11_hoped_90 : decode cX11_hoped 90 = .ok (.if_icmp .gt 120, 3) := by decide +kernel
theorem dX11_hoped_93 : decode cX11_hoped 93 = .ok (.iload 6, 2) := by decide +kernel
theorem dX11_hoped_95 : decode cX11_hoped 95 = .ok (.iload_n 3, 1) := by decide +kernel
theorem dX11_hoped_96 : decode cX11_hoped 96 = .ok (.iconst (-1), 1) := by decide +kernel
