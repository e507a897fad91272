theorem dX0_init_0 : decode cX0_init 0 = .ok (.aload_n 0, 1) := by decide +kernel
theorem dX0_init_1 : decode cX0_init 1 = .ok (.iload_n 1, 1) := by decide +kernel
theorem dX0_init_2 : decode cX0_init 2 = .ok (.invokespecial 3, 3) := by decide +kernel
theorem dX0_init_5 : decode cX0_init 5 = .ok (.return_, 1) := by decide +kernel
theorem dX0_kind_0 : decode cX0_kind 0 = .ok (.iconst 1, 1) := by decide +kernel
theorem dX0_kind_1 : decode cX0_kind 1 = .ok (.ireturn, 1) := by decide +kernel
theorem dX0_words_0 : decode cX0_words 0 = .ok (.bipush 99, 2) := by decide +kernel
theorem dX0_words_2 : decode cX0_words 2 = .ok (.iconst 2, 1) := by decide +kernel
theorem dX0_words_3 : decode cX0_words 3 = .ok (.aload_n 0, 1) := by decide +kernel
theorem dX0_words_4 : decode cX0_words 4 = .ok (.iload_n 1, 1) := by decide +kernel
theorem dX0_words_5 : decode cX0_words 5 = .ok (.iload_n 2, 1) := by decide +kernel
theorem dX0_words_6 : decode cX0_words 6 = .ok (.iload_n 3, 1) := by decide +kernel
theorem dX0_words_7 : decode cX0_words 7 = .ok (.iload 4, 2) := by decide +kernel
theorem dX0_words_9 : decode cX0_words 9 = .ok (.invokespecial 9, 3) := by decide +kernel
theorem dX0_words_12 : decode cX0_words 12 = .ok (.imul, 1) := by decide +kernel
theorem dX0_words_13 : decode cX0_words 13 = .ok (.invokestatic 13, 3) := by decide +kernel
theorem dX0_words_16 : decode cX0_words 16 = .ok (.ireturn, 1) := by decide +kernel
theorem dX0_pays_0 : decode cX0_pays 0 = .ok (.bipush 10, 2) := by decide +kernel
theorem dX0_pays_2 : decode cX0_pays 2 = .ok (.iload_n 2, 1) := by decide +kernel
theorem dX0_pays_3 : decode cX0_pays 3 = .ok (.imul, 1) := by decide +kernel
theorem dX0_pays_4 : decode cX0_pays 4 = .ok (.ireturn, 1) := by decide +kernel
theorem dX0_habitThen_0 : decode cX0_habitThen 0 = .ok (.bipush 99, 2) := by decide +kernel
theorem dX0_habitThen_2 : decode cX0_habitThen 2 = .ok (.iload_n 1, 1) := by decide +kernel
theorem dX0_habitThen_3 : decode cX0_habitThen 3 = .ok (.iconst 1, 1) := by decide +kernel
theorem dX0_habitThen_4 : decode cX0_habitThen 4 = .ok (.iadd, 1) := by decide +kernel
theorem dX0_habitThen_5 : decode cX0_habitThen 5 = .ok (.invokestatic 13, 3) := by decide +kernel
theorem dX0_habitThen_8 : decode cX0_habitThen 8 = .ok (.ireturn, 1) := by decide +kernel
theorem dX1_init_0 : decode cX1_init 0 = .ok (.aload_n 0, 1) := by decide +kernel
theorem dX1_init_1 : decode cX1_init 1 = .ok (.iload_n 1, 1) := by decide +kernel
theorem dX1_init_2 : decode cX1_init 2 = .ok (.invokespecial 3, 3) := by decide +kernel
theorem dX1_init_5 : decode cX1_init 5 = .ok (.return_, 1) := by decide +kernel
theorem dX1_kind_0 : decode cX1_kind 0 = .ok (.iconst 5, 1) := by decide +kernel
theorem dX1_kind_1 : decode cX1_kind 1 = .ok (.ireturn, 1) := by decide +kernel
theorem dX1_isChild_0 : decode cX1_isChild 0 = .ok (.iconst 1, 1) := by decide +kernel
theorem dX1_isChild_1 : decode cX1_isChild 1 = .ok (.ireturn, 1) := by decide +kernel
theorem dX1_words_0 : decode cX1_words 0 = .ok (.iconst 0, 1) := by decide +kernel
theorem dX1_words_1 : decode cX1_words 1 = .ok (.ireturn, 1) := by decide +kernel
theorem dX2_init_0 : decode cX2_init 0 = .ok (.aload_n 0, 1) := by decide +kernel
theorem dX2_init_1 : decode cX2_init 1 = .ok (.iload_n 1, 1) := by decide +kernel
theorem dX2_init_2 : decode cX2_init 2 = .ok (.invokespecial 3, 3) := by decide +kernel
theorem dX2_init_5 : decode cX2_init 5 = .ok (.return_, 1) := by decide +kernel
theorem dX2_kind_0 : decode cX2_kind 0 = .ok (.iconst 2, 1) := by decide +kernel
theorem dX2_kind_1 : decode cX2_kind 1 = .ok (.ireturn, 1) := by decide +kernel
theorem dX2_pays_0 : decode cX2_pays 0 = .ok (.iconst 2, 1) := by decide +kernel
theorem dX2_pays_1 : decode cX2_pays 1 = .ok (.aload_n 0, 1) := by decide +kernel
theorem dX2_pays_2 : decode cX2_pays 2 = .ok (.iload_n 1, 1) := by decide +kernel
theorem dX2_pays_3 : decode cX2_pays 3 = .ok (.iload_n 2, 1) := by decide +kernel
theorem dX2_pays_4 : decode cX2_pays 4 = .ok (.invokespecial 9, 3) := by decide +kernel
theorem dX2_pays_7 : decode cX2_pays 7 = .ok (.imul, 1) := by decide +kernel
theorem dX2_pays_8 : decode cX2_pays 8 = .ok (.ireturn, 1) := by decide +kernel
theorem dX3_init_0 : decode cX3_init 0 = .ok (.aload_n 0, 1) := by decide +kernel
theorem dX3_init_1 : decode cX3_init 1 = .ok (.invokespecial 3, 3) := by decide +kernel
theorem dX3_init_4 : decode cX3_init 4 = .ok (.aload_n 0, 1) := by decide +kernel
theorem dX3_init_5 : decode cX3_init 5 = .ok (.bipush 6, 2) := by decide +kernel
theorem dX3_init_7 : decode cX3_init 7 = .ok (.anewarray 9, 3) := by decide +kernel
theorem dX3_init_10 : decode cX3_init 10 = .ok (.putfield 11, 3) := by decide +kernel
theorem dX3_init_13 : decode cX3_init 13 = .ok (.aload_n 0, 1) := by decide +kernel
theorem dX3_init_14 : decode cX3_init 14 = .ok (.bipush 6, 2) := by decide +kernel
theorem dX3_init_16 : decode cX3_init 16 = .ok (.newarray .int, 2) := by decide +kernel
theorem dX3_init_18 : decode cX3_init 18 = .ok (.putfield 17, 3) := by decide +kernel
theorem dX3_init_21 : decode cX3_init 21 = .ok (.aload_n 0, 1) := by decide +kernel
theorem dX3_init_22 : decode cX3_init 22 = .ok (.iconst 0, 1) := by decide +kernel
theorem dX3_init_23 : decode cX3_init 23 = .ok (.putfield 21, 3) := by decide +kernel
theorem dX3_init_26 : decode cX3_init 26 = .ok (.aload_n 0, 1) := by decide +kernel
theorem dX3_init_27 : decode cX3_init 27 = .ok (.iconst 0, 1) := by decide +kernel
theorem dX3_init_28 : decode cX3_init 28 = .ok (.putfield 25, 3) := by decide +kernel
theorem dX3_init_31 : decode cX3_init 31 = .ok (.aload_n 0, 1) := by decide +kernel
theorem dX3_init_32 : decode cX3_init 32 = .ok (.iconst 0, 1) := by decide +kernel
theorem dX3_init_33 : decode cX3_init 33 = .ok (.putfield 28, 3) := by decide +kernel
theorem dX3_init_36 : decode cX3_init 36 = .ok (.aload_n 0, 1) := by decide +kernel
theorem dX3_init_37 : decode cX3_init 37 = .ok (.iconst 0, 1) := by decide +kernel
theorem dX3_init_38 : decode cX3_init 38 = .ok (.putfield 31, 3) := by decide +kernel
theorem dX3_init_41 : decode cX3_init 41 = .ok (.aload_n 0, 1) := by decide +kernel
theorem dX3_init_42 : decode cX3_init 42 = .ok (.sipush 4000, 3) := by decide +kernel
theorem dX3_init_45 : decode cX3_init 45 = .ok (.putfield 34, 3) := by decide +kernel
theorem dX3_init_48 : decode cX3_init 48 = .ok (.aload_n 0, 1) := by decide +kernel
theorem dX3_init_49 : decode cX3_init 49 = .ok (.bipush 20, 2) := by decide +kernel
theorem dX3_init_51 : decode cX3_init 51 = .ok (.putfield 37, 3) := by decide +kernel
theorem dX3_init_54 : decode cX3_init 54 = .ok (.aload_n 0, 1) := by decide +kernel
theorem dX3_init_55 : decode cX3_init 55 = .ok (.iconst 3, 1) := by decide +kernel
theorem dX3_init_56 : decode cX3_init 56 = .ok (.putfield 40, 3) := by decide +kernel
theorem dX3_init_59 : decode cX3_init 59 = .ok (.aload_n 0, 1) := by decide +kernel
theorem dX3_init_60 : decode cX3_init 60 = .ok (.iconst 0, 1) := by decide +kernel
theorem dX3_init_61 : decode cX3_init 61 = .ok (.putfield 43, 3) := by decide +kernel
theorem dX3_init_64 : decode cX3_init 64 = .ok (.aload_n 0, 1) := by decide +kernel
theorem dX3_init_65 : decode cX3_init 65 = .ok (.iconst 1, 1) := by decide +kernel
theorem dX3_init_66 : decode cX3_init 66 = .ok (.putfield 46, 3) := by decide +kernel
theorem dX3_init_69 : decode cX3_init 69 = .ok (.return_, 1) := by decide +kernel
theorem dX3_become_0 : decode cX3_become 0 = .ok (.iconst 0, 1) := by decide +kernel
theorem dX3_become_1 : decode cX3_become 1 = .ok (.istore_n 2, 1) := by decide +kernel
theorem dX3_become_2 : decode cX3_become 2 = .ok (.iload_n 2, 1) := by decide +kernel
theorem dX3_become_3 : decode cX3_become 3 = .ok (.bipush 6, 2) := by decide +kernel
theorem dX3_become_5 : decode cX3_become 5 = .ok (.if_icmp .ge 33, 3) := by decide +kernel
theorem dX3_become_8 : decode cX3_become 8 = .ok (.aload_n 0, 1) := by decide +kernel
theorem dX3_become_9 : decode cX3_become 9 = .ok (.getfield 11, 3) := by decide +kernel
theorem dX3_become_12 : decode cX3_become 12 = .ok (.iload_n 2, 1) := by decide +kernel
theorem dX3_become_13 : decode cX3_become 13 = .ok (.aload_n 1, 1) := by decide +kernel
theorem dX3_become_14 : decode cX3_become 14 = .ok (.getfield 11, 3) := by decide +kernel
theorem dX3_become_17 : decode cX3_become 17 = .ok (.iload_n 2, 1) := by decide +kernel
theorem dX3_become_18 : decode cX3_become 18 = .ok (.aaload, 1) := by decide +kernel
theorem dX3_become_19 : decode cX3_become 19 = .ok (.aastore, 1) := by decide +kernel
theorem dX3_become_20 : decode cX3_become 20 = .ok (.aload_n 0, 1) := by decide +kernel
theorem dX3_become_21 : decode cX3_become 21 = .ok (.getfield 17, 3) := by decide +kernel
theorem dX3_become_24 : decode cX3_become 24 = .ok (.iload_n 2, 1) := by decide +kernel
theorem dX3_become_25 : decode cX3_become 25 = .ok (.aload_n 1, 1) := by decide +kernel
theorem dX3_become_26 : decode cX3_become 26 = .ok (.getfield 17, 3) := by decide +kernel
theorem dX3_become_29 : decode cX3_become 29 = .ok (.iload_n 2, 1) := by decide +kernel
theorem dX3_become_30 : decode cX3_become 30 = .ok (.iaload, 1) := by decide +kernel
theorem dX3_become_31 : decode cX3_become 31 = .ok (.iastore, 1) := by decide +kernel
theorem dX3_become_32 : decode cX3_become 32 = .ok (.iinc 2 1, 3) := by decide +kernel
theorem dX3_become_35 : decode cX3_become 35 = .ok (.goto (-33), 3) := by decide +kernel
theorem dX3_become_38 : decode cX3_become 38 = .ok (.aload_n 0, 1) := by decide +kernel
theorem dX3_become_39 : decode cX3_become 39 = .ok (.aload_n 1, 1) := by decide +kernel
theorem dX3_become_40 : decode cX3_become 40 = .ok (.getfield 21, 3) := by decide +kernel
theorem dX3_become_43 : decode cX3_become 43 = .ok (.putfield 21, 3) := by decide +kernel
theorem dX3_become_46 : decode cX3_become 46 = .ok (.aload_n 0, 1) := by decide +kernel
theorem dX3_become_47 : decode cX3_become 47 = .ok (.aload_n 1, 1) := by decide +kernel
theorem dX3_become_48 : decode cX3_become 48 = .ok (.getfield 25, 3) := by decide +kernel
theorem dX3_become_51 : decode cX3_become 51 = .ok (.putfield 25, 3) := by decide +kernel
theorem dX3_become_54 : decode cX3_become 54 = .ok (.aload_n 0, 1) := by decide +kernel
theorem dX3_become_55 : decode cX3_become 55 = .ok (.aload_n 1, 1) := by decide +kernel
theorem dX3_become_56 : decode cX3_become 56 = .ok (.getfield 28, 3) := by decide +kernel
theorem dX3_become_59 : decode cX3_become 59 = .ok (.putfield 28, 3) := by decide +kernel
theorem dX3_become_62 : decode cX3_become 62 = .ok (.aload_n 0, 1) := by decide +kernel
theorem dX3_become_63 : decode cX3_become 63 = .ok (.aload_n 1, 1) := by decide +kernel
theorem dX3_become_64 : decode cX3_become 64 = .ok (.getfield 31, 3) := by decide +kernel
theorem dX3_become_67 : decode cX3_become 67 = .ok (.putfield 31, 3) := by decide +kernel
theorem dX3_become_70 : decode cX3_become 70 = .ok (.aload_n 0, 1) := by decide +kernel
theorem dX3_become_71 : decode cX3_become 71 = .ok (.aload_n 1, 1) := by decide +kernel
theorem dX3_become_72 : decode cX3_become 72 = .ok (.getfield 34, 3) := by decide +kernel
theorem dX3_become_75 : decode cX3_become 75 = .ok (.putfield 34, 3) := by decide +kernel
theorem dX3_become_78 : decode cX3_become 78 = .ok (.aload_n 0, 1) := by decide +kernel
theorem dX3_become_79 : decode cX3_become 79 = .ok (.aload_n 1, 1) := by decide +kernel
theorem dX3_become_80 : decode cX3_become 80 = .ok (.getfield 37, 3) := by decide +kernel
theorem dX3_become_83 : decode cX3_become 83 = .ok (.putfield 37, 3) := by decide +kernel
theorem dX3_become_86 : decode cX3_become 86 = .ok (.aload_n 0, 1) := by decide +kernel
theorem dX3_become_87 : decode cX3_become 87 = .ok (.aload_n 1, 1) := by decide +kernel
theorem dX3_become_88 : decode cX3_become 88 = .ok (.getfield 40, 3) := by decide +kernel
theorem dX3_become_91 : decode cX3_become 91 = .ok (.putfield 40, 3) := by decide +kernel
theorem dX3_become_94 : decode cX3_become 94 = .ok (.aload_n 0, 1) := by decide +kernel
theorem dX3_become_95 : decode cX3_become 95 = .ok (.aload_n 1, 1) := by decide +kernel
theorem dX3_become_96 : decode cX3_become 96 = .ok (.getfield 43, 3) := by decide +kernel
theorem dX3_become_99 : decode cX3_become 99 = .ok (.putfield 43, 3) := by decide +kernel
theorem dX3_become_102 : decode cX3_become 102 = .ok (.aload_n 0, 1) := by decide +kernel
theorem dX3_become_103 : decode cX3_become 103 = .ok (.aload_n 1, 1) := by decide +kernel
theorem dX3_become_104 : decode cX3_become 104 = .ok (.getfield 46, 3) := by decide +kernel
theorem dX3_become_107 : decode cX3_become 107 = .ok (.putfield 46, 3) := by decide +kernel
theorem dX3_become_110 : decode cX3_become 110 = .ok (.return_, 1) := by decide +kernel
theorem dX3_moveOut_0 : decode cX3_moveOut 0 = .ok (.aload_n 0, 1) := by decide +kernel
theorem dX3_moveOut_1 : decode cX3_moveOut 1 = .ok (.iconst 0, 1) := by decide +kernel
theorem dX3_moveOut_2 : decode cX3_moveOut 2 = .ok (.putfield 21, 3) := by decide +kernel
theorem dX3_moveOut_5 : decode cX3_moveOut 5 = .ok (.aload_n 0, 1) := by decide +kernel
theorem dX3_moveOut_6 : decode cX3_moveOut 6 = .ok (.iconst 0, 1) := by decide +kernel
theorem dX3_moveOut_7 : decode cX3_moveOut 7 = .ok (.putfield 25, 3) := by decide +kernel
theorem dX3_moveOut_10 : decode cX3_moveOut 10 = .ok (.aload_n 0, 1) := by decide +kernel
theorem dX3_moveOut_11 : decode cX3_moveOut 11 = .ok (.iconst 0, 1) := by decide +kernel
theorem dX3_moveOut_12 : decode cX3_moveOut 12 = .ok (.putfield 28, 3) := by decide +kernel
theorem dX3_moveOut_15 : decode cX3_moveOut 15 = .ok (.aload_n 0, 1) := by decide +kernel
theorem dX3_moveOut_16 : decode cX3_moveOut 16 = .ok (.iconst 0, 1) := by decide +kernel
theorem dX3_moveOut_17 : decode cX3_moveOut 17 = .ok (.putfield 31, 3) := by decide +kernel
theorem dX3_moveOut_20 : decode cX3_moveOut 20 = .ok (.aload_n 0, 1) := by decide +kernel
theorem dX3_moveOut_21 : decode cX3_moveOut 21 = .ok (.iconst 0, 1) := by decide +kernel
theorem dX3_moveOut_22 : decode cX3_moveOut 22 = .ok (.putfield 43, 3) := by decide +kernel
theorem dX3_moveOut_25 : decode cX3_moveOut 25 = .ok (.return_, 1) := by decide +kernel
theorem dX3_add_0 : decode cX3_add 0 = .ok (.aload_n 0, 1) := by decide +kernel
theorem dX3_add_1 : decode cX3_add 1 = .ok (.getfield 21, 3) := by decide +kernel
theorem dX3_add_4 : decode cX3_add 4 = .ok (.bipush 6, 2) := by decide +kernel
theorem dX3_add_6 : decode cX3_add 6 = .ok (.if_icmp .lt 4, 3) := by decide +kernel
theorem dX3_add_9 : decode cX3_add 9 = .ok (.return_, 1) := by decide +kernel
theorem dX3_add_10 : decode cX3_add 10 = .ok (.aload_n 0, 1) := by decide +kernel
theorem dX3_add_11 : decode cX3_add 11 = .ok (.getfield 11, 3) := by decide +kernel
theorem dX3_add_14 : decode cX3_add 14 = .ok (.aload_n 0, 1) := by decide +kernel
theorem dX3_add_15 : decode cX3_add 15 = .ok (.getfield 21, 3) := by decide +kernel
theorem dX3_add_18 : decode cX3_add 18 = .ok (.aload_n 1, 1) := by decide +kernel
theorem dX3_add_19 : decode cX3_add 19 = .ok (.aastore, 1) := by decide +kernel
theorem dX3_add_20 : decode cX3_add 20 = .ok (.aload_n 0, 1) := by decide +kernel
theorem dX3_add_21 : decode cX3_add 21 = .ok (.getfield 17, 3) := by decide +kernel
theorem dX3_add_24 : decode cX3_add 24 = .ok (.aload_n 0, 1) := by decide +kernel
theorem dX3_add_25 : decode cX3_add 25 = .ok (.getfield 21, 3) := by decide +kernel
theorem dX3_add_28 : decode cX3_add 28 = .ok (.iload_n 2, 1) := by decide +kernel
theorem dX3_add_29 : decode cX3_add 29 = .ok (.iastore, 1) := by decide +kernel
theorem dX3_add_30 : decode cX3_add 30 = .ok (.iconst 1, 1) := by decide +kernel
theorem dX3_add_31 : decode cX3_add 31 = .ok (.aload_n 0, 1) := by decide +kernel
theorem dX3_add_32 : decode cX3_add 32 = .ok (.getfield 21, 3) := by decide +kernel
theorem dX3_add_35 : decode cX3_add 35 = .ok (.ishl, 1) := by decide +kernel
theorem dX3_add_36 : decode cX3_add 36 = .ok (.istore 4, 2) := by decide +kernel
theorem dX3_add_38 : decode cX3_add 38 = .ok (.aload_n 0, 1) := by decide +kernel
theorem dX3_add_39 : decode cX3_add 39 = .ok (.iload_n 3, 1) := by decide +kernel
theorem dX3_add_40 : decode cX3_add 40 = .ok (.ifCond .eq 13, 3) := by decide +kernel
theorem dX3_add_43 : decode cX3_add 43 = .ok (.aload_n 0, 1) := by decide +kernel
theorem dX3_add_44 : decode cX3_add 44 = .ok (.getfield 25, 3) := by decide +kernel
theorem dX3_add_47 : decode cX3_add 47 = .ok (.iload 4, 2) := by decide +kernel
theorem dX3_add_49 : decode cX3_add 49 = .ok (.ior, 1) := by decide +kernel
theorem dX3_add_50 : decode cX3_add 50 = .ok (.goto 12, 3) := by decide +kernel
theorem dX3_add_53 : decode cX3_add 53 = .ok (.aload_n 0, 1) := by decide +kernel
theorem dX3_add_54 : decode cX3_add 54 = .ok (.getfield 25, 3) := by decide +kernel
theorem dX3_add_57 : decode cX3_add 57 = .ok (.iload 4, 2) := by decide +kernel
theorem dX3_add_59 : decode cX3_add 59 = .ok (.iconst (-1), 1) := by decide +kernel
theorem dX3_add_60 : decode cX3_add 60 = .ok (.ixor, 1) := by decide +kernel
theorem dX3_add_61 : decode cX3_add 61 = .ok (.iand, 1) := by decide +kernel
theorem dX3_add_62 : decode cX3_add 62 = .ok (.putfield 25, 3) := by decide +kernel
theorem dX3_add_65 : decode cX3_add 65 = .ok (.aload_n 0, 1) := by decide +kernel
theorem dX3_add_66 : decode cX3_add 66 = .ok (.aload_n 1, 1) := by decide +kernel
theorem dX3_add_67 : decode cX3_add 67 = .ok (.invokevirtual 49, 3) := by decide +kernel
theorem dX3_add_70 : decode cX3_add 70 = .ok (.ifCond .eq 13, 3) := by decide +kernel
theorem dX3_add_73 : decode cX3_add 73 = .ok (.aload_n 0, 1) := by decide +kernel
theorem dX3_add_74 : decode cX3_add 74 = .ok (.getfield 28, 3) := by decide +kernel
theorem dX3_add_77 : decode cX3_add 77 = .ok (.iload 4, 2) := by decide +kernel
theorem dX3_add_79 : decode cX3_add 79 = .ok (.ior, 1) := by decide +kernel
theorem dX3_add_80 : decode cX3_add 80 = .ok (.goto 12, 3) := by decide +kernel
theorem dX3_add_83 : decode cX3_add 83 = .ok (.aload_n 0, 1) := by decide +kernel
theorem dX3_add_84 : decode cX3_add 84 = .ok (.getfield 28, 3) := by decide +kernel
theorem dX3_add_87 : decode cX3_add 87 = .ok (.iload 4, 2) := by decide +kernel
theorem dX3_add_89 : decode cX3_add 89 = .ok (.iconst (-1), 1) := by decide +kernel
theorem dX3_add_90 : decode cX3_add 90 = .ok (.ixor, 1) := by decide +kernel
theorem dX3_add_91 : decode cX3_add 91 = .ok (.iand, 1) := by decide +kernel
theorem dX3_add_92 : decode cX3_add 92 = .ok (.putfield 28, 3) := by decide +kernel
theorem dX3_add_95 : decode cX3_add 95 = .ok (.aload_n 0, 1) := by decide +kernel
theorem dX3_add_96 : decode cX3_add 96 = .ok (.dup, 1) := by decide +kernel
theorem dX3_add_97 : decode cX3_add 97 = .ok (.getfield 21, 3) := by decide +kernel
theorem dX3_add_100 : decode cX3_add 100 = .ok (.iconst 1, 1) := by decide +kernel
theorem dX3_add_101 : decode cX3_add 101 = .ok (.iadd, 1) := by decide +kernel
theorem dX3_add_102 : decode cX3_add 102 = .ok (.putfield 21, 3) := by decide +kernel
theorem dX3_add_105 : decode cX3_add 105 = .ok (.return_, 1) := by decide +kernel
theorem dX3_withHopes_0 : decode cX3_withHopes 0 = .ok (.aload_n 0, 1) := by decide +kernel
theorem dX3_withHopes_1 : decode cX3_withHopes 1 = .ok (.getfield 31, 3) := by decide +kernel
theorem dX3_withHopes_4 : decode cX3_withHopes 4 = .ok (.aload_n 0, 1) := by decide +kernel
theorem dX3_withHopes_5 : decode cX3_withHopes 5 = .ok (.getfield 34, 3) := by decide +kernel
theorem dX3_withHopes_8 : decode cX3_withHopes 8 = .ok (.if_icmp .ge 20, 3) := by decide +kernel
theorem dX3_withHopes_11 : decode cX3_withHopes 11 = .ok (.iload_n 1, 1) := by decide +kernel
theorem dX3_withHopes_12 : decode cX3_withHopes 12 = .ok (.aload_n 0, 1) := by decide +kernel
theorem dX3_withHopes_13 : decode cX3_withHopes 13 = .ok (.getfield 25, 3) := by decide +kernel
theorem dX3_withHopes_16 : decode cX3_withHopes 16 = .ok (.aload_n 0, 1) := by decide +kernel
theorem dX3_withHopes_17 : decode cX3_withHopes 17 = .ok (.getfield 28, 3) := by decide +kernel
theorem dX3_withHopes_20 : decode cX3_withHopes 20 = .ok (.iand, 1) := by decide +kernel
theorem dX3_withHopes_21 : decode cX3_withHopes 21 = .ok (.invokestatic 53, 3) := by decide +kernel
theorem dX3_withHopes_24 : decode cX3_withHopes 24 = .ok (.iadd, 1) := by decide +kernel
theorem dX3_withHopes_25 : decode cX3_withHopes 25 = .ok (.goto 4, 3) := by decide +kernel
theorem dX3_withHopes_28 : decode cX3_withHopes 28 = .ok (.iload_n 1, 1) := by decide +kernel
theorem dX3_withHopes_29 : decode cX3_withHopes 29 = .ok (.ireturn, 1) := by decide +kernel
theorem dX3_wordsOf_0 : decode cX3_wordsOf 0 = .ok (.aload_n 0, 1) := by decide +kernel
theorem dX3_wordsOf_1 : decode cX3_wordsOf 1 = .ok (.getfield 11, 3) := by decide +kernel
theorem dX3_wordsOf_4 : decode cX3_wordsOf 4 = .ok (.iload_n 1, 1) := by decide +kernel
theorem dX3_wordsOf_5 : decode cX3_wordsOf 5 = .ok (.aaload, 1) := by decide +kernel
theorem dX3_wordsOf_6 : decode cX3_wordsOf 6 = .ok (.aload_n 0, 1) := by decide +kernel
theorem dX3_wordsOf_7 : decode cX3_wordsOf 7 = .ok (.aload_n 0, 1) := by decide +kernel
theorem dX3_wordsOf_8 : decode cX3_wordsOf 8 = .ok (.getfield 40, 3) := by decide +kernel
theorem dX3_wordsOf_11 : decode cX3_wordsOf 11 = .ok (.invokevirtual 59, 3) := by decide +kernel
theorem dX3_wordsOf_14 : decode cX3_wordsOf 14 = .ok (.aload_n 0, 1) := by decide +kernel
theorem dX3_wordsOf_15 : decode cX3_wordsOf 15 = .ok (.getfield 17, 3) := by decide +kernel
theorem dX3_wordsOf_18 : decode cX3_wordsOf 18 = .ok (.iload_n 1, 1) := by decide +kernel
theorem dX3_wordsOf_19 : decode cX3_wordsOf 19 = .ok (.iaload, 1) := by decide +kernel
theorem dX3_wordsOf_20 : decode cX3_wordsOf 20 = .ok (.aload_n 0, 1) := by decide +kernel
theorem dX3_wordsOf_21 : decode cX3_wordsOf 21 = .ok (.getfield 37, 3) := by decide +kernel
theorem dX3_wordsOf_24 : decode cX3_wordsOf 24 = .ok (.aload_n 0, 1) := by decide +kernel
theorem dX3_wordsOf_25 : decode cX3_wordsOf 25 = .ok (.getfield 43, 3) := by decide +kernel
theorem dX3_wordsOf_28 : decode cX3_wordsOf 28 = .ok (.invokevirtual 62, 3) := by decide +kernel
theorem dX3_wordsOf_31 : decode cX3_wordsOf 31 = .ok (.ireturn, 1) := by decide +kernel
theorem dX3_paysOf_0 : decode cX3_paysOf 0 = .ok (.aload_n 0, 1) := by decide +kernel
theorem dX3_paysOf_1 : decode cX3_paysOf 1 = .ok (.getfield 11, 3) := by decide +kernel
theorem dX3_paysOf_4 : decode cX3_paysOf 4 = .ok (.iload_n 1, 1) := by decide +kernel
theorem dX3_paysOf_5 : decode cX3_paysOf 5 = .ok (.aaload, 1) := by decide +kernel
theorem dX3_paysOf_6 : decode cX3_paysOf 6 = .ok (.aload_n 0, 1) := by decide +kernel
theorem dX3_paysOf_7 : decode cX3_paysOf 7 = .ok (.iload_n 1, 1) := by decide +kernel
theorem dX3_paysOf_8 : decode cX3_paysOf 8 = .ok (.invokevirtual 66, 3) := by decide +kernel
theorem dX3_paysOf_11 : decode cX3_paysOf 11 = .ok (.aload_n 0, 1) := by decide +kernel
theorem dX3_paysOf_12 : decode cX3_paysOf 12 = .ok (.getfield 37, 3) := by decide +kernel
theorem dX3_paysOf_15 : decode cX3_paysOf 15 = .ok (.invokevirtual 69, 3) := by decide +kernel
theorem dX3_paysOf_18 : decode cX3_paysOf 18 = .ok (.ireturn, 1) := by decide +kernel
theorem dX3_habitThenOf_0 : decode cX3_habitThenOf 0 = .ok (.aload_n 0, 1) := by decide +kernel
theorem dX3_habitThenOf_1 : decode cX3_habitThenOf 1 = .ok (.getfield 11, 3) := by decide +kernel
theorem dX3_habitThenOf_4 : decode cX3_habitThenOf 4 = .ok (.iload_n 1, 1) := by decide +kernel
theorem dX3_habitThenOf_5 : decode cX3_habitThenOf 5 = .ok (.aaload, 1) := by decide +kernel
theorem dX3_habitThenOf_6 : decode cX3_habitThenOf 6 = .ok (.aload_n 0, 1) := by decide +kernel
theorem dX3_habitThenOf_7 : decode cX3_habitThenOf 7 = .ok (.getfield 17, 3) := by decide +kernel
theorem dX3_habitThenOf_10 : decode cX3_habitThenOf 10 = .ok (.iload_n 1, 1) := by decide +kernel
theorem dX3_habitThenOf_11 : decode cX3_habitThenOf 11 = .ok (.iaload, 1) := by decide +kernel
theorem dX3_habitThenOf_12 : decode cX3_habitThenOf 12 = .ok (.aload_n 0, 1) := by decide +kernel
theorem dX3_habitThenOf_13 : decode cX3_habitThenOf 13 = .ok (.iload_n 1, 1) := by decide +kernel
theorem dX3_habitThenOf_14 : decode cX3_habitThenOf 14 = .ok (.invokevirtual 73, 3) := by decide +kernel
theorem dX3_habitThenOf_17 : decode cX3_habitThenOf 17 = .ok (.invokevirtual 76, 3) := by decide +kernel
theorem dX3_habitThenOf_20 : decode cX3_habitThenOf 20 = .ok (.ireturn, 1) := by decide +kernel
theorem dX3_wordsOfAll_0 : decode cX3_wordsOfAll 0 = .ok (.iconst 0, 1) := by decide +kernel
theorem dX3_wordsOfAll_1 : decode cX3_wordsOfAll 1 = .ok (.istore_n 1, 1) := by decide +kernel
theorem dX3_wordsOfAll_2 : decode cX3_wordsOfAll 2 = .ok (.iconst 0, 1) := by decide +kernel
theorem dX3_wordsOfAll_3 : decode cX3_wordsOfAll 3 = .ok (.istore_n 2, 1) := by decide +kernel
theorem dX3_wordsOfAll_4 : decode cX3_wordsOfAll 4 = .ok (.iload_n 2, 1) := by decide +kernel
theorem dX3_wordsOfAll_5 : decode cX3_wordsOfAll 5 = .ok (.aload_n 0, 1) := by decide +kernel
theorem dX3_wordsOfAll_6 : decode cX3_wordsOfAll 6 = .ok (.getfield 21, 3) := by decide +kernel
theorem dX3_wordsOfAll_9 : decode cX3_wordsOfAll 9 = .ok (.if_icmp .ge 17, 3) := by decide +kernel
theorem dX3_wordsOfAll_12 : decode cX3_wordsOfAll 12 = .ok (.iload_n 1, 1) := by decide +kernel
theorem dX3_wordsOfAll_13 : decode cX3_wordsOfAll 13 = .ok (.aload_n 0, 1) := by decide +kernel
theorem dX3_wordsOfAll_14 : decode cX3_wordsOfAll 14 = .ok (.iload_n 2, 1) := by decide +kernel
theorem dX3_wordsOfAll_15 : decode cX3_wordsOfAll 15 = .ok (.invokevirtual 66, 3) := by decide +kernel
theorem dX3_wordsOfAll_18 : decode cX3_wordsOfAll 18 = .ok (.iadd, 1) := by decide +kernel
theorem dX3_wordsOfAll_19 : decode cX3_wordsOfAll 19 = .ok (.istore_n 1, 1) := by decide +kernel
theorem dX3_wordsOfAll_20 : decode cX3_wordsOfAll 20 = .ok (.iinc 2 1, 3) := by decide +kernel
theorem dX3_wordsOfAll_23 : decode cX3_wordsOfAll 23 = .ok (.goto (-19), 3) := by decide +kernel
theorem dX3_wordsOfAll_26 : decode cX3_wordsOfAll 26 = .ok (.iload_n 1, 1) := by decide +kernel
theorem dX3_wordsOfAll_27 : decode cX3_wordsOfAll 27 = .ok (.ireturn, 1) := by decide +kernel
theorem dX3_paysOfAll_0 : decode cX3_paysOfAll 0 = .ok (.iconst 0, 1) := by decide +kernel
theorem dX3_paysOfAll_1 : decode cX3_paysOfAll 1 = .ok (.istore_n 1, 1) := by decide +kernel
theorem dX3_paysOfAll_2 : decode cX3_paysOfAll 2 = .ok (.iconst 0, 1) := by decide +kernel
theorem dX3_paysOfAll_3 : decode cX3_paysOfAll 3 = .ok (.istore_n 2, 1) := by decide +kernel
theorem dX3_paysOfAll_4 : decode cX3_paysOfAll 4 = .ok (.iload_n 2, 1) := by decide +kernel
theorem dX3_paysOfAll_5 : decode cX3_paysOfAll 5 = .ok (.aload_n 0, 1) := by decide +kernel
theorem dX3_paysOfAll_6 : decode cX3_paysOfAll 6 = .ok (.getfield 21, 3) := by decide +kernel
theorem dX3_paysOfAll_9 : decode cX3_paysOfAll 9 = .ok (.if_icmp .ge 17, 3) := by decide +kernel
theorem dX3_paysOfAll_12 : decode cX3_paysOfAll 12 = .ok (.iload_n 1, 1) := by decide +kernel
theorem dX3_paysOfAll_13 : decode cX3_paysOfAll 13 = .ok (.aload_n 0, 1) := by decide +kernel
theorem dX3_paysOfAll_14 : decode cX3_paysOfAll 14 = .ok (.iload_n 2, 1) := by decide +kernel
theorem dX3_paysOfAll_15 : decode cX3_paysOfAll 15 = .ok (.invokevirtual 73, 3) := by decide +kernel
theorem dX3_paysOfAll_18 : decode cX3_paysOfAll 18 = .ok (.iadd, 1) := by decide +kernel
theorem dX3_paysOfAll_19 : decode cX3_paysOfAll 19 = .ok (.istore_n 1, 1) := by decide +kernel
theorem dX3_paysOfAll_20 : decode cX3_paysOfAll 20 = .ok (.iinc 2 1, 3) := by decide +kernel
theorem dX3_paysOfAll_23 : decode cX3_paysOfAll 23 = .ok (.goto (-19), 3) := by decide +kernel
theorem dX3_paysOfAll_26 : decode cX3_paysOfAll 26 = .ok (.iload_n 1, 1) := by decide +kernel
theorem dX3_paysOfAll_27 : decode cX3_paysOfAll 27 = .ok (.ireturn, 1) := by decide +kernel
theorem dX3_live_0 : decode cX3_live 0 = .ok (.aload_n 0, 1) := by decide +kernel
theorem dX3_live_1 : decode cX3_live 1 = .ok (.iload_n 1, 1) := by decide +kernel
theorem dX3_live_2 : decode cX3_live 2 = .ok (.invokevirtual 59, 3) := by decide +kernel
theorem dX3_live_5 : decode cX3_live 5 = .ok (.istore_n 2, 1) := by decide +kernel
theorem dX3_live_6 : decode cX3_live 6 = .ok (.iconst 0, 1) := by decide +kernel
theorem dX3_live_7 : decode cX3_live 7 = .ok (.istore_n 3, 1) := by decide +kernel
theorem dX3_live_8 : decode cX3_live 8 = .ok (.iconst 0, 1) := by decide +kernel
theorem dX3_live_9 : decode cX3_live 9 = .ok (.istore 4, 2) := by decide +kernel
theorem dX3_live_11 : decode cX3_live 11 = .ok (.iconst 0, 1) := by decide +kernel
theorem dX3_live_12 : decode cX3_live 12 = .ok (.istore 5, 2) := by decide +kernel
theorem dX3_live_14 : decode cX3_live 14 = .ok (.iload 5, 2) := by decide +kernel
theorem dX3_live_16 : decode cX3_live 16 = .ok (.aload_n 0, 1) := by decide +kernel
theorem dX3_live_17 : decode cX3_live 17 = .ok (.getfield 21, 3) := by decide +kernel
theorem dX3_live_20 : decode cX3_live 20 = .ok (.if_icmp .ge 87, 3) := by decide +kernel
theorem dX3_live_23 : decode cX3_live 23 = .ok (.aload_n 0, 1) := by decide +kernel
theorem dX3_live_24 : decode cX3_live 24 = .ok (.getfield 11, 3) := by decide +kernel
theorem dX3_live_27 : decode cX3_live 27 = .ok (.iload 5, 2) := by decide +kernel
theorem dX3_live_29 : decode cX3_live 29 = .ok (.aaload, 1) := by decide +kernel
theorem dX3_live_30 : decode cX3_live 30 = .ok (.astore 6, 2) := by decide +kernel
theorem dX3_live_32 : decode cX3_live 32 = .ok (.aload 6, 2) := by decide +kernel
theorem dX3_live_34 : decode cX3_live 34 = .ok (.iload_n 2, 1) := by decide +kernel
theorem dX3_live_35 : decode cX3_live 35 = .ok (.aload_n 0, 1) := by decide +kernel
theorem dX3_live_36 : decode cX3_live 36 = .ok (.getfield 17, 3) := by decide +kernel
theorem dX3_live_39 : decode cX3_live 39 = .ok (.iload 5, 2) := by decide +kernel
theorem dX3_live_41 : decode cX3_live 41 = .ok (.iaload, 1) := by decide +kernel
theorem dX3_live_42 : decode cX3_live 42 = .ok (.aload_n 0, 1) := by decide +kernel
theorem dX3_live_43 : decode cX3_live 43 = .ok (.getfield 37, 3) := by decide +kernel
theorem dX3_live_46 : decode cX3_live 46 = .ok (.aload_n 0, 1) := by decide +kernel
theorem dX3_live_47 : decode cX3_live 47 = .ok (.getfield 43, 3) := by decide +kernel
theorem dX3_live_50 : decode cX3_live 50 = .ok (.invokevirtual 62, 3) := by decide +kernel
theorem dX3_live_53 : decode cX3_live 53 = .ok (.istore 7, 2) := by decide +kernel
theorem dX3_live_55 : decode cX3_live 55 = .ok (.aload 6, 2) := by decide +kernel
theorem dX3_live_57 : decode cX3_live 57 = .ok (.iload 7, 2) := by decide +kernel
theorem dX3_live_59 : decode cX3_live 59 = .ok (.aload_n 0, 1) := by decide +kernel
theorem dX3_live_60 : decode cX3_live 60 = .ok (.getfield 37, 3) := by decide +kernel
theorem dX3_live_63 : decode cX3_live 63 = .ok (.invokevirtual 69, 3) := by decide +kernel
theorem dX3_live_66 : decode cX3_live 66 = .ok (.istore 8, 2) := by decide +kernel
theorem dX3_live_68 : decode cX3_live 68 = .ok (.aload_n 0, 1) := by decide +kernel
theorem dX3_live_69 : decode cX3_live 69 = .ok (.getfield 17, 3) := by decide +kernel
theorem dX3_live_72 : decode cX3_live 72 = .ok (.iload 5, 2) := by decide +kernel
theorem dX3_live_74 : decode cX3_live 74 = .ok (.aload 6, 2) := by decide +kernel
theorem dX3_live_76 : decode cX3_live 76 = .ok (.aload_n 0, 1) := by decide +kernel
theorem dX3_live_77 : decode cX3_live 77 = .ok (.getfield 17, 3) := by decide +kernel
theorem dX3_live_80 : decode cX3_live 80 = .ok (.iload 5, 2) := by decide +kernel
theorem dX3_live_82 : decode cX3_live 82 = .ok (.iaload, 1) := by decide +kernel
theorem dX3_live_83 : decode cX3_live 83 = .ok (.iload 8, 2) := by decide +kernel
theorem dX3_live_85 : decode cX3_live 85 = .ok (.invokevirtual 76, 3) := by decide +kernel
theorem dX3_live_88 : decode cX3_live 88 = .ok (.iastore, 1) := by decide +kernel
theorem dX3_live_89 : decode cX3_live 89 = .ok (.iload_n 3, 1) := by decide +kernel
theorem dX3_live_90 : decode cX3_live 90 = .ok (.iload 7, 2) := by decide +kernel
theorem dX3_live_92 : decode cX3_live 92 = .ok (.iadd, 1) := by decide +kernel
theorem dX3_live_93 : decode cX3_live 93 = .ok (.istore_n 3, 1) := by decide +kernel
theorem dX3_live_94 : decode cX3_live 94 = .ok (.iload 4, 2) := by decide +kernel
theorem dX3_live_96 : decode cX3_live 96 = .ok (.iload 8, 2) := by decide +kernel
theorem dX3_live_98 : decode cX3_live 98 = .ok (.iadd, 1) := by decide +kernel
theorem dX3_live_99 : decode cX3_live 99 = .ok (.istore 4, 2) := by decide +kernel
theorem dX3_live_101 : decode cX3_live 101 = .ok (.iinc 5 1, 3) := by decide +kernel
theorem dX3_live_104 : decode cX3_live 104 = .ok (.goto (-90), 3) := by decide +kernel
theorem dX3_live_107 : decode cX3_live 107 = .ok (.aload_n 0, 1) := by decide +kernel
theorem dX3_live_108 : decode cX3_live 108 = .ok (.sipush 9999, 3) := by decide +kernel
theorem dX3_live_111 : decode cX3_live 111 = .ok (.aload_n 0, 1) := by decide +kernel
theorem dX3_live_112 : decode cX3_live 112 = .ok (.getfield 31, 3) := by decide +kernel
theorem dX3_live_115 : decode cX3_live 115 = .ok (.iload 4, 2) := by decide +kernel
theorem dX3_live_117 : decode cX3_live 117 = .ok (.iadd, 1) := by decide +kernel
theorem dX3_live_118 : decode cX3_live 118 = .ok (.invokestatic 79, 3) := by decide +kernel
theorem dX3_live_121 : decode cX3_live 121 = .ok (.putfield 31, 3) := by decide +kernel
theorem dX3_live_124 : decode cX3_live 124 = .ok (.aload_n 0, 1) := by decide +kernel
theorem dX3_live_125 : decode cX3_live 125 = .ok (.dup, 1) := by decide +kernel
theorem dX3_live_126 : decode cX3_live 126 = .ok (.getfield 43, 3) := by decide +kernel
theorem dX3_live_129 : decode cX3_live 129 = .ok (.iconst 1, 1) := by decide +kernel
theorem dX3_live_130 : decode cX3_live 130 = .ok (.iadd, 1) := by decide +kernel
theorem dX3_live_131 : decode cX3_live 131 = .ok (.putfield 43, 3) := by decide +kernel
theorem dX3_live_134 : decode cX3_live 134 = .ok (.iload_n 3, 1) := by decide +kernel
theorem dX3_live_135 : decode cX3_live 135 = .ok (.ireturn, 1) := by decide +kernel
theorem dX3_liveOn_0 : decode cX3_liveOn 0 = .ok (.iconst 0, 1) := by decide +kernel
theorem dX3_liveOn_1 : decode cX3_liveOn 1 = .ok (.istore_n 2, 1) := by decide +kernel
theorem dX3_liveOn_2 : decode cX3_liveOn 2 = .ok (.iconst 0, 1) := by decide +kernel
theorem dX3_liveOn_3 : decode cX3_liveOn 3 = .ok (.istore_n 3, 1) := by decide +kernel
theorem dX3_liveOn_4 : decode cX3_liveOn 4 = .ok (.iload_n 3, 1) := by decide +kernel
theorem dX3_liveOn_5 : decode cX3_liveOn 5 = .ok (.iload_n 1, 1) := by decide +kernel
theorem dX3_liveOn_6 : decode cX3_liveOn 6 = .ok (.if_icmp .ge 20, 3) := by decide +kernel
theorem dX3_liveOn_9 : decode cX3_liveOn 9 = .ok (.iload_n 2, 1) := by decide +kernel
theorem dX3_liveOn_10 : decode cX3_liveOn 10 = .ok (.aload_n 0, 1) := by decide +kernel
theorem dX3_liveOn_11 : decode cX3_liveOn 11 = .ok (.aload_n 0, 1) := by decide +kernel
theorem dX3_liveOn_12 : decode cX3_liveOn 12 = .ok (.getfield 40, 3) := by decide +kernel
theorem dX3_liveOn_15 : decode cX3_liveOn 15 = .ok (.invokevirtual 84, 3) := by decide +kernel
theorem dX3_liveOn_18 : decode cX3_liveOn 18 = .ok (.iadd, 1) := by decide +kernel
theorem dX3_liveOn_19 : decode cX3_liveOn 19 = .ok (.istore_n 2, 1) := by decide +kernel
theorem dX3_liveOn_20 : decode cX3_liveOn 20 = .ok (.iinc 3 1, 3) := by decide +kernel
theorem dX3_liveOn_23 : decode cX3_liveOn 23 = .ok (.goto (-19), 3) := by decide +kernel
theorem dX3_liveOn_26 : decode cX3_liveOn 26 = .ok (.iload_n 2, 1) := by decide +kernel
theorem dX3_liveOn_27 : decode cX3_liveOn 27 = .ok (.ireturn, 1) := by decide +kernel
theorem dX3_wordsInLast_0 : decode cX3_wordsInLast 0 = .ok (.iconst 0, 1) := by decide +kernel
theorem dX3_wordsInLast_1 : decode cX3_wordsInLast 1 = .ok (.istore_n 2, 1) := by decide +kernel
theorem dX3_wordsInLast_2 : decode cX3_wordsInLast 2 = .ok (.iconst 0, 1) := by decide +kernel
theorem dX3_wordsInLast_3 : decode cX3_wordsInLast 3 = .ok (.istore_n 3, 1) := by decide +kernel
theorem dX3_wordsInLast_4 : decode cX3_wordsInLast 4 = .ok (.iload_n 3, 1) := by decide +kernel
theorem dX3_wordsInLast_5 : decode cX3_wordsInLast 5 = .ok (.iload_n 1, 1) := by decide +kernel
theorem dX3_wordsInLast_6 : decode cX3_wordsInLast 6 = .ok (.if_icmp .ge 18, 3) := by decide +kernel
theorem dX3_wordsInLast_9 : decode cX3_wordsInLast 9 = .ok (.aload_n 0, 1) := by decide +kernel
theorem dX3_wordsInLast_10 : decode cX3_wordsInLast 10 = .ok (.aload_n 0, 1) := by decide +kernel
theorem dX3_wordsInLast_11 : decode cX3_wordsInLast 11 = .ok (.getfield 40, 3) := by decide +kernel
theorem dX3_wordsInLast_14 : decode cX3_wordsInLast 14 = .ok (.invokevirtual 84, 3) := by decide +kernel
theorem dX3_wordsInLast_17 : decode cX3_wordsInLast 17 = .ok (.istore_n 2, 1) := by decide +kernel
theorem dX3_wordsInLast_18 : decode cX3_wordsInLast 18 = .ok (.iinc 3 1, 3) := by decide +kernel
theorem dX3_wordsInLast_21 : decode cX3_wordsInLast 21 = .ok (.goto (-17), 3) := by decide +kernel
theorem dX3_wordsInLast_24 : decode cX3_wordsInLast 24 = .ok (.iload_n 2, 1) := by decide +kernel
theorem dX3_wordsInLast_25 : decode cX3_wordsInLast 25 = .ok (.ireturn, 1) := by decide +kernel
theorem dX3_drawMishaps_0 : decode cX3_drawMishaps 0 = .ok (.aload_n 0, 1) := by decide +kernel
theorem dX3_drawMishaps_1 : decode cX3_drawMishaps 1 = .ok (.aload_n 0, 1) := by decide +kernel
theorem dX3_drawMishaps_2 : decode cX3_drawMishaps 2 = .ok (.getfield 46, 3) := by decide +kernel
theorem dX3_drawMishaps_5 : decode cX3_drawMishaps 5 = .ok (.ldc 87, 2) := by decide +kernel
theorem dX3_drawMishaps_7 : decode cX3_drawMishaps 7 = .ok (.imul, 1) := by decide +kernel
theorem dX3_drawMishaps_8 : decode cX3_drawMishaps 8 = .ok (.sipush 12345, 3) := by decide +kernel
theorem dX3_drawMishaps_11 : decode cX3_drawMishaps 11 = .ok (.iadd, 1) := by decide +kernel
theorem dX3_drawMishaps_12 : decode cX3_drawMishaps 12 = .ok (.ldc 88, 2) := by decide +kernel
theorem dX3_drawMishaps_14 : decode cX3_drawMishaps 14 = .ok (.iand, 1) := by decide +kernel
theorem dX3_drawMishaps_15 : decode cX3_drawMishaps 15 = .ok (.putfield 46, 3) := by decide +kernel
theorem dX3_drawMishaps_18 : decode cX3_drawMishaps 18 = .ok (.aload_n 0, 1) := by decide +kernel
theorem dX3_drawMishaps_19 : decode cX3_drawMishaps 19 = .ok (.getfield 46, 3) := by decide +kernel
theorem dX3_drawMishaps_22 : decode cX3_drawMishaps 22 = .ok (.ldc 89, 2) := by decide +kernel
theorem dX3_drawMishaps_24 : decode cX3_drawMishaps 24 = .ok (.idiv, 1) := by decide +kernel
theorem dX3_drawMishaps_25 : decode cX3_drawMishaps 25 = .ok (.bipush 10, 2) := by decide +kernel
theorem dX3_drawMishaps_27 : decode cX3_drawMishaps 27 = .ok (.irem, 1) := by decide +kernel
theorem dX3_drawMishaps_28 : decode cX3_drawMishaps 28 = .ok (.ireturn, 1) := by decide +kernel
theorem dX4_init_0 : decode cX4_init 0 = .ok (.aload_n 0, 1) := by decide +kernel
theorem dX4_init_1 : decode cX4_init 1 = .ok (.iload_n 1, 1) := by decide +kernel
theorem dX4_init_2 : decode cX4_init 2 = .ok (.invokespecial 3, 3) := by decide +kernel
theorem dX4_init_5 : decode cX4_init 5 = .ok (.return_, 1) := by decide +kernel
theorem dX4_kind_0 : decode cX4_kind 0 = .ok (.iconst 3, 1) := by decide +kernel
theorem dX4_kind_1 : decode cX4_kind 1 = .ok (.ireturn, 1) := by decide +kernel
theorem dX4_pays_0 : decode cX4_pays 0 = .ok (.aload_n 0, 1) := by decide +kernel
theorem dX4_pays_1 : decode cX4_pays 1 = .ok (.iload_n 1, 1) := by decide +kernel
theorem dX4_pays_2 : decode cX4_pays 2 = .ok (.iload_n 2, 1) := by decide +kernel
theorem dX4_pays_3 : decode cX4_pays 3 = .ok (.invokespecial 9, 3) := by decide +kernel
theorem dX4_pays_6 : decode cX4_pays 6 = .ok (.iconst 2, 1) := by decide +kernel
theorem dX4_pays_7 : decode cX4_pays 7 = .ok (.idiv, 1) := by decide +kernel
theorem dX4_pays_8 : decode cX4_pays 8 = .ok (.ireturn, 1) := by decide +kernel
theorem dX5_init_0 : decode cX5_init 0 = .ok (.aload_n 0, 1) := by decide +kernel
theorem dX5_init_1 : decode cX5_init 1 = .ok (.invokespecial 3, 3) := by decide +kernel
theorem dX5_init_4 : decode cX5_init 4 = .ok (.aload_n 0, 1) := by decide +kernel
theorem dX5_init_5 : decode cX5_init 5 = .ok (.bipush 8, 2) := by decide +kernel
theorem dX5_init_7 : decode cX5_init 7 = .ok (.newarray .int, 2) := by decide +kernel
theorem dX5_init_9 : decode cX5_init 9 = .ok (.putfield 9, 3) := by decide +kernel
theorem dX5_init_12 : decode cX5_init 12 = .ok (.aload_n 0, 1) := by decide +kernel
theorem dX5_init_13 : decode cX5_init 13 = .ok (.bipush 8, 2) := by decide +kernel
theorem dX5_init_15 : decode cX5_init 15 = .ok (.newarray .int, 2) := by decide +kernel
theorem dX5_init_17 : decode cX5_init 17 = .ok (.putfield 15, 3) := by decide +kernel
theorem dX5_init_20 : decode cX5_init 20 = .ok (.aload_n 0, 1) := by decide +kernel
theorem dX5_init_21 : decode cX5_init 21 = .ok (.bipush 8, 2) := by decide +kernel
theorem dX5_init_23 : decode cX5_init 23 = .ok (.newarray .int, 2) := by decide +kernel
theorem dX5_init_25 : decode cX5_init 25 = .ok (.putfield 18, 3) := by decide +kernel
theorem dX5_init_28 : decode cX5_init 28 = .ok (.aload_n 0, 1) := by decide +kernel
theorem dX5_init_29 : decode cX5_init 29 = .ok (.bipush 48, 2) := by decide +kernel
theorem dX5_init_31 : decode cX5_init 31 = .ok (.newarray .int, 2) := by decide +kernel
theorem dX5_init_33 : decode cX5_init 33 = .ok (.putfield 21, 3) := by decide +kernel
theorem dX5_init_36 : decode cX5_init 36 = .ok (.aload_n 0, 1) := by decide +kernel
theorem dX5_init_37 : decode cX5_init 37 = .ok (.iconst 0, 1) := by decide +kernel
theorem dX5_init_38 : decode cX5_init 38 = .ok (.putfield 24, 3) := by decide +kernel
theorem dX5_init_41 : decode cX5_init 41 = .ok (.aload_n 0, 1) := by decide +kernel
theorem dX5_init_42 : decode cX5_init 42 = .ok (.iconst 0, 1) := by decide +kernel
theorem dX5_init_43 : decode cX5_init 43 = .ok (.putfield 28, 3) := by decide +kernel
theorem dX5_init_46 : decode cX5_init 46 = .ok (.return_, 1) := by decide +kernel
theorem dX5_become_0 : decode cX5_become 0 = .ok (.aload_n 1, 1) := by decide +kernel
theorem dX5_become_1 : decode cX5_become 1 = .ok (.getfield 9, 3) := by decide +kernel
theorem dX5_become_4 : decode cX5_become 4 = .ok (.iconst 0, 1) := by decide +kernel
theorem dX5_become_5 : decode cX5_become 5 = .ok (.aload_n 0, 1) := by decide +kernel
theorem dX5_become_6 : decode cX5_become 6 = .ok (.getfield 9, 3) := by decide +kernel
theorem dX5_become_9 : decode cX5_become 9 = .ok (.iconst 0, 1) := by decide +kernel
theorem dX5_become_10 : decode cX5_become 10 = .ok (.bipush 8, 2) := by decide +kernel
theorem dX5_become_12 : decode cX5_become 12 = .ok (.invokestatic 31, 3) := by decide +kernel
theorem dX5_become_15 : decode cX5_become 15 = .ok (.aload_n 1, 1) := by decide +kernel
theorem dX5_become_16 : decode cX5_become 16 = .ok (.getfield 15, 3) := by decide +kernel
theorem dX5_become_19 : decode cX5_become 19 = .ok (.iconst 0, 1) := by decide +kernel
theorem dX5_become_20 : decode cX5_become 20 = .ok (.aload_n 0, 1) := by decide +kernel
theorem dX5_become_21 : decode cX5_become 21 = .ok (.getfield 15, 3) := by decide +kernel
theorem dX5_become_24 : decode cX5_become 24 = .ok (.iconst 0, 1) := by decide +kernel
theorem dX5_become_25 : decode cX5_become 25 = .ok (.bipush 8, 2) := by decide +kernel
theorem dX5_become_27 : decode cX5_become 27 = .ok (.invokestatic 31, 3) := by decide +kernel
theorem dX5_become_30 : decode cX5_become 30 = .ok (.aload_n 1, 1) := by decide +kernel
theorem dX5_become_31 : decode cX5_become 31 = .ok (.getfield 18, 3) := by decide +kernel
theorem dX5_become_34 : decode cX5_become 34 = .ok (.iconst 0, 1) := by decide +kernel
theorem dX5_become_35 : decode cX5_become 35 = .ok (.aload_n 0, 1) := by decide +kernel
theorem dX5_become_36 : decode cX5_become 36 = .ok (.getfield 18, 3) := by decide +kernel
theorem dX5_become_39 : decode cX5_become 39 = .ok (.iconst 0, 1) := by decide +kernel
theorem dX5_become_40 : decode cX5_become 40 = .ok (.bipush 8, 2) := by decide +kernel
theorem dX5_become_42 : decode cX5_become 42 = .ok (.invokestatic 31, 3) := by decide +kernel
theorem dX5_become_45 : decode cX5_become 45 = .ok (.aload_n 1, 1) := by decide +kernel
theorem dX5_become_46 : decode cX5_become 46 = .ok (.getfield 21, 3) := by decide +kernel
theorem dX5_become_49 : decode cX5_become 49 = .ok (.iconst 0, 1) := by decide +kernel
theorem dX5_become_50 : decode cX5_become 50 = .ok (.aload_n 0, 1) := by decide +kernel
theorem dX5_become_51 : decode cX5_become 51 = .ok (.getfield 21, 3) := by decide +kernel
theorem dX5_become_54 : decode cX5_become 54 = .ok (.iconst 0, 1) := by decide +kernel
theorem dX5_become_55 : decode cX5_become 55 = .ok (.bipush 48, 2) := by decide +kernel
theorem dX5_become_57 : decode cX5_become 57 = .ok (.invokestatic 31, 3) := by decide +kernel
theorem dX5_become_60 : decode cX5_become 60 = .ok (.aload_n 0, 1) := by decide +kernel
theorem dX5_become_61 : decode cX5_become 61 = .ok (.aload_n 1, 1) := by decide +kernel
theorem dX5_become_62 : decode cX5_become 62 = .ok (.getfield 24, 3) := by decide +kernel
theorem dX5_become_65 : decode cX5_become 65 = .ok (.putfield 24, 3) := by decide +kernel
theorem dX5_become_68 : decode cX5_become 68 = .ok (.aload_n 0, 1) := by decide +kernel
theorem dX5_become_69 : decode cX5_become 69 = .ok (.aload_n 1, 1) := by decide +kernel
theorem dX5_become_70 : decode cX5_become 70 = .ok (.getfield 28, 3) := by decide +kernel
theorem dX5_become_73 : decode cX5_become 73 = .ok (.putfield 28, 3) := by decide +kernel
theorem dX5_become_76 : decode cX5_become 76 = .ok (.return_, 1) := by decide +kernel
theorem dX5_forget_0 : decode cX5_forget 0 = .ok (.aload_n 0, 1) := by decide +kernel
theorem dX5_forget_1 : decode cX5_forget 1 = .ok (.iconst 0, 1) := by decide +kernel
theorem dX5_forget_2 : decode cX5_forget 2 = .ok (.putfield 24, 3) := by decide +kernel
theorem dX5_forget_5 : decode cX5_forget 5 = .ok (.return_, 1) := by decide +kernel
theorem dX5_remember_0 : decode cX5_remember 0 = .ok (.aload_n 0, 1) := by decide +kernel
theorem dX5_remember_1 : decode cX5_remember 1 = .ok (.getfield 9, 3) := by decide +kernel
theorem dX5_remember_4 : decode cX5_remember 4 = .ok (.aload_n 0, 1) := by decide +kernel
theorem dX5_remember_5 : decode cX5_remember 5 = .ok (.getfield 28, 3) := by decide +kernel
theorem dX5_remember_8 : decode cX5_remember 8 = .ok (.aload_n 1, 1) := by decide +kernel
theorem dX5_remember_9 : decode cX5_remember 9 = .ok (.getfield 37, 3) := by decide +kernel
theorem dX5_remember_12 : decode cX5_remember 12 = .ok (.iastore, 1) := by decide +kernel
theorem dX5_remember_13 : decode cX5_remember 13 = .ok (.aload_n 0, 1) := by decide +kernel
theorem dX5_remember_14 : decode cX5_remember 14 = .ok (.getfield 15, 3) := by decide +kernel
theorem dX5_remember_17 : decode cX5_remember 17 = .ok (.aload_n 0, 1) := by decide +kernel
theorem dX5_remember_18 : decode cX5_remember 18 = .ok (.getfield 28, 3) := by decide +kernel
theorem dX5_remember_21 : decode cX5_remember 21 = .ok (.aload_n 1, 1) := by decide +kernel
theorem dX5_remember_22 : decode cX5_remember 22 = .ok (.getfield 41, 3) := by decide +kernel
theorem dX5_remember_25 : decode cX5_remember 25 = .ok (.iastore, 1) := by decide +kernel
theorem dX5_remember_26 : decode cX5_remember 26 = .ok (.aload_n 0, 1) := by decide +kernel
theorem dX5_remember_27 : decode cX5_remember 27 = .ok (.getfield 18, 3) := by decide +kernel
theorem dX5_remember_30 : decode cX5_remember 30 = .ok (.aload_n 0, 1) := by decide +kernel
theorem dX5_remember_31 : decode cX5_remember 31 = .ok (.getfield 28, 3) := by decide +kernel
theorem dX5_remember_34 : decode cX5_remember 34 = .ok (.aload_n 1, 1) := by decide +kernel
theorem dX5_remember_35 : decode cX5_remember 35 = .ok (.getfield 44, 3) := by decide +kernel
theorem dX5_remember_38 : decode cX5_remember 38 = .ok (.iastore, 1) := by decide +kernel
theorem dX5_remember_39 : decode cX5_remember 39 = .ok (.aload_n 1, 1) := by decide +kernel
theorem dX5_remember_40 : decode cX5_remember 40 = .ok (.getfield 47, 3) := by decide +kernel
theorem dX5_remember_43 : decode cX5_remember 43 = .ok (.iconst 0, 1) := by decide +kernel
theorem dX5_remember_44 : decode cX5_remember 44 = .ok (.aload_n 0, 1) := by decide +kernel
theorem dX5_remember_45 : decode cX5_remember 45 = .ok (.getfield 21, 3) := by decide +kernel
theorem dX5_remember_48 : decode cX5_remember 48 = .ok (.aload_n 0, 1) := by decide +kernel
theorem dX5_remember_49 : decode cX5_remember 49 = .ok (.getfield 28, 3) := by decide +kernel
theorem dX5_remember_52 : decode cX5_remember 52 = .ok (.bipush 6, 2) := by decide +kernel
theorem dX5_remember_54 : decode cX5_remember 54 = .ok (.imul, 1) := by decide +kernel
theorem dX5_remember_55 : decode cX5_remember 55 = .ok (.bipush 6, 2) := by decide +kernel
theorem dX5_remember_57 : decode cX5_remember 57 = .ok (.invokestatic 31, 3) := by decide +kernel
theorem dX5_remember_60 : decode cX5_remember 60 = .ok (.aload_n 0, 1) := by decide +kernel
theorem dX5_remember_61 : decode cX5_remember 61 = .ok (.aload_n 0, 1) := by decide +kernel
theorem dX5_remember_62 : decode cX5_remember 62 = .ok (.getfield 28, 3) := by decide +kernel
theorem dX5_remember_65 : decode cX5_remember 65 = .ok (.iconst 1, 1) := by decide +kernel
theorem dX5_remember_66 : decode cX5_remember 66 = .ok (.iadd, 1) := by decide +kernel
theorem dX5_remember_67 : decode cX5_remember 67 = .ok (.bipush 8, 2) := by decide +kernel
theorem dX5_remember_69 : decode cX5_remember 69 = .ok (.irem, 1) := by decide +kernel
theorem dX5_remember_70 : decode cX5_remember 70 = .ok (.putfield 28, 3) := by decide +kernel
theorem dX5_remember_73 : decode cX5_remember 73 = .ok (.aload_n 0, 1) := by decide +kernel
theorem dX5_remember_74 : decode cX5_remember 74 = .ok (.bipush 8, 2) := by decide +kernel
theorem dX5_remember_76 : decode cX5_remember 76 = .ok (.aload_n 0, 1) := by decide +kernel
theorem dX5_remember_77 : decode cX5_remember 77 = .ok (.getfield 24, 3) := by decide +kernel
theorem dX5_remember_80 : decode cX5_remember 80 = .ok (.iconst 1, 1) := by decide +kernel
theorem dX5_remember_81 : decode cX5_remember 81 = .ok (.iadd, 1) := by decide +kernel
theorem dX5_remember_82 : decode cX5_remember 82 = .ok (.invokestatic 48, 3) := by decide +kernel
theorem dX5_remember_85 : decode cX5_remember 85 = .ok (.putfield 24, 3) := by decide +kernel
theorem dX5_remember_88 : decode cX5_remember 88 = .ok (.return_, 1) := by decide +kernel
theorem dX5_bringBack_0 : decode cX5_bringBack 0 = .ok (.aload_n 0, 1) := by decide +kernel
theorem dX5_bringBack_1 : decode cX5_bringBack 1 = .ok (.getfield 24, 3) := by decide +kernel
theorem dX5_bringBack_4 : decode cX5_bringBack 4 = .ok (.ifCond .ne 4, 3) := by decide +kernel
theorem dX5_bringBack_7 : decode cX5_bringBack 7 = .ok (.return_, 1) := by decide +kernel
theorem dX5_bringBack_8 : decode cX5_bringBack 8 = .ok (.aload_n 0, 1) := by decide +kernel
theorem dX5_bringBack_9 : decode cX5_bringBack 9 = .ok (.aload_n 0, 1) := by decide +kernel
theorem dX5_bringBack_10 : decode cX5_bringBack 10 = .ok (.getfield 28, 3) := by decide +kernel
theorem dX5_bringBack_13 : decode cX5_bringBack 13 = .ok (.bipush 8, 2) := by decide +kernel
theorem dX5_bringBack_15 : decode cX5_bringBack 15 = .ok (.iadd, 1) := by decide +kernel
theorem dX5_bringBack_16 : decode cX5_bringBack 16 = .ok (.iconst 1, 1) := by decide +kernel
theorem dX5_bringBack_17 : decode cX5_bringBack 17 = .ok (.isub, 1) := by decide +kernel
theorem dX5_bringBack_18 : decode cX5_bringBack 18 = .ok (.bipush 8, 2) := by decide +kernel
theorem dX5_bringBack_20 : decode cX5_bringBack 20 = .ok (.irem, 1) := by decide +kernel
theorem dX5_bringBack_21 : decode cX5_bringBack 21 = .ok (.putfield 28, 3) := by decide +kernel
theorem dX5_bringBack_24 : decode cX5_bringBack 24 = .ok (.aload_n 0, 1) := by decide +kernel
theorem dX5_bringBack_25 : decode cX5_bringBack 25 = .ok (.dup, 1) := by decide +kernel
theorem dX5_bringBack_26 : decode cX5_bringBack 26 = .ok (.getfield 24, 3) := by decide +kernel
theorem dX5_bringBack_29 : decode cX5_bringBack 29 = .ok (.iconst 1, 1) := by decide +kernel
theorem dX5_bringBack_30 : decode cX5_bringBack 30 = .ok (.isub, 1) := by decide +kernel
theorem dX5_bringBack_31 : decode cX5_bringBack 31 = .ok (.putfield 24, 3) := by decide +kernel
theorem dX5_bringBack_34 : decode cX5_bringBack 34 = .ok (.aload_n 1, 1) := by decide +kernel
theorem dX5_bringBack_35 : decode cX5_bringBack 35 = .ok (.aload_n 0, 1) := by decide +kernel
theorem dX5_bringBack_36 : decode cX5_bringBack 36 = .ok (.getfield 9, 3) := by decide +kernel
theorem dX5_bringBack_39 : decode cX5_bringBack 39 = .ok (.aload_n 0, 1) := by decide +kernel
theorem dX5_bringBack_40 : decode cX5_bringBack 40 = .ok (.getfield 28, 3) := by decide +kernel
theorem dX5_bringBack_43 : decode cX5_bringBack 43 = .ok (.iaload, 1) := by decide +kernel
theorem dX5_bringBack_44 : decode cX5_bringBack 44 = .ok (.putfield 37, 3) := by decide +kernel
theorem dX5_bringBack_47 : decode cX5_bringBack 47 = .ok (.aload_n 1, 1) := by decide +kernel
theorem dX5_bringBack_48 : decode cX5_bringBack 48 = .ok (.aload_n 0, 1) := by decide +kernel
theorem dX5_bringBack_49 : decode cX5_bringBack 49 = .ok (.getfield 15, 3) := by decide +kernel
theorem dX5_bringBack_52 : decode cX5_bringBack 52 = .ok (.aload_n 0, 1) := by decide +kernel
theorem dX5_bringBack_53 : decode cX5_bringBack 53 = .ok (.getfield 28, 3) := by decide +kernel
theorem dX5_bringBack_56 : decode cX5_bringBack 56 = .ok (.iaload, 1) := by decide +kernel
theorem dX5_bringBack_57 : decode cX5_bringBack 57 = .ok (.putfield 41, 3) := by decide +kernel
theorem dX5_bringBack_60 : decode cX5_bringBack 60 = .ok (.aload_n 1, 1) := by decide +kernel
theorem dX5_bringBack_61 : decode cX5_bringBack 61 = .ok (.aload_n 0, 1) := by decide +kernel
theorem dX5_bringBack_62 : decode cX5_bringBack 62 = .ok (.getfield 18, 3) := by decide +kernel
theorem dX5_bringBack_65 : decode cX5_bringBack 65 = .ok (.aload_n 0, 1) := by decide +kernel
theorem dX5_bringBack_66 : decode cX5_bringBack 66 = .ok (.getfield 28, 3) := by decide +kernel
theorem dX5_bringBack_69 : decode cX5_bringBack 69 = .ok (.iaload, 1) := by decide +kernel
theorem dX5_bringBack_70 : decode cX5_bringBack 70 = .ok (.putfield 44, 3) := by decide +kernel
theorem dX5_bringBack_73 : decode cX5_bringBack 73 = .ok (.aload_n 0, 1) := by decide +kernel
theorem dX5_bringBack_74 : decode cX5_bringBack 74 = .ok (.getfield 21, 3) := by decide +kernel
theorem dX5_bringBack_77 : decode cX5_bringBack 77 = .ok (.aload_n 0, 1) := by decide +kernel
theorem dX5_bringBack_78 : decode cX5_bringBack 78 = .ok (.getfield 28, 3) := by decide +kernel
theorem dX5_bringBack_81 : decode cX5_bringBack 81 = .ok (.bipush 6, 2) := by decide +kernel
theorem dX5_bringBack_83 : decode cX5_bringBack 83 = .ok (.imul, 1) := by decide +kernel
theorem dX5_bringBack_84 : decode cX5_bringBack 84 = .ok (.aload_n 1, 1) := by decide +kernel
theorem dX5_bringBack_85 : decode cX5_bringBack 85 = .ok (.getfield 47, 3) := by decide +kernel
theorem dX5_bringBack_88 : decode cX5_bringBack 88 = .ok (.iconst 0, 1) := by decide +kernel
theorem dX5_bringBack_89 : decode cX5_bringBack 89 = .ok (.bipush 6, 2) := by decide +kernel
theorem dX5_bringBack_91 : decode cX5_bringBack 91 = .ok (.invokestatic 31, 3) := by decide +kernel
theorem dX5_bringBack_94 : decode cX5_bringBack 94 = .ok (.return_, 1) := by decide +kernel
theorem dX6_init_0 : decode cX6_init 0 = .ok (.aload_n 0, 1) := by decide +kernel
theorem dX6_init_1 : decode cX6_init 1 = .ok (.invokespecial 3, 3) := by decide +kernel
theorem dX6_init_4 : decode cX6_init 4 = .ok (.aload_n 0, 1) := by decide +kernel
theorem dX6_init_5 : decode cX6_init 5 = .ok (.iload_n 1, 1) := by decide +kernel
theorem dX6_init_6 : decode cX6_init 6 = .ok (.putfield 9, 3) := by decide +kernel
theorem dX6_init_9 : decode cX6_init 9 = .ok (.return_, 1) := by decide +kernel
theorem dX6_kind_0 : decode cX6_kind 0 = .ok (.iconst 0, 1) := by decide +kernel
theorem dX6_kind_1 : decode cX6_kind 1 = .ok (.ireturn, 1) := by decide +kernel
theorem dX6_isChild_0 : decode cX6_isChild 0 = .ok (.iconst 0, 1) := by decide +kernel
theorem dX6_isChild_1 : decode cX6_isChild 1 = .ok (.ireturn, 1) := by decide +kernel
theorem dX6_words_0 : decode cX6_words 0 = .ok (.iload_n 1, 1) := by decide +kernel
theorem dX6_words_1 : decode cX6_words 1 = .ok (.aload_n 0, 1) := by decide +kernel
theorem dX6_words_2 : decode cX6_words 2 = .ok (.getfield 9, 3) := by decide +kernel
theorem dX6_words_5 : decode cX6_words 5 = .ok (.imul, 1) := by decide +kernel
theorem dX6_words_6 : decode cX6_words 6 = .ok (.iload_n 2, 1) := by decide +kernel
theorem dX6_words_7 : decode cX6_words 7 = .ok (.imul, 1) := by decide +kernel
theorem dX6_words_8 : decode cX6_words 8 = .ok (.iload_n 3, 1) := by decide +kernel
theorem dX6_words_9 : decode cX6_words 9 = .ok (.bipush 20, 2) := by decide +kernel
theorem dX6_words_11 : decode cX6_words 11 = .ok (.iadd, 1) := by decide +kernel
theorem dX6_words_12 : decode cX6_words 12 = .ok (.idiv, 1) := by decide +kernel
theorem dX6_words_13 : decode cX6_words 13 = .ok (.istore 5, 2) := by decide +kernel
theorem dX6_words_15 : decode cX6_words 15 = .ok (.iload 5, 2) := by decide +kernel
theorem dX6_words_17 : decode cX6_words 17 = .ok (.bipush 99, 2) := by decide +kernel
theorem dX6_words_19 : decode cX6_words 19 = .ok (.if_icmp .ge 8, 3) := by decide +kernel
theorem dX6_words_22 : decode cX6_words 22 = .ok (.iload 5, 2) := by decide +kernel
theorem dX6_words_24 : decode cX6_words 24 = .ok (.goto 5, 3) := by decide +kernel
theorem dX6_words_27 : decode cX6_words 27 = .ok (.bipush 99, 2) := by decide +kernel
theorem dX6_words_29 : decode cX6_words 29 = .ok (.ireturn, 1) := by decide +kernel
theorem dX6_pays_0 : decode cX6_pays 0 = .ok (.iload_n 1, 1) := by decide +kernel
theorem dX6_pays_1 : decode cX6_pays 1 = .ok (.iload_n 2, 1) := by decide +kernel
theorem dX6_pays_2 : decode cX6_pays 2 = .ok (.imul, 1) := by decide +kernel
theorem dX6_pays_3 : decode cX6_pays 3 = .ok (.ireturn, 1) := by decide +kernel
theorem dX6_habitThen_0 : decode cX6_habitThen 0 = .ok (.iload_n 2, 1) := by decide +kernel
theorem dX6_habitThen_1 : decode cX6_habitThen 1 = .ok (.bipush 100, 2) := by decide +kernel
theorem dX6_habitThen_3 : decode cX6_habitThen 3 = .ok (.if_icmp .ge 12, 3) := by decide +kernel
theorem dX6_habitThen_6 : decode cX6_habitThen 6 = .ok (.bipush 99, 2) := by decide +kernel
theorem dX6_habitThen_8 : decode cX6_habitThen 8 = .ok (.iload_n 1, 1) := by decide +kernel
theorem dX6_habitThen_9 : decode cX6_habitThen 9 = .ok (.iconst 1, 1) := by decide +kernel
theorem dX6_habitThen_10 : decode cX6_habitThen 10 = .ok (.iadd, 1) := by decide +kernel
theorem dX6_habitThen_11 : decode cX6_habitThen 11 = .ok (.invokestatic 15, 3) := by decide +kernel
theorem dX6_habitThen_14 : decode cX6_habitThen 14 = .ok (.ireturn, 1) := by decide +kernel
theorem dX6_habitThen_15 : decode cX6_habitThen 15 = .ok (.iconst 0, 1) := by decide +kernel
theorem dX6_habitThen_16 : decode cX6_habitThen 16 = .ok (.iload_n 1, 1) := by decide +kernel
theorem dX6_habitThen_17 : decode cX6_habitThen 17 = .ok (.bipush 9, 2) := by decide +kernel
theorem dX6_habitThen_19 : decode cX6_habitThen 19 = .ok (.iload_n 2, 1) := by decide +kernel
theorem dX6_habitThen_20 : decode cX6_habitThen 20 = .ok (.bipush 100, 2) := by decide +kernel
theorem dX6_habitThen_22 : decode cX6_habitThen 22 = .ok (.idiv, 1) := by decide +kernel
theorem dX6_habitThen_23 : decode cX6_habitThen 23 = .ok (.invokestatic 15, 3) := by decide +kernel
theorem dX6_habitThen_26 : decode cX6_habitThen 26 = .ok (.isub, 1) := by decide +kernel
theorem dX6_habitThen_27 : decode cX6_habitThen 27 = .ok (.invokestatic 21, 3) := by decide +kernel
theorem dX6_habitThen_30 : decode cX6_habitThen 30 = .ok (.ireturn, 1) := by decide +kernel
theorem dX7_init_0 : decode cX7_init 0 = .ok (.aload_n 0, 1) := by decide +kernel
theorem dX7_init_1 : decode cX7_init 1 = .ok (.invokespecial 3, 3) := by decide +kernel
theorem dX7_init_4 : decode cX7_init 4 = .ok (.aload_n 0, 1) := by decide +kernel
theorem dX7_init_5 : decode cX7_init 5 = .ok (.bipush 24, 2) := by decide +kernel
theorem dX7_init_7 : decode cX7_init 7 = .ok (.newarray .long, 2) := by decide +kernel
theorem dX7_init_9 : decode cX7_init 9 = .ok (.putfield 9, 3) := by decide +kernel
theorem dX7_init_12 : decode cX7_init 12 = .ok (.aload_n 0, 1) := by decide +kernel
theorem dX7_init_13 : decode cX7_init 13 = .ok (.iconst 0, 1) := by decide +kernel
theorem dX7_init_14 : decode cX7_init 14 = .ok (.putfield 15, 3) := by decide +kernel
theorem dX7_init_17 : decode cX7_init 17 = .ok (.aload_n 0, 1) := by decide +kernel
theorem dX7_init_18 : decode cX7_init 18 = .ok (.iconst 0, 1) := by decide +kernel
theorem dX7_init_19 : decode cX7_init 19 = .ok (.putfield 19, 3) := by decide +kernel
theorem dX7_init_22 : decode cX7_init 22 = .ok (.aload_n 0, 1) := by decide +kernel
theorem dX7_init_23 : decode cX7_init 23 = .ok (.iconst 0, 1) := by decide +kernel
theorem dX7_init_24 : decode cX7_init 24 = .ok (.putfield 23, 3) := by decide +kernel
theorem dX7_init_27 : decode cX7_init 27 = .ok (.return_, 1) := by decide +kernel
theorem dX7_begin_0 : decode cX7_begin 0 = .ok (.aload_n 0, 1) := by decide +kernel
theorem dX7_begin_1 : decode cX7_begin 1 = .ok (.iconst 1, 1) := by decide +kernel
theorem dX7_begin_2 : decode cX7_begin 2 = .ok (.putfield 15, 3) := by decide +kernel
theorem dX7_begin_5 : decode cX7_begin 5 = .ok (.aload_n 0, 1) := by decide +kernel
theorem dX7_begin_6 : decode cX7_begin 6 = .ok (.iload_n 1, 1) := by decide +kernel
theorem dX7_begin_7 : decode cX7_begin 7 = .ok (.putfield 19, 3) := by decide +kernel
theorem dX7_begin_10 : decode cX7_begin 10 = .ok (.aload_n 0, 1) := by decide +kernel
theorem dX7_begin_11 : decode cX7_begin 11 = .ok (.iload_n 2, 1) := by decide +kernel
theorem dX7_begin_12 : decode cX7_begin 12 = .ok (.putfield 23, 3) := by decide +kernel
theorem dX7_begin_15 : decode cX7_begin 15 = .ok (.iconst 0, 1) := by decide +kernel
theorem dX7_begin_16 : decode cX7_begin 16 = .ok (.istore_n 3, 1) := by decide +kernel
theorem dX7_begin_17 : decode cX7_begin 17 = .ok (.iload_n 3, 1) := by decide +kernel
theorem dX7_begin_18 : decode cX7_begin 18 = .ok (.bipush 24, 2) := by decide +kernel
theorem dX7_begin_20 : decode cX7_begin 20 = .ok (.if_icmp .ge 16, 3) := by decide +kernel
theorem dX7_begin_23 : decode cX7_begin 23 = .ok (.aload_n 0, 1) := by decide +kernel
theorem dX7_begin_24 : decode cX7_begin 24 = .ok (.getfield 9, 3) := by decide +kernel
theorem dX7_begin_27 : decode cX7_begin 27 = .ok (.iload_n 3, 1) := by decide +kernel
theorem dX7_begin_28 : decode cX7_begin 28 = .ok (.lconst 0, 1) := by decide +kernel
theorem dX7_begin_29 : decode cX7_begin 29 = .ok (.lastore, 1) := by decide +kernel
theorem dX7_begin_30 : decode cX7_begin 30 = .ok (.iinc 3 1, 3) := by decide +kernel
theorem dX7_begin_33 : decode cX7_begin 33 = .ok (.goto (-16), 3) := by decide +kernel
theorem dX7_begin_36 : decode cX7_begin 36 = .ok (.return_, 1) := by decide +kernel
theorem dX7_refuses_0 : decode cX7_refuses 0 = .ok (.aload_n 0, 1) := by decide +kernel
theorem dX7_refuses_1 : decode cX7_refuses 1 = .ok (.getfield 15, 3) := by decide +kernel
theorem dX7_refuses_4 : decode cX7_refuses 4 = .ok (.ifCond .ne 6, 3) := by decide +kernel
theorem dX7_refuses_7 : decode cX7_refuses 7 = .ok (.bipush (-11), 2) := by decide +kernel
theorem dX7_refuses_9 : decode cX7_refuses 9 = .ok (.ireturn, 1) := by decide +kernel
theorem dX7_refuses_10 : decode cX7_refuses 10 = .ok (.aload_n 0, 1) := by decide +kernel
theorem dX7_refuses_11 : decode cX7_refuses 11 = .ok (.getfield 19, 3) := by decide +kernel
theorem dX7_refuses_14 : decode cX7_refuses 14 = .ok (.iload_n 1, 1) := by decide +kernel
theorem dX7_refuses_15 : decode cX7_refuses 15 = .ok (.if_icmp .eq 6, 3) := by decide +kernel
theorem dX7_refuses_18 : decode cX7_refuses 18 = .ok (.bipush (-12), 2) := by decide +kernel
theorem dX7_refuses_20 : decode cX7_refuses 20 = .ok (.ireturn, 1) := by decide +kernel
theorem dX7_refuses_21 : decode cX7_refuses 21 = .ok (.aload_n 0, 1) := by decide +kernel
theorem dX7_refuses_22 : decode cX7_refuses 22 = .ok (.iload_n 2, 1) := by decide +kernel
theorem dX7_refuses_23 : decode cX7_refuses 23 = .ok (.iload_n 3, 1) := by decide +kernel
theorem dX7_refuses_24 : decode cX7_refuses 24 = .ok (.invokevirtual 26, 3) := by decide +kernel
theorem dX7_refuses_27 : decode cX7_refuses 27 = .ok (.ifCond .eq 8, 3) := by decide +kernel
theorem dX7_refuses_30 : decode cX7_refuses 30 = .ok (.bipush (-13), 2) := by decide +kernel
theorem dX7_refuses_32 : decode cX7_refuses 32 = .ok (.goto 4, 3) := by decide +kernel
theorem dX7_refuses_35 : decode cX7_refuses 35 = .ok (.iconst 0, 1) := by decide +kernel
theorem dX7_refuses_36 : decode cX7_refuses 36 = .ok (.ireturn, 1) := by decide +kernel
theorem dX7_lacks_0 : decode cX7_lacks 0 = .ok (.iload_n 1, 1) := by decide +kernel
theorem dX7_lacks_1 : decode cX7_lacks 1 = .ok (.ifCond .lt 25, 3) := by decide +kernel
theorem dX7_lacks_4 : decode cX7_lacks 4 = .ok (.iload_n 2, 1) := by decide +kernel
theorem dX7_lacks_5 : decode cX7_lacks 5 = .ok (.ifCond .lt 21, 3) := by decide +kernel
theorem dX7_lacks_8 : decode cX7_lacks 8 = .ok (.iload_n 1, 1) := by decide +kernel
theorem dX7_lacks_9 : decode cX7_lacks 9 = .ok (.aload_n 0, 1) := by decide +kernel
theorem dX7_lacks_10 : decode cX7_lacks 10 = .ok (.getfield 23, 3) := by decide +kernel
theorem dX7_lacks_13 : decode cX7_lacks 13 = .ok (.if_icmp .gt 13, 3) := by decide +kernel
theorem dX7_lacks_16 : decode cX7_lacks 16 = .ok (.iload_n 2, 1) := by decide +kernel
theorem dX7_lacks_17 : decode cX7_lacks 17 = .ok (.aload_n 0, 1) := by decide +kernel
theorem dX7_lacks_18 : decode cX7_lacks 18 = .ok (.getfield 23, 3) := by decide +kernel
theorem dX7_lacks_21 : decode cX7_lacks 21 = .ok (.iload_n 1, 1) := by decide +kernel
theorem dX7_lacks_22 : decode cX7_lacks 22 = .ok (.isub, 1) := by decide +kernel
theorem dX7_lacks_23 : decode cX7_lacks 23 = .ok (.if_icmp .le 7, 3) := by decide +kernel
theorem dX7_lacks_26 : decode cX7_lacks 26 = .ok (.iconst 1, 1) := by decide +kernel
theorem dX7_lacks_27 : decode cX7_lacks 27 = .ok (.goto 4, 3) := by decide +kernel
theorem dX7_lacks_30 : decode cX7_lacks 30 = .ok (.iconst 0, 1) := by decide +kernel
theorem dX7_lacks_31 : decode cX7_lacks 31 = .ok (.ireturn, 1) := by decide +kernel
theorem dX7_put_0 : decode cX7_put 0 = .ok (.aload_n 0, 1) := by decide +kernel
theorem dX7_put_1 : decode cX7_put 1 = .ok (.iload_n 1, 1) := by decide +kernel
theorem dX7_put_2 : decode cX7_put 2 = .ok (.iconst 1, 1) := by decide +kernel
theorem dX7_put_3 : decode cX7_put 3 = .ok (.invokevirtual 26, 3) := by decide +kernel
theorem dX7_put_6 : decode cX7_put 6 = .ok (.ifCond .eq 4, 3) := by decide +kernel
theorem dX7_put_9 : decode cX7_put 9 = .ok (.return_, 1) := by decide +kernel
theorem dX7_put_10 : decode cX7_put 10 = .ok (.aload_n 0, 1) := by decide +kernel
theorem dX7_put_11 : decode cX7_put 11 = .ok (.getfield 19, 3) := by decide +kernel
theorem dX7_put_14 : decode cX7_put 14 = .ok (.tableswitch 64 0 2 #[26, 39, 52], 26) := by decide +kernel
theorem dX7_put_40 : decode cX7_put 40 = .ok (.aload_n 0, 1) := by decide +kernel
theorem dX7_put_41 : decode cX7_put 41 = .ok (.getfield 9, 3) := by decide +kernel
theorem dX7_put_44 : decode cX7_put 44 = .ok (.iload_n 1, 1) := by decide +kernel
theorem dX7_put_45 : decode cX7_put 45 = .ok (.lload_n 2, 1) := by decide +kernel
theorem dX7_put_46 : decode cX7_put 46 = .ok (.l2i, 1) := by decide +kernel
theorem dX7_put_47 : decode cX7_put 47 = .ok (.i2b, 1) := by decide +kernel
theorem dX7_put_48 : decode cX7_put 48 = .ok (.i2l, 1) := by decide +kernel
theorem dX7_put_49 : decode cX7_put 49 = .ok (.lastore, 1) := by decide +kernel
theorem dX7_put_50 : decode cX7_put 50 = .ok (.goto 35, 3) := by decide +kernel
theorem dX7_put_53 : decode cX7_put 53 = .ok (.aload_n 0, 1) := by decide +kernel
theorem dX7_put_54 : decode cX7_put 54 = .ok (.getfield 9, 3) := by decide +kernel
theorem dX7_put_57 : decode cX7_put 57 = .ok (.iload_n 1, 1) := by decide +kernel
theorem dX7_put_58 : decode cX7_put 58 = .ok (.lload_n 2, 1) := by decide +kernel
theorem dX7_put_59 : decode cX7_put 59 = .ok (.l2i, 1) := by decide +kernel
theorem dX7_put_60 : decode cX7_put 60 = .ok (.i2s, 1) := by decide +kernel
theorem dX7_put_61 : decode cX7_put 61 = .ok (.i2l, 1) := by decide +kernel
theorem dX7_put_62 : decode cX7_put 62 = .ok (.lastore, 1) := by decide +kernel
theorem dX7_put_63 : decode cX7_put 63 = .ok (.goto 22, 3) := by decide +kernel
theorem dX7_put_66 : decode cX7_put 66 = .ok (.aload_n 0, 1) := by decide +kernel
theorem dX7_put_67 : decode cX7_put 67 = .ok (.getfield 9, 3) := by decide +kernel
theorem dX7_put_70 : decode cX7_put 70 = .ok (.iload_n 1, 1) := by decide +kernel
theorem dX7_put_71 : decode cX7_put 71 = .ok (.lload_n 2, 1) := by decide +kernel
theorem dX7_put_72 : decode cX7_put 72 = .ok (.l2i, 1) := by decide +kernel
theorem dX7_put_73 : decode cX7_put 73 = .ok (.i2l, 1) := by decide +kernel
theorem dX7_put_74 : decode cX7_put 74 = .ok (.lastore, 1) := by decide +kernel
theorem dX7_put_75 : decode cX7_put 75 = .ok (.goto 10, 3) := by decide +kernel
theorem dX7_put_78 : decode cX7_put 78 = .ok (.aload_n 0, 1) := by decide +kernel
theorem dX7_put_79 : decode cX7_put 79 = .ok (.getfield 9, 3) := by decide +kernel
theorem dX7_put_82 : decode cX7_put 82 = .ok (.iload_n 1, 1) := by decide +kernel
theorem dX7_put_83 : decode cX7_put 83 = .ok (.lload_n 2, 1) := by decide +kernel
theorem dX7_put_84 : decode cX7_put 84 = .ok (.lastore, 1) := by decide +kernel
theorem dX7_put_85 : decode cX7_put 85 = .ok (.return_, 1) := by decide +kernel
theorem dX8_init_0 : decode cX8_init 0 = .ok (.aload_n 0, 1) := by decide +kernel
theorem dX8_init_1 : decode cX8_init 1 = .ok (.iload_n 1, 1) := by decide +kernel
theorem dX8_init_2 : decode cX8_init 2 = .ok (.invokespecial 3, 3) := by decide +kernel
theorem dX8_init_5 : decode cX8_init 5 = .ok (.return_, 1) := by decide +kernel
theorem dX8_kind_0 : decode cX8_kind 0 = .ok (.iconst 4, 1) := by decide +kernel
theorem dX8_kind_1 : decode cX8_kind 1 = .ok (.ireturn, 1) := by decide +kernel
theorem dX8_words_0 : decode cX8_words 0 = .ok (.iload 4, 2) := by decide +kernel
theorem dX8_words_2 : decode cX8_words 2 = .ok (.bipush 20, 2) := by decide +kernel
theorem dX8_words_4 : decode cX8_words 4 = .ok (.irem, 1) := by decide +kernel
theorem dX8_words_5 : decode cX8_words 5 = .ok (.ifCond .ne 8, 3) := by decide +kernel
theorem dX8_words_8 : decode cX8_words 8 = .ok (.bipush 50, 2) := by decide +kernel
theorem dX8_words_10 : decode cX8_words 10 = .ok (.goto 4, 3) := by decide +kernel
theorem dX8_words_13 : decode cX8_words 13 = .ok (.iconst 0, 1) := by decide +kernel
theorem dX8_words_14 : decode cX8_words 14 = .ok (.ireturn, 1) := by decide +kernel
theorem dX9_init_0 : decode cX9_init 0 = .ok (.aload_n 0, 1) := by decide +kernel
theorem dX9_init_1 : decode cX9_init 1 = .ok (.invokespecial 3, 3) := by decide +kernel
theorem dX9_init_4 : decode cX9_init 4 = .ok (.aload_n 0, 1) := by decide +kernel
theorem dX9_init_5 : decode cX9_init 5 = .ok (.bipush 60, 2) := by decide +kernel
theorem dX9_init_7 : decode cX9_init 7 = .ok (.newarray .char, 2) := by decide +kernel
theorem dX9_init_9 : decode cX9_init 9 = .ok (.putfield 9, 3) := by decide +kernel
theorem dX9_init_12 : decode cX9_init 12 = .ok (.aload_n 0, 1) := by decide +kernel
theorem dX9_init_13 : decode cX9_init 13 = .ok (.iconst 0, 1) := by decide +kernel
theorem dX9_init_14 : decode cX9_init 14 = .ok (.putfield 15, 3) := by decide +kernel
theorem dX9_init_17 : decode cX9_init 17 = .ok (.aload_n 0, 1) := by decide +kernel
theorem dX9_init_18 : decode cX9_init 18 = .ok (.iconst 0, 1) := by decide +kernel
theorem dX9_init_19 : decode cX9_init 19 = .ok (.putfield 19, 3) := by decide +kernel
theorem dX9_init_22 : decode cX9_init 22 = .ok (.aload_n 0, 1) := by decide +kernel
theorem dX9_init_23 : decode cX9_init 23 = .ok (.iconst (-1), 1) := by decide +kernel
theorem dX9_init_24 : decode cX9_init 24 = .ok (.putfield 22, 3) := by decide +kernel
theorem dX9_init_27 : decode cX9_init 27 = .ok (.return_, 1) := by decide +kernel
theorem dX9_readInto_0 : decode cX9_readInto 0 = .ok (.aload_n 0, 1) := by decide +kernel
theorem dX9_readInto_1 : decode cX9_readInto 1 = .ok (.iconst 0, 1) := by decide +kernel
theorem dX9_readInto_2 : decode cX9_readInto 2 = .ok (.putfield 19, 3) := by decide +kernel
theorem dX9_readInto_5 : decode cX9_readInto 5 = .ok (.aload_n 0, 1) := by decide +kernel
theorem dX9_readInto_6 : decode cX9_readInto 6 = .ok (.iconst (-1), 1) := by decide +kernel
theorem dX9_readInto_7 : decode cX9_readInto 7 = .ok (.putfield 22, 3) := by decide +kernel
theorem dX9_readInto_10 : decode cX9_readInto 10 = .ok (.aload_n 1, 1) := by decide +kernel
theorem dX9_readInto_11 : decode cX9_readInto 11 = .ok (.aload_n 0, 1) := by decide +kernel
theorem dX9_readInto_12 : decode cX9_readInto 12 = .ok (.sipush 9999, 3) := by decide +kernel
theorem dX9_readInto_15 : decode cX9_readInto 15 = .ok (.invokevirtual 25, 3) := by decide +kernel
theorem dX9_readInto_18 : decode cX9_readInto 18 = .ok (.putfield 29, 3) := by decide +kernel
theorem dX9_readInto_21 : decode cX9_readInto 21 = .ok (.aload_n 0, 1) := by decide +kernel
theorem dX9_readInto_22 : decode cX9_readInto 22 = .ok (.bipush 44, 2) := by decide +kernel
theorem dX9_readInto_24 : decode cX9_readInto 24 = .ok (.invokevirtual 34, 3) := by decide +kernel
theorem dX9_readInto_27 : decode cX9_readInto 27 = .ok (.aload_n 1, 1) := by decide +kernel
theorem dX9_readInto_28 : decode cX9_readInto 28 = .ok (.aload_n 0, 1) := by decide +kernel
theorem dX9_readInto_29 : decode cX9_readInto 29 = .ok (.bipush 100, 2) := by decide +kernel
theorem dX9_readInto_31 : decode cX9_readInto 31 = .ok (.invokevirtual 25, 3) := by decide +kernel
theorem dX9_readInto_34 : decode cX9_readInto 34 = .ok (.putfield 38, 3) := by decide +kernel
theorem dX9_readInto_37 : decode cX9_readInto 37 = .ok (.aload_n 0, 1) := by decide +kernel
theorem dX9_readInto_38 : decode cX9_readInto 38 = .ok (.bipush 44, 2) := by decide +kernel
theorem dX9_readInto_40 : decode cX9_readInto 40 = .ok (.invokevirtual 34, 3) := by decide +kernel
theorem dX9_readInto_43 : decode cX9_readInto 43 = .ok (.aload_n 1, 1) := by decide +kernel
theorem dX9_readInto_44 : decode cX9_readInto 44 = .ok (.aload_n 0, 1) := by decide +kernel
theorem dX9_readInto_45 : decode cX9_readInto 45 = .ok (.iconst 0, 1) := by decide +kernel
theorem dX9_readInto_46 : decode cX9_readInto 46 = .ok (.invokevirtual 41, 3) := by decide +kernel
theorem dX9_readInto_49 : decode cX9_readInto 49 = .ok (.putfield 44, 3) := by decide +kernel
theorem dX9_readInto_52 : decode cX9_readInto 52 = .ok (.aload_n 0, 1) := by decide +kernel
theorem dX9_readInto_53 : decode cX9_readInto 53 = .ok (.bipush 59, 2) := by decide +kernel
theorem dX9_readInto_55 : decode cX9_readInto 55 = .ok (.invokevirtual 34, 3) := by decide +kernel
theorem dX9_readInto_58 : decode cX9_readInto 58 = .ok (.iconst 1, 1) := by decide +kernel
theorem dX9_readInto_59 : decode cX9_readInto 59 = .ok (.istore_n 2, 1) := by decide +kernel
theorem dX9_readInto_60 : decode cX9_readInto 60 = .ok (.iconst 1, 1) := by decide +kernel
theorem dX9_readInto_61 : decode cX9_readInto 61 = .ok (.istore_n 3, 1) := by decide +kernel
theorem dX9_readInto_62 : decode cX9_readInto 62 = .ok (.iload_n 2, 1) := by decide +kernel
theorem dX9_readInto_63 : decode cX9_readInto 63 = .ok (.ifCond .eq 41, 3) := by decide +kernel
theorem dX9_readInto_66 : decode cX9_readInto 66 = .ok (.iload_n 3, 1) := by decide +kernel
theorem dX9_readInto_67 : decode cX9_readInto 67 = .ok (.bipush 6, 2) := by decide +kernel
theorem dX9_readInto_69 : decode cX9_readInto 69 = .ok (.if_icmp .gt 35, 3) := by decide +kernel
theorem dX9_readInto_72 : decode cX9_readInto 72 = .ok (.aload_n 0, 1) := by decide +kernel
theorem dX9_readInto_73 : decode cX9_readInto 73 = .ok (.aload_n 1, 1) := by decide +kernel
theorem dX9_readInto_74 : decode cX9_readInto 74 = .ok (.invokevirtual 47, 3) := by decide +kernel
theorem dX9_readInto_77 : decode cX9_readInto 77 = .ok (.iload_n 3, 1) := by decide +kernel
theorem dX9_readInto_78 : decode cX9_readInto 78 = .ok (.bipush 6, 2) := by decide +kernel
theorem dX9_readInto_80 : decode cX9_readInto 80 = .ok (.if_icmp .ge 16, 3) := by decide +kernel
theorem dX9_readInto_83 : decode cX9_readInto 83 = .ok (.aload_n 0, 1) := by decide +kernel
theorem dX9_readInto_84 : decode cX9_readInto 84 = .ok (.bipush 44, 2) := by decide +kernel
theorem dX9_readInto_86 : decode cX9_readInto 86 = .ok (.invokevirtual 51, 3) := by decide +kernel
theorem dX9_readInto_89 : decode cX9_readInto 89 = .ok (.ifCond .eq 7, 3) := by decide +kernel
theorem dX9_readInto_92 : decode cX9_readInto 92 = .ok (.iconst 1, 1) := by decide +kernel
theorem dX9_readInto_93 : decode cX9_readInto 93 = .ok (.goto 4, 3) := by decide +kernel
theorem dX9_readInto_96 : decode cX9_readInto 96 = .ok (.iconst 0, 1) := by decide +kernel
theorem dX9_readInto_97 : decode cX9_readInto 97 = .ok (.istore_n 2, 1) := by decide +kernel
theorem dX9_readInto_98 : decode cX9_readInto 98 = .ok (.iinc 3 1, 3) := by decide +kernel
theorem dX9_readInto_101 : decode cX9_readInto 101 = .ok (.goto (-39), 3) := by decide +kernel
theorem dX9_readInto_104 : decode cX9_readInto 104 = .ok (.aload_n 0, 1) := by decide +kernel
theorem dX9_readInto_105 : decode cX9_readInto 105 = .ok (.invokevirtual 55, 3) := by decide +kernel
theorem dX9_readInto_108 : decode cX9_readInto 108 = .ok (.ifCond .eq 11, 3) := by decide +kernel
theorem dX9_readInto_111 : decode cX9_readInto 111 = .ok (.aload_n 0, 1) := by decide +kernel
theorem dX9_readInto_112 : decode cX9_readInto 112 = .ok (.aload_n 0, 1) := by decide +kernel
theorem dX9_readInto_113 : decode cX9_readInto 113 = .ok (.getfield 19, 3) := by decide +kernel
theorem dX9_readInto_116 : decode cX9_readInto 116 = .ok (.invokevirtual 59, 3) := by decide +kernel
theorem dX9_readInto_119 : decode cX9_readInto 119 = .ok (.aload_n 0, 1) := by decide +kernel
theorem dX9_readInto_120 : decode cX9_readInto 120 = .ok (.getfield 22, 3) := by decide +kernel
theorem dX9_readInto_123 : decode cX9_readInto 123 = .ok (.ireturn, 1) := by decide +kernel
theorem dX9_readPerson_0 : decode cX9_readPerson 0 = .ok (.ldc 63, 2) := by decide +kernel
theorem dX9_readPerson_2 : decode cX9_readPerson 2 = .ok (.aload_n 0, 1) := by decide +kernel
theorem dX9_readPerson_3 : decode cX9_readPerson 3 = .ok (.invokevirtual 55, 3) := by decide +kernel
theorem dX9_readPerson_6 : decode cX9_readPerson 6 = .ok (.invokevirtual 65, 3) := by decide +kernel
theorem dX9_readPerson_9 : decode cX9_readPerson 9 = .ok (.istore_n 2, 1) := by decide +kernel
theorem dX9_readPerson_10 : decode cX9_readPerson 10 = .ok (.iload_n 2, 1) := by decide +kernel
theorem dX9_readPerson_11 : decode cX9_readPerson 11 = .ok (.ifCond .ge 12, 3) := by decide +kernel
theorem dX9_readPerson_14 : decode cX9_readPerson 14 = .ok (.aload_n 0, 1) := by decide +kernel
theorem dX9_readPerson_15 : decode cX9_readPerson 15 = .ok (.aload_n 0, 1) := by decide +kernel
theorem dX9_readPerson_16 : decode cX9_readPerson 16 = .ok (.getfield 19, 3) := by decide +kernel
theorem dX9_readPerson_19 : decode cX9_readPerson 19 = .ok (.invokevirtual 59, 3) := by decide +kernel
theorem dX9_readPerson_22 : decode cX9_readPerson 22 = .ok (.return_, 1) := by decide +kernel
theorem dX9_readPerson_23 : decode cX9_readPerson 23 = .ok (.aload_n 0, 1) := by decide +kernel
theorem dX9_readPerson_24 : decode cX9_readPerson 24 = .ok (.dup, 1) := by decide +kernel
theorem dX9_readPerson_25 : decode cX9_readPerson 25 = .ok (.getfield 19, 3) := by decide +kernel
theorem dX9_readPerson_28 : decode cX9_readPerson 28 = .ok (.iconst 1, 1) := by decide +kernel
theorem dX9_readPerson_29 : decode cX9_readPerson 29 = .ok (.iadd, 1) := by decide +kernel
theorem dX9_readPerson_30 : decode cX9_readPerson 30 = .ok (.putfield 19, 3) := by decide +kernel
theorem dX9_readPerson_33 : decode cX9_readPerson 33 = .ok (.aload_n 0, 1) := by decide +kernel
theorem dX9_readPerson_34 : decode cX9_readPerson 34 = .ok (.iconst 1, 1) := by decide +kernel
theorem dX9_readPerson_35 : decode cX9_readPerson 35 = .ok (.invokevirtual 41, 3) := by decide +kernel
theorem dX9_readPerson_38 : decode cX9_readPerson 38 = .ok (.istore_n 3, 1) := by decide +kernel
theorem dX9_readPerson_39 : decode cX9_readPerson 39 = .ok (.aload_n 0, 1) := by decide +kernel
theorem dX9_readPerson_40 : decode cX9_readPerson 40 = .ok (.iconst 0, 1) := by decide +kernel
theorem dX9_readPerson_41 : decode cX9_readPerson 41 = .ok (.invokevirtual 41, 3) := by decide +kernel
theorem dX9_readPerson_44 : decode cX9_readPerson 44 = .ok (.istore 4, 2) := by decide +kernel
theorem dX9_readPerson_46 : decode cX9_readPerson 46 = .ok (.iload 4, 2) := by decide +kernel
theorem dX9_readPerson_48 : decode cX9_readPerson 48 = .ok (.bipush 10, 2) := by decide +kernel
theorem dX9_readPerson_50 : decode cX9_readPerson 50 = .ok (.imul, 1) := by decide +kernel
theorem dX9_readPerson_51 : decode cX9_readPerson 51 = .ok (.aload_n 0, 1) := by decide +kernel
theorem dX9_readPerson_52 : decode cX9_readPerson 52 = .ok (.iconst 0, 1) := by decide +kernel
theorem dX9_readPerson_53 : decode cX9_readPerson 53 = .ok (.invokevirtual 41, 3) := by decide +kernel
theorem dX9_readPerson_56 : decode cX9_readPerson 56 = .ok (.iadd, 1) := by decide +kernel
theorem dX9_readPerson_57 : decode cX9_readPerson 57 = .ok (.istore 5, 2) := by decide +kernel
theorem dX9_readPerson_59 : decode cX9_readPerson 59 = .ok (.aload_n 0, 1) := by decide +kernel
theorem dX9_readPerson_60 : decode cX9_readPerson 60 = .ok (.bipush 120, 2) := by decide +kernel
theorem dX9_readPerson_62 : decode cX9_readPerson 62 = .ok (.invokevirtual 51, 3) := by decide +kernel
theorem dX9_readPerson_65 : decode cX9_readPerson 65 = .ok (.ifCond .ne 7, 3) := by decide +kernel
theorem dX9_readPerson_68 : decode cX9_readPerson 68 = .ok (.iconst 1, 1) := by decide +kernel
theorem dX9_readPerson_69 : decode cX9_readPerson 69 = .ok (.goto 4, 3) := by decide +kernel
theorem dX9_readPerson_72 : decode cX9_readPerson 72 = .ok (.iconst 0, 1) := by decide +kernel
theorem dX9_readPerson_73 : decode cX9_readPerson 73 = .ok (.istore 6, 2) := by decide +kernel
theorem dX9_readPerson_75 : decode cX9_readPerson 75 = .ok (.aload_n 0, 1) := by decide +kernel
theorem dX9_readPerson_76 : decode cX9_readPerson 76 = .ok (.getfield 22, 3) := by decide +kernel
theorem dX9_readPerson_79 : decode cX9_readPerson 79 = .ok (.iconst (-1), 1) := by decide +kernel
theorem dX9_readPerson_80 : decode cX9_readPerson 80 = .ok (.if_icmp .ne 16, 3) := by decide +kernel
theorem dX9_readPerson_83 : decode cX9_readPerson 83 = .ok (.aload_n 1, 1) := by decide +kernel
theorem dX9_readPerson_84 : decode cX9_readPerson 84 = .ok (.iload_n 2, 1) := by decide +kernel
theorem dX9_readPerson_85 : decode cX9_readPerson 85 = .ok (.iload_n 3, 1) := by decide +kernel
theorem dX9_readPerson_86 : decode cX9_readPerson 86 = .ok (.invokestatic 70, 3) := by decide +kernel
theorem dX9_readPerson_89 : decode cX9_readPerson 89 = .ok (.iload 5, 2) := by decide +kernel
theorem dX9_readPerson_91 : decode cX9_readPerson 91 = .ok (.iload 6, 2) := by decide +kernel
theorem dX9_readPerson_93 : decode cX9_readPerson 93 = .ok (.invokevirtual 74, 3) := by decide +kernel
theorem dX9_readPerson_96 : decode cX9_readPerson 96 = .ok (.return_, 1) := by decide +kernel
theorem dX9_number_0 : decode cX9_number 0 = .ok (.aload_n 0, 1) := by decide +kernel
theorem dX9_number_1 : decode cX9_number 1 = .ok (.invokevirtual 55, 3) := by decide +kernel
theorem dX9_number_4 : decode cX9_number 4 = .ok (.pop, 1) := by decide +kernel
theorem dX9_number_5 : decode cX9_number 5 = .ok (.aload_n 0, 1) := by decide +kernel
theorem dX9_number_6 : decode cX9_number 6 = .ok (.getfield 19, 3) := by decide +kernel
theorem dX9_number_9 : decode cX9_number 9 = .ok (.istore_n 2, 1) := by decide +kernel
theorem dX9_number_10 : decode cX9_number 10 = .ok (.iconst 0, 1) := by decide +kernel
theorem dX9_number_11 : decode cX9_number 11 = .ok (.istore_n 3, 1) := by decide +kernel
theorem dX9_number_12 : decode cX9_number 12 = .ok (.aload_n 0, 1) := by decide +kernel
theorem dX9_number_13 : decode cX9_number 13 = .ok (.getfield 19, 3) := by decide +kernel
theorem dX9_number_16 : decode cX9_number 16 = .ok (.aload_n 0, 1) := by decide +kernel
theorem dX9_number_17 : decode cX9_number 17 = .ok (.getfield 15, 3) := by decide +kernel
theorem dX9_number_20 : decode cX9_number 20 = .ok (.if_icmp .ge 60, 3) := by decide +kernel
theorem dX9_number_23 : decode cX9_number 23 = .ok (.aload_n 0, 1) := by decide +kernel
theorem dX9_number_24 : decode cX9_number 24 = .ok (.getfield 19, 3) := by decide +kernel
theorem dX9_number_27 : decode cX9_number 27 = .ok (.iload_n 2, 1) := by decide +kernel
theorem dX9_number_28 : decode cX9_number 28 = .ok (.iconst 4, 1) := by decide +kernel
theorem dX9_number_29 : decode cX9_number 29 = .ok (.iadd, 1) := by decide +kernel
theorem dX9_number_30 : decode cX9_number 30 = .ok (.if_icmp .ge 50, 3) := by decide +kernel
theorem dX9_number_33 : decode cX9_number 33 = .ok (.aload_n 0, 1) := by decide +kernel
theorem dX9_number_34 : decode cX9_number 34 = .ok (.getfield 9, 3) := by decide +kernel
theorem dX9_number_37 : decode cX9_number 37 = .ok (.aload_n 0, 1) := by decide +kernel
theorem dX9_number_38 : decode cX9_number 38 = .ok (.getfield 19, 3) := by decide +kernel
theorem dX9_number_41 : decode cX9_number 41 = .ok (.caload, 1) := by decide +kernel
theorem dX9_number_42 : decode cX9_number 42 = .ok (.iconst 0, 1) := by decide +kernel
theorem dX9_number_43 : decode cX9_number 43 = .ok (.invokestatic 78, 3) := by decide +kernel
theorem dX9_number_46 : decode cX9_number 46 = .ok (.ifCond .eq 34, 3) := by decide +kernel
theorem dX9_number_49 : decode cX9_number 49 = .ok (.iload_n 3, 1) := by decide +kernel
theorem dX9_number_50 : decode cX9_number 50 = .ok (.bipush 10, 2) := by decide +kernel
theorem dX9_number_52 : decode cX9_number 52 = .ok (.imul, 1) := by decide +kernel
theorem dX9_number_53 : decode cX9_number 53 = .ok (.aload_n 0, 1) := by decide +kernel
theorem dX9_number_54 : decode cX9_number 54 = .ok (.getfield 9, 3) := by decide +kernel
theorem dX9_number_57 : decode cX9_number 57 = .ok (.aload_n 0, 1) := by decide +kernel
theorem dX9_number_58 : decode cX9_number 58 = .ok (.getfield 19, 3) := by decide +kernel
theorem dX9_number_61 : decode cX9_number 61 = .ok (.caload, 1) := by decide +kernel
theorem dX9_number_62 : decode cX9_number 62 = .ok (.iadd, 1) := by decide +kernel
theorem dX9_number_63 : decode cX9_number 63 = .ok (.bipush 48, 2) := by decide +kernel
theorem dX9_number_65 : decode cX9_number 65 = .ok (.isub, 1) := by decide +kernel
theorem dX9_number_66 : decode cX9_number 66 = .ok (.istore_n 3, 1) := by decide +kernel
theorem dX9_number_67 : decode cX9_number 67 = .ok (.aload_n 0, 1) := by decide +kernel
theorem dX9_number_68 : decode cX9_number 68 = .ok (.dup, 1) := by decide +kernel
theorem dX9_number_69 : decode cX9_number 69 = .ok (.getfield 19, 3) := by decide +kernel
theorem dX9_number_72 : decode cX9_number 72 = .ok (.iconst 1, 1) := by decide +kernel
theorem dX9_number_73 : decode cX9_number 73 = .ok (.iadd, 1) := by decide +kernel
theorem dX9_number_74 : decode cX9_number 74 = .ok (.putfield 19, 3) := by decide +kernel
theorem dX9_number_77 : decode cX9_number 77 = .ok (.goto (-65), 3) := by decide +kernel
theorem dX9_number_80 : decode cX9_number 80 = .ok (.iload_n 3, 1) := by decide +kernel
theorem dX9_number_81 : decode cX9_number 81 = .ok (.iconst 1, 1) := by decide +kernel
theorem dX9_number_82 : decode cX9_number 82 = .ok (.iload_n 1, 1) := by decide +kernel
theorem dX9_number_83 : decode cX9_number 83 = .ok (.invokestatic 82, 3) := by decide +kernel
theorem dX9_number_86 : decode cX9_number 86 = .ok (.ifCond .ne 8, 3) := by decide +kernel
theorem dX9_number_89 : decode cX9_number 89 = .ok (.aload_n 0, 1) := by decide +kernel
theorem dX9_number_90 : decode cX9_number 90 = .ok (.iload_n 2, 1) := by decide +kernel
theorem dX9_number_91 : decode cX9_number 91 = .ok (.invokevirtual 59, 3) := by decide +kernel
theorem dX9_number_94 : decode cX9_number 94 = .ok (.iload_n 3, 1) := by decide +kernel
theorem dX9_number_95 : decode cX9_number 95 = .ok (.ireturn, 1) := by decide +kernel
theorem dX9_digit_0 : decode cX9_digit 0 = .ok (.aload_n 0, 1) := by decide +kernel
theorem dX9_digit_1 : decode cX9_digit 1 = .ok (.invokevirtual 55, 3) := by decide +kernel
theorem dX9_digit_4 : decode cX9_digit 4 = .ok (.istore_n 2, 1) := by decide +kernel
theorem dX9_digit_5 : decode cX9_digit 5 = .ok (.iload_n 2, 1) := by decide +kernel
theorem dX9_digit_6 : decode cX9_digit 6 = .ok (.iload_n 1, 1) := by decide +kernel
theorem dX9_digit_7 : decode cX9_digit 7 = .ok (.invokestatic 78, 3) := by decide +kernel
theorem dX9_digit_10 : decode cX9_digit 10 = .ok (.ifCond .ne 13, 3) := by decide +kernel
theorem dX9_digit_13 : decode cX9_digit 13 = .ok (.aload_n 0, 1) := by decide +kernel
theorem dX9_digit_14 : decode cX9_digit 14 = .ok (.aload_n 0, 1) := by decide +kernel
theorem dX9_digit_15 : decode cX9_digit 15 = .ok (.getfield 19, 3) := by decide +kernel
theorem dX9_digit_18 : decode cX9_digit 18 = .ok (.invokevirtual 59, 3) := by decide +kernel
theorem dX9_digit_21 : decode cX9_digit 21 = .ok (.iload_n 1, 1) := by decide +kernel
theorem dX9_digit_22 : decode cX9_digit 22 = .ok (.ireturn, 1) := by decide +kernel
theorem dX9_digit_23 : decode cX9_digit 23 = .ok (.aload_n 0, 1) := by decide +kernel
theorem dX9_digit_24 : decode cX9_digit 24 = .ok (.dup, 1) := by decide +kernel
theorem dX9_digit_25 : decode cX9_digit 25 = .ok (.getfield 19, 3) := by decide +kernel
theorem dX9_digit_28 : decode cX9_digit 28 = .ok (.iconst 1, 1) := by decide +kernel
theorem dX9_digit_29 : decode cX9_digit 29 = .ok (.iadd, 1) := by decide +kernel
theorem dX9_digit_30 : decode cX9_digit 30 = .ok (.putfield 19, 3) := by decide +kernel
theorem dX9_digit_33 : decode cX9_digit 33 = .ok (.iload_n 2, 1) := by decide +kernel
theorem dX9_digit_34 : decode cX9_digit 34 = .ok (.bipush 48, 2) := by decide +kernel
theorem dX9_digit_36 : decode cX9_digit 36 = .ok (.isub, 1) := by decide +kernel
theorem dX9_digit_37 : decode cX9_digit 37 = .ok (.ireturn, 1) := by decide +kernel
theorem dX9_isDigit_0 : decode cX9_isDigit 0 = .ok (.iload_n 0, 1) := by decide +kernel
theorem dX9_isDigit_1 : decode cX9_isDigit 1 = .ok (.bipush 48, 2) := by decide +kernel
theorem dX9_isDigit_3 : decode cX9_isDigit 3 = .ok (.isub, 1) := by decide +kernel
theorem dX9_isDigit_4 : decode cX9_isDigit 4 = .ok (.iload_n 1, 1) := by decide +kernel
theorem dX9_isDigit_5 : decode cX9_isDigit 5 = .ok (.bipush 9, 2) := by decide +kernel
theorem dX9_isDigit_7 : decode cX9_isDigit 7 = .ok (.invokestatic 82, 3) := by decide +kernel
theorem dX9_isDigit_10 : decode cX9_isDigit 10 = .ok (.ireturn, 1) := by decide +kernel
theorem dX9_expect_0 : decode cX9_expect 0 = .ok (.aload_n 0, 1) := by decide +kernel
theorem dX9_expect_1 : decode cX9_expect 1 = .ok (.iload_n 1, 1) := by decide +kernel
theorem dX9_expect_2 : decode cX9_expect 2 = .ok (.invokevirtual 51, 3) := by decide +kernel
theorem dX9_expect_5 : decode cX9_expect 5 = .ok (.ifCond .ne 11, 3) := by decide +kernel
theorem dX9_expect_8 : decode cX9_expect 8 = .ok (.aload_n 0, 1) := by decide +kernel
theorem dX9_expect_9 : decode cX9_expect 9 = .ok (.aload_n 0, 1) := by decide +kernel
theorem dX9_expect_10 : decode cX9_expect 10 = .ok (.getfield 19, 3) := by decide +kernel
theorem dX9_expect_13 : decode cX9_expect 13 = .ok (.invokevirtual 59, 3) := by decide +kernel
theorem dX9_expect_16 : decode cX9_expect 16 = .ok (.return_, 1) := by decide +kernel
theorem dX9_accept_0 : decode cX9_accept 0 = .ok (.aload_n 0, 1) := by decide +kernel
theorem dX9_accept_1 : decode cX9_accept 1 = .ok (.invokevirtual 55, 3) := by decide +kernel
theorem dX9_accept_4 : decode cX9_accept 4 = .ok (.iload_n 1, 1) := by decide +kernel
theorem dX9_accept_5 : decode cX9_accept 5 = .ok (.if_icmp .eq 5, 3) := by decide +kernel
theorem dX9_accept_8 : decode cX9_accept 8 = .ok (.iconst 0, 1) := by decide +kernel
theorem dX9_accept_9 : decode cX9_accept 9 = .ok (.ireturn, 1) := by decide +kernel
theorem dX9_accept_10 : decode cX9_accept 10 = .ok (.aload_n 0, 1) := by decide +kernel
theorem dX9_accept_11 : decode cX9_accept 11 = .ok (.dup, 1) := by decide +kernel
theorem dX9_accept_12 : decode cX9_accept 12 = .ok (.getfield 19, 3) := by decide +kernel
theorem dX9_accept_15 : decode cX9_accept 15 = .ok (.iconst 1, 1) := by decide +kernel
theorem dX9_accept_16 : decode cX9_accept 16 = .ok (.iadd, 1) := by decide +kernel
theorem dX9_accept_17 : decode cX9_accept 17 = .ok (.putfield 19, 3) := by decide +kernel
theorem dX9_accept_20 : decode cX9_accept 20 = .ok (.iconst 1, 1) := by decide +kernel
theorem dX9_accept_21 : decode cX9_accept 21 = .ok (.ireturn, 1) := by decide +kernel
theorem dX9_look_0 : decode cX9_look 0 = .ok (.aload_n 0, 1) := by decide +kernel
theorem dX9_look_1 : decode cX9_look 1 = .ok (.getfield 19, 3) := by decide +kernel
theorem dX9_look_4 : decode cX9_look 4 = .ok (.aload_n 0, 1) := by decide +kernel
theorem dX9_look_5 : decode cX9_look 5 = .ok (.getfield 15, 3) := by decide +kernel
theorem dX9_look_8 : decode cX9_look 8 = .ok (.if_icmp .ge 30, 3) := by decide +kernel
theorem dX9_look_11 : decode cX9_look 11 = .ok (.aload_n 0, 1) := by decide +kernel
theorem dX9_look_12 : decode cX9_look 12 = .ok (.getfield 9, 3) := by decide +kernel
theorem dX9_look_15 : decode cX9_look 15 = .ok (.aload_n 0, 1) := by decide +kernel
theorem dX9_look_16 : decode cX9_look 16 = .ok (.getfield 19, 3) := by decide +kernel
theorem dX9_look_19 : decode cX9_look 19 = .ok (.caload, 1) := by decide +kernel
theorem dX9_look_20 : decode cX9_look 20 = .ok (.bipush 32, 2) := by decide +kernel
theorem dX9_look_22 : decode cX9_look 22 = .ok (.if_icmp .ne 16, 3) := by decide +kernel
theorem dX9_look_25 : decode cX9_look 25 = .ok (.aload_n 0, 1) := by decide +kernel
theorem dX9_look_26 : decode cX9_look 26 = .ok (.dup, 1) := by decide +kernel
theorem dX9_look_27 : decode cX9_look 27 = .ok (.getfield 19, 3) := by decide +kernel
theorem dX9_look_30 : decode cX9_look 30 = .ok (.iconst 1, 1) := by decide +kernel
theorem dX9_look_31 : decode cX9_look 31 = .ok (.iadd, 1) := by decide +kernel
theorem dX9_look_32 : decode cX9_look 32 = .ok (.putfield 19, 3) := by decide +kernel
theorem dX9_look_35 : decode cX9_look 35 = .ok (.goto (-35), 3) := by decide +kernel
theorem dX9_look_38 : decode cX9_look 38 = .ok (.aload_n 0, 1) := by decide +kernel
theorem dX9_look_39 : decode cX9_look 39 = .ok (.getfield 19, 3) := by decide +kernel
theorem dX9_look_42 : decode cX9_look 42 = .ok (.aload_n 0, 1) := by decide +kernel
theorem dX9_look_43 : decode cX9_look 43 = .ok (.getfield 15, 3) := by decide +kernel
theorem dX9_look_46 : decode cX9_look 46 = .ok (.if_icmp .ge 15, 3) := by decide +kernel
theorem dX9_look_49 : decode cX9_look 49 = .ok (.aload_n 0, 1) := by decide +kernel
theorem dX9_look_50 : decode cX9_look 50 = .ok (.getfield 9, 3) := by decide +kernel
theorem dX9_look_53 : decode cX9_look 53 = .ok (.aload_n 0, 1) := by decide +kernel
theorem dX9_look_54 : decode cX9_look 54 = .ok (.getfield 19, 3) := by decide +kernel
theorem dX9_look_57 : decode cX9_look 57 = .ok (.caload, 1) := by decide +kernel
theorem dX9_look_58 : decode cX9_look 58 = .ok (.goto 4, 3) := by decide +kernel
theorem dX9_look_61 : decode cX9_look 61 = .ok (.iconst 0, 1) := by decide +kernel
theorem dX9_look_62 : decode cX9_look 62 = .ok (.ireturn, 1) := by decide +kernel
theorem dX9_failAt_0 : decode cX9_failAt 0 = .ok (.aload_n 0, 1) := by decide +kernel
theorem dX9_failAt_1 : decode cX9_failAt 1 = .ok (.getfield 22, 3) := by decide +kernel
theorem dX9_failAt_4 : decode cX9_failAt 4 = .ok (.iconst (-1), 1) := by decide +kernel
theorem dX9_failAt_5 : decode cX9_failAt 5 = .ok (.if_icmp .ne 8, 3) := by decide +kernel
theorem dX9_failAt_8 : decode cX9_failAt 8 = .ok (.aload_n 0, 1) := by decide +kernel
theorem dX9_failAt_9 : decode cX9_failAt 9 = .ok (.iload_n 1, 1) := by decide +kernel
theorem dX9_failAt_10 : decode cX9_failAt 10 = .ok (.putfield 22, 3) := by decide +kernel
theorem dX9_failAt_13 : decode cX9_failAt 13 = .ok (.return_, 1) := by decide +kernel
theorem dX10_init_0 : decode cX10_init 0 = .ok (.aload_n 0, 1) := by decide +kernel
theorem dX10_init_1 : decode cX10_init 1 = .ok (.invokespecial 1, 3) := by decide +kernel
theorem dX10_init_4 : decode cX10_init 4 = .ok (.aload_n 0, 1) := by decide +kernel
theorem dX10_init_5 : decode cX10_init 5 = .ok (.new 7, 3) := by decide +kernel
theorem dX10_init_8 : decode cX10_init 8 = .ok (.dup, 1) := by decide +kernel
theorem dX10_init_9 : decode cX10_init 9 = .ok (.invokespecial 9, 3) := by decide +kernel
theorem dX10_init_12 : decode cX10_init 12 = .ok (.putfield 10, 3) := by decide +kernel
theorem dX10_init_15 : decode cX10_init 15 = .ok (.aload_n 0, 1) := by decide +kernel
theorem dX10_init_16 : decode cX10_init 16 = .ok (.new 16, 3) := by decide +kernel
theorem dX10_init_19 : decode cX10_init 19 = .ok (.dup, 1) := by decide +kernel
theorem dX10_init_20 : decode cX10_init 20 = .ok (.invokespecial 18, 3) := by decide +kernel
theorem dX10_init_23 : decode cX10_init 23 = .ok (.putfield 19, 3) := by decide +kernel
theorem dX10_init_26 : decode cX10_init 26 = .ok (.aload_n 0, 1) := by decide +kernel
theorem dX10_init_27 : decode cX10_init 27 = .ok (.new 7, 3) := by decide +kernel
theorem dX10_init_30 : decode cX10_init 30 = .ok (.dup, 1) := by decide +kernel
theorem dX10_init_31 : decode cX10_init 31 = .ok (.invokespecial 9, 3) := by decide +kernel
theorem dX10_init_34 : decode cX10_init 34 = .ok (.putfield 23, 3) := by decide +kernel
theorem dX10_init_37 : decode cX10_init 37 = .ok (.aload_n 0, 1) := by decide +kernel
theorem dX10_init_38 : decode cX10_init 38 = .ok (.new 16, 3) := by decide +kernel
theorem dX10_init_41 : decode cX10_init 41 = .ok (.dup, 1) := by decide +kernel
theorem dX10_init_42 : decode cX10_init 42 = .ok (.invokespecial 18, 3) := by decide +kernel
theorem dX10_init_45 : decode cX10_init 45 = .ok (.putfield 26, 3) := by decide +kernel
theorem dX10_init_48 : decode cX10_init 48 = .ok (.aload_n 0, 1) := by decide +kernel
theorem dX10_init_49 : decode cX10_init 49 = .ok (.iconst 0, 1) := by decide +kernel
theorem dX10_init_50 : decode cX10_init 50 = .ok (.putfield 29, 3) := by decide +kernel
theorem dX10_init_53 : decode cX10_init 53 = .ok (.aload_n 0, 1) := by decide +kernel
theorem dX10_init_54 : decode cX10_init 54 = .ok (.new 7, 3) := by decide +kernel
theorem dX10_init_57 : decode cX10_init 57 = .ok (.dup, 1) := by decide +kernel
theorem dX10_init_58 : decode cX10_init 58 = .ok (.invokespecial 9, 3) := by decide +kernel
theorem dX10_init_61 : decode cX10_init 61 = .ok (.putfield 33, 3) := by decide +kernel
theorem dX10_init_64 : decode cX10_init 64 = .ok (.aload_n 0, 1) := by decide +kernel
theorem dX10_init_65 : decode cX10_init 65 = .ok (.new 36, 3) := by decide +kernel
theorem dX10_init_68 : decode cX10_init 68 = .ok (.dup, 1) := by decide +kernel
theorem dX10_init_69 : decode cX10_init 69 = .ok (.invokespecial 38, 3) := by decide +kernel
theorem dX10_init_72 : decode cX10_init 72 = .ok (.putfield 39, 3) := by decide +kernel
theorem dX10_init_75 : decode cX10_init 75 = .ok (.aload_n 0, 1) := by decide +kernel
theorem dX10_init_76 : decode cX10_init 76 = .ok (.iconst 4, 1) := by decide +kernel
theorem dX10_init_77 : decode cX10_init 77 = .ok (.anewarray 43, 3) := by decide +kernel
theorem dX10_init_80 : decode cX10_init 80 = .ok (.putfield 45, 3) := by decide +kernel
theorem dX10_init_83 : decode cX10_init 83 = .ok (.iconst 0, 1) := by decide +kernel
theorem dX10_init_84 : decode cX10_init 84 = .ok (.istore_n 1, 1) := by decide +kernel
theorem dX10_init_85 : decode cX10_init 85 = .ok (.iload_n 1, 1) := by decide +kernel
theorem dX10_init_86 : decode cX10_init 86 = .ok (.iconst 4, 1) := by decide +kernel
theorem dX10_init_87 : decode cX10_init 87 = .ok (.if_icmp .ge 22, 3) := by decide +kernel
theorem dX10_init_90 : decode cX10_init 90 = .ok (.aload_n 0, 1) := by decide +kernel
theorem dX10_init_91 : decode cX10_init 91 = .ok (.getfield 45, 3) := by decide +kernel
theorem dX10_init_94 : decode cX10_init 94 = .ok (.iload_n 1, 1) := by decide +kernel
theorem dX10_init_95 : decode cX10_init 95 = .ok (.new 43, 3) := by decide +kernel
theorem dX10_init_98 : decode cX10_init 98 = .ok (.dup, 1) := by decide +kernel
theorem dX10_init_99 : decode cX10_init 99 = .ok (.invokespecial 49, 3) := by decide +kernel
theorem dX10_init_102 : decode cX10_init 102 = .ok (.aastore, 1) := by decide +kernel
theorem dX10_init_103 : decode cX10_init 103 = .ok (.iinc 1 1, 3) := by decide +kernel
theorem dX10_init_106 : decode cX10_init 106 = .ok (.goto (-21), 3) := by decide +kernel
theorem dX10_init_109 : decode cX10_init 109 = .ok (.return_, 1) := by decide +kernel
theorem dX10_person_0 : decode cX10_person 0 = .ok (.iload_n 1, 1) := by decide +kernel
theorem dX10_person_1 : decode cX10_person 1 = .ok (.iconst 0, 1) := by decide +kernel
theorem dX10_person_2 : decode cX10_person 2 = .ok (.iconst 5, 1) := by decide +kernel
theorem dX10_person_3 : decode cX10_person 3 = .ok (.invokestatic 50, 3) := by decide +kernel
theorem dX10_person_6 : decode cX10_person 6 = .ok (.ifCond .eq 23, 3) := by decide +kernel
theorem dX10_person_9 : decode cX10_person 9 = .ok (.iload_n 2, 1) := by decide +kernel
theorem dX10_person_10 : decode cX10_person 10 = .ok (.iconst 1, 1) := by decide +kernel
theorem dX10_person_11 : decode cX10_person 11 = .ok (.bipush 9, 2) := by decide +kernel
theorem dX10_person_13 : decode cX10_person 13 = .ok (.invokestatic 50, 3) := by decide +kernel
theorem dX10_person_16 : decode cX10_person 16 = .ok (.ifCond .eq 13, 3) := by decide +kernel
theorem dX10_person_19 : decode cX10_person 19 = .ok (.iload_n 3, 1) := by decide +kernel
theorem dX10_person_20 : decode cX10_person 20 = .ok (.iconst 0, 1) := by decide +kernel
theorem dX10_person_21 : decode cX10_person 21 = .ok (.bipush 99, 2) := by decide +kernel
theorem dX10_person_23 : decode cX10_person 23 = .ok (.invokestatic 50, 3) := by decide +kernel
theorem dX10_person_26 : decode cX10_person 26 = .ok (.ifCond .ne 5, 3) := by decide +kernel
theorem dX10_person_29 : decode cX10_person 29 = .ok (.iconst (-1), 1) := by decide +kernel
theorem dX10_person_30 : decode cX10_person 30 = .ok (.ireturn, 1) := by decide +kernel
theorem dX10_person_31 : decode cX10_person 31 = .ok (.aload_n 0, 1) := by decide +kernel
theorem dX10_person_32 : decode cX10_person 32 = .ok (.getfield 10, 3) := by decide +kernel
theorem dX10_person_35 : decode cX10_person 35 = .ok (.getfield 54, 3) := by decide +kernel
theorem dX10_person_38 : decode cX10_person 38 = .ok (.bipush 6, 2) := by decide +kernel
theorem dX10_person_40 : decode cX10_person 40 = .ok (.if_icmp .lt 6, 3) := by decide +kernel
theorem dX10_person_43 : decode cX10_person 43 = .ok (.bipush (-3), 2) := by decide +kernel
theorem dX10_person_45 : decode cX10_person 45 = .ok (.ireturn, 1) := by decide +kernel
theorem dX10_person_46 : decode cX10_person 46 = .ok (.aload_n 0, 1) := by decide +kernel
theorem dX10_person_47 : decode cX10_person 47 = .ok (.getfield 10, 3) := by decide +kernel
theorem dX10_person_50 : decode cX10_person 50 = .ok (.iload_n 1, 1) := by decide +kernel
theorem dX10_person_51 : decode cX10_person 51 = .ok (.iload_n 2, 1) := by decide +kernel
theorem dX10_person_52 : decode cX10_person 52 = .ok (.invokestatic 58, 3) := by decide +kernel
theorem dX10_person_55 : decode cX10_person 55 = .ok (.iload_n 3, 1) := by decide +kernel
theorem dX10_person_56 : decode cX10_person 56 = .ok (.iconst 1, 1) := by decide +kernel
theorem dX10_person_57 : decode cX10_person 57 = .ok (.invokevirtual 62, 3) := by decide +kernel
theorem dX10_person_60 : decode cX10_person 60 = .ok (.aload_n 0, 1) := by decide +kernel
theorem dX10_person_61 : decode cX10_person 61 = .ok (.getfield 19, 3) := by decide +kernel
theorem dX10_person_64 : decode cX10_person 64 = .ok (.invokevirtual 66, 3) := by decide +kernel
theorem dX10_person_67 : decode cX10_person 67 = .ok (.aload_n 0, 1) := by decide +kernel
theorem dX10_person_68 : decode cX10_person 68 = .ok (.getfield 10, 3) := by decide +kernel
theorem dX10_person_71 : decode cX10_person 71 = .ok (.getfield 54, 3) := by decide +kernel
theorem dX10_person_74 : decode cX10_person 74 = .ok (.iconst 1, 1) := by decide +kernel
theorem dX10_person_75 : decode cX10_person 75 = .ok (.isub, 1) := by decide +kernel
theorem dX10_person_76 : decode cX10_person 76 = .ok (.ireturn, 1) := by decide +kernel
theorem dX10_of_0 : decode cX10_of 0 = .ok (.aload_n 0, 1) := by decide +kernel
theorem dX10_of_1 : decode cX10_of 1 = .ok (.iload_n 1, 1) := by decide +kernel
theorem dX10_of_2 : decode cX10_of 2 = .ok (.invokevirtual 69, 3) := by decide +kernel
theorem dX10_of_5 : decode cX10_of 5 = .ok (.ifCond .ne 5, 3) := by decide +kernel
theorem dX10_of_8 : decode cX10_of 8 = .ok (.iconst (-1), 1) := by decide +kernel
theorem dX10_of_9 : decode cX10_of 9 = .ok (.ireturn, 1) := by decide +kernel
theorem dX10_of_10 : decode cX10_of 10 = .ok (.iload_n 2, 1) := by decide +kernel
theorem dX10_of_11 : decode cX10_of 11 = .ok (.tableswitch 116 0 6 #[41, 54, 67, 77, 89, 98, 107], 41) := by decide +kernel
theorem dX10_of_52 : decode cX10_of 52 = .ok (.aload_n 0, 1) := by decide +kernel
theorem dX10_of_53 : decode cX10_of 53 = .ok (.getfield 10, 3) := by decide +kernel
theorem dX10_of_56 : decode cX10_of 56 = .ok (.getfield 73, 3) := by decide +kernel
theorem dX10_of_59 : decode cX10_of 59 = .ok (.iload_n 1, 1) := by decide +kernel
theorem dX10_of_60 : decode cX10_of 60 = .ok (.aaload, 1) := by decide +kernel
theorem dX10_of_61 : decode cX10_of 61 = .ok (.invokevirtual 77, 3) := by decide +kernel
theorem dX10_of_64 : decode cX10_of 64 = .ok (.ireturn, 1) := by decide +kernel
theorem dX10_of_65 : decode cX10_of 65 = .ok (.aload_n 0, 1) := by decide +kernel
theorem dX10_of_66 : decode cX10_of 66 = .ok (.getfield 10, 3) := by decide +kernel
theorem dX10_of_69 : decode cX10_of 69 = .ok (.getfield 73, 3) := by decide +kernel
theorem dX10_of_72 : decode cX10_of 72 = .ok (.iload_n 1, 1) := by decide +kernel
theorem dX10_of_73 : decode cX10_of 73 = .ok (.aaload, 1) := by decide +kernel
theorem dX10_of_74 : decode cX10_of 74 = .ok (.getfield 83, 3) := by decide +kernel
theorem dX10_of_77 : decode cX10_of 77 = .ok (.ireturn, 1) := by decide +kernel
theorem dX10_of_78 : decode cX10_of 78 = .ok (.aload_n 0, 1) := by decide +kernel
theorem dX10_of_79 : decode cX10_of 79 = .ok (.getfield 10, 3) := by decide +kernel
theorem dX10_of_82 : decode cX10_of 82 = .ok (.getfield 86, 3) := by decide +kernel
theorem dX10_of_85 : decode cX10_of 85 = .ok (.iload_n 1, 1) := by decide +kernel
theorem dX10_of_86 : decode cX10_of 86 = .ok (.iaload, 1) := by decide +kernel
theorem dX10_of_87 : decode cX10_of 87 = .ok (.ireturn, 1) := by decide +kernel
theorem dX10_of_88 : decode cX10_of 88 = .ok (.aload_n 0, 1) := by decide +kernel
theorem dX10_of_89 : decode cX10_of 89 = .ok (.getfield 10, 3) := by decide +kernel
theorem dX10_of_92 : decode cX10_of 92 = .ok (.getfield 90, 3) := by decide +kernel
theorem dX10_of_95 : decode cX10_of 95 = .ok (.iload_n 1, 1) := by decide +kernel
theorem dX10_of_96 : decode cX10_of 96 = .ok (.ishr, 1) := by decide +kernel
theorem dX10_of_97 : decode cX10_of 97 = .ok (.iconst 1, 1) := by decide +kernel
theorem dX10_of_98 : decode cX10_of 98 = .ok (.iand, 1) := by decide +kernel
theorem dX10_of_99 : decode cX10_of 99 = .ok (.ireturn, 1) := by decide +kernel
theorem dX10_of_100 : decode cX10_of 100 = .ok (.aload_n 0, 1) := by decide +kernel
theorem dX10_of_101 : decode cX10_of 101 = .ok (.getfield 10, 3) := by decide +kernel
theorem dX10_of_104 : decode cX10_of 104 = .ok (.iload_n 1, 1) := by decide +kernel
theorem dX10_of_105 : decode cX10_of 105 = .ok (.invokevirtual 93, 3) := by decide +kernel
theorem dX10_of_108 : decode cX10_of 108 = .ok (.ireturn, 1) := by decide +kernel
theorem dX10_of_109 : decode cX10_of 109 = .ok (.aload_n 0, 1) := by decide +kernel
theorem dX10_of_110 : decode cX10_of 110 = .ok (.getfield 10, 3) := by decide +kernel
theorem dX10_of_113 : decode cX10_of 113 = .ok (.iload_n 1, 1) := by decide +kernel
theorem dX10_of_114 : decode cX10_of 114 = .ok (.invokevirtual 97, 3) := by decide +kernel
theorem dX10_of_117 : decode cX10_of 117 = .ok (.ireturn, 1) := by decide +kernel
theorem dX10_of_118 : decode cX10_of 118 = .ok (.aload_n 0, 1) := by decide +kernel
theorem dX10_of_119 : decode cX10_of 119 = .ok (.getfield 10, 3) := by decide +kernel
theorem dX10_of_122 : decode cX10_of 122 = .ok (.iload_n 1, 1) := by decide +kernel
theorem dX10_of_123 : decode cX10_of 123 = .ok (.invokevirtual 100, 3) := by decide +kernel
theorem dX10_of_126 : decode cX10_of 126 = .ok (.ireturn, 1) := by decide +kernel
theorem dX10_of_127 : decode cX10_of 127 = .ok (.iconst (-1), 1) := by decide +kernel
theorem dX10_of_128 : decode cX10_of 128 = .ok (.ireturn, 1) := by decide +kernel
theorem dX10_rule_0 : decode cX10_rule 0 = .ok (.iload_n 1, 1) := by decide +kernel
theorem dX10_rule_1 : decode cX10_rule 1 = .ok (.ifCond .ne 33, 3) := by decide +kernel
theorem dX10_rule_4 : decode cX10_rule 4 = .ok (.iload_n 2, 1) := by decide +kernel
theorem dX10_rule_5 : decode cX10_rule 5 = .ok (.iconst 1, 1) := by decide +kernel
theorem dX10_rule_6 : decode cX10_rule 6 = .ok (.sipush 9999, 3) := by decide +kernel
theorem dX10_rule_9 : decode cX10_rule 9 = .ok (.invokestatic 50, 3) := by decide +kernel
theorem dX10_rule_12 : decode cX10_rule 12 = .ok (.ifCond .eq 22, 3) := by decide +kernel
theorem dX10_rule_15 : decode cX10_rule 15 = .ok (.aload_n 0, 1) := by decide +kernel
theorem dX10_rule_16 : decode cX10_rule 16 = .ok (.getfield 10, 3) := by decide +kernel
theorem dX10_rule_19 : decode cX10_rule 19 = .ok (.getfield 103, 3) := by decide +kernel
theorem dX10_rule_22 : decode cX10_rule 22 = .ok (.istore_n 3, 1) := by decide +kernel
theorem dX10_rule_23 : decode cX10_rule 23 = .ok (.aload_n 0, 1) := by decide +kernel
theorem dX10_rule_24 : decode cX10_rule 24 = .ok (.getfield 10, 3) := by decide +kernel
theorem dX10_rule_27 : decode cX10_rule 27 = .ok (.iload_n 2, 1) := by decide +kernel
theorem dX10_rule_28 : decode cX10_rule 28 = .ok (.putfield 103, 3) := by decide +kernel
theorem dX10_rule_31 : decode cX10_rule 31 = .ok (.goto 73, 3) := by decide +kernel
theorem dX10_rule_34 : decode cX10_rule 34 = .ok (.iload_n 1, 1) := by decide +kernel
theorem dX10_rule_35 : decode cX10_rule 35 = .ok (.iconst 1, 1) := by decide +kernel
theorem dX10_rule_36 : decode cX10_rule 36 = .ok (.if_icmp .ne 32, 3) := by decide +kernel
theorem dX10_rule_39 : decode cX10_rule 39 = .ok (.iload_n 2, 1) := by decide +kernel
theorem dX10_rule_40 : decode cX10_rule 40 = .ok (.iconst 1, 1) := by decide +kernel
theorem dX10_rule_41 : decode cX10_rule 41 = .ok (.bipush 100, 2) := by decide +kernel
theorem dX10_rule_43 : decode cX10_rule 43 = .ok (.invokestatic 50, 3) := by decide +kernel
theorem dX10_rule_46 : decode cX10_rule 46 = .ok (.ifCond .eq 22, 3) := by decide +kernel
theorem dX10_rule_49 : decode cX10_rule 49 = .ok (.aload_n 0, 1) := by decide +kernel
theorem dX10_rule_50 : decode cX10_rule 50 = .ok (.getfield 10, 3) := by decide +kernel
theorem dX10_rule_53 : decode cX10_rule 53 = .ok (.getfield 106, 3) := by decide +kernel
theorem dX10_rule_56 : decode cX10_rule 56 = .ok (.istore_n 3, 1) := by decide +kernel
theorem dX10_rule_57 : decode cX10_rule 57 = .ok (.aload_n 0, 1) := by decide +kernel
theorem dX10_rule_58 : decode cX10_rule 58 = .ok (.getfield 10, 3) := by decide +kernel
theorem dX10_rule_61 : decode cX10_rule 61 = .ok (.iload_n 2, 1) := by decide +kernel
theorem dX10_rule_62 : decode cX10_rule 62 = .ok (.putfield 106, 3) := by decide +kernel
theorem dX10_rule_65 : decode cX10_rule 65 = .ok (.goto 39, 3) := by decide +kernel
theorem dX10_rule_68 : decode cX10_rule 68 = .ok (.iload_n 1, 1) := by decide +kernel
theorem dX10_rule_69 : decode cX10_rule 69 = .ok (.iconst 2, 1) := by decide +kernel
theorem dX10_rule_70 : decode cX10_rule 70 = .ok (.if_icmp .ne 32, 3) := by decide +kernel
theorem dX10_rule_73 : decode cX10_rule 73 = .ok (.iload_n 2, 1) := by decide +kernel
theorem dX10_rule_74 : decode cX10_rule 74 = .ok (.iconst 0, 1) := by decide +kernel
theorem dX10_rule_75 : decode cX10_rule 75 = .ok (.bipush 9, 2) := by decide +kernel
theorem dX10_rule_77 : decode cX10_rule 77 = .ok (.invokestatic 50, 3) := by decide +kernel
theorem dX10_rule_80 : decode cX10_rule 80 = .ok (.ifCond .eq 22, 3) := by decide +kernel
theorem dX10_rule_83 : decode cX10_rule 83 = .ok (.aload_n 0, 1) := by decide +kernel
theorem dX10_rule_84 : decode cX10_rule 84 = .ok (.getfield 10, 3) := by decide +kernel
theorem dX10_rule_87 : decode cX10_rule 87 = .ok (.getfield 109, 3) := by decide +kernel
theorem dX10_rule_90 : decode cX10_rule 90 = .ok (.istore_n 3, 1) := by decide +kernel
theorem dX10_rule_91 : decode cX10_rule 91 = .ok (.aload_n 0, 1) := by decide +kernel
theorem dX10_rule_92 : decode cX10_rule 92 = .ok (.getfield 10, 3) := by decide +kernel
theorem dX10_rule_95 : decode cX10_rule 95 = .ok (.iload_n 2, 1) := by decide +kernel
theorem dX10_rule_96 : decode cX10_rule 96 = .ok (.putfield 109, 3) := by decide +kernel
theorem dX10_rule_99 : decode cX10_rule 99 = .ok (.goto 5, 3) := by decide +kernel
theorem dX10_rule_102 : decode cX10_rule 102 = .ok (.iconst (-1), 1) := by decide +kernel
theorem dX10_rule_103 : decode cX10_rule 103 = .ok (.istore_n 3, 1) := by decide +kernel
theorem dX10_rule_104 : decode cX10_rule 104 = .ok (.iload_n 3, 1) := by decide +kernel
theorem dX10_rule_105 : decode cX10_rule 105 = .ok (.ireturn, 1) := by decide +kernel
theorem dX10_hope_0 : decode cX10_hope 0 = .ok (.aload_n 0, 1) := by decide +kernel
theorem dX10_hope_1 : decode cX10_hope 1 = .ok (.iload_n 1, 1) := by decide +kernel
theorem dX10_hope_2 : decode cX10_hope 2 = .ok (.invokevirtual 69, 3) := by decide +kernel
theorem dX10_hope_5 : decode cX10_hope 5 = .ok (.ifCond .eq 12, 3) := by decide +kernel
theorem dX10_hope_8 : decode cX10_hope 8 = .ok (.iload_n 2, 1) := by decide +kernel
theorem dX10_hope_9 : decode cX10_hope 9 = .ok (.iconst 0, 1) := by decide +kernel
theorem dX10_hope_10 : decode cX10_hope 10 = .ok (.iconst 1, 1) := by decide +kernel
theorem dX10_hope_11 : decode cX10_hope 11 = .ok (.invokestatic 50, 3) := by decide +kernel
theorem dX10_hope_14 : decode cX10_hope 14 = .ok (.ifCond .ne 5, 3) := by decide +kernel
theorem dX10_hope_17 : decode cX10_hope 17 = .ok (.iconst (-1), 1) := by decide +kernel
theorem dX10_hope_18 : decode cX10_hope 18 = .ok (.ireturn, 1) := by decide +kernel
theorem dX10_hope_19 : decode cX10_hope 19 = .ok (.aload_n 0, 1) := by decide +kernel
theorem dX10_hope_20 : decode cX10_hope 20 = .ok (.getfield 10, 3) := by decide +kernel
theorem dX10_hope_23 : decode cX10_hope 23 = .ok (.getfield 90, 3) := by decide +kernel
theorem dX10_hope_26 : decode cX10_hope 26 = .ok (.iload_n 1, 1) := by decide +kernel
theorem dX10_hope_27 : decode cX10_hope 27 = .ok (.ishr, 1) := by decide +kernel
theorem dX10_hope_28 : decode cX10_hope 28 = .ok (.iconst 1, 1) := by decide +kernel
theorem dX10_hope_29 : decode cX10_hope 29 = .ok (.iand, 1) := by decide +kernel
theorem dX10_hope_30 : decode cX10_hope 30 = .ok (.istore_n 3, 1) := by decide +kernel
theorem dX10_hope_31 : decode cX10_hope 31 = .ok (.aload_n 0, 1) := by decide +kernel
theorem dX10_hope_32 : decode cX10_hope 32 = .ok (.getfield 10, 3) := by decide +kernel
theorem dX10_hope_35 : decode cX10_hope 35 = .ok (.aload_n 0, 1) := by decide +kernel
theorem dX10_hope_36 : decode cX10_hope 36 = .ok (.getfield 10, 3) := by decide +kernel
theorem dX10_hope_39 : decode cX10_hope 39 = .ok (.getfield 90, 3) := by decide +kernel
theorem dX10_hope_42 : decode cX10_hope 42 = .ok (.iconst 1, 1) := by decide +kernel
theorem dX10_hope_43 : decode cX10_hope 43 = .ok (.iload_n 1, 1) := by decide +kernel
theorem dX10_hope_44 : decode cX10_hope 44 = .ok (.ishl, 1) := by decide +kernel
theorem dX10_hope_45 : decode cX10_hope 45 = .ok (.iconst (-1), 1) := by decide +kernel
theorem dX10_hope_46 : decode cX10_hope 46 = .ok (.ixor, 1) := by decide +kernel
theorem dX10_hope_47 : decode cX10_hope 47 = .ok (.iand, 1) := by decide +kernel
theorem dX10_hope_48 : decode cX10_hope 48 = .ok (.iload_n 2, 1) := by decide +kernel
theorem dX10_hope_49 : decode cX10_hope 49 = .ok (.iload_n 1, 1) := by decide +kernel
theorem dX10_hope_50 : decode cX10_hope 50 = .ok (.ishl, 1) := by decide +kernel
theorem dX10_hope_51 : decode cX10_hope 51 = .ok (.ior, 1) := by decide +kernel
theorem dX10_hope_52 : decode cX10_hope 52 = .ok (.putfield 90, 3) := by decide +kernel
theorem dX10_hope_55 : decode cX10_hope 55 = .ok (.iload_n 3, 1) := by decide +kernel
theorem dX10_hope_56 : decode cX10_hope 56 = .ok (.ireturn, 1) := by decide +kernel
theorem dX10_type_0 : decode cX10_type 0 = .ok (.iload_n 1, 1) := by decide +kernel
theorem dX10_type_1 : decode cX10_type 1 = .ok (.bipush 32, 2) := by decide +kernel
theorem dX10_type_3 : decode cX10_type 3 = .ok (.bipush 126, 2) := by decide +kernel
theorem dX10_type_5 : decode cX10_type 5 = .ok (.invokestatic 50, 3) := by decide +kernel
theorem dX10_type_8 : decode cX10_type 8 = .ok (.ifCond .ne 5, 3) := by decide +kernel
theorem dX10_type_11 : decode cX10_type 11 = .ok (.iconst (-1), 1) := by decide +kernel
theorem dX10_type_12 : decode cX10_type 12 = .ok (.ireturn, 1) := by decide +kernel
theorem dX10_type_13 : decode cX10_type 13 = .ok (.aload_n 0, 1) := by decide +kernel
theorem dX10_type_14 : decode cX10_type 14 = .ok (.getfield 39, 3) := by decide +kernel
theorem dX10_type_17 : decode cX10_type 17 = .ok (.getfield 112, 3) := by decide +kernel
theorem dX10_type_20 : decode cX10_type 20 = .ok (.bipush 60, 2) := by decide +kernel
theorem dX10_type_22 : decode cX10_type 22 = .ok (.if_icmp .lt 6, 3) := by decide +kernel
theorem dX10_type_25 : decode cX10_type 25 = .ok (.bipush (-3), 2) := by decide +kernel
theorem dX10_type_27 : decode cX10_type 27 = .ok (.ireturn, 1) := by decide +kernel
theorem dX10_type_28 : decode cX10_type 28 = .ok (.aload_n 0, 1) := by decide +kernel
theorem dX10_type_29 : decode cX10_type 29 = .ok (.getfield 39, 3) := by decide +kernel
theorem dX10_type_32 : decode cX10_type 32 = .ok (.getfield 115, 3) := by decide +kernel
theorem dX10_type_35 : decode cX10_type 35 = .ok (.aload_n 0, 1) := by decide +kernel
theorem dX10_type_36 : decode cX10_type 36 = .ok (.getfield 39, 3) := by decide +kernel
theorem dX10_type_39 : decode cX10_type 39 = .ok (.getfield 112, 3) := by decide +kernel
theorem dX10_type_42 : decode cX10_type 42 = .ok (.iload_n 1, 1) := by decide +kernel
theorem dX10_type_43 : decode cX10_type 43 = .ok (.i2c, 1) := by decide +kernel
theorem dX10_type_44 : decode cX10_type 44 = .ok (.castore, 1) := by decide +kernel
theorem dX10_type_45 : decode cX10_type 45 = .ok (.aload_n 0, 1) := by decide +kernel
theorem dX10_type_46 : decode cX10_type 46 = .ok (.getfield 39, 3) := by decide +kernel
theorem dX10_type_49 : decode cX10_type 49 = .ok (.dup, 1) := by decide +kernel
theorem dX10_type_50 : decode cX10_type 50 = .ok (.getfield 112, 3) := by decide +kernel
theorem dX10_type_53 : decode cX10_type 53 = .ok (.iconst 1, 1) := by decide +kernel
theorem dX10_type_54 : decode cX10_type 54 = .ok (.iadd, 1) := by decide +kernel
theorem dX10_type_55 : decode cX10_type 55 = .ok (.putfield 112, 3) := by decide +kernel
theorem dX10_type_58 : decode cX10_type 58 = .ok (.aload_n 0, 1) := by decide +kernel
theorem dX10_type_59 : decode cX10_type 59 = .ok (.getfield 39, 3) := by decide +kernel
theorem dX10_type_62 : decode cX10_type 62 = .ok (.getfield 112, 3) := by decide +kernel
theorem dX10_type_65 : decode cX10_type 65 = .ok (.ireturn, 1) := by decide +kernel
theorem dX10_house_0 : decode cX10_house 0 = .ok (.aload_n 0, 1) := by decide +kernel
theorem dX10_house_1 : decode cX10_house 1 = .ok (.getfield 33, 3) := by decide +kernel
theorem dX10_house_4 : decode cX10_house 4 = .ok (.aload_n 0, 1) := by decide +kernel
theorem dX10_house_5 : decode cX10_house 5 = .ok (.getfield 10, 3) := by decide +kernel
theorem dX10_house_8 : decode cX10_house 8 = .ok (.invokevirtual 119, 3) := by decide +kernel
theorem dX10_house_11 : decode cX10_house 11 = .ok (.aload_n 0, 1) := by decide +kernel
theorem dX10_house_12 : decode cX10_house 12 = .ok (.getfield 33, 3) := by decide +kernel
theorem dX10_house_15 : decode cX10_house 15 = .ok (.invokevirtual 123, 3) := by decide +kernel
theorem dX10_house_18 : decode cX10_house 18 = .ok (.aload_n 0, 1) := by decide +kernel
theorem dX10_house_19 : decode cX10_house 19 = .ok (.getfield 39, 3) := by decide +kernel
theorem dX10_house_22 : decode cX10_house 22 = .ok (.aload_n 0, 1) := by decide +kernel
theorem dX10_house_23 : decode cX10_house 23 = .ok (.getfield 33, 3) := by decide +kernel
theorem dX10_house_26 : decode cX10_house 26 = .ok (.invokevirtual 126, 3) := by decide +kernel
theorem dX10_house_29 : decode cX10_house 29 = .ok (.istore_n 1, 1) := by decide +kernel
theorem dX10_house_30 : decode cX10_house 30 = .ok (.aload_n 0, 1) := by decide +kernel
theorem dX10_house_31 : decode cX10_house 31 = .ok (.getfield 39, 3) := by decide +kernel
theorem dX10_house_34 : decode cX10_house 34 = .ok (.iconst 0, 1) := by decide +kernel
theorem dX10_house_35 : decode cX10_house 35 = .ok (.putfield 112, 3) := by decide +kernel
theorem dX10_house_38 : decode cX10_house 38 = .ok (.iload_n 1, 1) := by decide +kernel
theorem dX10_house_39 : decode cX10_house 39 = .ok (.iconst (-1), 1) := by decide +kernel
theorem dX10_house_40 : decode cX10_house 40 = .ok (.if_icmp .eq 8, 3) := by decide +kernel
theorem dX10_house_43 : decode cX10_house 43 = .ok (.bipush (-20), 2) := by decide +kernel
theorem dX10_house_45 : decode cX10_house 45 = .ok (.iload_n 1, 1) := by decide +kernel
theorem dX10_house_46 : decode cX10_house 46 = .ok (.isub, 1) := by decide +kernel
theorem dX10_house_47 : decode cX10_house 47 = .ok (.ireturn, 1) := by decide +kernel
theorem dX10_house_48 : decode cX10_house 48 = .ok (.aload_n 0, 1) := by decide +kernel
theorem dX10_house_49 : decode cX10_house 49 = .ok (.getfield 10, 3) := by decide +kernel
theorem dX10_house_52 : decode cX10_house 52 = .ok (.aload_n 0, 1) := by decide +kernel
theorem dX10_house_53 : decode cX10_house 53 = .ok (.getfield 33, 3) := by decide +kernel
theorem dX10_house_56 : decode cX10_house 56 = .ok (.invokevirtual 119, 3) := by decide +kernel
theorem dX10_house_59 : decode cX10_house 59 = .ok (.aload_n 0, 1) := by decide +kernel
theorem dX10_house_60 : decode cX10_house 60 = .ok (.getfield 19, 3) := by decide +kernel
theorem dX10_house_63 : decode cX10_house 63 = .ok (.invokevirtual 66, 3) := by decide +kernel
theorem dX10_house_66 : decode cX10_house 66 = .ok (.aload_n 0, 1) := by decide +kernel
theorem dX10_house_67 : decode cX10_house 67 = .ok (.getfield 10, 3) := by decide +kernel
theorem dX10_house_70 : decode cX10_house 70 = .ok (.getfield 54, 3) := by decide +kernel
theorem dX10_house_73 : decode cX10_house 73 = .ok (.ireturn, 1) := by decide +kernel
theorem dX10_count_0 : decode cX10_count 0 = .ok (.iload_n 1, 1) := by decide +kernel
theorem dX10_count_1 : decode cX10_count 1 = .ok (.tableswitch 162 0 10 #[59, 67, 75, 83, 91, 99, 107, 122, 130, 138, 154], 59) := by decide +kernel
theorem dX10_count_60 : decode cX10_count 60 = .ok (.aload_n 0, 1) := by decide +kernel
theorem dX10_count_61 : decode cX10_count 61 = .ok (.getfield 10, 3) := by decide +kernel
theorem dX10_count_64 : decode cX10_count 64 = .ok (.getfield 54, 3) := by decide +kernel
theorem dX10_count_67 : decode cX10_count 67 = .ok (.ireturn, 1) := by decide +kernel
theorem dX10_count_68 : decode cX10_count 68 = .ok (.aload_n 0, 1) := by decide +kernel
theorem dX10_count_69 : decode cX10_count 69 = .ok (.getfield 10, 3) := by decide +kernel
theorem dX10_count_72 : decode cX10_count 72 = .ok (.getfield 130, 3) := by decide +kernel
theorem dX10_count_75 : decode cX10_count 75 = .ok (.ireturn, 1) := by decide +kernel
theorem dX10_count_76 : decode cX10_count 76 = .ok (.aload_n 0, 1) := by decide +kernel
theorem dX10_count_77 : decode cX10_count 77 = .ok (.getfield 10, 3) := by decide +kernel
theorem dX10_count_80 : decode cX10_count 80 = .ok (.getfield 133, 3) := by decide +kernel
theorem dX10_count_83 : decode cX10_count 83 = .ok (.ireturn, 1) := by decide +kernel
theorem dX10_count_84 : decode cX10_count 84 = .ok (.aload_n 0, 1) := by decide +kernel
theorem dX10_count_85 : decode cX10_count 85 = .ok (.getfield 10, 3) := by decide +kernel
theorem dX10_count_88 : decode cX10_count 88 = .ok (.getfield 103, 3) := by decide +kernel
theorem dX10_count_91 : decode cX10_count 91 = .ok (.ireturn, 1) := by decide +kernel
theorem dX10_count_92 : decode cX10_count 92 = .ok (.aload_n 0, 1) := by decide +kernel
theorem dX10_count_93 : decode cX10_count 93 = .ok (.getfield 10, 3) := by decide +kernel
theorem dX10_count_96 : decode cX10_count 96 = .ok (.getfield 106, 3) := by decide +kernel
theorem dX10_count_99 : decode cX10_count 99 = .ok (.ireturn, 1) := by decide +kernel
theorem dX10_count_100 : decode cX10_count 100 = .ok (.aload_n 0, 1) := by decide +kernel
theorem dX10_count_101 : decode cX10_count 101 = .ok (.getfield 10, 3) := by decide +kernel
theorem dX10_count_104 : decode cX10_count 104 = .ok (.getfield 109, 3) := by decide +kernel
theorem dX10_count_107 : decode cX10_count 107 = .ok (.ireturn, 1) := by decide +kernel
theorem dX10_count_108 : decode cX10_count 108 = .ok (.aload_n 0, 1) := by decide +kernel
theorem dX10_count_109 : decode cX10_count 109 = .ok (.getfield 10, 3) := by decide +kernel
theorem dX10_count_112 : decode cX10_count 112 = .ok (.aload_n 0, 1) := by decide +kernel
theorem dX10_count_113 : decode cX10_count 113 = .ok (.getfield 10, 3) := by decide +kernel
theorem dX10_count_116 : decode cX10_count 116 = .ok (.getfield 109, 3) := by decide +kernel
theorem dX10_count_119 : decode cX10_count 119 = .ok (.invokevirtual 136, 3) := by decide +kernel
theorem dX10_count_122 : decode cX10_count 122 = .ok (.ireturn, 1) := by decide +kernel
theorem dX10_count_123 : decode cX10_count 123 = .ok (.aload_n 0, 1) := by decide +kernel
theorem dX10_count_124 : decode cX10_count 124 = .ok (.getfield 10, 3) := by decide +kernel
theorem dX10_count_127 : decode cX10_count 127 = .ok (.invokevirtual 139, 3) := by decide +kernel
theorem dX10_count_130 : decode cX10_count 130 = .ok (.ireturn, 1) := by decide +kernel
theorem dX10_count_131 : decode cX10_count 131 = .ok (.aload_n 0, 1) := by decide +kernel
theorem dX10_count_132 : decode cX10_count 132 = .ok (.getfield 10, 3) := by decide +kernel
theorem dX10_count_135 : decode cX10_count 135 = .ok (.invokevirtual 142, 3) := by decide +kernel
theorem dX10_count_138 : decode cX10_count 138 = .ok (.ireturn, 1) := by decide +kernel
theorem dX10_count_139 : decode cX10_count 139 = .ok (.aload_n 0, 1) := by decide +kernel
theorem dX10_count_140 : decode cX10_count 140 = .ok (.getfield 10, 3) := by decide +kernel
theorem dX10_count_143 : decode cX10_count 143 = .ok (.getfield 90, 3) := by decide +kernel
theorem dX10_count_146 : decode cX10_count 146 = .ok (.aload_n 0, 1) := by decide +kernel
theorem dX10_count_147 : decode cX10_count 147 = .ok (.getfield 10, 3) := by decide +kernel
theorem dX10_count_150 : decode cX10_count 150 = .ok (.getfield 145, 3) := by decide +kernel
theorem dX10_count_153 : decode cX10_count 153 = .ok (.iand, 1) := by decide +kernel
theorem dX10_count_154 : decode cX10_count 154 = .ok (.ireturn, 1) := by decide +kernel
theorem dX10_count_155 : decode cX10_count 155 = .ok (.aload_n 0, 1) := by decide +kernel
theorem dX10_count_156 : decode cX10_count 156 = .ok (.getfield 19, 3) := by decide +kernel
theorem dX10_count_159 : decode cX10_count 159 = .ok (.getfield 148, 3) := by decide +kernel
theorem dX10_count_162 : decode cX10_count 162 = .ok (.ireturn, 1) := by decide +kernel
theorem dX10_count_163 : decode cX10_count 163 = .ok (.iconst (-1), 1) := by decide +kernel
theorem dX10_count_164 : decode cX10_count 164 = .ok (.ireturn, 1) := by decide +kernel
theorem dX10_weeks_0 : decode cX10_weeks 0 = .ok (.iload_n 1, 1) := by decide +kernel
theorem dX10_weeks_1 : decode cX10_weeks 1 = .ok (.iconst 1, 1) := by decide +kernel
theorem dX10_weeks_2 : decode cX10_weeks 2 = .ok (.bipush 60, 2) := by decide +kernel
theorem dX10_weeks_4 : decode cX10_weeks 4 = .ok (.invokestatic 50, 3) := by decide +kernel
theorem dX10_weeks_7 : decode cX10_weeks 7 = .ok (.ifCond .ne 5, 3) := by decide +kernel
theorem dX10_weeks_10 : decode cX10_weeks 10 = .ok (.iconst (-1), 1) := by decide +kernel
theorem dX10_weeks_11 : decode cX10_weeks 11 = .ok (.ireturn, 1) := by decide +kernel
theorem dX10_weeks_12 : decode cX10_weeks 12 = .ok (.aload_n 0, 1) := by decide +kernel
theorem dX10_weeks_13 : decode cX10_weeks 13 = .ok (.getfield 10, 3) := by decide +kernel
theorem dX10_weeks_16 : decode cX10_weeks 16 = .ok (.getfield 130, 3) := by decide +kernel
theorem dX10_weeks_19 : decode cX10_weeks 19 = .ok (.iload_n 1, 1) := by decide +kernel
theorem dX10_weeks_20 : decode cX10_weeks 20 = .ok (.iadd, 1) := by decide +kernel
theorem dX10_weeks_21 : decode cX10_weeks 21 = .ok (.sipush 9999, 3) := by decide +kernel
theorem dX10_weeks_24 : decode cX10_weeks 24 = .ok (.if_icmp .le 6, 3) := by decide +kernel
theorem dX10_weeks_27 : decode cX10_weeks 27 = .ok (.bipush (-3), 2) := by decide +kernel
theorem dX10_weeks_29 : decode cX10_weeks 29 = .ok (.ireturn, 1) := by decide +kernel
theorem dX10_weeks_30 : decode cX10_weeks 30 = .ok (.iconst 0, 1) := by decide +kernel
theorem dX10_weeks_31 : decode cX10_weeks 31 = .ok (.istore_n 2, 1) := by decide +kernel
theorem dX10_weeks_32 : decode cX10_weeks 32 = .ok (.iload_n 2, 1) := by decide +kernel
theorem dX10_weeks_33 : decode cX10_weeks 33 = .ok (.iload_n 1, 1) := by decide +kernel
theorem dX10_weeks_34 : decode cX10_weeks 34 = .ok (.if_icmp .ge 35, 3) := by decide +kernel
theorem dX10_weeks_37 : decode cX10_weeks 37 = .ok (.aload_n 0, 1) := by decide +kernel
theorem dX10_weeks_38 : decode cX10_weeks 38 = .ok (.getfield 19, 3) := by decide +kernel
theorem dX10_weeks_41 : decode cX10_weeks 41 = .ok (.aload_n 0, 1) := by decide +kernel
theorem dX10_weeks_42 : decode cX10_weeks 42 = .ok (.getfield 10, 3) := by decide +kernel
theorem dX10_weeks_45 : decode cX10_weeks 45 = .ok (.invokevirtual 151, 3) := by decide +kernel
theorem dX10_weeks_48 : decode cX10_weeks 48 = .ok (.aload_n 0, 1) := by decide +kernel
theorem dX10_weeks_49 : decode cX10_weeks 49 = .ok (.getfield 10, 3) := by decide +kernel
theorem dX10_weeks_52 : decode cX10_weeks 52 = .ok (.aload_n 0, 1) := by decide +kernel
theorem dX10_weeks_53 : decode cX10_weeks 53 = .ok (.getfield 10, 3) := by decide +kernel
theorem dX10_weeks_56 : decode cX10_weeks 56 = .ok (.getfield 109, 3) := by decide +kernel
theorem dX10_weeks_59 : decode cX10_weeks 59 = .ok (.invokevirtual 154, 3) := by decide +kernel
theorem dX10_weeks_62 : decode cX10_weeks 62 = .ok (.pop, 1) := by decide +kernel
theorem dX10_weeks_63 : decode cX10_weeks 63 = .ok (.iinc 2 1, 3) := by decide +kernel
theorem dX10_weeks_66 : decode cX10_weeks 66 = .ok (.goto (-34), 3) := by decide +kernel
theorem dX10_weeks_69 : decode cX10_weeks 69 = .ok (.aload_n 0, 1) := by decide +kernel
theorem dX10_weeks_70 : decode cX10_weeks 70 = .ok (.getfield 10, 3) := by decide +kernel
theorem dX10_weeks_73 : decode cX10_weeks 73 = .ok (.getfield 133, 3) := by decide +kernel
theorem dX10_weeks_76 : decode cX10_weeks 76 = .ok (.ireturn, 1) := by decide +kernel
theorem dX10_take_0 : decode cX10_take 0 = .ok (.iload_n 1, 1) := by decide +kernel
theorem dX10_take_1 : decode cX10_take 1 = .ok (.iconst 1, 1) := by decide +kernel
