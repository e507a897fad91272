theorem dX10_take_2 : decode cX10_take 2 = .ok (.sipush 9999, 3) := by decide +kernel
theorem dX10_take_5 : decode cX10_take 5 = .ok (.invokestatic 50, 3) := by decide +kernel
theorem dX10_take_8 : decode cX10_take 8 = .ok (.ifCond .ne 5, 3) := by decide +kernel
theorem dX10_take_11 : decode cX10_take 11 = .ok (.iconst (-1), 1) := by decide +kernel
theorem dX10_take_12 : decode cX10_take 12 = .ok (.ireturn, 1) := by decide +kernel
theorem dX10_take_13 : decode cX10_take 13 = .ok (.iload_n 1, 1) := by decide +kernel
theorem dX10_take_14 : decode cX10_take 14 = .ok (.aload_n 0, 1) := by decide +kernel
theorem dX10_take_15 : decode cX10_take 15 = .ok (.getfield 10, 3) := by decide +kernel
theorem dX10_take_18 : decode cX10_take 18 = .ok (.getfield 133, 3) := by decide +kernel
theorem dX10_take_21 : decode cX10_take 21 = .ok (.if_icmp .le 6, 3) := by decide +kernel
theorem dX10_take_24 : decode cX10_take 24 = .ok (.bipush (-2), 2) := by decide +kernel
theorem dX10_take_26 : decode cX10_take 26 = .ok (.ireturn, 1) := by decide +kernel
theorem dX10_take_27 : decode cX10_take 27 = .ok (.aload_n 0, 1) := by decide +kernel
theorem dX10_take_28 : decode cX10_take 28 = .ok (.getfield 19, 3) := by decide +kernel
theorem dX10_take_31 : decode cX10_take 31 = .ok (.aload_n 0, 1) := by decide +kernel
theorem dX10_take_32 : decode cX10_take 32 = .ok (.getfield 10, 3) := by decide +kernel
theorem dX10_take_35 : decode cX10_take 35 = .ok (.invokevirtual 151, 3) := by decide +kernel
theorem dX10_take_38 : decode cX10_take 38 = .ok (.aload_n 0, 1) := by decide +kernel
theorem dX10_take_39 : decode cX10_take 39 = .ok (.getfield 10, 3) := by decide +kernel
theorem dX10_take_42 : decode cX10_take 42 = .ok (.dup, 1) := by decide +kernel
theorem dX10_take_43 : decode cX10_take 43 = .ok (.getfield 133, 3) := by decide +kernel
theorem dX10_take_46 : decode cX10_take 46 = .ok (.iload_n 1, 1) := by decide +kernel
theorem dX10_take_47 : decode cX10_take 47 = .ok (.isub, 1) := by decide +kernel
theorem dX10_take_48 : decode cX10_take 48 = .ok (.putfield 133, 3) := by decide +kernel
theorem dX10_take_51 : decode cX10_take 51 = .ok (.aload_n 0, 1) := by decide +kernel
theorem dX10_take_52 : decode cX10_take 52 = .ok (.getfield 10, 3) := by decide +kernel
theorem dX10_take_55 : decode cX10_take 55 = .ok (.getfield 133, 3) := by decide +kernel
theorem dX10_take_58 : decode cX10_take 58 = .ok (.ireturn, 1) := by decide +kernel
theorem dX10_drift_0 : decode cX10_drift 0 = .ok (.iload_n 1, 1) := by decide +kernel
theorem dX10_drift_1 : decode cX10_drift 1 = .ok (.iconst 1, 1) := by decide +kernel
theorem dX10_drift_2 : decode cX10_drift 2 = .ok (.bipush 60, 2) := by decide +kernel
theorem dX10_drift_4 : decode cX10_drift 4 = .ok (.invokestatic 50, 3) := by decide +kernel
theorem dX10_drift_7 : decode cX10_drift 7 = .ok (.ifCond .ne 5, 3) := by decide +kernel
theorem dX10_drift_10 : decode cX10_drift 10 = .ok (.iconst (-1), 1) := by decide +kernel
theorem dX10_drift_11 : decode cX10_drift 11 = .ok (.ireturn, 1) := by decide +kernel
theorem dX10_drift_12 : decode cX10_drift 12 = .ok (.aload_n 0, 1) := by decide +kernel
theorem dX10_drift_13 : decode cX10_drift 13 = .ok (.getfield 10, 3) := by decide +kernel
theorem dX10_drift_16 : decode cX10_drift 16 = .ok (.getfield 130, 3) := by decide +kernel
theorem dX10_drift_19 : decode cX10_drift 19 = .ok (.iload_n 1, 1) := by decide +kernel
theorem dX10_drift_20 : decode cX10_drift 20 = .ok (.iadd, 1) := by decide +kernel
theorem dX10_drift_21 : decode cX10_drift 21 = .ok (.sipush 9999, 3) := by decide +kernel
theorem dX10_drift_24 : decode cX10_drift 24 = .ok (.if_icmp .le 6, 3) := by decide +kernel
theorem dX10_drift_27 : decode cX10_drift 27 = .ok (.bipush (-3), 2) := by decide +kernel
theorem dX10_drift_29 : decode cX10_drift 29 = .ok (.ireturn, 1) := by decide +kernel
theorem dX10_drift_30 : decode cX10_drift 30 = .ok (.iconst 0, 1) := by decide +kernel
theorem dX10_drift_31 : decode cX10_drift 31 = .ok (.istore_n 2, 1) := by decide +kernel
theorem dX10_drift_32 : decode cX10_drift 32 = .ok (.iconst 0, 1) := by decide +kernel
theorem dX10_drift_33 : decode cX10_drift 33 = .ok (.istore_n 3, 1) := by decide +kernel
theorem dX10_drift_34 : decode cX10_drift 34 = .ok (.iload_n 3, 1) := by decide +kernel
theorem dX10_drift_35 : decode cX10_drift 35 = .ok (.iload_n 1, 1) := by decide +kernel
theorem dX10_drift_36 : decode cX10_drift 36 = .ok (.if_icmp .ge 37, 3) := by decide +kernel
theorem dX10_drift_39 : decode cX10_drift 39 = .ok (.aload_n 0, 1) := by decide +kernel
theorem dX10_drift_40 : decode cX10_drift 40 = .ok (.getfield 19, 3) := by decide +kernel
theorem dX10_drift_43 : decode cX10_drift 43 = .ok (.aload_n 0, 1) := by decide +kernel
theorem dX10_drift_44 : decode cX10_drift 44 = .ok (.getfield 10, 3) := by decide +kernel
theorem dX10_drift_47 : decode cX10_drift 47 = .ok (.invokevirtual 151, 3) := by decide +kernel
theorem dX10_drift_50 : decode cX10_drift 50 = .ok (.iload_n 2, 1) := by decide +kernel
theorem dX10_drift_51 : decode cX10_drift 51 = .ok (.aload_n 0, 1) := by decide +kernel
theorem dX10_drift_52 : decode cX10_drift 52 = .ok (.getfield 10, 3) := by decide +kernel
theorem dX10_drift_55 : decode cX10_drift 55 = .ok (.aload_n 0, 1) := by decide +kernel
theorem dX10_drift_56 : decode cX10_drift 56 = .ok (.getfield 10, 3) := by decide +kernel
theorem dX10_drift_59 : decode cX10_drift 59 = .ok (.invokevirtual 157, 3) := by decide +kernel
theorem dX10_drift_62 : decode cX10_drift 62 = .ok (.invokevirtual 154, 3) := by decide +kernel
theorem dX10_drift_65 : decode cX10_drift 65 = .ok (.iadd, 1) := by decide +kernel
theorem dX10_drift_66 : decode cX10_drift 66 = .ok (.istore_n 2, 1) := by decide +kernel
theorem dX10_drift_67 : decode cX10_drift 67 = .ok (.iinc 3 1, 3) := by decide +kernel
theorem dX10_drift_70 : decode cX10_drift 70 = .ok (.goto (-36), 3) := by decide +kernel
theorem dX10_drift_73 : decode cX10_drift 73 = .ok (.iload_n 2, 1) := by decide +kernel
theorem dX10_drift_74 : decode cX10_drift 74 = .ok (.ireturn, 1) := by decide +kernel
theorem dX10_undo_0 : decode cX10_undo 0 = .ok (.aload_n 0, 1) := by decide +kernel
theorem dX10_undo_1 : decode cX10_undo 1 = .ok (.getfield 19, 3) := by decide +kernel
theorem dX10_undo_4 : decode cX10_undo 4 = .ok (.getfield 148, 3) := by decide +kernel
theorem dX10_undo_7 : decode cX10_undo 7 = .ok (.ifCond .ne 6, 3) := by decide +kernel
theorem dX10_undo_10 : decode cX10_undo 10 = .ok (.bipush (-4), 2) := by decide +kernel
theorem dX10_undo_12 : decode cX10_undo 12 = .ok (.ireturn, 1) := by decide +kernel
theorem dX10_undo_13 : decode cX10_undo 13 = .ok (.aload_n 0, 1) := by decide +kernel
theorem dX10_undo_14 : decode cX10_undo 14 = .ok (.getfield 19, 3) := by decide +kernel
theorem dX10_undo_17 : decode cX10_undo 17 = .ok (.aload_n 0, 1) := by decide +kernel
theorem dX10_undo_18 : decode cX10_undo 18 = .ok (.getfield 10, 3) := by decide +kernel
theorem dX10_undo_21 : decode cX10_undo 21 = .ok (.invokevirtual 160, 3) := by decide +kernel
theorem dX10_undo_24 : decode cX10_undo 24 = .ok (.aload_n 0, 1) := by decide +kernel
theorem dX10_undo_25 : decode cX10_undo 25 = .ok (.getfield 19, 3) := by decide +kernel
theorem dX10_undo_28 : decode cX10_undo 28 = .ok (.getfield 148, 3) := by decide +kernel
theorem dX10_undo_31 : decode cX10_undo 31 = .ok (.ireturn, 1) := by decide +kernel
theorem dX10_seed_0 : decode cX10_seed 0 = .ok (.iload_n 1, 1) := by decide +kernel
theorem dX10_seed_1 : decode cX10_seed 1 = .ok (.ifCond .ge 5, 3) := by decide +kernel
theorem dX10_seed_4 : decode cX10_seed 4 = .ok (.iconst (-1), 1) := by decide +kernel
theorem dX10_seed_5 : decode cX10_seed 5 = .ok (.ireturn, 1) := by decide +kernel
theorem dX10_seed_6 : decode cX10_seed 6 = .ok (.aload_n 0, 1) := by decide +kernel
theorem dX10_seed_7 : decode cX10_seed 7 = .ok (.getfield 10, 3) := by decide +kernel
theorem dX10_seed_10 : decode cX10_seed 10 = .ok (.getfield 163, 3) := by decide +kernel
theorem dX10_seed_13 : decode cX10_seed 13 = .ok (.istore_n 2, 1) := by decide +kernel
theorem dX10_seed_14 : decode cX10_seed 14 = .ok (.aload_n 0, 1) := by decide +kernel
theorem dX10_seed_15 : decode cX10_seed 15 = .ok (.getfield 10, 3) := by decide +kernel
theorem dX10_seed_18 : decode cX10_seed 18 = .ok (.iload_n 1, 1) := by decide +kernel
theorem dX10_seed_19 : decode cX10_seed 19 = .ok (.putfield 163, 3) := by decide +kernel
theorem dX10_seed_22 : decode cX10_seed 22 = .ok (.iload_n 2, 1) := by decide +kernel
theorem dX10_seed_23 : decode cX10_seed 23 = .ok (.ireturn, 1) := by decide +kernel
theorem dX10_ahead_0 : decode cX10_ahead 0 = .ok (.iload_n 1, 1) := by decide +kernel
theorem dX10_ahead_1 : decode cX10_ahead 1 = .ok (.iconst 0, 1) := by decide +kernel
theorem dX10_ahead_2 : decode cX10_ahead 2 = .ok (.bipush 99, 2) := by decide +kernel
theorem dX10_ahead_4 : decode cX10_ahead 4 = .ok (.invokestatic 50, 3) := by decide +kernel
theorem dX10_ahead_7 : decode cX10_ahead 7 = .ok (.ifCond .eq 12, 3) := by decide +kernel
theorem dX10_ahead_10 : decode cX10_ahead 10 = .ok (.iload_n 2, 1) := by decide +kernel
theorem dX10_ahead_11 : decode cX10_ahead 11 = .ok (.iconst 0, 1) := by decide +kernel
theorem dX10_ahead_12 : decode cX10_ahead 12 = .ok (.iconst 2, 1) := by decide +kernel
theorem dX10_ahead_13 : decode cX10_ahead 13 = .ok (.invokestatic 50, 3) := by decide +kernel
theorem dX10_ahead_16 : decode cX10_ahead 16 = .ok (.ifCond .ne 5, 3) := by decide +kernel
theorem dX10_ahead_19 : decode cX10_ahead 19 = .ok (.iconst (-1), 1) := by decide +kernel
theorem dX10_ahead_20 : decode cX10_ahead 20 = .ok (.ireturn, 1) := by decide +kernel
theorem dX10_ahead_21 : decode cX10_ahead 21 = .ok (.aload_n 0, 1) := by decide +kernel
theorem dX10_ahead_22 : decode cX10_ahead 22 = .ok (.getfield 33, 3) := by decide +kernel
theorem dX10_ahead_25 : decode cX10_ahead 25 = .ok (.aload_n 0, 1) := by decide +kernel
theorem dX10_ahead_26 : decode cX10_ahead 26 = .ok (.getfield 10, 3) := by decide +kernel
theorem dX10_ahead_29 : decode cX10_ahead 29 = .ok (.invokevirtual 119, 3) := by decide +kernel
theorem dX10_ahead_32 : decode cX10_ahead 32 = .ok (.iload_n 2, 1) := by decide +kernel
theorem dX10_ahead_33 : decode cX10_ahead 33 = .ok (.iconst 1, 1) := by decide +kernel
theorem dX10_ahead_34 : decode cX10_ahead 34 = .ok (.if_icmp .ne 12, 3) := by decide +kernel
theorem dX10_ahead_37 : decode cX10_ahead 37 = .ok (.aload_n 0, 1) := by decide +kernel
theorem dX10_ahead_38 : decode cX10_ahead 38 = .ok (.getfield 33, 3) := by decide +kernel
theorem dX10_ahead_41 : decode cX10_ahead 41 = .ok (.iload_n 1, 1) := by decide +kernel
theorem dX10_ahead_42 : decode cX10_ahead 42 = .ok (.invokevirtual 166, 3) := by decide +kernel
theorem dX10_ahead_45 : decode cX10_ahead 45 = .ok (.ireturn, 1) := by decide +kernel
theorem dX10_ahead_46 : decode cX10_ahead 46 = .ok (.aload_n 0, 1) := by decide +kernel
theorem dX10_ahead_47 : decode cX10_ahead 47 = .ok (.getfield 33, 3) := by decide +kernel
theorem dX10_ahead_50 : decode cX10_ahead 50 = .ok (.iload_n 1, 1) := by decide +kernel
theorem dX10_ahead_51 : decode cX10_ahead 51 = .ok (.invokevirtual 169, 3) := by decide +kernel
theorem dX10_ahead_54 : decode cX10_ahead 54 = .ok (.istore_n 3, 1) := by decide +kernel
theorem dX10_ahead_55 : decode cX10_ahead 55 = .ok (.iload_n 2, 1) := by decide +kernel
theorem dX10_ahead_56 : decode cX10_ahead 56 = .ok (.ifCond .ne 13, 3) := by decide +kernel
theorem dX10_ahead_59 : decode cX10_ahead 59 = .ok (.aload_n 0, 1) := by decide +kernel
theorem dX10_ahead_60 : decode cX10_ahead 60 = .ok (.getfield 33, 3) := by decide +kernel
theorem dX10_ahead_63 : decode cX10_ahead 63 = .ok (.getfield 133, 3) := by decide +kernel
theorem dX10_ahead_66 : decode cX10_ahead 66 = .ok (.goto 4, 3) := by decide +kernel
theorem dX10_ahead_69 : decode cX10_ahead 69 = .ok (.iload_n 3, 1) := by decide +kernel
theorem dX10_ahead_70 : decode cX10_ahead 70 = .ok (.ireturn, 1) := by decide +kernel
theorem dX10_due_0 : decode cX10_due 0 = .ok (.aload_n 0, 1) := by decide +kernel
theorem dX10_due_1 : decode cX10_due 1 = .ok (.getfield 33, 3) := by decide +kernel
theorem dX10_due_4 : decode cX10_due 4 = .ok (.aload_n 0, 1) := by decide +kernel
theorem dX10_due_5 : decode cX10_due 5 = .ok (.getfield 10, 3) := by decide +kernel
theorem dX10_due_8 : decode cX10_due 8 = .ok (.invokevirtual 119, 3) := by decide +kernel
theorem dX10_due_11 : decode cX10_due 11 = .ok (.iconst 0, 1) := by decide +kernel
theorem dX10_due_12 : decode cX10_due 12 = .ok (.istore_n 1, 1) := by decide +kernel
theorem dX10_due_13 : decode cX10_due 13 = .ok (.iload_n 1, 1) := by decide +kernel
theorem dX10_due_14 : decode cX10_due 14 = .ok (.bipush 99, 2) := by decide +kernel
theorem dX10_due_16 : decode cX10_due 16 = .ok (.if_icmp .gt 43, 3) := by decide +kernel
theorem dX10_due_19 : decode cX10_due 19 = .ok (.aload_n 0, 1) := by decide +kernel
theorem dX10_due_20 : decode cX10_due 20 = .ok (.getfield 33, 3) := by decide +kernel
theorem dX10_due_23 : decode cX10_due 23 = .ok (.getfield 133, 3) := by decide +kernel
theorem dX10_due_26 : decode cX10_due 26 = .ok (.aload_n 0, 1) := by decide +kernel
theorem dX10_due_27 : decode cX10_due 27 = .ok (.getfield 33, 3) := by decide +kernel
theorem dX10_due_30 : decode cX10_due 30 = .ok (.getfield 103, 3) := by decide +kernel
theorem dX10_due_33 : decode cX10_due 33 = .ok (.if_icmp .lt 5, 3) := by decide +kernel
theorem dX10_due_36 : decode cX10_due 36 = .ok (.iload_n 1, 1) := by decide +kernel
theorem dX10_due_37 : decode cX10_due 37 = .ok (.ireturn, 1) := by decide +kernel
theorem dX10_due_38 : decode cX10_due 38 = .ok (.aload_n 0, 1) := by decide +kernel
theorem dX10_due_39 : decode cX10_due 39 = .ok (.getfield 33, 3) := by decide +kernel
theorem dX10_due_42 : decode cX10_due 42 = .ok (.aload_n 0, 1) := by decide +kernel
theorem dX10_due_43 : decode cX10_due 43 = .ok (.getfield 33, 3) := by decide +kernel
theorem dX10_due_46 : decode cX10_due 46 = .ok (.getfield 109, 3) := by decide +kernel
theorem dX10_due_49 : decode cX10_due 49 = .ok (.invokevirtual 154, 3) := by decide +kernel
theorem dX10_due_52 : decode cX10_due 52 = .ok (.pop, 1) := by decide +kernel
theorem dX10_due_53 : decode cX10_due 53 = .ok (.iinc 1 1, 3) := by decide +kernel
theorem dX10_due_56 : decode cX10_due 56 = .ok (.goto (-43), 3) := by decide +kernel
theorem dX10_due_59 : decode cX10_due 59 = .ok (.bipush (-4), 2) := by decide +kernel
theorem dX10_due_61 : decode cX10_due 61 = .ok (.ireturn, 1) := by decide +kernel
theorem dX10_dearest_0 : decode cX10_dearest 0 = .ok (.iload_n 1, 1) := by decide +kernel
theorem dX10_dearest_1 : decode cX10_dearest 1 = .ok (.iconst 0, 1) := by decide +kernel
theorem dX10_dearest_2 : decode cX10_dearest 2 = .ok (.bipush 99, 2) := by decide +kernel
theorem dX10_dearest_4 : decode cX10_dearest 4 = .ok (.invokestatic 50, 3) := by decide +kernel
theorem dX10_dearest_7 : decode cX10_dearest 7 = .ok (.ifCond .eq 12, 3) := by decide +kernel
theorem dX10_dearest_10 : decode cX10_dearest 10 = .ok (.iload_n 2, 1) := by decide +kernel
theorem dX10_dearest_11 : decode cX10_dearest 11 = .ok (.iconst 0, 1) := by decide +kernel
theorem dX10_dearest_12 : decode cX10_dearest 12 = .ok (.iconst 1, 1) := by decide +kernel
theorem dX10_dearest_13 : decode cX10_dearest 13 = .ok (.invokestatic 50, 3) := by decide +kernel
theorem dX10_dearest_16 : decode cX10_dearest 16 = .ok (.ifCond .ne 5, 3) := by decide +kernel
theorem dX10_dearest_19 : decode cX10_dearest 19 = .ok (.iconst (-1), 1) := by decide +kernel
theorem dX10_dearest_20 : decode cX10_dearest 20 = .ok (.ireturn, 1) := by decide +kernel
theorem dX10_dearest_21 : decode cX10_dearest 21 = .ok (.iconst 0, 1) := by decide +kernel
theorem dX10_dearest_22 : decode cX10_dearest 22 = .ok (.istore_n 3, 1) := by decide +kernel
theorem dX10_dearest_23 : decode cX10_dearest 23 = .ok (.iconst (-1), 1) := by decide +kernel
theorem dX10_dearest_24 : decode cX10_dearest 24 = .ok (.istore 4, 2) := by decide +kernel
theorem dX10_dearest_26 : decode cX10_dearest 26 = .ok (.iconst 1, 1) := by decide +kernel
theorem dX10_dearest_27 : decode cX10_dearest 27 = .ok (.istore 5, 2) := by decide +kernel
theorem dX10_dearest_29 : decode cX10_dearest 29 = .ok (.iload 5, 2) := by decide +kernel
theorem dX10_dearest_31 : decode cX10_dearest 31 = .ok (.bipush 100, 2) := by decide +kernel
theorem dX10_dearest_33 : decode cX10_dearest 33 = .ok (.if_icmp .gt 48, 3) := by decide +kernel
theorem dX10_dearest_36 : decode cX10_dearest 36 = .ok (.aload_n 0, 1) := by decide +kernel
theorem dX10_dearest_37 : decode cX10_dearest 37 = .ok (.iload 5, 2) := by decide +kernel
theorem dX10_dearest_39 : decode cX10_dearest 39 = .ok (.invokevirtual 172, 3) := by decide +kernel
theorem dX10_dearest_42 : decode cX10_dearest 42 = .ok (.aload_n 0, 1) := by decide +kernel
theorem dX10_dearest_43 : decode cX10_dearest 43 = .ok (.getfield 33, 3) := by decide +kernel
theorem dX10_dearest_46 : decode cX10_dearest 46 = .ok (.iload_n 1, 1) := by decide +kernel
theorem dX10_dearest_47 : decode cX10_dearest 47 = .ok (.invokevirtual 169, 3) := by decide +kernel
theorem dX10_dearest_50 : decode cX10_dearest 50 = .ok (.pop, 1) := by decide +kernel
theorem dX10_dearest_51 : decode cX10_dearest 51 = .ok (.aload_n 0, 1) := by decide +kernel
theorem dX10_dearest_52 : decode cX10_dearest 52 = .ok (.getfield 33, 3) := by decide +kernel
theorem dX10_dearest_55 : decode cX10_dearest 55 = .ok (.getfield 133, 3) := by decide +kernel
theorem dX10_dearest_58 : decode cX10_dearest 58 = .ok (.iload 4, 2) := by decide +kernel
theorem dX10_dearest_60 : decode cX10_dearest 60 = .ok (.if_icmp .le 15, 3) := by decide +kernel
theorem dX10_dearest_63 : decode cX10_dearest 63 = .ok (.iload 5, 2) := by decide +kernel
theorem dX10_dearest_65 : decode cX10_dearest 65 = .ok (.istore_n 3, 1) := by decide +kernel
theorem dX10_dearest_66 : decode cX10_dearest 66 = .ok (.aload_n 0, 1) := by decide +kernel
theorem dX10_dearest_67 : decode cX10_dearest 67 = .ok (.getfield 33, 3) := by decide +kernel
theorem dX10_dearest_70 : decode cX10_dearest 70 = .ok (.getfield 133, 3) := by decide +kernel
theorem dX10_dearest_73 : decode cX10_dearest 73 = .ok (.istore 4, 2) := by decide +kernel
theorem dX10_dearest_75 : decode cX10_dearest 75 = .ok (.iinc 5 1, 3) := by decide +kernel
theorem dX10_dearest_78 : decode cX10_dearest 78 = .ok (.goto (-49), 3) := by decide +kernel
theorem dX10_dearest_81 : decode cX10_dearest 81 = .ok (.iload_n 2, 1) := by decide +kernel
theorem dX10_dearest_82 : decode cX10_dearest 82 = .ok (.ifCond .ne 7, 3) := by decide +kernel
theorem dX10_dearest_85 : decode cX10_dearest 85 = .ok (.iload_n 3, 1) := by decide +kernel
theorem dX10_dearest_86 : decode cX10_dearest 86 = .ok (.goto 5, 3) := by decide +kernel
theorem dX10_dearest_89 : decode cX10_dearest 89 = .ok (.iload 4, 2) := by decide +kernel
theorem dX10_dearest_91 : decode cX10_dearest 91 = .ok (.ireturn, 1) := by decide +kernel
theorem dX10_quiet_0 : decode cX10_quiet 0 = .ok (.iload_n 1, 1) := by decide +kernel
theorem dX10_quiet_1 : decode cX10_quiet 1 = .ok (.iconst 0, 1) := by decide +kernel
theorem dX10_quiet_2 : decode cX10_quiet 2 = .ok (.bipush 99, 2) := by decide +kernel
theorem dX10_quiet_4 : decode cX10_quiet 4 = .ok (.invokestatic 50, 3) := by decide +kernel
theorem dX10_quiet_7 : decode cX10_quiet 7 = .ok (.ifCond .eq 12, 3) := by decide +kernel
theorem dX10_quiet_10 : decode cX10_quiet 10 = .ok (.iload_n 2, 1) := by decide +kernel
theorem dX10_quiet_11 : decode cX10_quiet 11 = .ok (.iconst 0, 1) := by decide +kernel
theorem dX10_quiet_12 : decode cX10_quiet 12 = .ok (.iconst 1, 1) := by decide +kernel
theorem dX10_quiet_13 : decode cX10_quiet 13 = .ok (.invokestatic 50, 3) := by decide +kernel
theorem dX10_quiet_16 : decode cX10_quiet 16 = .ok (.ifCond .ne 5, 3) := by decide +kernel
theorem dX10_quiet_19 : decode cX10_quiet 19 = .ok (.iconst (-1), 1) := by decide +kernel
theorem dX10_quiet_20 : decode cX10_quiet 20 = .ok (.ireturn, 1) := by decide +kernel
theorem dX10_quiet_21 : decode cX10_quiet 21 = .ok (.iconst 0, 1) := by decide +kernel
theorem dX10_quiet_22 : decode cX10_quiet 22 = .ok (.istore_n 3, 1) := by decide +kernel
theorem dX10_quiet_23 : decode cX10_quiet 23 = .ok (.iconst 0, 1) := by decide +kernel
theorem dX10_quiet_24 : decode cX10_quiet 24 = .ok (.istore 4, 2) := by decide +kernel
theorem dX10_quiet_26 : decode cX10_quiet 26 = .ok (.iconst 1, 1) := by decide +kernel
theorem dX10_quiet_27 : decode cX10_quiet 27 = .ok (.istore 5, 2) := by decide +kernel
theorem dX10_quiet_29 : decode cX10_quiet 29 = .ok (.iload 5, 2) := by decide +kernel
theorem dX10_quiet_31 : decode cX10_quiet 31 = .ok (.bipush 100, 2) := by decide +kernel
theorem dX10_quiet_33 : decode cX10_quiet 33 = .ok (.if_icmp .gt 43, 3) := by decide +kernel
theorem dX10_quiet_36 : decode cX10_quiet 36 = .ok (.aload_n 0, 1) := by decide +kernel
theorem dX10_quiet_37 : decode cX10_quiet 37 = .ok (.iload 5, 2) := by decide +kernel
theorem dX10_quiet_39 : decode cX10_quiet 39 = .ok (.invokevirtual 172, 3) := by decide +kernel
theorem dX10_quiet_42 : decode cX10_quiet 42 = .ok (.aload_n 0, 1) := by decide +kernel
theorem dX10_quiet_43 : decode cX10_quiet 43 = .ok (.getfield 33, 3) := by decide +kernel
theorem dX10_quiet_46 : decode cX10_quiet 46 = .ok (.iload_n 1, 1) := by decide +kernel
theorem dX10_quiet_47 : decode cX10_quiet 47 = .ok (.invokevirtual 169, 3) := by decide +kernel
theorem dX10_quiet_50 : decode cX10_quiet 50 = .ok (.istore 6, 2) := by decide +kernel
theorem dX10_quiet_52 : decode cX10_quiet 52 = .ok (.iload_n 3, 1) := by decide +kernel
theorem dX10_quiet_53 : decode cX10_quiet 53 = .ok (.ifCond .eq 10, 3) := by decide +kernel
theorem dX10_quiet_56 : decode cX10_quiet 56 = .ok (.iload 6, 2) := by decide +kernel
theorem dX10_quiet_58 : decode cX10_quiet 58 = .ok (.iload 4, 2) := by decide +kernel
theorem dX10_quiet_60 : decode cX10_quiet 60 = .ok (.if_icmp .ge 10, 3) := by decide +kernel
theorem dX10_quiet_63 : decode cX10_quiet 63 = .ok (.iload 5, 2) := by decide +kernel
theorem dX10_quiet_65 : decode cX10_quiet 65 = .ok (.istore_n 3, 1) := by decide +kernel
theorem dX10_quiet_66 : decode cX10_quiet 66 = .ok (.iload 6, 2) := by decide +kernel
theorem dX10_quiet_68 : decode cX10_quiet 68 = .ok (.istore 4, 2) := by decide +kernel
theorem dX10_quiet_70 : decode cX10_quiet 70 = .ok (.iinc 5 1, 3) := by decide +kernel
theorem dX10_quiet_73 : decode cX10_quiet 73 = .ok (.goto (-44), 3) := by decide +kernel
theorem dX10_quiet_76 : decode cX10_quiet 76 = .ok (.iload_n 2, 1) := by decide +kernel
theorem dX10_quiet_77 : decode cX10_quiet 77 = .ok (.ifCond .ne 7, 3) := by decide +kernel
theorem dX10_quiet_80 : decode cX10_quiet 80 = .ok (.iload_n 3, 1) := by decide +kernel
theorem dX10_quiet_81 : decode cX10_quiet 81 = .ok (.goto 5, 3) := by decide +kernel
theorem dX10_quiet_84 : decode cX10_quiet 84 = .ok (.iload 4, 2) := by decide +kernel
theorem dX10_quiet_86 : decode cX10_quiet 86 = .ok (.ireturn, 1) := by decide +kernel
theorem dX10_ends_0 : decode cX10_ends 0 = .ok (.iload_n 1, 1) := by decide +kernel
theorem dX10_ends_1 : decode cX10_ends 1 = .ok (.iconst 1, 1) := by decide +kernel
theorem dX10_ends_2 : decode cX10_ends 2 = .ok (.bipush 99, 2) := by decide +kernel
theorem dX10_ends_4 : decode cX10_ends 4 = .ok (.invokestatic 50, 3) := by decide +kernel
theorem dX10_ends_7 : decode cX10_ends 7 = .ok (.ifCond .ne 5, 3) := by decide +kernel
theorem dX10_ends_10 : decode cX10_ends 10 = .ok (.iconst (-1), 1) := by decide +kernel
theorem dX10_ends_11 : decode cX10_ends 11 = .ok (.ireturn, 1) := by decide +kernel
theorem dX10_ends_12 : decode cX10_ends 12 = .ok (.iconst 1, 1) := by decide +kernel
theorem dX10_ends_13 : decode cX10_ends 13 = .ok (.istore_n 2, 1) := by decide +kernel
theorem dX10_ends_14 : decode cX10_ends 14 = .ok (.iload_n 2, 1) := by decide +kernel
theorem dX10_ends_15 : decode cX10_ends 15 = .ok (.bipush 100, 2) := by decide +kernel
theorem dX10_ends_17 : decode cX10_ends 17 = .ok (.if_icmp .gt 27, 3) := by decide +kernel
theorem dX10_ends_20 : decode cX10_ends 20 = .ok (.aload_n 0, 1) := by decide +kernel
theorem dX10_ends_21 : decode cX10_ends 21 = .ok (.iload_n 2, 1) := by decide +kernel
theorem dX10_ends_22 : decode cX10_ends 22 = .ok (.invokevirtual 172, 3) := by decide +kernel
theorem dX10_ends_25 : decode cX10_ends 25 = .ok (.aload_n 0, 1) := by decide +kernel
theorem dX10_ends_26 : decode cX10_ends 26 = .ok (.getfield 33, 3) := by decide +kernel
theorem dX10_ends_29 : decode cX10_ends 29 = .ok (.iload_n 1, 1) := by decide +kernel
theorem dX10_ends_30 : decode cX10_ends 30 = .ok (.invokevirtual 166, 3) := by decide +kernel
theorem dX10_ends_33 : decode cX10_ends 33 = .ok (.ifCond .ne 5, 3) := by decide +kernel
theorem dX10_ends_36 : decode cX10_ends 36 = .ok (.iload_n 2, 1) := by decide +kernel
theorem dX10_ends_37 : decode cX10_ends 37 = .ok (.ireturn, 1) := by decide +kernel
theorem dX10_ends_38 : decode cX10_ends 38 = .ok (.iinc 2 1, 3) := by decide +kernel
theorem dX10_ends_41 : decode cX10_ends 41 = .ok (.goto (-27), 3) := by decide +kernel
theorem dX10_ends_44 : decode cX10_ends 44 = .ok (.bipush (-4), 2) := by decide +kernel
theorem dX10_ends_46 : decode cX10_ends 46 = .ok (.ireturn, 1) := by decide +kernel
theorem dX10_raised_0 : decode cX10_raised 0 = .ok (.iload_n 1, 1) := by decide +kernel
theorem dX10_raised_1 : decode cX10_raised 1 = .ok (.iconst 1, 1) := by decide +kernel
theorem dX10_raised_2 : decode cX10_raised 2 = .ok (.bipush 100, 2) := by decide +kernel
theorem dX10_raised_4 : decode cX10_raised 4 = .ok (.invokestatic 50, 3) := by decide +kernel
theorem dX10_raised_7 : decode cX10_raised 7 = .ok (.ifCond .eq 22, 3) := by decide +kernel
theorem dX10_raised_10 : decode cX10_raised 10 = .ok (.iload_n 2, 1) := by decide +kernel
theorem dX10_raised_11 : decode cX10_raised 11 = .ok (.iconst 0, 1) := by decide +kernel
theorem dX10_raised_12 : decode cX10_raised 12 = .ok (.bipush 99, 2) := by decide +kernel
theorem dX10_raised_14 : decode cX10_raised 14 = .ok (.invokestatic 50, 3) := by decide +kernel
theorem dX10_raised_17 : decode cX10_raised 17 = .ok (.ifCond .eq 12, 3) := by decide +kernel
theorem dX10_raised_20 : decode cX10_raised 20 = .ok (.iload_n 3, 1) := by decide +kernel
theorem dX10_raised_21 : decode cX10_raised 21 = .ok (.iconst 0, 1) := by decide +kernel
theorem dX10_raised_22 : decode cX10_raised 22 = .ok (.iconst 1, 1) := by decide +kernel
theorem dX10_raised_23 : decode cX10_raised 23 = .ok (.invokestatic 50, 3) := by decide +kernel
theorem dX10_raised_26 : decode cX10_raised 26 = .ok (.ifCond .ne 5, 3) := by decide +kernel
theorem dX10_raised_29 : decode cX10_raised 29 = .ok (.iconst (-1), 1) := by decide +kernel
theorem dX10_raised_30 : decode cX10_raised 30 = .ok (.ireturn, 1) := by decide +kernel
theorem dX10_raised_31 : decode cX10_raised 31 = .ok (.aload_n 0, 1) := by decide +kernel
theorem dX10_raised_32 : decode cX10_raised 32 = .ok (.getfield 33, 3) := by decide +kernel
theorem dX10_raised_35 : decode cX10_raised 35 = .ok (.aload_n 0, 1) := by decide +kernel
theorem dX10_raised_36 : decode cX10_raised 36 = .ok (.getfield 10, 3) := by decide +kernel
theorem dX10_raised_39 : decode cX10_raised 39 = .ok (.invokevirtual 119, 3) := by decide +kernel
theorem dX10_raised_42 : decode cX10_raised 42 = .ok (.iconst 0, 1) := by decide +kernel
theorem dX10_raised_43 : decode cX10_raised 43 = .ok (.istore 4, 2) := by decide +kernel
theorem dX10_raised_45 : decode cX10_raised 45 = .ok (.iconst 0, 1) := by decide +kernel
theorem dX10_raised_46 : decode cX10_raised 46 = .ok (.istore 5, 2) := by decide +kernel
theorem dX10_raised_48 : decode cX10_raised 48 = .ok (.iload 5, 2) := by decide +kernel
theorem dX10_raised_50 : decode cX10_raised 50 = .ok (.iload_n 2, 1) := by decide +kernel
theorem dX10_raised_51 : decode cX10_raised 51 = .ok (.if_icmp .ge 54, 3) := by decide +kernel
theorem dX10_raised_54 : decode cX10_raised 54 = .ok (.aload_n 0, 1) := by decide +kernel
theorem dX10_raised_55 : decode cX10_raised 55 = .ok (.getfield 33, 3) := by decide +kernel
theorem dX10_raised_58 : decode cX10_raised 58 = .ok (.iload_n 3, 1) := by decide +kernel
theorem dX10_raised_59 : decode cX10_raised 59 = .ok (.ifCond .ne 7, 3) := by decide +kernel
theorem dX10_raised_62 : decode cX10_raised 62 = .ok (.iload_n 1, 1) := by decide +kernel
theorem dX10_raised_63 : decode cX10_raised 63 = .ok (.goto 14, 3) := by decide +kernel
theorem dX10_raised_66 : decode cX10_raised 66 = .ok (.aload_n 0, 1) := by decide +kernel
theorem dX10_raised_67 : decode cX10_raised 67 = .ok (.getfield 33, 3) := by decide +kernel
theorem dX10_raised_70 : decode cX10_raised 70 = .ok (.getfield 106, 3) := by decide +kernel
theorem dX10_raised_73 : decode cX10_raised 73 = .ok (.iload_n 1, 1) := by decide +kernel
theorem dX10_raised_74 : decode cX10_raised 74 = .ok (.invokestatic 176, 3) := by decide +kernel
theorem dX10_raised_77 : decode cX10_raised 77 = .ok (.putfield 106, 3) := by decide +kernel
theorem dX10_raised_80 : decode cX10_raised 80 = .ok (.iload 4, 2) := by decide +kernel
theorem dX10_raised_82 : decode cX10_raised 82 = .ok (.aload_n 0, 1) := by decide +kernel
theorem dX10_raised_83 : decode cX10_raised 83 = .ok (.getfield 33, 3) := by decide +kernel
theorem dX10_raised_86 : decode cX10_raised 86 = .ok (.aload_n 0, 1) := by decide +kernel
theorem dX10_raised_87 : decode cX10_raised 87 = .ok (.getfield 33, 3) := by decide +kernel
theorem dX10_raised_90 : decode cX10_raised 90 = .ok (.getfield 109, 3) := by decide +kernel
theorem dX10_raised_93 : decode cX10_raised 93 = .ok (.invokevirtual 154, 3) := by decide +kernel
theorem dX10_raised_96 : decode cX10_raised 96 = .ok (.iadd, 1) := by decide +kernel
theorem dX10_raised_97 : decode cX10_raised 97 = .ok (.istore 4, 2) := by decide +kernel
theorem dX10_raised_99 : decode cX10_raised 99 = .ok (.iinc 5 1, 3) := by decide +kernel
theorem dX10_raised_102 : decode cX10_raised 102 = .ok (.goto (-54), 3) := by decide +kernel
theorem dX10_raised_105 : decode cX10_raised 105 = .ok (.iload 4, 2) := by decide +kernel
theorem dX10_raised_107 : decode cX10_raised 107 = .ok (.ireturn, 1) := by decide +kernel
theorem dX10_hoped_0 : decode cX10_hoped 0 = .ok (.iload_n 1, 1) := by decide +kernel
theorem dX10_hoped_1 : decode cX10_hoped 1 = .ok (.iconst 0, 1) := by decide +kernel
theorem dX10_hoped_2 : decode cX10_hoped 2 = .ok (.bipush 99, 2) := by decide +kernel
theorem dX10_hoped_4 : decode cX10_hoped 4 = .ok (.invokestatic 50, 3) := by decide +kernel
theorem dX10_hoped_7 : decode cX10_hoped 7 = .ok (.ifCond .eq 12, 3) := by decide +kernel
theorem dX10_hoped_10 : decode cX10_hoped 10 = .ok (.iload_n 2, 1) := by decide +kernel
theorem dX10_hoped_11 : decode cX10_hoped 11 = .ok (.iconst 0, 1) := by decide +kernel
theorem dX10_hoped_12 : decode cX10_hoped 12 = .ok (.iconst 1, 1) := by decide +kernel
theorem dX10_hoped_13 : decode cX10_hoped 13 = .ok (.invokestatic 50, 3) := by decide +kernel
theorem dX10_hoped_16 : decode cX10_hoped 16 = .ok (.ifCond .ne 5, 3) := by decide +kernel
theorem dX10_hoped_19 : decode cX10_hoped 19 = .ok (.iconst (-1), 1) := by decide +kernel
theorem dX10_hoped_20 : decode cX10_hoped 20 = .ok (.ireturn, 1) := by decide +kernel
theorem dX10_hoped_21 : decode cX10_hoped 21 = .ok (.iconst 0, 1) := by decide +kernel
theorem dX10_hoped_22 : decode cX10_hoped 22 = .ok (.istore_n 3, 1) := by decide +kernel
theorem dX10_hoped_23 : decode cX10_hoped 23 = .ok (.iconst (-1), 1) := by decide +kernel
theorem dX10_hoped_24 : decode cX10_hoped 24 = .ok (.istore 4, 2) := by decide +kernel
theorem dX10_hoped_26 : decode cX10_hoped 26 = .ok (.iconst 0, 1) := by decide +kernel
theorem dX10_hoped_27 : decode cX10_hoped 27 = .ok (.istore 5, 2) := by decide +kernel
theorem dX10_hoped_29 : decode cX10_hoped 29 = .ok (.iload 5, 2) := by decide +kernel
theorem dX10_hoped_31 : decode cX10_hoped 31 = .ok (.bipush 64, 2) := by decide +kernel
theorem dX10_hoped_33 : decode cX10_hoped 33 = .ok (.if_icmp .ge 80, 3) := by decide +kernel
theorem dX10_hoped_36 : decode cX10_hoped 36 = .ok (.iload 5, 2) := by decide +kernel
theorem dX10_hoped_38 : decode cX10_hoped 38 = .ok (.aload_n 0, 1) := by decide +kernel
theorem dX10_hoped_39 : decode cX10_hoped 39 = .ok (.getfield 10, 3) := by decide +kernel
theorem dX10_hoped_42 : decode cX10_hoped 42 = .ok (.getfield 145, 3) := by decide +kernel
theorem dX10_hoped_45 : decode cX10_hoped 45 = .ok (.iconst (-1), 1) := by decide +kernel
theorem dX10_hoped_46 : decode cX10_hoped 46 = .ok (.ixor, 1) := by decide +kernel
theorem dX10_hoped_47 : decode cX10_hoped 47 = .ok (.iand, 1) := by decide +kernel
theorem dX10_hoped_48 : decode cX10_hoped 48 = .ok (.ifCond .eq 6, 3) := by decide +kernel
theorem dX10_hoped_51 : decode cX10_hoped 51 = .ok (.goto 56, 3) := by decide +kernel
theorem dX10_hoped_54 : decode cX10_hoped 54 = .ok (.aload_n 0, 1) := by decide +kernel
theorem dX10_hoped_55 : decode cX10_hoped 55 = .ok (.getfield 33, 3) := by decide +kernel
theorem dX10_hoped_58 : decode cX10_hoped 58 = .ok (.aload_n 0, 1) := by decide +kernel
theorem dX10_hoped_59 : decode cX10_hoped 59 = .ok (.getfield 10, 3) := by decide +kernel
theorem dX10_hoped_62 : decode cX10_hoped 62 = .ok (.invokevirtual 119, 3) := by decide +kernel
theorem dX10_hoped_65 : decode cX10_hoped 65 = .ok (.aload_n 0, 1) := by decide +kernel
theorem dX10_hoped_66 : decode cX10_hoped 66 = .ok (.getfield 33, 3) := by decide +kernel
theorem dX10_hoped_69 : decode cX10_hoped 69 = .ok (.iload 5, 2) := by decide +kernel
theorem dX10_hoped_71 : decode cX10_hoped 71 = .ok (.putfield 90, 3) := by decide +kernel
theorem dX10_hoped_74 : decode cX10_hoped 74 = .ok (.aload_n 0, 1) := by decide +kernel
theorem dX10_hoped_75 : decode cX10_hoped 75 = .ok (.getfield 33, 3) := by decide +kernel
theorem dX10_hoped_78 : decode cX10_hoped 78 = .ok (.iload_n 1, 1) := by decide +kernel
theorem dX10_hoped_79 : decode cX10_hoped 79 = .ok (.invokevirtual 169, 3) := by decide +kernel
theorem dX10_hoped_82 : decode cX10_hoped 82 = .ok (.pop, 1) := by decide +kernel
theorem dX10_hoped_83 : decode cX10_hoped 83 = .ok (.aload_n 0, 1) := by decide +kernel
theorem dX10_hoped_84 : decode cX10_hoped 84 = .ok (.getfield 33, 3) := by decide +kernel
theorem dX10_hoped_87 : decode cX10_hoped 87 = .ok (.getfield 133, 3) := by decide +kernel
theorem dX10_hoped_90 : decode cX10_hoped 90 = .ok (.iload 4, 2) := by decide +kernel
theorem dX10_hoped_92 : decode cX10_hoped 92 = .ok (.if_icmp .le 15, 3) := by decide +kernel
theorem dX10_hoped_95 : decode cX10_hoped 95 = .ok (.iload 5, 2) := by decide +kernel
theorem dX10_hoped_97 : decode cX10_hoped 97 = .ok (.istore_n 3, 1) := by decide +kernel
theorem dX10_hoped_98 : decode cX10_hoped 98 = .ok (.aload_n 0, 1) := by decide +kernel
theorem dX10_hoped_99 : decode cX10_hoped 99 = .ok (.getfield 33, 3) := by decide +kernel
theorem dX10_hoped_102 : decode cX10_hoped 102 = .ok (.getfield 133, 3) := by decide +kernel
theorem dX10_hoped_105 : decode cX10_hoped 105 = .ok (.istore 4, 2) := by decide +kernel
theorem dX10_hoped_107 : decode cX10_hoped 107 = .ok (.iinc 5 1, 3) := by decide +kernel
theorem dX10_hoped_110 : decode cX10_hoped 110 = .ok (.goto (-81), 3) := by decide +kernel
theorem dX10_hoped_113 : decode cX10_hoped 113 = .ok (.iload_n 2, 1) := by decide +kernel
theorem dX10_hoped_114 : decode cX10_hoped 114 = .ok (.ifCond .ne 7, 3) := by decide +kernel
theorem dX10_hoped_117 : decode cX10_hoped 117 = .ok (.iload_n 3, 1) := by decide +kernel
theorem dX10_hoped_118 : decode cX10_hoped 118 = .ok (.goto 5, 3) := by decide +kernel
theorem dX10_hoped_121 : decode cX10_hoped 121 = .ok (.iload 4, 2) := by decide +kernel
theorem dX10_hoped_123 : decode cX10_hoped 123 = .ok (.ireturn, 1) := by decide +kernel
theorem dX10_mean_0 : decode cX10_mean 0 = .ok (.iload_n 1, 1) := by decide +kernel
theorem dX10_mean_1 : decode cX10_mean 1 = .ok (.iconst 0, 1) := by decide +kernel
theorem dX10_mean_2 : decode cX10_mean 2 = .ok (.bipush 6, 2) := by decide +kernel
theorem dX10_mean_4 : decode cX10_mean 4 = .ok (.invokestatic 50, 3) := by decide +kernel
theorem dX10_mean_7 : decode cX10_mean 7 = .ok (.ifCond .eq 12, 3) := by decide +kernel
theorem dX10_mean_10 : decode cX10_mean 10 = .ok (.iload_n 2, 1) := by decide +kernel
theorem dX10_mean_11 : decode cX10_mean 11 = .ok (.iconst 0, 1) := by decide +kernel
theorem dX10_mean_12 : decode cX10_mean 12 = .ok (.iconst 1, 1) := by decide +kernel
theorem dX10_mean_13 : decode cX10_mean 13 = .ok (.invokestatic 50, 3) := by decide +kernel
theorem dX10_mean_16 : decode cX10_mean 16 = .ok (.ifCond .ne 5, 3) := by decide +kernel
theorem dX10_mean_19 : decode cX10_mean 19 = .ok (.iconst (-1), 1) := by decide +kernel
theorem dX10_mean_20 : decode cX10_mean 20 = .ok (.ireturn, 1) := by decide +kernel
theorem dX10_mean_21 : decode cX10_mean 21 = .ok (.iconst 1, 1) := by decide +kernel
theorem dX10_mean_22 : decode cX10_mean 22 = .ok (.istore_n 3, 1) := by decide +kernel
theorem dX10_mean_23 : decode cX10_mean 23 = .ok (.iconst 0, 1) := by decide +kernel
theorem dX10_mean_24 : decode cX10_mean 24 = .ok (.istore 4, 2) := by decide +kernel
theorem dX10_mean_26 : decode cX10_mean 26 = .ok (.iload 4, 2) := by decide +kernel
theorem dX10_mean_28 : decode cX10_mean 28 = .ok (.iload_n 1, 1) := by decide +kernel
theorem dX10_mean_29 : decode cX10_mean 29 = .ok (.if_icmp .ge 13, 3) := by decide +kernel
theorem dX10_mean_32 : decode cX10_mean 32 = .ok (.iload_n 3, 1) := by decide +kernel
theorem dX10_mean_33 : decode cX10_mean 33 = .ok (.iconst 3, 1) := by decide +kernel
theorem dX10_mean_34 : decode cX10_mean 34 = .ok (.imul, 1) := by decide +kernel
theorem dX10_mean_35 : decode cX10_mean 35 = .ok (.istore_n 3, 1) := by decide +kernel
theorem dX10_mean_36 : decode cX10_mean 36 = .ok (.iinc 4 1, 3) := by decide +kernel
theorem dX10_mean_39 : decode cX10_mean 39 = .ok (.goto (-13), 3) := by decide +kernel
theorem dX10_mean_42 : decode cX10_mean 42 = .ok (.iconst 0, 1) := by decide +kernel
theorem dX10_mean_43 : decode cX10_mean 43 = .ok (.istore 4, 2) := by decide +kernel
theorem dX10_mean_45 : decode cX10_mean 45 = .ok (.iconst 0, 1) := by decide +kernel
theorem dX10_mean_46 : decode cX10_mean 46 = .ok (.istore 5, 2) := by decide +kernel
theorem dX10_mean_48 : decode cX10_mean 48 = .ok (.iload 5, 2) := by decide +kernel
theorem dX10_mean_50 : decode cX10_mean 50 = .ok (.iload_n 3, 1) := by decide +kernel
theorem dX10_mean_51 : decode cX10_mean 51 = .ok (.if_icmp .ge 21, 3) := by decide +kernel
theorem dX10_mean_54 : decode cX10_mean 54 = .ok (.iload 4, 2) := by decide +kernel
theorem dX10_mean_56 : decode cX10_mean 56 = .ok (.aload_n 0, 1) := by decide +kernel
theorem dX10_mean_57 : decode cX10_mean 57 = .ok (.iload 5, 2) := by decide +kernel
theorem dX10_mean_59 : decode cX10_mean 59 = .ok (.iload_n 1, 1) := by decide +kernel
theorem dX10_mean_60 : decode cX10_mean 60 = .ok (.invokevirtual 180, 3) := by decide +kernel
theorem dX10_mean_63 : decode cX10_mean 63 = .ok (.iadd, 1) := by decide +kernel
theorem dX10_mean_64 : decode cX10_mean 64 = .ok (.istore 4, 2) := by decide +kernel
theorem dX10_mean_66 : decode cX10_mean 66 = .ok (.iinc 5 1, 3) := by decide +kernel
theorem dX10_mean_69 : decode cX10_mean 69 = .ok (.goto (-21), 3) := by decide +kernel
theorem dX10_mean_72 : decode cX10_mean 72 = .ok (.iconst 0, 1) := by decide +kernel
theorem dX10_mean_73 : decode cX10_mean 73 = .ok (.istore 5, 2) := by decide +kernel
theorem dX10_mean_75 : decode cX10_mean 75 = .ok (.iload 5, 2) := by decide +kernel
theorem dX10_mean_77 : decode cX10_mean 77 = .ok (.iload_n 1, 1) := by decide +kernel
theorem dX10_mean_78 : decode cX10_mean 78 = .ok (.if_icmp .ge 26, 3) := by decide +kernel
theorem dX10_mean_81 : decode cX10_mean 81 = .ok (.iload 4, 2) := by decide +kernel
theorem dX10_mean_83 : decode cX10_mean 83 = .ok (.iconst 3, 1) := by decide +kernel
theorem dX10_mean_84 : decode cX10_mean 84 = .ok (.irem, 1) := by decide +kernel
theorem dX10_mean_85 : decode cX10_mean 85 = .ok (.ifCond .ne 19, 3) := by decide +kernel
theorem dX10_mean_88 : decode cX10_mean 88 = .ok (.iload 4, 2) := by decide +kernel
theorem dX10_mean_90 : decode cX10_mean 90 = .ok (.iconst 3, 1) := by decide +kernel
theorem dX10_mean_91 : decode cX10_mean 91 = .ok (.idiv, 1) := by decide +kernel
theorem dX10_mean_92 : decode cX10_mean 92 = .ok (.istore 4, 2) := by decide +kernel
theorem dX10_mean_94 : decode cX10_mean 94 = .ok (.iload_n 3, 1) := by decide +kernel
theorem dX10_mean_95 : decode cX10_mean 95 = .ok (.iconst 3, 1) := by decide +kernel
theorem dX10_mean_96 : decode cX10_mean 96 = .ok (.idiv, 1) := by decide +kernel
theorem dX10_mean_97 : decode cX10_mean 97 = .ok (.istore_n 3, 1) := by decide +kernel
theorem dX10_mean_98 : decode cX10_mean 98 = .ok (.iinc 5 1, 3) := by decide +kernel
theorem dX10_mean_101 : decode cX10_mean 101 = .ok (.goto (-26), 3) := by decide +kernel
theorem dX10_mean_104 : decode cX10_mean 104 = .ok (.iload_n 2, 1) := by decide +kernel
theorem dX10_mean_105 : decode cX10_mean 105 = .ok (.ifCond .ne 8, 3) := by decide +kernel
theorem dX10_mean_108 : decode cX10_mean 108 = .ok (.iload 4, 2) := by decide +kernel
theorem dX10_mean_110 : decode cX10_mean 110 = .ok (.goto 4, 3) := by decide +kernel
theorem dX10_mean_113 : decode cX10_mean 113 = .ok (.iload_n 3, 1) := by decide +kernel
theorem dX10_mean_114 : decode cX10_mean 114 = .ok (.ireturn, 1) := by decide +kernel
theorem dX10_image_0 : decode cX10_image 0 = .ok (.aload_n 0, 1) := by decide +kernel
theorem dX10_image_1 : decode cX10_image 1 = .ok (.getfield 23, 3) := by decide +kernel
theorem dX10_image_4 : decode cX10_image 4 = .ok (.aload_n 0, 1) := by decide +kernel
theorem dX10_image_5 : decode cX10_image 5 = .ok (.getfield 10, 3) := by decide +kernel
theorem dX10_image_8 : decode cX10_image 8 = .ok (.invokevirtual 119, 3) := by decide +kernel
theorem dX10_image_11 : decode cX10_image 11 = .ok (.aload_n 0, 1) := by decide +kernel
theorem dX10_image_12 : decode cX10_image 12 = .ok (.getfield 26, 3) := by decide +kernel
theorem dX10_image_15 : decode cX10_image 15 = .ok (.aload_n 0, 1) := by decide +kernel
theorem dX10_image_16 : decode cX10_image 16 = .ok (.getfield 19, 3) := by decide +kernel
theorem dX10_image_19 : decode cX10_image 19 = .ok (.invokevirtual 183, 3) := by decide +kernel
theorem dX10_image_22 : decode cX10_image 22 = .ok (.aload_n 0, 1) := by decide +kernel
theorem dX10_image_23 : decode cX10_image 23 = .ok (.iconst 1, 1) := by decide +kernel
theorem dX10_image_24 : decode cX10_image 24 = .ok (.putfield 29, 3) := by decide +kernel
theorem dX10_image_27 : decode cX10_image 27 = .ok (.iconst 1, 1) := by decide +kernel
theorem dX10_image_28 : decode cX10_image 28 = .ok (.ireturn, 1) := by decide +kernel
theorem dX10_restore_0 : decode cX10_restore 0 = .ok (.aload_n 0, 1) := by decide +kernel
theorem dX10_restore_1 : decode cX10_restore 1 = .ok (.getfield 29, 3) := by decide +kernel
theorem dX10_restore_4 : decode cX10_restore 4 = .ok (.ifCond .ne 6, 3) := by decide +kernel
theorem dX10_restore_7 : decode cX10_restore 7 = .ok (.bipush (-4), 2) := by decide +kernel
theorem dX10_restore_9 : decode cX10_restore 9 = .ok (.ireturn, 1) := by decide +kernel
theorem dX10_restore_10 : decode cX10_restore 10 = .ok (.aload_n 0, 1) := by decide +kernel
theorem dX10_restore_11 : decode cX10_restore 11 = .ok (.getfield 10, 3) := by decide +kernel
theorem dX10_restore_14 : decode cX10_restore 14 = .ok (.aload_n 0, 1) := by decide +kernel
theorem dX10_restore_15 : decode cX10_restore 15 = .ok (.getfield 23, 3) := by decide +kernel
theorem dX10_restore_18 : decode cX10_restore 18 = .ok (.invokevirtual 119, 3) := by decide +kernel
theorem dX10_restore_21 : decode cX10_restore 21 = .ok (.aload_n 0, 1) := by decide +kernel
theorem dX10_restore_22 : decode cX10_restore 22 = .ok (.getfield 19, 3) := by decide +kernel
theorem dX10_restore_25 : decode cX10_restore 25 = .ok (.aload_n 0, 1) := by decide +kernel
theorem dX10_restore_26 : decode cX10_restore 26 = .ok (.getfield 26, 3) := by decide +kernel
theorem dX10_restore_29 : decode cX10_restore 29 = .ok (.invokevirtual 183, 3) := by decide +kernel
theorem dX10_restore_32 : decode cX10_restore 32 = .ok (.iconst 1, 1) := by decide +kernel
theorem dX10_restore_33 : decode cX10_restore 33 = .ok (.ireturn, 1) := by decide +kernel
theorem dX10_taken_0 : decode cX10_taken 0 = .ok (.iload_n 1, 1) := by decide +kernel
theorem dX10_taken_1 : decode cX10_taken 1 = .ok (.invokestatic 186, 3) := by decide +kernel
theorem dX10_taken_4 : decode cX10_taken 4 = .ok (.ifCond .eq 31, 3) := by decide +kernel
theorem dX10_taken_7 : decode cX10_taken 7 = .ok (.iload_n 2, 1) := by decide +kernel
theorem dX10_taken_8 : decode cX10_taken 8 = .ok (.invokestatic 189, 3) := by decide +kernel
theorem dX10_taken_11 : decode cX10_taken 11 = .ok (.ifCond .eq 24, 3) := by decide +kernel
theorem dX10_taken_14 : decode cX10_taken 14 = .ok (.iload 4, 2) := by decide +kernel
theorem dX10_taken_16 : decode cX10_taken 16 = .ok (.iconst 1, 1) := by decide +kernel
theorem dX10_taken_17 : decode cX10_taken 17 = .ok (.bipush 8, 2) := by decide +kernel
theorem dX10_taken_19 : decode cX10_taken 19 = .ok (.invokestatic 50, 3) := by decide +kernel
theorem dX10_taken_22 : decode cX10_taken 22 = .ok (.ifCond .eq 13, 3) := by decide +kernel
theorem dX10_taken_25 : decode cX10_taken 25 = .ok (.iload 5, 2) := by decide +kernel
theorem dX10_taken_27 : decode cX10_taken 27 = .ok (.iconst 0, 1) := by decide +kernel
theorem dX10_taken_28 : decode cX10_taken 28 = .ok (.iconst 1, 1) := by decide +kernel
theorem dX10_taken_29 : decode cX10_taken 29 = .ok (.invokestatic 50, 3) := by decide +kernel
theorem dX10_taken_32 : decode cX10_taken 32 = .ok (.ifCond .ne 5, 3) := by decide +kernel
theorem dX10_taken_35 : decode cX10_taken 35 = .ok (.iconst (-1), 1) := by decide +kernel
theorem dX10_taken_36 : decode cX10_taken 36 = .ok (.ireturn, 1) := by decide +kernel
theorem dX10_taken_37 : decode cX10_taken 37 = .ok (.aload_n 0, 1) := by decide +kernel
theorem dX10_taken_38 : decode cX10_taken 38 = .ok (.getfield 45, 3) := by decide +kernel
theorem dX10_taken_41 : decode cX10_taken 41 = .ok (.iload_n 1, 1) := by decide +kernel
theorem dX10_taken_42 : decode cX10_taken 42 = .ok (.aaload, 1) := by decide +kernel
theorem dX10_taken_43 : decode cX10_taken 43 = .ok (.astore 6, 2) := by decide +kernel
theorem dX10_taken_45 : decode cX10_taken 45 = .ok (.aload 6, 2) := by decide +kernel
theorem dX10_taken_47 : decode cX10_taken 47 = .ok (.iload_n 2, 1) := by decide +kernel
theorem dX10_taken_48 : decode cX10_taken 48 = .ok (.iload_n 3, 1) := by decide +kernel
theorem dX10_taken_49 : decode cX10_taken 49 = .ok (.iload 4, 2) := by decide +kernel
theorem dX10_taken_51 : decode cX10_taken 51 = .ok (.invokevirtual 192, 3) := by decide +kernel
theorem dX10_taken_54 : decode cX10_taken 54 = .ok (.istore 7, 2) := by decide +kernel
theorem dX10_taken_56 : decode cX10_taken 56 = .ok (.iload 7, 2) := by decide +kernel
theorem dX10_taken_58 : decode cX10_taken 58 = .ok (.ifCond .eq 6, 3) := by decide +kernel
theorem dX10_taken_61 : decode cX10_taken 61 = .ok (.iload 7, 2) := by decide +kernel
theorem dX10_taken_63 : decode cX10_taken 63 = .ok (.ireturn, 1) := by decide +kernel
theorem dX10_taken_64 : decode cX10_taken 64 = .ok (.aload_n 0, 1) := by decide +kernel
theorem dX10_taken_65 : decode cX10_taken 65 = .ok (.getfield 10, 3) := by decide +kernel
theorem dX10_taken_68 : decode cX10_taken 68 = .ok (.getfield 133, 3) := by decide +kernel
theorem dX10_taken_71 : decode cX10_taken 71 = .ok (.aload_n 0, 1) := by decide +kernel
theorem dX10_taken_72 : decode cX10_taken 72 = .ok (.getfield 10, 3) := by decide +kernel
theorem dX10_taken_75 : decode cX10_taken 75 = .ok (.getfield 103, 3) := by decide +kernel
theorem dX10_taken_78 : decode cX10_taken 78 = .ok (.iconst 1, 1) := by decide +kernel
theorem dX10_taken_79 : decode cX10_taken 79 = .ok (.isub, 1) := by decide +kernel
theorem dX10_taken_80 : decode cX10_taken 80 = .ok (.invokestatic 196, 3) := by decide +kernel
theorem dX10_taken_83 : decode cX10_taken 83 = .ok (.istore 8, 2) := by decide +kernel
theorem dX10_taken_85 : decode cX10_taken 85 = .ok (.iload 5, 2) := by decide +kernel
theorem dX10_taken_87 : decode cX10_taken 87 = .ok (.ifCond .ne 42, 3) := by decide +kernel
theorem dX10_taken_90 : decode cX10_taken 90 = .ok (.aload_n 0, 1) := by decide +kernel
theorem dX10_taken_91 : decode cX10_taken 91 = .ok (.aload 6, 2) := by decide +kernel
theorem dX10_taken_93 : decode cX10_taken 93 = .ok (.iload_n 3, 1) := by decide +kernel
theorem dX10_taken_94 : decode cX10_taken 94 = .ok (.iload 4, 2) := by decide +kernel
theorem dX10_taken_96 : decode cX10_taken 96 = .ok (.iconst 0, 1) := by decide +kernel
theorem dX10_taken_97 : decode cX10_taken 97 = .ok (.iload 8, 2) := by decide +kernel
theorem dX10_taken_99 : decode cX10_taken 99 = .ok (.iconst 0, 1) := by decide +kernel
theorem dX10_taken_100 : decode cX10_taken 100 = .ok (.invokevirtual 201, 3) := by decide +kernel
theorem dX10_taken_103 : decode cX10_taken 103 = .ok (.aload_n 0, 1) := by decide +kernel
theorem dX10_taken_104 : decode cX10_taken 104 = .ok (.aload 6, 2) := by decide +kernel
theorem dX10_taken_106 : decode cX10_taken 106 = .ok (.iload_n 3, 1) := by decide +kernel
theorem dX10_taken_107 : decode cX10_taken 107 = .ok (.iload 4, 2) := by decide +kernel
theorem dX10_taken_109 : decode cX10_taken 109 = .ok (.aload_n 0, 1) := by decide +kernel
theorem dX10_taken_110 : decode cX10_taken 110 = .ok (.getfield 10, 3) := by decide +kernel
theorem dX10_taken_113 : decode cX10_taken 113 = .ok (.getfield 103, 3) := by decide +kernel
theorem dX10_taken_116 : decode cX10_taken 116 = .ok (.aload_n 0, 1) := by decide +kernel
theorem dX10_taken_117 : decode cX10_taken 117 = .ok (.getfield 10, 3) := by decide +kernel
theorem dX10_taken_120 : decode cX10_taken 120 = .ok (.getfield 133, 3) := by decide +kernel
theorem dX10_taken_123 : decode cX10_taken 123 = .ok (.iconst 0, 1) := by decide +kernel
theorem dX10_taken_124 : decode cX10_taken 124 = .ok (.invokevirtual 201, 3) := by decide +kernel
theorem dX10_taken_127 : decode cX10_taken 127 = .ok (.iadd, 1) := by decide +kernel
theorem dX10_taken_128 : decode cX10_taken 128 = .ok (.ireturn, 1) := by decide +kernel
theorem dX10_taken_129 : decode cX10_taken 129 = .ok (.aload_n 0, 1) := by decide +kernel
theorem dX10_taken_130 : decode cX10_taken 130 = .ok (.aload 6, 2) := by decide +kernel
theorem dX10_taken_132 : decode cX10_taken 132 = .ok (.iload_n 3, 1) := by decide +kernel
theorem dX10_taken_133 : decode cX10_taken 133 = .ok (.iload 4, 2) := by decide +kernel
theorem dX10_taken_135 : decode cX10_taken 135 = .ok (.aload_n 0, 1) := by decide +kernel
theorem dX10_taken_136 : decode cX10_taken 136 = .ok (.getfield 10, 3) := by decide +kernel
theorem dX10_taken_139 : decode cX10_taken 139 = .ok (.getfield 103, 3) := by decide +kernel
theorem dX10_taken_142 : decode cX10_taken 142 = .ok (.aload_n 0, 1) := by decide +kernel
theorem dX10_taken_143 : decode cX10_taken 143 = .ok (.getfield 10, 3) := by decide +kernel
theorem dX10_taken_146 : decode cX10_taken 146 = .ok (.getfield 133, 3) := by decide +kernel
theorem dX10_taken_149 : decode cX10_taken 149 = .ok (.iconst 1, 1) := by decide +kernel
theorem dX10_taken_150 : decode cX10_taken 150 = .ok (.invokevirtual 201, 3) := by decide +kernel
theorem dX10_taken_153 : decode cX10_taken 153 = .ok (.istore 9, 2) := by decide +kernel
theorem dX10_taken_155 : decode cX10_taken 155 = .ok (.iload 9, 2) := by decide +kernel
theorem dX10_taken_157 : decode cX10_taken 157 = .ok (.bipush (-4), 2) := by decide +kernel
theorem dX10_taken_159 : decode cX10_taken 159 = .ok (.if_icmp .ne 18, 3) := by decide +kernel
theorem dX10_taken_162 : decode cX10_taken 162 = .ok (.aload_n 0, 1) := by decide +kernel
theorem dX10_taken_163 : decode cX10_taken 163 = .ok (.aload 6, 2) := by decide +kernel
theorem dX10_taken_165 : decode cX10_taken 165 = .ok (.iload_n 3, 1) := by decide +kernel
theorem dX10_taken_166 : decode cX10_taken 166 = .ok (.iload 4, 2) := by decide +kernel
theorem dX10_taken_168 : decode cX10_taken 168 = .ok (.iconst 0, 1) := by decide +kernel
theorem dX10_taken_169 : decode cX10_taken 169 = .ok (.iload 8, 2) := by decide +kernel
theorem dX10_taken_171 : decode cX10_taken 171 = .ok (.iconst 1, 1) := by decide +kernel
theorem dX10_taken_172 : decode cX10_taken 172 = .ok (.invokevirtual 201, 3) := by decide +kernel
theorem dX10_taken_175 : decode cX10_taken 175 = .ok (.istore 9, 2) := by decide +kernel
theorem dX10_taken_177 : decode cX10_taken 177 = .ok (.iload 9, 2) := by decide +kernel
theorem dX10_taken_179 : decode cX10_taken 179 = .ok (.bipush (-4), 2) := by decide +kernel
theorem dX10_taken_181 : decode cX10_taken 181 = .ok (.if_icmp .ne 8, 3) := by decide +kernel
theorem dX10_taken_184 : decode cX10_taken 184 = .ok (.bipush (-4), 2) := by decide +kernel
theorem dX10_taken_186 : decode cX10_taken 186 = .ok (.goto 13, 3) := by decide +kernel
theorem dX10_taken_189 : decode cX10_taken 189 = .ok (.aload_n 0, 1) := by decide +kernel
theorem dX10_taken_190 : decode cX10_taken 190 = .ok (.getfield 10, 3) := by decide +kernel
theorem dX10_taken_193 : decode cX10_taken 193 = .ok (.getfield 133, 3) := by decide +kernel
theorem dX10_taken_196 : decode cX10_taken 196 = .ok (.iload 9, 2) := by decide +kernel
theorem dX10_taken_198 : decode cX10_taken 198 = .ok (.isub, 1) := by decide +kernel
theorem dX10_taken_199 : decode cX10_taken 199 = .ok (.ireturn, 1) := by decide +kernel
theorem dX10_film_0 : decode cX10_film 0 = .ok (.iload_n 1, 1) := by decide +kernel
theorem dX10_film_1 : decode cX10_film 1 = .ok (.iconst 1, 1) := by decide +kernel
theorem dX10_film_2 : decode cX10_film 2 = .ok (.bipush 24, 2) := by decide +kernel
theorem dX10_film_4 : decode cX10_film 4 = .ok (.invokestatic 50, 3) := by decide +kernel
theorem dX10_film_7 : decode cX10_film 7 = .ok (.ifCond .eq 17, 3) := by decide +kernel
theorem dX10_film_10 : decode cX10_film 10 = .ok (.iload_n 2, 1) := by decide +kernel
theorem dX10_film_11 : decode cX10_film 11 = .ok (.invokestatic 186, 3) := by decide +kernel
theorem dX10_film_14 : decode cX10_film 14 = .ok (.ifCond .eq 10, 3) := by decide +kernel
theorem dX10_film_17 : decode cX10_film 17 = .ok (.iload_n 3, 1) := by decide +kernel
theorem dX10_film_18 : decode cX10_film 18 = .ok (.invokestatic 189, 3) := by decide +kernel
theorem dX10_film_21 : decode cX10_film 21 = .ok (.ifCond .ne 5, 3) := by decide +kernel
theorem dX10_film_24 : decode cX10_film 24 = .ok (.iconst (-1), 1) := by decide +kernel
theorem dX10_film_25 : decode cX10_film 25 = .ok (.ireturn, 1) := by decide +kernel
theorem dX10_film_26 : decode cX10_film 26 = .ok (.aload_n 0, 1) := by decide +kernel
theorem dX10_film_27 : decode cX10_film 27 = .ok (.getfield 45, 3) := by decide +kernel
theorem dX10_film_30 : decode cX10_film 30 = .ok (.iload_n 2, 1) := by decide +kernel
theorem dX10_film_31 : decode cX10_film 31 = .ok (.aaload, 1) := by decide +kernel
theorem dX10_film_32 : decode cX10_film 32 = .ok (.astore 5, 2) := by decide +kernel
theorem dX10_film_34 : decode cX10_film 34 = .ok (.aload 5, 2) := by decide +kernel
theorem dX10_film_36 : decode cX10_film 36 = .ok (.iload_n 3, 1) := by decide +kernel
theorem dX10_film_37 : decode cX10_film 37 = .ok (.iload 4, 2) := by decide +kernel
theorem dX10_film_39 : decode cX10_film 39 = .ok (.iload_n 1, 1) := by decide +kernel
theorem dX10_film_40 : decode cX10_film 40 = .ok (.invokevirtual 192, 3) := by decide +kernel
theorem dX10_film_43 : decode cX10_film 43 = .ok (.istore 6, 2) := by decide +kernel
theorem dX10_film_45 : decode cX10_film 45 = .ok (.iload 6, 2) := by decide +kernel
theorem dX10_film_47 : decode cX10_film 47 = .ok (.ifCond .eq 6, 3) := by decide +kernel
theorem dX10_film_50 : decode cX10_film 50 = .ok (.iload 6, 2) := by decide +kernel
theorem dX10_film_52 : decode cX10_film 52 = .ok (.ireturn, 1) := by decide +kernel
theorem dX10_film_53 : decode cX10_film 53 = .ok (.aload_n 0, 1) := by decide +kernel
theorem dX10_film_54 : decode cX10_film 54 = .ok (.getfield 33, 3) := by decide +kernel
theorem dX10_film_57 : decode cX10_film 57 = .ok (.aload_n 0, 1) := by decide +kernel
theorem dX10_film_58 : decode cX10_film 58 = .ok (.getfield 10, 3) := by decide +kernel
theorem dX10_film_61 : decode cX10_film 61 = .ok (.invokevirtual 119, 3) := by decide +kernel
theorem dX10_film_64 : decode cX10_film 64 = .ok (.iconst 0, 1) := by decide +kernel
theorem dX10_film_65 : decode cX10_film 65 = .ok (.istore 7, 2) := by decide +kernel
theorem dX10_film_67 : decode cX10_film 67 = .ok (.iload 7, 2) := by decide +kernel
theorem dX10_film_69 : decode cX10_film 69 = .ok (.iload_n 1, 1) := by decide +kernel
theorem dX10_film_70 : decode cX10_film 70 = .ok (.if_icmp .ge 42, 3) := by decide +kernel
theorem dX10_film_73 : decode cX10_film 73 = .ok (.aload_n 0, 1) := by decide +kernel
theorem dX10_film_74 : decode cX10_film 74 = .ok (.getfield 33, 3) := by decide +kernel
theorem dX10_film_77 : decode cX10_film 77 = .ok (.aload_n 0, 1) := by decide +kernel
theorem dX10_film_78 : decode cX10_film 78 = .ok (.getfield 33, 3) := by decide +kernel
theorem dX10_film_81 : decode cX10_film 81 = .ok (.getfield 109, 3) := by decide +kernel
theorem dX10_film_84 : decode cX10_film 84 = .ok (.invokevirtual 154, 3) := by decide +kernel
theorem dX10_film_87 : decode cX10_film 87 = .ok (.pop, 1) := by decide +kernel
theorem dX10_film_88 : decode cX10_film 88 = .ok (.aload 5, 2) := by decide +kernel
theorem dX10_film_90 : decode cX10_film 90 = .ok (.iload 4, 2) := by decide +kernel
theorem dX10_film_92 : decode cX10_film 92 = .ok (.iload 7, 2) := by decide +kernel
theorem dX10_film_94 : decode cX10_film 94 = .ok (.iadd, 1) := by decide +kernel
theorem dX10_film_95 : decode cX10_film 95 = .ok (.aload_n 0, 1) := by decide +kernel
theorem dX10_film_96 : decode cX10_film 96 = .ok (.getfield 33, 3) := by decide +kernel
theorem dX10_film_99 : decode cX10_film 99 = .ok (.getfield 133, 3) := by decide +kernel
theorem dX10_film_102 : decode cX10_film 102 = .ok (.i2l, 1) := by decide +kernel
theorem dX10_film_103 : decode cX10_film 103 = .ok (.invokevirtual 205, 3) := by decide +kernel
theorem dX10_film_106 : decode cX10_film 106 = .ok (.iinc 7 1, 3) := by decide +kernel
theorem dX10_film_109 : decode cX10_film 109 = .ok (.goto (-42), 3) := by decide +kernel
theorem dX10_film_112 : decode cX10_film 112 = .ok (.iload_n 1, 1) := by decide +kernel
theorem dX10_film_113 : decode cX10_film 113 = .ok (.ireturn, 1) := by decide +kernel
theorem dX10_sheet_0 : decode cX10_sheet 0 = .ok (.iload_n 1, 1) := by decide +kernel
theorem dX10_sheet_1 : decode cX10_sheet 1 = .ok (.invokestatic 186, 3) := by decide +kernel
theorem dX10_sheet_4 : decode cX10_sheet 4 = .ok (.ifCond .eq 16, 3) := by decide +kernel
theorem dX10_sheet_7 : decode cX10_sheet 7 = .ok (.iload_n 2, 1) := by decide +kernel
theorem dX10_sheet_8 : decode cX10_sheet 8 = .ok (.invokestatic 189, 3) := by decide +kernel
theorem dX10_sheet_11 : decode cX10_sheet 11 = .ok (.ifCond .eq 9, 3) := by decide +kernel
theorem dX10_sheet_14 : decode cX10_sheet 14 = .ok (.iload_n 3, 1) := by decide +kernel
theorem dX10_sheet_15 : decode cX10_sheet 15 = .ok (.bipush 24, 2) := by decide +kernel
theorem dX10_sheet_17 : decode cX10_sheet 17 = .ok (.if_icmp .le 5, 3) := by decide +kernel
theorem dX10_sheet_20 : decode cX10_sheet 20 = .ok (.iconst (-1), 1) := by decide +kernel
theorem dX10_sheet_21 : decode cX10_sheet 21 = .ok (.ireturn, 1) := by decide +kernel
theorem dX10_sheet_22 : decode cX10_sheet 22 = .ok (.iload_n 3, 1) := by decide +kernel
theorem dX10_sheet_23 : decode cX10_sheet 23 = .ok (.ifCond .ge 6, 3) := by decide +kernel
theorem dX10_sheet_26 : decode cX10_sheet 26 = .ok (.bipush (-14), 2) := by decide +kernel
theorem dX10_sheet_28 : decode cX10_sheet 28 = .ok (.ireturn, 1) := by decide +kernel
theorem dX10_sheet_29 : decode cX10_sheet 29 = .ok (.aload_n 0, 1) := by decide +kernel
theorem dX10_sheet_30 : decode cX10_sheet 30 = .ok (.getfield 45, 3) := by decide +kernel
theorem dX10_sheet_33 : decode cX10_sheet 33 = .ok (.iload_n 1, 1) := by decide +kernel
theorem dX10_sheet_34 : decode cX10_sheet 34 = .ok (.aaload, 1) := by decide +kernel
theorem dX10_sheet_35 : decode cX10_sheet 35 = .ok (.iload_n 2, 1) := by decide +kernel
theorem dX10_sheet_36 : decode cX10_sheet 36 = .ok (.iload_n 3, 1) := by decide +kernel
theorem dX10_sheet_37 : decode cX10_sheet 37 = .ok (.invokevirtual 209, 3) := by decide +kernel
theorem dX10_sheet_40 : decode cX10_sheet 40 = .ok (.iload_n 3, 1) := by decide +kernel
theorem dX10_sheet_41 : decode cX10_sheet 41 = .ok (.ireturn, 1) := by decide +kernel
theorem dX10_drop_0 : decode cX10_drop 0 = .ok (.iload_n 1, 1) := by decide +kernel
theorem dX10_drop_1 : decode cX10_drop 1 = .ok (.invokestatic 186, 3) := by decide +kernel
theorem dX10_drop_4 : decode cX10_drop 4 = .ok (.ifCond .ne 5, 3) := by decide +kernel
theorem dX10_drop_7 : decode cX10_drop 7 = .ok (.iconst (-1), 1) := by decide +kernel
theorem dX10_drop_8 : decode cX10_drop 8 = .ok (.ireturn, 1) := by decide +kernel
theorem dX10_drop_9 : decode cX10_drop 9 = .ok (.aload_n 0, 1) := by decide +kernel
theorem dX10_drop_10 : decode cX10_drop 10 = .ok (.getfield 45, 3) := by decide +kernel
theorem dX10_drop_13 : decode cX10_drop 13 = .ok (.iload_n 1, 1) := by decide +kernel
theorem dX10_drop_14 : decode cX10_drop 14 = .ok (.aaload, 1) := by decide +kernel
theorem dX10_drop_15 : decode cX10_drop 15 = .ok (.astore_n 2, 1) := by decide +kernel
theorem dX10_drop_16 : decode cX10_drop 16 = .ok (.aload_n 2, 1) := by decide +kernel
theorem dX10_drop_17 : decode cX10_drop 17 = .ok (.getfield 213, 3) := by decide +kernel
theorem dX10_drop_20 : decode cX10_drop 20 = .ok (.ifCond .ne 6, 3) := by decide +kernel
theorem dX10_drop_23 : decode cX10_drop 23 = .ok (.bipush (-11), 2) := by decide +kernel
theorem dX10_drop_25 : decode cX10_drop 25 = .ok (.ireturn, 1) := by decide +kernel
theorem dX10_drop_26 : decode cX10_drop 26 = .ok (.aload_n 2, 1) := by decide +kernel
theorem dX10_drop_27 : decode cX10_drop 27 = .ok (.iconst 0, 1) := by decide +kernel
theorem dX10_drop_28 : decode cX10_drop 28 = .ok (.putfield 213, 3) := by decide +kernel
theorem dX10_drop_31 : decode cX10_drop 31 = .ok (.aload_n 2, 1) := by decide +kernel
theorem dX10_drop_32 : decode cX10_drop 32 = .ok (.getfield 216, 3) := by decide +kernel
theorem dX10_drop_35 : decode cX10_drop 35 = .ok (.ireturn, 1) := by decide +kernel
theorem dX10_item_0 : decode cX10_item 0 = .ok (.iload_n 1, 1) := by decide +kernel
theorem dX10_item_1 : decode cX10_item 1 = .ok (.invokestatic 186, 3) := by decide +kernel
theorem dX10_item_4 : decode cX10_item 4 = .ok (.ifCond .eq 10, 3) := by decide +kernel
theorem dX10_item_7 : decode cX10_item 7 = .ok (.iload_n 2, 1) := by decide +kernel
theorem dX10_item_8 : decode cX10_item 8 = .ok (.invokestatic 189, 3) := by decide +kernel
theorem dX10_item_11 : decode cX10_item 11 = .ok (.ifCond .ne 5, 3) := by decide +kernel
theorem dX10_item_14 : decode cX10_item 14 = .ok (.iconst (-1), 1) := by decide +kernel
theorem dX10_item_15 : decode cX10_item 15 = .ok (.ireturn, 1) := by decide +kernel
theorem dX10_item_16 : decode cX10_item 16 = .ok (.aload_n 0, 1) := by decide +kernel
theorem dX10_item_17 : decode cX10_item 17 = .ok (.getfield 45, 3) := by decide +kernel
theorem dX10_item_20 : decode cX10_item 20 = .ok (.iload_n 1, 1) := by decide +kernel
theorem dX10_item_21 : decode cX10_item 21 = .ok (.aaload, 1) := by decide +kernel
theorem dX10_item_22 : decode cX10_item 22 = .ok (.astore 6, 2) := by decide +kernel
theorem dX10_item_24 : decode cX10_item 24 = .ok (.aload 6, 2) := by decide +kernel
theorem dX10_item_26 : decode cX10_item 26 = .ok (.iload_n 2, 1) := by decide +kernel
theorem dX10_item_27 : decode cX10_item 27 = .ok (.iload_n 3, 1) := by decide +kernel
theorem dX10_item_28 : decode cX10_item 28 = .ok (.iconst 1, 1) := by decide +kernel
theorem dX10_item_29 : decode cX10_item 29 = .ok (.invokevirtual 192, 3) := by decide +kernel
theorem dX10_item_32 : decode cX10_item 32 = .ok (.istore 7, 2) := by decide +kernel
theorem dX10_item_34 : decode cX10_item 34 = .ok (.iload 7, 2) := by decide +kernel
theorem dX10_item_36 : decode cX10_item 36 = .ok (.ifCond .eq 6, 3) := by decide +kernel
theorem dX10_item_39 : decode cX10_item 39 = .ok (.iload 7, 2) := by decide +kernel
theorem dX10_item_41 : decode cX10_item 41 = .ok (.ireturn, 1) := by decide +kernel
theorem dX10_item_42 : decode cX10_item 42 = .ok (.aload 6, 2) := by decide +kernel
theorem dX10_item_44 : decode cX10_item 44 = .ok (.iload_n 3, 1) := by decide +kernel
theorem dX10_item_45 : decode cX10_item 45 = .ok (.lload 4, 2) := by decide +kernel
theorem dX10_item_47 : decode cX10_item 47 = .ok (.invokevirtual 205, 3) := by decide +kernel
theorem dX10_item_50 : decode cX10_item 50 = .ok (.iconst 1, 1) := by decide +kernel
theorem dX10_item_51 : decode cX10_item 51 = .ok (.ireturn, 1) := by decide +kernel
theorem dX10_copy_0 : decode cX10_copy 0 = .ok (.iload_n 1, 1) := by decide +kernel
theorem dX10_copy_1 : decode cX10_copy 1 = .ok (.invokestatic 186, 3) := by decide +kernel
theorem dX10_copy_4 : decode cX10_copy 4 = .ok (.ifCond .eq 10, 3) := by decide +kernel
theorem dX10_copy_7 : decode cX10_copy 7 = .ok (.iload_n 3, 1) := by decide +kernel
theorem dX10_copy_8 : decode cX10_copy 8 = .ok (.invokestatic 186, 3) := by decide +kernel
theorem dX10_copy_11 : decode cX10_copy 11 = .ok (.ifCond .ne 5, 3) := by decide +kernel
theorem dX10_copy_14 : decode cX10_copy 14 = .ok (.iconst (-1), 1) := by decide +kernel
theorem dX10_copy_15 : decode cX10_copy 15 = .ok (.ireturn, 1) := by decide +kernel
theorem dX10_copy_16 : decode cX10_copy 16 = .ok (.aload_n 0, 1) := by decide +kernel
theorem dX10_copy_17 : decode cX10_copy 17 = .ok (.getfield 45, 3) := by decide +kernel
theorem dX10_copy_20 : decode cX10_copy 20 = .ok (.iload_n 1, 1) := by decide +kernel
theorem dX10_copy_21 : decode cX10_copy 21 = .ok (.aaload, 1) := by decide +kernel
theorem dX10_copy_22 : decode cX10_copy 22 = .ok (.astore 6, 2) := by decide +kernel
theorem dX10_copy_24 : decode cX10_copy 24 = .ok (.aload_n 0, 1) := by decide +kernel
theorem dX10_copy_25 : decode cX10_copy 25 = .ok (.getfield 45, 3) := by decide +kernel
theorem dX10_copy_28 : decode cX10_copy 28 = .ok (.iload_n 3, 1) := by decide +kernel
theorem dX10_copy_29 : decode cX10_copy 29 = .ok (.aaload, 1) := by decide +kernel
theorem dX10_copy_30 : decode cX10_copy 30 = .ok (.astore 7, 2) := by decide +kernel
theorem dX10_copy_32 : decode cX10_copy 32 = .ok (.aload 6, 2) := by decide +kernel
theorem dX10_copy_34 : decode cX10_copy 34 = .ok (.getfield 213, 3) := by decide +kernel
theorem dX10_copy_37 : decode cX10_copy 37 = .ok (.ifCond .eq 11, 3) := by decide +kernel
theorem dX10_copy_40 : decode cX10_copy 40 = .ok (.aload 7, 2) := by decide +kernel
theorem dX10_copy_42 : decode cX10_copy 42 = .ok (.getfield 213, 3) := by decide +kernel
theorem dX10_copy_45 : decode cX10_copy 45 = .ok (.ifCond .ne 6, 3) := by decide +kernel
theorem dX10_copy_48 : decode cX10_copy 48 = .ok (.bipush (-11), 2) := by decide +kernel
theorem dX10_copy_50 : decode cX10_copy 50 = .ok (.ireturn, 1) := by decide +kernel
theorem dX10_copy_51 : decode cX10_copy 51 = .ok (.aload 6, 2) := by decide +kernel
theorem dX10_copy_53 : decode cX10_copy 53 = .ok (.getfield 217, 3) := by decide +kernel
theorem dX10_copy_56 : decode cX10_copy 56 = .ok (.aload 7, 2) := by decide +kernel
theorem dX10_copy_58 : decode cX10_copy 58 = .ok (.getfield 217, 3) := by decide +kernel
theorem dX10_copy_61 : decode cX10_copy 61 = .ok (.if_icmp .eq 6, 3) := by decide +kernel
theorem dX10_copy_64 : decode cX10_copy 64 = .ok (.bipush (-12), 2) := by decide +kernel
theorem dX10_copy_66 : decode cX10_copy 66 = .ok (.ireturn, 1) := by decide +kernel
theorem dX10_copy_67 : decode cX10_copy 67 = .ok (.aload 6, 2) := by decide +kernel
theorem dX10_copy_69 : decode cX10_copy 69 = .ok (.iload_n 2, 1) := by decide +kernel
theorem dX10_copy_70 : decode cX10_copy 70 = .ok (.iload 5, 2) := by decide +kernel
theorem dX10_copy_72 : decode cX10_copy 72 = .ok (.invokevirtual 220, 3) := by decide +kernel
theorem dX10_copy_75 : decode cX10_copy 75 = .ok (.ifCond .ne 15, 3) := by decide +kernel
theorem dX10_copy_78 : decode cX10_copy 78 = .ok (.aload 7, 2) := by decide +kernel
theorem dX10_copy_80 : decode cX10_copy 80 = .ok (.iload 4, 2) := by decide +kernel
theorem dX10_copy_82 : decode cX10_copy 82 = .ok (.iload 5, 2) := by decide +kernel
theorem dX10_copy_84 : decode cX10_copy 84 = .ok (.invokevirtual 220, 3) := by decide +kernel
theorem dX10_copy_87 : decode cX10_copy 87 = .ok (.ifCond .eq 6, 3) := by decide +kernel
theorem dX10_copy_90 : decode cX10_copy 90 = .ok (.bipush (-13), 2) := by decide +kernel
theorem dX10_copy_92 : decode cX10_copy 92 = .ok (.ireturn, 1) := by decide +kernel
theorem dX10_copy_93 : decode cX10_copy 93 = .ok (.aload 6, 2) := by decide +kernel
theorem dX10_copy_95 : decode cX10_copy 95 = .ok (.getfield 224, 3) := by decide +kernel
theorem dX10_copy_98 : decode cX10_copy 98 = .ok (.iload_n 2, 1) := by decide +kernel
theorem dX10_copy_99 : decode cX10_copy 99 = .ok (.aload 7, 2) := by decide +kernel
theorem dX10_copy_101 : decode cX10_copy 101 = .ok (.getfield 224, 3) := by decide +kernel
theorem dX10_copy_104 : decode cX10_copy 104 = .ok (.iload 4, 2) := by decide +kernel
theorem dX10_copy_106 : decode cX10_copy 106 = .ok (.iload 5, 2) := by decide +kernel
theorem dX10_copy_108 : decode cX10_copy 108 = .ok (.invokestatic 228, 3) := by decide +kernel
theorem dX10_copy_111 : decode cX10_copy 111 = .ok (.iload 5, 2) := by decide +kernel
theorem dX10_copy_113 : decode cX10_copy 113 = .ok (.ireturn, 1) := by decide +kernel
theorem dX10_within_0 : decode cX10_within 0 = .ok (.iload_n 0, 1) := by decide +kernel
theorem dX10_within_1 : decode cX10_within 1 = .ok (.iload_n 1, 1) := by decide +kernel
theorem dX10_within_2 : decode cX10_within 2 = .ok (.if_icmp .lt 12, 3) := by decide +kernel
theorem dX10_within_5 : decode cX10_within 5 = .ok (.iload_n 0, 1) := by decide +kernel
theorem dX10_within_6 : decode cX10_within 6 = .ok (.iload_n 2, 1) := by decide +kernel
theorem dX10_within_7 : decode cX10_within 7 = .ok (.if_icmp .gt 7, 3) := by decide +kernel
theorem dX10_within_10 : decode cX10_within 10 = .ok (.iconst 1, 1) := by decide +kernel
theorem dX10_within_11 : decode cX10_within 11 = .ok (.goto 4, 3) := by decide +kernel
theorem dX10_within_14 : decode cX10_within 14 = .ok (.iconst 0, 1) := by decide +kernel
theorem dX10_within_15 : decode cX10_within 15 = .ok (.ireturn, 1) := by decide +kernel
theorem dX10_isSheet_0 : decode cX10_isSheet 0 = .ok (.iload_n 0, 1) := by decide +kernel
theorem dX10_isSheet_1 : decode cX10_isSheet 1 = .ok (.iconst 0, 1) := by decide +kernel
theorem dX10_isSheet_2 : decode cX10_isSheet 2 = .ok (.iconst 3, 1) := by decide +kernel
theorem dX10_isSheet_3 : decode cX10_isSheet 3 = .ok (.invokestatic 50, 3) := by decide +kernel
theorem dX10_isSheet_6 : decode cX10_isSheet 6 = .ok (.ireturn, 1) := by decide +kernel
theorem dX10_isLane_0 : decode cX10_isLane 0 = .ok (.iload_n 0, 1) := by decide +kernel
theorem dX10_isLane_1 : decode cX10_isLane 1 = .ok (.iconst 0, 1) := by decide +kernel
theorem dX10_isLane_2 : decode cX10_isLane 2 = .ok (.iconst 3, 1) := by decide +kernel
theorem dX10_isLane_3 : decode cX10_isLane 3 = .ok (.invokestatic 50, 3) := by decide +kernel
theorem dX10_isLane_6 : decode cX10_isLane 6 = .ok (.ireturn, 1) := by decide +kernel
theorem dX10_isPerson_0 : decode cX10_isPerson 0 = .ok (.iload_n 1, 1) := by decide +kernel
theorem dX10_isPerson_1 : decode cX10_isPerson 1 = .ok (.iconst 0, 1) := by decide +kernel
theorem dX10_isPerson_2 : decode cX10_isPerson 2 = .ok (.aload_n 0, 1) := by decide +kernel
theorem dX10_isPerson_3 : decode cX10_isPerson 3 = .ok (.getfield 10, 3) := by decide +kernel
theorem dX10_isPerson_6 : decode cX10_isPerson 6 = .ok (.getfield 54, 3) := by decide +kernel
theorem dX10_isPerson_9 : decode cX10_isPerson 9 = .ok (.iconst 1, 1) := by decide +kernel
theorem dX10_isPerson_10 : decode cX10_isPerson 10 = .ok (.isub, 1) := by decide +kernel
theorem dX10_isPerson_11 : decode cX10_isPerson 11 = .ok (.invokestatic 50, 3) := by decide +kernel
theorem dX10_isPerson_14 : decode cX10_isPerson 14 = .ok (.ireturn, 1) := by decide +kernel
theorem dX10_newPerson_0 : decode cX10_newPerson 0 = .ok (.iload_n 0, 1) := by decide +kernel
theorem dX10_newPerson_1 : decode cX10_newPerson 1 = .ok (.tableswitch 80 1 5 #[35, 44, 53, 62, 71], 35) := by decide +kernel
theorem dX10_newPerson_36 : decode cX10_newPerson 36 = .ok (.new 234, 3) := by decide +kernel
theorem dX10_newPerson_39 : decode cX10_newPerson 39 = .ok (.dup, 1) := by decide +kernel
theorem dX10_newPerson_40 : decode cX10_newPerson 40 = .ok (.iload_n 1, 1) := by decide +kernel
theorem dX10_newPerson_41 : decode cX10_newPerson 41 = .ok (.invokespecial 236, 3) := by decide +kernel
theorem dX10_newPerson_44 : decode cX10_newPerson 44 = .ok (.areturn, 1) := by decide +kernel
theorem dX10_newPerson_45 : decode cX10_newPerson 45 = .ok (.new 238, 3) := by decide +kernel
theorem dX10_newPerson_48 : decode cX10_newPerson 48 = .ok (.dup, 1) := by decide +kernel
theorem dX10_newPerson_49 : decode cX10_newPerson 49 = .ok (.iload_n 1, 1) := by decide +kernel
theorem dX10_newPerson_50 : decode cX10_newPerson 50 = .ok (.invokespecial 240, 3) := by decide +kernel
theorem dX10_newPerson_53 : decode cX10_newPerson 53 = .ok (.areturn, 1) := by decide +kernel
theorem dX10_newPerson_54 : decode cX10_newPerson 54 = .ok (.new 241, 3) := by decide +kernel
theorem dX10_newPerson_57 : decode cX10_newPerson 57 = .ok (.dup, 1) := by decide +kernel
theorem dX10_newPerson_58 : decode cX10_newPerson 58 = .ok (.iload_n 1, 1) := by decide +kernel
theorem dX10_newPerson_59 : decode cX10_newPerson 59 = .ok (.invokespecial 243, 3) := by decide +kernel
theorem dX10_newPerson_62 : decode cX10_newPerson 62 = .ok (.areturn, 1) := by decide +kernel
theorem dX10_newPerson_63 : decode cX10_newPerson 63 = .ok (.new 244, 3) := by decide +kernel
theorem dX10_newPerson_66 : decode cX10_newPerson 66 = .ok (.dup, 1) := by decide +kernel
theorem dX10_newPerson_67 : decode cX10_newPerson 67 = .ok (.iload_n 1, 1) := by decide +kernel
theorem dX10_newPerson_68 : decode cX10_newPerson 68 = .ok (.invokespecial 246, 3) := by decide +kernel
theorem dX10_newPerson_71 : decode cX10_newPerson 71 = .ok (.areturn, 1) := by decide +kernel
theorem dX10_newPerson_72 : decode cX10_newPerson 72 = .ok (.new 247, 3) := by decide +kernel
theorem dX10_newPerson_75 : decode cX10_newPerson 75 = .ok (.dup, 1) := by decide +kernel
theorem dX10_newPerson_76 : decode cX10_newPerson 76 = .ok (.iload_n 1, 1) := by decide +kernel
theorem dX10_newPerson_77 : decode cX10_newPerson 77 = .ok (.invokespecial 249, 3) := by decide +kernel
theorem dX10_newPerson_80 : decode cX10_newPerson 80 = .ok (.areturn, 1) := by decide +kernel
theorem dX10_newPerson_81 : decode cX10_newPerson 81 = .ok (.new 78, 3) := by decide +kernel
theorem dX10_newPerson_84 : decode cX10_newPerson 84 = .ok (.dup, 1) := by decide +kernel
theorem dX10_newPerson_85 : decode cX10_newPerson 85 = .ok (.iload_n 1, 1) := by decide +kernel
theorem dX10_newPerson_86 : decode cX10_newPerson 86 = .ok (.invokespecial 250, 3) := by decide +kernel
theorem dX10_newPerson_89 : decode cX10_newPerson 89 = .ok (.areturn, 1) := by decide +kernel
theorem dX10_tryPrice_0 : decode cX10_tryPrice 0 = .ok (.aload_n 0, 1) := by decide +kernel
theorem dX10_tryPrice_1 : decode cX10_tryPrice 1 = .ok (.getfield 33, 3) := by decide +kernel
theorem dX10_tryPrice_4 : decode cX10_tryPrice 4 = .ok (.aload_n 0, 1) := by decide +kernel
theorem dX10_tryPrice_5 : decode cX10_tryPrice 5 = .ok (.getfield 10, 3) := by decide +kernel
theorem dX10_tryPrice_8 : decode cX10_tryPrice 8 = .ok (.invokevirtual 119, 3) := by decide +kernel
theorem dX10_tryPrice_11 : decode cX10_tryPrice 11 = .ok (.aload_n 0, 1) := by decide +kernel
theorem dX10_tryPrice_12 : decode cX10_tryPrice 12 = .ok (.getfield 33, 3) := by decide +kernel
theorem dX10_tryPrice_15 : decode cX10_tryPrice 15 = .ok (.iload_n 1, 1) := by decide +kernel
theorem dX10_tryPrice_16 : decode cX10_tryPrice 16 = .ok (.putfield 106, 3) := by decide +kernel
theorem dX10_tryPrice_19 : decode cX10_tryPrice 19 = .ok (.return_, 1) := by decide +kernel
theorem dX10_tryPence_0 : decode cX10_tryPence 0 = .ok (.aload_n 0, 1) := by decide +kernel
theorem dX10_tryPence_1 : decode cX10_tryPence 1 = .ok (.getfield 33, 3) := by decide +kernel
theorem dX10_tryPence_4 : decode cX10_tryPence 4 = .ok (.aload_n 0, 1) := by decide +kernel
theorem dX10_tryPence_5 : decode cX10_tryPence 5 = .ok (.getfield 10, 3) := by decide +kernel
theorem dX10_tryPence_8 : decode cX10_tryPence 8 = .ok (.invokevirtual 119, 3) := by decide +kernel
theorem dX10_tryPence_11 : decode cX10_tryPence 11 = .ok (.aload_n 0, 1) := by decide +kernel
theorem dX10_tryPence_12 : decode cX10_tryPence 12 = .ok (.getfield 33, 3) := by decide +kernel
theorem dX10_tryPence_15 : decode cX10_tryPence 15 = .ok (.iload_n 1, 1) := by decide +kernel
theorem dX10_tryPence_16 : decode cX10_tryPence 16 = .ok (.putfield 133, 3) := by decide +kernel
theorem dX10_tryPence_19 : decode cX10_tryPence 19 = .ok (.return_, 1) := by decide +kernel
theorem dX10_oneNearer_0 : decode cX10_oneNearer 0 = .ok (.iload_n 0, 1) := by decide +kernel
theorem dX10_oneNearer_1 : decode cX10_oneNearer 1 = .ok (.iload_n 1, 1) := by decide +kernel
theorem dX10_oneNearer_2 : decode cX10_oneNearer 2 = .ok (.if_icmp .ne 5, 3) := by decide +kernel
theorem dX10_oneNearer_5 : decode cX10_oneNearer 5 = .ok (.iload_n 1, 1) := by decide +kernel
theorem dX10_oneNearer_6 : decode cX10_oneNearer 6 = .ok (.ireturn, 1) := by decide +kernel
theorem dX10_oneNearer_7 : decode cX10_oneNearer 7 = .ok (.iload_n 0, 1) := by decide +kernel
theorem dX10_oneNearer_8 : decode cX10_oneNearer 8 = .ok (.iload_n 1, 1) := by decide +kernel
theorem dX10_oneNearer_9 : decode cX10_oneNearer 9 = .ok (.if_icmp .ge 9, 3) := by decide +kernel
theorem dX10_oneNearer_12 : decode cX10_oneNearer 12 = .ok (.iload_n 0, 1) := by decide +kernel
theorem dX10_oneNearer_13 : decode cX10_oneNearer 13 = .ok (.iconst 1, 1) := by decide +kernel
theorem dX10_oneNearer_14 : decode cX10_oneNearer 14 = .ok (.iadd, 1) := by decide +kernel
theorem dX10_oneNearer_15 : decode cX10_oneNearer 15 = .ok (.goto 6, 3) := by decide +kernel
theorem dX10_oneNearer_18 : decode cX10_oneNearer 18 = .ok (.iload_n 0, 1) := by decide +kernel
theorem dX10_oneNearer_19 : decode cX10_oneNearer 19 = .ok (.iconst 1, 1) := by decide +kernel
theorem dX10_oneNearer_20 : decode cX10_oneNearer 20 = .ok (.isub, 1) := by decide +kernel
theorem dX10_oneNearer_21 : decode cX10_oneNearer 21 = .ok (.ireturn, 1) := by decide +kernel
theorem dX10_penceByLuck_0 : decode cX10_penceByLuck 0 = .ok (.aload_n 0, 1) := by decide +kernel
theorem dX10_penceByLuck_1 : decode cX10_penceByLuck 1 = .ok (.getfield 33, 3) := by decide +kernel
theorem dX10_penceByLuck_4 : decode cX10_penceByLuck 4 = .ok (.aload_n 0, 1) := by decide +kernel
theorem dX10_penceByLuck_5 : decode cX10_penceByLuck 5 = .ok (.getfield 10, 3) := by decide +kernel
theorem dX10_penceByLuck_8 : decode cX10_penceByLuck 8 = .ok (.invokevirtual 119, 3) := by decide +kernel
theorem dX10_penceByLuck_11 : decode cX10_penceByLuck 11 = .ok (.iload_n 1, 1) := by decide +kernel
theorem dX10_penceByLuck_12 : decode cX10_penceByLuck 12 = .ok (.istore_n 3, 1) := by decide +kernel
theorem dX10_penceByLuck_13 : decode cX10_penceByLuck 13 = .ok (.iconst 0, 1) := by decide +kernel
theorem dX10_penceByLuck_14 : decode cX10_penceByLuck 14 = .ok (.istore 4, 2) := by decide +kernel
theorem dX10_penceByLuck_16 : decode cX10_penceByLuck 16 = .ok (.iload 4, 2) := by decide +kernel
theorem dX10_penceByLuck_18 : decode cX10_penceByLuck 18 = .ok (.iload_n 2, 1) := by decide +kernel
theorem dX10_penceByLuck_19 : decode cX10_penceByLuck 19 = .ok (.if_icmp .ge 32, 3) := by decide +kernel
theorem dX10_penceByLuck_22 : decode cX10_penceByLuck 22 = .ok (.aload_n 0, 1) := by decide +kernel
theorem dX10_penceByLuck_23 : decode cX10_penceByLuck 23 = .ok (.getfield 33, 3) := by decide +kernel
theorem dX10_penceByLuck_26 : decode cX10_penceByLuck 26 = .ok (.aload_n 0, 1) := by decide +kernel
theorem dX10_penceByLuck_27 : decode cX10_penceByLuck 27 = .ok (.getfield 33, 3) := by decide +kernel
theorem dX10_penceByLuck_30 : decode cX10_penceByLuck 30 = .ok (.getfield 109, 3) := by decide +kernel
theorem dX10_penceByLuck_33 : decode cX10_penceByLuck 33 = .ok (.iload_n 3, 1) := by decide +kernel
theorem dX10_penceByLuck_34 : decode cX10_penceByLuck 34 = .ok (.iconst 3, 1) := by decide +kernel
theorem dX10_penceByLuck_35 : decode cX10_penceByLuck 35 = .ok (.irem, 1) := by decide +kernel
theorem dX10_penceByLuck_36 : decode cX10_penceByLuck 36 = .ok (.iadd, 1) := by decide +kernel
theorem dX10_penceByLuck_37 : decode cX10_penceByLuck 37 = .ok (.invokevirtual 154, 3) := by decide +kernel
theorem dX10_penceByLuck_40 : decode cX10_penceByLuck 40 = .ok (.pop, 1) := by decide +kernel
theorem dX10_penceByLuck_41 : decode cX10_penceByLuck 41 = .ok (.iload_n 3, 1) := by decide +kernel
theorem dX10_penceByLuck_42 : decode cX10_penceByLuck 42 = .ok (.iconst 3, 1) := by decide +kernel
theorem dX10_penceByLuck_43 : decode cX10_penceByLuck 43 = .ok (.idiv, 1) := by decide +kernel
theorem dX10_penceByLuck_44 : decode cX10_penceByLuck 44 = .ok (.istore_n 3, 1) := by decide +kernel
theorem dX10_penceByLuck_45 : decode cX10_penceByLuck 45 = .ok (.iinc 4 1, 3) := by decide +kernel
theorem dX10_penceByLuck_48 : decode cX10_penceByLuck 48 = .ok (.goto (-32), 3) := by decide +kernel
theorem dX10_penceByLuck_51 : decode cX10_penceByLuck 51 = .ok (.aload_n 0, 1) := by decide +kernel
theorem dX10_penceByLuck_52 : decode cX10_penceByLuck 52 = .ok (.getfield 33, 3) := by decide +kernel
theorem dX10_penceByLuck_55 : decode cX10_penceByLuck 55 = .ok (.getfield 133, 3) := by decide +kernel
theorem dX10_penceByLuck_58 : decode cX10_penceByLuck 58 = .ok (.ireturn, 1) := by decide +kernel
theorem dX10_starts_0 : decode cX10_starts 0 = .ok (.iload 6, 2) := by decide +kernel
theorem dX10_starts_2 : decode cX10_starts 2 = .ok (.ifCond .ne 7, 3) := by decide +kernel
theorem dX10_starts_5 : decode cX10_starts 5 = .ok (.iconst 0, 1) := by decide +kernel
theorem dX10_starts_6 : decode cX10_starts 6 = .ok (.goto 5, 3) := by decide +kernel
theorem dX10_starts_9 : decode cX10_starts 9 = .ok (.bipush (-4), 2) := by decide +kernel
theorem dX10_starts_11 : decode cX10_starts 11 = .ok (.istore 7, 2) := by decide +kernel
theorem dX10_starts_13 : decode cX10_starts 13 = .ok (.iload 4, 2) := by decide +kernel
theorem dX10_starts_15 : decode cX10_starts 15 = .ok (.iload 5, 2) := by decide +kernel
theorem dX10_starts_17 : decode cX10_starts 17 = .ok (.if_icmp .le 6, 3) := by decide +kernel
theorem dX10_starts_20 : decode cX10_starts 20 = .ok (.iload 7, 2) := by decide +kernel
theorem dX10_starts_22 : decode cX10_starts 22 = .ok (.ireturn, 1) := by decide +kernel
theorem dX10_starts_23 : decode cX10_starts 23 = .ok (.aload_n 0, 1) := by decide +kernel
theorem dX10_starts_24 : decode cX10_starts 24 = .ok (.iload 5, 2) := by decide +kernel
theorem dX10_starts_26 : decode cX10_starts 26 = .ok (.invokevirtual 251, 3) := by decide +kernel
theorem dX10_starts_29 : decode cX10_starts 29 = .ok (.aload_n 0, 1) := by decide +kernel
theorem dX10_starts_30 : decode cX10_starts 30 = .ok (.getfield 33, 3) := by decide +kernel
theorem dX10_starts_33 : decode cX10_starts 33 = .ok (.invokevirtual 142, 3) := by decide +kernel
theorem dX10_starts_36 : decode cX10_starts 36 = .ok (.istore 8, 2) := by decide +kernel
theorem dX10_starts_38 : decode cX10_starts 38 = .ok (.aload_n 1, 1) := by decide +kernel
theorem dX10_starts_39 : decode cX10_starts 39 = .ok (.getfield 224, 3) := by decide +kernel
theorem dX10_starts_42 : decode cX10_starts 42 = .ok (.iload_n 2, 1) := by decide +kernel
theorem dX10_starts_43 : decode cX10_starts 43 = .ok (.laload, 1) := by decide +kernel
theorem dX10_starts_44 : decode cX10_starts 44 = .ok (.lstore 9, 2) := by decide +kernel
theorem dX10_starts_46 : decode cX10_starts 46 = .ok (.lload 9, 2) := by decide +kernel
theorem dX10_starts_48 : decode cX10_starts 48 = .ok (.iload 8, 2) := by decide +kernel
theorem dX10_starts_50 : decode cX10_starts 50 = .ok (.i2l, 1) := by decide +kernel
theorem dX10_starts_51 : decode cX10_starts 51 = .ok (.lsub, 1) := by decide +kernel
theorem dX10_starts_52 : decode cX10_starts 52 = .ok (.lstore 11, 2) := by decide +kernel
theorem dX10_starts_54 : decode cX10_starts 54 = .ok (.lload 11, 2) := by decide +kernel
theorem dX10_starts_56 : decode cX10_starts 56 = .ok (.lstore 13, 2) := by decide +kernel
theorem dX10_starts_58 : decode cX10_starts 58 = .ok (.lload 9, 2) := by decide +kernel
theorem dX10_starts_60 : decode cX10_starts 60 = .ok (.ldc2_w 254, 3) := by decide +kernel
theorem dX10_starts_63 : decode cX10_starts 63 = .ok (.lcmp, 1) := by decide +kernel
theorem dX10_starts_64 : decode cX10_starts 64 = .ok (.ifCond .ne 22, 3) := by decide +kernel
theorem dX10_starts_67 : decode cX10_starts 67 = .ok (.iload 4, 2) := by decide +kernel
theorem dX10_starts_69 : decode cX10_starts 69 = .ok (.sipush 9999, 3) := by decide +kernel
theorem dX10_starts_72 : decode cX10_starts 72 = .ok (.iload 8, 2) := by decide +kernel
theorem dX10_starts_74 : decode cX10_starts 74 = .ok (.isub, 1) := by decide +kernel
theorem dX10_starts_75 : decode cX10_starts 75 = .ok (.invokestatic 256, 3) := by decide +kernel
theorem dX10_starts_78 : decode cX10_starts 78 = .ok (.i2l, 1) := by decide +kernel
theorem dX10_starts_79 : decode cX10_starts 79 = .ok (.lstore 11, 2) := by decide +kernel
theorem dX10_starts_81 : decode cX10_starts 81 = .ok (.iload 5, 2) := by decide +kernel
theorem dX10_starts_83 : decode cX10_starts 83 = .ok (.i2l, 1) := by decide +kernel
theorem dX10_starts_84 : decode cX10_starts 84 = .ok (.lstore 13, 2) := by decide +kernel
theorem dX10_starts_86 : decode cX10_starts 86 = .ok (.lload 11, 2) := by decide +kernel
theorem dX10_starts_88 : decode cX10_starts 88 = .ok (.lload 13, 2) := by decide +kernel
theorem dX10_starts_90 : decode cX10_starts 90 = .ok (.lcmp, 1) := by decide +kernel
theorem dX10_starts_91 : decode cX10_starts 91 = .ok (.ifCond .gt 34, 3) := by decide +kernel
theorem dX10_starts_94 : decode cX10_starts 94 = .ok (.lload 11, 2) := by decide +kernel
theorem dX10_starts_96 : decode cX10_starts 96 = .ok (.iload 4, 2) := by decide +kernel
theorem dX10_starts_98 : decode cX10_starts 98 = .ok (.i2l, 1) := by decide +kernel
theorem dX10_starts_99 : decode cX10_starts 99 = .ok (.lcmp, 1) := by decide +kernel
theorem dX10_starts_100 : decode cX10_starts 100 = .ok (.ifCond .lt 25, 3) := by decide +kernel
theorem dX10_starts_103 : decode cX10_starts 103 = .ok (.lload 13, 2) := by decide +kernel
theorem dX10_starts_105 : decode cX10_starts 105 = .ok (.iload 5, 2) := by decide +kernel
theorem dX10_starts_107 : decode cX10_starts 107 = .ok (.i2l, 1) := by decide +kernel
theorem dX10_starts_108 : decode cX10_starts 108 = .ok (.lcmp, 1) := by decide +kernel
theorem dX10_starts_109 : decode cX10_starts 109 = .ok (.ifCond .gt 16, 3) := by decide +kernel
theorem dX10_starts_112 : decode cX10_starts 112 = .ok (.aload_n 0, 1) := by decide +kernel
theorem dX10_starts_113 : decode cX10_starts 113 = .ok (.aload_n 1, 1) := by decide +kernel
theorem dX10_starts_114 : decode cX10_starts 114 = .ok (.iload_n 2, 1) := by decide +kernel
theorem dX10_starts_115 : decode cX10_starts 115 = .ok (.iload_n 3, 1) := by decide +kernel
theorem dX10_starts_116 : decode cX10_starts 116 = .ok (.lload 13, 2) := by decide +kernel
theorem dX10_starts_118 : decode cX10_starts 118 = .ok (.l2i, 1) := by decide +kernel
theorem dX10_starts_119 : decode cX10_starts 119 = .ok (.invokevirtual 259, 3) := by decide +kernel
theorem dX10_starts_122 : decode cX10_starts 122 = .ok (.ifCond .ne 6, 3) := by decide +kernel
theorem dX10_starts_125 : decode cX10_starts 125 = .ok (.iload 7, 2) := by decide +kernel
theorem dX10_starts_127 : decode cX10_starts 127 = .ok (.ireturn, 1) := by decide +kernel
theorem dX10_starts_128 : decode cX10_starts 128 = .ok (.iload 6, 2) := by decide +kernel
theorem dX10_starts_130 : decode cX10_starts 130 = .ok (.ifCond .ne 14, 3) := by decide +kernel
theorem dX10_starts_133 : decode cX10_starts 133 = .ok (.lload 13, 2) := by decide +kernel
theorem dX10_starts_135 : decode cX10_starts 135 = .ok (.lload 11, 2) := by decide +kernel
theorem dX10_starts_137 : decode cX10_starts 137 = .ok (.lsub, 1) := by decide +kernel
theorem dX10_starts_138 : decode cX10_starts 138 = .ok (.l2i, 1) := by decide +kernel
theorem dX10_starts_139 : decode cX10_starts 139 = .ok (.iconst 1, 1) := by decide +kernel
theorem dX10_starts_140 : decode cX10_starts 140 = .ok (.iadd, 1) := by decide +kernel
theorem dX10_starts_141 : decode cX10_starts 141 = .ok (.goto 6, 3) := by decide +kernel
theorem dX10_starts_144 : decode cX10_starts 144 = .ok (.lload 13, 2) := by decide +kernel
theorem dX10_starts_146 : decode cX10_starts 146 = .ok (.l2i, 1) := by decide +kernel
theorem dX10_starts_147 : decode cX10_starts 147 = .ok (.ireturn, 1) := by decide +kernel
theorem dX10_gives_0 : decode cX10_gives 0 = .ok (.aload_n 0, 1) := by decide +kernel
theorem dX10_gives_1 : decode cX10_gives 1 = .ok (.iload 4, 2) := by decide +kernel
theorem dX10_gives_3 : decode cX10_gives 3 = .ok (.invokevirtual 251, 3) := by decide +kernel
theorem dX10_gives_6 : decode cX10_gives 6 = .ok (.iconst 0, 1) := by decide +kernel
theorem dX10_gives_7 : decode cX10_gives 7 = .ok (.istore 5, 2) := by decide +kernel
theorem dX10_gives_9 : decode cX10_gives 9 = .ok (.iload 5, 2) := by decide +kernel
theorem dX10_gives_11 : decode cX10_gives 11 = .ok (.iload_n 3, 1) := by decide +kernel
theorem dX10_gives_12 : decode cX10_gives 12 = .ok (.if_icmp .ge 47, 3) := by decide +kernel
theorem dX10_gives_15 : decode cX10_gives 15 = .ok (.aload_n 0, 1) := by decide +kernel
theorem dX10_gives_16 : decode cX10_gives 16 = .ok (.getfield 33, 3) := by decide +kernel
theorem dX10_gives_19 : decode cX10_gives 19 = .ok (.aload_n 0, 1) := by decide +kernel
theorem dX10_gives_20 : decode cX10_gives 20 = .ok (.getfield 33, 3) := by decide +kernel
theorem dX10_gives_23 : decode cX10_gives 23 = .ok (.getfield 109, 3) := by decide +kernel
theorem dX10_gives_26 : decode cX10_gives 26 = .ok (.invokevirtual 154, 3) := by decide +kernel
theorem dX10_gives_29 : decode cX10_gives 29 = .ok (.pop, 1) := by decide +kernel
theorem dX10_gives_30 : decode cX10_gives 30 = .ok (.aload_n 1, 1) := by decide +kernel
theorem dX10_gives_31 : decode cX10_gives 31 = .ok (.getfield 224, 3) := by decide +kernel
theorem dX10_gives_34 : decode cX10_gives 34 = .ok (.iload_n 2, 1) := by decide +kernel
theorem dX10_gives_35 : decode cX10_gives 35 = .ok (.iload 5, 2) := by decide +kernel
theorem dX10_gives_37 : decode cX10_gives 37 = .ok (.iadd, 1) := by decide +kernel
theorem dX10_gives_38 : decode cX10_gives 38 = .ok (.laload, 1) := by decide +kernel
theorem dX10_gives_39 : decode cX10_gives 39 = .ok (.aload_n 0, 1) := by decide +kernel
theorem dX10_gives_40 : decode cX10_gives 40 = .ok (.getfield 33, 3) := by decide +kernel
theorem dX10_gives_43 : decode cX10_gives 43 = .ok (.getfield 133, 3) := by decide +kernel
theorem dX10_gives_46 : decode cX10_gives 46 = .ok (.i2l, 1) := by decide +kernel
theorem dX10_gives_47 : decode cX10_gives 47 = .ok (.lcmp, 1) := by decide +kernel
theorem dX10_gives_48 : decode cX10_gives 48 = .ok (.ifCond .eq 5, 3) := by decide +kernel
theorem dX10_gives_51 : decode cX10_gives 51 = .ok (.iconst 0, 1) := by decide +kernel
theorem dX10_gives_52 : decode cX10_gives 52 = .ok (.ireturn, 1) := by decide +kernel
theorem dX10_gives_53 : decode cX10_gives 53 = .ok (.iinc 5 1, 3) := by decide +kernel
theorem dX10_gives_56 : decode cX10_gives 56 = .ok (.goto (-47), 3) := by decide +kernel
theorem dX10_gives_59 : decode cX10_gives 59 = .ok (.iconst 1, 1) := by decide +kernel
theorem dX10_gives_60 : decode cX10_gives 60 = .ok (.ireturn, 1) := by decide +kernel
theorem dX11_init_0 : decode cX11_init 0 = .ok (.aload_n 0, 1) := by decide +kernel
theorem dX11_init_1 : decode cX11_init 1 = .ok (.invokespecial 1, 3) := by decide +kernel
theorem dX11_init_4 : decode cX11_init 4 = .ok (.aload_n 0, 1) := by decide +kernel
theorem dX11_init_5 : decode cX11_init 5 = .ok (.bipush 31, 2) := by decide +kernel
theorem dX11_init_7 : decode cX11_init 7 = .ok (.newarray .int, 2) := by decide +kernel
theorem dX11_init_9 : decode cX11_init 9 = .ok (.putfield 7, 3) := by decide +kernel
theorem dX11_init_12 : decode cX11_init 12 = .ok (.aload_n 0, 1) := by decide +kernel
theorem dX11_init_13 : decode cX11_init 13 = .ok (.bipush 31, 2) := by decide +kernel
theorem dX11_init_15 : decode cX11_init 15 = .ok (.newarray .int, 2) := by decide +kernel
theorem dX11_init_17 : decode cX11_init 17 = .ok (.putfield 13, 3) := by decide +kernel
theorem dX11_init_20 : decode cX11_init 20 = .ok (.aload_n 0, 1) := by decide +kernel
theorem dX11_init_21 : decode cX11_init 21 = .ok (.bipush 31, 2) := by decide +kernel
theorem dX11_init_23 : decode cX11_init 23 = .ok (.newarray .int, 2) := by decide +kernel
theorem dX11_init_25 : decode cX11_init 25 = .ok (.putfield 16, 3) := by decide +kernel
theorem dX11_init_28 : decode cX11_init 28 = .ok (.aload_n 0, 1) := by decide +kernel
theorem dX11_init_29 : decode cX11_init 29 = .ok (.bipush 72, 2) := by decide +kernel
theorem dX11_init_31 : decode cX11_init 31 = .ok (.newarray .int, 2) := by decide +kernel
theorem dX11_init_33 : decode cX11_init 33 = .ok (.putfield 19, 3) := by decide +kernel
theorem dX11_init_36 : decode cX11_init 36 = .ok (.aload_n 0, 1) := by decide +kernel
theorem dX11_init_37 : decode cX11_init 37 = .ok (.bipush 31, 2) := by decide +kernel
theorem dX11_init_39 : decode cX11_init 39 = .ok (.newarray .int, 2) := by decide +kernel
theorem dX11_init_41 : decode cX11_init 41 = .ok (.putfield 22, 3) := by decide +kernel
theorem dX11_init_44 : decode cX11_init 44 = .ok (.aload_n 0, 1) := by decide +kernel
theorem dX11_init_45 : decode cX11_init 45 = .ok (.bipush 72, 2) := by decide +kernel
theorem dX11_init_47 : decode cX11_init 47 = .ok (.newarray .int, 2) := by decide +kernel
theorem dX11_init_49 : decode cX11_init 49 = .ok (.putfield 25, 3) := by decide +kernel
theorem dX11_init_52 : decode cX11_init 52 = .ok (.aload_n 0, 1) := by decide +kernel
theorem dX11_init_53 : decode cX11_init 53 = .ok (.bipush 60, 2) := by decide +kernel
theorem dX11_init_55 : decode cX11_init 55 = .ok (.newarray .int, 2) := by decide +kernel
theorem dX11_init_57 : decode cX11_init 57 = .ok (.putfield 28, 3) := by decide +kernel
theorem dX11_init_60 : decode cX11_init 60 = .ok (.aload_n 0, 1) := by decide +kernel
theorem dX11_init_61 : decode cX11_init 61 = .ok (.iconst 4, 1) := by decide +kernel
theorem dX11_init_62 : decode cX11_init 62 = .ok (.newarray .boolean, 2) := by decide +kernel
theorem dX11_init_64 : decode cX11_init 64 = .ok (.putfield 31, 3) := by decide +kernel
theorem dX11_init_67 : decode cX11_init 67 = .ok (.aload_n 0, 1) := by decide +kernel
theorem dX11_init_68 : decode cX11_init 68 = .ok (.iconst 4, 1) := by decide +kernel
theorem dX11_init_69 : decode cX11_init 69 = .ok (.newarray .int, 2) := by decide +kernel
theorem dX11_init_71 : decode cX11_init 71 = .ok (.putfield 35, 3) := by decide +kernel
theorem dX11_init_74 : decode cX11_init 74 = .ok (.aload_n 0, 1) := by decide +kernel
theorem dX11_init_75 : decode cX11_init 75 = .ok (.iconst 4, 1) := by decide +kernel
theorem dX11_init_76 : decode cX11_init 76 = .ok (.newarray .int, 2) := by decide +kernel
theorem dX11_init_78 : decode cX11_init 78 = .ok (.putfield 38, 3) := by decide +kernel
theorem dX11_init_81 : decode cX11_init 81 = .ok (.aload_n 0, 1) := by decide +kernel
theorem dX11_init_82 : decode cX11_init 82 = .ok (.bipush 96, 2) := by decide +kernel
theorem dX11_init_84 : decode cX11_init 84 = .ok (.newarray .long, 2) := by decide +kernel
theorem dX11_init_86 : decode cX11_init 86 = .ok (.putfield 41, 3) := by decide +kernel
theorem dX11_init_89 : decode cX11_init 89 = .ok (.aload_n 0, 1) := by decide +kernel
theorem dX11_init_90 : decode cX11_init 90 = .ok (.bipush 24, 2) := by decide +kernel
theorem dX11_init_92 : decode cX11_init 92 = .ok (.newarray .long, 2) := by decide +kernel
theorem dX11_init_94 : decode cX11_init 94 = .ok (.putfield 45, 3) := by decide +kernel
theorem dX11_init_97 : decode cX11_init 97 = .ok (.aload_n 0, 1) := by decide +kernel
theorem dX11_init_98 : decode cX11_init 98 = .ok (.getfield 7, 3) := by decide +kernel
theorem dX11_init_101 : decode cX11_init 101 = .ok (.iconst 1, 1) := by decide +kernel
theorem dX11_init_102 : decode cX11_init 102 = .ok (.sipush 4000, 3) := by decide +kernel
theorem dX11_init_105 : decode cX11_init 105 = .ok (.iastore, 1) := by decide +kernel
theorem dX11_init_106 : decode cX11_init 106 = .ok (.aload_n 0, 1) := by decide +kernel
theorem dX11_init_107 : decode cX11_init 107 = .ok (.getfield 7, 3) := by decide +kernel
theorem dX11_init_110 : decode cX11_init 110 = .ok (.iconst 2, 1) := by decide +kernel
theorem dX11_init_111 : decode cX11_init 111 = .ok (.bipush 20, 2) := by decide +kernel
theorem dX11_init_113 : decode cX11_init 113 = .ok (.iastore, 1) := by decide +kernel
theorem dX11_init_114 : decode cX11_init 114 = .ok (.aload_n 0, 1) := by decide +kernel
theorem dX11_init_115 : decode cX11_init 115 = .ok (.getfield 7, 3) := by decide +kernel
theorem dX11_init_118 : decode cX11_init 118 = .ok (.iconst 3, 1) := by decide +kernel
theorem dX11_init_119 : decode cX11_init 119 = .ok (.iconst 3, 1) := by decide +kernel
theorem dX11_init_120 : decode cX11_init 120 = .ok (.iastore, 1) := by decide +kernel
theorem dX11_init_121 : decode cX11_init 121 = .ok (.aload_n 0, 1) := by decide +kernel
theorem dX11_init_122 : decode cX11_init 122 = .ok (.getfield 7, 3) := by decide +kernel
theorem dX11_init_125 : decode cX11_init 125 = .ok (.iconst 5, 1) := by decide +kernel
theorem dX11_init_126 : decode cX11_init 126 = .ok (.iconst 1, 1) := by decide +kernel
theorem dX11_init_127 : decode cX11_init 127 = .ok (.iastore, 1) := by decide +kernel
theorem dX11_init_128 : decode cX11_init 128 = .ok (.return_, 1) := by decide +kernel
theorem dX11_in_0 : decode cX11_in 0 = .ok (.lload_n 0, 1) := by decide +kernel
theorem dX11_in_1 : decode cX11_in 1 = .ok (.lload_n 2, 1) := by decide +kernel
theorem dX11_in_2 : decode cX11_in 2 = .ok (.lcmp, 1) := by decide +kernel
theorem dX11_in_3 : decode cX11_in 3 = .ok (.ifCond .lt 14, 3) := by decide +kernel
theorem dX11_in_6 : decode cX11_in 6 = .ok (.lload_n 0, 1) := by decide +kernel
theorem dX11_in_7 : decode cX11_in 7 = .ok (.lload 4, 2) := by decide +kernel
theorem dX11_in_9 : decode cX11_in 9 = .ok (.lcmp, 1) := by decide +kernel
theorem dX11_in_10 : decode cX11_in 10 = .ok (.ifCond .gt 7, 3) := by decide +kernel
theorem dX11_in_13 : decode cX11_in 13 = .ok (.iconst 1, 1) := by decide +kernel
theorem dX11_in_14 : decode cX11_in 14 = .ok (.goto 4, 3) := by decide +kernel
theorem dX11_in_17 : decode cX11_in 17 = .ok (.iconst 0, 1) := by decide +kernel
theorem dX11_in_18 : decode cX11_in 18 = .ok (.ireturn, 1) := by decide +kernel
theorem dX11_lay_0 : decode cX11_lay 0 = .ok (.iconst 0, 1) := by decide +kernel
theorem dX11_lay_1 : decode cX11_lay 1 = .ok (.istore_n 2, 1) := by decide +kernel
theorem dX11_lay_2 : decode cX11_lay 2 = .ok (.iload_n 2, 1) := by decide +kernel
theorem dX11_lay_3 : decode cX11_lay 3 = .ok (.bipush 31, 2) := by decide +kernel
theorem dX11_lay_5 : decode cX11_lay 5 = .ok (.if_icmp .ge 15, 3) := by decide +kernel
theorem dX11_lay_8 : decode cX11_lay 8 = .ok (.aload_n 1, 1) := by decide +kernel
theorem dX11_lay_9 : decode cX11_lay 9 = .ok (.iload_n 2, 1) := by decide +kernel
theorem dX11_lay_10 : decode cX11_lay 10 = .ok (.aload_n 0, 1) := by decide +kernel
theorem dX11_lay_11 : decode cX11_lay 11 = .ok (.iload_n 2, 1) := by decide +kernel
theorem dX11_lay_12 : decode cX11_lay 12 = .ok (.iaload, 1) := by decide +kernel
theorem dX11_lay_13 : decode cX11_lay 13 = .ok (.iastore, 1) := by decide +kernel
theorem dX11_lay_14 : decode cX11_lay 14 = .ok (.iinc 2 1, 3) := by decide +kernel
theorem dX11_lay_17 : decode cX11_lay 17 = .ok (.goto (-15), 3) := by decide +kernel
theorem dX11_lay_20 : decode cX11_lay 20 = .ok (.return_, 1) := by decide +kernel
theorem dX11_isPerson_0 : decode cX11_isPerson 0 = .ok (.iload_n 1, 1) := by decide +kernel
theorem dX11_isPerson_1 : decode cX11_isPerson 1 = .ok (.i2l, 1) := by decide +kernel
theorem dX11_isPerson_2 : decode cX11_isPerson 2 = .ok (.lconst 0, 1) := by decide +kernel
theorem dX11_isPerson_3 : decode cX11_isPerson 3 = .ok (.aload_n 0, 1) := by decide +kernel
theorem dX11_isPerson_4 : decode cX11_isPerson 4 = .ok (.getfield 7, 3) := by decide +kernel
theorem dX11_isPerson_7 : decode cX11_isPerson 7 = .ok (.bipush 6, 2) := by decide +kernel
theorem dX11_isPerson_9 : decode cX11_isPerson 9 = .ok (.iaload, 1) := by decide +kernel
theorem dX11_isPerson_10 : decode cX11_isPerson 10 = .ok (.iconst 1, 1) := by decide +kernel
theorem dX11_isPerson_11 : decode cX11_isPerson 11 = .ok (.isub, 1) := by decide +kernel
theorem dX11_isPerson_12 : decode cX11_isPerson 12 = .ok (.i2l, 1) := by decide +kernel
theorem dX11_isPerson_13 : decode cX11_isPerson 13 = .ok (.invokestatic 52, 3) := by decide +kernel
theorem dX11_isPerson_16 : decode cX11_isPerson 16 = .ok (.ireturn, 1) := by decide +kernel
theorem dX11_its_0 : decode cX11_its 0 = .ok (.aload_n 0, 1) := by decide +kernel
theorem dX11_its_1 : decode cX11_its 1 = .ok (.bipush 7, 2) := by decide +kernel
theorem dX11_its_3 : decode cX11_its 3 = .ok (.iconst 4, 1) := by decide +kernel
theorem dX11_its_4 : decode cX11_its 4 = .ok (.iload_n 1, 1) := by decide +kernel
theorem dX11_its_5 : decode cX11_its 5 = .ok (.imul, 1) := by decide +kernel
theorem dX11_its_6 : decode cX11_its 6 = .ok (.iadd, 1) := by decide +kernel
theorem dX11_its_7 : decode cX11_its 7 = .ok (.iload_n 2, 1) := by decide +kernel
theorem dX11_its_8 : decode cX11_its 8 = .ok (.iadd, 1) := by decide +kernel
theorem dX11_its_9 : decode cX11_its 9 = .ok (.iaload, 1) := by decide +kernel
theorem dX11_its_10 : decode cX11_its 10 = .ok (.ireturn, 1) := by decide +kernel
theorem dX11_hoping_0 : decode cX11_hoping 0 = .ok (.iconst 0, 1) := by decide +kernel
theorem dX11_hoping_1 : decode cX11_hoping 1 = .ok (.istore_n 1, 1) := by decide +kernel
theorem dX11_hoping_2 : decode cX11_hoping 2 = .ok (.iconst 0, 1) := by decide +kernel
theorem dX11_hoping_3 : decode cX11_hoping 3 = .ok (.istore_n 2, 1) := by decide +kernel
theorem dX11_hoping_4 : decode cX11_hoping 4 = .ok (.iload_n 2, 1) := by decide +kernel
theorem dX11_hoping_5 : decode cX11_hoping 5 = .ok (.aload_n 0, 1) := by decide +kernel
theorem dX11_hoping_6 : decode cX11_hoping 6 = .ok (.bipush 6, 2) := by decide +kernel
theorem dX11_hoping_8 : decode cX11_hoping 8 = .ok (.iaload, 1) := by decide +kernel
theorem dX11_hoping_9 : decode cX11_hoping 9 = .ok (.if_icmp .ge 39, 3) := by decide +kernel
theorem dX11_hoping_12 : decode cX11_hoping 12 = .ok (.iload_n 1, 1) := by decide +kernel
theorem dX11_hoping_13 : decode cX11_hoping 13 = .ok (.aload_n 0, 1) := by decide +kernel
theorem dX11_hoping_14 : decode cX11_hoping 14 = .ok (.iload_n 2, 1) := by decide +kernel
theorem dX11_hoping_15 : decode cX11_hoping 15 = .ok (.iconst 0, 1) := by decide +kernel
theorem dX11_hoping_16 : decode cX11_hoping 16 = .ok (.invokestatic 56, 3) := by decide +kernel
theorem dX11_hoping_19 : decode cX11_hoping 19 = .ok (.iconst 5, 1) := by decide +kernel
theorem dX11_hoping_20 : decode cX11_hoping 20 = .ok (.if_icmp .ne 19, 3) := by decide +kernel
theorem dX11_hoping_23 : decode cX11_hoping 23 = .ok (.aload_n 0, 1) := by decide +kernel
theorem dX11_hoping_24 : decode cX11_hoping 24 = .ok (.iload_n 2, 1) := by decide +kernel
theorem dX11_hoping_25 : decode cX11_hoping 25 = .ok (.iconst 3, 1) := by decide +kernel
theorem dX11_hoping_26 : decode cX11_hoping 26 = .ok (.invokestatic 56, 3) := by decide +kernel
theorem dX11_hoping_29 : decode cX11_hoping 29 = .ok (.iconst 1, 1) := by decide +kernel
theorem dX11_hoping_30 : decode cX11_hoping 30 = .ok (.if_icmp .ne 9, 3) := by decide +kernel
theorem dX11_hoping_33 : decode cX11_hoping 33 = .ok (.iconst 1, 1) := by decide +kernel
theorem dX11_hoping_34 : decode cX11_hoping 34 = .ok (.iload_n 2, 1) := by decide +kernel
theorem dX11_hoping_35 : decode cX11_hoping 35 = .ok (.ishl, 1) := by decide +kernel
theorem dX11_hoping_36 : decode cX11_hoping 36 = .ok (.goto 4, 3) := by decide +kernel
theorem dX11_hoping_39 : decode cX11_hoping 39 = .ok (.iconst 0, 1) := by decide +kernel
theorem dX11_hoping_40 : decode cX11_hoping 40 = .ok (.ior, 1) := by decide +kernel
theorem dX11_hoping_41 : decode cX11_hoping 41 = .ok (.istore_n 1, 1) := by decide +kernel
theorem dX11_hoping_42 : decode cX11_hoping 42 = .ok (.iinc 2 1, 3) := by decide +kernel
theorem dX11_hoping_45 : decode cX11_hoping 45 = .ok (.goto (-41), 3) := by decide +kernel
theorem dX11_hoping_48 : decode cX11_hoping 48 = .ok (.iload_n 1, 1) := by decide +kernel
theorem dX11_hoping_49 : decode cX11_hoping 49 = .ok (.ireturn, 1) := by decide +kernel
theorem dX11_bits_0 : decode cX11_bits 0 = .ok (.iconst 0, 1) := by decide +kernel
theorem dX11_bits_1 : decode cX11_bits 1 = .ok (.istore_n 1, 1) := by decide +kernel
theorem dX11_bits_2 : decode cX11_bits 2 = .ok (.iconst 0, 1) := by decide +kernel
theorem dX11_bits_3 : decode cX11_bits 3 = .ok (.istore_n 2, 1) := by decide +kernel
theorem dX11_bits_4 : decode cX11_bits 4 = .ok (.iload_n 2, 1) := by decide +kernel
theorem dX11_bits_5 : decode cX11_bits 5 = .ok (.bipush 6, 2) := by decide +kernel
theorem dX11_bits_7 : decode cX11_bits 7 = .ok (.if_icmp .ge 17, 3) := by decide +kernel
theorem dX11_bits_10 : decode cX11_bits 10 = .ok (.iload_n 1, 1) := by decide +kernel
theorem dX11_bits_11 : decode cX11_bits 11 = .ok (.iload_n 0, 1) := by decide +kernel
theorem dX11_bits_12 : decode cX11_bits 12 = .ok (.iload_n 2, 1) := by decide +kernel
theorem dX11_bits_13 : decode cX11_bits 13 = .ok (.ishr, 1) := by decide +kernel
theorem dX11_bits_14 : decode cX11_bits 14 = .ok (.iconst 1, 1) := by decide +kernel
theorem dX11_bits_15 : decode cX11_bits 15 = .ok (.iand, 1) := by decide +kernel
theorem dX11_bits_16 : decode cX11_bits 16 = .ok (.iadd, 1) := by decide +kernel
theorem dX11_bits_17 : decode cX11_bits 17 = .ok (.istore_n 1, 1) := by decide +kernel
theorem dX11_bits_18 : decode cX11_bits 18 = .ok (.iinc 2 1, 3) := by decide +kernel
theorem dX11_bits_21 : decode cX11_bits 21 = .ok (.goto (-17), 3) := by decide +kernel
theorem dX11_bits_24 : decode cX11_bits 24 = .ok (.iload_n 1, 1) := by decide +kernel
theorem dX11_bits_25 : decode cX11_bits 25 = .ok (.ireturn, 1) := by decide +kernel
theorem dX11_mishapsOf_0 : decode cX11_mishapsOf 0 = .ok (.aload_n 0, 1) := by decide +kernel
theorem dX11_mishapsOf_1 : decode cX11_mishapsOf 1 = .ok (.iconst 3, 1) := by decide +kernel
theorem dX11_mishapsOf_2 : decode cX11_mishapsOf 2 = .ok (.iaload, 1) := by decide +kernel
theorem dX11_mishapsOf_3 : decode cX11_mishapsOf 3 = .ok (.iload_n 1, 1) := by decide +kernel
theorem dX11_mishapsOf_4 : decode cX11_mishapsOf 4 = .ok (.iadd, 1) := by decide +kernel
theorem dX11_mishapsOf_5 : decode cX11_mishapsOf 5 = .ok (.aload_n 0, 1) := by decide +kernel
theorem dX11_mishapsOf_6 : decode cX11_mishapsOf 6 = .ok (.iconst 0, 1) := by decide +kernel
theorem dX11_mishapsOf_7 : decode cX11_mishapsOf 7 = .ok (.iaload, 1) := by decide +kernel
theorem dX11_mishapsOf_8 : decode cX11_mishapsOf 8 = .ok (.aload_n 0, 1) := by decide +kernel
theorem dX11_mishapsOf_9 : decode cX11_mishapsOf 9 = .ok (.iconst 1, 1) := by decide +kernel
theorem dX11_mishapsOf_10 : decode cX11_mishapsOf 10 = .ok (.iaload, 1) := by decide +kernel
theorem dX11_mishapsOf_11 : decode cX11_mishapsOf 11 = .ok (.if_icmp .ge 13, 3) := by decide +kernel
theorem dX11_mishapsOf_14 : decode cX11_mishapsOf 14 = .ok (.aload_n 0, 1) := by decide +kernel
theorem dX11_mishapsOf_15 : decode cX11_mishapsOf 15 = .ok (.invokestatic 60, 3) := by decide +kernel
theorem dX11_mishapsOf_18 : decode cX11_mishapsOf 18 = .ok (.invokestatic 64, 3) := by decide +kernel
theorem dX11_mishapsOf_21 : decode cX11_mishapsOf 21 = .ok (.goto 4, 3) := by decide +kernel
theorem dX11_mishapsOf_24 : decode cX11_mishapsOf 24 = .ok (.iconst 0, 1) := by decide +kernel
theorem dX11_mishapsOf_25 : decode cX11_mishapsOf 25 = .ok (.iadd, 1) := by decide +kernel
theorem dX11_mishapsOf_26 : decode cX11_mishapsOf 26 = .ok (.ireturn, 1) := by decide +kernel
theorem dX11_wordsOf_0 : decode cX11_wordsOf 0 = .ok (.iload_n 2, 1) := by decide +kernel
theorem dX11_wordsOf_1 : decode cX11_wordsOf 1 = .ok (.aload_n 0, 1) := by decide +kernel
theorem dX11_wordsOf_2 : decode cX11_wordsOf 2 = .ok (.iload_n 1, 1) := by decide +kernel
theorem dX11_wordsOf_3 : decode cX11_wordsOf 3 = .ok (.iconst 1, 1) := by decide +kernel
theorem dX11_wordsOf_4 : decode cX11_wordsOf 4 = .ok (.invokestatic 56, 3) := by decide +kernel
theorem dX11_wordsOf_7 : decode cX11_wordsOf 7 = .ok (.imul, 1) := by decide +kernel
theorem dX11_wordsOf_8 : decode cX11_wordsOf 8 = .ok (.aload_n 0, 1) := by decide +kernel
theorem dX11_wordsOf_9 : decode cX11_wordsOf 9 = .ok (.iload_n 1, 1) := by decide +kernel
theorem dX11_wordsOf_10 : decode cX11_wordsOf 10 = .ok (.iconst 2, 1) := by decide +kernel
theorem dX11_wordsOf_11 : decode cX11_wordsOf 11 = .ok (.invokestatic 56, 3) := by decide +kernel
theorem dX11_wordsOf_14 : decode cX11_wordsOf 14 = .ok (.imul, 1) := by decide +kernel
theorem dX11_wordsOf_15 : decode cX11_wordsOf 15 = .ok (.aload_n 0, 1) := by decide +kernel
theorem dX11_wordsOf_16 : decode cX11_wordsOf 16 = .ok (.iconst 2, 1) := by decide +kernel
theorem dX11_wordsOf_17 : decode cX11_wordsOf 17 = .ok (.iaload, 1) := by decide +kernel
theorem dX11_wordsOf_18 : decode cX11_wordsOf 18 = .ok (.bipush 20, 2) := by decide +kernel
theorem dX11_wordsOf_20 : decode cX11_wordsOf 20 = .ok (.iadd, 1) := by decide +kernel
theorem dX11_wordsOf_21 : decode cX11_wordsOf 21 = .ok (.idiv, 1) := by decide +kernel
theorem dX11_wordsOf_22 : decode cX11_wordsOf 22 = .ok (.istore_n 3, 1) := by decide +kernel
theorem dX11_wordsOf_23 : decode cX11_wordsOf 23 = .ok (.iload_n 3, 1) := by decide +kernel
theorem dX11_wordsOf_24 : decode cX11_wordsOf 24 = .ok (.bipush 99, 2) := by decide +kernel
theorem dX11_wordsOf_26 : decode cX11_wordsOf 26 = .ok (.if_icmp .le 8, 3) := by decide +kernel
theorem dX11_wordsOf_29 : decode cX11_wordsOf 29 = .ok (.bipush 99, 2) := by decide +kernel
theorem dX11_wordsOf_31 : decode cX11_wordsOf 31 = .ok (.goto 4, 3) := by decide +kernel
theorem dX11_wordsOf_34 : decode cX11_wordsOf 34 = .ok (.iload_n 3, 1) := by decide +kernel
theorem dX11_wordsOf_35 : decode cX11_wordsOf 35 = .ok (.istore_n 3, 1) := by decide +kernel
theorem dX11_wordsOf_36 : decode cX11_wordsOf 36 = .ok (.aload_n 0, 1) := by decide +kernel
theorem dX11_wordsOf_37 : decode cX11_wordsOf 37 = .ok (.iload_n 1, 1) := by decide +kernel
theorem dX11_wordsOf_38 : decode cX11_wordsOf 38 = .ok (.iconst 0, 1) := by decide +kernel
theorem dX11_wordsOf_39 : decode cX11_wordsOf 39 = .ok (.invokestatic 56, 3) := by decide +kernel
theorem dX11_wordsOf_42 : decode cX11_wordsOf 42 = .ok (.tableswitch 69 1 5 #[34, 69, 69, 51, 67], 34) := by decide +kernel
theorem dX11_wordsOf_76 : decode cX11_wordsOf 76 = .ok (.iconst 2, 1) := by decide +kernel
theorem dX11_wordsOf_77 : decode cX11_wordsOf 77 = .ok (.iload_n 3, 1) := by decide +kernel
theorem dX11_wordsOf_78 : decode cX11_wordsOf 78 = .ok (.imul, 1) := by decide +kernel
theorem dX11_wordsOf_79 : decode cX11_wordsOf 79 = .ok (.bipush 99, 2) := by decide +kernel
theorem dX11_wordsOf_81 : decode cX11_wordsOf 81 = .ok (.if_icmp .le 8, 3) := by decide +kernel
theorem dX11_wordsOf_84 : decode cX11_wordsOf 84 = .ok (.bipush 99, 2) := by decide +kernel
theorem dX11_wordsOf_86 : decode cX11_wordsOf 86 = .ok (.goto 6, 3) := by decide +kernel
theorem dX11_wordsOf_89 : decode cX11_wordsOf 89 = .ok (.iconst 2, 1) := by decide +kernel
theorem dX11_wordsOf_90 : decode cX11_wordsOf 90 = .ok (.iload_n 3, 1) := by decide +kernel
theorem dX11_wordsOf_91 : decode cX11_wordsOf 91 = .ok (.imul, 1) := by decide +kernel
theorem dX11_wordsOf_92 : decode cX11_wordsOf 92 = .ok (.ireturn, 1) := by decide +kernel
theorem dX11_wordsOf_93 : decode cX11_wordsOf 93 = .ok (.aload_n 0, 1) := by decide +kernel
theorem dX11_wordsOf_94 : decode cX11_wordsOf 94 = .ok (.iconst 4, 1) := by decide +kernel
theorem dX11_wordsOf_95 : decode cX11_wordsOf 95 = .ok (.iaload, 1) := by decide +kernel
theorem dX11_wordsOf_96 : decode cX11_wordsOf 96 = .ok (.bipush 20, 2) := by decide +kernel
theorem dX11_wordsOf_98 : decode cX11_wordsOf 98 = .ok (.irem, 1) := by decide +kernel
theorem dX11_wordsOf_99 : decode cX11_wordsOf 99 = .ok (.ifCond .ne 8, 3) := by decide +kernel
theorem dX11_wordsOf_102 : decode cX11_wordsOf 102 = .ok (.bipush 50, 2) := by decide +kernel
theorem dX11_wordsOf_104 : decode cX11_wordsOf 104 = .ok (.goto 4, 3) := by decide +kernel
theorem dX11_wordsOf_107 : decode cX11_wordsOf 107 = .ok (.iconst 0, 1) := by decide +kernel
theorem dX11_wordsOf_108 : decode cX11_wordsOf 108 = .ok (.ireturn, 1) := by decide +kernel
theorem dX11_wordsOf_109 : decode cX11_wordsOf 109 = .ok (.iconst 0, 1) := by decide +kernel
theorem dX11_wordsOf_110 : decode cX11_wordsOf 110 = .ok (.ireturn, 1) := by decide +kernel
theorem dX11_wordsOf_111 : decode cX11_wordsOf 111 = .ok (.iload_n 3, 1) := by decide +kernel
theorem dX11_wordsOf_112 : decode cX11_wordsOf 112 = .ok (.ireturn, 1) := by decide +kernel
theorem dX11_paysOf_0 : decode cX11_paysOf 0 = .ok (.aload_n 0, 1) := by decide +kernel
theorem dX11_paysOf_1 : decode cX11_paysOf 1 = .ok (.iload_n 1, 1) := by decide +kernel
theorem dX11_paysOf_2 : decode cX11_paysOf 2 = .ok (.iload_n 2, 1) := by decide +kernel
theorem dX11_paysOf_3 : decode cX11_paysOf 3 = .ok (.invokestatic 68, 3) := by decide +kernel
theorem dX11_paysOf_6 : decode cX11_paysOf 6 = .ok (.aload_n 0, 1) := by decide +kernel
theorem dX11_paysOf_7 : decode cX11_paysOf 7 = .ok (.iconst 2, 1) := by decide +kernel
theorem dX11_paysOf_8 : decode cX11_paysOf 8 = .ok (.iaload, 1) := by decide +kernel
theorem dX11_paysOf_9 : decode cX11_paysOf 9 = .ok (.imul, 1) := by decide +kernel
theorem dX11_paysOf_10 : decode cX11_paysOf 10 = .ok (.istore_n 3, 1) := by decide +kernel
theorem dX11_paysOf_11 : decode cX11_paysOf 11 = .ok (.aload_n 0, 1) := by decide +kernel
theorem dX11_paysOf_12 : decode cX11_paysOf 12 = .ok (.iload_n 1, 1) := by decide +kernel
theorem dX11_paysOf_13 : decode cX11_paysOf 13 = .ok (.iconst 0, 1) := by decide +kernel
theorem dX11_paysOf_14 : decode cX11_paysOf 14 = .ok (.invokestatic 56, 3) := by decide +kernel
theorem dX11_paysOf_17 : decode cX11_paysOf 17 = .ok (.tableswitch 46 1 4 #[31, 38, 42, 42], 31) := by decide +kernel
theorem dX11_paysOf_48 : decode cX11_paysOf 48 = .ok (.bipush 10, 2) := by decide +kernel
theorem dX11_paysOf_50 : decode cX11_paysOf 50 = .ok (.aload_n 0, 1) := by decide +kernel
theorem dX11_paysOf_51 : decode cX11_paysOf 51 = .ok (.iconst 2, 1) := by decide +kernel
theorem dX11_paysOf_52 : decode cX11_paysOf 52 = .ok (.iaload, 1) := by decide +kernel
theorem dX11_paysOf_53 : decode cX11_paysOf 53 = .ok (.imul, 1) := by decide +kernel
theorem dX11_paysOf_54 : decode cX11_paysOf 54 = .ok (.ireturn, 1) := by decide +kernel
theorem dX11_paysOf_55 : decode cX11_paysOf 55 = .ok (.iconst 2, 1) := by decide +kernel
theorem dX11_paysOf_56 : decode cX11_paysOf 56 = .ok (.iload_n 3, 1) := by decide +kernel
theorem dX11_paysOf_57 : decode cX11_paysOf 57 = .ok (.imul, 1) := by decide +kernel
theorem dX11_paysOf_58 : decode cX11_paysOf 58 = .ok (.ireturn, 1) := by decide +kernel
theorem dX11_paysOf_59 : decode cX11_paysOf 59 = .ok (.iload_n 3, 1) := by decide +kernel
theorem dX11_paysOf_60 : decode cX11_paysOf 60 = .ok (.iconst 2, 1) := by decide +kernel
theorem dX11_paysOf_61 : decode cX11_paysOf 61 = .ok (.idiv, 1) := by decide +kernel
theorem dX11_paysOf_62 : decode cX11_paysOf 62 = .ok (.ireturn, 1) := by decide +kernel
theorem dX11_paysOf_63 : decode cX11_paysOf 63 = .ok (.iload_n 3, 1) := by decide +kernel
theorem dX11_paysOf_64 : decode cX11_paysOf 64 = .ok (.ireturn, 1) := by decide +kernel
theorem dX11_habitThen_0 : decode cX11_habitThen 0 = .ok (.aload_n 0, 1) := by decide +kernel
theorem dX11_habitThen_1 : decode cX11_habitThen 1 = .ok (.iload_n 1, 1) := by decide +kernel
theorem dX11_habitThen_2 : decode cX11_habitThen 2 = .ok (.iconst 2, 1) := by decide +kernel
theorem dX11_habitThen_3 : decode cX11_habitThen 3 = .ok (.invokestatic 56, 3) := by decide +kernel
theorem dX11_habitThen_6 : decode cX11_habitThen 6 = .ok (.istore_n 3, 1) := by decide +kernel
theorem dX11_habitThen_7 : decode cX11_habitThen 7 = .ok (.aload_n 0, 1) := by decide +kernel
theorem dX11_habitThen_8 : decode cX11_habitThen 8 = .ok (.iload_n 1, 1) := by decide +kernel
theorem dX11_habitThen_9 : decode cX11_habitThen 9 = .ok (.iload_n 2, 1) := by decide +kernel
theorem dX11_habitThen_10 : decode cX11_habitThen 10 = .ok (.invokestatic 71, 3) := by decide +kernel
theorem dX11_habitThen_13 : decode cX11_habitThen 13 = .ok (.istore 4, 2) := by decide +kernel
theorem dX11_habitThen_15 : decode cX11_habitThen 15 = .ok (.aload_n 0, 1) := by decide +kernel
theorem dX11_habitThen_16 : decode cX11_habitThen 16 = .ok (.iload_n 1, 1) := by decide +kernel
theorem dX11_habitThen_17 : decode cX11_habitThen 17 = .ok (.iconst 0, 1) := by decide +kernel
theorem dX11_habitThen_18 : decode cX11_habitThen 18 = .ok (.invokestatic 56, 3) := by decide +kernel
theorem dX11_habitThen_21 : decode cX11_habitThen 21 = .ok (.iconst 1, 1) := by decide +kernel
theorem dX11_habitThen_22 : decode cX11_habitThen 22 = .ok (.if_icmp .eq 10, 3) := by decide +kernel
theorem dX11_habitThen_25 : decode cX11_habitThen 25 = .ok (.iload 4, 2) := by decide +kernel
theorem dX11_habitThen_27 : decode cX11_habitThen 27 = .ok (.bipush 100, 2) := by decide +kernel
theorem dX11_habitThen_29 : decode cX11_habitThen 29 = .ok (.if_icmp .ge 18, 3) := by decide +kernel
theorem dX11_habitThen_32 : decode cX11_habitThen 32 = .ok (.iload_n 3, 1) := by decide +kernel
theorem dX11_habitThen_33 : decode cX11_habitThen 33 = .ok (.bipush 99, 2) := by decide +kernel
theorem dX11_habitThen_35 : decode cX11_habitThen 35 = .ok (.if_icmp .ge 9, 3) := by decide +kernel
theorem dX11_habitThen_38 : decode cX11_habitThen 38 = .ok (.iload_n 3, 1) := by decide +kernel
theorem dX11_habitThen_39 : decode cX11_habitThen 39 = .ok (.iconst 1, 1) := by decide +kernel
theorem dX11_habitThen_40 : decode cX11_habitThen 40 = .ok (.iadd, 1) := by decide +kernel
theorem dX11_habitThen_41 : decode cX11_habitThen 41 = .ok (.goto 5, 3) := by decide +kernel
theorem dX11_habitThen_44 : decode cX11_habitThen 44 = .ok (.bipush 99, 2) := by decide +kernel
theorem dX11_habitThen_46 : decode cX11_habitThen 46 = .ok (.ireturn, 1) := by decide +kernel
theorem dX11_habitThen_47 : decode cX11_habitThen 47 = .ok (.iload 4, 2) := by decide +kernel
theorem dX11_habitThen_49 : decode cX11_habitThen 49 = .ok (.bipush 100, 2) := by decide +kernel
theorem dX11_habitThen_51 : decode cX11_habitThen 51 = .ok (.idiv, 1) := by decide +kernel
theorem dX11_habitThen_52 : decode cX11_habitThen 52 = .ok (.bipush 9, 2) := by decide +kernel
theorem dX11_habitThen_54 : decode cX11_habitThen 54 = .ok (.if_icmp .le 8, 3) := by decide +kernel
theorem dX11_habitThen_57 : decode cX11_habitThen 57 = .ok (.bipush 9, 2) := by decide +kernel
theorem dX11_habitThen_59 : decode cX11_habitThen 59 = .ok (.goto 8, 3) := by decide +kernel
theorem dX11_habitThen_62 : decode cX11_habitThen 62 = .ok (.iload 4, 2) := by decide +kernel
theorem dX11_habitThen_64 : decode cX11_habitThen 64 = .ok (.bipush 100, 2) := by decide +kernel
theorem dX11_habitThen_66 : decode cX11_habitThen 66 = .ok (.idiv, 1) := by decide +kernel
theorem dX11_habitThen_67 : decode cX11_habitThen 67 = .ok (.istore 5, 2) := by decide +kernel
theorem dX11_habitThen_69 : decode cX11_habitThen 69 = .ok (.iload_n 3, 1) := by decide +kernel
theorem dX11_habitThen_70 : decode cX11_habitThen 70 = .ok (.iload 5, 2) := by decide +kernel
theorem dX11_habitThen_72 : decode cX11_habitThen 72 = .ok (.if_icmp .le 10, 3) := by decide +kernel
theorem dX11_habitThen_75 : decode cX11_habitThen 75 = .ok (.iload_n 3, 1) := by decide +kernel
theorem dX11_habitThen_76 : decode cX11_habitThen 76 = .ok (.iload 5, 2) := by decide +kernel
theorem dX11_habitThen_78 : decode cX11_habitThen 78 = .ok (.isub, 1) := by decide +kernel
theorem dX11_habitThen_79 : decode cX11_habitThen 79 = .ok (.goto 4, 3) := by decide +kernel
theorem dX11_habitThen_82 : decode cX11_habitThen 82 = .ok (.iconst 0, 1) := by decide +kernel
theorem dX11_habitThen_83 : decode cX11_habitThen 83 = .ok (.ireturn, 1) := by decide +kernel
theorem dX11_allWords_0 : decode cX11_allWords 0 = .ok (.iconst 0, 1) := by decide +kernel
theorem dX11_allWords_1 : decode cX11_allWords 1 = .ok (.istore_n 2, 1) := by decide +kernel
theorem dX11_allWords_2 : decode cX11_allWords 2 = .ok (.iconst 0, 1) := by decide +kernel
theorem dX11_allWords_3 : decode cX11_allWords 3 = .ok (.istore_n 3, 1) := by decide +kernel
theorem dX11_allWords_4 : decode cX11_allWords 4 = .ok (.iload_n 3, 1) := by decide +kernel
theorem dX11_allWords_5 : decode cX11_allWords 5 = .ok (.aload_n 0, 1) := by decide +kernel
theorem dX11_allWords_6 : decode cX11_allWords 6 = .ok (.bipush 6, 2) := by decide +kernel
theorem dX11_allWords_8 : decode cX11_allWords 8 = .ok (.iaload, 1) := by decide +kernel
theorem dX11_allWords_9 : decode cX11_allWords 9 = .ok (.if_icmp .ge 18, 3) := by decide +kernel
theorem dX11_allWords_12 : decode cX11_allWords 12 = .ok (.iload_n 2, 1) := by decide +kernel
theorem dX11_allWords_13 : decode cX11_allWords 13 = .ok (.aload_n 0, 1) := by decide +kernel
theorem dX11_allWords_14 : decode cX11_allWords 14 = .ok (.iload_n 3, 1) := by decide +kernel
theorem dX11_allWords_15 : decode cX11_allWords 15 = .ok (.iload_n 1, 1) := by decide +kernel
theorem dX11_allWords_16 : decode cX11_allWords 16 = .ok (.invokestatic 68, 3) := by decide +kernel
theorem dX11_allWords_19 : decode cX11_allWords 19 = .ok (.iadd, 1) := by decide +kernel
theorem dX11_allWords_20 : decode cX11_allWords 20 = .ok (.istore_n 2, 1) := by decide +kernel
theorem dX11_allWords_21 : decode cX11_allWords 21 = .ok (.iinc 3 1, 3) := by decide +kernel
theorem dX11_allWords_24 : decode cX11_allWords 24 = .ok (.goto (-20), 3) := by decide +kernel
theorem dX11_allWords_27 : decode cX11_allWords 27 = .ok (.iload_n 2, 1) := by decide +kernel
theorem dX11_allWords_28 : decode cX11_allWords 28 = .ok (.ireturn, 1) := by decide +kernel
theorem dX11_allPay_0 : decode cX11_allPay 0 = .ok (.iconst 0, 1) := by decide +kernel
theorem dX11_allPay_1 : decode cX11_allPay 1 = .ok (.istore_n 2, 1) := by decide +kernel
theorem dX11_allPay_2 : decode cX11_allPay 2 = .ok (.iconst 0, 1) := by decide +kernel
theorem dX11_allPay_3 : decode cX11_allPay 3 = .ok (.istore_n 3, 1) := by decide +kernel
theorem dX11_allPay_4 : decode cX11_allPay 4 = .ok (.iload_n 3, 1) := by decide +kernel
theorem dX11_allPay_5 : decode cX11_allPay 5 = .ok (.aload_n 0, 1) := by decide +kernel
theorem dX11_allPay_6 : decode cX11_allPay 6 = .ok (.bipush 6, 2) := by decide +kernel
theorem dX11_allPay_8 : decode cX11_allPay 8 = .ok (.iaload, 1) := by decide +kernel
theorem dX11_allPay_9 : decode cX11_allPay 9 = .ok (.if_icmp .ge 18, 3) := by decide +kernel
theorem dX11_allPay_12 : decode cX11_allPay 12 = .ok (.iload_n 2, 1) := by decide +kernel
theorem dX11_allPay_13 : decode cX11_allPay 13 = .ok (.aload_n 0, 1) := by decide +kernel
theorem dX11_allPay_14 : decode cX11_allPay 14 = .ok (.iload_n 3, 1) := by decide +kernel
theorem dX11_allPay_15 : decode cX11_allPay 15 = .ok (.iload_n 1, 1) := by decide +kernel
theorem dX11_allPay_16 : decode cX11_allPay 16 = .ok (.invokestatic 71, 3) := by decide +kernel
theorem dX11_allPay_19 : decode cX11_allPay 19 = .ok (.iadd, 1) := by decide +kernel
theorem dX11_allPay_20 : decode cX11_allPay 20 = .ok (.istore_n 2, 1) := by decide +kernel
theorem dX11_allPay_21 : decode cX11_allPay 21 = .ok (.iinc 3 1, 3) := by decide +kernel
theorem dX11_allPay_24 : decode cX11_allPay 24 = .ok (.goto (-20), 3) := by decide +kernel
theorem dX11_allPay_27 : decode cX11_allPay 27 = .ok (.iload_n 2, 1) := by decide +kernel
theorem dX11_allPay_28 : decode cX11_allPay 28 = .ok (.ireturn, 1) := by decide +kernel
theorem dX11_week_0 : decode cX11_week 0 = .ok (.aload_n 0, 1) := by decide +kernel
theorem dX11_week_1 : decode cX11_week 1 = .ok (.iload_n 1, 1) := by decide +kernel
theorem dX11_week_2 : decode cX11_week 2 = .ok (.invokestatic 74, 3) := by decide +kernel
theorem dX11_week_5 : decode cX11_week 5 = .ok (.istore_n 2, 1) := by decide +kernel
theorem dX11_week_6 : decode cX11_week 6 = .ok (.aload_n 0, 1) := by decide +kernel
theorem dX11_week_7 : decode cX11_week 7 = .ok (.iload_n 2, 1) := by decide +kernel
theorem dX11_week_8 : decode cX11_week 8 = .ok (.invokestatic 78, 3) := by decide +kernel
theorem dX11_week_11 : decode cX11_week 11 = .ok (.istore_n 3, 1) := by decide +kernel
theorem dX11_week_12 : decode cX11_week 12 = .ok (.aload_n 0, 1) := by decide +kernel
theorem dX11_week_13 : decode cX11_week 13 = .ok (.iconst 0, 1) := by decide +kernel
theorem dX11_week_14 : decode cX11_week 14 = .ok (.iaload, 1) := by decide +kernel
theorem dX11_week_15 : decode cX11_week 15 = .ok (.aload_n 0, 1) := by decide +kernel
theorem dX11_week_16 : decode cX11_week 16 = .ok (.iload_n 2, 1) := by decide +kernel
theorem dX11_week_17 : decode cX11_week 17 = .ok (.invokestatic 81, 3) := by decide +kernel
theorem dX11_week_20 : decode cX11_week 20 = .ok (.iadd, 1) := by decide +kernel
theorem dX11_week_21 : decode cX11_week 21 = .ok (.istore 4, 2) := by decide +kernel
theorem dX11_week_23 : decode cX11_week 23 = .ok (.iconst 0, 1) := by decide +kernel
theorem dX11_week_24 : decode cX11_week 24 = .ok (.istore 5, 2) := by decide +kernel
theorem dX11_week_26 : decode cX11_week 26 = .ok (.iload 5, 2) := by decide +kernel
theorem dX11_week_28 : decode cX11_week 28 = .ok (.aload_n 0, 1) := by decide +kernel
theorem dX11_week_29 : decode cX11_week 29 = .ok (.bipush 6, 2) := by decide +kernel
theorem dX11_week_31 : decode cX11_week 31 = .ok (.iaload, 1) := by decide +kernel
theorem dX11_week_32 : decode cX11_week 32 = .ok (.if_icmp .ge 27, 3) := by decide +kernel
theorem dX11_week_35 : decode cX11_week 35 = .ok (.aload_n 0, 1) := by decide +kernel
theorem dX11_week_36 : decode cX11_week 36 = .ok (.bipush 7, 2) := by decide +kernel
theorem dX11_week_38 : decode cX11_week 38 = .ok (.iconst 4, 1) := by decide +kernel
theorem dX11_week_39 : decode cX11_week 39 = .ok (.iload 5, 2) := by decide +kernel
theorem dX11_week_41 : decode cX11_week 41 = .ok (.imul, 1) := by decide +kernel
theorem dX11_week_42 : decode cX11_week 42 = .ok (.iadd, 1) := by decide +kernel
theorem dX11_week_43 : decode cX11_week 43 = .ok (.iconst 2, 1) := by decide +kernel
theorem dX11_week_44 : decode cX11_week 44 = .ok (.iadd, 1) := by decide +kernel
theorem dX11_week_45 : decode cX11_week 45 = .ok (.aload_n 0, 1) := by decide +kernel
theorem dX11_week_46 : decode cX11_week 46 = .ok (.iload 5, 2) := by decide +kernel
theorem dX11_week_48 : decode cX11_week 48 = .ok (.iload_n 2, 1) := by decide +kernel
theorem dX11_week_49 : decode cX11_week 49 = .ok (.invokestatic 84, 3) := by decide +kernel
theorem dX11_week_52 : decode cX11_week 52 = .ok (.iastore, 1) := by decide +kernel
theorem dX11_week_53 : decode cX11_week 53 = .ok (.iinc 5 1, 3) := by decide +kernel
theorem dX11_week_56 : decode cX11_week 56 = .ok (.goto (-30), 3) := by decide +kernel
theorem dX11_week_59 : decode cX11_week 59 = .ok (.aload_n 0, 1) := by decide +kernel
theorem dX11_week_60 : decode cX11_week 60 = .ok (.iconst 0, 1) := by decide +kernel
theorem dX11_week_61 : decode cX11_week 61 = .ok (.iload 4, 2) := by decide +kernel
theorem dX11_week_63 : decode cX11_week 63 = .ok (.sipush 9999, 3) := by decide +kernel
theorem dX11_week_66 : decode cX11_week 66 = .ok (.if_icmp .le 9, 3) := by decide +kernel
theorem dX11_week_69 : decode cX11_week 69 = .ok (.sipush 9999, 3) := by decide +kernel
theorem dX11_week_72 : decode cX11_week 72 = .ok (.goto 5, 3) := by decide +kernel
theorem dX11_week_75 : decode cX11_week 75 = .ok (.iload 4, 2) := by decide +kernel
theorem dX11_week_77 : decode cX11_week 77 = .ok (.iastore, 1) := by decide +kernel
theorem dX11_week_78 : decode cX11_week 78 = .ok (.aload_n 0, 1) := by decide +kernel
theorem dX11_week_79 : decode cX11_week 79 = .ok (.iconst 4, 1) := by decide +kernel
theorem dX11_week_80 : decode cX11_week 80 = .ok (.dup2, 1) := by decide +kernel
theorem dX11_week_81 : decode cX11_week 81 = .ok (.iaload, 1) := by decide +kernel
theorem dX11_week_82 : decode cX11_week 82 = .ok (.iconst 1, 1) := by decide +kernel
theorem dX11_week_83 : decode cX11_week 83 = .ok (.iadd, 1) := by decide +kernel
theorem dX11_week_84 : decode cX11_week 84 = .ok (.iastore, 1) := by decide +kernel
theorem dX11_week_85 : decode cX11_week 85 = .ok (.iload_n 3, 1) := by decide +kernel
theorem dX11_week_86 : decode cX11_week 86 = .ok (.ireturn, 1) := by decide +kernel
theorem dX11_weeksOf_0 : decode cX11_weeksOf 0 = .ok (.aload_n 0, 1) := by decide +kernel
theorem dX11_weeksOf_1 : decode cX11_weeksOf 1 = .ok (.iconst 0, 1) := by decide +kernel
theorem dX11_weeksOf_2 : decode cX11_weeksOf 2 = .ok (.putfield 87, 3) := by decide +kernel
theorem dX11_weeksOf_5 : decode cX11_weeksOf 5 = .ok (.aload_n 0, 1) := by decide +kernel
theorem dX11_weeksOf_6 : decode cX11_weeksOf 6 = .ok (.iconst 0, 1) := by decide +kernel
theorem dX11_weeksOf_7 : decode cX11_weeksOf 7 = .ok (.putfield 90, 3) := by decide +kernel
theorem dX11_weeksOf_10 : decode cX11_weeksOf 10 = .ok (.iconst 0, 1) := by decide +kernel
theorem dX11_weeksOf_11 : decode cX11_weeksOf 11 = .ok (.istore_n 2, 1) := by decide +kernel
theorem dX11_weeksOf_12 : decode cX11_weeksOf 12 = .ok (.iload_n 2, 1) := by decide +kernel
theorem dX11_weeksOf_13 : decode cX11_weeksOf 13 = .ok (.iload_n 1, 1) := by decide +kernel
theorem dX11_weeksOf_14 : decode cX11_weeksOf 14 = .ok (.if_icmp .ge 34, 3) := by decide +kernel
theorem dX11_weeksOf_17 : decode cX11_weeksOf 17 = .ok (.aload_n 0, 1) := by decide +kernel
theorem dX11_weeksOf_18 : decode cX11_weeksOf 18 = .ok (.aload_n 0, 1) := by decide +kernel
theorem dX11_weeksOf_19 : decode cX11_weeksOf 19 = .ok (.getfield 13, 3) := by decide +kernel
theorem dX11_weeksOf_22 : decode cX11_weeksOf 22 = .ok (.iconst 0, 1) := by decide +kernel
theorem dX11_weeksOf_23 : decode cX11_weeksOf 23 = .ok (.invokestatic 93, 3) := by decide +kernel
theorem dX11_weeksOf_26 : decode cX11_weeksOf 26 = .ok (.putfield 87, 3) := by decide +kernel
theorem dX11_weeksOf_29 : decode cX11_weeksOf 29 = .ok (.aload_n 0, 1) := by decide +kernel
theorem dX11_weeksOf_30 : decode cX11_weeksOf 30 = .ok (.dup, 1) := by decide +kernel
theorem dX11_weeksOf_31 : decode cX11_weeksOf 31 = .ok (.getfield 90, 3) := by decide +kernel
theorem dX11_weeksOf_34 : decode cX11_weeksOf 34 = .ok (.aload_n 0, 1) := by decide +kernel
theorem dX11_weeksOf_35 : decode cX11_weeksOf 35 = .ok (.getfield 87, 3) := by decide +kernel
theorem dX11_weeksOf_38 : decode cX11_weeksOf 38 = .ok (.iadd, 1) := by decide +kernel
theorem dX11_weeksOf_39 : decode cX11_weeksOf 39 = .ok (.putfield 90, 3) := by decide +kernel
theorem dX11_weeksOf_42 : decode cX11_weeksOf 42 = .ok (.iinc 2 1, 3) := by decide +kernel
theorem dX11_weeksOf_45 : decode cX11_weeksOf 45 = .ok (.goto (-33), 3) := by decide +kernel
theorem dX11_weeksOf_48 : decode cX11_weeksOf 48 = .ok (.return_, 1) := by decide +kernel
theorem dX11_person_0 : decode cX11_person 0 = .ok (.aload_n 0, 1) := by decide +kernel
theorem dX11_person_1 : decode cX11_person 1 = .ok (.iconst 0, 1) := by decide +kernel
theorem dX11_person_2 : decode cX11_person 2 = .ok (.putfield 48, 3) := by decide +kernel
theorem dX11_person_5 : decode cX11_person 5 = .ok (.iload_n 1, 1) := by decide +kernel
theorem dX11_person_6 : decode cX11_person 6 = .ok (.i2l, 1) := by decide +kernel
theorem dX11_person_7 : decode cX11_person 7 = .ok (.lconst 0, 1) := by decide +kernel
theorem dX11_person_8 : decode cX11_person 8 = .ok (.ldc2_w 96, 3) := by decide +kernel
theorem dX11_person_11 : decode cX11_person 11 = .ok (.invokestatic 52, 3) := by decide +kernel
theorem dX11_person_14 : decode cX11_person 14 = .ok (.ifCond .eq 27, 3) := by decide +kernel
theorem dX11_person_17 : decode cX11_person 17 = .ok (.iload_n 2, 1) := by decide +kernel
theorem dX11_person_18 : decode cX11_person 18 = .ok (.i2l, 1) := by decide +kernel
theorem dX11_person_19 : decode cX11_person 19 = .ok (.lconst 1, 1) := by decide +kernel
theorem dX11_person_20 : decode cX11_person 20 = .ok (.ldc2_w 98, 3) := by decide +kernel
theorem dX11_person_23 : decode cX11_person 23 = .ok (.invokestatic 52, 3) := by decide +kernel
theorem dX11_person_26 : decode cX11_person 26 = .ok (.ifCond .eq 15, 3) := by decide +kernel
theorem dX11_person_29 : decode cX11_person 29 = .ok (.iload_n 3, 1) := by decide +kernel
theorem dX11_person_30 : decode cX11_person 30 = .ok (.i2l, 1) := by decide +kernel
theorem dX11_person_31 : decode cX11_person 31 = .ok (.lconst 0, 1) := by decide +kernel
theorem dX11_person_32 : decode cX11_person 32 = .ok (.ldc2_w 100, 3) := by decide +kernel
theorem dX11_person_35 : decode cX11_person 35 = .ok (.invokestatic 52, 3) := by decide +kernel
