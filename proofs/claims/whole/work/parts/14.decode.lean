theorem d_Draft_takeGuarded_0 : decode k_Draft_takeGuarded 0 = .ok (.aload_n 0, 1) := by decide +kernel
theorem d_Draft_takeGuarded_1 : decode k_Draft_takeGuarded 1 = .ok (.dup, 1) := by decide +kernel
theorem d_Draft_takeGuarded_2 : decode k_Draft_takeGuarded 2 = .ok (.getfield 27, 3) := by decide +kernel
theorem d_Draft_takeGuarded_5 : decode k_Draft_takeGuarded 5 = .ok (.iconst 1, 1) := by decide +kernel
theorem d_Draft_takeGuarded_6 : decode k_Draft_takeGuarded 6 = .ok (.iadd, 1) := by decide +kernel
theorem d_Draft_takeGuarded_7 : decode k_Draft_takeGuarded 7 = .ok (.putfield 27, 3) := by decide +kernel
theorem d_Draft_takeGuarded_10 : decode k_Draft_takeGuarded 10 = .ok (.aload_n 0, 1) := by decide +kernel
theorem d_Draft_takeGuarded_11 : decode k_Draft_takeGuarded 11 = .ok (.iconst 0, 1) := by decide +kernel
theorem d_Draft_takeGuarded_12 : decode k_Draft_takeGuarded 12 = .ok (.invokevirtual 69, 3) := by decide +kernel
theorem d_Draft_takeGuarded_15 : decode k_Draft_takeGuarded 15 = .ok (.ifCond .ne 5, 3) := by decide +kernel
theorem d_Draft_takeGuarded_18 : decode k_Draft_takeGuarded 18 = .ok (.iconst (-1), 1) := by decide +kernel
theorem d_Draft_takeGuarded_19 : decode k_Draft_takeGuarded 19 = .ok (.ireturn, 1) := by decide +kernel
theorem d_Draft_takeGuarded_20 : decode k_Draft_takeGuarded 20 = .ok (.aload_n 0, 1) := by decide +kernel
theorem d_Draft_takeGuarded_21 : decode k_Draft_takeGuarded 21 = .ok (.getfield 23, 3) := by decide +kernel
theorem d_Draft_takeGuarded_24 : decode k_Draft_takeGuarded 24 = .ok (.invokevirtual 42, 3) := by decide +kernel
theorem d_Draft_takeGuarded_27 : decode k_Draft_takeGuarded 27 = .ok (.istore_n 2, 1) := by decide +kernel
theorem d_Draft_takeGuarded_28 : decode k_Draft_takeGuarded 28 = .ok (.aload_n 0, 1) := by decide +kernel
theorem d_Draft_takeGuarded_29 : decode k_Draft_takeGuarded 29 = .ok (.getfield 23, 3) := by decide +kernel
theorem d_Draft_takeGuarded_32 : decode k_Draft_takeGuarded 32 = .ok (.bipush 9, 2) := by decide +kernel
theorem d_Draft_takeGuarded_34 : decode k_Draft_takeGuarded 34 = .ok (.iconst 0, 1) := by decide +kernel
theorem d_Draft_takeGuarded_35 : decode k_Draft_takeGuarded 35 = .ok (.invokevirtual 72, 3) := by decide +kernel
theorem d_Draft_takeGuarded_38 : decode k_Draft_takeGuarded 38 = .ok (.pop, 1) := by decide +kernel
theorem d_Draft_takeGuarded_39 : decode k_Draft_takeGuarded 39 = .ok (.aload_n 0, 1) := by decide +kernel
theorem d_Draft_takeGuarded_40 : decode k_Draft_takeGuarded 40 = .ok (.iload_n 1, 1) := by decide +kernel
theorem d_Draft_takeGuarded_41 : decode k_Draft_takeGuarded 41 = .ok (.invokevirtual 83, 3) := by decide +kernel
theorem d_Draft_takeGuarded_44 : decode k_Draft_takeGuarded 44 = .ok (.ifCond .eq 7, 3) := by decide +kernel
theorem d_Draft_takeGuarded_47 : decode k_Draft_takeGuarded 47 = .ok (.iload_n 2, 1) := by decide +kernel
theorem d_Draft_takeGuarded_48 : decode k_Draft_takeGuarded 48 = .ok (.goto 4, 3) := by decide +kernel
theorem d_Draft_takeGuarded_51 : decode k_Draft_takeGuarded 51 = .ok (.iconst (-1), 1) := by decide +kernel
theorem d_Draft_takeGuarded_52 : decode k_Draft_takeGuarded 52 = .ok (.ireturn, 1) := by decide +kernel
theorem d_Draft_takeBlock_0 : decode k_Draft_takeBlock 0 = .ok (.aload_n 0, 1) := by decide +kernel
theorem d_Draft_takeBlock_1 : decode k_Draft_takeBlock 1 = .ok (.bipush 123, 2) := by decide +kernel
theorem d_Draft_takeBlock_3 : decode k_Draft_takeBlock 3 = .ok (.invokevirtual 65, 3) := by decide +kernel
theorem d_Draft_takeBlock_6 : decode k_Draft_takeBlock 6 = .ok (.ifCond .eq 26, 3) := by decide +kernel
theorem d_Draft_takeBlock_9 : decode k_Draft_takeBlock 9 = .ok (.aload_n 0, 1) := by decide +kernel
theorem d_Draft_takeBlock_10 : decode k_Draft_takeBlock 10 = .ok (.iload_n 1, 1) := by decide +kernel
theorem d_Draft_takeBlock_11 : decode k_Draft_takeBlock 11 = .ok (.iconst 1, 1) := by decide +kernel
theorem d_Draft_takeBlock_12 : decode k_Draft_takeBlock 12 = .ok (.iadd, 1) := by decide +kernel
theorem d_Draft_takeBlock_13 : decode k_Draft_takeBlock 13 = .ok (.invokevirtual 34, 3) := by decide +kernel
theorem d_Draft_takeBlock_16 : decode k_Draft_takeBlock 16 = .ok (.ifCond .eq 16, 3) := by decide +kernel
theorem d_Draft_takeBlock_19 : decode k_Draft_takeBlock 19 = .ok (.aload_n 0, 1) := by decide +kernel
theorem d_Draft_takeBlock_20 : decode k_Draft_takeBlock 20 = .ok (.bipush 125, 2) := by decide +kernel
theorem d_Draft_takeBlock_22 : decode k_Draft_takeBlock 22 = .ok (.invokevirtual 65, 3) := by decide +kernel
theorem d_Draft_takeBlock_25 : decode k_Draft_takeBlock 25 = .ok (.ifCond .eq 7, 3) := by decide +kernel
theorem d_Draft_takeBlock_28 : decode k_Draft_takeBlock 28 = .ok (.iconst 1, 1) := by decide +kernel
theorem d_Draft_takeBlock_29 : decode k_Draft_takeBlock 29 = .ok (.goto 4, 3) := by decide +kernel
theorem d_Draft_takeBlock_32 : decode k_Draft_takeBlock 32 = .ok (.iconst 0, 1) := by decide +kernel
theorem d_Draft_takeBlock_33 : decode k_Draft_takeBlock 33 = .ok (.ireturn, 1) := by decide +kernel
theorem d_Draft_takeExpression_0 : decode k_Draft_takeExpression 0 = .ok (.iload_n 1, 1) := by decide +kernel
theorem d_Draft_takeExpression_1 : decode k_Draft_takeExpression 1 = .ok (.bipush 8, 2) := by decide +kernel
theorem d_Draft_takeExpression_3 : decode k_Draft_takeExpression 3 = .ok (.if_icmp .lt 5, 3) := by decide +kernel
theorem d_Draft_takeExpression_6 : decode k_Draft_takeExpression 6 = .ok (.iconst 0, 1) := by decide +kernel
theorem d_Draft_takeExpression_7 : decode k_Draft_takeExpression 7 = .ok (.ireturn, 1) := by decide +kernel
theorem d_Draft_takeExpression_8 : decode k_Draft_takeExpression 8 = .ok (.aload_n 0, 1) := by decide +kernel
theorem d_Draft_takeExpression_9 : decode k_Draft_takeExpression 9 = .ok (.getfield 14, 3) := by decide +kernel
theorem d_Draft_takeExpression_12 : decode k_Draft_takeExpression 12 = .ok (.aload_n 0, 1) := by decide +kernel
theorem d_Draft_takeExpression_13 : decode k_Draft_takeExpression 13 = .ok (.getfield 27, 3) := by decide +kernel
theorem d_Draft_takeExpression_16 : decode k_Draft_takeExpression 16 = .ok (.invokevirtual 43, 3) := by decide +kernel
theorem d_Draft_takeExpression_19 : decode k_Draft_takeExpression 19 = .ok (.istore_n 2, 1) := by decide +kernel
theorem d_Draft_takeExpression_20 : decode k_Draft_takeExpression 20 = .ok (.iload_n 2, 1) := by decide +kernel
theorem d_Draft_takeExpression_21 : decode k_Draft_takeExpression 21 = .ok (.invokestatic 86, 3) := by decide +kernel
theorem d_Draft_takeExpression_24 : decode k_Draft_takeExpression 24 = .ok (.ifCond .eq 9, 3) := by decide +kernel
theorem d_Draft_takeExpression_27 : decode k_Draft_takeExpression 27 = .ok (.aload_n 0, 1) := by decide +kernel
theorem d_Draft_takeExpression_28 : decode k_Draft_takeExpression 28 = .ok (.invokevirtual 89, 3) := by decide +kernel
theorem d_Draft_takeExpression_31 : decode k_Draft_takeExpression 31 = .ok (.iconst 1, 1) := by decide +kernel
theorem d_Draft_takeExpression_32 : decode k_Draft_takeExpression 32 = .ok (.ireturn, 1) := by decide +kernel
theorem d_Draft_takeExpression_33 : decode k_Draft_takeExpression 33 = .ok (.iload_n 2, 1) := by decide +kernel
theorem d_Draft_takeExpression_34 : decode k_Draft_takeExpression 34 = .ok (.invokestatic 49, 3) := by decide +kernel
theorem d_Draft_takeExpression_37 : decode k_Draft_takeExpression 37 = .ok (.ifCond .eq 28, 3) := by decide +kernel
theorem d_Draft_takeExpression_40 : decode k_Draft_takeExpression 40 = .ok (.aload_n 0, 1) := by decide +kernel
theorem d_Draft_takeExpression_41 : decode k_Draft_takeExpression 41 = .ok (.dup, 1) := by decide +kernel
theorem d_Draft_takeExpression_42 : decode k_Draft_takeExpression 42 = .ok (.getfield 27, 3) := by decide +kernel
theorem d_Draft_takeExpression_45 : decode k_Draft_takeExpression 45 = .ok (.iconst 1, 1) := by decide +kernel
theorem d_Draft_takeExpression_46 : decode k_Draft_takeExpression 46 = .ok (.iadd, 1) := by decide +kernel
theorem d_Draft_takeExpression_47 : decode k_Draft_takeExpression 47 = .ok (.putfield 27, 3) := by decide +kernel
theorem d_Draft_takeExpression_50 : decode k_Draft_takeExpression 50 = .ok (.aload_n 0, 1) := by decide +kernel
theorem d_Draft_takeExpression_51 : decode k_Draft_takeExpression 51 = .ok (.getfield 23, 3) := by decide +kernel
theorem d_Draft_takeExpression_54 : decode k_Draft_takeExpression 54 = .ok (.iconst 1, 1) := by decide +kernel
theorem d_Draft_takeExpression_55 : decode k_Draft_takeExpression 55 = .ok (.iload_n 2, 1) := by decide +kernel
theorem d_Draft_takeExpression_56 : decode k_Draft_takeExpression 56 = .ok (.bipush 97, 2) := by decide +kernel
theorem d_Draft_takeExpression_58 : decode k_Draft_takeExpression 58 = .ok (.isub, 1) := by decide +kernel
theorem d_Draft_takeExpression_59 : decode k_Draft_takeExpression 59 = .ok (.invokevirtual 72, 3) := by decide +kernel
theorem d_Draft_takeExpression_62 : decode k_Draft_takeExpression 62 = .ok (.pop, 1) := by decide +kernel
theorem d_Draft_takeExpression_63 : decode k_Draft_takeExpression 63 = .ok (.iconst 1, 1) := by decide +kernel
theorem d_Draft_takeExpression_64 : decode k_Draft_takeExpression 64 = .ok (.ireturn, 1) := by decide +kernel
theorem d_Draft_takeExpression_65 : decode k_Draft_takeExpression 65 = .ok (.aload_n 0, 1) := by decide +kernel
theorem d_Draft_takeExpression_66 : decode k_Draft_takeExpression 66 = .ok (.bipush 33, 2) := by decide +kernel
theorem d_Draft_takeExpression_68 : decode k_Draft_takeExpression 68 = .ok (.invokevirtual 65, 3) := by decide +kernel
theorem d_Draft_takeExpression_71 : decode k_Draft_takeExpression 71 = .ok (.ifCond .eq 11, 3) := by decide +kernel
theorem d_Draft_takeExpression_74 : decode k_Draft_takeExpression 74 = .ok (.aload_n 0, 1) := by decide +kernel
theorem d_Draft_takeExpression_75 : decode k_Draft_takeExpression 75 = .ok (.iload_n 1, 1) := by decide +kernel
theorem d_Draft_takeExpression_76 : decode k_Draft_takeExpression 76 = .ok (.invokevirtual 92, 3) := by decide +kernel
theorem d_Draft_takeExpression_79 : decode k_Draft_takeExpression 79 = .ok (.goto 25, 3) := by decide +kernel
theorem d_Draft_takeExpression_82 : decode k_Draft_takeExpression 82 = .ok (.aload_n 0, 1) := by decide +kernel
theorem d_Draft_takeExpression_83 : decode k_Draft_takeExpression 83 = .ok (.bipush 40, 2) := by decide +kernel
theorem d_Draft_takeExpression_85 : decode k_Draft_takeExpression 85 = .ok (.invokevirtual 65, 3) := by decide +kernel
theorem d_Draft_takeExpression_88 : decode k_Draft_takeExpression 88 = .ok (.ifCond .eq 15, 3) := by decide +kernel
theorem d_Draft_takeExpression_91 : decode k_Draft_takeExpression 91 = .ok (.aload_n 0, 1) := by decide +kernel
theorem d_Draft_takeExpression_92 : decode k_Draft_takeExpression 92 = .ok (.iload_n 1, 1) := by decide +kernel
theorem d_Draft_takeExpression_93 : decode k_Draft_takeExpression 93 = .ok (.invokevirtual 95, 3) := by decide +kernel
theorem d_Draft_takeExpression_96 : decode k_Draft_takeExpression 96 = .ok (.ifCond .eq 7, 3) := by decide +kernel
theorem d_Draft_takeExpression_99 : decode k_Draft_takeExpression 99 = .ok (.iconst 1, 1) := by decide +kernel
theorem d_Draft_takeExpression_100 : decode k_Draft_takeExpression 100 = .ok (.goto 4, 3) := by decide +kernel
theorem d_Draft_takeExpression_103 : decode k_Draft_takeExpression 103 = .ok (.iconst 0, 1) := by decide +kernel
theorem d_Draft_takeExpression_104 : decode k_Draft_takeExpression 104 = .ok (.ireturn, 1) := by decide +kernel
theorem d_Draft_takeNot_0 : decode k_Draft_takeNot 0 = .ok (.aload_n 0, 1) := by decide +kernel
theorem d_Draft_takeNot_1 : decode k_Draft_takeNot 1 = .ok (.iload_n 1, 1) := by decide +kernel
theorem d_Draft_takeNot_2 : decode k_Draft_takeNot 2 = .ok (.iconst 1, 1) := by decide +kernel
theorem d_Draft_takeNot_3 : decode k_Draft_takeNot 3 = .ok (.iadd, 1) := by decide +kernel
theorem d_Draft_takeNot_4 : decode k_Draft_takeNot 4 = .ok (.invokevirtual 69, 3) := by decide +kernel
theorem d_Draft_takeNot_7 : decode k_Draft_takeNot 7 = .ok (.ifCond .ne 5, 3) := by decide +kernel
theorem d_Draft_takeNot_10 : decode k_Draft_takeNot 10 = .ok (.iconst 0, 1) := by decide +kernel
theorem d_Draft_takeNot_11 : decode k_Draft_takeNot 11 = .ok (.ireturn, 1) := by decide +kernel
theorem d_Draft_takeNot_12 : decode k_Draft_takeNot 12 = .ok (.aload_n 0, 1) := by decide +kernel
theorem d_Draft_takeNot_13 : decode k_Draft_takeNot 13 = .ok (.getfield 23, 3) := by decide +kernel
theorem d_Draft_takeNot_16 : decode k_Draft_takeNot 16 = .ok (.bipush 7, 2) := by decide +kernel
theorem d_Draft_takeNot_18 : decode k_Draft_takeNot 18 = .ok (.iconst 0, 1) := by decide +kernel
theorem d_Draft_takeNot_19 : decode k_Draft_takeNot 19 = .ok (.invokevirtual 72, 3) := by decide +kernel
theorem d_Draft_takeNot_22 : decode k_Draft_takeNot 22 = .ok (.pop, 1) := by decide +kernel
theorem d_Draft_takeNot_23 : decode k_Draft_takeNot 23 = .ok (.iconst 1, 1) := by decide +kernel
theorem d_Draft_takeNot_24 : decode k_Draft_takeNot 24 = .ok (.ireturn, 1) := by decide +kernel
theorem d_Draft_takePair_0 : decode k_Draft_takePair 0 = .ok (.aload_n 0, 1) := by decide +kernel
theorem d_Draft_takePair_1 : decode k_Draft_takePair 1 = .ok (.iload_n 1, 1) := by decide +kernel
theorem d_Draft_takePair_2 : decode k_Draft_takePair 2 = .ok (.iconst 1, 1) := by decide +kernel
theorem d_Draft_takePair_3 : decode k_Draft_takePair 3 = .ok (.iadd, 1) := by decide +kernel
theorem d_Draft_takePair_4 : decode k_Draft_takePair 4 = .ok (.invokevirtual 69, 3) := by decide +kernel
theorem d_Draft_takePair_7 : decode k_Draft_takePair 7 = .ok (.ifCond .ne 5, 3) := by decide +kernel
theorem d_Draft_takePair_10 : decode k_Draft_takePair 10 = .ok (.iconst 0, 1) := by decide +kernel
theorem d_Draft_takePair_11 : decode k_Draft_takePair 11 = .ok (.ireturn, 1) := by decide +kernel
theorem d_Draft_takePair_12 : decode k_Draft_takePair 12 = .ok (.aload_n 0, 1) := by decide +kernel
theorem d_Draft_takePair_13 : decode k_Draft_takePair 13 = .ok (.getfield 14, 3) := by decide +kernel
theorem d_Draft_takePair_16 : decode k_Draft_takePair 16 = .ok (.aload_n 0, 1) := by decide +kernel
theorem d_Draft_takePair_17 : decode k_Draft_takePair 17 = .ok (.getfield 27, 3) := by decide +kernel
theorem d_Draft_takePair_20 : decode k_Draft_takePair 20 = .ok (.invokevirtual 43, 3) := by decide +kernel
theorem d_Draft_takePair_23 : decode k_Draft_takePair 23 = .ok (.invokestatic 98, 3) := by decide +kernel
theorem d_Draft_takePair_26 : decode k_Draft_takePair 26 = .ok (.istore_n 2, 1) := by decide +kernel
theorem d_Draft_takePair_27 : decode k_Draft_takePair 27 = .ok (.iload_n 2, 1) := by decide +kernel
theorem d_Draft_takePair_28 : decode k_Draft_takePair 28 = .ok (.bipush (-2), 2) := by decide +kernel
theorem d_Draft_takePair_30 : decode k_Draft_takePair 30 = .ok (.if_icmp .ne 5, 3) := by decide +kernel
theorem d_Draft_takePair_33 : decode k_Draft_takePair 33 = .ok (.iconst 0, 1) := by decide +kernel
theorem d_Draft_takePair_34 : decode k_Draft_takePair 34 = .ok (.ireturn, 1) := by decide +kernel
theorem d_Draft_takePair_35 : decode k_Draft_takePair 35 = .ok (.aload_n 0, 1) := by decide +kernel
theorem d_Draft_takePair_36 : decode k_Draft_takePair 36 = .ok (.dup, 1) := by decide +kernel
theorem d_Draft_takePair_37 : decode k_Draft_takePair 37 = .ok (.getfield 27, 3) := by decide +kernel
theorem d_Draft_takePair_40 : decode k_Draft_takePair 40 = .ok (.iconst 1, 1) := by decide +kernel
theorem d_Draft_takePair_41 : decode k_Draft_takePair 41 = .ok (.iadd, 1) := by decide +kernel
theorem d_Draft_takePair_42 : decode k_Draft_takePair 42 = .ok (.putfield 27, 3) := by decide +kernel
theorem d_Draft_takePair_45 : decode k_Draft_takePair 45 = .ok (.aload_n 0, 1) := by decide +kernel
theorem d_Draft_takePair_46 : decode k_Draft_takePair 46 = .ok (.iload_n 1, 1) := by decide +kernel
theorem d_Draft_takePair_47 : decode k_Draft_takePair 47 = .ok (.iconst 1, 1) := by decide +kernel
theorem d_Draft_takePair_48 : decode k_Draft_takePair 48 = .ok (.iadd, 1) := by decide +kernel
theorem d_Draft_takePair_49 : decode k_Draft_takePair 49 = .ok (.invokevirtual 69, 3) := by decide +kernel
theorem d_Draft_takePair_52 : decode k_Draft_takePair 52 = .ok (.ifCond .eq 12, 3) := by decide +kernel
theorem d_Draft_takePair_55 : decode k_Draft_takePair 55 = .ok (.aload_n 0, 1) := by decide +kernel
theorem d_Draft_takePair_56 : decode k_Draft_takePair 56 = .ok (.bipush 41, 2) := by decide +kernel
theorem d_Draft_takePair_58 : decode k_Draft_takePair 58 = .ok (.invokevirtual 65, 3) := by decide +kernel
theorem d_Draft_takePair_61 : decode k_Draft_takePair 61 = .ok (.ifCond .ne 5, 3) := by decide +kernel
theorem d_Draft_takePair_64 : decode k_Draft_takePair 64 = .ok (.iconst 0, 1) := by decide +kernel
theorem d_Draft_takePair_65 : decode k_Draft_takePair 65 = .ok (.ireturn, 1) := by decide +kernel
theorem d_Draft_takePair_66 : decode k_Draft_takePair 66 = .ok (.aload_n 0, 1) := by decide +kernel
theorem d_Draft_takePair_67 : decode k_Draft_takePair 67 = .ok (.getfield 23, 3) := by decide +kernel
theorem d_Draft_takePair_70 : decode k_Draft_takePair 70 = .ok (.iload_n 2, 1) := by decide +kernel
theorem d_Draft_takePair_71 : decode k_Draft_takePair 71 = .ok (.iconst 0, 1) := by decide +kernel
theorem d_Draft_takePair_72 : decode k_Draft_takePair 72 = .ok (.invokevirtual 72, 3) := by decide +kernel
theorem d_Draft_takePair_75 : decode k_Draft_takePair 75 = .ok (.pop, 1) := by decide +kernel
theorem d_Draft_takePair_76 : decode k_Draft_takePair 76 = .ok (.iconst 1, 1) := by decide +kernel
theorem d_Draft_takePair_77 : decode k_Draft_takePair 77 = .ok (.ireturn, 1) := by decide +kernel
theorem d_Draft_takeNumber_0 : decode k_Draft_takeNumber 0 = .ok (.aload_n 0, 1) := by decide +kernel
theorem d_Draft_takeNumber_1 : decode k_Draft_takeNumber 1 = .ok (.getfield 14, 3) := by decide +kernel
theorem d_Draft_takeNumber_4 : decode k_Draft_takeNumber 4 = .ok (.aload_n 0, 1) := by decide +kernel
theorem d_Draft_takeNumber_5 : decode k_Draft_takeNumber 5 = .ok (.getfield 27, 3) := by decide +kernel
theorem d_Draft_takeNumber_8 : decode k_Draft_takeNumber 8 = .ok (.invokevirtual 43, 3) := by decide +kernel
theorem d_Draft_takeNumber_11 : decode k_Draft_takeNumber 11 = .ok (.bipush 48, 2) := by decide +kernel
theorem d_Draft_takeNumber_13 : decode k_Draft_takeNumber 13 = .ok (.isub, 1) := by decide +kernel
theorem d_Draft_takeNumber_14 : decode k_Draft_takeNumber 14 = .ok (.istore_n 1, 1) := by decide +kernel
theorem d_Draft_takeNumber_15 : decode k_Draft_takeNumber 15 = .ok (.aload_n 0, 1) := by decide +kernel
theorem d_Draft_takeNumber_16 : decode k_Draft_takeNumber 16 = .ok (.dup, 1) := by decide +kernel
theorem d_Draft_takeNumber_17 : decode k_Draft_takeNumber 17 = .ok (.getfield 27, 3) := by decide +kernel
theorem d_Draft_takeNumber_20 : decode k_Draft_takeNumber 20 = .ok (.iconst 1, 1) := by decide +kernel
theorem d_Draft_takeNumber_21 : decode k_Draft_takeNumber 21 = .ok (.iadd, 1) := by decide +kernel
theorem d_Draft_takeNumber_22 : decode k_Draft_takeNumber 22 = .ok (.putfield 27, 3) := by decide +kernel
theorem d_Draft_takeNumber_25 : decode k_Draft_takeNumber 25 = .ok (.aload_n 0, 1) := by decide +kernel
theorem d_Draft_takeNumber_26 : decode k_Draft_takeNumber 26 = .ok (.getfield 14, 3) := by decide +kernel
theorem d_Draft_takeNumber_29 : decode k_Draft_takeNumber 29 = .ok (.aload_n 0, 1) := by decide +kernel
theorem d_Draft_takeNumber_30 : decode k_Draft_takeNumber 30 = .ok (.getfield 27, 3) := by decide +kernel
theorem d_Draft_takeNumber_33 : decode k_Draft_takeNumber 33 = .ok (.invokevirtual 43, 3) := by decide +kernel
theorem d_Draft_takeNumber_36 : decode k_Draft_takeNumber 36 = .ok (.invokestatic 86, 3) := by decide +kernel
theorem d_Draft_takeNumber_39 : decode k_Draft_takeNumber 39 = .ok (.ifCond .eq 33, 3) := by decide +kernel
theorem d_Draft_takeNumber_42 : decode k_Draft_takeNumber 42 = .ok (.iload_n 1, 1) := by decide +kernel
theorem d_Draft_takeNumber_43 : decode k_Draft_takeNumber 43 = .ok (.bipush 10, 2) := by decide +kernel
theorem d_Draft_takeNumber_45 : decode k_Draft_takeNumber 45 = .ok (.imul, 1) := by decide +kernel
theorem d_Draft_takeNumber_46 : decode k_Draft_takeNumber 46 = .ok (.aload_n 0, 1) := by decide +kernel
theorem d_Draft_takeNumber_47 : decode k_Draft_takeNumber 47 = .ok (.getfield 14, 3) := by decide +kernel
theorem d_Draft_takeNumber_50 : decode k_Draft_takeNumber 50 = .ok (.aload_n 0, 1) := by decide +kernel
theorem d_Draft_takeNumber_51 : decode k_Draft_takeNumber 51 = .ok (.getfield 27, 3) := by decide +kernel
theorem d_Draft_takeNumber_54 : decode k_Draft_takeNumber 54 = .ok (.invokevirtual 43, 3) := by decide +kernel
theorem d_Draft_takeNumber_57 : decode k_Draft_takeNumber 57 = .ok (.iadd, 1) := by decide +kernel
theorem d_Draft_takeNumber_58 : decode k_Draft_takeNumber 58 = .ok (.bipush 48, 2) := by decide +kernel
theorem d_Draft_takeNumber_60 : decode k_Draft_takeNumber 60 = .ok (.isub, 1) := by decide +kernel
theorem d_Draft_takeNumber_61 : decode k_Draft_takeNumber 61 = .ok (.istore_n 1, 1) := by decide +kernel
theorem d_Draft_takeNumber_62 : decode k_Draft_takeNumber 62 = .ok (.aload_n 0, 1) := by decide +kernel
theorem d_Draft_takeNumber_63 : decode k_Draft_takeNumber 63 = .ok (.dup, 1) := by decide +kernel
theorem d_Draft_takeNumber_64 : decode k_Draft_takeNumber 64 = .ok (.getfield 27, 3) := by decide +kernel
theorem d_Draft_takeNumber_67 : decode k_Draft_takeNumber 67 = .ok (.iconst 1, 1) := by decide +kernel
theorem d_Draft_takeNumber_68 : decode k_Draft_takeNumber 68 = .ok (.iadd, 1) := by decide +kernel
theorem d_Draft_takeNumber_69 : decode k_Draft_takeNumber 69 = .ok (.putfield 27, 3) := by decide +kernel
theorem d_Draft_takeNumber_72 : decode k_Draft_takeNumber 72 = .ok (.aload_n 0, 1) := by decide +kernel
theorem d_Draft_takeNumber_73 : decode k_Draft_takeNumber 73 = .ok (.getfield 23, 3) := by decide +kernel
theorem d_Draft_takeNumber_76 : decode k_Draft_takeNumber 76 = .ok (.iconst 0, 1) := by decide +kernel
theorem d_Draft_takeNumber_77 : decode k_Draft_takeNumber 77 = .ok (.iload_n 1, 1) := by decide +kernel
theorem d_Draft_takeNumber_78 : decode k_Draft_takeNumber 78 = .ok (.invokevirtual 72, 3) := by decide +kernel
theorem d_Draft_takeNumber_81 : decode k_Draft_takeNumber 81 = .ok (.pop, 1) := by decide +kernel
theorem d_Draft_takeNumber_82 : decode k_Draft_takeNumber 82 = .ok (.return_, 1) := by decide +kernel
theorem d_Draft_take_0 : decode k_Draft_take 0 = .ok (.aload_n 0, 1) := by decide +kernel
theorem d_Draft_take_1 : decode k_Draft_take 1 = .ok (.getfield 14, 3) := by decide +kernel
theorem d_Draft_take_4 : decode k_Draft_take 4 = .ok (.aload_n 0, 1) := by decide +kernel
theorem d_Draft_take_5 : decode k_Draft_take 5 = .ok (.getfield 27, 3) := by decide +kernel
theorem d_Draft_take_8 : decode k_Draft_take 8 = .ok (.invokevirtual 43, 3) := by decide +kernel
theorem d_Draft_take_11 : decode k_Draft_take 11 = .ok (.iload_n 1, 1) := by decide +kernel
theorem d_Draft_take_12 : decode k_Draft_take 12 = .ok (.if_icmp .eq 5, 3) := by decide +kernel
theorem d_Draft_take_15 : decode k_Draft_take 15 = .ok (.iconst 0, 1) := by decide +kernel
theorem d_Draft_take_16 : decode k_Draft_take 16 = .ok (.ireturn, 1) := by decide +kernel
theorem d_Draft_take_17 : decode k_Draft_take 17 = .ok (.aload_n 0, 1) := by decide +kernel
theorem d_Draft_take_18 : decode k_Draft_take 18 = .ok (.dup, 1) := by decide +kernel
theorem d_Draft_take_19 : decode k_Draft_take 19 = .ok (.getfield 27, 3) := by decide +kernel
theorem d_Draft_take_22 : decode k_Draft_take 22 = .ok (.iconst 1, 1) := by decide +kernel
theorem d_Draft_take_23 : decode k_Draft_take 23 = .ok (.iadd, 1) := by decide +kernel
theorem d_Draft_take_24 : decode k_Draft_take 24 = .ok (.putfield 27, 3) := by decide +kernel
theorem d_Draft_take_27 : decode k_Draft_take 27 = .ok (.iconst 1, 1) := by decide +kernel
theorem d_Draft_take_28 : decode k_Draft_take 28 = .ok (.ireturn, 1) := by decide +kernel
theorem d_Draft_isDigit_0 : decode k_Draft_isDigit 0 = .ok (.iload_n 0, 1) := by decide +kernel
theorem d_Draft_isDigit_1 : decode k_Draft_isDigit 1 = .ok (.bipush 48, 2) := by decide +kernel
theorem d_Draft_isDigit_3 : decode k_Draft_isDigit 3 = .ok (.if_icmp .lt 13, 3) := by decide +kernel
theorem d_Draft_isDigit_6 : decode k_Draft_isDigit 6 = .ok (.iload_n 0, 1) := by decide +kernel
theorem d_Draft_isDigit_7 : decode k_Draft_isDigit 7 = .ok (.bipush 57, 2) := by decide +kernel
theorem d_Draft_isDigit_9 : decode k_Draft_isDigit 9 = .ok (.if_icmp .gt 7, 3) := by decide +kernel
theorem d_Draft_isDigit_12 : decode k_Draft_isDigit 12 = .ok (.iconst 1, 1) := by decide +kernel
theorem d_Draft_isDigit_13 : decode k_Draft_isDigit 13 = .ok (.goto 4, 3) := by decide +kernel
theorem d_Draft_isDigit_16 : decode k_Draft_isDigit 16 = .ok (.iconst 0, 1) := by decide +kernel
theorem d_Draft_isDigit_17 : decode k_Draft_isDigit 17 = .ok (.ireturn, 1) := by decide +kernel
theorem d_Draft_isVariable_0 : decode k_Draft_isVariable 0 = .ok (.iload_n 0, 1) := by decide +kernel
theorem d_Draft_isVariable_1 : decode k_Draft_isVariable 1 = .ok (.bipush 97, 2) := by decide +kernel
theorem d_Draft_isVariable_3 : decode k_Draft_isVariable 3 = .ok (.if_icmp .lt 13, 3) := by decide +kernel
theorem d_Draft_isVariable_6 : decode k_Draft_isVariable 6 = .ok (.iload_n 0, 1) := by decide +kernel
theorem d_Draft_isVariable_7 : decode k_Draft_isVariable 7 = .ok (.bipush 103, 2) := by decide +kernel
theorem d_Draft_isVariable_9 : decode k_Draft_isVariable 9 = .ok (.if_icmp .ge 7, 3) := by decide +kernel
theorem d_Draft_isVariable_12 : decode k_Draft_isVariable 12 = .ok (.iconst 1, 1) := by decide +kernel
theorem d_Draft_isVariable_13 : decode k_Draft_isVariable 13 = .ok (.goto 4, 3) := by decide +kernel
theorem d_Draft_isVariable_16 : decode k_Draft_isVariable 16 = .ok (.iconst 0, 1) := by decide +kernel
theorem d_Draft_isVariable_17 : decode k_Draft_isVariable 17 = .ok (.ireturn, 1) := by decide +kernel
theorem d_Draft_opOfSign_0 : decode k_Draft_opOfSign 0 = .ok (.iload_n 0, 1) := by decide +kernel
theorem d_Draft_opOfSign_1 : decode k_Draft_opOfSign 1 = .ok (.lookupswitch 52 #[(42, 47), (43, 43), (45, 45), (60, 49)], 43) := by decide +kernel
theorem d_Draft_opOfSign_44 : decode k_Draft_opOfSign 44 = .ok (.iconst 3, 1) := by decide +kernel
theorem d_Draft_opOfSign_45 : decode k_Draft_opOfSign 45 = .ok (.ireturn, 1) := by decide +kernel
theorem d_Draft_opOfSign_46 : decode k_Draft_opOfSign 46 = .ok (.iconst 4, 1) := by decide +kernel
theorem d_Draft_opOfSign_47 : decode k_Draft_opOfSign 47 = .ok (.ireturn, 1) := by decide +kernel
theorem d_Draft_opOfSign_48 : decode k_Draft_opOfSign 48 = .ok (.iconst 5, 1) := by decide +kernel
theorem d_Draft_opOfSign_49 : decode k_Draft_opOfSign 49 = .ok (.ireturn, 1) := by decide +kernel
theorem d_Draft_opOfSign_50 : decode k_Draft_opOfSign 50 = .ok (.bipush 6, 2) := by decide +kernel
theorem d_Draft_opOfSign_52 : decode k_Draft_opOfSign 52 = .ok (.ireturn, 1) := by decide +kernel
theorem d_Draft_opOfSign_53 : decode k_Draft_opOfSign 53 = .ok (.bipush (-2), 2) := by decide +kernel
theorem d_Draft_opOfSign_55 : decode k_Draft_opOfSign 55 = .ok (.ireturn, 1) := by decide +kernel
theorem d_Listing_init_0 : decode k_Listing_init 0 = .ok (.aload_n 0, 1) := by decide +kernel
theorem d_Listing_init_1 : decode k_Listing_init 1 = .ok (.invokespecial 3, 3) := by decide +kernel
theorem d_Listing_init_4 : decode k_Listing_init 4 = .ok (.aload_n 0, 1) := by decide +kernel
theorem d_Listing_init_5 : decode k_Listing_init 5 = .ok (.iload_n 1, 1) := by decide +kernel
theorem d_Listing_init_6 : decode k_Listing_init 6 = .ok (.newarray .int, 2) := by decide +kernel
theorem d_Listing_init_8 : decode k_Listing_init 8 = .ok (.putfield 9, 3) := by decide +kernel
theorem d_Listing_init_11 : decode k_Listing_init 11 = .ok (.aload_n 0, 1) := by decide +kernel
theorem d_Listing_init_12 : decode k_Listing_init 12 = .ok (.iload_n 1, 1) := by decide +kernel
theorem d_Listing_init_13 : decode k_Listing_init 13 = .ok (.newarray .int, 2) := by decide +kernel
theorem d_Listing_init_15 : decode k_Listing_init 15 = .ok (.putfield 15, 3) := by decide +kernel
theorem d_Listing_init_18 : decode k_Listing_init 18 = .ok (.aload_n 0, 1) := by decide +kernel
theorem d_Listing_init_19 : decode k_Listing_init 19 = .ok (.iload_n 1, 1) := by decide +kernel
theorem d_Listing_init_20 : decode k_Listing_init 20 = .ok (.iconst 1, 1) := by decide +kernel
theorem d_Listing_init_21 : decode k_Listing_init 21 = .ok (.iadd, 1) := by decide +kernel
theorem d_Listing_init_22 : decode k_Listing_init 22 = .ok (.newarray .int, 2) := by decide +kernel
theorem d_Listing_init_24 : decode k_Listing_init 24 = .ok (.putfield 18, 3) := by decide +kernel
theorem d_Listing_init_27 : decode k_Listing_init 27 = .ok (.aload_n 0, 1) := by decide +kernel
theorem d_Listing_init_28 : decode k_Listing_init 28 = .ok (.iconst 0, 1) := by decide +kernel
theorem d_Listing_init_29 : decode k_Listing_init 29 = .ok (.putfield 21, 3) := by decide +kernel
theorem d_Listing_init_32 : decode k_Listing_init 32 = .ok (.return_, 1) := by decide +kernel
theorem d_Listing_fits_0 : decode k_Listing_fits 0 = .ok (.iload_n 0, 1) := by decide +kernel
theorem d_Listing_fits_1 : decode k_Listing_fits 1 = .ok (.ifCond .lt 9, 3) := by decide +kernel
theorem d_Listing_fits_4 : decode k_Listing_fits 4 = .ok (.iload_n 0, 1) := by decide +kernel
theorem d_Listing_fits_5 : decode k_Listing_fits 5 = .ok (.bipush 10, 2) := by decide +kernel
theorem d_Listing_fits_7 : decode k_Listing_fits 7 = .ok (.if_icmp .le 5, 3) := by decide +kernel
theorem d_Listing_fits_10 : decode k_Listing_fits 10 = .ok (.iconst 0, 1) := by decide +kernel
theorem d_Listing_fits_11 : decode k_Listing_fits 11 = .ok (.ireturn, 1) := by decide +kernel
theorem d_Listing_fits_12 : decode k_Listing_fits 12 = .ok (.iload_n 0, 1) := by decide +kernel
theorem d_Listing_fits_13 : decode k_Listing_fits 13 = .ok (.invokestatic 25, 3) := by decide +kernel
theorem d_Listing_fits_16 : decode k_Listing_fits 16 = .ok (.istore_n 2, 1) := by decide +kernel
theorem d_Listing_fits_17 : decode k_Listing_fits 17 = .ok (.iload_n 2, 1) := by decide +kernel
theorem d_Listing_fits_18 : decode k_Listing_fits 18 = .ok (.iconst (-1), 1) := by decide +kernel
theorem d_Listing_fits_19 : decode k_Listing_fits 19 = .ok (.if_icmp .eq 12, 3) := by decide +kernel
theorem d_Listing_fits_22 : decode k_Listing_fits 22 = .ok (.iload_n 1, 1) := by decide +kernel
theorem d_Listing_fits_23 : decode k_Listing_fits 23 = .ok (.ifCond .lt 12, 3) := by decide +kernel
theorem d_Listing_fits_26 : decode k_Listing_fits 26 = .ok (.iload_n 1, 1) := by decide +kernel
theorem d_Listing_fits_27 : decode k_Listing_fits 27 = .ok (.iload_n 2, 1) := by decide +kernel
theorem d_Listing_fits_28 : decode k_Listing_fits 28 = .ok (.if_icmp .gt 7, 3) := by decide +kernel
theorem d_Listing_fits_31 : decode k_Listing_fits 31 = .ok (.iconst 1, 1) := by decide +kernel
theorem d_Listing_fits_32 : decode k_Listing_fits 32 = .ok (.goto 4, 3) := by decide +kernel
theorem d_Listing_fits_35 : decode k_Listing_fits 35 = .ok (.iconst 0, 1) := by decide +kernel
theorem d_Listing_fits_36 : decode k_Listing_fits 36 = .ok (.ireturn, 1) := by decide +kernel
theorem d_Listing_greatestNumber_0 : decode k_Listing_greatestNumber 0 = .ok (.iload_n 0, 1) := by decide +kernel
theorem d_Listing_greatestNumber_1 : decode k_Listing_greatestNumber 1 = .ok (.tableswitch 63 0 9 #[55, 58, 58, 63, 63, 63, 63, 63, 60, 60], 55) := by decide +kernel
theorem d_Listing_greatestNumber_56 : decode k_Listing_greatestNumber 56 = .ok (.bipush 99, 2) := by decide +kernel
theorem d_Listing_greatestNumber_58 : decode k_Listing_greatestNumber 58 = .ok (.ireturn, 1) := by decide +kernel
theorem d_Listing_greatestNumber_59 : decode k_Listing_greatestNumber 59 = .ok (.iconst 5, 1) := by decide +kernel
theorem d_Listing_greatestNumber_60 : decode k_Listing_greatestNumber 60 = .ok (.ireturn, 1) := by decide +kernel
theorem d_Listing_greatestNumber_61 : decode k_Listing_greatestNumber 61 = .ok (.bipush 30, 2) := by decide +kernel
theorem d_Listing_greatestNumber_63 : decode k_Listing_greatestNumber 63 = .ok (.ireturn, 1) := by decide +kernel
theorem d_Listing_greatestNumber_64 : decode k_Listing_greatestNumber 64 = .ok (.iconst (-1), 1) := by decide +kernel
theorem d_Listing_greatestNumber_65 : decode k_Listing_greatestNumber 65 = .ok (.ireturn, 1) := by decide +kernel
theorem d_Listing_rise_0 : decode k_Listing_rise 0 = .ok (.iload_n 0, 1) := by decide +kernel
theorem d_Listing_rise_1 : decode k_Listing_rise 1 = .ok (.tableswitch 55 0 8 #[51, 51, 55, 55, 55, 55, 55, 53, 53], 51) := by decide +kernel
theorem d_Listing_rise_52 : decode k_Listing_rise 52 = .ok (.iconst 1, 1) := by decide +kernel
theorem d_Listing_rise_53 : decode k_Listing_rise 53 = .ok (.ireturn, 1) := by decide +kernel
theorem d_Listing_rise_54 : decode k_Listing_rise 54 = .ok (.iconst 0, 1) := by decide +kernel
theorem d_Listing_rise_55 : decode k_Listing_rise 55 = .ok (.ireturn, 1) := by decide +kernel
theorem d_Listing_rise_56 : decode k_Listing_rise 56 = .ok (.iconst (-1), 1) := by decide +kernel
theorem d_Listing_rise_57 : decode k_Listing_rise 57 = .ok (.ireturn, 1) := by decide +kernel
theorem d_Listing_size_0 : decode k_Listing_size 0 = .ok (.aload_n 0, 1) := by decide +kernel
theorem d_Listing_size_1 : decode k_Listing_size 1 = .ok (.getfield 21, 3) := by decide +kernel
theorem d_Listing_size_4 : decode k_Listing_size 4 = .ok (.ireturn, 1) := by decide +kernel
theorem d_Listing_holds_0 : decode k_Listing_holds 0 = .ok (.iload_n 1, 1) := by decide +kernel
theorem d_Listing_holds_1 : decode k_Listing_holds 1 = .ok (.ifCond .lt 15, 3) := by decide +kernel
theorem d_Listing_holds_4 : decode k_Listing_holds 4 = .ok (.iload_n 1, 1) := by decide +kernel
theorem d_Listing_holds_5 : decode k_Listing_holds 5 = .ok (.aload_n 0, 1) := by decide +kernel
theorem d_Listing_holds_6 : decode k_Listing_holds 6 = .ok (.getfield 21, 3) := by decide +kernel
theorem d_Listing_holds_9 : decode k_Listing_holds 9 = .ok (.if_icmp .ge 7, 3) := by decide +kernel
theorem d_Listing_holds_12 : decode k_Listing_holds 12 = .ok (.iconst 1, 1) := by decide +kernel
theorem d_Listing_holds_13 : decode k_Listing_holds 13 = .ok (.goto 4, 3) := by decide +kernel
theorem d_Listing_holds_16 : decode k_Listing_holds 16 = .ok (.iconst 0, 1) := by decide +kernel
theorem d_Listing_holds_17 : decode k_Listing_holds 17 = .ok (.ireturn, 1) := by decide +kernel
theorem d_Listing_op_0 : decode k_Listing_op 0 = .ok (.aload_n 0, 1) := by decide +kernel
theorem d_Listing_op_1 : decode k_Listing_op 1 = .ok (.iload_n 1, 1) := by decide +kernel
theorem d_Listing_op_2 : decode k_Listing_op 2 = .ok (.invokevirtual 29, 3) := by decide +kernel
theorem d_Listing_op_5 : decode k_Listing_op 5 = .ok (.ifCond .eq 12, 3) := by decide +kernel
theorem d_Listing_op_8 : decode k_Listing_op 8 = .ok (.aload_n 0, 1) := by decide +kernel
theorem d_Listing_op_9 : decode k_Listing_op 9 = .ok (.getfield 9, 3) := by decide +kernel
theorem d_Listing_op_12 : decode k_Listing_op 12 = .ok (.iload_n 1, 1) := by decide +kernel
theorem d_Listing_op_13 : decode k_Listing_op 13 = .ok (.iaload, 1) := by decide +kernel
theorem d_Listing_op_14 : decode k_Listing_op 14 = .ok (.goto 5, 3) := by decide +kernel
theorem d_Listing_op_17 : decode k_Listing_op 17 = .ok (.bipush (-2), 2) := by decide +kernel
theorem d_Listing_op_19 : decode k_Listing_op 19 = .ok (.ireturn, 1) := by decide +kernel
theorem d_Listing_number_0 : decode k_Listing_number 0 = .ok (.aload_n 0, 1) := by decide +kernel
theorem d_Listing_number_1 : decode k_Listing_number 1 = .ok (.iload_n 1, 1) := by decide +kernel
theorem d_Listing_number_2 : decode k_Listing_number 2 = .ok (.invokevirtual 29, 3) := by decide +kernel
theorem d_Listing_number_5 : decode k_Listing_number 5 = .ok (.ifCond .eq 12, 3) := by decide +kernel
theorem d_Listing_number_8 : decode k_Listing_number 8 = .ok (.aload_n 0, 1) := by decide +kernel
theorem d_Listing_number_9 : decode k_Listing_number 9 = .ok (.getfield 15, 3) := by decide +kernel
theorem d_Listing_number_12 : decode k_Listing_number 12 = .ok (.iload_n 1, 1) := by decide +kernel
theorem d_Listing_number_13 : decode k_Listing_number 13 = .ok (.iaload, 1) := by decide +kernel
theorem d_Listing_number_14 : decode k_Listing_number 14 = .ok (.goto 5, 3) := by decide +kernel
theorem d_Listing_number_17 : decode k_Listing_number 17 = .ok (.bipush (-2), 2) := by decide +kernel
theorem d_Listing_number_19 : decode k_Listing_number 19 = .ok (.ireturn, 1) := by decide +kernel
theorem d_Listing_heightBefore_0 : decode k_Listing_heightBefore 0 = .ok (.iload_n 1, 1) := by decide +kernel
theorem d_Listing_heightBefore_1 : decode k_Listing_heightBefore 1 = .ok (.ifCond .lt 20, 3) := by decide +kernel
theorem d_Listing_heightBefore_4 : decode k_Listing_heightBefore 4 = .ok (.iload_n 1, 1) := by decide +kernel
theorem d_Listing_heightBefore_5 : decode k_Listing_heightBefore 5 = .ok (.aload_n 0, 1) := by decide +kernel
theorem d_Listing_heightBefore_6 : decode k_Listing_heightBefore 6 = .ok (.getfield 21, 3) := by decide +kernel
theorem d_Listing_heightBefore_9 : decode k_Listing_heightBefore 9 = .ok (.if_icmp .gt 12, 3) := by decide +kernel
theorem d_Listing_heightBefore_12 : decode k_Listing_heightBefore 12 = .ok (.aload_n 0, 1) := by decide +kernel
theorem d_Listing_heightBefore_13 : decode k_Listing_heightBefore 13 = .ok (.getfield 18, 3) := by decide +kernel
theorem d_Listing_heightBefore_16 : decode k_Listing_heightBefore 16 = .ok (.iload_n 1, 1) := by decide +kernel
theorem d_Listing_heightBefore_17 : decode k_Listing_heightBefore 17 = .ok (.iaload, 1) := by decide +kernel
theorem d_Listing_heightBefore_18 : decode k_Listing_heightBefore 18 = .ok (.goto 4, 3) := by decide +kernel
theorem d_Listing_heightBefore_21 : decode k_Listing_heightBefore 21 = .ok (.iconst 0, 1) := by decide +kernel
theorem d_Listing_heightBefore_22 : decode k_Listing_heightBefore 22 = .ok (.ireturn, 1) := by decide +kernel
theorem d_Listing_add_0 : decode k_Listing_add 0 = .ok (.aload_n 0, 1) := by decide +kernel
theorem d_Listing_add_1 : decode k_Listing_add 1 = .ok (.getfield 21, 3) := by decide +kernel
theorem d_Listing_add_4 : decode k_Listing_add 4 = .ok (.aload_n 0, 1) := by decide +kernel
theorem d_Listing_add_5 : decode k_Listing_add 5 = .ok (.getfield 9, 3) := by decide +kernel
theorem d_Listing_add_8 : decode k_Listing_add 8 = .ok (.arraylength, 1) := by decide +kernel
theorem d_Listing_add_9 : decode k_Listing_add 9 = .ok (.if_icmp .lt 5, 3) := by decide +kernel
theorem d_Listing_add_12 : decode k_Listing_add 12 = .ok (.iconst 0, 1) := by decide +kernel
theorem d_Listing_add_13 : decode k_Listing_add 13 = .ok (.ireturn, 1) := by decide +kernel
theorem d_Listing_add_14 : decode k_Listing_add 14 = .ok (.aload_n 0, 1) := by decide +kernel
theorem d_Listing_add_15 : decode k_Listing_add 15 = .ok (.dup, 1) := by decide +kernel
theorem d_Listing_add_16 : decode k_Listing_add 16 = .ok (.getfield 21, 3) := by decide +kernel
theorem d_Listing_add_19 : decode k_Listing_add 19 = .ok (.iconst 1, 1) := by decide +kernel
theorem d_Listing_add_20 : decode k_Listing_add 20 = .ok (.iadd, 1) := by decide +kernel
theorem d_Listing_add_21 : decode k_Listing_add 21 = .ok (.putfield 21, 3) := by decide +kernel
theorem d_Listing_add_24 : decode k_Listing_add 24 = .ok (.aload_n 0, 1) := by decide +kernel
theorem d_Listing_add_25 : decode k_Listing_add 25 = .ok (.aload_n 0, 1) := by decide +kernel
theorem d_Listing_add_26 : decode k_Listing_add 26 = .ok (.getfield 21, 3) := by decide +kernel
theorem d_Listing_add_29 : decode k_Listing_add 29 = .ok (.iconst 1, 1) := by decide +kernel
theorem d_Listing_add_30 : decode k_Listing_add 30 = .ok (.isub, 1) := by decide +kernel
theorem d_Listing_add_31 : decode k_Listing_add 31 = .ok (.iload_n 1, 1) := by decide +kernel
theorem d_Listing_add_32 : decode k_Listing_add 32 = .ok (.iload_n 2, 1) := by decide +kernel
theorem d_Listing_add_33 : decode k_Listing_add 33 = .ok (.invokevirtual 33, 3) := by decide +kernel
theorem d_Listing_add_36 : decode k_Listing_add 36 = .ok (.iconst 1, 1) := by decide +kernel
theorem d_Listing_add_37 : decode k_Listing_add 37 = .ok (.ireturn, 1) := by decide +kernel
theorem d_Listing_set_0 : decode k_Listing_set 0 = .ok (.aload_n 0, 1) := by decide +kernel
theorem d_Listing_set_1 : decode k_Listing_set 1 = .ok (.iload_n 1, 1) := by decide +kernel
theorem d_Listing_set_2 : decode k_Listing_set 2 = .ok (.invokevirtual 29, 3) := by decide +kernel
theorem d_Listing_set_5 : decode k_Listing_set 5 = .ok (.ifCond .ne 4, 3) := by decide +kernel
theorem d_Listing_set_8 : decode k_Listing_set 8 = .ok (.return_, 1) := by decide +kernel
theorem d_Listing_set_9 : decode k_Listing_set 9 = .ok (.aload_n 0, 1) := by decide +kernel
theorem d_Listing_set_10 : decode k_Listing_set 10 = .ok (.getfield 9, 3) := by decide +kernel
theorem d_Listing_set_13 : decode k_Listing_set 13 = .ok (.iload_n 1, 1) := by decide +kernel
theorem d_Listing_set_14 : decode k_Listing_set 14 = .ok (.iload_n 2, 1) := by decide +kernel
theorem d_Listing_set_15 : decode k_Listing_set 15 = .ok (.iastore, 1) := by decide +kernel
theorem d_Listing_set_16 : decode k_Listing_set 16 = .ok (.aload_n 0, 1) := by decide +kernel
theorem d_Listing_set_17 : decode k_Listing_set 17 = .ok (.getfield 15, 3) := by decide +kernel
theorem d_Listing_set_20 : decode k_Listing_set 20 = .ok (.iload_n 1, 1) := by decide +kernel
theorem d_Listing_set_21 : decode k_Listing_set 21 = .ok (.iload_n 2, 1) := by decide +kernel
theorem d_Listing_set_22 : decode k_Listing_set 22 = .ok (.invokestatic 25, 3) := by decide +kernel
theorem d_Listing_set_25 : decode k_Listing_set 25 = .ok (.iconst (-1), 1) := by decide +kernel
theorem d_Listing_set_26 : decode k_Listing_set 26 = .ok (.if_icmp .ne 7, 3) := by decide +kernel
theorem d_Listing_set_29 : decode k_Listing_set 29 = .ok (.iconst 0, 1) := by decide +kernel
theorem d_Listing_set_30 : decode k_Listing_set 30 = .ok (.goto 4, 3) := by decide +kernel
theorem d_Listing_set_33 : decode k_Listing_set 33 = .ok (.iload_n 3, 1) := by decide +kernel
theorem d_Listing_set_34 : decode k_Listing_set 34 = .ok (.iastore, 1) := by decide +kernel
theorem d_Listing_set_35 : decode k_Listing_set 35 = .ok (.iload_n 1, 1) := by decide +kernel
theorem d_Listing_set_36 : decode k_Listing_set 36 = .ok (.istore 4, 2) := by decide +kernel
theorem d_Listing_set_38 : decode k_Listing_set 38 = .ok (.iload 4, 2) := by decide +kernel
theorem d_Listing_set_40 : decode k_Listing_set 40 = .ok (.aload_n 0, 1) := by decide +kernel
theorem d_Listing_set_41 : decode k_Listing_set 41 = .ok (.getfield 21, 3) := by decide +kernel
theorem d_Listing_set_44 : decode k_Listing_set 44 = .ok (.if_icmp .ge 36, 3) := by decide +kernel
theorem d_Listing_set_47 : decode k_Listing_set 47 = .ok (.aload_n 0, 1) := by decide +kernel
theorem d_Listing_set_48 : decode k_Listing_set 48 = .ok (.getfield 18, 3) := by decide +kernel
theorem d_Listing_set_51 : decode k_Listing_set 51 = .ok (.iload 4, 2) := by decide +kernel
theorem d_Listing_set_53 : decode k_Listing_set 53 = .ok (.iconst 1, 1) := by decide +kernel
theorem d_Listing_set_54 : decode k_Listing_set 54 = .ok (.iadd, 1) := by decide +kernel
theorem d_Listing_set_55 : decode k_Listing_set 55 = .ok (.aload_n 0, 1) := by decide +kernel
theorem d_Listing_set_56 : decode k_Listing_set 56 = .ok (.getfield 18, 3) := by decide +kernel
theorem d_Listing_set_59 : decode k_Listing_set 59 = .ok (.iload 4, 2) := by decide +kernel
theorem d_Listing_set_61 : decode k_Listing_set 61 = .ok (.iaload, 1) := by decide +kernel
theorem d_Listing_set_62 : decode k_Listing_set 62 = .ok (.aload_n 0, 1) := by decide +kernel
theorem d_Listing_set_63 : decode k_Listing_set 63 = .ok (.getfield 9, 3) := by decide +kernel
theorem d_Listing_set_66 : decode k_Listing_set 66 = .ok (.iload 4, 2) := by decide +kernel
theorem d_Listing_set_68 : decode k_Listing_set 68 = .ok (.iaload, 1) := by decide +kernel
theorem d_Listing_set_69 : decode k_Listing_set 69 = .ok (.invokestatic 37, 3) := by decide +kernel
theorem d_Listing_set_72 : decode k_Listing_set 72 = .ok (.iadd, 1) := by decide +kernel
theorem d_Listing_set_73 : decode k_Listing_set 73 = .ok (.iastore, 1) := by decide +kernel
theorem d_Listing_set_74 : decode k_Listing_set 74 = .ok (.iinc 4 1, 3) := by decide +kernel
theorem d_Listing_set_77 : decode k_Listing_set 77 = .ok (.goto (-39), 3) := by decide +kernel
theorem d_Listing_set_80 : decode k_Listing_set 80 = .ok (.return_, 1) := by decide +kernel
theorem d_Listing_drop_0 : decode k_Listing_drop 0 = .ok (.aload_n 0, 1) := by decide +kernel
theorem d_Listing_drop_1 : decode k_Listing_drop 1 = .ok (.iconst 0, 1) := by decide +kernel
theorem d_Listing_drop_2 : decode k_Listing_drop 2 = .ok (.putfield 21, 3) := by decide +kernel
theorem d_Listing_drop_5 : decode k_Listing_drop 5 = .ok (.return_, 1) := by decide +kernel
theorem d_Listing_become_0 : decode k_Listing_become 0 = .ok (.aload_n 0, 1) := by decide +kernel
theorem d_Listing_become_1 : decode k_Listing_become 1 = .ok (.aload_n 1, 1) := by decide +kernel
theorem d_Listing_become_2 : decode k_Listing_become 2 = .ok (.getfield 21, 3) := by decide +kernel
theorem d_Listing_become_5 : decode k_Listing_become 5 = .ok (.aload_n 0, 1) := by decide +kernel
theorem d_Listing_become_6 : decode k_Listing_become 6 = .ok (.getfield 9, 3) := by decide +kernel
theorem d_Listing_become_9 : decode k_Listing_become 9 = .ok (.arraylength, 1) := by decide +kernel
theorem d_Listing_become_10 : decode k_Listing_become 10 = .ok (.invokestatic 40, 3) := by decide +kernel
theorem d_Listing_become_13 : decode k_Listing_become 13 = .ok (.putfield 21, 3) := by decide +kernel
theorem d_Listing_become_16 : decode k_Listing_become 16 = .ok (.aload_n 1, 1) := by decide +kernel
theorem d_Listing_become_17 : decode k_Listing_become 17 = .ok (.getfield 9, 3) := by decide +kernel
theorem d_Listing_become_20 : decode k_Listing_become 20 = .ok (.iconst 0, 1) := by decide +kernel
theorem d_Listing_become_21 : decode k_Listing_become 21 = .ok (.aload_n 0, 1) := by decide +kernel
theorem d_Listing_become_22 : decode k_Listing_become 22 = .ok (.getfield 9, 3) := by decide +kernel
theorem d_Listing_become_25 : decode k_Listing_become 25 = .ok (.iconst 0, 1) := by decide +kernel
theorem d_Listing_become_26 : decode k_Listing_become 26 = .ok (.aload_n 0, 1) := by decide +kernel
theorem d_Listing_become_27 : decode k_Listing_become 27 = .ok (.getfield 21, 3) := by decide +kernel
theorem d_Listing_become_30 : decode k_Listing_become 30 = .ok (.invokestatic 46, 3) := by decide +kernel
theorem d_Listing_become_33 : decode k_Listing_become 33 = .ok (.aload_n 1, 1) := by decide +kernel
theorem d_Listing_become_34 : decode k_Listing_become 34 = .ok (.getfield 15, 3) := by decide +kernel
theorem d_Listing_become_37 : decode k_Listing_become 37 = .ok (.iconst 0, 1) := by decide +kernel
theorem d_Listing_become_38 : decode k_Listing_become 38 = .ok (.aload_n 0, 1) := by decide +kernel
theorem d_Listing_become_39 : decode k_Listing_become 39 = .ok (.getfield 15, 3) := by decide +kernel
theorem d_Listing_become_42 : decode k_Listing_become 42 = .ok (.iconst 0, 1) := by decide +kernel
theorem d_Listing_become_43 : decode k_Listing_become 43 = .ok (.aload_n 0, 1) := by decide +kernel
theorem d_Listing_become_44 : decode k_Listing_become 44 = .ok (.getfield 21, 3) := by decide +kernel
theorem d_Listing_become_47 : decode k_Listing_become 47 = .ok (.invokestatic 46, 3) := by decide +kernel
theorem d_Listing_become_50 : decode k_Listing_become 50 = .ok (.aload_n 1, 1) := by decide +kernel
theorem d_Listing_become_51 : decode k_Listing_become 51 = .ok (.getfield 18, 3) := by decide +kernel
theorem d_Listing_become_54 : decode k_Listing_become 54 = .ok (.iconst 0, 1) := by decide +kernel
theorem d_Listing_become_55 : decode k_Listing_become 55 = .ok (.aload_n 0, 1) := by decide +kernel
theorem d_Listing_become_56 : decode k_Listing_become 56 = .ok (.getfield 18, 3) := by decide +kernel
theorem d_Listing_become_59 : decode k_Listing_become 59 = .ok (.iconst 0, 1) := by decide +kernel
theorem d_Listing_become_60 : decode k_Listing_become 60 = .ok (.aload_n 0, 1) := by decide +kernel
theorem d_Listing_become_61 : decode k_Listing_become 61 = .ok (.getfield 21, 3) := by decide +kernel
theorem d_Listing_become_64 : decode k_Listing_become 64 = .ok (.iconst 1, 1) := by decide +kernel
theorem d_Listing_become_65 : decode k_Listing_become 65 = .ok (.iadd, 1) := by decide +kernel
theorem d_Listing_become_66 : decode k_Listing_become 66 = .ok (.invokestatic 46, 3) := by decide +kernel
theorem d_Listing_become_69 : decode k_Listing_become 69 = .ok (.return_, 1) := by decide +kernel
theorem d_Listing_leastWrong_0 : decode k_Listing_leastWrong 0 = .ok (.iconst 0, 1) := by decide +kernel
theorem d_Listing_leastWrong_1 : decode k_Listing_leastWrong 1 = .ok (.istore_n 1, 1) := by decide +kernel
theorem d_Listing_leastWrong_2 : decode k_Listing_leastWrong 2 = .ok (.iload_n 1, 1) := by decide +kernel
theorem d_Listing_leastWrong_3 : decode k_Listing_leastWrong 3 = .ok (.aload_n 0, 1) := by decide +kernel
theorem d_Listing_leastWrong_4 : decode k_Listing_leastWrong 4 = .ok (.getfield 21, 3) := by decide +kernel
theorem d_Listing_leastWrong_7 : decode k_Listing_leastWrong 7 = .ok (.if_icmp .ge 19, 3) := by decide +kernel
theorem d_Listing_leastWrong_10 : decode k_Listing_leastWrong 10 = .ok (.aload_n 0, 1) := by decide +kernel
theorem d_Listing_leastWrong_11 : decode k_Listing_leastWrong 11 = .ok (.iload_n 1, 1) := by decide +kernel
theorem d_Listing_leastWrong_12 : decode k_Listing_leastWrong 12 = .ok (.invokevirtual 52, 3) := by decide +kernel
theorem d_Listing_leastWrong_15 : decode k_Listing_leastWrong 15 = .ok (.ifCond .eq 5, 3) := by decide +kernel
theorem d_Listing_leastWrong_18 : decode k_Listing_leastWrong 18 = .ok (.iload_n 1, 1) := by decide +kernel
theorem d_Listing_leastWrong_19 : decode k_Listing_leastWrong 19 = .ok (.ireturn, 1) := by decide +kernel
theorem d_Listing_leastWrong_20 : decode k_Listing_leastWrong 20 = .ok (.iinc 1 1, 3) := by decide +kernel
theorem d_Listing_leastWrong_23 : decode k_Listing_leastWrong 23 = .ok (.goto (-21), 3) := by decide +kernel
theorem d_Listing_leastWrong_26 : decode k_Listing_leastWrong 26 = .ok (.aload_n 0, 1) := by decide +kernel
theorem d_Listing_leastWrong_27 : decode k_Listing_leastWrong 27 = .ok (.aload_n 0, 1) := by decide +kernel
theorem d_Listing_leastWrong_28 : decode k_Listing_leastWrong 28 = .ok (.getfield 21, 3) := by decide +kernel
theorem d_Listing_leastWrong_31 : decode k_Listing_leastWrong 31 = .ok (.invokevirtual 55, 3) := by decide +kernel
theorem d_Listing_leastWrong_34 : decode k_Listing_leastWrong 34 = .ok (.ifCond .ne 8, 3) := by decide +kernel
theorem d_Listing_leastWrong_37 : decode k_Listing_leastWrong 37 = .ok (.bipush (-2), 2) := by decide +kernel
theorem d_Listing_leastWrong_39 : decode k_Listing_leastWrong 39 = .ok (.goto 7, 3) := by decide +kernel
theorem d_Listing_leastWrong_42 : decode k_Listing_leastWrong 42 = .ok (.aload_n 0, 1) := by decide +kernel
theorem d_Listing_leastWrong_43 : decode k_Listing_leastWrong 43 = .ok (.getfield 21, 3) := by decide +kernel
theorem d_Listing_leastWrong_46 : decode k_Listing_leastWrong 46 = .ok (.ireturn, 1) := by decide +kernel
theorem d_Listing_isWrong_0 : decode k_Listing_isWrong 0 = .ok (.aload_n 0, 1) := by decide +kernel
theorem d_Listing_isWrong_1 : decode k_Listing_isWrong 1 = .ok (.iload_n 1, 1) := by decide +kernel
theorem d_Listing_isWrong_2 : decode k_Listing_isWrong 2 = .ok (.invokevirtual 55, 3) := by decide +kernel
theorem d_Listing_isWrong_5 : decode k_Listing_isWrong 5 = .ok (.istore_n 2, 1) := by decide +kernel
theorem d_Listing_isWrong_6 : decode k_Listing_isWrong 6 = .ok (.aload_n 0, 1) := by decide +kernel
theorem d_Listing_isWrong_7 : decode k_Listing_isWrong 7 = .ok (.iload_n 1, 1) := by decide +kernel
theorem d_Listing_isWrong_8 : decode k_Listing_isWrong 8 = .ok (.invokevirtual 58, 3) := by decide +kernel
theorem d_Listing_isWrong_11 : decode k_Listing_isWrong 11 = .ok (.tableswitch 132 0 9 #[53, 53, 132, 65, 65, 65, 65, 76, 87, 109], 53) := by decide +kernel
theorem d_Listing_isWrong_64 : decode k_Listing_isWrong 64 = .ok (.iload_n 2, 1) := by decide +kernel
theorem d_Listing_isWrong_65 : decode k_Listing_isWrong 65 = .ok (.bipush 8, 2) := by decide +kernel
theorem d_Listing_isWrong_67 : decode k_Listing_isWrong 67 = .ok (.if_icmp .lt 7, 3) := by decide +kernel
theorem d_Listing_isWrong_70 : decode k_Listing_isWrong 70 = .ok (.iconst 1, 1) := by decide +kernel
theorem d_Listing_isWrong_71 : decode k_Listing_isWrong 71 = .ok (.goto 4, 3) := by decide +kernel
theorem d_Listing_isWrong_74 : decode k_Listing_isWrong 74 = .ok (.iconst 0, 1) := by decide +kernel
theorem d_Listing_isWrong_75 : decode k_Listing_isWrong 75 = .ok (.ireturn, 1) := by decide +kernel
theorem d_Listing_isWrong_76 : decode k_Listing_isWrong 76 = .ok (.iload_n 2, 1) := by decide +kernel
theorem d_Listing_isWrong_77 : decode k_Listing_isWrong 77 = .ok (.iconst 2, 1) := by decide +kernel
theorem d_Listing_isWrong_78 : decode k_Listing_isWrong 78 = .ok (.if_icmp .ge 7, 3) := by decide +kernel
theorem d_Listing_isWrong_81 : decode k_Listing_isWrong 81 = .ok (.iconst 1, 1) := by decide +kernel
theorem d_Listing_isWrong_82 : decode k_Listing_isWrong 82 = .ok (.goto 4, 3) := by decide +kernel
theorem d_Listing_isWrong_85 : decode k_Listing_isWrong 85 = .ok (.iconst 0, 1) := by decide +kernel
theorem d_Listing_isWrong_86 : decode k_Listing_isWrong 86 = .ok (.ireturn, 1) := by decide +kernel
theorem d_Listing_isWrong_87 : decode k_Listing_isWrong 87 = .ok (.iload_n 2, 1) := by decide +kernel
theorem d_Listing_isWrong_88 : decode k_Listing_isWrong 88 = .ok (.iconst 1, 1) := by decide +kernel
theorem d_Listing_isWrong_89 : decode k_Listing_isWrong 89 = .ok (.if_icmp .ge 7, 3) := by decide +kernel
theorem d_Listing_isWrong_92 : decode k_Listing_isWrong 92 = .ok (.iconst 1, 1) := by decide +kernel
theorem d_Listing_isWrong_93 : decode k_Listing_isWrong 93 = .ok (.goto 4, 3) := by decide +kernel
theorem d_Listing_isWrong_96 : decode k_Listing_isWrong 96 = .ok (.iconst 0, 1) := by decide +kernel
theorem d_Listing_isWrong_97 : decode k_Listing_isWrong 97 = .ok (.ireturn, 1) := by decide +kernel
theorem d_Listing_isWrong_98 : decode k_Listing_isWrong 98 = .ok (.iload_n 2, 1) := by decide +kernel
theorem d_Listing_isWrong_99 : decode k_Listing_isWrong 99 = .ok (.ifCond .ne 15, 3) := by decide +kernel
theorem d_Listing_isWrong_102 : decode k_Listing_isWrong 102 = .ok (.aload_n 0, 1) := by decide +kernel
theorem d_Listing_isWrong_103 : decode k_Listing_isWrong 103 = .ok (.aload_n 0, 1) := by decide +kernel
theorem d_Listing_isWrong_104 : decode k_Listing_isWrong 104 = .ok (.iload_n 1, 1) := by decide +kernel
theorem d_Listing_isWrong_105 : decode k_Listing_isWrong 105 = .ok (.invokevirtual 61, 3) := by decide +kernel
theorem d_Listing_isWrong_108 : decode k_Listing_isWrong 108 = .ok (.invokevirtual 64, 3) := by decide +kernel
theorem d_Listing_isWrong_111 : decode k_Listing_isWrong 111 = .ok (.ifCond .ne 7, 3) := by decide +kernel
theorem d_Listing_isWrong_114 : decode k_Listing_isWrong 114 = .ok (.iconst 1, 1) := by decide +kernel
theorem d_Listing_isWrong_115 : decode k_Listing_isWrong 115 = .ok (.goto 4, 3) := by decide +kernel
theorem d_Listing_isWrong_118 : decode k_Listing_isWrong 118 = .ok (.iconst 0, 1) := by decide +kernel
theorem d_Listing_isWrong_119 : decode k_Listing_isWrong 119 = .ok (.ireturn, 1) := by decide +kernel
theorem d_Listing_isWrong_120 : decode k_Listing_isWrong 120 = .ok (.iload_n 2, 1) := by decide +kernel
theorem d_Listing_isWrong_121 : decode k_Listing_isWrong 121 = .ok (.iconst 1, 1) := by decide +kernel
theorem d_Listing_isWrong_122 : decode k_Listing_isWrong 122 = .ok (.if_icmp .ne 15, 3) := by decide +kernel
theorem d_Listing_isWrong_125 : decode k_Listing_isWrong 125 = .ok (.aload_n 0, 1) := by decide +kernel
theorem d_Listing_isWrong_126 : decode k_Listing_isWrong 126 = .ok (.aload_n 0, 1) := by decide +kernel
theorem d_Listing_isWrong_127 : decode k_Listing_isWrong 127 = .ok (.iload_n 1, 1) := by decide +kernel
theorem d_Listing_isWrong_128 : decode k_Listing_isWrong 128 = .ok (.invokevirtual 61, 3) := by decide +kernel
theorem d_Listing_isWrong_131 : decode k_Listing_isWrong 131 = .ok (.invokevirtual 64, 3) := by decide +kernel
theorem d_Listing_isWrong_134 : decode k_Listing_isWrong 134 = .ok (.ifCond .ne 7, 3) := by decide +kernel
theorem d_Listing_isWrong_137 : decode k_Listing_isWrong 137 = .ok (.iconst 1, 1) := by decide +kernel
theorem d_Listing_isWrong_138 : decode k_Listing_isWrong 138 = .ok (.goto 4, 3) := by decide +kernel
theorem d_Listing_isWrong_141 : decode k_Listing_isWrong 141 = .ok (.iconst 0, 1) := by decide +kernel
theorem d_Listing_isWrong_142 : decode k_Listing_isWrong 142 = .ok (.ireturn, 1) := by decide +kernel
theorem d_Listing_isWrong_143 : decode k_Listing_isWrong 143 = .ok (.iload_n 2, 1) := by decide +kernel
theorem d_Listing_isWrong_144 : decode k_Listing_isWrong 144 = .ok (.iconst 1, 1) := by decide +kernel
theorem d_Listing_isWrong_145 : decode k_Listing_isWrong 145 = .ok (.if_icmp .eq 7, 3) := by decide +kernel
theorem d_Listing_isWrong_148 : decode k_Listing_isWrong 148 = .ok (.iconst 1, 1) := by decide +kernel
theorem d_Listing_isWrong_149 : decode k_Listing_isWrong 149 = .ok (.goto 4, 3) := by decide +kernel
theorem d_Listing_isWrong_152 : decode k_Listing_isWrong 152 = .ok (.iconst 0, 1) := by decide +kernel
theorem d_Listing_isWrong_153 : decode k_Listing_isWrong 153 = .ok (.ireturn, 1) := by decide +kernel
theorem d_Listing_isLanding_0 : decode k_Listing_isLanding 0 = .ok (.iload_n 1, 1) := by decide +kernel
theorem d_Listing_isLanding_1 : decode k_Listing_isLanding 1 = .ok (.aload_n 0, 1) := by decide +kernel
theorem d_Listing_isLanding_2 : decode k_Listing_isLanding 2 = .ok (.getfield 21, 3) := by decide +kernel
theorem d_Listing_isLanding_5 : decode k_Listing_isLanding 5 = .ok (.if_icmp .gt 15, 3) := by decide +kernel
theorem d_Listing_isLanding_8 : decode k_Listing_isLanding 8 = .ok (.aload_n 0, 1) := by decide +kernel
theorem d_Listing_isLanding_9 : decode k_Listing_isLanding 9 = .ok (.iload_n 1, 1) := by decide +kernel
theorem d_Listing_isLanding_10 : decode k_Listing_isLanding 10 = .ok (.invokevirtual 55, 3) := by decide +kernel
theorem d_Listing_isLanding_13 : decode k_Listing_isLanding 13 = .ok (.ifCond .ne 7, 3) := by decide +kernel
theorem d_Listing_isLanding_16 : decode k_Listing_isLanding 16 = .ok (.iconst 1, 1) := by decide +kernel
theorem d_Listing_isLanding_17 : decode k_Listing_isLanding 17 = .ok (.goto 4, 3) := by decide +kernel
theorem d_Listing_isLanding_20 : decode k_Listing_isLanding 20 = .ok (.iconst 0, 1) := by decide +kernel
theorem d_Listing_isLanding_21 : decode k_Listing_isLanding 21 = .ok (.ireturn, 1) := by decide +kernel
theorem d_Machine_init_0 : decode k_Machine_init 0 = .ok (.aload_n 0, 1) := by decide +kernel
theorem d_Machine_init_1 : decode k_Machine_init 1 = .ok (.invokespecial 3, 3) := by decide +kernel
theorem d_Machine_init_4 : decode k_Machine_init 4 = .ok (.aload_n 0, 1) := by decide +kernel
theorem d_Machine_init_5 : decode k_Machine_init 5 = .ok (.bipush 16, 2) := by decide +kernel
theorem d_Machine_init_7 : decode k_Machine_init 7 = .ok (.newarray .int, 2) := by decide +kernel
theorem d_Machine_init_9 : decode k_Machine_init 9 = .ok (.putfield 9, 3) := by decide +kernel
theorem d_Machine_init_12 : decode k_Machine_init 12 = .ok (.aload_n 0, 1) := by decide +kernel
theorem d_Machine_init_13 : decode k_Machine_init 13 = .ok (.bipush 6, 2) := by decide +kernel
theorem d_Machine_init_15 : decode k_Machine_init 15 = .ok (.newarray .int, 2) := by decide +kernel
theorem d_Machine_init_17 : decode k_Machine_init 17 = .ok (.putfield 15, 3) := by decide +kernel
theorem d_Machine_init_20 : decode k_Machine_init 20 = .ok (.aload_n 0, 1) := by decide +kernel
theorem d_Machine_init_21 : decode k_Machine_init 21 = .ok (.bipush 20, 2) := by decide +kernel
theorem d_Machine_init_23 : decode k_Machine_init 23 = .ok (.newarray .int, 2) := by decide +kernel
theorem d_Machine_init_25 : decode k_Machine_init 25 = .ok (.putfield 18, 3) := by decide +kernel
theorem d_Machine_init_28 : decode k_Machine_init 28 = .ok (.aload_n 0, 1) := by decide +kernel
theorem d_Machine_init_29 : decode k_Machine_init 29 = .ok (.iconst 0, 1) := by decide +kernel
theorem d_Machine_init_30 : decode k_Machine_init 30 = .ok (.putfield 21, 3) := by decide +kernel
theorem d_Machine_init_33 : decode k_Machine_init 33 = .ok (.aload_n 0, 1) := by decide +kernel
theorem d_Machine_init_34 : decode k_Machine_init 34 = .ok (.iconst 0, 1) := by decide +kernel
theorem d_Machine_init_35 : decode k_Machine_init 35 = .ok (.putfield 25, 3) := by decide +kernel
theorem d_Machine_init_38 : decode k_Machine_init 38 = .ok (.aload_n 0, 1) := by decide +kernel
theorem d_Machine_init_39 : decode k_Machine_init 39 = .ok (.iconst 0, 1) := by decide +kernel
theorem d_Machine_init_40 : decode k_Machine_init 40 = .ok (.putfield 28, 3) := by decide +kernel
theorem d_Machine_init_43 : decode k_Machine_init 43 = .ok (.aload_n 0, 1) := by decide +kernel
theorem d_Machine_init_44 : decode k_Machine_init 44 = .ok (.iconst 0, 1) := by decide +kernel
theorem d_Machine_init_45 : decode k_Machine_init 45 = .ok (.putfield 31, 3) := by decide +kernel
theorem d_Machine_init_48 : decode k_Machine_init 48 = .ok (.return_, 1) := by decide +kernel
