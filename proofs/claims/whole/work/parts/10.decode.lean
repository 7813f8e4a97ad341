theorem d_S_init_0 : decode k_S_init 0 = .ok (.aload_n 0, 1) := by decide +kernel
theorem d_S_init_1 : decode k_S_init 1 = .ok (.invokespecial 3, 3) := by decide +kernel
theorem d_S_init_4 : decode k_S_init 4 = .ok (.aload_n 0, 1) := by decide +kernel
theorem d_S_init_5 : decode k_S_init 5 = .ok (.new 9, 3) := by decide +kernel
theorem d_S_init_8 : decode k_S_init 8 = .ok (.dup, 1) := by decide +kernel
theorem d_S_init_9 : decode k_S_init 9 = .ok (.bipush 30, 2) := by decide +kernel
theorem d_S_init_11 : decode k_S_init 11 = .ok (.invokespecial 11, 3) := by decide +kernel
theorem d_S_init_14 : decode k_S_init 14 = .ok (.putfield 14, 3) := by decide +kernel
theorem d_S_init_17 : decode k_S_init 17 = .ok (.aload_n 0, 1) := by decide +kernel
theorem d_S_init_18 : decode k_S_init 18 = .ok (.new 18, 3) := by decide +kernel
theorem d_S_init_21 : decode k_S_init 21 = .ok (.dup, 1) := by decide +kernel
theorem d_S_init_22 : decode k_S_init 22 = .ok (.invokespecial 20, 3) := by decide +kernel
theorem d_S_init_25 : decode k_S_init 25 = .ok (.putfield 21, 3) := by decide +kernel
theorem d_S_init_28 : decode k_S_init 28 = .ok (.aload_n 0, 1) := by decide +kernel
theorem d_S_init_29 : decode k_S_init 29 = .ok (.new 25, 3) := by decide +kernel
theorem d_S_init_32 : decode k_S_init 32 = .ok (.dup, 1) := by decide +kernel
theorem d_S_init_33 : decode k_S_init 33 = .ok (.bipush 90, 2) := by decide +kernel
theorem d_S_init_35 : decode k_S_init 35 = .ok (.invokespecial 27, 3) := by decide +kernel
theorem d_S_init_38 : decode k_S_init 38 = .ok (.putfield 28, 3) := by decide +kernel
theorem d_S_init_41 : decode k_S_init 41 = .ok (.aload_n 0, 1) := by decide +kernel
theorem d_S_init_42 : decode k_S_init 42 = .ok (.new 32, 3) := by decide +kernel
theorem d_S_init_45 : decode k_S_init 45 = .ok (.dup, 1) := by decide +kernel
theorem d_S_init_46 : decode k_S_init 46 = .ok (.invokespecial 34, 3) := by decide +kernel
theorem d_S_init_49 : decode k_S_init 49 = .ok (.putfield 35, 3) := by decide +kernel
theorem d_S_init_52 : decode k_S_init 52 = .ok (.aload_n 0, 1) := by decide +kernel
theorem d_S_init_53 : decode k_S_init 53 = .ok (.new 39, 3) := by decide +kernel
theorem d_S_init_56 : decode k_S_init 56 = .ok (.dup, 1) := by decide +kernel
theorem d_S_init_57 : decode k_S_init 57 = .ok (.invokespecial 41, 3) := by decide +kernel
theorem d_S_init_60 : decode k_S_init 60 = .ok (.putfield 42, 3) := by decide +kernel
theorem d_S_init_63 : decode k_S_init 63 = .ok (.aload_n 0, 1) := by decide +kernel
theorem d_S_init_64 : decode k_S_init 64 = .ok (.bipush (-2), 2) := by decide +kernel
theorem d_S_init_66 : decode k_S_init 66 = .ok (.putfield 46, 3) := by decide +kernel
theorem d_S_init_69 : decode k_S_init 69 = .ok (.return_, 1) := by decide +kernel
theorem d_S_put_0 : decode k_S_put 0 = .ok (.iload_n 1, 1) := by decide +kernel
theorem d_S_put_1 : decode k_S_put 1 = .ok (.iload_n 2, 1) := by decide +kernel
theorem d_S_put_2 : decode k_S_put 2 = .ok (.invokestatic 50, 3) := by decide +kernel
theorem d_S_put_5 : decode k_S_put 5 = .ok (.ifCond .ne 5, 3) := by decide +kernel
theorem d_S_put_8 : decode k_S_put 8 = .ok (.iconst (-1), 1) := by decide +kernel
theorem d_S_put_9 : decode k_S_put 9 = .ok (.ireturn, 1) := by decide +kernel
theorem d_S_put_10 : decode k_S_put 10 = .ok (.aload_n 0, 1) := by decide +kernel
theorem d_S_put_11 : decode k_S_put 11 = .ok (.getfield 14, 3) := by decide +kernel
theorem d_S_put_14 : decode k_S_put 14 = .ok (.iload_n 1, 1) := by decide +kernel
theorem d_S_put_15 : decode k_S_put 15 = .ok (.iload_n 2, 1) := by decide +kernel
theorem d_S_put_16 : decode k_S_put 16 = .ok (.invokevirtual 54, 3) := by decide +kernel
theorem d_S_put_19 : decode k_S_put 19 = .ok (.ifCond .eq 13, 3) := by decide +kernel
theorem d_S_put_22 : decode k_S_put 22 = .ok (.aload_n 0, 1) := by decide +kernel
theorem d_S_put_23 : decode k_S_put 23 = .ok (.getfield 14, 3) := by decide +kernel
theorem d_S_put_26 : decode k_S_put 26 = .ok (.invokevirtual 57, 3) := by decide +kernel
theorem d_S_put_29 : decode k_S_put 29 = .ok (.goto 5, 3) := by decide +kernel
theorem d_S_put_32 : decode k_S_put 32 = .ok (.bipush (-3), 2) := by decide +kernel
theorem d_S_put_34 : decode k_S_put 34 = .ok (.ireturn, 1) := by decide +kernel
theorem d_S_change_0 : decode k_S_change 0 = .ok (.aload_n 0, 1) := by decide +kernel
theorem d_S_change_1 : decode k_S_change 1 = .ok (.getfield 14, 3) := by decide +kernel
theorem d_S_change_4 : decode k_S_change 4 = .ok (.iload_n 1, 1) := by decide +kernel
theorem d_S_change_5 : decode k_S_change 5 = .ok (.invokevirtual 61, 3) := by decide +kernel
theorem d_S_change_8 : decode k_S_change 8 = .ok (.ifCond .eq 11, 3) := by decide +kernel
theorem d_S_change_11 : decode k_S_change 11 = .ok (.iload_n 2, 1) := by decide +kernel
theorem d_S_change_12 : decode k_S_change 12 = .ok (.iload_n 3, 1) := by decide +kernel
theorem d_S_change_13 : decode k_S_change 13 = .ok (.invokestatic 50, 3) := by decide +kernel
theorem d_S_change_16 : decode k_S_change 16 = .ok (.ifCond .ne 5, 3) := by decide +kernel
theorem d_S_change_19 : decode k_S_change 19 = .ok (.iconst 0, 1) := by decide +kernel
theorem d_S_change_20 : decode k_S_change 20 = .ok (.ireturn, 1) := by decide +kernel
theorem d_S_change_21 : decode k_S_change 21 = .ok (.aload_n 0, 1) := by decide +kernel
theorem d_S_change_22 : decode k_S_change 22 = .ok (.getfield 14, 3) := by decide +kernel
theorem d_S_change_25 : decode k_S_change 25 = .ok (.iload_n 1, 1) := by decide +kernel
theorem d_S_change_26 : decode k_S_change 26 = .ok (.iload_n 2, 1) := by decide +kernel
theorem d_S_change_27 : decode k_S_change 27 = .ok (.iload_n 3, 1) := by decide +kernel
theorem d_S_change_28 : decode k_S_change 28 = .ok (.invokevirtual 65, 3) := by decide +kernel
theorem d_S_change_31 : decode k_S_change 31 = .ok (.iconst 1, 1) := by decide +kernel
theorem d_S_change_32 : decode k_S_change 32 = .ok (.ireturn, 1) := by decide +kernel
theorem d_S_clear_0 : decode k_S_clear 0 = .ok (.iconst (-1), 1) := by decide +kernel
theorem d_S_clear_1 : decode k_S_clear 1 = .ok (.istore_n 2, 1) := by decide +kernel
theorem d_S_clear_2 : decode k_S_clear 2 = .ok (.iload_n 1, 1) := by decide +kernel
theorem d_S_clear_3 : decode k_S_clear 3 = .ok (.ifCond .ne 21, 3) := by decide +kernel
theorem d_S_clear_6 : decode k_S_clear 6 = .ok (.aload_n 0, 1) := by decide +kernel
theorem d_S_clear_7 : decode k_S_clear 7 = .ok (.getfield 14, 3) := by decide +kernel
theorem d_S_clear_10 : decode k_S_clear 10 = .ok (.invokevirtual 57, 3) := by decide +kernel
theorem d_S_clear_13 : decode k_S_clear 13 = .ok (.istore_n 2, 1) := by decide +kernel
theorem d_S_clear_14 : decode k_S_clear 14 = .ok (.aload_n 0, 1) := by decide +kernel
theorem d_S_clear_15 : decode k_S_clear 15 = .ok (.getfield 14, 3) := by decide +kernel
theorem d_S_clear_18 : decode k_S_clear 18 = .ok (.invokevirtual 69, 3) := by decide +kernel
theorem d_S_clear_21 : decode k_S_clear 21 = .ok (.goto 29, 3) := by decide +kernel
theorem d_S_clear_24 : decode k_S_clear 24 = .ok (.iload_n 1, 1) := by decide +kernel
theorem d_S_clear_25 : decode k_S_clear 25 = .ok (.iconst 1, 1) := by decide +kernel
theorem d_S_clear_26 : decode k_S_clear 26 = .ok (.if_icmp .ne 24, 3) := by decide +kernel
theorem d_S_clear_29 : decode k_S_clear 29 = .ok (.aload_n 0, 1) := by decide +kernel
theorem d_S_clear_30 : decode k_S_clear 30 = .ok (.getfield 21, 3) := by decide +kernel
theorem d_S_clear_33 : decode k_S_clear 33 = .ok (.invokevirtual 72, 3) := by decide +kernel
theorem d_S_clear_36 : decode k_S_clear 36 = .ok (.invokevirtual 76, 3) := by decide +kernel
theorem d_S_clear_39 : decode k_S_clear 39 = .ok (.istore_n 2, 1) := by decide +kernel
theorem d_S_clear_40 : decode k_S_clear 40 = .ok (.aload_n 0, 1) := by decide +kernel
theorem d_S_clear_41 : decode k_S_clear 41 = .ok (.getfield 21, 3) := by decide +kernel
theorem d_S_clear_44 : decode k_S_clear 44 = .ok (.invokevirtual 72, 3) := by decide +kernel
theorem d_S_clear_47 : decode k_S_clear 47 = .ok (.invokevirtual 77, 3) := by decide +kernel
theorem d_S_clear_50 : decode k_S_clear 50 = .ok (.iload_n 2, 1) := by decide +kernel
theorem d_S_clear_51 : decode k_S_clear 51 = .ok (.ireturn, 1) := by decide +kernel
theorem d_S_code_0 : decode k_S_code 0 = .ok (.iload_n 2, 1) := by decide +kernel
theorem d_S_code_1 : decode k_S_code 1 = .ok (.ifCond .lt 8, 3) := by decide +kernel
theorem d_S_code_4 : decode k_S_code 4 = .ok (.iload_n 2, 1) := by decide +kernel
theorem d_S_code_5 : decode k_S_code 5 = .ok (.iconst 2, 1) := by decide +kernel
theorem d_S_code_6 : decode k_S_code 6 = .ok (.if_icmp .le 5, 3) := by decide +kernel
theorem d_S_code_9 : decode k_S_code 9 = .ok (.iconst (-1), 1) := by decide +kernel
theorem d_S_code_10 : decode k_S_code 10 = .ok (.ireturn, 1) := by decide +kernel
theorem d_S_code_11 : decode k_S_code 11 = .ok (.iload_n 2, 1) := by decide +kernel
theorem d_S_code_12 : decode k_S_code 12 = .ok (.iconst 2, 1) := by decide +kernel
theorem d_S_code_13 : decode k_S_code 13 = .ok (.if_icmp .ne 39, 3) := by decide +kernel
theorem d_S_code_16 : decode k_S_code 16 = .ok (.iload_n 1, 1) := by decide +kernel
theorem d_S_code_17 : decode k_S_code 17 = .ok (.aload_n 0, 1) := by decide +kernel
theorem d_S_code_18 : decode k_S_code 18 = .ok (.getfield 14, 3) := by decide +kernel
theorem d_S_code_21 : decode k_S_code 21 = .ok (.invokevirtual 57, 3) := by decide +kernel
theorem d_S_code_24 : decode k_S_code 24 = .ok (.if_icmp .eq 14, 3) := by decide +kernel
theorem d_S_code_27 : decode k_S_code 27 = .ok (.aload_n 0, 1) := by decide +kernel
theorem d_S_code_28 : decode k_S_code 28 = .ok (.getfield 14, 3) := by decide +kernel
theorem d_S_code_31 : decode k_S_code 31 = .ok (.iload_n 1, 1) := by decide +kernel
theorem d_S_code_32 : decode k_S_code 32 = .ok (.invokevirtual 61, 3) := by decide +kernel
theorem d_S_code_35 : decode k_S_code 35 = .ok (.ifCond .eq 14, 3) := by decide +kernel
theorem d_S_code_38 : decode k_S_code 38 = .ok (.aload_n 0, 1) := by decide +kernel
theorem d_S_code_39 : decode k_S_code 39 = .ok (.getfield 14, 3) := by decide +kernel
theorem d_S_code_42 : decode k_S_code 42 = .ok (.iload_n 1, 1) := by decide +kernel
theorem d_S_code_43 : decode k_S_code 43 = .ok (.invokevirtual 78, 3) := by decide +kernel
theorem d_S_code_46 : decode k_S_code 46 = .ok (.goto 5, 3) := by decide +kernel
theorem d_S_code_49 : decode k_S_code 49 = .ok (.bipush (-2), 2) := by decide +kernel
theorem d_S_code_51 : decode k_S_code 51 = .ok (.ireturn, 1) := by decide +kernel
theorem d_S_code_52 : decode k_S_code 52 = .ok (.iload_n 2, 1) := by decide +kernel
theorem d_S_code_53 : decode k_S_code 53 = .ok (.ifCond .ne 14, 3) := by decide +kernel
theorem d_S_code_56 : decode k_S_code 56 = .ok (.aload_n 0, 1) := by decide +kernel
theorem d_S_code_57 : decode k_S_code 57 = .ok (.getfield 14, 3) := by decide +kernel
theorem d_S_code_60 : decode k_S_code 60 = .ok (.iload_n 1, 1) := by decide +kernel
theorem d_S_code_61 : decode k_S_code 61 = .ok (.invokevirtual 82, 3) := by decide +kernel
theorem d_S_code_64 : decode k_S_code 64 = .ok (.goto 11, 3) := by decide +kernel
theorem d_S_code_67 : decode k_S_code 67 = .ok (.aload_n 0, 1) := by decide +kernel
theorem d_S_code_68 : decode k_S_code 68 = .ok (.getfield 14, 3) := by decide +kernel
theorem d_S_code_71 : decode k_S_code 71 = .ok (.iload_n 1, 1) := by decide +kernel
theorem d_S_code_72 : decode k_S_code 72 = .ok (.invokevirtual 85, 3) := by decide +kernel
theorem d_S_code_75 : decode k_S_code 75 = .ok (.ireturn, 1) := by decide +kernel
theorem d_S_verify_0 : decode k_S_verify 0 = .ok (.aload_n 0, 1) := by decide +kernel
theorem d_S_verify_1 : decode k_S_verify 1 = .ok (.getfield 14, 3) := by decide +kernel
theorem d_S_verify_4 : decode k_S_verify 4 = .ok (.invokevirtual 88, 3) := by decide +kernel
theorem d_S_verify_7 : decode k_S_verify 7 = .ok (.ireturn, 1) := by decide +kernel
theorem d_S_lift_0 : decode k_S_lift 0 = .ok (.aload_n 0, 1) := by decide +kernel
theorem d_S_lift_1 : decode k_S_lift 1 = .ok (.getfield 35, 3) := by decide +kernel
theorem d_S_lift_4 : decode k_S_lift 4 = .ok (.invokevirtual 91, 3) := by decide +kernel
theorem d_S_lift_7 : decode k_S_lift 7 = .ok (.aload_n 0, 1) := by decide +kernel
theorem d_S_lift_8 : decode k_S_lift 8 = .ok (.getfield 28, 3) := by decide +kernel
theorem d_S_lift_11 : decode k_S_lift 11 = .ok (.invokevirtual 77, 3) := by decide +kernel
theorem d_S_lift_14 : decode k_S_lift 14 = .ok (.aload_n 0, 1) := by decide +kernel
theorem d_S_lift_15 : decode k_S_lift 15 = .ok (.aload_n 0, 1) := by decide +kernel
theorem d_S_lift_16 : decode k_S_lift 16 = .ok (.getfield 14, 3) := by decide +kernel
theorem d_S_lift_19 : decode k_S_lift 19 = .ok (.invokevirtual 88, 3) := by decide +kernel
theorem d_S_lift_22 : decode k_S_lift 22 = .ok (.putfield 46, 3) := by decide +kernel
theorem d_S_lift_25 : decode k_S_lift 25 = .ok (.aload_n 0, 1) := by decide +kernel
theorem d_S_lift_26 : decode k_S_lift 26 = .ok (.getfield 46, 3) := by decide +kernel
theorem d_S_lift_29 : decode k_S_lift 29 = .ok (.bipush (-2), 2) := by decide +kernel
theorem d_S_lift_31 : decode k_S_lift 31 = .ok (.if_icmp .eq 6, 3) := by decide +kernel
theorem d_S_lift_34 : decode k_S_lift 34 = .ok (.bipush (-4), 2) := by decide +kernel
theorem d_S_lift_36 : decode k_S_lift 36 = .ok (.ireturn, 1) := by decide +kernel
theorem d_S_lift_37 : decode k_S_lift 37 = .ok (.aload_n 0, 1) := by decide +kernel
theorem d_S_lift_38 : decode k_S_lift 38 = .ok (.aload_n 0, 1) := by decide +kernel
theorem d_S_lift_39 : decode k_S_lift 39 = .ok (.getfield 35, 3) := by decide +kernel
theorem d_S_lift_42 : decode k_S_lift 42 = .ok (.aload_n 0, 1) := by decide +kernel
theorem d_S_lift_43 : decode k_S_lift 43 = .ok (.getfield 14, 3) := by decide +kernel
theorem d_S_lift_46 : decode k_S_lift 46 = .ok (.invokevirtual 92, 3) := by decide +kernel
theorem d_S_lift_49 : decode k_S_lift 49 = .ok (.putfield 46, 3) := by decide +kernel
theorem d_S_lift_52 : decode k_S_lift 52 = .ok (.aload_n 0, 1) := by decide +kernel
theorem d_S_lift_53 : decode k_S_lift 53 = .ok (.getfield 46, 3) := by decide +kernel
theorem d_S_lift_56 : decode k_S_lift 56 = .ok (.bipush (-2), 2) := by decide +kernel
theorem d_S_lift_58 : decode k_S_lift 58 = .ok (.if_icmp .eq 13, 3) := by decide +kernel
theorem d_S_lift_61 : decode k_S_lift 61 = .ok (.aload_n 0, 1) := by decide +kernel
theorem d_S_lift_62 : decode k_S_lift 62 = .ok (.getfield 35, 3) := by decide +kernel
theorem d_S_lift_65 : decode k_S_lift 65 = .ok (.invokevirtual 91, 3) := by decide +kernel
theorem d_S_lift_68 : decode k_S_lift 68 = .ok (.bipush (-5), 2) := by decide +kernel
theorem d_S_lift_70 : decode k_S_lift 70 = .ok (.ireturn, 1) := by decide +kernel
theorem d_S_lift_71 : decode k_S_lift 71 = .ok (.aload_n 0, 1) := by decide +kernel
theorem d_S_lift_72 : decode k_S_lift 72 = .ok (.getfield 35, 3) := by decide +kernel
theorem d_S_lift_75 : decode k_S_lift 75 = .ok (.aload_n 0, 1) := by decide +kernel
theorem d_S_lift_76 : decode k_S_lift 76 = .ok (.getfield 28, 3) := by decide +kernel
theorem d_S_lift_79 : decode k_S_lift 79 = .ok (.invokestatic 96, 3) := by decide +kernel
theorem d_S_lift_82 : decode k_S_lift 82 = .ok (.aload_n 0, 1) := by decide +kernel
theorem d_S_lift_83 : decode k_S_lift 83 = .ok (.getfield 28, 3) := by decide +kernel
theorem d_S_lift_86 : decode k_S_lift 86 = .ok (.invokevirtual 76, 3) := by decide +kernel
theorem d_S_lift_89 : decode k_S_lift 89 = .ok (.ireturn, 1) := by decide +kernel
theorem d_S_text_0 : decode k_S_text 0 = .ok (.iload_n 1, 1) := by decide +kernel
theorem d_S_text_1 : decode k_S_text 1 = .ok (.iconst (-1), 1) := by decide +kernel
theorem d_S_text_2 : decode k_S_text 2 = .ok (.if_icmp .ne 13, 3) := by decide +kernel
theorem d_S_text_5 : decode k_S_text 5 = .ok (.aload_n 0, 1) := by decide +kernel
theorem d_S_text_6 : decode k_S_text 6 = .ok (.getfield 28, 3) := by decide +kernel
theorem d_S_text_9 : decode k_S_text 9 = .ok (.invokevirtual 76, 3) := by decide +kernel
theorem d_S_text_12 : decode k_S_text 12 = .ok (.goto 11, 3) := by decide +kernel
theorem d_S_text_15 : decode k_S_text 15 = .ok (.aload_n 0, 1) := by decide +kernel
theorem d_S_text_16 : decode k_S_text 16 = .ok (.getfield 28, 3) := by decide +kernel
theorem d_S_text_19 : decode k_S_text 19 = .ok (.iload_n 1, 1) := by decide +kernel
theorem d_S_text_20 : decode k_S_text 20 = .ok (.invokevirtual 102, 3) := by decide +kernel
theorem d_S_text_23 : decode k_S_text 23 = .ok (.ireturn, 1) := by decide +kernel
theorem d_S_where_0 : decode k_S_where 0 = .ok (.aload_n 0, 1) := by decide +kernel
theorem d_S_where_1 : decode k_S_where 1 = .ok (.getfield 46, 3) := by decide +kernel
theorem d_S_where_4 : decode k_S_where 4 = .ok (.ireturn, 1) := by decide +kernel
theorem d_S_letter_0 : decode k_S_letter 0 = .ok (.iload_n 1, 1) := by decide +kernel
theorem d_S_letter_1 : decode k_S_letter 1 = .ok (.bipush 33, 2) := by decide +kernel
theorem d_S_letter_3 : decode k_S_letter 3 = .ok (.if_icmp .lt 9, 3) := by decide +kernel
theorem d_S_letter_6 : decode k_S_letter 6 = .ok (.iload_n 1, 1) := by decide +kernel
theorem d_S_letter_7 : decode k_S_letter 7 = .ok (.bipush 126, 2) := by decide +kernel
theorem d_S_letter_9 : decode k_S_letter 9 = .ok (.if_icmp .le 5, 3) := by decide +kernel
theorem d_S_letter_12 : decode k_S_letter 12 = .ok (.iconst (-1), 1) := by decide +kernel
theorem d_S_letter_13 : decode k_S_letter 13 = .ok (.ireturn, 1) := by decide +kernel
theorem d_S_letter_14 : decode k_S_letter 14 = .ok (.aload_n 0, 1) := by decide +kernel
theorem d_S_letter_15 : decode k_S_letter 15 = .ok (.getfield 21, 3) := by decide +kernel
theorem d_S_letter_18 : decode k_S_letter 18 = .ok (.invokevirtual 72, 3) := by decide +kernel
theorem d_S_letter_21 : decode k_S_letter 21 = .ok (.iload_n 1, 1) := by decide +kernel
theorem d_S_letter_22 : decode k_S_letter 22 = .ok (.invokevirtual 105, 3) := by decide +kernel
theorem d_S_letter_25 : decode k_S_letter 25 = .ok (.ifCond .eq 16, 3) := by decide +kernel
theorem d_S_letter_28 : decode k_S_letter 28 = .ok (.aload_n 0, 1) := by decide +kernel
theorem d_S_letter_29 : decode k_S_letter 29 = .ok (.getfield 21, 3) := by decide +kernel
theorem d_S_letter_32 : decode k_S_letter 32 = .ok (.invokevirtual 72, 3) := by decide +kernel
theorem d_S_letter_35 : decode k_S_letter 35 = .ok (.invokevirtual 76, 3) := by decide +kernel
theorem d_S_letter_38 : decode k_S_letter 38 = .ok (.goto 5, 3) := by decide +kernel
theorem d_S_letter_41 : decode k_S_letter 41 = .ok (.bipush (-3), 2) := by decide +kernel
theorem d_S_letter_43 : decode k_S_letter 43 = .ok (.ireturn, 1) := by decide +kernel
theorem d_S_copy_0 : decode k_S_copy 0 = .ok (.aload_n 0, 1) := by decide +kernel
theorem d_S_copy_1 : decode k_S_copy 1 = .ok (.getfield 28, 3) := by decide +kernel
theorem d_S_copy_4 : decode k_S_copy 4 = .ok (.invokevirtual 76, 3) := by decide +kernel
theorem d_S_copy_7 : decode k_S_copy 7 = .ok (.bipush 120, 2) := by decide +kernel
theorem d_S_copy_9 : decode k_S_copy 9 = .ok (.if_icmp .le 6, 3) := by decide +kernel
theorem d_S_copy_12 : decode k_S_copy 12 = .ok (.bipush (-3), 2) := by decide +kernel
theorem d_S_copy_14 : decode k_S_copy 14 = .ok (.ireturn, 1) := by decide +kernel
theorem d_S_copy_15 : decode k_S_copy 15 = .ok (.aload_n 0, 1) := by decide +kernel
theorem d_S_copy_16 : decode k_S_copy 16 = .ok (.getfield 21, 3) := by decide +kernel
theorem d_S_copy_19 : decode k_S_copy 19 = .ok (.invokevirtual 72, 3) := by decide +kernel
theorem d_S_copy_22 : decode k_S_copy 22 = .ok (.aload_n 0, 1) := by decide +kernel
theorem d_S_copy_23 : decode k_S_copy 23 = .ok (.getfield 28, 3) := by decide +kernel
theorem d_S_copy_26 : decode k_S_copy 26 = .ok (.invokevirtual 107, 3) := by decide +kernel
theorem d_S_copy_29 : decode k_S_copy 29 = .ok (.aload_n 0, 1) := by decide +kernel
theorem d_S_copy_30 : decode k_S_copy 30 = .ok (.getfield 28, 3) := by decide +kernel
theorem d_S_copy_33 : decode k_S_copy 33 = .ok (.invokevirtual 76, 3) := by decide +kernel
theorem d_S_copy_36 : decode k_S_copy 36 = .ok (.ireturn, 1) := by decide +kernel
theorem d_S_read_0 : decode k_S_read 0 = .ok (.aload_n 0, 1) := by decide +kernel
theorem d_S_read_1 : decode k_S_read 1 = .ok (.aload_n 0, 1) := by decide +kernel
theorem d_S_read_2 : decode k_S_read 2 = .ok (.getfield 21, 3) := by decide +kernel
theorem d_S_read_5 : decode k_S_read 5 = .ok (.invokevirtual 111, 3) := by decide +kernel
theorem d_S_read_8 : decode k_S_read 8 = .ok (.putfield 46, 3) := by decide +kernel
theorem d_S_read_11 : decode k_S_read 11 = .ok (.aload_n 0, 1) := by decide +kernel
theorem d_S_read_12 : decode k_S_read 12 = .ok (.getfield 46, 3) := by decide +kernel
theorem d_S_read_15 : decode k_S_read 15 = .ok (.bipush (-2), 2) := by decide +kernel
theorem d_S_read_17 : decode k_S_read 17 = .ok (.if_icmp .eq 6, 3) := by decide +kernel
theorem d_S_read_20 : decode k_S_read 20 = .ok (.bipush (-6), 2) := by decide +kernel
theorem d_S_read_22 : decode k_S_read 22 = .ok (.ireturn, 1) := by decide +kernel
theorem d_S_read_23 : decode k_S_read 23 = .ok (.aload_n 0, 1) := by decide +kernel
theorem d_S_read_24 : decode k_S_read 24 = .ok (.getfield 14, 3) := by decide +kernel
theorem d_S_read_27 : decode k_S_read 27 = .ok (.aload_n 0, 1) := by decide +kernel
theorem d_S_read_28 : decode k_S_read 28 = .ok (.getfield 21, 3) := by decide +kernel
theorem d_S_read_31 : decode k_S_read 31 = .ok (.invokevirtual 114, 3) := by decide +kernel
theorem d_S_read_34 : decode k_S_read 34 = .ok (.invokevirtual 118, 3) := by decide +kernel
theorem d_S_read_37 : decode k_S_read 37 = .ok (.aload_n 0, 1) := by decide +kernel
theorem d_S_read_38 : decode k_S_read 38 = .ok (.getfield 14, 3) := by decide +kernel
theorem d_S_read_41 : decode k_S_read 41 = .ok (.invokevirtual 57, 3) := by decide +kernel
theorem d_S_read_44 : decode k_S_read 44 = .ok (.ireturn, 1) := by decide +kernel
theorem d_S_run_0 : decode k_S_run 0 = .ok (.iload_n 2, 1) := by decide +kernel
theorem d_S_run_1 : decode k_S_run 1 = .ok (.ifCond .lt 10, 3) := by decide +kernel
theorem d_S_run_4 : decode k_S_run 4 = .ok (.iload_n 2, 1) := by decide +kernel
theorem d_S_run_5 : decode k_S_run 5 = .ok (.sipush 400, 3) := by decide +kernel
theorem d_S_run_8 : decode k_S_run 8 = .ok (.if_icmp .le 5, 3) := by decide +kernel
theorem d_S_run_11 : decode k_S_run 11 = .ok (.iconst (-1), 1) := by decide +kernel
theorem d_S_run_12 : decode k_S_run 12 = .ok (.ireturn, 1) := by decide +kernel
theorem d_S_run_13 : decode k_S_run 13 = .ok (.aload_n 0, 1) := by decide +kernel
theorem d_S_run_14 : decode k_S_run 14 = .ok (.getfield 42, 3) := by decide +kernel
theorem d_S_run_17 : decode k_S_run 17 = .ok (.iload_n 1, 1) := by decide +kernel
theorem d_S_run_18 : decode k_S_run 18 = .ok (.iload_n 2, 1) := by decide +kernel
theorem d_S_run_19 : decode k_S_run 19 = .ok (.invokevirtual 121, 3) := by decide +kernel
theorem d_S_run_22 : decode k_S_run 22 = .ok (.aload_n 0, 1) := by decide +kernel
theorem d_S_run_23 : decode k_S_run 23 = .ok (.getfield 42, 3) := by decide +kernel
theorem d_S_run_26 : decode k_S_run 26 = .ok (.aload_n 0, 1) := by decide +kernel
theorem d_S_run_27 : decode k_S_run 27 = .ok (.getfield 14, 3) := by decide +kernel
theorem d_S_run_30 : decode k_S_run 30 = .ok (.invokevirtual 125, 3) := by decide +kernel
theorem d_S_run_33 : decode k_S_run 33 = .ok (.ifCond .eq 13, 3) := by decide +kernel
theorem d_S_run_36 : decode k_S_run 36 = .ok (.aload_n 0, 1) := by decide +kernel
theorem d_S_run_37 : decode k_S_run 37 = .ok (.getfield 42, 3) := by decide +kernel
theorem d_S_run_40 : decode k_S_run 40 = .ok (.invokevirtual 129, 3) := by decide +kernel
theorem d_S_run_43 : decode k_S_run 43 = .ok (.goto 5, 3) := by decide +kernel
theorem d_S_run_46 : decode k_S_run 46 = .ok (.bipush (-7), 2) := by decide +kernel
theorem d_S_run_48 : decode k_S_run 48 = .ok (.ireturn, 1) := by decide +kernel
theorem d_S_walk_0 : decode k_S_walk 0 = .ok (.iload_n 2, 1) := by decide +kernel
theorem d_S_walk_1 : decode k_S_walk 1 = .ok (.ifCond .lt 10, 3) := by decide +kernel
theorem d_S_walk_4 : decode k_S_walk 4 = .ok (.iload_n 2, 1) := by decide +kernel
theorem d_S_walk_5 : decode k_S_walk 5 = .ok (.sipush 400, 3) := by decide +kernel
theorem d_S_walk_8 : decode k_S_walk 8 = .ok (.if_icmp .le 5, 3) := by decide +kernel
theorem d_S_walk_11 : decode k_S_walk 11 = .ok (.iconst (-1), 1) := by decide +kernel
theorem d_S_walk_12 : decode k_S_walk 12 = .ok (.ireturn, 1) := by decide +kernel
theorem d_S_walk_13 : decode k_S_walk 13 = .ok (.aload_n 0, 1) := by decide +kernel
theorem d_S_walk_14 : decode k_S_walk 14 = .ok (.getfield 35, 3) := by decide +kernel
theorem d_S_walk_17 : decode k_S_walk 17 = .ok (.invokevirtual 132, 3) := by decide +kernel
theorem d_S_walk_20 : decode k_S_walk 20 = .ok (.ifCond .ne 6, 3) := by decide +kernel
theorem d_S_walk_23 : decode k_S_walk 23 = .ok (.bipush (-2), 2) := by decide +kernel
theorem d_S_walk_25 : decode k_S_walk 25 = .ok (.ireturn, 1) := by decide +kernel
theorem d_S_walk_26 : decode k_S_walk 26 = .ok (.aload_n 0, 1) := by decide +kernel
theorem d_S_walk_27 : decode k_S_walk 27 = .ok (.getfield 42, 3) := by decide +kernel
theorem d_S_walk_30 : decode k_S_walk 30 = .ok (.iload_n 1, 1) := by decide +kernel
theorem d_S_walk_31 : decode k_S_walk 31 = .ok (.iload_n 2, 1) := by decide +kernel
theorem d_S_walk_32 : decode k_S_walk 32 = .ok (.invokevirtual 121, 3) := by decide +kernel
theorem d_S_walk_35 : decode k_S_walk 35 = .ok (.aload_n 0, 1) := by decide +kernel
theorem d_S_walk_36 : decode k_S_walk 36 = .ok (.getfield 35, 3) := by decide +kernel
theorem d_S_walk_39 : decode k_S_walk 39 = .ok (.aload_n 0, 1) := by decide +kernel
theorem d_S_walk_40 : decode k_S_walk 40 = .ok (.getfield 42, 3) := by decide +kernel
theorem d_S_walk_43 : decode k_S_walk 43 = .ok (.invokestatic 136, 3) := by decide +kernel
theorem d_S_walk_46 : decode k_S_walk 46 = .ok (.ifCond .eq 13, 3) := by decide +kernel
theorem d_S_walk_49 : decode k_S_walk 49 = .ok (.aload_n 0, 1) := by decide +kernel
theorem d_S_walk_50 : decode k_S_walk 50 = .ok (.getfield 42, 3) := by decide +kernel
theorem d_S_walk_53 : decode k_S_walk 53 = .ok (.invokevirtual 129, 3) := by decide +kernel
theorem d_S_walk_56 : decode k_S_walk 56 = .ok (.goto 5, 3) := by decide +kernel
theorem d_S_walk_59 : decode k_S_walk 59 = .ok (.bipush (-7), 2) := by decide +kernel
theorem d_S_walk_61 : decode k_S_walk 61 = .ok (.ireturn, 1) := by decide +kernel
theorem d_S_output_0 : decode k_S_output 0 = .ok (.aload_n 0, 1) := by decide +kernel
theorem d_S_output_1 : decode k_S_output 1 = .ok (.getfield 42, 3) := by decide +kernel
theorem d_S_output_4 : decode k_S_output 4 = .ok (.iload_n 1, 1) := by decide +kernel
theorem d_S_output_5 : decode k_S_output 5 = .ok (.invokevirtual 142, 3) := by decide +kernel
theorem d_S_output_8 : decode k_S_output 8 = .ok (.ireturn, 1) := by decide +kernel
theorem d_S_count_0 : decode k_S_count 0 = .ok (.iload_n 1, 1) := by decide +kernel
theorem d_S_count_1 : decode k_S_count 1 = .ok (.tableswitch 144 0 9 #[55, 63, 74, 82, 90, 98, 106, 116, 126, 136], 55) := by decide +kernel
theorem d_S_count_56 : decode k_S_count 56 = .ok (.aload_n 0, 1) := by decide +kernel
theorem d_S_count_57 : decode k_S_count 57 = .ok (.getfield 14, 3) := by decide +kernel
theorem d_S_count_60 : decode k_S_count 60 = .ok (.invokevirtual 57, 3) := by decide +kernel
theorem d_S_count_63 : decode k_S_count 63 = .ok (.ireturn, 1) := by decide +kernel
theorem d_S_count_64 : decode k_S_count 64 = .ok (.aload_n 0, 1) := by decide +kernel
theorem d_S_count_65 : decode k_S_count 65 = .ok (.getfield 21, 3) := by decide +kernel
theorem d_S_count_68 : decode k_S_count 68 = .ok (.invokevirtual 72, 3) := by decide +kernel
theorem d_S_count_71 : decode k_S_count 71 = .ok (.invokevirtual 76, 3) := by decide +kernel
theorem d_S_count_74 : decode k_S_count 74 = .ok (.ireturn, 1) := by decide +kernel
theorem d_S_count_75 : decode k_S_count 75 = .ok (.aload_n 0, 1) := by decide +kernel
theorem d_S_count_76 : decode k_S_count 76 = .ok (.getfield 28, 3) := by decide +kernel
theorem d_S_count_79 : decode k_S_count 79 = .ok (.invokevirtual 76, 3) := by decide +kernel
theorem d_S_count_82 : decode k_S_count 82 = .ok (.ireturn, 1) := by decide +kernel
theorem d_S_count_83 : decode k_S_count 83 = .ok (.aload_n 0, 1) := by decide +kernel
theorem d_S_count_84 : decode k_S_count 84 = .ok (.getfield 42, 3) := by decide +kernel
theorem d_S_count_87 : decode k_S_count 87 = .ok (.invokevirtual 129, 3) := by decide +kernel
theorem d_S_count_90 : decode k_S_count 90 = .ok (.ireturn, 1) := by decide +kernel
theorem d_S_count_91 : decode k_S_count 91 = .ok (.aload_n 0, 1) := by decide +kernel
theorem d_S_count_92 : decode k_S_count 92 = .ok (.getfield 42, 3) := by decide +kernel
theorem d_S_count_95 : decode k_S_count 95 = .ok (.invokevirtual 145, 3) := by decide +kernel
theorem d_S_count_98 : decode k_S_count 98 = .ok (.ireturn, 1) := by decide +kernel
theorem d_S_count_99 : decode k_S_count 99 = .ok (.aload_n 0, 1) := by decide +kernel
theorem d_S_count_100 : decode k_S_count 100 = .ok (.getfield 35, 3) := by decide +kernel
theorem d_S_count_103 : decode k_S_count 103 = .ok (.invokevirtual 148, 3) := by decide +kernel
theorem d_S_count_106 : decode k_S_count 106 = .ok (.ireturn, 1) := by decide +kernel
theorem d_S_count_107 : decode k_S_count 107 = .ok (.aload_n 0, 1) := by decide +kernel
theorem d_S_count_108 : decode k_S_count 108 = .ok (.getfield 35, 3) := by decide +kernel
theorem d_S_count_111 : decode k_S_count 111 = .ok (.bipush 11, 2) := by decide +kernel
theorem d_S_count_113 : decode k_S_count 113 = .ok (.invokevirtual 149, 3) := by decide +kernel
theorem d_S_count_116 : decode k_S_count 116 = .ok (.ireturn, 1) := by decide +kernel
theorem d_S_count_117 : decode k_S_count 117 = .ok (.aload_n 0, 1) := by decide +kernel
theorem d_S_count_118 : decode k_S_count 118 = .ok (.getfield 35, 3) := by decide +kernel
theorem d_S_count_121 : decode k_S_count 121 = .ok (.bipush 12, 2) := by decide +kernel
theorem d_S_count_123 : decode k_S_count 123 = .ok (.invokevirtual 149, 3) := by decide +kernel
theorem d_S_count_126 : decode k_S_count 126 = .ok (.ireturn, 1) := by decide +kernel
theorem d_S_count_127 : decode k_S_count 127 = .ok (.aload_n 0, 1) := by decide +kernel
theorem d_S_count_128 : decode k_S_count 128 = .ok (.getfield 35, 3) := by decide +kernel
theorem d_S_count_131 : decode k_S_count 131 = .ok (.bipush 13, 2) := by decide +kernel
theorem d_S_count_133 : decode k_S_count 133 = .ok (.invokevirtual 149, 3) := by decide +kernel
theorem d_S_count_136 : decode k_S_count 136 = .ok (.ireturn, 1) := by decide +kernel
theorem d_S_count_137 : decode k_S_count 137 = .ok (.aload_n 0, 1) := by decide +kernel
theorem d_S_count_138 : decode k_S_count 138 = .ok (.getfield 35, 3) := by decide +kernel
theorem d_S_count_141 : decode k_S_count 141 = .ok (.invokevirtual 152, 3) := by decide +kernel
theorem d_S_count_144 : decode k_S_count 144 = .ok (.ireturn, 1) := by decide +kernel
theorem d_S_count_145 : decode k_S_count 145 = .ok (.iload_n 1, 1) := by decide +kernel
theorem d_S_count_146 : decode k_S_count 146 = .ok (.bipush 10, 2) := by decide +kernel
theorem d_S_count_148 : decode k_S_count 148 = .ok (.if_icmp .lt 23, 3) := by decide +kernel
theorem d_S_count_151 : decode k_S_count 151 = .ok (.iload_n 1, 1) := by decide +kernel
theorem d_S_count_152 : decode k_S_count 152 = .ok (.bipush 16, 2) := by decide +kernel
theorem d_S_count_154 : decode k_S_count 154 = .ok (.if_icmp .ge 17, 3) := by decide +kernel
theorem d_S_count_157 : decode k_S_count 157 = .ok (.aload_n 0, 1) := by decide +kernel
theorem d_S_count_158 : decode k_S_count 158 = .ok (.getfield 42, 3) := by decide +kernel
theorem d_S_count_161 : decode k_S_count 161 = .ok (.iload_n 1, 1) := by decide +kernel
theorem d_S_count_162 : decode k_S_count 162 = .ok (.bipush 10, 2) := by decide +kernel
theorem d_S_count_164 : decode k_S_count 164 = .ok (.isub, 1) := by decide +kernel
theorem d_S_count_165 : decode k_S_count 165 = .ok (.invokevirtual 155, 3) := by decide +kernel
theorem d_S_count_168 : decode k_S_count 168 = .ok (.goto 4, 3) := by decide +kernel
theorem d_S_count_171 : decode k_S_count 171 = .ok (.iconst (-1), 1) := by decide +kernel
theorem d_S_count_172 : decode k_S_count 172 = .ok (.ireturn, 1) := by decide +kernel
theorem d_M_init_0 : decode k_M_init 0 = .ok (.aload_n 0, 1) := by decide +kernel
theorem d_M_init_1 : decode k_M_init 1 = .ok (.invokespecial 1, 3) := by decide +kernel
theorem d_M_init_4 : decode k_M_init 4 = .ok (.aload_n 0, 1) := by decide +kernel
theorem d_M_init_5 : decode k_M_init 5 = .ok (.bipush 30, 2) := by decide +kernel
theorem d_M_init_7 : decode k_M_init 7 = .ok (.newarray .int, 2) := by decide +kernel
theorem d_M_init_9 : decode k_M_init 9 = .ok (.putfield 7, 3) := by decide +kernel
theorem d_M_init_12 : decode k_M_init 12 = .ok (.aload_n 0, 1) := by decide +kernel
theorem d_M_init_13 : decode k_M_init 13 = .ok (.bipush 31, 2) := by decide +kernel
theorem d_M_init_15 : decode k_M_init 15 = .ok (.newarray .int, 2) := by decide +kernel
theorem d_M_init_17 : decode k_M_init 17 = .ok (.putfield 13, 3) := by decide +kernel
theorem d_M_init_20 : decode k_M_init 20 = .ok (.aload_n 0, 1) := by decide +kernel
theorem d_M_init_21 : decode k_M_init 21 = .ok (.sipush 200, 3) := by decide +kernel
theorem d_M_init_24 : decode k_M_init 24 = .ok (.newarray .int, 2) := by decide +kernel
theorem d_M_init_26 : decode k_M_init 26 = .ok (.putfield 16, 3) := by decide +kernel
theorem d_M_init_29 : decode k_M_init 29 = .ok (.aload_n 0, 1) := by decide +kernel
theorem d_M_init_30 : decode k_M_init 30 = .ok (.sipush 200, 3) := by decide +kernel
theorem d_M_init_33 : decode k_M_init 33 = .ok (.newarray .int, 2) := by decide +kernel
theorem d_M_init_35 : decode k_M_init 35 = .ok (.putfield 19, 3) := by decide +kernel
theorem d_M_init_38 : decode k_M_init 38 = .ok (.aload_n 0, 1) := by decide +kernel
theorem d_M_init_39 : decode k_M_init 39 = .ok (.bipush 120, 2) := by decide +kernel
theorem d_M_init_41 : decode k_M_init 41 = .ok (.newarray .int, 2) := by decide +kernel
theorem d_M_init_43 : decode k_M_init 43 = .ok (.putfield 22, 3) := by decide +kernel
theorem d_M_init_46 : decode k_M_init 46 = .ok (.aload_n 0, 1) := by decide +kernel
theorem d_M_init_47 : decode k_M_init 47 = .ok (.sipush 600, 3) := by decide +kernel
theorem d_M_init_50 : decode k_M_init 50 = .ok (.newarray .int, 2) := by decide +kernel
theorem d_M_init_52 : decode k_M_init 52 = .ok (.putfield 25, 3) := by decide +kernel
theorem d_M_init_55 : decode k_M_init 55 = .ok (.aload_n 0, 1) := by decide +kernel
theorem d_M_init_56 : decode k_M_init 56 = .ok (.bipush (-2), 2) := by decide +kernel
theorem d_M_init_58 : decode k_M_init 58 = .ok (.putfield 28, 3) := by decide +kernel
theorem d_M_init_61 : decode k_M_init 61 = .ok (.aload_n 0, 1) := by decide +kernel
theorem d_M_init_62 : decode k_M_init 62 = .ok (.sipush 600, 3) := by decide +kernel
theorem d_M_init_65 : decode k_M_init 65 = .ok (.newarray .int, 2) := by decide +kernel
theorem d_M_init_67 : decode k_M_init 67 = .ok (.putfield 32, 3) := by decide +kernel
theorem d_M_init_70 : decode k_M_init 70 = .ok (.aload_n 0, 1) := by decide +kernel
theorem d_M_init_71 : decode k_M_init 71 = .ok (.sipush 600, 3) := by decide +kernel
theorem d_M_init_74 : decode k_M_init 74 = .ok (.newarray .int, 2) := by decide +kernel
theorem d_M_init_76 : decode k_M_init 76 = .ok (.putfield 35, 3) := by decide +kernel
theorem d_M_init_79 : decode k_M_init 79 = .ok (.aload_n 0, 1) := by decide +kernel
theorem d_M_init_80 : decode k_M_init 80 = .ok (.bipush 40, 2) := by decide +kernel
theorem d_M_init_82 : decode k_M_init 82 = .ok (.newarray .int, 2) := by decide +kernel
theorem d_M_init_84 : decode k_M_init 84 = .ok (.putfield 38, 3) := by decide +kernel
theorem d_M_init_87 : decode k_M_init 87 = .ok (.aload_n 0, 1) := by decide +kernel
theorem d_M_init_88 : decode k_M_init 88 = .ok (.bipush 6, 2) := by decide +kernel
theorem d_M_init_90 : decode k_M_init 90 = .ok (.newarray .int, 2) := by decide +kernel
theorem d_M_init_92 : decode k_M_init 92 = .ok (.putfield 41, 3) := by decide +kernel
theorem d_M_init_95 : decode k_M_init 95 = .ok (.aload_n 0, 1) := by decide +kernel
theorem d_M_init_96 : decode k_M_init 96 = .ok (.bipush 64, 2) := by decide +kernel
theorem d_M_init_98 : decode k_M_init 98 = .ok (.newarray .int, 2) := by decide +kernel
theorem d_M_init_100 : decode k_M_init 100 = .ok (.putfield 44, 3) := by decide +kernel
theorem d_M_init_103 : decode k_M_init 103 = .ok (.aload_n 0, 1) := by decide +kernel
theorem d_M_init_104 : decode k_M_init 104 = .ok (.bipush 64, 2) := by decide +kernel
theorem d_M_init_106 : decode k_M_init 106 = .ok (.newarray .int, 2) := by decide +kernel
theorem d_M_init_108 : decode k_M_init 108 = .ok (.putfield 47, 3) := by decide +kernel
theorem d_M_init_111 : decode k_M_init 111 = .ok (.aload_n 0, 1) := by decide +kernel
theorem d_M_init_112 : decode k_M_init 112 = .ok (.bipush 20, 2) := by decide +kernel
theorem d_M_init_114 : decode k_M_init 114 = .ok (.newarray .int, 2) := by decide +kernel
theorem d_M_init_116 : decode k_M_init 116 = .ok (.putfield 50, 3) := by decide +kernel
theorem d_M_init_119 : decode k_M_init 119 = .ok (.aload_n 0, 1) := by decide +kernel
theorem d_M_init_120 : decode k_M_init 120 = .ok (.bipush 40, 2) := by decide +kernel
theorem d_M_init_122 : decode k_M_init 122 = .ok (.newarray .int, 2) := by decide +kernel
theorem d_M_init_124 : decode k_M_init 124 = .ok (.putfield 53, 3) := by decide +kernel
theorem d_M_init_127 : decode k_M_init 127 = .ok (.return_, 1) := by decide +kernel
theorem d_M_in_0 : decode k_M_in 0 = .ok (.iload_n 0, 1) := by decide +kernel
theorem d_M_in_1 : decode k_M_in 1 = .ok (.iload_n 1, 1) := by decide +kernel
theorem d_M_in_2 : decode k_M_in 2 = .ok (.if_icmp .lt 12, 3) := by decide +kernel
theorem d_M_in_5 : decode k_M_in 5 = .ok (.iload_n 0, 1) := by decide +kernel
theorem d_M_in_6 : decode k_M_in 6 = .ok (.iload_n 2, 1) := by decide +kernel
theorem d_M_in_7 : decode k_M_in 7 = .ok (.if_icmp .gt 7, 3) := by decide +kernel
theorem d_M_in_10 : decode k_M_in 10 = .ok (.iconst 1, 1) := by decide +kernel
theorem d_M_in_11 : decode k_M_in 11 = .ok (.goto 4, 3) := by decide +kernel
theorem d_M_in_14 : decode k_M_in 14 = .ok (.iconst 0, 1) := by decide +kernel
theorem d_M_in_15 : decode k_M_in 15 = .ok (.ireturn, 1) := by decide +kernel
theorem d_M_isGood_0 : decode k_M_isGood 0 = .ok (.iload_n 0, 1) := by decide +kernel
theorem d_M_isGood_1 : decode k_M_isGood 1 = .ok (.ifCond .ne 11, 3) := by decide +kernel
theorem d_M_isGood_4 : decode k_M_isGood 4 = .ok (.iload_n 1, 1) := by decide +kernel
theorem d_M_isGood_5 : decode k_M_isGood 5 = .ok (.iconst 0, 1) := by decide +kernel
theorem d_M_isGood_6 : decode k_M_isGood 6 = .ok (.bipush 99, 2) := by decide +kernel
theorem d_M_isGood_8 : decode k_M_isGood 8 = .ok (.invokestatic 56, 3) := by decide +kernel
theorem d_M_isGood_11 : decode k_M_isGood 11 = .ok (.ireturn, 1) := by decide +kernel
theorem d_M_isGood_12 : decode k_M_isGood 12 = .ok (.iload_n 0, 1) := by decide +kernel
theorem d_M_isGood_13 : decode k_M_isGood 13 = .ok (.iconst 1, 1) := by decide +kernel
theorem d_M_isGood_14 : decode k_M_isGood 14 = .ok (.if_icmp .eq 8, 3) := by decide +kernel
theorem d_M_isGood_17 : decode k_M_isGood 17 = .ok (.iload_n 0, 1) := by decide +kernel
theorem d_M_isGood_18 : decode k_M_isGood 18 = .ok (.iconst 2, 1) := by decide +kernel
theorem d_M_isGood_19 : decode k_M_isGood 19 = .ok (.if_icmp .ne 10, 3) := by decide +kernel
theorem d_M_isGood_22 : decode k_M_isGood 22 = .ok (.iload_n 1, 1) := by decide +kernel
theorem d_M_isGood_23 : decode k_M_isGood 23 = .ok (.iconst 0, 1) := by decide +kernel
theorem d_M_isGood_24 : decode k_M_isGood 24 = .ok (.iconst 5, 1) := by decide +kernel
theorem d_M_isGood_25 : decode k_M_isGood 25 = .ok (.invokestatic 56, 3) := by decide +kernel
theorem d_M_isGood_28 : decode k_M_isGood 28 = .ok (.ireturn, 1) := by decide +kernel
theorem d_M_isGood_29 : decode k_M_isGood 29 = .ok (.iload_n 0, 1) := by decide +kernel
theorem d_M_isGood_30 : decode k_M_isGood 30 = .ok (.bipush 8, 2) := by decide +kernel
theorem d_M_isGood_32 : decode k_M_isGood 32 = .ok (.if_icmp .eq 9, 3) := by decide +kernel
theorem d_M_isGood_35 : decode k_M_isGood 35 = .ok (.iload_n 0, 1) := by decide +kernel
theorem d_M_isGood_36 : decode k_M_isGood 36 = .ok (.bipush 9, 2) := by decide +kernel
theorem d_M_isGood_38 : decode k_M_isGood 38 = .ok (.if_icmp .ne 13, 3) := by decide +kernel
theorem d_M_isGood_41 : decode k_M_isGood 41 = .ok (.iload_n 1, 1) := by decide +kernel
theorem d_M_isGood_42 : decode k_M_isGood 42 = .ok (.iconst 0, 1) := by decide +kernel
theorem d_M_isGood_43 : decode k_M_isGood 43 = .ok (.bipush 30, 2) := by decide +kernel
theorem d_M_isGood_45 : decode k_M_isGood 45 = .ok (.invokestatic 56, 3) := by decide +kernel
theorem d_M_isGood_48 : decode k_M_isGood 48 = .ok (.goto 10, 3) := by decide +kernel
theorem d_M_isGood_51 : decode k_M_isGood 51 = .ok (.iload_n 0, 1) := by decide +kernel
theorem d_M_isGood_52 : decode k_M_isGood 52 = .ok (.iconst 3, 1) := by decide +kernel
theorem d_M_isGood_53 : decode k_M_isGood 53 = .ok (.bipush 10, 2) := by decide +kernel
theorem d_M_isGood_55 : decode k_M_isGood 55 = .ok (.invokestatic 56, 3) := by decide +kernel
theorem d_M_isGood_58 : decode k_M_isGood 58 = .ok (.ireturn, 1) := by decide +kernel
theorem d_M_has_0 : decode k_M_has 0 = .ok (.iload_n 0, 1) := by decide +kernel
theorem d_M_has_1 : decode k_M_has 1 = .ok (.iconst 3, 1) := by decide +kernel
theorem d_M_has_2 : decode k_M_has 2 = .ok (.if_icmp .lt 15, 3) := by decide +kernel
theorem d_M_has_5 : decode k_M_has 5 = .ok (.iload_n 0, 1) := by decide +kernel
theorem d_M_has_6 : decode k_M_has 6 = .ok (.bipush 8, 2) := by decide +kernel
theorem d_M_has_8 : decode k_M_has 8 = .ok (.if_icmp .eq 9, 3) := by decide +kernel
theorem d_M_has_11 : decode k_M_has 11 = .ok (.iload_n 0, 1) := by decide +kernel
theorem d_M_has_12 : decode k_M_has 12 = .ok (.bipush 9, 2) := by decide +kernel
theorem d_M_has_14 : decode k_M_has 14 = .ok (.if_icmp .ne 7, 3) := by decide +kernel
theorem d_M_has_17 : decode k_M_has 17 = .ok (.iconst 1, 1) := by decide +kernel
theorem d_M_has_18 : decode k_M_has 18 = .ok (.goto 4, 3) := by decide +kernel
theorem d_M_has_21 : decode k_M_has 21 = .ok (.iconst 0, 1) := by decide +kernel
theorem d_M_has_22 : decode k_M_has 22 = .ok (.ireturn, 1) := by decide +kernel
theorem d_M_put_0 : decode k_M_put 0 = .ok (.iload_n 1, 1) := by decide +kernel
theorem d_M_put_1 : decode k_M_put 1 = .ok (.iload_n 2, 1) := by decide +kernel
theorem d_M_put_2 : decode k_M_put 2 = .ok (.invokestatic 60, 3) := by decide +kernel
theorem d_M_put_5 : decode k_M_put 5 = .ok (.ifCond .ne 5, 3) := by decide +kernel
theorem d_M_put_8 : decode k_M_put 8 = .ok (.iconst (-1), 1) := by decide +kernel
theorem d_M_put_9 : decode k_M_put 9 = .ok (.ireturn, 1) := by decide +kernel
theorem d_M_put_10 : decode k_M_put 10 = .ok (.aload_n 0, 1) := by decide +kernel
theorem d_M_put_11 : decode k_M_put 11 = .ok (.getfield 64, 3) := by decide +kernel
theorem d_M_put_14 : decode k_M_put 14 = .ok (.bipush 30, 2) := by decide +kernel
theorem d_M_put_16 : decode k_M_put 16 = .ok (.if_icmp .ne 6, 3) := by decide +kernel
theorem d_M_put_19 : decode k_M_put 19 = .ok (.bipush (-3), 2) := by decide +kernel
theorem d_M_put_21 : decode k_M_put 21 = .ok (.ireturn, 1) := by decide +kernel
theorem d_M_put_22 : decode k_M_put 22 = .ok (.aload_n 0, 1) := by decide +kernel
theorem d_M_put_23 : decode k_M_put 23 = .ok (.dup, 1) := by decide +kernel
theorem d_M_put_24 : decode k_M_put 24 = .ok (.getfield 64, 3) := by decide +kernel
theorem d_M_put_27 : decode k_M_put 27 = .ok (.iconst 1, 1) := by decide +kernel
theorem d_M_put_28 : decode k_M_put 28 = .ok (.iadd, 1) := by decide +kernel
theorem d_M_put_29 : decode k_M_put 29 = .ok (.putfield 64, 3) := by decide +kernel
theorem d_M_put_32 : decode k_M_put 32 = .ok (.aload_n 0, 1) := by decide +kernel
theorem d_M_put_33 : decode k_M_put 33 = .ok (.aload_n 0, 1) := by decide +kernel
theorem d_M_put_34 : decode k_M_put 34 = .ok (.getfield 64, 3) := by decide +kernel
theorem d_M_put_37 : decode k_M_put 37 = .ok (.iconst 1, 1) := by decide +kernel
theorem d_M_put_38 : decode k_M_put 38 = .ok (.isub, 1) := by decide +kernel
theorem d_M_put_39 : decode k_M_put 39 = .ok (.iload_n 1, 1) := by decide +kernel
theorem d_M_put_40 : decode k_M_put 40 = .ok (.iload_n 2, 1) := by decide +kernel
theorem d_M_put_41 : decode k_M_put 41 = .ok (.invokevirtual 67, 3) := by decide +kernel
theorem d_M_put_44 : decode k_M_put 44 = .ok (.pop, 1) := by decide +kernel
theorem d_M_put_45 : decode k_M_put 45 = .ok (.aload_n 0, 1) := by decide +kernel
theorem d_M_put_46 : decode k_M_put 46 = .ok (.getfield 64, 3) := by decide +kernel
theorem d_M_put_49 : decode k_M_put 49 = .ok (.ireturn, 1) := by decide +kernel
theorem d_M_change_0 : decode k_M_change 0 = .ok (.iload_n 1, 1) := by decide +kernel
theorem d_M_change_1 : decode k_M_change 1 = .ok (.iconst 0, 1) := by decide +kernel
theorem d_M_change_2 : decode k_M_change 2 = .ok (.aload_n 0, 1) := by decide +kernel
theorem d_M_change_3 : decode k_M_change 3 = .ok (.getfield 64, 3) := by decide +kernel
theorem d_M_change_6 : decode k_M_change 6 = .ok (.iconst 1, 1) := by decide +kernel
theorem d_M_change_7 : decode k_M_change 7 = .ok (.isub, 1) := by decide +kernel
theorem d_M_change_8 : decode k_M_change 8 = .ok (.invokestatic 56, 3) := by decide +kernel
theorem d_M_change_11 : decode k_M_change 11 = .ok (.ifCond .eq 11, 3) := by decide +kernel
theorem d_M_change_14 : decode k_M_change 14 = .ok (.iload_n 2, 1) := by decide +kernel
theorem d_M_change_15 : decode k_M_change 15 = .ok (.iload_n 3, 1) := by decide +kernel
theorem d_M_change_16 : decode k_M_change 16 = .ok (.invokestatic 60, 3) := by decide +kernel
theorem d_M_change_19 : decode k_M_change 19 = .ok (.ifCond .ne 5, 3) := by decide +kernel
theorem d_M_change_22 : decode k_M_change 22 = .ok (.iconst 0, 1) := by decide +kernel
theorem d_M_change_23 : decode k_M_change 23 = .ok (.ireturn, 1) := by decide +kernel
theorem d_M_change_24 : decode k_M_change 24 = .ok (.aload_n 0, 1) := by decide +kernel
theorem d_M_change_25 : decode k_M_change 25 = .ok (.getfield 7, 3) := by decide +kernel
theorem d_M_change_28 : decode k_M_change 28 = .ok (.iload_n 1, 1) := by decide +kernel
theorem d_M_change_29 : decode k_M_change 29 = .ok (.iload_n 2, 1) := by decide +kernel
theorem d_M_change_30 : decode k_M_change 30 = .ok (.iastore, 1) := by decide +kernel
theorem d_M_change_31 : decode k_M_change 31 = .ok (.aload_n 0, 1) := by decide +kernel
theorem d_M_change_32 : decode k_M_change 32 = .ok (.getfield 13, 3) := by decide +kernel
theorem d_M_change_35 : decode k_M_change 35 = .ok (.iload_n 1, 1) := by decide +kernel
theorem d_M_change_36 : decode k_M_change 36 = .ok (.iload_n 2, 1) := by decide +kernel
theorem d_M_change_37 : decode k_M_change 37 = .ok (.invokestatic 70, 3) := by decide +kernel
theorem d_M_change_40 : decode k_M_change 40 = .ok (.ifCond .eq 7, 3) := by decide +kernel
theorem d_M_change_43 : decode k_M_change 43 = .ok (.iload_n 3, 1) := by decide +kernel
theorem d_M_change_44 : decode k_M_change 44 = .ok (.goto 4, 3) := by decide +kernel
theorem d_M_change_47 : decode k_M_change 47 = .ok (.iconst 0, 1) := by decide +kernel
theorem d_M_change_48 : decode k_M_change 48 = .ok (.iastore, 1) := by decide +kernel
theorem d_M_change_49 : decode k_M_change 49 = .ok (.iconst 1, 1) := by decide +kernel
theorem d_M_change_50 : decode k_M_change 50 = .ok (.ireturn, 1) := by decide +kernel
theorem d_M_clear_0 : decode k_M_clear 0 = .ok (.iload_n 1, 1) := by decide +kernel
theorem d_M_clear_1 : decode k_M_clear 1 = .ok (.iconst 0, 1) := by decide +kernel
theorem d_M_clear_2 : decode k_M_clear 2 = .ok (.iconst 1, 1) := by decide +kernel
theorem d_M_clear_3 : decode k_M_clear 3 = .ok (.invokestatic 56, 3) := by decide +kernel
theorem d_M_clear_6 : decode k_M_clear 6 = .ok (.ifCond .ne 5, 3) := by decide +kernel
theorem d_M_clear_9 : decode k_M_clear 9 = .ok (.iconst (-1), 1) := by decide +kernel
theorem d_M_clear_10 : decode k_M_clear 10 = .ok (.ireturn, 1) := by decide +kernel
theorem d_M_clear_11 : decode k_M_clear 11 = .ok (.iload_n 1, 1) := by decide +kernel
theorem d_M_clear_12 : decode k_M_clear 12 = .ok (.ifCond .ne 10, 3) := by decide +kernel
theorem d_M_clear_15 : decode k_M_clear 15 = .ok (.aload_n 0, 1) := by decide +kernel
theorem d_M_clear_16 : decode k_M_clear 16 = .ok (.getfield 64, 3) := by decide +kernel
theorem d_M_clear_19 : decode k_M_clear 19 = .ok (.goto 7, 3) := by decide +kernel
theorem d_M_clear_22 : decode k_M_clear 22 = .ok (.aload_n 0, 1) := by decide +kernel
theorem d_M_clear_23 : decode k_M_clear 23 = .ok (.getfield 74, 3) := by decide +kernel
theorem d_M_clear_26 : decode k_M_clear 26 = .ok (.istore_n 2, 1) := by decide +kernel
theorem d_M_clear_27 : decode k_M_clear 27 = .ok (.aload_n 0, 1) := by decide +kernel
theorem d_M_clear_28 : decode k_M_clear 28 = .ok (.iload_n 1, 1) := by decide +kernel
theorem d_M_clear_29 : decode k_M_clear 29 = .ok (.ifCond .ne 7, 3) := by decide +kernel
theorem d_M_clear_32 : decode k_M_clear 32 = .ok (.iconst 0, 1) := by decide +kernel
theorem d_M_clear_33 : decode k_M_clear 33 = .ok (.goto 7, 3) := by decide +kernel
theorem d_M_clear_36 : decode k_M_clear 36 = .ok (.aload_n 0, 1) := by decide +kernel
theorem d_M_clear_37 : decode k_M_clear 37 = .ok (.getfield 64, 3) := by decide +kernel
theorem d_M_clear_40 : decode k_M_clear 40 = .ok (.putfield 64, 3) := by decide +kernel
theorem d_M_clear_43 : decode k_M_clear 43 = .ok (.aload_n 0, 1) := by decide +kernel
theorem d_M_clear_44 : decode k_M_clear 44 = .ok (.iload_n 1, 1) := by decide +kernel
theorem d_M_clear_45 : decode k_M_clear 45 = .ok (.ifCond .ne 10, 3) := by decide +kernel
theorem d_M_clear_48 : decode k_M_clear 48 = .ok (.aload_n 0, 1) := by decide +kernel
theorem d_M_clear_49 : decode k_M_clear 49 = .ok (.getfield 74, 3) := by decide +kernel
theorem d_M_clear_52 : decode k_M_clear 52 = .ok (.goto 4, 3) := by decide +kernel
theorem d_M_clear_55 : decode k_M_clear 55 = .ok (.iconst 0, 1) := by decide +kernel
theorem d_M_clear_56 : decode k_M_clear 56 = .ok (.putfield 74, 3) := by decide +kernel
theorem d_M_clear_59 : decode k_M_clear 59 = .ok (.iload_n 2, 1) := by decide +kernel
theorem d_M_clear_60 : decode k_M_clear 60 = .ok (.ireturn, 1) := by decide +kernel
theorem d_M_grows_0 : decode k_M_grows 0 = .ok (.iload_n 0, 1) := by decide +kernel
theorem d_M_grows_1 : decode k_M_grows 1 = .ok (.iconst 2, 1) := by decide +kernel
theorem d_M_grows_2 : decode k_M_grows 2 = .ok (.if_icmp .ge 7, 3) := by decide +kernel
theorem d_M_grows_5 : decode k_M_grows 5 = .ok (.iconst 1, 1) := by decide +kernel
theorem d_M_grows_6 : decode k_M_grows 6 = .ok (.goto 20, 3) := by decide +kernel
theorem d_M_grows_9 : decode k_M_grows 9 = .ok (.iload_n 0, 1) := by decide +kernel
theorem d_M_grows_10 : decode k_M_grows 10 = .ok (.bipush 7, 2) := by decide +kernel
theorem d_M_grows_12 : decode k_M_grows 12 = .ok (.if_icmp .eq 9, 3) := by decide +kernel
theorem d_M_grows_15 : decode k_M_grows 15 = .ok (.iload_n 0, 1) := by decide +kernel
theorem d_M_grows_16 : decode k_M_grows 16 = .ok (.bipush 8, 2) := by decide +kernel
theorem d_M_grows_18 : decode k_M_grows 18 = .ok (.if_icmp .ne 7, 3) := by decide +kernel
theorem d_M_grows_21 : decode k_M_grows 21 = .ok (.iconst 0, 1) := by decide +kernel
theorem d_M_grows_22 : decode k_M_grows 22 = .ok (.goto 4, 3) := by decide +kernel
theorem d_M_grows_25 : decode k_M_grows 25 = .ok (.iconst (-1), 1) := by decide +kernel
theorem d_M_grows_26 : decode k_M_grows 26 = .ok (.ireturn, 1) := by decide +kernel
theorem d_M_height_0 : decode k_M_height 0 = .ok (.iconst 0, 1) := by decide +kernel
theorem d_M_height_1 : decode k_M_height 1 = .ok (.istore_n 2, 1) := by decide +kernel
theorem d_M_height_2 : decode k_M_height 2 = .ok (.iconst 0, 1) := by decide +kernel
theorem d_M_height_3 : decode k_M_height 3 = .ok (.istore_n 3, 1) := by decide +kernel
theorem d_M_height_4 : decode k_M_height 4 = .ok (.iload_n 3, 1) := by decide +kernel
theorem d_M_height_5 : decode k_M_height 5 = .ok (.iload_n 1, 1) := by decide +kernel
theorem d_M_height_6 : decode k_M_height 6 = .ok (.if_icmp .ge 21, 3) := by decide +kernel
theorem d_M_height_9 : decode k_M_height 9 = .ok (.iload_n 2, 1) := by decide +kernel
theorem d_M_height_10 : decode k_M_height 10 = .ok (.aload_n 0, 1) := by decide +kernel
theorem d_M_height_11 : decode k_M_height 11 = .ok (.getfield 7, 3) := by decide +kernel
theorem d_M_height_14 : decode k_M_height 14 = .ok (.iload_n 3, 1) := by decide +kernel
theorem d_M_height_15 : decode k_M_height 15 = .ok (.iaload, 1) := by decide +kernel
theorem d_M_height_16 : decode k_M_height 16 = .ok (.invokestatic 77, 3) := by decide +kernel
theorem d_M_height_19 : decode k_M_height 19 = .ok (.iadd, 1) := by decide +kernel
theorem d_M_height_20 : decode k_M_height 20 = .ok (.istore_n 2, 1) := by decide +kernel
theorem d_M_height_21 : decode k_M_height 21 = .ok (.iinc 3 1, 3) := by decide +kernel
theorem d_M_height_24 : decode k_M_height 24 = .ok (.goto (-20), 3) := by decide +kernel
theorem d_M_height_27 : decode k_M_height 27 = .ok (.iload_n 2, 1) := by decide +kernel
theorem d_M_height_28 : decode k_M_height 28 = .ok (.ireturn, 1) := by decide +kernel
theorem d_M_code_0 : decode k_M_code 0 = .ok (.iload_n 2, 1) := by decide +kernel
theorem d_M_code_1 : decode k_M_code 1 = .ok (.iconst 0, 1) := by decide +kernel
theorem d_M_code_2 : decode k_M_code 2 = .ok (.iconst 2, 1) := by decide +kernel
theorem d_M_code_3 : decode k_M_code 3 = .ok (.invokestatic 56, 3) := by decide +kernel
theorem d_M_code_6 : decode k_M_code 6 = .ok (.ifCond .ne 5, 3) := by decide +kernel
theorem d_M_code_9 : decode k_M_code 9 = .ok (.iconst (-1), 1) := by decide +kernel
theorem d_M_code_10 : decode k_M_code 10 = .ok (.ireturn, 1) := by decide +kernel
theorem d_M_code_11 : decode k_M_code 11 = .ok (.iload_n 1, 1) := by decide +kernel
theorem d_M_code_12 : decode k_M_code 12 = .ok (.iconst 0, 1) := by decide +kernel
theorem d_M_code_13 : decode k_M_code 13 = .ok (.iload_n 2, 1) := by decide +kernel
theorem d_M_code_14 : decode k_M_code 14 = .ok (.iconst 2, 1) := by decide +kernel
theorem d_M_code_15 : decode k_M_code 15 = .ok (.if_icmp .ne 10, 3) := by decide +kernel
theorem d_M_code_18 : decode k_M_code 18 = .ok (.aload_n 0, 1) := by decide +kernel
theorem d_M_code_19 : decode k_M_code 19 = .ok (.getfield 64, 3) := by decide +kernel
theorem d_M_code_22 : decode k_M_code 22 = .ok (.goto 9, 3) := by decide +kernel
theorem d_M_code_25 : decode k_M_code 25 = .ok (.aload_n 0, 1) := by decide +kernel
theorem d_M_code_26 : decode k_M_code 26 = .ok (.getfield 64, 3) := by decide +kernel
theorem d_M_code_29 : decode k_M_code 29 = .ok (.iconst 1, 1) := by decide +kernel
theorem d_M_code_30 : decode k_M_code 30 = .ok (.isub, 1) := by decide +kernel
theorem d_M_code_31 : decode k_M_code 31 = .ok (.invokestatic 56, 3) := by decide +kernel
theorem d_M_code_34 : decode k_M_code 34 = .ok (.ifCond .ne 6, 3) := by decide +kernel
theorem d_M_code_37 : decode k_M_code 37 = .ok (.bipush (-2), 2) := by decide +kernel
theorem d_M_code_39 : decode k_M_code 39 = .ok (.ireturn, 1) := by decide +kernel
theorem d_M_code_40 : decode k_M_code 40 = .ok (.iload_n 2, 1) := by decide +kernel
theorem d_M_code_41 : decode k_M_code 41 = .ok (.ifCond .ne 12, 3) := by decide +kernel
theorem d_M_code_44 : decode k_M_code 44 = .ok (.aload_n 0, 1) := by decide +kernel
theorem d_M_code_45 : decode k_M_code 45 = .ok (.getfield 7, 3) := by decide +kernel
theorem d_M_code_48 : decode k_M_code 48 = .ok (.iload_n 1, 1) := by decide +kernel
theorem d_M_code_49 : decode k_M_code 49 = .ok (.iaload, 1) := by decide +kernel
theorem d_M_code_50 : decode k_M_code 50 = .ok (.goto 22, 3) := by decide +kernel
theorem d_M_code_53 : decode k_M_code 53 = .ok (.iload_n 2, 1) := by decide +kernel
theorem d_M_code_54 : decode k_M_code 54 = .ok (.iconst 1, 1) := by decide +kernel
theorem d_M_code_55 : decode k_M_code 55 = .ok (.if_icmp .ne 12, 3) := by decide +kernel
theorem d_M_code_58 : decode k_M_code 58 = .ok (.aload_n 0, 1) := by decide +kernel
theorem d_M_code_59 : decode k_M_code 59 = .ok (.getfield 13, 3) := by decide +kernel
theorem d_M_code_62 : decode k_M_code 62 = .ok (.iload_n 1, 1) := by decide +kernel
theorem d_M_code_63 : decode k_M_code 63 = .ok (.iaload, 1) := by decide +kernel
theorem d_M_code_64 : decode k_M_code 64 = .ok (.goto 8, 3) := by decide +kernel
theorem d_M_code_67 : decode k_M_code 67 = .ok (.aload_n 0, 1) := by decide +kernel
theorem d_M_code_68 : decode k_M_code 68 = .ok (.iload_n 1, 1) := by decide +kernel
theorem d_M_code_69 : decode k_M_code 69 = .ok (.invokevirtual 81, 3) := by decide +kernel
theorem d_M_code_72 : decode k_M_code 72 = .ok (.ireturn, 1) := by decide +kernel
theorem d_M_isWrong_0 : decode k_M_isWrong 0 = .ok (.aload_n 0, 1) := by decide +kernel
theorem d_M_isWrong_1 : decode k_M_isWrong 1 = .ok (.iload_n 1, 1) := by decide +kernel
theorem d_M_isWrong_2 : decode k_M_isWrong 2 = .ok (.invokevirtual 81, 3) := by decide +kernel
theorem d_M_isWrong_5 : decode k_M_isWrong 5 = .ok (.istore_n 2, 1) := by decide +kernel
theorem d_M_isWrong_6 : decode k_M_isWrong 6 = .ok (.iload_n 1, 1) := by decide +kernel
theorem d_M_isWrong_7 : decode k_M_isWrong 7 = .ok (.aload_n 0, 1) := by decide +kernel
theorem d_M_isWrong_8 : decode k_M_isWrong 8 = .ok (.getfield 64, 3) := by decide +kernel
theorem d_M_isWrong_11 : decode k_M_isWrong 11 = .ok (.if_icmp .ne 13, 3) := by decide +kernel
theorem d_M_isWrong_14 : decode k_M_isWrong 14 = .ok (.iload_n 2, 1) := by decide +kernel
theorem d_M_isWrong_15 : decode k_M_isWrong 15 = .ok (.ifCond .eq 7, 3) := by decide +kernel
theorem d_M_isWrong_18 : decode k_M_isWrong 18 = .ok (.iconst 1, 1) := by decide +kernel
theorem d_M_isWrong_19 : decode k_M_isWrong 19 = .ok (.goto 4, 3) := by decide +kernel
theorem d_M_isWrong_22 : decode k_M_isWrong 22 = .ok (.iconst 0, 1) := by decide +kernel
theorem d_M_isWrong_23 : decode k_M_isWrong 23 = .ok (.ireturn, 1) := by decide +kernel
theorem d_M_isWrong_24 : decode k_M_isWrong 24 = .ok (.aload_n 0, 1) := by decide +kernel
theorem d_M_isWrong_25 : decode k_M_isWrong 25 = .ok (.getfield 7, 3) := by decide +kernel
theorem d_M_isWrong_28 : decode k_M_isWrong 28 = .ok (.iload_n 1, 1) := by decide +kernel
theorem d_M_isWrong_29 : decode k_M_isWrong 29 = .ok (.iaload, 1) := by decide +kernel
theorem d_M_isWrong_30 : decode k_M_isWrong 30 = .ok (.istore_n 3, 1) := by decide +kernel
theorem d_M_isWrong_31 : decode k_M_isWrong 31 = .ok (.iload_n 3, 1) := by decide +kernel
theorem d_M_isWrong_32 : decode k_M_isWrong 32 = .ok (.ifCond .eq 8, 3) := by decide +kernel
theorem d_M_isWrong_35 : decode k_M_isWrong 35 = .ok (.iload_n 3, 1) := by decide +kernel
theorem d_M_isWrong_36 : decode k_M_isWrong 36 = .ok (.iconst 1, 1) := by decide +kernel
theorem d_M_isWrong_37 : decode k_M_isWrong 37 = .ok (.if_icmp .ne 15, 3) := by decide +kernel
theorem d_M_isWrong_40 : decode k_M_isWrong 40 = .ok (.iload_n 2, 1) := by decide +kernel
theorem d_M_isWrong_41 : decode k_M_isWrong 41 = .ok (.bipush 7, 2) := by decide +kernel
theorem d_M_isWrong_43 : decode k_M_isWrong 43 = .ok (.if_icmp .le 7, 3) := by decide +kernel
theorem d_M_isWrong_46 : decode k_M_isWrong 46 = .ok (.iconst 1, 1) := by decide +kernel
theorem d_M_isWrong_47 : decode k_M_isWrong 47 = .ok (.goto 4, 3) := by decide +kernel
theorem d_M_isWrong_50 : decode k_M_isWrong 50 = .ok (.iconst 0, 1) := by decide +kernel
theorem d_M_isWrong_51 : decode k_M_isWrong 51 = .ok (.ireturn, 1) := by decide +kernel
theorem d_M_isWrong_52 : decode k_M_isWrong 52 = .ok (.iload_n 3, 1) := by decide +kernel
theorem d_M_isWrong_53 : decode k_M_isWrong 53 = .ok (.bipush 7, 2) := by decide +kernel
theorem d_M_isWrong_55 : decode k_M_isWrong 55 = .ok (.if_icmp .ne 14, 3) := by decide +kernel
theorem d_M_isWrong_58 : decode k_M_isWrong 58 = .ok (.iload_n 2, 1) := by decide +kernel
theorem d_M_isWrong_59 : decode k_M_isWrong 59 = .ok (.iconst 1, 1) := by decide +kernel
theorem d_M_isWrong_60 : decode k_M_isWrong 60 = .ok (.if_icmp .ge 7, 3) := by decide +kernel
theorem d_M_isWrong_63 : decode k_M_isWrong 63 = .ok (.iconst 1, 1) := by decide +kernel
theorem d_M_isWrong_64 : decode k_M_isWrong 64 = .ok (.goto 4, 3) := by decide +kernel
theorem d_M_isWrong_67 : decode k_M_isWrong 67 = .ok (.iconst 0, 1) := by decide +kernel
theorem d_M_isWrong_68 : decode k_M_isWrong 68 = .ok (.ireturn, 1) := by decide +kernel
theorem d_M_isWrong_69 : decode k_M_isWrong 69 = .ok (.iload_n 3, 1) := by decide +kernel
theorem d_M_isWrong_70 : decode k_M_isWrong 70 = .ok (.iconst 3, 1) := by decide +kernel
theorem d_M_isWrong_71 : decode k_M_isWrong 71 = .ok (.bipush 6, 2) := by decide +kernel
theorem d_M_isWrong_73 : decode k_M_isWrong 73 = .ok (.invokestatic 56, 3) := by decide +kernel
theorem d_M_isWrong_76 : decode k_M_isWrong 76 = .ok (.ifCond .eq 14, 3) := by decide +kernel
theorem d_M_isWrong_79 : decode k_M_isWrong 79 = .ok (.iload_n 2, 1) := by decide +kernel
theorem d_M_isWrong_80 : decode k_M_isWrong 80 = .ok (.iconst 2, 1) := by decide +kernel
theorem d_M_isWrong_81 : decode k_M_isWrong 81 = .ok (.if_icmp .ge 7, 3) := by decide +kernel
theorem d_M_isWrong_84 : decode k_M_isWrong 84 = .ok (.iconst 1, 1) := by decide +kernel
theorem d_M_isWrong_85 : decode k_M_isWrong 85 = .ok (.goto 4, 3) := by decide +kernel
theorem d_M_isWrong_88 : decode k_M_isWrong 88 = .ok (.iconst 0, 1) := by decide +kernel
theorem d_M_isWrong_89 : decode k_M_isWrong 89 = .ok (.ireturn, 1) := by decide +kernel
theorem d_M_isWrong_90 : decode k_M_isWrong 90 = .ok (.iload_n 3, 1) := by decide +kernel
theorem d_M_isWrong_91 : decode k_M_isWrong 91 = .ok (.bipush 8, 2) := by decide +kernel
theorem d_M_isWrong_93 : decode k_M_isWrong 93 = .ok (.if_icmp .ne 10, 3) := by decide +kernel
theorem d_M_isWrong_96 : decode k_M_isWrong 96 = .ok (.iload_n 2, 1) := by decide +kernel
theorem d_M_isWrong_97 : decode k_M_isWrong 97 = .ok (.ifCond .eq 13, 3) := by decide +kernel
theorem d_M_isWrong_100 : decode k_M_isWrong 100 = .ok (.goto 8, 3) := by decide +kernel
theorem d_M_isWrong_103 : decode k_M_isWrong 103 = .ok (.iload_n 2, 1) := by decide +kernel
theorem d_M_isWrong_104 : decode k_M_isWrong 104 = .ok (.iconst 1, 1) := by decide +kernel
theorem d_M_isWrong_105 : decode k_M_isWrong 105 = .ok (.if_icmp .eq 5, 3) := by decide +kernel
theorem d_M_isWrong_108 : decode k_M_isWrong 108 = .ok (.iconst 1, 1) := by decide +kernel
theorem d_M_isWrong_109 : decode k_M_isWrong 109 = .ok (.ireturn, 1) := by decide +kernel
theorem d_M_isWrong_110 : decode k_M_isWrong 110 = .ok (.iload_n 3, 1) := by decide +kernel
theorem d_M_isWrong_111 : decode k_M_isWrong 111 = .ok (.bipush 8, 2) := by decide +kernel
theorem d_M_isWrong_113 : decode k_M_isWrong 113 = .ok (.if_icmp .eq 9, 3) := by decide +kernel
theorem d_M_isWrong_116 : decode k_M_isWrong 116 = .ok (.iload_n 3, 1) := by decide +kernel
theorem d_M_isWrong_117 : decode k_M_isWrong 117 = .ok (.bipush 9, 2) := by decide +kernel
theorem d_M_isWrong_119 : decode k_M_isWrong 119 = .ok (.if_icmp .ne 33, 3) := by decide +kernel
theorem d_M_isWrong_122 : decode k_M_isWrong 122 = .ok (.aload_n 0, 1) := by decide +kernel
theorem d_M_isWrong_123 : decode k_M_isWrong 123 = .ok (.getfield 13, 3) := by decide +kernel
theorem d_M_isWrong_126 : decode k_M_isWrong 126 = .ok (.iload_n 1, 1) := by decide +kernel
theorem d_M_isWrong_127 : decode k_M_isWrong 127 = .ok (.iaload, 1) := by decide +kernel
theorem d_M_isWrong_128 : decode k_M_isWrong 128 = .ok (.aload_n 0, 1) := by decide +kernel
theorem d_M_isWrong_129 : decode k_M_isWrong 129 = .ok (.getfield 64, 3) := by decide +kernel
theorem d_M_isWrong_132 : decode k_M_isWrong 132 = .ok (.if_icmp .gt 16, 3) := by decide +kernel
theorem d_M_isWrong_135 : decode k_M_isWrong 135 = .ok (.aload_n 0, 1) := by decide +kernel
theorem d_M_isWrong_136 : decode k_M_isWrong 136 = .ok (.aload_n 0, 1) := by decide +kernel
theorem d_M_isWrong_137 : decode k_M_isWrong 137 = .ok (.getfield 13, 3) := by decide +kernel
theorem d_M_isWrong_140 : decode k_M_isWrong 140 = .ok (.iload_n 1, 1) := by decide +kernel
theorem d_M_isWrong_141 : decode k_M_isWrong 141 = .ok (.iaload, 1) := by decide +kernel
theorem d_M_isWrong_142 : decode k_M_isWrong 142 = .ok (.invokevirtual 81, 3) := by decide +kernel
theorem d_M_isWrong_145 : decode k_M_isWrong 145 = .ok (.ifCond .eq 7, 3) := by decide +kernel
theorem d_M_isWrong_148 : decode k_M_isWrong 148 = .ok (.iconst 1, 1) := by decide +kernel
theorem d_M_isWrong_149 : decode k_M_isWrong 149 = .ok (.goto 4, 3) := by decide +kernel
theorem d_M_isWrong_152 : decode k_M_isWrong 152 = .ok (.iconst 0, 1) := by decide +kernel
theorem d_M_isWrong_153 : decode k_M_isWrong 153 = .ok (.ireturn, 1) := by decide +kernel
