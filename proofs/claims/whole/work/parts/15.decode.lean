theorem d_Machine_start_0 : decode k_Machine_start 0 = .ok (.iconst 0, 1) := by decide +kernel
theorem d_Machine_start_1 : decode k_Machine_start 1 = .ok (.istore_n 3, 1) := by decide +kernel
theorem d_Machine_start_2 : decode k_Machine_start 2 = .ok (.iload_n 3, 1) := by decide +kernel
theorem d_Machine_start_3 : decode k_Machine_start 3 = .ok (.bipush 6, 2) := by decide +kernel
theorem d_Machine_start_5 : decode k_Machine_start 5 = .ok (.if_icmp .ge 16, 3) := by decide +kernel
theorem d_Machine_start_8 : decode k_Machine_start 8 = .ok (.aload_n 0, 1) := by decide +kernel
theorem d_Machine_start_9 : decode k_Machine_start 9 = .ok (.getfield 15, 3) := by decide +kernel
theorem d_Machine_start_12 : decode k_Machine_start 12 = .ok (.iload_n 3, 1) := by decide +kernel
theorem d_Machine_start_13 : decode k_Machine_start 13 = .ok (.iconst 0, 1) := by decide +kernel
theorem d_Machine_start_14 : decode k_Machine_start 14 = .ok (.iastore, 1) := by decide +kernel
theorem d_Machine_start_15 : decode k_Machine_start 15 = .ok (.iinc 3 1, 3) := by decide +kernel
theorem d_Machine_start_18 : decode k_Machine_start 18 = .ok (.goto (-16), 3) := by decide +kernel
theorem d_Machine_start_21 : decode k_Machine_start 21 = .ok (.aload_n 0, 1) := by decide +kernel
theorem d_Machine_start_22 : decode k_Machine_start 22 = .ok (.getfield 15, 3) := by decide +kernel
theorem d_Machine_start_25 : decode k_Machine_start 25 = .ok (.iconst 0, 1) := by decide +kernel
theorem d_Machine_start_26 : decode k_Machine_start 26 = .ok (.iload_n 1, 1) := by decide +kernel
theorem d_Machine_start_27 : decode k_Machine_start 27 = .ok (.iastore, 1) := by decide +kernel
theorem d_Machine_start_28 : decode k_Machine_start 28 = .ok (.aload_n 0, 1) := by decide +kernel
theorem d_Machine_start_29 : decode k_Machine_start 29 = .ok (.iconst 0, 1) := by decide +kernel
theorem d_Machine_start_30 : decode k_Machine_start 30 = .ok (.putfield 21, 3) := by decide +kernel
theorem d_Machine_start_33 : decode k_Machine_start 33 = .ok (.aload_n 0, 1) := by decide +kernel
theorem d_Machine_start_34 : decode k_Machine_start 34 = .ok (.iconst 0, 1) := by decide +kernel
theorem d_Machine_start_35 : decode k_Machine_start 35 = .ok (.putfield 25, 3) := by decide +kernel
theorem d_Machine_start_38 : decode k_Machine_start 38 = .ok (.aload_n 0, 1) := by decide +kernel
theorem d_Machine_start_39 : decode k_Machine_start 39 = .ok (.iconst 0, 1) := by decide +kernel
theorem d_Machine_start_40 : decode k_Machine_start 40 = .ok (.putfield 28, 3) := by decide +kernel
theorem d_Machine_start_43 : decode k_Machine_start 43 = .ok (.aload_n 0, 1) := by decide +kernel
theorem d_Machine_start_44 : decode k_Machine_start 44 = .ok (.iload_n 2, 1) := by decide +kernel
theorem d_Machine_start_45 : decode k_Machine_start 45 = .ok (.putfield 31, 3) := by decide +kernel
theorem d_Machine_start_48 : decode k_Machine_start 48 = .ok (.return_, 1) := by decide +kernel
theorem d_Machine_spend_0 : decode k_Machine_spend 0 = .ok (.aload_n 0, 1) := by decide +kernel
theorem d_Machine_spend_1 : decode k_Machine_spend 1 = .ok (.getfield 28, 3) := by decide +kernel
theorem d_Machine_spend_4 : decode k_Machine_spend 4 = .ok (.aload_n 0, 1) := by decide +kernel
theorem d_Machine_spend_5 : decode k_Machine_spend 5 = .ok (.getfield 31, 3) := by decide +kernel
theorem d_Machine_spend_8 : decode k_Machine_spend 8 = .ok (.if_icmp .lt 5, 3) := by decide +kernel
theorem d_Machine_spend_11 : decode k_Machine_spend 11 = .ok (.iconst 0, 1) := by decide +kernel
theorem d_Machine_spend_12 : decode k_Machine_spend 12 = .ok (.ireturn, 1) := by decide +kernel
theorem d_Machine_spend_13 : decode k_Machine_spend 13 = .ok (.aload_n 0, 1) := by decide +kernel
theorem d_Machine_spend_14 : decode k_Machine_spend 14 = .ok (.dup, 1) := by decide +kernel
theorem d_Machine_spend_15 : decode k_Machine_spend 15 = .ok (.getfield 28, 3) := by decide +kernel
theorem d_Machine_spend_18 : decode k_Machine_spend 18 = .ok (.iconst 1, 1) := by decide +kernel
theorem d_Machine_spend_19 : decode k_Machine_spend 19 = .ok (.iadd, 1) := by decide +kernel
theorem d_Machine_spend_20 : decode k_Machine_spend 20 = .ok (.putfield 28, 3) := by decide +kernel
theorem d_Machine_spend_23 : decode k_Machine_spend 23 = .ok (.iconst 1, 1) := by decide +kernel
theorem d_Machine_spend_24 : decode k_Machine_spend 24 = .ok (.ireturn, 1) := by decide +kernel
theorem d_Machine_execute_0 : decode k_Machine_execute 0 = .ok (.iconst 0, 1) := by decide +kernel
theorem d_Machine_execute_1 : decode k_Machine_execute 1 = .ok (.istore_n 2, 1) := by decide +kernel
theorem d_Machine_execute_2 : decode k_Machine_execute 2 = .ok (.iconst 0, 1) := by decide +kernel
theorem d_Machine_execute_3 : decode k_Machine_execute 3 = .ok (.istore_n 3, 1) := by decide +kernel
theorem d_Machine_execute_4 : decode k_Machine_execute 4 = .ok (.iload_n 3, 1) := by decide +kernel
theorem d_Machine_execute_5 : decode k_Machine_execute 5 = .ok (.sipush 400, 3) := by decide +kernel
theorem d_Machine_execute_8 : decode k_Machine_execute 8 = .ok (.if_icmp .gt 42, 3) := by decide +kernel
theorem d_Machine_execute_11 : decode k_Machine_execute 11 = .ok (.aload_n 1, 1) := by decide +kernel
theorem d_Machine_execute_12 : decode k_Machine_execute 12 = .ok (.iload_n 2, 1) := by decide +kernel
theorem d_Machine_execute_13 : decode k_Machine_execute 13 = .ok (.invokevirtual 34, 3) := by decide +kernel
theorem d_Machine_execute_16 : decode k_Machine_execute 16 = .ok (.ifCond .eq 34, 3) := by decide +kernel
theorem d_Machine_execute_19 : decode k_Machine_execute 19 = .ok (.aload_n 0, 1) := by decide +kernel
theorem d_Machine_execute_20 : decode k_Machine_execute 20 = .ok (.invokevirtual 40, 3) := by decide +kernel
theorem d_Machine_execute_23 : decode k_Machine_execute 23 = .ok (.ifCond .ne 5, 3) := by decide +kernel
theorem d_Machine_execute_26 : decode k_Machine_execute 26 = .ok (.iconst 0, 1) := by decide +kernel
theorem d_Machine_execute_27 : decode k_Machine_execute 27 = .ok (.ireturn, 1) := by decide +kernel
theorem d_Machine_execute_28 : decode k_Machine_execute 28 = .ok (.aload_n 0, 1) := by decide +kernel
theorem d_Machine_execute_29 : decode k_Machine_execute 29 = .ok (.aload_n 1, 1) := by decide +kernel
theorem d_Machine_execute_30 : decode k_Machine_execute 30 = .ok (.iload_n 2, 1) := by decide +kernel
theorem d_Machine_execute_31 : decode k_Machine_execute 31 = .ok (.invokevirtual 44, 3) := by decide +kernel
theorem d_Machine_execute_34 : decode k_Machine_execute 34 = .ok (.aload_n 1, 1) := by decide +kernel
theorem d_Machine_execute_35 : decode k_Machine_execute 35 = .ok (.iload_n 2, 1) := by decide +kernel
theorem d_Machine_execute_36 : decode k_Machine_execute 36 = .ok (.invokevirtual 48, 3) := by decide +kernel
theorem d_Machine_execute_39 : decode k_Machine_execute 39 = .ok (.iload_n 2, 1) := by decide +kernel
theorem d_Machine_execute_40 : decode k_Machine_execute 40 = .ok (.invokevirtual 51, 3) := by decide +kernel
theorem d_Machine_execute_43 : decode k_Machine_execute 43 = .ok (.istore_n 2, 1) := by decide +kernel
theorem d_Machine_execute_44 : decode k_Machine_execute 44 = .ok (.iinc 3 1, 3) := by decide +kernel
theorem d_Machine_execute_47 : decode k_Machine_execute 47 = .ok (.goto (-43), 3) := by decide +kernel
theorem d_Machine_execute_50 : decode k_Machine_execute 50 = .ok (.iconst 1, 1) := by decide +kernel
theorem d_Machine_execute_51 : decode k_Machine_execute 51 = .ok (.ireturn, 1) := by decide +kernel
theorem d_Machine_step_0 : decode k_Machine_step 0 = .ok (.iload_n 1, 1) := by decide +kernel
theorem d_Machine_step_1 : decode k_Machine_step 1 = .ok (.bipush 8, 2) := by decide +kernel
theorem d_Machine_step_3 : decode k_Machine_step 3 = .ok (.if_icmp .ne 5, 3) := by decide +kernel
theorem d_Machine_step_6 : decode k_Machine_step 6 = .ok (.iload_n 2, 1) := by decide +kernel
theorem d_Machine_step_7 : decode k_Machine_step 7 = .ok (.ireturn, 1) := by decide +kernel
theorem d_Machine_step_8 : decode k_Machine_step 8 = .ok (.iload_n 1, 1) := by decide +kernel
theorem d_Machine_step_9 : decode k_Machine_step 9 = .ok (.bipush 9, 2) := by decide +kernel
theorem d_Machine_step_11 : decode k_Machine_step 11 = .ok (.if_icmp .ne 18, 3) := by decide +kernel
theorem d_Machine_step_14 : decode k_Machine_step 14 = .ok (.aload_n 0, 1) := by decide +kernel
theorem d_Machine_step_15 : decode k_Machine_step 15 = .ok (.invokevirtual 55, 3) := by decide +kernel
theorem d_Machine_step_18 : decode k_Machine_step 18 = .ok (.ifCond .ne 7, 3) := by decide +kernel
theorem d_Machine_step_21 : decode k_Machine_step 21 = .ok (.iload_n 2, 1) := by decide +kernel
theorem d_Machine_step_22 : decode k_Machine_step 22 = .ok (.goto 6, 3) := by decide +kernel
theorem d_Machine_step_25 : decode k_Machine_step 25 = .ok (.iload_n 3, 1) := by decide +kernel
theorem d_Machine_step_26 : decode k_Machine_step 26 = .ok (.iconst 1, 1) := by decide +kernel
theorem d_Machine_step_27 : decode k_Machine_step 27 = .ok (.iadd, 1) := by decide +kernel
theorem d_Machine_step_28 : decode k_Machine_step 28 = .ok (.ireturn, 1) := by decide +kernel
theorem d_Machine_step_29 : decode k_Machine_step 29 = .ok (.aload_n 0, 1) := by decide +kernel
theorem d_Machine_step_30 : decode k_Machine_step 30 = .ok (.iload_n 1, 1) := by decide +kernel
theorem d_Machine_step_31 : decode k_Machine_step 31 = .ok (.iload_n 2, 1) := by decide +kernel
theorem d_Machine_step_32 : decode k_Machine_step 32 = .ok (.invokevirtual 59, 3) := by decide +kernel
theorem d_Machine_step_35 : decode k_Machine_step 35 = .ok (.iload_n 3, 1) := by decide +kernel
theorem d_Machine_step_36 : decode k_Machine_step 36 = .ok (.iconst 1, 1) := by decide +kernel
theorem d_Machine_step_37 : decode k_Machine_step 37 = .ok (.iadd, 1) := by decide +kernel
theorem d_Machine_step_38 : decode k_Machine_step 38 = .ok (.ireturn, 1) := by decide +kernel
theorem d_Machine_perform_0 : decode k_Machine_perform 0 = .ok (.iload_n 1, 1) := by decide +kernel
theorem d_Machine_perform_1 : decode k_Machine_perform 1 = .ok (.tableswitch 121 0 10 #[59, 67, 79, 121, 121, 121, 121, 91, 121, 121, 110], 59) := by decide +kernel
theorem d_Machine_perform_60 : decode k_Machine_perform 60 = .ok (.aload_n 0, 1) := by decide +kernel
theorem d_Machine_perform_61 : decode k_Machine_perform 61 = .ok (.iload_n 2, 1) := by decide +kernel
theorem d_Machine_perform_62 : decode k_Machine_perform 62 = .ok (.invokevirtual 63, 3) := by decide +kernel
theorem d_Machine_perform_65 : decode k_Machine_perform 65 = .ok (.goto 75, 3) := by decide +kernel
theorem d_Machine_perform_68 : decode k_Machine_perform 68 = .ok (.aload_n 0, 1) := by decide +kernel
theorem d_Machine_perform_69 : decode k_Machine_perform 69 = .ok (.aload_n 0, 1) := by decide +kernel
theorem d_Machine_perform_70 : decode k_Machine_perform 70 = .ok (.iload_n 2, 1) := by decide +kernel
theorem d_Machine_perform_71 : decode k_Machine_perform 71 = .ok (.invokevirtual 67, 3) := by decide +kernel
theorem d_Machine_perform_74 : decode k_Machine_perform 74 = .ok (.invokevirtual 63, 3) := by decide +kernel
theorem d_Machine_perform_77 : decode k_Machine_perform 77 = .ok (.goto 63, 3) := by decide +kernel
theorem d_Machine_perform_80 : decode k_Machine_perform 80 = .ok (.aload_n 0, 1) := by decide +kernel
theorem d_Machine_perform_81 : decode k_Machine_perform 81 = .ok (.iload_n 2, 1) := by decide +kernel
theorem d_Machine_perform_82 : decode k_Machine_perform 82 = .ok (.aload_n 0, 1) := by decide +kernel
theorem d_Machine_perform_83 : decode k_Machine_perform 83 = .ok (.invokevirtual 55, 3) := by decide +kernel
theorem d_Machine_perform_86 : decode k_Machine_perform 86 = .ok (.invokevirtual 70, 3) := by decide +kernel
theorem d_Machine_perform_89 : decode k_Machine_perform 89 = .ok (.goto 51, 3) := by decide +kernel
theorem d_Machine_perform_92 : decode k_Machine_perform 92 = .ok (.aload_n 0, 1) := by decide +kernel
theorem d_Machine_perform_93 : decode k_Machine_perform 93 = .ok (.aload_n 0, 1) := by decide +kernel
theorem d_Machine_perform_94 : decode k_Machine_perform 94 = .ok (.invokevirtual 55, 3) := by decide +kernel
theorem d_Machine_perform_97 : decode k_Machine_perform 97 = .ok (.ifCond .ne 7, 3) := by decide +kernel
theorem d_Machine_perform_100 : decode k_Machine_perform 100 = .ok (.iconst 1, 1) := by decide +kernel
theorem d_Machine_perform_101 : decode k_Machine_perform 101 = .ok (.goto 4, 3) := by decide +kernel
theorem d_Machine_perform_104 : decode k_Machine_perform 104 = .ok (.iconst 0, 1) := by decide +kernel
theorem d_Machine_perform_105 : decode k_Machine_perform 105 = .ok (.invokevirtual 63, 3) := by decide +kernel
theorem d_Machine_perform_108 : decode k_Machine_perform 108 = .ok (.goto 32, 3) := by decide +kernel
theorem d_Machine_perform_111 : decode k_Machine_perform 111 = .ok (.aload_n 0, 1) := by decide +kernel
theorem d_Machine_perform_112 : decode k_Machine_perform 112 = .ok (.aload_n 0, 1) := by decide +kernel
theorem d_Machine_perform_113 : decode k_Machine_perform 113 = .ok (.invokevirtual 55, 3) := by decide +kernel
theorem d_Machine_perform_116 : decode k_Machine_perform 116 = .ok (.invokevirtual 73, 3) := by decide +kernel
theorem d_Machine_perform_119 : decode k_Machine_perform 119 = .ok (.goto 21, 3) := by decide +kernel
theorem d_Machine_perform_122 : decode k_Machine_perform 122 = .ok (.aload_n 0, 1) := by decide +kernel
theorem d_Machine_perform_123 : decode k_Machine_perform 123 = .ok (.invokevirtual 55, 3) := by decide +kernel
theorem d_Machine_perform_126 : decode k_Machine_perform 126 = .ok (.istore_n 3, 1) := by decide +kernel
theorem d_Machine_perform_127 : decode k_Machine_perform 127 = .ok (.aload_n 0, 1) := by decide +kernel
theorem d_Machine_perform_128 : decode k_Machine_perform 128 = .ok (.iload_n 1, 1) := by decide +kernel
theorem d_Machine_perform_129 : decode k_Machine_perform 129 = .ok (.aload_n 0, 1) := by decide +kernel
theorem d_Machine_perform_130 : decode k_Machine_perform 130 = .ok (.invokevirtual 55, 3) := by decide +kernel
theorem d_Machine_perform_133 : decode k_Machine_perform 133 = .ok (.iload_n 3, 1) := by decide +kernel
theorem d_Machine_perform_134 : decode k_Machine_perform 134 = .ok (.invokestatic 76, 3) := by decide +kernel
theorem d_Machine_perform_137 : decode k_Machine_perform 137 = .ok (.invokevirtual 63, 3) := by decide +kernel
theorem d_Machine_perform_140 : decode k_Machine_perform 140 = .ok (.return_, 1) := by decide +kernel
theorem d_Machine_combined_0 : decode k_Machine_combined 0 = .ok (.iload_n 0, 1) := by decide +kernel
theorem d_Machine_combined_1 : decode k_Machine_combined 1 = .ok (.tableswitch 39 3 5 #[27, 31, 35], 27) := by decide +kernel
theorem d_Machine_combined_28 : decode k_Machine_combined 28 = .ok (.iload_n 1, 1) := by decide +kernel
theorem d_Machine_combined_29 : decode k_Machine_combined 29 = .ok (.iload_n 2, 1) := by decide +kernel
theorem d_Machine_combined_30 : decode k_Machine_combined 30 = .ok (.iadd, 1) := by decide +kernel
theorem d_Machine_combined_31 : decode k_Machine_combined 31 = .ok (.ireturn, 1) := by decide +kernel
theorem d_Machine_combined_32 : decode k_Machine_combined 32 = .ok (.iload_n 1, 1) := by decide +kernel
theorem d_Machine_combined_33 : decode k_Machine_combined 33 = .ok (.iload_n 2, 1) := by decide +kernel
theorem d_Machine_combined_34 : decode k_Machine_combined 34 = .ok (.isub, 1) := by decide +kernel
theorem d_Machine_combined_35 : decode k_Machine_combined 35 = .ok (.ireturn, 1) := by decide +kernel
theorem d_Machine_combined_36 : decode k_Machine_combined 36 = .ok (.iload_n 1, 1) := by decide +kernel
theorem d_Machine_combined_37 : decode k_Machine_combined 37 = .ok (.iload_n 2, 1) := by decide +kernel
theorem d_Machine_combined_38 : decode k_Machine_combined 38 = .ok (.imul, 1) := by decide +kernel
theorem d_Machine_combined_39 : decode k_Machine_combined 39 = .ok (.ireturn, 1) := by decide +kernel
theorem d_Machine_combined_40 : decode k_Machine_combined 40 = .ok (.iload_n 1, 1) := by decide +kernel
theorem d_Machine_combined_41 : decode k_Machine_combined 41 = .ok (.iload_n 2, 1) := by decide +kernel
theorem d_Machine_combined_42 : decode k_Machine_combined 42 = .ok (.if_icmp .ge 7, 3) := by decide +kernel
theorem d_Machine_combined_45 : decode k_Machine_combined 45 = .ok (.iconst 1, 1) := by decide +kernel
theorem d_Machine_combined_46 : decode k_Machine_combined 46 = .ok (.goto 4, 3) := by decide +kernel
theorem d_Machine_combined_49 : decode k_Machine_combined 49 = .ok (.iconst 0, 1) := by decide +kernel
theorem d_Machine_combined_50 : decode k_Machine_combined 50 = .ok (.ireturn, 1) := by decide +kernel
theorem d_Machine_push_0 : decode k_Machine_push 0 = .ok (.aload_n 0, 1) := by decide +kernel
theorem d_Machine_push_1 : decode k_Machine_push 1 = .ok (.getfield 21, 3) := by decide +kernel
theorem d_Machine_push_4 : decode k_Machine_push 4 = .ok (.bipush 16, 2) := by decide +kernel
theorem d_Machine_push_6 : decode k_Machine_push 6 = .ok (.if_icmp .ge 23, 3) := by decide +kernel
theorem d_Machine_push_9 : decode k_Machine_push 9 = .ok (.aload_n 0, 1) := by decide +kernel
theorem d_Machine_push_10 : decode k_Machine_push 10 = .ok (.getfield 9, 3) := by decide +kernel
theorem d_Machine_push_13 : decode k_Machine_push 13 = .ok (.aload_n 0, 1) := by decide +kernel
theorem d_Machine_push_14 : decode k_Machine_push 14 = .ok (.getfield 21, 3) := by decide +kernel
theorem d_Machine_push_17 : decode k_Machine_push 17 = .ok (.iload_n 1, 1) := by decide +kernel
theorem d_Machine_push_18 : decode k_Machine_push 18 = .ok (.iastore, 1) := by decide +kernel
theorem d_Machine_push_19 : decode k_Machine_push 19 = .ok (.aload_n 0, 1) := by decide +kernel
theorem d_Machine_push_20 : decode k_Machine_push 20 = .ok (.dup, 1) := by decide +kernel
theorem d_Machine_push_21 : decode k_Machine_push 21 = .ok (.getfield 21, 3) := by decide +kernel
theorem d_Machine_push_24 : decode k_Machine_push 24 = .ok (.iconst 1, 1) := by decide +kernel
theorem d_Machine_push_25 : decode k_Machine_push 25 = .ok (.iadd, 1) := by decide +kernel
theorem d_Machine_push_26 : decode k_Machine_push 26 = .ok (.putfield 21, 3) := by decide +kernel
theorem d_Machine_push_29 : decode k_Machine_push 29 = .ok (.return_, 1) := by decide +kernel
theorem d_Machine_pop_0 : decode k_Machine_pop 0 = .ok (.aload_n 0, 1) := by decide +kernel
theorem d_Machine_pop_1 : decode k_Machine_pop 1 = .ok (.getfield 21, 3) := by decide +kernel
theorem d_Machine_pop_4 : decode k_Machine_pop 4 = .ok (.ifCond .gt 5, 3) := by decide +kernel
theorem d_Machine_pop_7 : decode k_Machine_pop 7 = .ok (.iconst 0, 1) := by decide +kernel
theorem d_Machine_pop_8 : decode k_Machine_pop 8 = .ok (.ireturn, 1) := by decide +kernel
theorem d_Machine_pop_9 : decode k_Machine_pop 9 = .ok (.aload_n 0, 1) := by decide +kernel
theorem d_Machine_pop_10 : decode k_Machine_pop 10 = .ok (.dup, 1) := by decide +kernel
theorem d_Machine_pop_11 : decode k_Machine_pop 11 = .ok (.getfield 21, 3) := by decide +kernel
theorem d_Machine_pop_14 : decode k_Machine_pop 14 = .ok (.iconst 1, 1) := by decide +kernel
theorem d_Machine_pop_15 : decode k_Machine_pop 15 = .ok (.isub, 1) := by decide +kernel
theorem d_Machine_pop_16 : decode k_Machine_pop 16 = .ok (.putfield 21, 3) := by decide +kernel
theorem d_Machine_pop_19 : decode k_Machine_pop 19 = .ok (.aload_n 0, 1) := by decide +kernel
theorem d_Machine_pop_20 : decode k_Machine_pop 20 = .ok (.getfield 9, 3) := by decide +kernel
theorem d_Machine_pop_23 : decode k_Machine_pop 23 = .ok (.aload_n 0, 1) := by decide +kernel
theorem d_Machine_pop_24 : decode k_Machine_pop 24 = .ok (.getfield 21, 3) := by decide +kernel
theorem d_Machine_pop_27 : decode k_Machine_pop 27 = .ok (.iaload, 1) := by decide +kernel
theorem d_Machine_pop_28 : decode k_Machine_pop 28 = .ok (.ireturn, 1) := by decide +kernel
theorem d_Machine_print_0 : decode k_Machine_print 0 = .ok (.aload_n 0, 1) := by decide +kernel
theorem d_Machine_print_1 : decode k_Machine_print 1 = .ok (.getfield 25, 3) := by decide +kernel
theorem d_Machine_print_4 : decode k_Machine_print 4 = .ok (.bipush 20, 2) := by decide +kernel
theorem d_Machine_print_6 : decode k_Machine_print 6 = .ok (.if_icmp .ge 13, 3) := by decide +kernel
theorem d_Machine_print_9 : decode k_Machine_print 9 = .ok (.aload_n 0, 1) := by decide +kernel
theorem d_Machine_print_10 : decode k_Machine_print 10 = .ok (.getfield 18, 3) := by decide +kernel
theorem d_Machine_print_13 : decode k_Machine_print 13 = .ok (.aload_n 0, 1) := by decide +kernel
theorem d_Machine_print_14 : decode k_Machine_print 14 = .ok (.getfield 25, 3) := by decide +kernel
theorem d_Machine_print_17 : decode k_Machine_print 17 = .ok (.iload_n 1, 1) := by decide +kernel
theorem d_Machine_print_18 : decode k_Machine_print 18 = .ok (.iastore, 1) := by decide +kernel
theorem d_Machine_print_19 : decode k_Machine_print 19 = .ok (.aload_n 0, 1) := by decide +kernel
theorem d_Machine_print_20 : decode k_Machine_print 20 = .ok (.dup, 1) := by decide +kernel
theorem d_Machine_print_21 : decode k_Machine_print 21 = .ok (.getfield 25, 3) := by decide +kernel
theorem d_Machine_print_24 : decode k_Machine_print 24 = .ok (.iconst 1, 1) := by decide +kernel
theorem d_Machine_print_25 : decode k_Machine_print 25 = .ok (.iadd, 1) := by decide +kernel
theorem d_Machine_print_26 : decode k_Machine_print 26 = .ok (.putfield 25, 3) := by decide +kernel
theorem d_Machine_print_29 : decode k_Machine_print 29 = .ok (.return_, 1) := by decide +kernel
theorem d_Machine_keepVariable_0 : decode k_Machine_keepVariable 0 = .ok (.iload_n 1, 1) := by decide +kernel
theorem d_Machine_keepVariable_1 : decode k_Machine_keepVariable 1 = .ok (.ifCond .lt 16, 3) := by decide +kernel
theorem d_Machine_keepVariable_4 : decode k_Machine_keepVariable 4 = .ok (.iload_n 1, 1) := by decide +kernel
theorem d_Machine_keepVariable_5 : decode k_Machine_keepVariable 5 = .ok (.bipush 6, 2) := by decide +kernel
theorem d_Machine_keepVariable_7 : decode k_Machine_keepVariable 7 = .ok (.if_icmp .ge 10, 3) := by decide +kernel
theorem d_Machine_keepVariable_10 : decode k_Machine_keepVariable 10 = .ok (.aload_n 0, 1) := by decide +kernel
theorem d_Machine_keepVariable_11 : decode k_Machine_keepVariable 11 = .ok (.getfield 15, 3) := by decide +kernel
theorem d_Machine_keepVariable_14 : decode k_Machine_keepVariable 14 = .ok (.iload_n 1, 1) := by decide +kernel
theorem d_Machine_keepVariable_15 : decode k_Machine_keepVariable 15 = .ok (.iload_n 2, 1) := by decide +kernel
theorem d_Machine_keepVariable_16 : decode k_Machine_keepVariable 16 = .ok (.iastore, 1) := by decide +kernel
theorem d_Machine_keepVariable_17 : decode k_Machine_keepVariable 17 = .ok (.return_, 1) := by decide +kernel
theorem d_Machine_variable_0 : decode k_Machine_variable 0 = .ok (.iload_n 1, 1) := by decide +kernel
theorem d_Machine_variable_1 : decode k_Machine_variable 1 = .ok (.ifCond .lt 18, 3) := by decide +kernel
theorem d_Machine_variable_4 : decode k_Machine_variable 4 = .ok (.iload_n 1, 1) := by decide +kernel
theorem d_Machine_variable_5 : decode k_Machine_variable 5 = .ok (.bipush 6, 2) := by decide +kernel
theorem d_Machine_variable_7 : decode k_Machine_variable 7 = .ok (.if_icmp .ge 12, 3) := by decide +kernel
theorem d_Machine_variable_10 : decode k_Machine_variable 10 = .ok (.aload_n 0, 1) := by decide +kernel
theorem d_Machine_variable_11 : decode k_Machine_variable 11 = .ok (.getfield 15, 3) := by decide +kernel
theorem d_Machine_variable_14 : decode k_Machine_variable 14 = .ok (.iload_n 1, 1) := by decide +kernel
theorem d_Machine_variable_15 : decode k_Machine_variable 15 = .ok (.iaload, 1) := by decide +kernel
theorem d_Machine_variable_16 : decode k_Machine_variable 16 = .ok (.goto 4, 3) := by decide +kernel
theorem d_Machine_variable_19 : decode k_Machine_variable 19 = .ok (.iconst 0, 1) := by decide +kernel
theorem d_Machine_variable_20 : decode k_Machine_variable 20 = .ok (.ireturn, 1) := by decide +kernel
theorem d_Machine_printed_0 : decode k_Machine_printed 0 = .ok (.aload_n 0, 1) := by decide +kernel
theorem d_Machine_printed_1 : decode k_Machine_printed 1 = .ok (.getfield 25, 3) := by decide +kernel
theorem d_Machine_printed_4 : decode k_Machine_printed 4 = .ok (.ireturn, 1) := by decide +kernel
theorem d_Machine_done_0 : decode k_Machine_done 0 = .ok (.aload_n 0, 1) := by decide +kernel
theorem d_Machine_done_1 : decode k_Machine_done 1 = .ok (.getfield 28, 3) := by decide +kernel
theorem d_Machine_done_4 : decode k_Machine_done 4 = .ok (.ireturn, 1) := by decide +kernel
theorem d_Machine_kept_0 : decode k_Machine_kept 0 = .ok (.iload_n 1, 1) := by decide +kernel
theorem d_Machine_kept_1 : decode k_Machine_kept 1 = .ok (.ifCond .lt 26, 3) := by decide +kernel
theorem d_Machine_kept_4 : decode k_Machine_kept 4 = .ok (.iload_n 1, 1) := by decide +kernel
theorem d_Machine_kept_5 : decode k_Machine_kept 5 = .ok (.aload_n 0, 1) := by decide +kernel
theorem d_Machine_kept_6 : decode k_Machine_kept 6 = .ok (.getfield 25, 3) := by decide +kernel
theorem d_Machine_kept_9 : decode k_Machine_kept 9 = .ok (.if_icmp .ge 18, 3) := by decide +kernel
theorem d_Machine_kept_12 : decode k_Machine_kept 12 = .ok (.iload_n 1, 1) := by decide +kernel
theorem d_Machine_kept_13 : decode k_Machine_kept 13 = .ok (.bipush 20, 2) := by decide +kernel
theorem d_Machine_kept_15 : decode k_Machine_kept 15 = .ok (.if_icmp .ge 12, 3) := by decide +kernel
theorem d_Machine_kept_18 : decode k_Machine_kept 18 = .ok (.aload_n 0, 1) := by decide +kernel
theorem d_Machine_kept_19 : decode k_Machine_kept 19 = .ok (.getfield 18, 3) := by decide +kernel
theorem d_Machine_kept_22 : decode k_Machine_kept 22 = .ok (.iload_n 1, 1) := by decide +kernel
theorem d_Machine_kept_23 : decode k_Machine_kept 23 = .ok (.iaload, 1) := by decide +kernel
theorem d_Machine_kept_24 : decode k_Machine_kept 24 = .ok (.goto 4, 3) := by decide +kernel
theorem d_Machine_kept_27 : decode k_Machine_kept 27 = .ok (.iconst 0, 1) := by decide +kernel
theorem d_Machine_kept_28 : decode k_Machine_kept 28 = .ok (.ireturn, 1) := by decide +kernel
theorem d_Scribe_write_0 : decode k_Scribe_write 0 = .ok (.aload_n 1, 1) := by decide +kernel
theorem d_Scribe_write_1 : decode k_Scribe_write 1 = .ok (.invokevirtual 9, 3) := by decide +kernel
theorem d_Scribe_write_4 : decode k_Scribe_write 4 = .ok (.aload_n 0, 1) := by decide +kernel
theorem d_Scribe_write_5 : decode k_Scribe_write 5 = .ok (.aload_n 1, 1) := by decide +kernel
theorem d_Scribe_write_6 : decode k_Scribe_write 6 = .ok (.aload_n 0, 1) := by decide +kernel
theorem d_Scribe_write_7 : decode k_Scribe_write 7 = .ok (.invokevirtual 14, 3) := by decide +kernel
theorem d_Scribe_write_10 : decode k_Scribe_write 10 = .ok (.iconst 0, 1) := by decide +kernel
theorem d_Scribe_write_11 : decode k_Scribe_write 11 = .ok (.invokestatic 20, 3) := by decide +kernel
theorem d_Scribe_write_14 : decode k_Scribe_write 14 = .ok (.return_, 1) := by decide +kernel
theorem d_Scribe_writeFrom_0 : decode k_Scribe_writeFrom 0 = .ok (.iload_n 3, 1) := by decide +kernel
theorem d_Scribe_writeFrom_1 : decode k_Scribe_writeFrom 1 = .ok (.bipush 15, 2) := by decide +kernel
theorem d_Scribe_writeFrom_3 : decode k_Scribe_writeFrom 3 = .ok (.if_icmp .le 4, 3) := by decide +kernel
theorem d_Scribe_writeFrom_6 : decode k_Scribe_writeFrom 6 = .ok (.return_, 1) := by decide +kernel
theorem d_Scribe_writeFrom_7 : decode k_Scribe_writeFrom 7 = .ok (.iload_n 2, 1) := by decide +kernel
theorem d_Scribe_writeFrom_8 : decode k_Scribe_writeFrom 8 = .ok (.istore 4, 2) := by decide +kernel
theorem d_Scribe_writeFrom_10 : decode k_Scribe_writeFrom 10 = .ok (.iconst 0, 1) := by decide +kernel
theorem d_Scribe_writeFrom_11 : decode k_Scribe_writeFrom 11 = .ok (.istore 5, 2) := by decide +kernel
theorem d_Scribe_writeFrom_13 : decode k_Scribe_writeFrom 13 = .ok (.iload 5, 2) := by decide +kernel
theorem d_Scribe_writeFrom_15 : decode k_Scribe_writeFrom 15 = .ok (.bipush 15, 2) := by decide +kernel
theorem d_Scribe_writeFrom_17 : decode k_Scribe_writeFrom 17 = .ok (.if_icmp .ge 34, 3) := by decide +kernel
theorem d_Scribe_writeFrom_20 : decode k_Scribe_writeFrom 20 = .ok (.aload_n 0, 1) := by decide +kernel
theorem d_Scribe_writeFrom_21 : decode k_Scribe_writeFrom 21 = .ok (.iload 4, 2) := by decide +kernel
theorem d_Scribe_writeFrom_23 : decode k_Scribe_writeFrom 23 = .ok (.invokevirtual 26, 3) := by decide +kernel
theorem d_Scribe_writeFrom_26 : decode k_Scribe_writeFrom 26 = .ok (.ifCond .eq 25, 3) := by decide +kernel
theorem d_Scribe_writeFrom_29 : decode k_Scribe_writeFrom 29 = .ok (.aload_n 0, 1) := by decide +kernel
theorem d_Scribe_writeFrom_30 : decode k_Scribe_writeFrom 30 = .ok (.aload_n 1, 1) := by decide +kernel
theorem d_Scribe_writeFrom_31 : decode k_Scribe_writeFrom 31 = .ok (.iload 4, 2) := by decide +kernel
theorem d_Scribe_writeFrom_33 : decode k_Scribe_writeFrom 33 = .ok (.iload_n 3, 1) := by decide +kernel
theorem d_Scribe_writeFrom_34 : decode k_Scribe_writeFrom 34 = .ok (.invokestatic 30, 3) := by decide +kernel
theorem d_Scribe_writeFrom_37 : decode k_Scribe_writeFrom 37 = .ok (.aload_n 0, 1) := by decide +kernel
theorem d_Scribe_writeFrom_38 : decode k_Scribe_writeFrom 38 = .ok (.iload 4, 2) := by decide +kernel
theorem d_Scribe_writeFrom_40 : decode k_Scribe_writeFrom 40 = .ok (.invokevirtual 33, 3) := by decide +kernel
theorem d_Scribe_writeFrom_43 : decode k_Scribe_writeFrom 43 = .ok (.istore 4, 2) := by decide +kernel
theorem d_Scribe_writeFrom_45 : decode k_Scribe_writeFrom 45 = .ok (.iinc 5 1, 3) := by decide +kernel
theorem d_Scribe_writeFrom_48 : decode k_Scribe_writeFrom 48 = .ok (.goto (-35), 3) := by decide +kernel
theorem d_Scribe_writeFrom_51 : decode k_Scribe_writeFrom 51 = .ok (.return_, 1) := by decide +kernel
theorem d_Scribe_writeStatement_0 : decode k_Scribe_writeStatement 0 = .ok (.aload_n 0, 1) := by decide +kernel
theorem d_Scribe_writeStatement_1 : decode k_Scribe_writeStatement 1 = .ok (.iload_n 2, 1) := by decide +kernel
theorem d_Scribe_writeStatement_2 : decode k_Scribe_writeStatement 2 = .ok (.invokevirtual 37, 3) := by decide +kernel
theorem d_Scribe_writeStatement_5 : decode k_Scribe_writeStatement 5 = .ok (.istore 4, 2) := by decide +kernel
theorem d_Scribe_writeStatement_7 : decode k_Scribe_writeStatement 7 = .ok (.aload_n 0, 1) := by decide +kernel
theorem d_Scribe_writeStatement_8 : decode k_Scribe_writeStatement 8 = .ok (.iload_n 2, 1) := by decide +kernel
theorem d_Scribe_writeStatement_9 : decode k_Scribe_writeStatement 9 = .ok (.invokevirtual 40, 3) := by decide +kernel
theorem d_Scribe_writeStatement_12 : decode k_Scribe_writeStatement 12 = .ok (.istore 5, 2) := by decide +kernel
theorem d_Scribe_writeStatement_14 : decode k_Scribe_writeStatement 14 = .ok (.iload 4, 2) := by decide +kernel
theorem d_Scribe_writeStatement_16 : decode k_Scribe_writeStatement 16 = .ok (.iconst 2, 1) := by decide +kernel
theorem d_Scribe_writeStatement_17 : decode k_Scribe_writeStatement 17 = .ok (.if_icmp .ne 20, 3) := by decide +kernel
theorem d_Scribe_writeStatement_20 : decode k_Scribe_writeStatement 20 = .ok (.aload_n 1, 1) := by decide +kernel
theorem d_Scribe_writeStatement_21 : decode k_Scribe_writeStatement 21 = .ok (.bipush 97, 2) := by decide +kernel
theorem d_Scribe_writeStatement_23 : decode k_Scribe_writeStatement 23 = .ok (.aload_n 0, 1) := by decide +kernel
theorem d_Scribe_writeStatement_24 : decode k_Scribe_writeStatement 24 = .ok (.invokevirtual 43, 3) := by decide +kernel
theorem d_Scribe_writeStatement_27 : decode k_Scribe_writeStatement 27 = .ok (.iload 5, 2) := by decide +kernel
theorem d_Scribe_writeStatement_29 : decode k_Scribe_writeStatement 29 = .ok (.invokevirtual 47, 3) := by decide +kernel
theorem d_Scribe_writeStatement_32 : decode k_Scribe_writeStatement 32 = .ok (.iadd, 1) := by decide +kernel
theorem d_Scribe_writeStatement_33 : decode k_Scribe_writeStatement 33 = .ok (.invokevirtual 52, 3) := by decide +kernel
theorem d_Scribe_writeStatement_36 : decode k_Scribe_writeStatement 36 = .ok (.pop, 1) := by decide +kernel
theorem d_Scribe_writeStatement_37 : decode k_Scribe_writeStatement 37 = .ok (.aload_n 1, 1) := by decide +kernel
theorem d_Scribe_writeStatement_38 : decode k_Scribe_writeStatement 38 = .ok (.iload 4, 2) := by decide +kernel
theorem d_Scribe_writeStatement_40 : decode k_Scribe_writeStatement 40 = .ok (.invokestatic 55, 3) := by decide +kernel
theorem d_Scribe_writeStatement_43 : decode k_Scribe_writeStatement 43 = .ok (.invokevirtual 52, 3) := by decide +kernel
theorem d_Scribe_writeStatement_46 : decode k_Scribe_writeStatement 46 = .ok (.pop, 1) := by decide +kernel
theorem d_Scribe_writeStatement_47 : decode k_Scribe_writeStatement 47 = .ok (.aload_n 0, 1) := by decide +kernel
theorem d_Scribe_writeStatement_48 : decode k_Scribe_writeStatement 48 = .ok (.aload_n 1, 1) := by decide +kernel
theorem d_Scribe_writeStatement_49 : decode k_Scribe_writeStatement 49 = .ok (.iload 5, 2) := by decide +kernel
theorem d_Scribe_writeStatement_51 : decode k_Scribe_writeStatement 51 = .ok (.iconst 1, 1) := by decide +kernel
theorem d_Scribe_writeStatement_52 : decode k_Scribe_writeStatement 52 = .ok (.isub, 1) := by decide +kernel
theorem d_Scribe_writeStatement_53 : decode k_Scribe_writeStatement 53 = .ok (.iconst 0, 1) := by decide +kernel
theorem d_Scribe_writeStatement_54 : decode k_Scribe_writeStatement 54 = .ok (.invokestatic 59, 3) := by decide +kernel
theorem d_Scribe_writeStatement_57 : decode k_Scribe_writeStatement 57 = .ok (.iload 4, 2) := by decide +kernel
theorem d_Scribe_writeStatement_59 : decode k_Scribe_writeStatement 59 = .ok (.iconst 2, 1) := by decide +kernel
theorem d_Scribe_writeStatement_60 : decode k_Scribe_writeStatement 60 = .ok (.if_icmp .eq 10, 3) := by decide +kernel
theorem d_Scribe_writeStatement_63 : decode k_Scribe_writeStatement 63 = .ok (.iload 4, 2) := by decide +kernel
theorem d_Scribe_writeStatement_65 : decode k_Scribe_writeStatement 65 = .ok (.bipush 10, 2) := by decide +kernel
theorem d_Scribe_writeStatement_67 : decode k_Scribe_writeStatement 67 = .ok (.if_icmp .ne 11, 3) := by decide +kernel
theorem d_Scribe_writeStatement_70 : decode k_Scribe_writeStatement 70 = .ok (.aload_n 1, 1) := by decide +kernel
theorem d_Scribe_writeStatement_71 : decode k_Scribe_writeStatement 71 = .ok (.bipush 59, 2) := by decide +kernel
theorem d_Scribe_writeStatement_73 : decode k_Scribe_writeStatement 73 = .ok (.invokevirtual 52, 3) := by decide +kernel
theorem d_Scribe_writeStatement_76 : decode k_Scribe_writeStatement 76 = .ok (.pop, 1) := by decide +kernel
theorem d_Scribe_writeStatement_77 : decode k_Scribe_writeStatement 77 = .ok (.return_, 1) := by decide +kernel
theorem d_Scribe_writeStatement_78 : decode k_Scribe_writeStatement 78 = .ok (.aload_n 0, 1) := by decide +kernel
theorem d_Scribe_writeStatement_79 : decode k_Scribe_writeStatement 79 = .ok (.aload_n 1, 1) := by decide +kernel
theorem d_Scribe_writeStatement_80 : decode k_Scribe_writeStatement 80 = .ok (.aload_n 0, 1) := by decide +kernel
theorem d_Scribe_writeStatement_81 : decode k_Scribe_writeStatement 81 = .ok (.iload_n 2, 1) := by decide +kernel
theorem d_Scribe_writeStatement_82 : decode k_Scribe_writeStatement 82 = .ok (.invokevirtual 62, 3) := by decide +kernel
theorem d_Scribe_writeStatement_85 : decode k_Scribe_writeStatement 85 = .ok (.iload_n 3, 1) := by decide +kernel
theorem d_Scribe_writeStatement_86 : decode k_Scribe_writeStatement 86 = .ok (.invokestatic 65, 3) := by decide +kernel
theorem d_Scribe_writeStatement_89 : decode k_Scribe_writeStatement 89 = .ok (.iload 4, 2) := by decide +kernel
theorem d_Scribe_writeStatement_91 : decode k_Scribe_writeStatement 91 = .ok (.bipush 13, 2) := by decide +kernel
theorem d_Scribe_writeStatement_93 : decode k_Scribe_writeStatement 93 = .ok (.if_icmp .ne 21, 3) := by decide +kernel
theorem d_Scribe_writeStatement_96 : decode k_Scribe_writeStatement 96 = .ok (.aload_n 1, 1) := by decide +kernel
theorem d_Scribe_writeStatement_97 : decode k_Scribe_writeStatement 97 = .ok (.bipush 58, 2) := by decide +kernel
theorem d_Scribe_writeStatement_99 : decode k_Scribe_writeStatement 99 = .ok (.invokevirtual 52, 3) := by decide +kernel
theorem d_Scribe_writeStatement_102 : decode k_Scribe_writeStatement 102 = .ok (.pop, 1) := by decide +kernel
theorem d_Scribe_writeStatement_103 : decode k_Scribe_writeStatement 103 = .ok (.aload_n 0, 1) := by decide +kernel
theorem d_Scribe_writeStatement_104 : decode k_Scribe_writeStatement 104 = .ok (.aload_n 1, 1) := by decide +kernel
theorem d_Scribe_writeStatement_105 : decode k_Scribe_writeStatement 105 = .ok (.aload_n 0, 1) := by decide +kernel
theorem d_Scribe_writeStatement_106 : decode k_Scribe_writeStatement 106 = .ok (.iload_n 2, 1) := by decide +kernel
theorem d_Scribe_writeStatement_107 : decode k_Scribe_writeStatement 107 = .ok (.invokevirtual 68, 3) := by decide +kernel
theorem d_Scribe_writeStatement_110 : decode k_Scribe_writeStatement 110 = .ok (.iload_n 3, 1) := by decide +kernel
theorem d_Scribe_writeStatement_111 : decode k_Scribe_writeStatement 111 = .ok (.invokestatic 65, 3) := by decide +kernel
theorem d_Scribe_writeStatement_114 : decode k_Scribe_writeStatement 114 = .ok (.return_, 1) := by decide +kernel
theorem d_Scribe_writeBlock_0 : decode k_Scribe_writeBlock 0 = .ok (.aload_n 1, 1) := by decide +kernel
theorem d_Scribe_writeBlock_1 : decode k_Scribe_writeBlock 1 = .ok (.bipush 123, 2) := by decide +kernel
theorem d_Scribe_writeBlock_3 : decode k_Scribe_writeBlock 3 = .ok (.invokevirtual 52, 3) := by decide +kernel
theorem d_Scribe_writeBlock_6 : decode k_Scribe_writeBlock 6 = .ok (.pop, 1) := by decide +kernel
theorem d_Scribe_writeBlock_7 : decode k_Scribe_writeBlock 7 = .ok (.aload_n 0, 1) := by decide +kernel
theorem d_Scribe_writeBlock_8 : decode k_Scribe_writeBlock 8 = .ok (.aload_n 1, 1) := by decide +kernel
theorem d_Scribe_writeBlock_9 : decode k_Scribe_writeBlock 9 = .ok (.iload_n 2, 1) := by decide +kernel
theorem d_Scribe_writeBlock_10 : decode k_Scribe_writeBlock 10 = .ok (.iload_n 3, 1) := by decide +kernel
theorem d_Scribe_writeBlock_11 : decode k_Scribe_writeBlock 11 = .ok (.iconst 1, 1) := by decide +kernel
theorem d_Scribe_writeBlock_12 : decode k_Scribe_writeBlock 12 = .ok (.iadd, 1) := by decide +kernel
theorem d_Scribe_writeBlock_13 : decode k_Scribe_writeBlock 13 = .ok (.invokestatic 20, 3) := by decide +kernel
theorem d_Scribe_writeBlock_16 : decode k_Scribe_writeBlock 16 = .ok (.aload_n 1, 1) := by decide +kernel
theorem d_Scribe_writeBlock_17 : decode k_Scribe_writeBlock 17 = .ok (.bipush 125, 2) := by decide +kernel
theorem d_Scribe_writeBlock_19 : decode k_Scribe_writeBlock 19 = .ok (.invokevirtual 52, 3) := by decide +kernel
theorem d_Scribe_writeBlock_22 : decode k_Scribe_writeBlock 22 = .ok (.pop, 1) := by decide +kernel
theorem d_Scribe_writeBlock_23 : decode k_Scribe_writeBlock 23 = .ok (.return_, 1) := by decide +kernel
theorem d_Scribe_signOfStatement_0 : decode k_Scribe_signOfStatement 0 = .ok (.iload_n 0, 1) := by decide +kernel
theorem d_Scribe_signOfStatement_1 : decode k_Scribe_signOfStatement 1 = .ok (.lookupswitch 44 #[(2, 35), (10, 38), (11, 41)], 35) := by decide +kernel
theorem d_Scribe_signOfStatement_36 : decode k_Scribe_signOfStatement 36 = .ok (.bipush 61, 2) := by decide +kernel
theorem d_Scribe_signOfStatement_38 : decode k_Scribe_signOfStatement 38 = .ok (.ireturn, 1) := by decide +kernel
theorem d_Scribe_signOfStatement_39 : decode k_Scribe_signOfStatement 39 = .ok (.bipush 35, 2) := by decide +kernel
theorem d_Scribe_signOfStatement_41 : decode k_Scribe_signOfStatement 41 = .ok (.ireturn, 1) := by decide +kernel
theorem d_Scribe_signOfStatement_42 : decode k_Scribe_signOfStatement 42 = .ok (.bipush 64, 2) := by decide +kernel
theorem d_Scribe_signOfStatement_44 : decode k_Scribe_signOfStatement 44 = .ok (.ireturn, 1) := by decide +kernel
theorem d_Scribe_signOfStatement_45 : decode k_Scribe_signOfStatement 45 = .ok (.bipush 63, 2) := by decide +kernel
theorem d_Scribe_signOfStatement_47 : decode k_Scribe_signOfStatement 47 = .ok (.ireturn, 1) := by decide +kernel
theorem d_Scribe_writeExpression_0 : decode k_Scribe_writeExpression 0 = .ok (.aload_n 0, 1) := by decide +kernel
theorem d_Scribe_writeExpression_1 : decode k_Scribe_writeExpression 1 = .ok (.invokevirtual 43, 3) := by decide +kernel
theorem d_Scribe_writeExpression_4 : decode k_Scribe_writeExpression 4 = .ok (.iload_n 2, 1) := by decide +kernel
theorem d_Scribe_writeExpression_5 : decode k_Scribe_writeExpression 5 = .ok (.invokevirtual 71, 3) := by decide +kernel
theorem d_Scribe_writeExpression_8 : decode k_Scribe_writeExpression 8 = .ok (.ifCond .eq 9, 3) := by decide +kernel
theorem d_Scribe_writeExpression_11 : decode k_Scribe_writeExpression 11 = .ok (.iload_n 3, 1) := by decide +kernel
theorem d_Scribe_writeExpression_12 : decode k_Scribe_writeExpression 12 = .ok (.bipush 30, 2) := by decide +kernel
theorem d_Scribe_writeExpression_14 : decode k_Scribe_writeExpression 14 = .ok (.if_icmp .le 4, 3) := by decide +kernel
theorem d_Scribe_writeExpression_17 : decode k_Scribe_writeExpression 17 = .ok (.return_, 1) := by decide +kernel
theorem d_Scribe_writeExpression_18 : decode k_Scribe_writeExpression 18 = .ok (.aload_n 0, 1) := by decide +kernel
theorem d_Scribe_writeExpression_19 : decode k_Scribe_writeExpression 19 = .ok (.invokevirtual 43, 3) := by decide +kernel
theorem d_Scribe_writeExpression_22 : decode k_Scribe_writeExpression 22 = .ok (.iload_n 2, 1) := by decide +kernel
theorem d_Scribe_writeExpression_23 : decode k_Scribe_writeExpression 23 = .ok (.invokevirtual 72, 3) := by decide +kernel
theorem d_Scribe_writeExpression_26 : decode k_Scribe_writeExpression 26 = .ok (.istore 4, 2) := by decide +kernel
theorem d_Scribe_writeExpression_28 : decode k_Scribe_writeExpression 28 = .ok (.iload 4, 2) := by decide +kernel
theorem d_Scribe_writeExpression_30 : decode k_Scribe_writeExpression 30 = .ok (.ifCond .ne 18, 3) := by decide +kernel
theorem d_Scribe_writeExpression_33 : decode k_Scribe_writeExpression 33 = .ok (.aload_n 1, 1) := by decide +kernel
theorem d_Scribe_writeExpression_34 : decode k_Scribe_writeExpression 34 = .ok (.aload_n 0, 1) := by decide +kernel
theorem d_Scribe_writeExpression_35 : decode k_Scribe_writeExpression 35 = .ok (.invokevirtual 43, 3) := by decide +kernel
theorem d_Scribe_writeExpression_38 : decode k_Scribe_writeExpression 38 = .ok (.iload_n 2, 1) := by decide +kernel
theorem d_Scribe_writeExpression_39 : decode k_Scribe_writeExpression 39 = .ok (.invokevirtual 47, 3) := by decide +kernel
theorem d_Scribe_writeExpression_42 : decode k_Scribe_writeExpression 42 = .ok (.invokestatic 75, 3) := by decide +kernel
theorem d_Scribe_writeExpression_45 : decode k_Scribe_writeExpression 45 = .ok (.goto 104, 3) := by decide +kernel
theorem d_Scribe_writeExpression_48 : decode k_Scribe_writeExpression 48 = .ok (.iload 4, 2) := by decide +kernel
theorem d_Scribe_writeExpression_50 : decode k_Scribe_writeExpression 50 = .ok (.iconst 1, 1) := by decide +kernel
theorem d_Scribe_writeExpression_51 : decode k_Scribe_writeExpression 51 = .ok (.if_icmp .ne 22, 3) := by decide +kernel
theorem d_Scribe_writeExpression_54 : decode k_Scribe_writeExpression 54 = .ok (.aload_n 1, 1) := by decide +kernel
theorem d_Scribe_writeExpression_55 : decode k_Scribe_writeExpression 55 = .ok (.bipush 97, 2) := by decide +kernel
theorem d_Scribe_writeExpression_57 : decode k_Scribe_writeExpression 57 = .ok (.aload_n 0, 1) := by decide +kernel
theorem d_Scribe_writeExpression_58 : decode k_Scribe_writeExpression 58 = .ok (.invokevirtual 43, 3) := by decide +kernel
theorem d_Scribe_writeExpression_61 : decode k_Scribe_writeExpression 61 = .ok (.iload_n 2, 1) := by decide +kernel
theorem d_Scribe_writeExpression_62 : decode k_Scribe_writeExpression 62 = .ok (.invokevirtual 47, 3) := by decide +kernel
theorem d_Scribe_writeExpression_65 : decode k_Scribe_writeExpression 65 = .ok (.iadd, 1) := by decide +kernel
theorem d_Scribe_writeExpression_66 : decode k_Scribe_writeExpression 66 = .ok (.invokevirtual 52, 3) := by decide +kernel
theorem d_Scribe_writeExpression_69 : decode k_Scribe_writeExpression 69 = .ok (.pop, 1) := by decide +kernel
theorem d_Scribe_writeExpression_70 : decode k_Scribe_writeExpression 70 = .ok (.goto 79, 3) := by decide +kernel
theorem d_Scribe_writeExpression_73 : decode k_Scribe_writeExpression 73 = .ok (.iload 4, 2) := by decide +kernel
theorem d_Scribe_writeExpression_75 : decode k_Scribe_writeExpression 75 = .ok (.bipush 7, 2) := by decide +kernel
theorem d_Scribe_writeExpression_77 : decode k_Scribe_writeExpression 77 = .ok (.if_icmp .ne 24, 3) := by decide +kernel
theorem d_Scribe_writeExpression_80 : decode k_Scribe_writeExpression 80 = .ok (.aload_n 1, 1) := by decide +kernel
theorem d_Scribe_writeExpression_81 : decode k_Scribe_writeExpression 81 = .ok (.bipush 33, 2) := by decide +kernel
theorem d_Scribe_writeExpression_83 : decode k_Scribe_writeExpression 83 = .ok (.invokevirtual 52, 3) := by decide +kernel
theorem d_Scribe_writeExpression_86 : decode k_Scribe_writeExpression 86 = .ok (.pop, 1) := by decide +kernel
theorem d_Scribe_writeExpression_87 : decode k_Scribe_writeExpression 87 = .ok (.aload_n 0, 1) := by decide +kernel
theorem d_Scribe_writeExpression_88 : decode k_Scribe_writeExpression 88 = .ok (.aload_n 1, 1) := by decide +kernel
theorem d_Scribe_writeExpression_89 : decode k_Scribe_writeExpression 89 = .ok (.iload_n 2, 1) := by decide +kernel
theorem d_Scribe_writeExpression_90 : decode k_Scribe_writeExpression 90 = .ok (.iconst 1, 1) := by decide +kernel
theorem d_Scribe_writeExpression_91 : decode k_Scribe_writeExpression 91 = .ok (.isub, 1) := by decide +kernel
theorem d_Scribe_writeExpression_92 : decode k_Scribe_writeExpression 92 = .ok (.iload_n 3, 1) := by decide +kernel
theorem d_Scribe_writeExpression_93 : decode k_Scribe_writeExpression 93 = .ok (.iconst 1, 1) := by decide +kernel
theorem d_Scribe_writeExpression_94 : decode k_Scribe_writeExpression 94 = .ok (.iadd, 1) := by decide +kernel
theorem d_Scribe_writeExpression_95 : decode k_Scribe_writeExpression 95 = .ok (.invokestatic 59, 3) := by decide +kernel
theorem d_Scribe_writeExpression_98 : decode k_Scribe_writeExpression 98 = .ok (.goto 51, 3) := by decide +kernel
theorem d_Scribe_writeExpression_101 : decode k_Scribe_writeExpression 101 = .ok (.aload_n 1, 1) := by decide +kernel
theorem d_Scribe_writeExpression_102 : decode k_Scribe_writeExpression 102 = .ok (.bipush 40, 2) := by decide +kernel
theorem d_Scribe_writeExpression_104 : decode k_Scribe_writeExpression 104 = .ok (.invokevirtual 52, 3) := by decide +kernel
theorem d_Scribe_writeExpression_107 : decode k_Scribe_writeExpression 107 = .ok (.pop, 1) := by decide +kernel
theorem d_Scribe_writeExpression_108 : decode k_Scribe_writeExpression 108 = .ok (.aload_n 0, 1) := by decide +kernel
theorem d_Scribe_writeExpression_109 : decode k_Scribe_writeExpression 109 = .ok (.aload_n 1, 1) := by decide +kernel
theorem d_Scribe_writeExpression_110 : decode k_Scribe_writeExpression 110 = .ok (.aload_n 0, 1) := by decide +kernel
theorem d_Scribe_writeExpression_111 : decode k_Scribe_writeExpression 111 = .ok (.iload_n 2, 1) := by decide +kernel
theorem d_Scribe_writeExpression_112 : decode k_Scribe_writeExpression 112 = .ok (.invokevirtual 79, 3) := by decide +kernel
theorem d_Scribe_writeExpression_115 : decode k_Scribe_writeExpression 115 = .ok (.iload_n 3, 1) := by decide +kernel
theorem d_Scribe_writeExpression_116 : decode k_Scribe_writeExpression 116 = .ok (.iconst 1, 1) := by decide +kernel
theorem d_Scribe_writeExpression_117 : decode k_Scribe_writeExpression 117 = .ok (.iadd, 1) := by decide +kernel
theorem d_Scribe_writeExpression_118 : decode k_Scribe_writeExpression 118 = .ok (.invokestatic 59, 3) := by decide +kernel
theorem d_Scribe_writeExpression_121 : decode k_Scribe_writeExpression 121 = .ok (.aload_n 1, 1) := by decide +kernel
theorem d_Scribe_writeExpression_122 : decode k_Scribe_writeExpression 122 = .ok (.iload 4, 2) := by decide +kernel
theorem d_Scribe_writeExpression_124 : decode k_Scribe_writeExpression 124 = .ok (.invokestatic 82, 3) := by decide +kernel
theorem d_Scribe_writeExpression_127 : decode k_Scribe_writeExpression 127 = .ok (.invokevirtual 52, 3) := by decide +kernel
theorem d_Scribe_writeExpression_130 : decode k_Scribe_writeExpression 130 = .ok (.pop, 1) := by decide +kernel
theorem d_Scribe_writeExpression_131 : decode k_Scribe_writeExpression 131 = .ok (.aload_n 0, 1) := by decide +kernel
theorem d_Scribe_writeExpression_132 : decode k_Scribe_writeExpression 132 = .ok (.aload_n 1, 1) := by decide +kernel
theorem d_Scribe_writeExpression_133 : decode k_Scribe_writeExpression 133 = .ok (.iload_n 2, 1) := by decide +kernel
theorem d_Scribe_writeExpression_134 : decode k_Scribe_writeExpression 134 = .ok (.iconst 1, 1) := by decide +kernel
theorem d_Scribe_writeExpression_135 : decode k_Scribe_writeExpression 135 = .ok (.isub, 1) := by decide +kernel
theorem d_Scribe_writeExpression_136 : decode k_Scribe_writeExpression 136 = .ok (.iload_n 3, 1) := by decide +kernel
theorem d_Scribe_writeExpression_137 : decode k_Scribe_writeExpression 137 = .ok (.iconst 1, 1) := by decide +kernel
theorem d_Scribe_writeExpression_138 : decode k_Scribe_writeExpression 138 = .ok (.iadd, 1) := by decide +kernel
theorem d_Scribe_writeExpression_139 : decode k_Scribe_writeExpression 139 = .ok (.invokestatic 59, 3) := by decide +kernel
theorem d_Scribe_writeExpression_142 : decode k_Scribe_writeExpression 142 = .ok (.aload_n 1, 1) := by decide +kernel
theorem d_Scribe_writeExpression_143 : decode k_Scribe_writeExpression 143 = .ok (.bipush 41, 2) := by decide +kernel
theorem d_Scribe_writeExpression_145 : decode k_Scribe_writeExpression 145 = .ok (.invokevirtual 52, 3) := by decide +kernel
theorem d_Scribe_writeExpression_148 : decode k_Scribe_writeExpression 148 = .ok (.pop, 1) := by decide +kernel
theorem d_Scribe_writeExpression_149 : decode k_Scribe_writeExpression 149 = .ok (.return_, 1) := by decide +kernel
theorem d_Scribe_writeNumber_0 : decode k_Scribe_writeNumber 0 = .ok (.iload_n 1, 1) := by decide +kernel
theorem d_Scribe_writeNumber_1 : decode k_Scribe_writeNumber 1 = .ok (.bipush 10, 2) := by decide +kernel
theorem d_Scribe_writeNumber_3 : decode k_Scribe_writeNumber 3 = .ok (.if_icmp .lt 15, 3) := by decide +kernel
theorem d_Scribe_writeNumber_6 : decode k_Scribe_writeNumber 6 = .ok (.aload_n 0, 1) := by decide +kernel
theorem d_Scribe_writeNumber_7 : decode k_Scribe_writeNumber 7 = .ok (.bipush 48, 2) := by decide +kernel
theorem d_Scribe_writeNumber_9 : decode k_Scribe_writeNumber 9 = .ok (.iload_n 1, 1) := by decide +kernel
theorem d_Scribe_writeNumber_10 : decode k_Scribe_writeNumber 10 = .ok (.bipush 10, 2) := by decide +kernel
theorem d_Scribe_writeNumber_12 : decode k_Scribe_writeNumber 12 = .ok (.idiv, 1) := by decide +kernel
theorem d_Scribe_writeNumber_13 : decode k_Scribe_writeNumber 13 = .ok (.iadd, 1) := by decide +kernel
theorem d_Scribe_writeNumber_14 : decode k_Scribe_writeNumber 14 = .ok (.invokevirtual 52, 3) := by decide +kernel
theorem d_Scribe_writeNumber_17 : decode k_Scribe_writeNumber 17 = .ok (.pop, 1) := by decide +kernel
theorem d_Scribe_writeNumber_18 : decode k_Scribe_writeNumber 18 = .ok (.aload_n 0, 1) := by decide +kernel
theorem d_Scribe_writeNumber_19 : decode k_Scribe_writeNumber 19 = .ok (.bipush 48, 2) := by decide +kernel
theorem d_Scribe_writeNumber_21 : decode k_Scribe_writeNumber 21 = .ok (.iload_n 1, 1) := by decide +kernel
theorem d_Scribe_writeNumber_22 : decode k_Scribe_writeNumber 22 = .ok (.bipush 10, 2) := by decide +kernel
theorem d_Scribe_writeNumber_24 : decode k_Scribe_writeNumber 24 = .ok (.irem, 1) := by decide +kernel
theorem d_Scribe_writeNumber_25 : decode k_Scribe_writeNumber 25 = .ok (.iadd, 1) := by decide +kernel
theorem d_Scribe_writeNumber_26 : decode k_Scribe_writeNumber 26 = .ok (.invokevirtual 52, 3) := by decide +kernel
theorem d_Scribe_writeNumber_29 : decode k_Scribe_writeNumber 29 = .ok (.pop, 1) := by decide +kernel
theorem d_Scribe_writeNumber_30 : decode k_Scribe_writeNumber 30 = .ok (.return_, 1) := by decide +kernel
theorem d_Scribe_signOfOp_0 : decode k_Scribe_signOfOp 0 = .ok (.iload_n 0, 1) := by decide +kernel
theorem d_Scribe_signOfOp_1 : decode k_Scribe_signOfOp 1 = .ok (.tableswitch 36 3 5 #[27, 30, 33], 27) := by decide +kernel
theorem d_Scribe_signOfOp_28 : decode k_Scribe_signOfOp 28 = .ok (.bipush 43, 2) := by decide +kernel
theorem d_Scribe_signOfOp_30 : decode k_Scribe_signOfOp 30 = .ok (.ireturn, 1) := by decide +kernel
theorem d_Scribe_signOfOp_31 : decode k_Scribe_signOfOp 31 = .ok (.bipush 45, 2) := by decide +kernel
theorem d_Scribe_signOfOp_33 : decode k_Scribe_signOfOp 33 = .ok (.ireturn, 1) := by decide +kernel
theorem d_Scribe_signOfOp_34 : decode k_Scribe_signOfOp 34 = .ok (.bipush 42, 2) := by decide +kernel
theorem d_Scribe_signOfOp_36 : decode k_Scribe_signOfOp 36 = .ok (.ireturn, 1) := by decide +kernel
theorem d_Scribe_signOfOp_37 : decode k_Scribe_signOfOp 37 = .ok (.bipush 60, 2) := by decide +kernel
theorem d_Scribe_signOfOp_39 : decode k_Scribe_signOfOp 39 = .ok (.ireturn, 1) := by decide +kernel
theorem d_Tree_init_0 : decode k_Tree_init 0 = .ok (.aload_n 0, 1) := by decide +kernel
theorem d_Tree_init_1 : decode k_Tree_init 1 = .ok (.invokespecial 3, 3) := by decide +kernel
theorem d_Tree_init_4 : decode k_Tree_init 4 = .ok (.aload_n 0, 1) := by decide +kernel
theorem d_Tree_init_5 : decode k_Tree_init 5 = .ok (.new 9, 3) := by decide +kernel
theorem d_Tree_init_8 : decode k_Tree_init 8 = .ok (.dup, 1) := by decide +kernel
theorem d_Tree_init_9 : decode k_Tree_init 9 = .ok (.bipush 30, 2) := by decide +kernel
theorem d_Tree_init_11 : decode k_Tree_init 11 = .ok (.invokespecial 11, 3) := by decide +kernel
theorem d_Tree_init_14 : decode k_Tree_init 14 = .ok (.putfield 14, 3) := by decide +kernel
theorem d_Tree_init_17 : decode k_Tree_init 17 = .ok (.aload_n 0, 1) := by decide +kernel
theorem d_Tree_init_18 : decode k_Tree_init 18 = .ok (.bipush 15, 2) := by decide +kernel
theorem d_Tree_init_20 : decode k_Tree_init 20 = .ok (.newarray .int, 2) := by decide +kernel
theorem d_Tree_init_22 : decode k_Tree_init 22 = .ok (.putfield 20, 3) := by decide +kernel
theorem d_Tree_init_25 : decode k_Tree_init 25 = .ok (.aload_n 0, 1) := by decide +kernel
theorem d_Tree_init_26 : decode k_Tree_init 26 = .ok (.bipush 15, 2) := by decide +kernel
theorem d_Tree_init_28 : decode k_Tree_init 28 = .ok (.newarray .int, 2) := by decide +kernel
theorem d_Tree_init_30 : decode k_Tree_init 30 = .ok (.putfield 24, 3) := by decide +kernel
theorem d_Tree_init_33 : decode k_Tree_init 33 = .ok (.aload_n 0, 1) := by decide +kernel
theorem d_Tree_init_34 : decode k_Tree_init 34 = .ok (.bipush 15, 2) := by decide +kernel
theorem d_Tree_init_36 : decode k_Tree_init 36 = .ok (.newarray .int, 2) := by decide +kernel
theorem d_Tree_init_38 : decode k_Tree_init 38 = .ok (.putfield 27, 3) := by decide +kernel
theorem d_Tree_init_41 : decode k_Tree_init 41 = .ok (.aload_n 0, 1) := by decide +kernel
theorem d_Tree_init_42 : decode k_Tree_init 42 = .ok (.bipush 15, 2) := by decide +kernel
theorem d_Tree_init_44 : decode k_Tree_init 44 = .ok (.newarray .int, 2) := by decide +kernel
theorem d_Tree_init_46 : decode k_Tree_init 46 = .ok (.putfield 30, 3) := by decide +kernel
theorem d_Tree_init_49 : decode k_Tree_init 49 = .ok (.aload_n 0, 1) := by decide +kernel
theorem d_Tree_init_50 : decode k_Tree_init 50 = .ok (.bipush 15, 2) := by decide +kernel
theorem d_Tree_init_52 : decode k_Tree_init 52 = .ok (.newarray .int, 2) := by decide +kernel
theorem d_Tree_init_54 : decode k_Tree_init 54 = .ok (.putfield 33, 3) := by decide +kernel
theorem d_Tree_init_57 : decode k_Tree_init 57 = .ok (.aload_n 0, 1) := by decide +kernel
theorem d_Tree_init_58 : decode k_Tree_init 58 = .ok (.bipush 15, 2) := by decide +kernel
theorem d_Tree_init_60 : decode k_Tree_init 60 = .ok (.newarray .int, 2) := by decide +kernel
theorem d_Tree_init_62 : decode k_Tree_init 62 = .ok (.putfield 36, 3) := by decide +kernel
theorem d_Tree_init_65 : decode k_Tree_init 65 = .ok (.aload_n 0, 1) := by decide +kernel
theorem d_Tree_init_66 : decode k_Tree_init 66 = .ok (.bipush 15, 2) := by decide +kernel
theorem d_Tree_init_68 : decode k_Tree_init 68 = .ok (.newarray .int, 2) := by decide +kernel
theorem d_Tree_init_70 : decode k_Tree_init 70 = .ok (.putfield 39, 3) := by decide +kernel
theorem d_Tree_init_73 : decode k_Tree_init 73 = .ok (.aload_n 0, 1) := by decide +kernel
theorem d_Tree_init_74 : decode k_Tree_init 74 = .ok (.bipush 30, 2) := by decide +kernel
theorem d_Tree_init_76 : decode k_Tree_init 76 = .ok (.newarray .int, 2) := by decide +kernel
theorem d_Tree_init_78 : decode k_Tree_init 78 = .ok (.putfield 42, 3) := by decide +kernel
theorem d_Tree_init_81 : decode k_Tree_init 81 = .ok (.aload_n 0, 1) := by decide +kernel
theorem d_Tree_init_82 : decode k_Tree_init 82 = .ok (.iconst 0, 1) := by decide +kernel
theorem d_Tree_init_83 : decode k_Tree_init 83 = .ok (.putfield 45, 3) := by decide +kernel
theorem d_Tree_init_86 : decode k_Tree_init 86 = .ok (.aload_n 0, 1) := by decide +kernel
theorem d_Tree_init_87 : decode k_Tree_init 87 = .ok (.iconst 0, 1) := by decide +kernel
theorem d_Tree_init_88 : decode k_Tree_init 88 = .ok (.putfield 49, 3) := by decide +kernel
theorem d_Tree_init_91 : decode k_Tree_init 91 = .ok (.aload_n 0, 1) := by decide +kernel
theorem d_Tree_init_92 : decode k_Tree_init 92 = .ok (.bipush (-2), 2) := by decide +kernel
theorem d_Tree_init_94 : decode k_Tree_init 94 = .ok (.putfield 52, 3) := by decide +kernel
theorem d_Tree_init_97 : decode k_Tree_init 97 = .ok (.aload_n 0, 1) := by decide +kernel
theorem d_Tree_init_98 : decode k_Tree_init 98 = .ok (.iconst 0, 1) := by decide +kernel
theorem d_Tree_init_99 : decode k_Tree_init 99 = .ok (.putfield 55, 3) := by decide +kernel
theorem d_Tree_init_102 : decode k_Tree_init 102 = .ok (.return_, 1) := by decide +kernel
theorem d_Tree_drop_0 : decode k_Tree_drop 0 = .ok (.aload_n 0, 1) := by decide +kernel
theorem d_Tree_drop_1 : decode k_Tree_drop 1 = .ok (.iconst 0, 1) := by decide +kernel
theorem d_Tree_drop_2 : decode k_Tree_drop 2 = .ok (.putfield 45, 3) := by decide +kernel
theorem d_Tree_drop_5 : decode k_Tree_drop 5 = .ok (.aload_n 0, 1) := by decide +kernel
theorem d_Tree_drop_6 : decode k_Tree_drop 6 = .ok (.iconst 0, 1) := by decide +kernel
theorem d_Tree_drop_7 : decode k_Tree_drop 7 = .ok (.putfield 49, 3) := by decide +kernel
theorem d_Tree_drop_10 : decode k_Tree_drop 10 = .ok (.aload_n 0, 1) := by decide +kernel
theorem d_Tree_drop_11 : decode k_Tree_drop 11 = .ok (.iconst 0, 1) := by decide +kernel
theorem d_Tree_drop_12 : decode k_Tree_drop 12 = .ok (.putfield 55, 3) := by decide +kernel
theorem d_Tree_drop_15 : decode k_Tree_drop 15 = .ok (.return_, 1) := by decide +kernel
theorem d_Tree_make_0 : decode k_Tree_make 0 = .ok (.aload_n 0, 1) := by decide +kernel
theorem d_Tree_make_1 : decode k_Tree_make 1 = .ok (.invokevirtual 59, 3) := by decide +kernel
theorem d_Tree_make_4 : decode k_Tree_make 4 = .ok (.aload_n 0, 1) := by decide +kernel
theorem d_Tree_make_5 : decode k_Tree_make 5 = .ok (.getfield 14, 3) := by decide +kernel
theorem d_Tree_make_8 : decode k_Tree_make 8 = .ok (.aload_n 1, 1) := by decide +kernel
theorem d_Tree_make_9 : decode k_Tree_make 9 = .ok (.invokevirtual 62, 3) := by decide +kernel
theorem d_Tree_make_12 : decode k_Tree_make 12 = .ok (.aload_n 0, 1) := by decide +kernel
theorem d_Tree_make_13 : decode k_Tree_make 13 = .ok (.bipush (-2), 2) := by decide +kernel
theorem d_Tree_make_15 : decode k_Tree_make 15 = .ok (.putfield 52, 3) := by decide +kernel
theorem d_Tree_make_18 : decode k_Tree_make 18 = .ok (.aload_n 0, 1) := by decide +kernel
theorem d_Tree_make_19 : decode k_Tree_make 19 = .ok (.iconst 0, 1) := by decide +kernel
theorem d_Tree_make_20 : decode k_Tree_make 20 = .ok (.aload_n 0, 1) := by decide +kernel
theorem d_Tree_make_21 : decode k_Tree_make 21 = .ok (.getfield 14, 3) := by decide +kernel
theorem d_Tree_make_24 : decode k_Tree_make 24 = .ok (.invokevirtual 66, 3) := by decide +kernel
theorem d_Tree_make_27 : decode k_Tree_make 27 = .ok (.iconst 1, 1) := by decide +kernel
theorem d_Tree_make_28 : decode k_Tree_make 28 = .ok (.invokevirtual 69, 3) := by decide +kernel
theorem d_Tree_make_31 : decode k_Tree_make 31 = .ok (.pop, 1) := by decide +kernel
theorem d_Tree_make_32 : decode k_Tree_make 32 = .ok (.aload_n 0, 1) := by decide +kernel
theorem d_Tree_make_33 : decode k_Tree_make 33 = .ok (.aload_n 0, 1) := by decide +kernel
theorem d_Tree_make_34 : decode k_Tree_make 34 = .ok (.getfield 52, 3) := by decide +kernel
theorem d_Tree_make_37 : decode k_Tree_make 37 = .ok (.bipush (-2), 2) := by decide +kernel
theorem d_Tree_make_39 : decode k_Tree_make 39 = .ok (.if_icmp .ne 7, 3) := by decide +kernel
theorem d_Tree_make_42 : decode k_Tree_make 42 = .ok (.iconst 1, 1) := by decide +kernel
theorem d_Tree_make_43 : decode k_Tree_make 43 = .ok (.goto 4, 3) := by decide +kernel
theorem d_Tree_make_46 : decode k_Tree_make 46 = .ok (.iconst 0, 1) := by decide +kernel
theorem d_Tree_make_47 : decode k_Tree_make 47 = .ok (.putfield 55, 3) := by decide +kernel
theorem d_Tree_make_50 : decode k_Tree_make 50 = .ok (.aload_n 0, 1) := by decide +kernel
theorem d_Tree_make_51 : decode k_Tree_make 51 = .ok (.getfield 52, 3) := by decide +kernel
theorem d_Tree_make_54 : decode k_Tree_make 54 = .ok (.ireturn, 1) := by decide +kernel
