theorem d_Walker_valueOf_0 : decode k_Walker_valueOf 0 = .ok (.aload_n 0, 1) := by decide +kernel
theorem d_Walker_valueOf_1 : decode k_Walker_valueOf 1 = .ok (.aload_n 1, 1) := by decide +kernel
theorem d_Walker_valueOf_2 : decode k_Walker_valueOf 2 = .ok (.aload_n 0, 1) := by decide +kernel
theorem d_Walker_valueOf_3 : decode k_Walker_valueOf 3 = .ok (.iload_n 2, 1) := by decide +kernel
theorem d_Walker_valueOf_4 : decode k_Walker_valueOf 4 = .ok (.invokevirtual 51, 3) := by decide +kernel
theorem d_Walker_valueOf_7 : decode k_Walker_valueOf 7 = .ok (.aload_n 0, 1) := by decide +kernel
theorem d_Walker_valueOf_8 : decode k_Walker_valueOf 8 = .ok (.iload_n 2, 1) := by decide +kernel
theorem d_Walker_valueOf_9 : decode k_Walker_valueOf 9 = .ok (.invokevirtual 54, 3) := by decide +kernel
theorem d_Walker_valueOf_12 : decode k_Walker_valueOf 12 = .ok (.invokestatic 57, 3) := by decide +kernel
theorem d_Walker_valueOf_15 : decode k_Walker_valueOf 15 = .ok (.aload_n 1, 1) := by decide +kernel
theorem d_Walker_valueOf_16 : decode k_Walker_valueOf 16 = .ok (.invokevirtual 64, 3) := by decide +kernel
theorem d_Walker_valueOf_19 : decode k_Walker_valueOf 19 = .ok (.ireturn, 1) := by decide +kernel
theorem d_Walker_perform_0 : decode k_Walker_perform 0 = .ok (.aload_n 0, 1) := by decide +kernel
theorem d_Walker_perform_1 : decode k_Walker_perform 1 = .ok (.invokevirtual 67, 3) := by decide +kernel
theorem d_Walker_perform_4 : decode k_Walker_perform 4 = .ok (.astore 4, 2) := by decide +kernel
theorem d_Walker_perform_6 : decode k_Walker_perform 6 = .ok (.iload_n 2, 1) := by decide +kernel
theorem d_Walker_perform_7 : decode k_Walker_perform 7 = .ok (.istore 5, 2) := by decide +kernel
theorem d_Walker_perform_9 : decode k_Walker_perform 9 = .ok (.iload 5, 2) := by decide +kernel
theorem d_Walker_perform_11 : decode k_Walker_perform 11 = .ok (.iload_n 3, 1) := by decide +kernel
theorem d_Walker_perform_12 : decode k_Walker_perform 12 = .ok (.if_icmp .ge 27, 3) := by decide +kernel
theorem d_Walker_perform_15 : decode k_Walker_perform 15 = .ok (.aload_n 1, 1) := by decide +kernel
theorem d_Walker_perform_16 : decode k_Walker_perform 16 = .ok (.aload 4, 2) := by decide +kernel
theorem d_Walker_perform_18 : decode k_Walker_perform 18 = .ok (.iload 5, 2) := by decide +kernel
theorem d_Walker_perform_20 : decode k_Walker_perform 20 = .ok (.invokevirtual 71, 3) := by decide +kernel
theorem d_Walker_perform_23 : decode k_Walker_perform 23 = .ok (.aload 4, 2) := by decide +kernel
theorem d_Walker_perform_25 : decode k_Walker_perform 25 = .ok (.iload 5, 2) := by decide +kernel
theorem d_Walker_perform_27 : decode k_Walker_perform 27 = .ok (.invokevirtual 76, 3) := by decide +kernel
theorem d_Walker_perform_30 : decode k_Walker_perform 30 = .ok (.invokevirtual 79, 3) := by decide +kernel
theorem d_Walker_perform_33 : decode k_Walker_perform 33 = .ok (.iinc 5 1, 3) := by decide +kernel
theorem d_Walker_perform_36 : decode k_Walker_perform 36 = .ok (.goto (-27), 3) := by decide +kernel
theorem d_Walker_perform_39 : decode k_Walker_perform 39 = .ok (.return_, 1) := by decide +kernel
