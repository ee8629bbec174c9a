theorem dX6_differ_2 : decode cX6_differ 2 = .ok (.invokevirtual 84, 3) := by decide +kernel
theorem dX6_differ_5 : decode cX6_differ 5 = .ok (.astore_n 3, 1) := by decide +kernel
theorem dX6_differ_6 : decode cX6_differ 6 = .ok (.aload_n 0, 1) := by decide +kernel
theorem dX6_differ_7 : decode cX6_differ 7 = .ok (.iload_n 2, 1) := by decide +kernel
theorem dX6_differ_8 : decode cX6_differ 8 = .ok (.invokevirtual 84, 3) := by decide +kernel
theorem dX6_differ_11 : decode cX6_differ 11 = .ok (.astore 4, 2) := by decide +kernel
theorem dX6_differ_13 : decode cX6_differ 13 = .ok (.aload_n 3, 1) := by decide +kernel
theorem dX6_differ_14 : decode cX6_differ 14 = .ok (.ifnull 8, 3) := by decide +kernel
theorem dX6_differ_17 : decode cX6_differ 17 = .ok (.aload 4, 2) := by decide +kernel
theorem dX6_differ_19 : decode cX6_differ 19 = .ok (.ifnonnull 13, 3) := by decide +kernel
theorem dX6_differ_22 : decode cX6_differ 22 = .ok (.new 73, 3) := by decide +kernel
theorem dX6_differ_25 : decode cX6_differ 25 = .ok (.dup, 1) := by decide +kernel
theorem dX6_differ_26 : decode cX6_differ 26 = .ok (.ldc 117, 2) := by decide +kernel
theorem dX6_differ_28 : decode cX6_differ 28 = .ok (.invokespecial 77, 3) := by decide +kernel
theorem dX6_differ_31 : decode cX6_differ 31 = .ok (.athrow, 1) := by decide +kernel
theorem dX6_differ_32 : decode cX6_differ 32 = .ok (.iconst 0, 1) := by decide +kernel
theorem dX6_differ_33 : decode cX6_differ 33 = .ok (.istore 5, 2) := by decide +kernel
theorem dX6_differ_35 : decode cX6_differ 35 = .ok (.iload 5, 2) := by decide +kernel
theorem dX6_differ_37 : decode cX6_differ 37 = .ok (.aload_n 0, 1) := by decide +kernel
theorem dX6_differ_38 : decode cX6_differ 38 = .ok (.invokevirtual 175, 3) := by decide +kernel
theorem dX6_differ_41 : decode cX6_differ 41 = .ok (.if_icmp .ge 46, 3) := by decide +kernel
theorem dX6_differ_44 : decode cX6_differ 44 = .ok (.aload_n 0, 1) := by decide +kernel
theorem dX6_differ_45 : decode cX6_differ 45 = .ok (.aload_n 3, 1) := by decide +kernel
theorem dX6_differ_46 : decode cX6_differ 46 = .ok (.aload 4, 2) := by decide +kernel
theorem dX6_differ_48 : decode cX6_differ 48 = .ok (.iload 5, 2) := by decide +kernel
theorem dX6_differ_50 : decode cX6_differ 50 = .ok (.invokevirtual 178, 3) := by decide +kernel
theorem dX6_differ_53 : decode cX6_differ 53 = .ok (.aload_n 0, 1) := by decide +kernel
theorem dX6_differ_54 : decode cX6_differ 54 = .ok (.getfield 32, 3) := by decide +kernel
theorem dX6_differ_57 : decode cX6_differ 57 = .ok (.aload_n 0, 1) := by decide +kernel
theorem dX6_differ_58 : decode cX6_differ 58 = .ok (.getfield 35, 3) := by decide +kernel
theorem dX6_differ_61 : decode cX6_differ 61 = .ok (.invokevirtual 182, 3) := by decide +kernel
theorem dX6_differ_64 : decode cX6_differ 64 = .ok (.istore 6, 2) := by decide +kernel
theorem dX6_differ_66 : decode cX6_differ 66 = .ok (.iload 6, 2) := by decide +kernel
theorem dX6_differ_68 : decode cX6_differ 68 = .ok (.iconst (-1), 1) := by decide +kernel
theorem dX6_differ_69 : decode cX6_differ 69 = .ok (.if_icmp .eq 12, 3) := by decide +kernel
theorem dX6_differ_72 : decode cX6_differ 72 = .ok (.bipush 16, 2) := by decide +kernel
theorem dX6_differ_74 : decode cX6_differ 74 = .ok (.iload 5, 2) := by decide +kernel
theorem dX6_differ_76 : decode cX6_differ 76 = .ok (.imul, 1) := by decide +kernel
theorem dX6_differ_77 : decode cX6_differ 77 = .ok (.iload 6, 2) := by decide +kernel
theorem dX6_differ_79 : decode cX6_differ 79 = .ok (.iadd, 1) := by decide +kernel
theorem dX6_differ_80 : decode cX6_differ 80 = .ok (.ireturn, 1) := by decide +kernel
theorem dX6_differ_81 : decode cX6_differ 81 = .ok (.iinc 5 1, 3) := by decide +kernel
theorem dX6_differ_84 : decode cX6_differ 84 = .ok (.goto (-49), 3) := by decide +kernel
theorem dX6_differ_87 : decode cX6_differ 87 = .ok (.iconst (-1), 1) := by decide +kernel
theorem dX6_differ_88 : decode cX6_differ 88 = .ok (.ireturn, 1) := by decide +kernel
theorem dX6_state_0 : decode cX6_state 0 = .ok (.aload_n 0, 1) := by decide +kernel
theorem dX6_state_1 : decode cX6_state 1 = .ok (.iload_n 1, 1) := by decide +kernel
theorem dX6_state_2 : decode cX6_state 2 = .ok (.invokevirtual 84, 3) := by decide +kernel
theorem dX6_state_5 : decode cX6_state 5 = .ok (.astore_n 2, 1) := by decide +kernel
theorem dX6_state_6 : decode cX6_state 6 = .ok (.aload_n 2, 1) := by decide +kernel
theorem dX6_state_7 : decode cX6_state 7 = .ok (.ifnonnull 13, 3) := by decide +kernel
theorem dX6_state_10 : decode cX6_state 10 = .ok (.new 73, 3) := by decide +kernel
theorem dX6_state_13 : decode cX6_state 13 = .ok (.dup, 1) := by decide +kernel
theorem dX6_state_14 : decode cX6_state 14 = .ok (.ldc 117, 2) := by decide +kernel
theorem dX6_state_16 : decode cX6_state 16 = .ok (.invokespecial 77, 3) := by decide +kernel
theorem dX6_state_19 : decode cX6_state 19 = .ok (.athrow, 1) := by decide +kernel
theorem dX6_state_20 : decode cX6_state 20 = .ok (.aload_n 0, 1) := by decide +kernel
theorem dX6_state_21 : decode cX6_state 21 = .ok (.getfield 28, 3) := by decide +kernel
theorem dX6_state_24 : decode cX6_state 24 = .ok (.aload_n 2, 1) := by decide +kernel
theorem dX6_state_25 : decode cX6_state 25 = .ok (.iconst 0, 1) := by decide +kernel
theorem dX6_state_26 : decode cX6_state 26 = .ok (.aload_n 0, 1) := by decide +kernel
theorem dX6_state_27 : decode cX6_state 27 = .ok (.getfield 59, 3) := by decide +kernel
theorem dX6_state_30 : decode cX6_state 30 = .ok (.aload_n 2, 1) := by decide +kernel
theorem dX6_state_31 : decode cX6_state 31 = .ok (.iconst 1, 1) := by decide +kernel
theorem dX6_state_32 : decode cX6_state 32 = .ok (.invokevirtual 186, 3) := by decide +kernel
theorem dX6_state_35 : decode cX6_state 35 = .ok (.invokevirtual 189, 3) := by decide +kernel
theorem dX6_state_38 : decode cX6_state 38 = .ok (.aload_n 0, 1) := by decide +kernel
theorem dX6_state_39 : decode cX6_state 39 = .ok (.getfield 28, 3) := by decide +kernel
theorem dX6_state_42 : decode cX6_state 42 = .ok (.invokevirtual 193, 3) := by decide +kernel
theorem dX6_state_45 : decode cX6_state 45 = .ok (.aload_n 0, 1) := by decide +kernel
theorem dX6_state_46 : decode cX6_state 46 = .ok (.iconst 1, 1) := by decide +kernel
theorem dX6_state_47 : decode cX6_state 47 = .ok (.putfield 63, 3) := by decide +kernel
theorem dX6_state_50 : decode cX6_state 50 = .ok (.aload_n 0, 1) := by decide +kernel
theorem dX6_state_51 : decode cX6_state 51 = .ok (.getfield 28, 3) := by decide +kernel
theorem dX6_state_54 : decode cX6_state 54 = .ok (.invokevirtual 196, 3) := by decide +kernel
theorem dX6_state_57 : decode cX6_state 57 = .ok (.ireturn, 1) := by decide +kernel
theorem dX6_amplitude_0 : decode cX6_amplitude 0 = .ok (.aload_n 0, 1) := by decide +kernel
theorem dX6_amplitude_1 : decode cX6_amplitude 1 = .ok (.getfield 63, 3) := by decide +kernel
theorem dX6_amplitude_4 : decode cX6_amplitude 4 = .ok (.ifCond .ne 13, 3) := by decide +kernel
theorem dX6_amplitude_7 : decode cX6_amplitude 7 = .ok (.new 100, 3) := by decide +kernel
theorem dX6_amplitude_10 : decode cX6_amplitude 10 = .ok (.dup, 1) := by decide +kernel
theorem dX6_amplitude_11 : decode cX6_amplitude 11 = .ok (.ldc 199, 2) := by decide +kernel
theorem dX6_amplitude_13 : decode cX6_amplitude 13 = .ok (.invokespecial 104, 3) := by decide +kernel
theorem dX6_amplitude_16 : decode cX6_amplitude 16 = .ok (.athrow, 1) := by decide +kernel
theorem dX6_amplitude_17 : decode cX6_amplitude 17 = .ok (.iload_n 1, 1) := by decide +kernel
theorem dX6_amplitude_18 : decode cX6_amplitude 18 = .ok (.ifCond .lt 20, 3) := by decide +kernel
theorem dX6_amplitude_21 : decode cX6_amplitude 21 = .ok (.iload_n 1, 1) := by decide +kernel
theorem dX6_amplitude_22 : decode cX6_amplitude 22 = .ok (.aload_n 0, 1) := by decide +kernel
theorem dX6_amplitude_23 : decode cX6_amplitude 23 = .ok (.invokevirtual 175, 3) := by decide +kernel
theorem dX6_amplitude_26 : decode cX6_amplitude 26 = .ok (.if_icmp .ge 12, 3) := by decide +kernel
theorem dX6_amplitude_29 : decode cX6_amplitude 29 = .ok (.iload_n 2, 1) := by decide +kernel
theorem dX6_amplitude_30 : decode cX6_amplitude 30 = .ok (.ifCond .lt 8, 3) := by decide +kernel
theorem dX6_amplitude_33 : decode cX6_amplitude 33 = .ok (.iload_n 2, 1) := by decide +kernel
theorem dX6_amplitude_34 : decode cX6_amplitude 34 = .ok (.iconst 4, 1) := by decide +kernel
theorem dX6_amplitude_35 : decode cX6_amplitude 35 = .ok (.if_icmp .lt 13, 3) := by decide +kernel
theorem dX6_amplitude_38 : decode cX6_amplitude 38 = .ok (.new 201, 3) := by decide +kernel
theorem dX6_amplitude_41 : decode cX6_amplitude 41 = .ok (.dup, 1) := by decide +kernel
theorem dX6_amplitude_42 : decode cX6_amplitude 42 = .ok (.ldc 203, 2) := by decide +kernel
theorem dX6_amplitude_44 : decode cX6_amplitude 44 = .ok (.invokespecial 205, 3) := by decide +kernel
theorem dX6_amplitude_47 : decode cX6_amplitude 47 = .ok (.athrow, 1) := by decide +kernel
theorem dX6_amplitude_48 : decode cX6_amplitude 48 = .ok (.aload_n 0, 1) := by decide +kernel
theorem dX6_amplitude_49 : decode cX6_amplitude 49 = .ok (.getfield 28, 3) := by decide +kernel
theorem dX6_amplitude_52 : decode cX6_amplitude 52 = .ok (.iload_n 1, 1) := by decide +kernel
theorem dX6_amplitude_53 : decode cX6_amplitude 53 = .ok (.iload_n 2, 1) := by decide +kernel
theorem dX6_amplitude_54 : decode cX6_amplitude 54 = .ok (.invokevirtual 206, 3) := by decide +kernel
theorem dX6_amplitude_57 : decode cX6_amplitude 57 = .ok (.lreturn, 1) := by decide +kernel
theorem dX6_scale_0 : decode cX6_scale 0 = .ok (.aload_n 0, 1) := by decide +kernel
theorem dX6_scale_1 : decode cX6_scale 1 = .ok (.getfield 63, 3) := by decide +kernel
theorem dX6_scale_4 : decode cX6_scale 4 = .ok (.ifCond .eq 13, 3) := by decide +kernel
theorem dX6_scale_7 : decode cX6_scale 7 = .ok (.aload_n 0, 1) := by decide +kernel
theorem dX6_scale_8 : decode cX6_scale 8 = .ok (.getfield 28, 3) := by decide +kernel
theorem dX6_scale_11 : decode cX6_scale 11 = .ok (.invokevirtual 196, 3) := by decide +kernel
theorem dX6_scale_14 : decode cX6_scale 14 = .ok (.goto 4, 3) := by decide +kernel
theorem dX6_scale_17 : decode cX6_scale 17 = .ok (.iconst (-1), 1) := by decide +kernel
theorem dX6_scale_18 : decode cX6_scale 18 = .ok (.ireturn, 1) := by decide +kernel
theorem dX6_weight_0 : decode cX6_weight 0 = .ok (.aload_n 0, 1) := by decide +kernel
theorem dX6_weight_1 : decode cX6_weight 1 = .ok (.getfield 63, 3) := by decide +kernel
theorem dX6_weight_4 : decode cX6_weight 4 = .ok (.ifCond .ne 13, 3) := by decide +kernel
theorem dX6_weight_7 : decode cX6_weight 7 = .ok (.new 100, 3) := by decide +kernel
theorem dX6_weight_10 : decode cX6_weight 10 = .ok (.dup, 1) := by decide +kernel
theorem dX6_weight_11 : decode cX6_weight 11 = .ok (.ldc 199, 2) := by decide +kernel
theorem dX6_weight_13 : decode cX6_weight 13 = .ok (.invokespecial 104, 3) := by decide +kernel
theorem dX6_weight_16 : decode cX6_weight 16 = .ok (.athrow, 1) := by decide +kernel
theorem dX6_weight_17 : decode cX6_weight 17 = .ok (.aload_n 0, 1) := by decide +kernel
theorem dX6_weight_18 : decode cX6_weight 18 = .ok (.iload_n 1, 1) := by decide +kernel
theorem dX6_weight_19 : decode cX6_weight 19 = .ok (.invokevirtual 210, 3) := by decide +kernel
theorem dX6_weight_22 : decode cX6_weight 22 = .ok (.ifCond .eq 21, 3) := by decide +kernel
theorem dX6_weight_25 : decode cX6_weight 25 = .ok (.iload_n 2, 1) := by decide +kernel
theorem dX6_weight_26 : decode cX6_weight 26 = .ok (.ifCond .lt 17, 3) := by decide +kernel
theorem dX6_weight_29 : decode cX6_weight 29 = .ok (.iload_n 2, 1) := by decide +kernel
theorem dX6_weight_30 : decode cX6_weight 30 = .ok (.iconst 1, 1) := by decide +kernel
theorem dX6_weight_31 : decode cX6_weight 31 = .ok (.if_icmp .gt 12, 3) := by decide +kernel
theorem dX6_weight_34 : decode cX6_weight 34 = .ok (.iload_n 3, 1) := by decide +kernel
theorem dX6_weight_35 : decode cX6_weight 35 = .ok (.ifCond .lt 8, 3) := by decide +kernel
theorem dX6_weight_38 : decode cX6_weight 38 = .ok (.iload_n 3, 1) := by decide +kernel
theorem dX6_weight_39 : decode cX6_weight 39 = .ok (.iconst 1, 1) := by decide +kernel
theorem dX6_weight_40 : decode cX6_weight 40 = .ok (.if_icmp .le 13, 3) := by decide +kernel
theorem dX6_weight_43 : decode cX6_weight 43 = .ok (.new 201, 3) := by decide +kernel
theorem dX6_weight_46 : decode cX6_weight 46 = .ok (.dup, 1) := by decide +kernel
theorem dX6_weight_47 : decode cX6_weight 47 = .ok (.ldc 214, 2) := by decide +kernel
theorem dX6_weight_49 : decode cX6_weight 49 = .ok (.invokespecial 205, 3) := by decide +kernel
theorem dX6_weight_52 : decode cX6_weight 52 = .ok (.athrow, 1) := by decide +kernel
theorem dX6_weight_53 : decode cX6_weight 53 = .ok (.iload_n 3, 1) := by decide +kernel
theorem dX6_weight_54 : decode cX6_weight 54 = .ok (.ifCond .ne 15, 3) := by decide +kernel
theorem dX6_weight_57 : decode cX6_weight 57 = .ok (.aload_n 0, 1) := by decide +kernel
theorem dX6_weight_58 : decode cX6_weight 58 = .ok (.getfield 28, 3) := by decide +kernel
theorem dX6_weight_61 : decode cX6_weight 61 = .ok (.iload_n 1, 1) := by decide +kernel
theorem dX6_weight_62 : decode cX6_weight 62 = .ok (.iload_n 2, 1) := by decide +kernel
theorem dX6_weight_63 : decode cX6_weight 63 = .ok (.invokevirtual 216, 3) := by decide +kernel
theorem dX6_weight_66 : decode cX6_weight 66 = .ok (.goto 12, 3) := by decide +kernel
theorem dX6_weight_69 : decode cX6_weight 69 = .ok (.aload_n 0, 1) := by decide +kernel
theorem dX6_weight_70 : decode cX6_weight 70 = .ok (.getfield 28, 3) := by decide +kernel
theorem dX6_weight_73 : decode cX6_weight 73 = .ok (.iload_n 1, 1) := by decide +kernel
theorem dX6_weight_74 : decode cX6_weight 74 = .ok (.iload_n 2, 1) := by decide +kernel
theorem dX6_weight_75 : decode cX6_weight 75 = .ok (.invokevirtual 219, 3) := by decide +kernel
theorem dX6_weight_78 : decode cX6_weight 78 = .ok (.lreturn, 1) := by decide +kernel
theorem dX6_measure_0 : decode cX6_measure 0 = .ok (.aload_n 0, 1) := by decide +kernel
theorem dX6_measure_1 : decode cX6_measure 1 = .ok (.getfield 63, 3) := by decide +kernel
theorem dX6_measure_4 : decode cX6_measure 4 = .ok (.ifCond .ne 13, 3) := by decide +kernel
theorem dX6_measure_7 : decode cX6_measure 7 = .ok (.new 100, 3) := by decide +kernel
theorem dX6_measure_10 : decode cX6_measure 10 = .ok (.dup, 1) := by decide +kernel
theorem dX6_measure_11 : decode cX6_measure 11 = .ok (.ldc 199, 2) := by decide +kernel
theorem dX6_measure_13 : decode cX6_measure 13 = .ok (.invokespecial 104, 3) := by decide +kernel
theorem dX6_measure_16 : decode cX6_measure 16 = .ok (.athrow, 1) := by decide +kernel
theorem dX6_measure_17 : decode cX6_measure 17 = .ok (.aload_n 0, 1) := by decide +kernel
theorem dX6_measure_18 : decode cX6_measure 18 = .ok (.iload_n 1, 1) := by decide +kernel
theorem dX6_measure_19 : decode cX6_measure 19 = .ok (.invokevirtual 210, 3) := by decide +kernel
theorem dX6_measure_22 : decode cX6_measure 22 = .ok (.ifCond .eq 12, 3) := by decide +kernel
theorem dX6_measure_25 : decode cX6_measure 25 = .ok (.iload_n 2, 1) := by decide +kernel
theorem dX6_measure_26 : decode cX6_measure 26 = .ok (.ifCond .lt 8, 3) := by decide +kernel
theorem dX6_measure_29 : decode cX6_measure 29 = .ok (.iload_n 2, 1) := by decide +kernel
theorem dX6_measure_30 : decode cX6_measure 30 = .ok (.iconst 1, 1) := by decide +kernel
theorem dX6_measure_31 : decode cX6_measure 31 = .ok (.if_icmp .le 13, 3) := by decide +kernel
theorem dX6_measure_34 : decode cX6_measure 34 = .ok (.new 201, 3) := by decide +kernel
theorem dX6_measure_37 : decode cX6_measure 37 = .ok (.dup, 1) := by decide +kernel
theorem dX6_measure_38 : decode cX6_measure 38 = .ok (.ldc 222, 2) := by decide +kernel
theorem dX6_measure_40 : decode cX6_measure 40 = .ok (.invokespecial 205, 3) := by decide +kernel
theorem dX6_measure_43 : decode cX6_measure 43 = .ok (.athrow, 1) := by decide +kernel
theorem dX6_measure_44 : decode cX6_measure 44 = .ok (.aload_n 0, 1) := by decide +kernel
theorem dX6_measure_45 : decode cX6_measure 45 = .ok (.getfield 28, 3) := by decide +kernel
theorem dX6_measure_48 : decode cX6_measure 48 = .ok (.iload_n 1, 1) := by decide +kernel
theorem dX6_measure_49 : decode cX6_measure 49 = .ok (.iload_n 2, 1) := by decide +kernel
theorem dX6_measure_50 : decode cX6_measure 50 = .ok (.invokevirtual 224, 3) := by decide +kernel
theorem dX6_measure_53 : decode cX6_measure 53 = .ok (.ifCond .ne 5, 3) := by decide +kernel
theorem dX6_measure_56 : decode cX6_measure 56 = .ok (.iconst 0, 1) := by decide +kernel
theorem dX6_measure_57 : decode cX6_measure 57 = .ok (.ireturn, 1) := by decide +kernel
theorem dX6_measure_58 : decode cX6_measure 58 = .ok (.aload_n 0, 1) := by decide +kernel
theorem dX6_measure_59 : decode cX6_measure 59 = .ok (.getfield 28, 3) := by decide +kernel
theorem dX6_measure_62 : decode cX6_measure 62 = .ok (.iload_n 1, 1) := by decide +kernel
theorem dX6_measure_63 : decode cX6_measure 63 = .ok (.iload_n 2, 1) := by decide +kernel
theorem dX6_measure_64 : decode cX6_measure 64 = .ok (.invokevirtual 228, 3) := by decide +kernel
theorem dX6_measure_67 : decode cX6_measure 67 = .ok (.aload_n 0, 1) := by decide +kernel
theorem dX6_measure_68 : decode cX6_measure 68 = .ok (.getfield 28, 3) := by decide +kernel
theorem dX6_measure_71 : decode cX6_measure 71 = .ok (.invokevirtual 193, 3) := by decide +kernel
theorem dX6_measure_74 : decode cX6_measure 74 = .ok (.iconst 1, 1) := by decide +kernel
theorem dX6_measure_75 : decode cX6_measure 75 = .ok (.ireturn, 1) := by decide +kernel
theorem dX6_row_0 : decode cX6_row 0 = .ok (.aload_n 0, 1) := by decide +kernel
theorem dX6_row_1 : decode cX6_row 1 = .ok (.iload_n 1, 1) := by decide +kernel
theorem dX6_row_2 : decode cX6_row 2 = .ok (.invokevirtual 84, 3) := by decide +kernel
theorem dX6_row_5 : decode cX6_row 5 = .ok (.astore_n 3, 1) := by decide +kernel
theorem dX6_row_6 : decode cX6_row 6 = .ok (.aload_n 3, 1) := by decide +kernel
theorem dX6_row_7 : decode cX6_row 7 = .ok (.ifnull 11, 3) := by decide +kernel
theorem dX6_row_10 : decode cX6_row 10 = .ok (.aload_n 0, 1) := by decide +kernel
theorem dX6_row_11 : decode cX6_row 11 = .ok (.iload_n 2, 1) := by decide +kernel
theorem dX6_row_12 : decode cX6_row 12 = .ok (.invokevirtual 210, 3) := by decide +kernel
theorem dX6_row_15 : decode cX6_row 15 = .ok (.ifCond .ne 13, 3) := by decide +kernel
theorem dX6_row_18 : decode cX6_row 18 = .ok (.new 73, 3) := by decide +kernel
theorem dX6_row_21 : decode cX6_row 21 = .ok (.dup, 1) := by decide +kernel
theorem dX6_row_22 : decode cX6_row 22 = .ok (.ldc 232, 2) := by decide +kernel
theorem dX6_row_24 : decode cX6_row 24 = .ok (.invokespecial 77, 3) := by decide +kernel
theorem dX6_row_27 : decode cX6_row 27 = .ok (.athrow, 1) := by decide +kernel
theorem dX6_row_28 : decode cX6_row 28 = .ok (.aload_n 3, 1) := by decide +kernel
theorem dX6_row_29 : decode cX6_row 29 = .ok (.iconst 3, 1) := by decide +kernel
theorem dX6_row_30 : decode cX6_row 30 = .ok (.invokevirtual 186, 3) := by decide +kernel
theorem dX6_row_33 : decode cX6_row 33 = .ok (.aload_n 3, 1) := by decide +kernel
theorem dX6_row_34 : decode cX6_row 34 = .ok (.bipush 9, 2) := by decide +kernel
theorem dX6_row_36 : decode cX6_row 36 = .ok (.invokevirtual 186, 3) := by decide +kernel
theorem dX6_row_39 : decode cX6_row 39 = .ok (.iadd, 1) := by decide +kernel
theorem dX6_row_40 : decode cX6_row 40 = .ok (.ifCond .le 13, 3) := by decide +kernel
theorem dX6_row_43 : decode cX6_row 43 = .ok (.new 100, 3) := by decide +kernel
theorem dX6_row_46 : decode cX6_row 46 = .ok (.dup, 1) := by decide +kernel
theorem dX6_row_47 : decode cX6_row 47 = .ok (.ldc 234, 2) := by decide +kernel
theorem dX6_row_49 : decode cX6_row 49 = .ok (.invokespecial 104, 3) := by decide +kernel
theorem dX6_row_52 : decode cX6_row 52 = .ok (.athrow, 1) := by decide +kernel
theorem dX6_row_53 : decode cX6_row 53 = .ok (.aload_n 0, 1) := by decide +kernel
theorem dX6_row_54 : decode cX6_row 54 = .ok (.getfield 41, 3) := by decide +kernel
theorem dX6_row_57 : decode cX6_row 57 = .ok (.iload_n 2, 1) := by decide +kernel
theorem dX6_row_58 : decode cX6_row 58 = .ok (.invokevirtual 236, 3) := by decide +kernel
theorem dX6_row_61 : decode cX6_row 61 = .ok (.iconst 0, 1) := by decide +kernel
theorem dX6_row_62 : decode cX6_row 62 = .ok (.istore 4, 2) := by decide +kernel
theorem dX6_row_64 : decode cX6_row 64 = .ok (.iload 4, 2) := by decide +kernel
theorem dX6_row_66 : decode cX6_row 66 = .ok (.aload_n 3, 1) := by decide +kernel
theorem dX6_row_67 : decode cX6_row 67 = .ok (.invokevirtual 96, 3) := by decide +kernel
theorem dX6_row_70 : decode cX6_row 70 = .ok (.if_icmp .ge 22, 3) := by decide +kernel
theorem dX6_row_73 : decode cX6_row 73 = .ok (.aload_n 0, 1) := by decide +kernel
theorem dX6_row_74 : decode cX6_row 74 = .ok (.getfield 41, 3) := by decide +kernel
theorem dX6_row_77 : decode cX6_row 77 = .ok (.aload_n 3, 1) := by decide +kernel
theorem dX6_row_78 : decode cX6_row 78 = .ok (.iload 4, 2) := by decide +kernel
theorem dX6_row_80 : decode cX6_row 80 = .ok (.invokevirtual 113, 3) := by decide +kernel
theorem dX6_row_83 : decode cX6_row 83 = .ok (.invokevirtual 239, 3) := by decide +kernel
theorem dX6_row_86 : decode cX6_row 86 = .ok (.iinc 4 1, 3) := by decide +kernel
theorem dX6_row_89 : decode cX6_row 89 = .ok (.goto (-25), 3) := by decide +kernel
theorem dX6_row_92 : decode cX6_row 92 = .ok (.aload_n 0, 1) := by decide +kernel
theorem dX6_row_93 : decode cX6_row 93 = .ok (.getfield 41, 3) := by decide +kernel
theorem dX6_row_96 : decode cX6_row 96 = .ok (.invokevirtual 242, 3) := by decide +kernel
theorem dX6_row_99 : decode cX6_row 99 = .ok (.ireturn, 1) := by decide +kernel
theorem dX6_type_0 : decode cX6_type 0 = .ok (.aload_n 0, 1) := by decide +kernel
theorem dX6_type_1 : decode cX6_type 1 = .ok (.getfield 55, 3) := by decide +kernel
theorem dX6_type_4 : decode cX6_type 4 = .ok (.lload_n 1, 1) := by decide +kernel
theorem dX6_type_5 : decode cX6_type 5 = .ok (.iload_n 3, 1) := by decide +kernel
theorem dX6_type_6 : decode cX6_type 6 = .ok (.invokevirtual 245, 3) := by decide +kernel
theorem dX6_type_9 : decode cX6_type 9 = .ok (.ifCond .eq 13, 3) := by decide +kernel
theorem dX6_type_12 : decode cX6_type 12 = .ok (.aload_n 0, 1) := by decide +kernel
theorem dX6_type_13 : decode cX6_type 13 = .ok (.getfield 55, 3) := by decide +kernel
theorem dX6_type_16 : decode cX6_type 16 = .ok (.invokevirtual 249, 3) := by decide +kernel
theorem dX6_type_19 : decode cX6_type 19 = .ok (.goto 4, 3) := by decide +kernel
theorem dX6_type_22 : decode cX6_type 22 = .ok (.iconst (-1), 1) := by decide +kernel
theorem dX6_type_23 : decode cX6_type 23 = .ok (.ireturn, 1) := by decide +kernel
theorem dX6_print_0 : decode cX6_print 0 = .ok (.aload_n 0, 1) := by decide +kernel
theorem dX6_print_1 : decode cX6_print 1 = .ok (.iload_n 1, 1) := by decide +kernel
theorem dX6_print_2 : decode cX6_print 2 = .ok (.invokevirtual 84, 3) := by decide +kernel
theorem dX6_print_5 : decode cX6_print 5 = .ok (.astore_n 2, 1) := by decide +kernel
theorem dX6_print_6 : decode cX6_print 6 = .ok (.aload_n 2, 1) := by decide +kernel
theorem dX6_print_7 : decode cX6_print 7 = .ok (.ifnonnull 13, 3) := by decide +kernel
theorem dX6_print_10 : decode cX6_print 10 = .ok (.new 73, 3) := by decide +kernel
theorem dX6_print_13 : decode cX6_print 13 = .ok (.dup, 1) := by decide +kernel
theorem dX6_print_14 : decode cX6_print 14 = .ok (.ldc 117, 2) := by decide +kernel
theorem dX6_print_16 : decode cX6_print 16 = .ok (.invokespecial 77, 3) := by decide +kernel
theorem dX6_print_19 : decode cX6_print 19 = .ok (.athrow, 1) := by decide +kernel
theorem dX6_print_20 : decode cX6_print 20 = .ok (.aload_n 0, 1) := by decide +kernel
theorem dX6_print_21 : decode cX6_print 21 = .ok (.getfield 55, 3) := by decide +kernel
theorem dX6_print_24 : decode cX6_print 24 = .ok (.aload_n 2, 1) := by decide +kernel
theorem dX6_print_25 : decode cX6_print 25 = .ok (.invokevirtual 250, 3) := by decide +kernel
theorem dX6_print_28 : decode cX6_print 28 = .ok (.aload_n 0, 1) := by decide +kernel
theorem dX6_print_29 : decode cX6_print 29 = .ok (.getfield 55, 3) := by decide +kernel
theorem dX6_print_32 : decode cX6_print 32 = .ok (.invokevirtual 249, 3) := by decide +kernel
theorem dX6_print_35 : decode cX6_print 35 = .ok (.ireturn, 1) := by decide +kernel
theorem dX6_character_0 : decode cX6_character 0 = .ok (.aload_n 0, 1) := by decide +kernel
theorem dX6_character_1 : decode cX6_character 1 = .ok (.getfield 55, 3) := by decide +kernel
theorem dX6_character_4 : decode cX6_character 4 = .ok (.iload_n 1, 1) := by decide +kernel
theorem dX6_character_5 : decode cX6_character 5 = .ok (.invokevirtual 253, 3) := by decide +kernel
theorem dX6_character_8 : decode cX6_character 8 = .ok (.ireturn, 1) := by decide +kernel
theorem dX6_read_0 : decode cX6_read 0 = .ok (.aload_n 0, 1) := by decide +kernel
theorem dX6_read_1 : decode cX6_read 1 = .ok (.iload_n 1, 1) := by decide +kernel
theorem dX6_read_2 : decode cX6_read 2 = .ok (.invokevirtual 84, 3) := by decide +kernel
theorem dX6_read_5 : decode cX6_read 5 = .ok (.astore_n 2, 1) := by decide +kernel
theorem dX6_read_6 : decode cX6_read 6 = .ok (.aload_n 2, 1) := by decide +kernel
theorem dX6_read_7 : decode cX6_read 7 = .ok (.ifnonnull 13, 3) := by decide +kernel
theorem dX6_read_10 : decode cX6_read 10 = .ok (.new 73, 3) := by decide +kernel
theorem dX6_read_13 : decode cX6_read 13 = .ok (.dup, 1) := by decide +kernel
theorem dX6_read_14 : decode cX6_read 14 = .ok (.ldc 117, 2) := by decide +kernel
theorem dX6_read_16 : decode cX6_read 16 = .ok (.invokespecial 77, 3) := by decide +kernel
theorem dX6_read_19 : decode cX6_read 19 = .ok (.athrow, 1) := by decide +kernel
theorem dX6_read_20 : decode cX6_read 20 = .ok (.aload_n 0, 1) := by decide +kernel
theorem dX6_read_21 : decode cX6_read 21 = .ok (.getfield 55, 3) := by decide +kernel
theorem dX6_read_24 : decode cX6_read 24 = .ok (.aload_n 0, 1) := by decide +kernel
theorem dX6_read_25 : decode cX6_read 25 = .ok (.getfield 22, 3) := by decide +kernel
theorem dX6_read_28 : decode cX6_read 28 = .ok (.aload_n 0, 1) := by decide +kernel
theorem dX6_read_29 : decode cX6_read 29 = .ok (.getfield 59, 3) := by decide +kernel
theorem dX6_read_32 : decode cX6_read 32 = .ok (.invokevirtual 254, 3) := by decide +kernel
theorem dX6_read_35 : decode cX6_read 35 = .ok (.istore_n 3, 1) := by decide +kernel
theorem dX6_read_36 : decode cX6_read 36 = .ok (.iload_n 3, 1) := by decide +kernel
theorem dX6_read_37 : decode cX6_read 37 = .ok (.iconst (-1), 1) := by decide +kernel
theorem dX6_read_38 : decode cX6_read 38 = .ok (.if_icmp .eq 19, 3) := by decide +kernel
theorem dX6_read_41 : decode cX6_read 41 = .ok (.aload_n 0, 1) := by decide +kernel
theorem dX6_read_42 : decode cX6_read 42 = .ok (.iload_n 3, 1) := by decide +kernel
theorem dX6_read_43 : decode cX6_read 43 = .ok (.putfield 70, 3) := by decide +kernel
theorem dX6_read_46 : decode cX6_read 46 = .ok (.new 73, 3) := by decide +kernel
theorem dX6_read_49 : decode cX6_read 49 = .ok (.dup, 1) := by decide +kernel
theorem dX6_read_50 : decode cX6_read 50 = .ok (.ldc_w 258, 3) := by decide +kernel
theorem dX6_read_53 : decode cX6_read 53 = .ok (.invokespecial 77, 3) := by decide +kernel
theorem dX6_read_56 : decode cX6_read 56 = .ok (.athrow, 1) := by decide +kernel
theorem dX6_read_57 : decode cX6_read 57 = .ok (.aload_n 2, 1) := by decide +kernel
theorem dX6_read_58 : decode cX6_read 58 = .ok (.aload_n 0, 1) := by decide +kernel
theorem dX6_read_59 : decode cX6_read 59 = .ok (.getfield 22, 3) := by decide +kernel
theorem dX6_read_62 : decode cX6_read 62 = .ok (.invokevirtual 131, 3) := by decide +kernel
theorem dX6_read_65 : decode cX6_read 65 = .ok (.aload_n 0, 1) := by decide +kernel
theorem dX6_read_66 : decode cX6_read 66 = .ok (.getfield 55, 3) := by decide +kernel
theorem dX6_read_69 : decode cX6_read 69 = .ok (.invokevirtual 83, 3) := by decide +kernel
theorem dX6_read_72 : decode cX6_read 72 = .ok (.aload_n 2, 1) := by decide +kernel
theorem dX6_read_73 : decode cX6_read 73 = .ok (.invokevirtual 96, 3) := by decide +kernel
theorem dX6_read_76 : decode cX6_read 76 = .ok (.ireturn, 1) := by decide +kernel
theorem dX6_place_0 : decode cX6_place 0 = .ok (.aload_n 0, 1) := by decide +kernel
theorem dX6_place_1 : decode cX6_place 1 = .ok (.getfield 70, 3) := by decide +kernel
theorem dX6_place_4 : decode cX6_place 4 = .ok (.ireturn, 1) := by decide +kernel
theorem dX6_inSlot_0 : decode cX6_inSlot 0 = .ok (.iload_n 1, 1) := by decide +kernel
theorem dX6_inSlot_1 : decode cX6_inSlot 1 = .ok (.ifCond .ne 8, 3) := by decide +kernel
theorem dX6_inSlot_4 : decode cX6_inSlot 4 = .ok (.aload_n 0, 1) := by decide +kernel
theorem dX6_inSlot_5 : decode cX6_inSlot 5 = .ok (.getfield 10, 3) := by decide +kernel
theorem dX6_inSlot_8 : decode cX6_inSlot 8 = .ok (.areturn, 1) := by decide +kernel
theorem dX6_inSlot_9 : decode cX6_inSlot 9 = .ok (.iload_n 1, 1) := by decide +kernel
theorem dX6_inSlot_10 : decode cX6_inSlot 10 = .ok (.iconst 1, 1) := by decide +kernel
theorem dX6_inSlot_11 : decode cX6_inSlot 11 = .ok (.if_icmp .ne 8, 3) := by decide +kernel
theorem dX6_inSlot_14 : decode cX6_inSlot 14 = .ok (.aload_n 0, 1) := by decide +kernel
theorem dX6_inSlot_15 : decode cX6_inSlot 15 = .ok (.getfield 16, 3) := by decide +kernel
theorem dX6_inSlot_18 : decode cX6_inSlot 18 = .ok (.areturn, 1) := by decide +kernel
theorem dX6_inSlot_19 : decode cX6_inSlot 19 = .ok (.iload_n 1, 1) := by decide +kernel
theorem dX6_inSlot_20 : decode cX6_inSlot 20 = .ok (.iconst 2, 1) := by decide +kernel
theorem dX6_inSlot_21 : decode cX6_inSlot 21 = .ok (.if_icmp .ne 10, 3) := by decide +kernel
theorem dX6_inSlot_24 : decode cX6_inSlot 24 = .ok (.aload_n 0, 1) := by decide +kernel
theorem dX6_inSlot_25 : decode cX6_inSlot 25 = .ok (.getfield 19, 3) := by decide +kernel
theorem dX6_inSlot_28 : decode cX6_inSlot 28 = .ok (.goto 4, 3) := by decide +kernel
theorem dX6_inSlot_31 : decode cX6_inSlot 31 = .ok (.aconst_null, 1) := by decide +kernel
theorem dX6_inSlot_32 : decode cX6_inSlot 32 = .ok (.areturn, 1) := by decide +kernel
theorem dX6_isWire_0 : decode cX6_isWire 0 = .ok (.iload_n 1, 1) := by decide +kernel
theorem dX6_isWire_1 : decode cX6_isWire 1 = .ok (.ifCond .lt 15, 3) := by decide +kernel
theorem dX6_isWire_4 : decode cX6_isWire 4 = .ok (.iload_n 1, 1) := by decide +kernel
theorem dX6_isWire_5 : decode cX6_isWire 5 = .ok (.aload_n 0, 1) := by decide +kernel
theorem dX6_isWire_6 : decode cX6_isWire 6 = .ok (.getfield 59, 3) := by decide +kernel
theorem dX6_isWire_9 : decode cX6_isWire 9 = .ok (.if_icmp .ge 7, 3) := by decide +kernel
theorem dX6_isWire_12 : decode cX6_isWire 12 = .ok (.iconst 1, 1) := by decide +kernel
theorem dX6_isWire_13 : decode cX6_isWire 13 = .ok (.goto 4, 3) := by decide +kernel
theorem dX6_isWire_16 : decode cX6_isWire 16 = .ok (.iconst 0, 1) := by decide +kernel
theorem dX6_isWire_17 : decode cX6_isWire 17 = .ok (.ireturn, 1) := by decide +kernel
theorem dX6_basisStates_0 : decode cX6_basisStates 0 = .ok (.iconst 1, 1) := by decide +kernel
theorem dX6_basisStates_1 : decode cX6_basisStates 1 = .ok (.aload_n 0, 1) := by decide +kernel
theorem dX6_basisStates_2 : decode cX6_basisStates 2 = .ok (.getfield 59, 3) := by decide +kernel
theorem dX6_basisStates_5 : decode cX6_basisStates 5 = .ok (.ishl, 1) := by decide +kernel
theorem dX6_basisStates_6 : decode cX6_basisStates 6 = .ok (.ireturn, 1) := by decide +kernel
theorem dX6_runBoth_0 : decode cX6_runBoth 0 = .ok (.aload_n 1, 1) := by decide +kernel
theorem dX6_runBoth_1 : decode cX6_runBoth 1 = .ok (.iconst 1, 1) := by decide +kernel
theorem dX6_runBoth_2 : decode cX6_runBoth 2 = .ok (.invokevirtual 186, 3) := by decide +kernel
theorem dX6_runBoth_5 : decode cX6_runBoth 5 = .ok (.aload_n 2, 1) := by decide +kernel
theorem dX6_runBoth_6 : decode cX6_runBoth 6 = .ok (.iconst 1, 1) := by decide +kernel
theorem dX6_runBoth_7 : decode cX6_runBoth 7 = .ok (.invokevirtual 186, 3) := by decide +kernel
theorem dX6_runBoth_10 : decode cX6_runBoth 10 = .ok (.invokestatic 260, 3) := by decide +kernel
theorem dX6_runBoth_13 : decode cX6_runBoth 13 = .ok (.istore 4, 2) := by decide +kernel
theorem dX6_runBoth_15 : decode cX6_runBoth 15 = .ok (.aload_n 0, 1) := by decide +kernel
theorem dX6_runBoth_16 : decode cX6_runBoth 16 = .ok (.getfield 32, 3) := by decide +kernel
theorem dX6_runBoth_19 : decode cX6_runBoth 19 = .ok (.aload_n 1, 1) := by decide +kernel
theorem dX6_runBoth_20 : decode cX6_runBoth 20 = .ok (.iload_n 3, 1) := by decide +kernel
theorem dX6_runBoth_21 : decode cX6_runBoth 21 = .ok (.aload_n 0, 1) := by decide +kernel
theorem dX6_runBoth_22 : decode cX6_runBoth 22 = .ok (.getfield 59, 3) := by decide +kernel
theorem dX6_runBoth_25 : decode cX6_runBoth 25 = .ok (.iload 4, 2) := by decide +kernel
theorem dX6_runBoth_27 : decode cX6_runBoth 27 = .ok (.invokevirtual 189, 3) := by decide +kernel
theorem dX6_runBoth_30 : decode cX6_runBoth 30 = .ok (.aload_n 0, 1) := by decide +kernel
theorem dX6_runBoth_31 : decode cX6_runBoth 31 = .ok (.getfield 35, 3) := by decide +kernel
theorem dX6_runBoth_34 : decode cX6_runBoth 34 = .ok (.aload_n 2, 1) := by decide +kernel
theorem dX6_runBoth_35 : decode cX6_runBoth 35 = .ok (.iload_n 3, 1) := by decide +kernel
theorem dX6_runBoth_36 : decode cX6_runBoth 36 = .ok (.aload_n 0, 1) := by decide +kernel
theorem dX6_runBoth_37 : decode cX6_runBoth 37 = .ok (.getfield 59, 3) := by decide +kernel
theorem dX6_runBoth_40 : decode cX6_runBoth 40 = .ok (.iload 4, 2) := by decide +kernel
theorem dX6_runBoth_42 : decode cX6_runBoth 42 = .ok (.invokevirtual 189, 3) := by decide +kernel
theorem dX6_runBoth_45 : decode cX6_runBoth 45 = .ok (.return_, 1) := by decide +kernel
theorem dX6_firstTurn_0 : decode cX6_firstTurn 0 = .ok (.aload_n 0, 1) := by decide +kernel
theorem dX6_firstTurn_1 : decode cX6_firstTurn 1 = .ok (.aload_n 1, 1) := by decide +kernel
theorem dX6_firstTurn_2 : decode cX6_firstTurn 2 = .ok (.aload_n 2, 1) := by decide +kernel
theorem dX6_firstTurn_3 : decode cX6_firstTurn 3 = .ok (.iconst 0, 1) := by decide +kernel
theorem dX6_firstTurn_4 : decode cX6_firstTurn 4 = .ok (.invokevirtual 178, 3) := by decide +kernel
theorem dX6_firstTurn_7 : decode cX6_firstTurn 7 = .ok (.iconst 0, 1) := by decide +kernel
theorem dX6_firstTurn_8 : decode cX6_firstTurn 8 = .ok (.istore_n 3, 1) := by decide +kernel
theorem dX6_firstTurn_9 : decode cX6_firstTurn 9 = .ok (.iload_n 3, 1) := by decide +kernel
theorem dX6_firstTurn_10 : decode cX6_firstTurn 10 = .ok (.bipush 8, 2) := by decide +kernel
theorem dX6_firstTurn_12 : decode cX6_firstTurn 12 = .ok (.if_icmp .ge 26, 3) := by decide +kernel
theorem dX6_firstTurn_15 : decode cX6_firstTurn 15 = .ok (.aload_n 0, 1) := by decide +kernel
theorem dX6_firstTurn_16 : decode cX6_firstTurn 16 = .ok (.getfield 32, 3) := by decide +kernel
theorem dX6_firstTurn_19 : decode cX6_firstTurn 19 = .ok (.aload_n 0, 1) := by decide +kernel
theorem dX6_firstTurn_20 : decode cX6_firstTurn 20 = .ok (.getfield 35, 3) := by decide +kernel
theorem dX6_firstTurn_23 : decode cX6_firstTurn 23 = .ok (.iload_n 3, 1) := by decide +kernel
theorem dX6_firstTurn_24 : decode cX6_firstTurn 24 = .ok (.invokevirtual 266, 3) := by decide +kernel
theorem dX6_firstTurn_27 : decode cX6_firstTurn 27 = .ok (.ifCond .eq 5, 3) := by decide +kernel
theorem dX6_firstTurn_30 : decode cX6_firstTurn 30 = .ok (.iload_n 3, 1) := by decide +kernel
theorem dX6_firstTurn_31 : decode cX6_firstTurn 31 = .ok (.ireturn, 1) := by decide +kernel
theorem dX6_firstTurn_32 : decode cX6_firstTurn 32 = .ok (.iinc 3 1, 3) := by decide +kernel
theorem dX6_firstTurn_35 : decode cX6_firstTurn 35 = .ok (.goto (-26), 3) := by decide +kernel
theorem dX6_firstTurn_38 : decode cX6_firstTurn 38 = .ok (.iconst (-1), 1) := by decide +kernel
theorem dX6_firstTurn_39 : decode cX6_firstTurn 39 = .ok (.ireturn, 1) := by decide +kernel
theorem dX6_isTurned_0 : decode cX6_isTurned 0 = .ok (.iconst 0, 1) := by decide +kernel
theorem dX6_isTurned_1 : decode cX6_isTurned 1 = .ok (.istore 4, 2) := by decide +kernel
theorem dX6_isTurned_3 : decode cX6_isTurned 3 = .ok (.iload 4, 2) := by decide +kernel
theorem dX6_isTurned_5 : decode cX6_isTurned 5 = .ok (.aload_n 0, 1) := by decide +kernel
theorem dX6_isTurned_6 : decode cX6_isTurned 6 = .ok (.invokevirtual 175, 3) := by decide +kernel
theorem dX6_isTurned_9 : decode cX6_isTurned 9 = .ok (.if_icmp .ge 34, 3) := by decide +kernel
theorem dX6_isTurned_12 : decode cX6_isTurned 12 = .ok (.aload_n 0, 1) := by decide +kernel
theorem dX6_isTurned_13 : decode cX6_isTurned 13 = .ok (.aload_n 1, 1) := by decide +kernel
theorem dX6_isTurned_14 : decode cX6_isTurned 14 = .ok (.aload_n 2, 1) := by decide +kernel
theorem dX6_isTurned_15 : decode cX6_isTurned 15 = .ok (.iload 4, 2) := by decide +kernel
theorem dX6_isTurned_17 : decode cX6_isTurned 17 = .ok (.invokevirtual 178, 3) := by decide +kernel
theorem dX6_isTurned_20 : decode cX6_isTurned 20 = .ok (.aload_n 0, 1) := by decide +kernel
theorem dX6_isTurned_21 : decode cX6_isTurned 21 = .ok (.getfield 32, 3) := by decide +kernel
theorem dX6_isTurned_24 : decode cX6_isTurned 24 = .ok (.aload_n 0, 1) := by decide +kernel
theorem dX6_isTurned_25 : decode cX6_isTurned 25 = .ok (.getfield 35, 3) := by decide +kernel
theorem dX6_isTurned_28 : decode cX6_isTurned 28 = .ok (.iload_n 3, 1) := by decide +kernel
theorem dX6_isTurned_29 : decode cX6_isTurned 29 = .ok (.invokevirtual 266, 3) := by decide +kernel
theorem dX6_isTurned_32 : decode cX6_isTurned 32 = .ok (.ifCond .ne 5, 3) := by decide +kernel
theorem dX6_isTurned_35 : decode cX6_isTurned 35 = .ok (.iconst 0, 1) := by decide +kernel
theorem dX6_isTurned_36 : decode cX6_isTurned 36 = .ok (.ireturn, 1) := by decide +kernel
theorem dX6_isTurned_37 : decode cX6_isTurned 37 = .ok (.iinc 4 1, 3) := by decide +kernel
theorem dX6_isTurned_40 : decode cX6_isTurned 40 = .ok (.goto (-37), 3) := by decide +kernel
theorem dX6_isTurned_43 : decode cX6_isTurned 43 = .ok (.iconst 1, 1) := by decide +kernel
theorem dX6_isTurned_44 : decode cX6_isTurned 44 = .ok (.ireturn, 1) := by decide +kernel
theorem dX7_init_0 : decode cX7_init 0 = .ok (.aload_n 0, 1) := by decide +kernel
theorem dX7_init_1 : decode cX7_init 1 = .ok (.invokespecial 1, 3) := by decide +kernel
theorem dX7_init_4 : decode cX7_init 4 = .ok (.aload_n 0, 1) := by decide +kernel
theorem dX7_init_5 : decode cX7_init 5 = .ok (.iconst 1, 1) := by decide +kernel
theorem dX7_init_6 : decode cX7_init 6 = .ok (.putfield 7, 3) := by decide +kernel
theorem dX7_init_9 : decode cX7_init 9 = .ok (.aload_n 0, 1) := by decide +kernel
theorem dX7_init_10 : decode cX7_init 10 = .ok (.iconst 5, 1) := by decide +kernel
theorem dX7_init_11 : decode cX7_init 11 = .ok (.newarray .int, 2) := by decide +kernel
theorem dX7_init_13 : decode cX7_init 13 = .ok (.putfield 13, 3) := by decide +kernel
theorem dX7_init_16 : decode cX7_init 16 = .ok (.aload_n 0, 1) := by decide +kernel
theorem dX7_init_17 : decode cX7_init 17 = .ok (.sipush 320, 3) := by decide +kernel
theorem dX7_init_20 : decode cX7_init 20 = .ok (.newarray .int, 2) := by decide +kernel
theorem dX7_init_22 : decode cX7_init 22 = .ok (.putfield 17, 3) := by decide +kernel
theorem dX7_init_25 : decode cX7_init 25 = .ok (.aload_n 0, 1) := by decide +kernel
theorem dX7_init_26 : decode cX7_init 26 = .ok (.sipush 320, 3) := by decide +kernel
theorem dX7_init_29 : decode cX7_init 29 = .ok (.newarray .int, 2) := by decide +kernel
theorem dX7_init_31 : decode cX7_init 31 = .ok (.putfield 20, 3) := by decide +kernel
theorem dX7_init_34 : decode cX7_init 34 = .ok (.aload_n 0, 1) := by decide +kernel
theorem dX7_init_35 : decode cX7_init 35 = .ok (.sipush 320, 3) := by decide +kernel
theorem dX7_init_38 : decode cX7_init 38 = .ok (.newarray .int, 2) := by decide +kernel
theorem dX7_init_40 : decode cX7_init 40 = .ok (.putfield 23, 3) := by decide +kernel
theorem dX7_init_43 : decode cX7_init 43 = .ok (.aload_n 0, 1) := by decide +kernel
theorem dX7_init_44 : decode cX7_init 44 = .ok (.sipush 320, 3) := by decide +kernel
theorem dX7_init_47 : decode cX7_init 47 = .ok (.newarray .int, 2) := by decide +kernel
theorem dX7_init_49 : decode cX7_init 49 = .ok (.putfield 26, 3) := by decide +kernel
theorem dX7_init_52 : decode cX7_init 52 = .ok (.aload_n 0, 1) := by decide +kernel
theorem dX7_init_53 : decode cX7_init 53 = .ok (.bipush 64, 2) := by decide +kernel
theorem dX7_init_55 : decode cX7_init 55 = .ok (.newarray .long, 2) := by decide +kernel
theorem dX7_init_57 : decode cX7_init 57 = .ok (.putfield 29, 3) := by decide +kernel
theorem dX7_init_60 : decode cX7_init 60 = .ok (.aload_n 0, 1) := by decide +kernel
theorem dX7_init_61 : decode cX7_init 61 = .ok (.bipush 64, 2) := by decide +kernel
theorem dX7_init_63 : decode cX7_init 63 = .ok (.newarray .long, 2) := by decide +kernel
theorem dX7_init_65 : decode cX7_init 65 = .ok (.putfield 33, 3) := by decide +kernel
theorem dX7_init_68 : decode cX7_init 68 = .ok (.aload_n 0, 1) := by decide +kernel
theorem dX7_init_69 : decode cX7_init 69 = .ok (.bipush 64, 2) := by decide +kernel
theorem dX7_init_71 : decode cX7_init 71 = .ok (.newarray .long, 2) := by decide +kernel
theorem dX7_init_73 : decode cX7_init 73 = .ok (.putfield 36, 3) := by decide +kernel
theorem dX7_init_76 : decode cX7_init 76 = .ok (.aload_n 0, 1) := by decide +kernel
theorem dX7_init_77 : decode cX7_init 77 = .ok (.sipush 320, 3) := by decide +kernel
theorem dX7_init_80 : decode cX7_init 80 = .ok (.newarray .int, 2) := by decide +kernel
theorem dX7_init_82 : decode cX7_init 82 = .ok (.putfield 39, 3) := by decide +kernel
theorem dX7_init_85 : decode cX7_init 85 = .ok (.aload_n 0, 1) := by decide +kernel
theorem dX7_init_86 : decode cX7_init 86 = .ok (.iconst (-1), 1) := by decide +kernel
theorem dX7_init_87 : decode cX7_init 87 = .ok (.putfield 42, 3) := by decide +kernel
theorem dX7_init_90 : decode cX7_init 90 = .ok (.aload_n 0, 1) := by decide +kernel
theorem dX7_init_91 : decode cX7_init 91 = .ok (.sipush 400, 3) := by decide +kernel
theorem dX7_init_94 : decode cX7_init 94 = .ok (.newarray .int, 2) := by decide +kernel
theorem dX7_init_96 : decode cX7_init 96 = .ok (.putfield 45, 3) := by decide +kernel
theorem dX7_init_99 : decode cX7_init 99 = .ok (.aload_n 0, 1) := by decide +kernel
theorem dX7_init_100 : decode cX7_init 100 = .ok (.bipush 24, 2) := by decide +kernel
theorem dX7_init_102 : decode cX7_init 102 = .ok (.newarray .int, 2) := by decide +kernel
theorem dX7_init_104 : decode cX7_init 104 = .ok (.putfield 48, 3) := by decide +kernel
theorem dX7_init_107 : decode cX7_init 107 = .ok (.aload_n 0, 1) := by decide +kernel
theorem dX7_init_108 : decode cX7_init 108 = .ok (.bipush 24, 2) := by decide +kernel
theorem dX7_init_110 : decode cX7_init 110 = .ok (.newarray .int, 2) := by decide +kernel
theorem dX7_init_112 : decode cX7_init 112 = .ok (.putfield 51, 3) := by decide +kernel
theorem dX7_init_115 : decode cX7_init 115 = .ok (.aload_n 0, 1) := by decide +kernel
theorem dX7_init_116 : decode cX7_init 116 = .ok (.bipush 24, 2) := by decide +kernel
theorem dX7_init_118 : decode cX7_init 118 = .ok (.newarray .int, 2) := by decide +kernel
theorem dX7_init_120 : decode cX7_init 120 = .ok (.putfield 54, 3) := by decide +kernel
theorem dX7_init_123 : decode cX7_init 123 = .ok (.aload_n 0, 1) := by decide +kernel
theorem dX7_init_124 : decode cX7_init 124 = .ok (.bipush 24, 2) := by decide +kernel
theorem dX7_init_126 : decode cX7_init 126 = .ok (.newarray .int, 2) := by decide +kernel
theorem dX7_init_128 : decode cX7_init 128 = .ok (.putfield 57, 3) := by decide +kernel
theorem dX7_init_131 : decode cX7_init 131 = .ok (.return_, 1) := by decide +kernel
theorem dX7_thrown_0 : decode cX7_thrown 0 = .ok (.aload_n 0, 1) := by decide +kernel
theorem dX7_thrown_1 : decode cX7_thrown 1 = .ok (.getfield 60, 3) := by decide +kernel
theorem dX7_thrown_4 : decode cX7_thrown 4 = .ok (.ireturn, 1) := by decide +kernel
theorem dX7_in_0 : decode cX7_in 0 = .ok (.lload_n 0, 1) := by decide +kernel
theorem dX7_in_1 : decode cX7_in 1 = .ok (.lload_n 2, 1) := by decide +kernel
theorem dX7_in_2 : decode cX7_in 2 = .ok (.lcmp, 1) := by decide +kernel
theorem dX7_in_3 : decode cX7_in 3 = .ok (.ifCond .lt 14, 3) := by decide +kernel
theorem dX7_in_6 : decode cX7_in 6 = .ok (.lload_n 0, 1) := by decide +kernel
theorem dX7_in_7 : decode cX7_in 7 = .ok (.lload 4, 2) := by decide +kernel
theorem dX7_in_9 : decode cX7_in 9 = .ok (.lcmp, 1) := by decide +kernel
theorem dX7_in_10 : decode cX7_in 10 = .ok (.ifCond .gt 7, 3) := by decide +kernel
theorem dX7_in_13 : decode cX7_in 13 = .ok (.iconst 1, 1) := by decide +kernel
theorem dX7_in_14 : decode cX7_in 14 = .ok (.goto 4, 3) := by decide +kernel
theorem dX7_in_17 : decode cX7_in 17 = .ok (.iconst 0, 1) := by decide +kernel
theorem dX7_in_18 : decode cX7_in 18 = .ok (.ireturn, 1) := by decide +kernel
theorem dX7_isSlot_0 : decode cX7_isSlot 0 = .ok (.iload_n 0, 1) := by decide +kernel
theorem dX7_isSlot_1 : decode cX7_isSlot 1 = .ok (.i2l, 1) := by decide +kernel
theorem dX7_isSlot_2 : decode cX7_isSlot 2 = .ok (.lconst 0, 1) := by decide +kernel
theorem dX7_isSlot_3 : decode cX7_isSlot 3 = .ok (.ldc2_w 63, 3) := by decide +kernel
theorem dX7_isSlot_6 : decode cX7_isSlot 6 = .ok (.invokestatic 65, 3) := by decide +kernel
theorem dX7_isSlot_9 : decode cX7_isSlot 9 = .ok (.ireturn, 1) := by decide +kernel
theorem dX7_wires_0 : decode cX7_wires 0 = .ok (.aload_n 0, 1) := by decide +kernel
theorem dX7_wires_1 : decode cX7_wires 1 = .ok (.iload_n 1, 1) := by decide +kernel
theorem dX7_wires_2 : decode cX7_wires 2 = .ok (.i2l, 1) := by decide +kernel
theorem dX7_wires_3 : decode cX7_wires 3 = .ok (.lconst 1, 1) := by decide +kernel
theorem dX7_wires_4 : decode cX7_wires 4 = .ok (.ldc2_w 69, 3) := by decide +kernel
theorem dX7_wires_7 : decode cX7_wires 7 = .ok (.invokestatic 65, 3) := by decide +kernel
theorem dX7_wires_10 : decode cX7_wires 10 = .ok (.ifCond .eq 7, 3) := by decide +kernel
theorem dX7_wires_13 : decode cX7_wires 13 = .ok (.iconst 0, 1) := by decide +kernel
theorem dX7_wires_14 : decode cX7_wires 14 = .ok (.goto 4, 3) := by decide +kernel
theorem dX7_wires_17 : decode cX7_wires 17 = .ok (.iconst 1, 1) := by decide +kernel
theorem dX7_wires_18 : decode cX7_wires 18 = .ok (.putfield 60, 3) := by decide +kernel
theorem dX7_wires_21 : decode cX7_wires 21 = .ok (.aload_n 0, 1) := by decide +kernel
theorem dX7_wires_22 : decode cX7_wires 22 = .ok (.getfield 60, 3) := by decide +kernel
theorem dX7_wires_25 : decode cX7_wires 25 = .ok (.ifCond .ne 38, 3) := by decide +kernel
theorem dX7_wires_28 : decode cX7_wires 28 = .ok (.aload_n 0, 1) := by decide +kernel
theorem dX7_wires_29 : decode cX7_wires 29 = .ok (.iload_n 1, 1) := by decide +kernel
theorem dX7_wires_30 : decode cX7_wires 30 = .ok (.putfield 7, 3) := by decide +kernel
theorem dX7_wires_33 : decode cX7_wires 33 = .ok (.iconst 0, 1) := by decide +kernel
theorem dX7_wires_34 : decode cX7_wires 34 = .ok (.istore_n 2, 1) := by decide +kernel
theorem dX7_wires_35 : decode cX7_wires 35 = .ok (.iload_n 2, 1) := by decide +kernel
theorem dX7_wires_36 : decode cX7_wires 36 = .ok (.iconst 3, 1) := by decide +kernel
theorem dX7_wires_37 : decode cX7_wires 37 = .ok (.if_icmp .ge 16, 3) := by decide +kernel
theorem dX7_wires_40 : decode cX7_wires 40 = .ok (.aload_n 0, 1) := by decide +kernel
theorem dX7_wires_41 : decode cX7_wires 41 = .ok (.getfield 13, 3) := by decide +kernel
theorem dX7_wires_44 : decode cX7_wires 44 = .ok (.iload_n 2, 1) := by decide +kernel
theorem dX7_wires_45 : decode cX7_wires 45 = .ok (.iconst 0, 1) := by decide +kernel
theorem dX7_wires_46 : decode cX7_wires 46 = .ok (.iastore, 1) := by decide +kernel
theorem dX7_wires_47 : decode cX7_wires 47 = .ok (.iinc 2 1, 3) := by decide +kernel
theorem dX7_wires_50 : decode cX7_wires 50 = .ok (.goto (-15), 3) := by decide +kernel
theorem dX7_wires_53 : decode cX7_wires 53 = .ok (.aload_n 0, 1) := by decide +kernel
theorem dX7_wires_54 : decode cX7_wires 54 = .ok (.iconst 0, 1) := by decide +kernel
theorem dX7_wires_55 : decode cX7_wires 55 = .ok (.putfield 71, 3) := by decide +kernel
theorem dX7_wires_58 : decode cX7_wires 58 = .ok (.aload_n 0, 1) := by decide +kernel
theorem dX7_wires_59 : decode cX7_wires 59 = .ok (.iconst 0, 1) := by decide +kernel
theorem dX7_wires_60 : decode cX7_wires 60 = .ok (.putfield 75, 3) := by decide +kernel
theorem dX7_wires_63 : decode cX7_wires 63 = .ok (.return_, 1) := by decide +kernel
theorem dX7_needs_0 : decode cX7_needs 0 = .ok (.iload_n 0, 1) := by decide +kernel
theorem dX7_needs_1 : decode cX7_needs 1 = .ok (.bipush 6, 2) := by decide +kernel
theorem dX7_needs_3 : decode cX7_needs 3 = .ok (.if_icmp .ge 7, 3) := by decide +kernel
theorem dX7_needs_6 : decode cX7_needs 6 = .ok (.iconst 1, 1) := by decide +kernel
theorem dX7_needs_7 : decode cX7_needs 7 = .ok (.goto 14, 3) := by decide +kernel
theorem dX7_needs_10 : decode cX7_needs 10 = .ok (.iload_n 0, 1) := by decide +kernel
theorem dX7_needs_11 : decode cX7_needs 11 = .ok (.bipush 9, 2) := by decide +kernel
theorem dX7_needs_13 : decode cX7_needs 13 = .ok (.if_icmp .ge 7, 3) := by decide +kernel
theorem dX7_needs_16 : decode cX7_needs 16 = .ok (.iconst 2, 1) := by decide +kernel
theorem dX7_needs_17 : decode cX7_needs 17 = .ok (.goto 4, 3) := by decide +kernel
theorem dX7_needs_20 : decode cX7_needs 20 = .ok (.iconst 3, 1) := by decide +kernel
theorem dX7_needs_21 : decode cX7_needs 21 = .ok (.ireturn, 1) := by decide +kernel
theorem dX7_put_0 : decode cX7_put 0 = .ok (.bipush 64, 2) := by decide +kernel
theorem dX7_put_2 : decode cX7_put 2 = .ok (.iload_n 1, 1) := by decide +kernel
theorem dX7_put_3 : decode cX7_put 3 = .ok (.imul, 1) := by decide +kernel
theorem dX7_put_4 : decode cX7_put 4 = .ok (.aload_n 0, 1) := by decide +kernel
theorem dX7_put_5 : decode cX7_put 5 = .ok (.getfield 13, 3) := by decide +kernel
theorem dX7_put_8 : decode cX7_put 8 = .ok (.iload_n 1, 1) := by decide +kernel
theorem dX7_put_9 : decode cX7_put 9 = .ok (.iaload, 1) := by decide +kernel
theorem dX7_put_10 : decode cX7_put 10 = .ok (.iadd, 1) := by decide +kernel
theorem dX7_put_11 : decode cX7_put 11 = .ok (.istore 6, 2) := by decide +kernel
theorem dX7_put_13 : decode cX7_put 13 = .ok (.aload_n 0, 1) := by decide +kernel
theorem dX7_put_14 : decode cX7_put 14 = .ok (.getfield 17, 3) := by decide +kernel
theorem dX7_put_17 : decode cX7_put 17 = .ok (.iload 6, 2) := by decide +kernel
theorem dX7_put_19 : decode cX7_put 19 = .ok (.iload_n 2, 1) := by decide +kernel
theorem dX7_put_20 : decode cX7_put 20 = .ok (.iastore, 1) := by decide +kernel
theorem dX7_put_21 : decode cX7_put 21 = .ok (.aload_n 0, 1) := by decide +kernel
theorem dX7_put_22 : decode cX7_put 22 = .ok (.getfield 20, 3) := by decide +kernel
theorem dX7_put_25 : decode cX7_put 25 = .ok (.iload 6, 2) := by decide +kernel
theorem dX7_put_27 : decode cX7_put 27 = .ok (.iload_n 3, 1) := by decide +kernel
theorem dX7_put_28 : decode cX7_put 28 = .ok (.iastore, 1) := by decide +kernel
theorem dX7_put_29 : decode cX7_put 29 = .ok (.aload_n 0, 1) := by decide +kernel
theorem dX7_put_30 : decode cX7_put 30 = .ok (.getfield 23, 3) := by decide +kernel
theorem dX7_put_33 : decode cX7_put 33 = .ok (.iload 6, 2) := by decide +kernel
theorem dX7_put_35 : decode cX7_put 35 = .ok (.iload 4, 2) := by decide +kernel
theorem dX7_put_37 : decode cX7_put 37 = .ok (.iastore, 1) := by decide +kernel
theorem dX7_put_38 : decode cX7_put 38 = .ok (.aload_n 0, 1) := by decide +kernel
theorem dX7_put_39 : decode cX7_put 39 = .ok (.getfield 26, 3) := by decide +kernel
theorem dX7_put_42 : decode cX7_put 42 = .ok (.iload 6, 2) := by decide +kernel
theorem dX7_put_44 : decode cX7_put 44 = .ok (.iload 5, 2) := by decide +kernel
theorem dX7_put_46 : decode cX7_put 46 = .ok (.iastore, 1) := by decide +kernel
theorem dX7_put_47 : decode cX7_put 47 = .ok (.aload_n 0, 1) := by decide +kernel
theorem dX7_put_48 : decode cX7_put 48 = .ok (.getfield 13, 3) := by decide +kernel
theorem dX7_put_51 : decode cX7_put 51 = .ok (.iload_n 1, 1) := by decide +kernel
theorem dX7_put_52 : decode cX7_put 52 = .ok (.dup2, 1) := by decide +kernel
theorem dX7_put_53 : decode cX7_put 53 = .ok (.iaload, 1) := by decide +kernel
theorem dX7_put_54 : decode cX7_put 54 = .ok (.iconst 1, 1) := by decide +kernel
theorem dX7_put_55 : decode cX7_put 55 = .ok (.iadd, 1) := by decide +kernel
theorem dX7_put_56 : decode cX7_put 56 = .ok (.iastore, 1) := by decide +kernel
theorem dX7_put_57 : decode cX7_put 57 = .ok (.return_, 1) := by decide +kernel
theorem dX7_isWire_0 : decode cX7_isWire 0 = .ok (.iload_n 1, 1) := by decide +kernel
theorem dX7_isWire_1 : decode cX7_isWire 1 = .ok (.i2l, 1) := by decide +kernel
theorem dX7_isWire_2 : decode cX7_isWire 2 = .ok (.lconst 0, 1) := by decide +kernel
theorem dX7_isWire_3 : decode cX7_isWire 3 = .ok (.aload_n 0, 1) := by decide +kernel
theorem dX7_isWire_4 : decode cX7_isWire 4 = .ok (.getfield 7, 3) := by decide +kernel
theorem dX7_isWire_7 : decode cX7_isWire 7 = .ok (.i2l, 1) := by decide +kernel
theorem dX7_isWire_8 : decode cX7_isWire 8 = .ok (.lconst 1, 1) := by decide +kernel
theorem dX7_isWire_9 : decode cX7_isWire 9 = .ok (.lsub, 1) := by decide +kernel
theorem dX7_isWire_10 : decode cX7_isWire 10 = .ok (.invokestatic 65, 3) := by decide +kernel
theorem dX7_isWire_13 : decode cX7_isWire 13 = .ok (.ireturn, 1) := by decide +kernel
theorem dX7_isGate_0 : decode cX7_isGate 0 = .ok (.iload_n 1, 1) := by decide +kernel
theorem dX7_isGate_1 : decode cX7_isGate 1 = .ok (.i2l, 1) := by decide +kernel
theorem dX7_isGate_2 : decode cX7_isGate 2 = .ok (.lconst 1, 1) := by decide +kernel
theorem dX7_isGate_3 : decode cX7_isGate 3 = .ok (.ldc2_w 78, 3) := by decide +kernel
theorem dX7_isGate_6 : decode cX7_isGate 6 = .ok (.invokestatic 65, 3) := by decide +kernel
theorem dX7_isGate_9 : decode cX7_isGate 9 = .ok (.ifCond .eq 11, 3) := by decide +kernel
theorem dX7_isGate_12 : decode cX7_isGate 12 = .ok (.aload_n 0, 1) := by decide +kernel
theorem dX7_isGate_13 : decode cX7_isGate 13 = .ok (.iload_n 2, 1) := by decide +kernel
theorem dX7_isGate_14 : decode cX7_isGate 14 = .ok (.invokevirtual 80, 3) := by decide +kernel
theorem dX7_isGate_17 : decode cX7_isGate 17 = .ok (.ifCond .ne 5, 3) := by decide +kernel
theorem dX7_isGate_20 : decode cX7_isGate 20 = .ok (.iconst 0, 1) := by decide +kernel
theorem dX7_isGate_21 : decode cX7_isGate 21 = .ok (.ireturn, 1) := by decide +kernel
theorem dX7_isGate_22 : decode cX7_isGate 22 = .ok (.iload_n 1, 1) := by decide +kernel
theorem dX7_isGate_23 : decode cX7_isGate 23 = .ok (.invokestatic 84, 3) := by decide +kernel
theorem dX7_isGate_26 : decode cX7_isGate 26 = .ok (.iconst 1, 1) := by decide +kernel
theorem dX7_isGate_27 : decode cX7_isGate 27 = .ok (.if_icmp .le 18, 3) := by decide +kernel
theorem dX7_isGate_30 : decode cX7_isGate 30 = .ok (.aload_n 0, 1) := by decide +kernel
theorem dX7_isGate_31 : decode cX7_isGate 31 = .ok (.iload_n 3, 1) := by decide +kernel
theorem dX7_isGate_32 : decode cX7_isGate 32 = .ok (.invokevirtual 80, 3) := by decide +kernel
theorem dX7_isGate_35 : decode cX7_isGate 35 = .ok (.ifCond .eq 8, 3) := by decide +kernel
theorem dX7_isGate_38 : decode cX7_isGate 38 = .ok (.iload_n 3, 1) := by decide +kernel
theorem dX7_isGate_39 : decode cX7_isGate 39 = .ok (.iload_n 2, 1) := by decide +kernel
theorem dX7_isGate_40 : decode cX7_isGate 40 = .ok (.if_icmp .ne 5, 3) := by decide +kernel
theorem dX7_isGate_43 : decode cX7_isGate 43 = .ok (.iconst 0, 1) := by decide +kernel
theorem dX7_isGate_44 : decode cX7_isGate 44 = .ok (.ireturn, 1) := by decide +kernel
theorem dX7_isGate_45 : decode cX7_isGate 45 = .ok (.iload_n 1, 1) := by decide +kernel
theorem dX7_isGate_46 : decode cX7_isGate 46 = .ok (.invokestatic 84, 3) := by decide +kernel
theorem dX7_isGate_49 : decode cX7_isGate 49 = .ok (.iconst 3, 1) := by decide +kernel
theorem dX7_isGate_50 : decode cX7_isGate 50 = .ok (.if_icmp .lt 24, 3) := by decide +kernel
theorem dX7_isGate_53 : decode cX7_isGate 53 = .ok (.aload_n 0, 1) := by decide +kernel
theorem dX7_isGate_54 : decode cX7_isGate 54 = .ok (.iload 4, 2) := by decide +kernel
theorem dX7_isGate_56 : decode cX7_isGate 56 = .ok (.invokevirtual 80, 3) := by decide +kernel
theorem dX7_isGate_59 : decode cX7_isGate 59 = .ok (.ifCond .eq 19, 3) := by decide +kernel
theorem dX7_isGate_62 : decode cX7_isGate 62 = .ok (.iload 4, 2) := by decide +kernel
theorem dX7_isGate_64 : decode cX7_isGate 64 = .ok (.iload_n 2, 1) := by decide +kernel
theorem dX7_isGate_65 : decode cX7_isGate 65 = .ok (.if_icmp .eq 13, 3) := by decide +kernel
theorem dX7_isGate_68 : decode cX7_isGate 68 = .ok (.iload 4, 2) := by decide +kernel
theorem dX7_isGate_70 : decode cX7_isGate 70 = .ok (.iload_n 3, 1) := by decide +kernel
theorem dX7_isGate_71 : decode cX7_isGate 71 = .ok (.if_icmp .eq 7, 3) := by decide +kernel
theorem dX7_isGate_74 : decode cX7_isGate 74 = .ok (.iconst 1, 1) := by decide +kernel
theorem dX7_isGate_75 : decode cX7_isGate 75 = .ok (.goto 4, 3) := by decide +kernel
theorem dX7_isGate_78 : decode cX7_isGate 78 = .ok (.iconst 0, 1) := by decide +kernel
theorem dX7_isGate_79 : decode cX7_isGate 79 = .ok (.ireturn, 1) := by decide +kernel
theorem dX7_gate_0 : decode cX7_gate 0 = .ok (.aload_n 0, 1) := by decide +kernel
theorem dX7_gate_1 : decode cX7_gate 1 = .ok (.iload_n 1, 1) := by decide +kernel
theorem dX7_gate_2 : decode cX7_gate 2 = .ok (.invokestatic 88, 3) := by decide +kernel
theorem dX7_gate_5 : decode cX7_gate 5 = .ok (.ifCond .eq 16, 3) := by decide +kernel
theorem dX7_gate_8 : decode cX7_gate 8 = .ok (.aload_n 0, 1) := by decide +kernel
theorem dX7_gate_9 : decode cX7_gate 9 = .ok (.iload_n 2, 1) := by decide +kernel
theorem dX7_gate_10 : decode cX7_gate 10 = .ok (.iload_n 3, 1) := by decide +kernel
theorem dX7_gate_11 : decode cX7_gate 11 = .ok (.iload 4, 2) := by decide +kernel
theorem dX7_gate_13 : decode cX7_gate 13 = .ok (.iload 5, 2) := by decide +kernel
theorem dX7_gate_15 : decode cX7_gate 15 = .ok (.invokevirtual 91, 3) := by decide +kernel
theorem dX7_gate_18 : decode cX7_gate 18 = .ok (.ifCond .ne 7, 3) := by decide +kernel
theorem dX7_gate_21 : decode cX7_gate 21 = .ok (.iconst 1, 1) := by decide +kernel
theorem dX7_gate_22 : decode cX7_gate 22 = .ok (.goto 19, 3) := by decide +kernel
theorem dX7_gate_25 : decode cX7_gate 25 = .ok (.aload_n 0, 1) := by decide +kernel
theorem dX7_gate_26 : decode cX7_gate 26 = .ok (.getfield 13, 3) := by decide +kernel
theorem dX7_gate_29 : decode cX7_gate 29 = .ok (.iload_n 1, 1) := by decide +kernel
theorem dX7_gate_30 : decode cX7_gate 30 = .ok (.iaload, 1) := by decide +kernel
theorem dX7_gate_31 : decode cX7_gate 31 = .ok (.bipush 64, 2) := by decide +kernel
theorem dX7_gate_33 : decode cX7_gate 33 = .ok (.if_icmp .ne 7, 3) := by decide +kernel
theorem dX7_gate_36 : decode cX7_gate 36 = .ok (.iconst 2, 1) := by decide +kernel
theorem dX7_gate_37 : decode cX7_gate 37 = .ok (.goto 4, 3) := by decide +kernel
theorem dX7_gate_40 : decode cX7_gate 40 = .ok (.iconst 0, 1) := by decide +kernel
theorem dX7_gate_41 : decode cX7_gate 41 = .ok (.putfield 60, 3) := by decide +kernel
theorem dX7_gate_44 : decode cX7_gate 44 = .ok (.aload_n 0, 1) := by decide +kernel
theorem dX7_gate_45 : decode cX7_gate 45 = .ok (.getfield 60, 3) := by decide +kernel
theorem dX7_gate_48 : decode cX7_gate 48 = .ok (.ifCond .le 5, 3) := by decide +kernel
theorem dX7_gate_51 : decode cX7_gate 51 = .ok (.iconst 0, 1) := by decide +kernel
theorem dX7_gate_52 : decode cX7_gate 52 = .ok (.ireturn, 1) := by decide +kernel
theorem dX7_gate_53 : decode cX7_gate 53 = .ok (.aload_n 0, 1) := by decide +kernel
theorem dX7_gate_54 : decode cX7_gate 54 = .ok (.iload_n 1, 1) := by decide +kernel
theorem dX7_gate_55 : decode cX7_gate 55 = .ok (.iload_n 2, 1) := by decide +kernel
theorem dX7_gate_56 : decode cX7_gate 56 = .ok (.iload_n 3, 1) := by decide +kernel
theorem dX7_gate_57 : decode cX7_gate 57 = .ok (.iload_n 2, 1) := by decide +kernel
theorem dX7_gate_58 : decode cX7_gate 58 = .ok (.invokestatic 84, 3) := by decide +kernel
theorem dX7_gate_61 : decode cX7_gate 61 = .ok (.iconst 1, 1) := by decide +kernel
theorem dX7_gate_62 : decode cX7_gate 62 = .ok (.if_icmp .le 8, 3) := by decide +kernel
theorem dX7_gate_65 : decode cX7_gate 65 = .ok (.iload 4, 2) := by decide +kernel
theorem dX7_gate_67 : decode cX7_gate 67 = .ok (.goto 4, 3) := by decide +kernel
theorem dX7_gate_70 : decode cX7_gate 70 = .ok (.iconst (-1), 1) := by decide +kernel
theorem dX7_gate_71 : decode cX7_gate 71 = .ok (.iload_n 2, 1) := by decide +kernel
theorem dX7_gate_72 : decode cX7_gate 72 = .ok (.invokestatic 84, 3) := by decide +kernel
theorem dX7_gate_75 : decode cX7_gate 75 = .ok (.iconst 2, 1) := by decide +kernel
theorem dX7_gate_76 : decode cX7_gate 76 = .ok (.if_icmp .le 8, 3) := by decide +kernel
theorem dX7_gate_79 : decode cX7_gate 79 = .ok (.iload 5, 2) := by decide +kernel
theorem dX7_gate_81 : decode cX7_gate 81 = .ok (.goto 4, 3) := by decide +kernel
theorem dX7_gate_84 : decode cX7_gate 84 = .ok (.iconst (-1), 1) := by decide +kernel
theorem dX7_gate_85 : decode cX7_gate 85 = .ok (.invokevirtual 95, 3) := by decide +kernel
theorem dX7_gate_88 : decode cX7_gate 88 = .ok (.aload_n 0, 1) := by decide +kernel
theorem dX7_gate_89 : decode cX7_gate 89 = .ok (.getfield 13, 3) := by decide +kernel
theorem dX7_gate_92 : decode cX7_gate 92 = .ok (.iload_n 1, 1) := by decide +kernel
theorem dX7_gate_93 : decode cX7_gate 93 = .ok (.iaload, 1) := by decide +kernel
theorem dX7_gate_94 : decode cX7_gate 94 = .ok (.ireturn, 1) := by decide +kernel
theorem dX7_size_0 : decode cX7_size 0 = .ok (.aload_n 0, 1) := by decide +kernel
theorem dX7_size_1 : decode cX7_size 1 = .ok (.iconst 0, 1) := by decide +kernel
theorem dX7_size_2 : decode cX7_size 2 = .ok (.putfield 60, 3) := by decide +kernel
theorem dX7_size_5 : decode cX7_size 5 = .ok (.iload_n 1, 1) := by decide +kernel
theorem dX7_size_6 : decode cX7_size 6 = .ok (.invokestatic 88, 3) := by decide +kernel
theorem dX7_size_9 : decode cX7_size 9 = .ok (.ifCond .eq 12, 3) := by decide +kernel
theorem dX7_size_12 : decode cX7_size 12 = .ok (.aload_n 0, 1) := by decide +kernel
theorem dX7_size_13 : decode cX7_size 13 = .ok (.getfield 13, 3) := by decide +kernel
theorem dX7_size_16 : decode cX7_size 16 = .ok (.iload_n 1, 1) := by decide +kernel
theorem dX7_size_17 : decode cX7_size 17 = .ok (.iaload, 1) := by decide +kernel
theorem dX7_size_18 : decode cX7_size 18 = .ok (.goto 4, 3) := by decide +kernel
theorem dX7_size_21 : decode cX7_size 21 = .ok (.iconst (-1), 1) := by decide +kernel
theorem dX7_size_22 : decode cX7_size 22 = .ok (.ireturn, 1) := by decide +kernel
theorem dX7_gateAt_0 : decode cX7_gateAt 0 = .ok (.aload_n 0, 1) := by decide +kernel
theorem dX7_gateAt_1 : decode cX7_gateAt 1 = .ok (.iconst 0, 1) := by decide +kernel
theorem dX7_gateAt_2 : decode cX7_gateAt 2 = .ok (.putfield 60, 3) := by decide +kernel
theorem dX7_gateAt_5 : decode cX7_gateAt 5 = .ok (.iload_n 1, 1) := by decide +kernel
theorem dX7_gateAt_6 : decode cX7_gateAt 6 = .ok (.invokestatic 88, 3) := by decide +kernel
theorem dX7_gateAt_9 : decode cX7_gateAt 9 = .ok (.ifCond .eq 21, 3) := by decide +kernel
theorem dX7_gateAt_12 : decode cX7_gateAt 12 = .ok (.iload_n 2, 1) := by decide +kernel
theorem dX7_gateAt_13 : decode cX7_gateAt 13 = .ok (.i2l, 1) := by decide +kernel
theorem dX7_gateAt_14 : decode cX7_gateAt 14 = .ok (.lconst 0, 1) := by decide +kernel
theorem dX7_gateAt_15 : decode cX7_gateAt 15 = .ok (.aload_n 0, 1) := by decide +kernel
theorem dX7_gateAt_16 : decode cX7_gateAt 16 = .ok (.getfield 13, 3) := by decide +kernel
theorem dX7_gateAt_19 : decode cX7_gateAt 19 = .ok (.iload_n 1, 1) := by decide +kernel
theorem dX7_gateAt_20 : decode cX7_gateAt 20 = .ok (.iaload, 1) := by decide +kernel
theorem dX7_gateAt_21 : decode cX7_gateAt 21 = .ok (.i2l, 1) := by decide +kernel
theorem dX7_gateAt_22 : decode cX7_gateAt 22 = .ok (.lconst 1, 1) := by decide +kernel
theorem dX7_gateAt_23 : decode cX7_gateAt 23 = .ok (.lsub, 1) := by decide +kernel
theorem dX7_gateAt_24 : decode cX7_gateAt 24 = .ok (.invokestatic 65, 3) := by decide +kernel
theorem dX7_gateAt_27 : decode cX7_gateAt 27 = .ok (.ifCond .ne 5, 3) := by decide +kernel
theorem dX7_gateAt_30 : decode cX7_gateAt 30 = .ok (.iconst (-1), 1) := by decide +kernel
theorem dX7_gateAt_31 : decode cX7_gateAt 31 = .ok (.ireturn, 1) := by decide +kernel
theorem dX7_gateAt_32 : decode cX7_gateAt 32 = .ok (.bipush 64, 2) := by decide +kernel
theorem dX7_gateAt_34 : decode cX7_gateAt 34 = .ok (.iload_n 1, 1) := by decide +kernel
theorem dX7_gateAt_35 : decode cX7_gateAt 35 = .ok (.imul, 1) := by decide +kernel
theorem dX7_gateAt_36 : decode cX7_gateAt 36 = .ok (.iload_n 2, 1) := by decide +kernel
theorem dX7_gateAt_37 : decode cX7_gateAt 37 = .ok (.iadd, 1) := by decide +kernel
theorem dX7_gateAt_38 : decode cX7_gateAt 38 = .ok (.istore_n 3, 1) := by decide +kernel
theorem dX7_gateAt_39 : decode cX7_gateAt 39 = .ok (.aload_n 0, 1) := by decide +kernel
theorem dX7_gateAt_40 : decode cX7_gateAt 40 = .ok (.getfield 17, 3) := by decide +kernel
theorem dX7_gateAt_43 : decode cX7_gateAt 43 = .ok (.iload_n 3, 1) := by decide +kernel
theorem dX7_gateAt_44 : decode cX7_gateAt 44 = .ok (.iaload, 1) := by decide +kernel
theorem dX7_gateAt_45 : decode cX7_gateAt 45 = .ok (.bipush 10, 2) := by decide +kernel
theorem dX7_gateAt_47 : decode cX7_gateAt 47 = .ok (.aload_n 0, 1) := by decide +kernel
theorem dX7_gateAt_48 : decode cX7_gateAt 48 = .ok (.getfield 20, 3) := by decide +kernel
theorem dX7_gateAt_51 : decode cX7_gateAt 51 = .ok (.iload_n 3, 1) := by decide +kernel
theorem dX7_gateAt_52 : decode cX7_gateAt 52 = .ok (.iaload, 1) := by decide +kernel
theorem dX7_gateAt_53 : decode cX7_gateAt 53 = .ok (.imul, 1) := by decide +kernel
theorem dX7_gateAt_54 : decode cX7_gateAt 54 = .ok (.iadd, 1) := by decide +kernel
theorem dX7_gateAt_55 : decode cX7_gateAt 55 = .ok (.aload_n 0, 1) := by decide +kernel
theorem dX7_gateAt_56 : decode cX7_gateAt 56 = .ok (.getfield 23, 3) := by decide +kernel
theorem dX7_gateAt_59 : decode cX7_gateAt 59 = .ok (.iload_n 3, 1) := by decide +kernel
theorem dX7_gateAt_60 : decode cX7_gateAt 60 = .ok (.iaload, 1) := by decide +kernel
theorem dX7_gateAt_61 : decode cX7_gateAt 61 = .ok (.ifCond .ge 7, 3) := by decide +kernel
theorem dX7_gateAt_64 : decode cX7_gateAt 64 = .ok (.iconst 0, 1) := by decide +kernel
theorem dX7_gateAt_65 : decode cX7_gateAt 65 = .ok (.goto 12, 3) := by decide +kernel
theorem dX7_gateAt_68 : decode cX7_gateAt 68 = .ok (.bipush 100, 2) := by decide +kernel
theorem dX7_gateAt_70 : decode cX7_gateAt 70 = .ok (.aload_n 0, 1) := by decide +kernel
theorem dX7_gateAt_71 : decode cX7_gateAt 71 = .ok (.getfield 23, 3) := by decide +kernel
theorem dX7_gateAt_74 : decode cX7_gateAt 74 = .ok (.iload_n 3, 1) := by decide +kernel
theorem dX7_gateAt_75 : decode cX7_gateAt 75 = .ok (.iaload, 1) := by decide +kernel
theorem dX7_gateAt_76 : decode cX7_gateAt 76 = .ok (.imul, 1) := by decide +kernel
theorem dX7_gateAt_77 : decode cX7_gateAt 77 = .ok (.iadd, 1) := by decide +kernel
theorem dX7_gateAt_78 : decode cX7_gateAt 78 = .ok (.aload_n 0, 1) := by decide +kernel
theorem dX7_gateAt_79 : decode cX7_gateAt 79 = .ok (.getfield 26, 3) := by decide +kernel
theorem dX7_gateAt_82 : decode cX7_gateAt 82 = .ok (.iload_n 3, 1) := by decide +kernel
theorem dX7_gateAt_83 : decode cX7_gateAt 83 = .ok (.iaload, 1) := by decide +kernel
theorem dX7_gateAt_84 : decode cX7_gateAt 84 = .ok (.ifCond .ge 7, 3) := by decide +kernel
theorem dX7_gateAt_87 : decode cX7_gateAt 87 = .ok (.iconst 0, 1) := by decide +kernel
theorem dX7_gateAt_88 : decode cX7_gateAt 88 = .ok (.goto 13, 3) := by decide +kernel
theorem dX7_gateAt_91 : decode cX7_gateAt 91 = .ok (.sipush 1000, 3) := by decide +kernel
theorem dX7_gateAt_94 : decode cX7_gateAt 94 = .ok (.aload_n 0, 1) := by decide +kernel
theorem dX7_gateAt_95 : decode cX7_gateAt 95 = .ok (.getfield 26, 3) := by decide +kernel
theorem dX7_gateAt_98 : decode cX7_gateAt 98 = .ok (.iload_n 3, 1) := by decide +kernel
theorem dX7_gateAt_99 : decode cX7_gateAt 99 = .ok (.iaload, 1) := by decide +kernel
theorem dX7_gateAt_100 : decode cX7_gateAt 100 = .ok (.imul, 1) := by decide +kernel
theorem dX7_gateAt_101 : decode cX7_gateAt 101 = .ok (.iadd, 1) := by decide +kernel
theorem dX7_gateAt_102 : decode cX7_gateAt 102 = .ok (.ireturn, 1) := by decide +kernel
theorem dX7_clear_0 : decode cX7_clear 0 = .ok (.aload_n 0, 1) := by decide +kernel
theorem dX7_clear_1 : decode cX7_clear 1 = .ok (.iload_n 1, 1) := by decide +kernel
theorem dX7_clear_2 : decode cX7_clear 2 = .ok (.invokestatic 88, 3) := by decide +kernel
theorem dX7_clear_5 : decode cX7_clear 5 = .ok (.ifCond .eq 7, 3) := by decide +kernel
theorem dX7_clear_8 : decode cX7_clear 8 = .ok (.iconst 0, 1) := by decide +kernel
theorem dX7_clear_9 : decode cX7_clear 9 = .ok (.goto 4, 3) := by decide +kernel
theorem dX7_clear_12 : decode cX7_clear 12 = .ok (.iconst 1, 1) := by decide +kernel
theorem dX7_clear_13 : decode cX7_clear 13 = .ok (.putfield 60, 3) := by decide +kernel
theorem dX7_clear_16 : decode cX7_clear 16 = .ok (.aload_n 0, 1) := by decide +kernel
theorem dX7_clear_17 : decode cX7_clear 17 = .ok (.getfield 60, 3) := by decide +kernel
theorem dX7_clear_20 : decode cX7_clear 20 = .ok (.ifCond .ne 10, 3) := by decide +kernel
theorem dX7_clear_23 : decode cX7_clear 23 = .ok (.aload_n 0, 1) := by decide +kernel
theorem dX7_clear_24 : decode cX7_clear 24 = .ok (.getfield 13, 3) := by decide +kernel
theorem dX7_clear_27 : decode cX7_clear 27 = .ok (.iload_n 1, 1) := by decide +kernel
theorem dX7_clear_28 : decode cX7_clear 28 = .ok (.iconst 0, 1) := by decide +kernel
theorem dX7_clear_29 : decode cX7_clear 29 = .ok (.iastore, 1) := by decide +kernel
theorem dX7_clear_30 : decode cX7_clear 30 = .ok (.return_, 1) := by decide +kernel
theorem dX7_copyGate_0 : decode cX7_copyGate 0 = .ok (.aload_n 0, 1) := by decide +kernel
theorem dX7_copyGate_1 : decode cX7_copyGate 1 = .ok (.iload_n 2, 1) := by decide +kernel
theorem dX7_copyGate_2 : decode cX7_copyGate 2 = .ok (.aload_n 0, 1) := by decide +kernel
theorem dX7_copyGate_3 : decode cX7_copyGate 3 = .ok (.getfield 17, 3) := by decide +kernel
theorem dX7_copyGate_6 : decode cX7_copyGate 6 = .ok (.iload_n 1, 1) := by decide +kernel
theorem dX7_copyGate_7 : decode cX7_copyGate 7 = .ok (.iaload, 1) := by decide +kernel
theorem dX7_copyGate_8 : decode cX7_copyGate 8 = .ok (.aload_n 0, 1) := by decide +kernel
theorem dX7_copyGate_9 : decode cX7_copyGate 9 = .ok (.getfield 20, 3) := by decide +kernel
theorem dX7_copyGate_12 : decode cX7_copyGate 12 = .ok (.iload_n 1, 1) := by decide +kernel
theorem dX7_copyGate_13 : decode cX7_copyGate 13 = .ok (.iaload, 1) := by decide +kernel
theorem dX7_copyGate_14 : decode cX7_copyGate 14 = .ok (.aload_n 0, 1) := by decide +kernel
theorem dX7_copyGate_15 : decode cX7_copyGate 15 = .ok (.getfield 23, 3) := by decide +kernel
theorem dX7_copyGate_18 : decode cX7_copyGate 18 = .ok (.iload_n 1, 1) := by decide +kernel
theorem dX7_copyGate_19 : decode cX7_copyGate 19 = .ok (.iaload, 1) := by decide +kernel
theorem dX7_copyGate_20 : decode cX7_copyGate 20 = .ok (.aload_n 0, 1) := by decide +kernel
theorem dX7_copyGate_21 : decode cX7_copyGate 21 = .ok (.getfield 26, 3) := by decide +kernel
theorem dX7_copyGate_24 : decode cX7_copyGate 24 = .ok (.iload_n 1, 1) := by decide +kernel
theorem dX7_copyGate_25 : decode cX7_copyGate 25 = .ok (.iaload, 1) := by decide +kernel
theorem dX7_copyGate_26 : decode cX7_copyGate 26 = .ok (.invokevirtual 95, 3) := by decide +kernel
theorem dX7_copyGate_29 : decode cX7_copyGate 29 = .ok (.return_, 1) := by decide +kernel
theorem dX7_copy_0 : decode cX7_copy 0 = .ok (.aload_n 0, 1) := by decide +kernel
theorem dX7_copy_1 : decode cX7_copy 1 = .ok (.getfield 13, 3) := by decide +kernel
theorem dX7_copy_4 : decode cX7_copy 4 = .ok (.iload_n 2, 1) := by decide +kernel
theorem dX7_copy_5 : decode cX7_copy 5 = .ok (.iconst 0, 1) := by decide +kernel
theorem dX7_copy_6 : decode cX7_copy 6 = .ok (.iastore, 1) := by decide +kernel
theorem dX7_copy_7 : decode cX7_copy 7 = .ok (.iconst 0, 1) := by decide +kernel
theorem dX7_copy_8 : decode cX7_copy 8 = .ok (.istore_n 3, 1) := by decide +kernel
theorem dX7_copy_9 : decode cX7_copy 9 = .ok (.iload_n 3, 1) := by decide +kernel
theorem dX7_copy_10 : decode cX7_copy 10 = .ok (.aload_n 0, 1) := by decide +kernel
theorem dX7_copy_11 : decode cX7_copy 11 = .ok (.getfield 13, 3) := by decide +kernel
theorem dX7_copy_14 : decode cX7_copy 14 = .ok (.iload_n 1, 1) := by decide +kernel
theorem dX7_copy_15 : decode cX7_copy 15 = .ok (.iaload, 1) := by decide +kernel
theorem dX7_copy_16 : decode cX7_copy 16 = .ok (.if_icmp .ge 20, 3) := by decide +kernel
theorem dX7_copy_19 : decode cX7_copy 19 = .ok (.aload_n 0, 1) := by decide +kernel
theorem dX7_copy_20 : decode cX7_copy 20 = .ok (.bipush 64, 2) := by decide +kernel
theorem dX7_copy_22 : decode cX7_copy 22 = .ok (.iload_n 1, 1) := by decide +kernel
theorem dX7_copy_23 : decode cX7_copy 23 = .ok (.imul, 1) := by decide +kernel
theorem dX7_copy_24 : decode cX7_copy 24 = .ok (.iload_n 3, 1) := by decide +kernel
theorem dX7_copy_25 : decode cX7_copy 25 = .ok (.iadd, 1) := by decide +kernel
theorem dX7_copy_26 : decode cX7_copy 26 = .ok (.iload_n 2, 1) := by decide +kernel
theorem dX7_copy_27 : decode cX7_copy 27 = .ok (.invokevirtual 99, 3) := by decide +kernel
theorem dX7_copy_30 : decode cX7_copy 30 = .ok (.iinc 3 1, 3) := by decide +kernel
theorem dX7_copy_33 : decode cX7_copy 33 = .ok (.goto (-24), 3) := by decide +kernel
theorem dX7_copy_36 : decode cX7_copy 36 = .ok (.return_, 1) := by decide +kernel
theorem dX7_append_0 : decode cX7_append 0 = .ok (.aload_n 0, 1) := by decide +kernel
theorem dX7_append_1 : decode cX7_append 1 = .ok (.iload_n 1, 1) := by decide +kernel
theorem dX7_append_2 : decode cX7_append 2 = .ok (.invokestatic 88, 3) := by decide +kernel
theorem dX7_append_5 : decode cX7_append 5 = .ok (.ifCond .eq 10, 3) := by decide +kernel
theorem dX7_append_8 : decode cX7_append 8 = .ok (.iload_n 2, 1) := by decide +kernel
theorem dX7_append_9 : decode cX7_append 9 = .ok (.invokestatic 88, 3) := by decide +kernel
theorem dX7_append_12 : decode cX7_append 12 = .ok (.ifCond .ne 7, 3) := by decide +kernel
theorem dX7_append_15 : decode cX7_append 15 = .ok (.iconst 1, 1) := by decide +kernel
theorem dX7_append_16 : decode cX7_append 16 = .ok (.goto 26, 3) := by decide +kernel
theorem dX7_append_19 : decode cX7_append 19 = .ok (.aload_n 0, 1) := by decide +kernel
theorem dX7_append_20 : decode cX7_append 20 = .ok (.getfield 13, 3) := by decide +kernel
theorem dX7_append_23 : decode cX7_append 23 = .ok (.iload_n 1, 1) := by decide +kernel
theorem dX7_append_24 : decode cX7_append 24 = .ok (.iaload, 1) := by decide +kernel
theorem dX7_append_25 : decode cX7_append 25 = .ok (.aload_n 0, 1) := by decide +kernel
theorem dX7_append_26 : decode cX7_append 26 = .ok (.getfield 13, 3) := by decide +kernel
theorem dX7_append_29 : decode cX7_append 29 = .ok (.iload_n 2, 1) := by decide +kernel
theorem dX7_append_30 : decode cX7_append 30 = .ok (.iaload, 1) := by decide +kernel
theorem dX7_append_31 : decode cX7_append 31 = .ok (.iadd, 1) := by decide +kernel
theorem dX7_append_32 : decode cX7_append 32 = .ok (.bipush 64, 2) := by decide +kernel
theorem dX7_append_34 : decode cX7_append 34 = .ok (.if_icmp .le 7, 3) := by decide +kernel
theorem dX7_append_37 : decode cX7_append 37 = .ok (.iconst 2, 1) := by decide +kernel
theorem dX7_append_38 : decode cX7_append 38 = .ok (.goto 4, 3) := by decide +kernel
theorem dX7_append_41 : decode cX7_append 41 = .ok (.iconst 0, 1) := by decide +kernel
theorem dX7_append_42 : decode cX7_append 42 = .ok (.putfield 60, 3) := by decide +kernel
theorem dX7_append_45 : decode cX7_append 45 = .ok (.aload_n 0, 1) := by decide +kernel
theorem dX7_append_46 : decode cX7_append 46 = .ok (.getfield 60, 3) := by decide +kernel
theorem dX7_append_49 : decode cX7_append 49 = .ok (.ifCond .le 5, 3) := by decide +kernel
theorem dX7_append_52 : decode cX7_append 52 = .ok (.iconst 0, 1) := by decide +kernel
theorem dX7_append_53 : decode cX7_append 53 = .ok (.ireturn, 1) := by decide +kernel
theorem dX7_append_54 : decode cX7_append 54 = .ok (.aload_n 0, 1) := by decide +kernel
theorem dX7_append_55 : decode cX7_append 55 = .ok (.getfield 13, 3) := by decide +kernel
theorem dX7_append_58 : decode cX7_append 58 = .ok (.iload_n 2, 1) := by decide +kernel
theorem dX7_append_59 : decode cX7_append 59 = .ok (.iaload, 1) := by decide +kernel
theorem dX7_append_60 : decode cX7_append 60 = .ok (.istore_n 3, 1) := by decide +kernel
theorem dX7_append_61 : decode cX7_append 61 = .ok (.iconst 0, 1) := by decide +kernel
theorem dX7_append_62 : decode cX7_append 62 = .ok (.istore 4, 2) := by decide +kernel
theorem dX7_append_64 : decode cX7_append 64 = .ok (.iload 4, 2) := by decide +kernel
theorem dX7_append_66 : decode cX7_append 66 = .ok (.iload_n 3, 1) := by decide +kernel
theorem dX7_append_67 : decode cX7_append 67 = .ok (.if_icmp .ge 21, 3) := by decide +kernel
theorem dX7_append_70 : decode cX7_append 70 = .ok (.aload_n 0, 1) := by decide +kernel
theorem dX7_append_71 : decode cX7_append 71 = .ok (.bipush 64, 2) := by decide +kernel
theorem dX7_append_73 : decode cX7_append 73 = .ok (.iload_n 2, 1) := by decide +kernel
theorem dX7_append_74 : decode cX7_append 74 = .ok (.imul, 1) := by decide +kernel
theorem dX7_append_75 : decode cX7_append 75 = .ok (.iload 4, 2) := by decide +kernel
theorem dX7_append_77 : decode cX7_append 77 = .ok (.iadd, 1) := by decide +kernel
theorem dX7_append_78 : decode cX7_append 78 = .ok (.iload_n 1, 1) := by decide +kernel
theorem dX7_append_79 : decode cX7_append 79 = .ok (.invokevirtual 99, 3) := by decide +kernel
theorem dX7_append_82 : decode cX7_append 82 = .ok (.iinc 4 1, 3) := by decide +kernel
theorem dX7_append_85 : decode cX7_append 85 = .ok (.goto (-21), 3) := by decide +kernel
theorem dX7_append_88 : decode cX7_append 88 = .ok (.aload_n 0, 1) := by decide +kernel
theorem dX7_append_89 : decode cX7_append 89 = .ok (.getfield 13, 3) := by decide +kernel
theorem dX7_append_92 : decode cX7_append 92 = .ok (.iload_n 1, 1) := by decide +kernel
theorem dX7_append_93 : decode cX7_append 93 = .ok (.iaload, 1) := by decide +kernel
theorem dX7_append_94 : decode cX7_append 94 = .ok (.ireturn, 1) := by decide +kernel
theorem dX7_turnsOf_0 : decode cX7_turnsOf 0 = .ok (.iload_n 1, 1) := by decide +kernel
theorem dX7_turnsOf_1 : decode cX7_turnsOf 1 = .ok (.iconst 3, 1) := by decide +kernel
theorem dX7_turnsOf_2 : decode cX7_turnsOf 2 = .ok (.if_icmp .ne 7, 3) := by decide +kernel
theorem dX7_turnsOf_5 : decode cX7_turnsOf 5 = .ok (.iconst 1, 1) := by decide +kernel
theorem dX7_turnsOf_6 : decode cX7_turnsOf 6 = .ok (.goto 22, 3) := by decide +kernel
theorem dX7_turnsOf_9 : decode cX7_turnsOf 9 = .ok (.iload_n 1, 1) := by decide +kernel
theorem dX7_turnsOf_10 : decode cX7_turnsOf 10 = .ok (.iconst 2, 1) := by decide +kernel
theorem dX7_turnsOf_11 : decode cX7_turnsOf 11 = .ok (.if_icmp .ne 7, 3) := by decide +kernel
theorem dX7_turnsOf_14 : decode cX7_turnsOf 14 = .ok (.iconst 2, 1) := by decide +kernel
theorem dX7_turnsOf_15 : decode cX7_turnsOf 15 = .ok (.goto 13, 3) := by decide +kernel
theorem dX7_turnsOf_18 : decode cX7_turnsOf 18 = .ok (.iload_n 1, 1) := by decide +kernel
theorem dX7_turnsOf_19 : decode cX7_turnsOf 19 = .ok (.iconst 5, 1) := by decide +kernel
theorem dX7_turnsOf_20 : decode cX7_turnsOf 20 = .ok (.if_icmp .ne 7, 3) := by decide +kernel
theorem dX7_turnsOf_23 : decode cX7_turnsOf 23 = .ok (.iconst 4, 1) := by decide +kernel
theorem dX7_turnsOf_24 : decode cX7_turnsOf 24 = .ok (.goto 4, 3) := by decide +kernel
theorem dX7_turnsOf_27 : decode cX7_turnsOf 27 = .ok (.iconst 0, 1) := by decide +kernel
theorem dX7_turnsOf_28 : decode cX7_turnsOf 28 = .ok (.ireturn, 1) := by decide +kernel
theorem dX7_inverse_0 : decode cX7_inverse 0 = .ok (.aload_n 0, 1) := by decide +kernel
theorem dX7_inverse_1 : decode cX7_inverse 1 = .ok (.iload_n 1, 1) := by decide +kernel
theorem dX7_inverse_2 : decode cX7_inverse 2 = .ok (.invokestatic 88, 3) := by decide +kernel
theorem dX7_inverse_5 : decode cX7_inverse 5 = .ok (.ifCond .eq 7, 3) := by decide +kernel
theorem dX7_inverse_8 : decode cX7_inverse 8 = .ok (.iconst 0, 1) := by decide +kernel
theorem dX7_inverse_9 : decode cX7_inverse 9 = .ok (.goto 4, 3) := by decide +kernel
theorem dX7_inverse_12 : decode cX7_inverse 12 = .ok (.iconst 1, 1) := by decide +kernel
theorem dX7_inverse_13 : decode cX7_inverse 13 = .ok (.putfield 60, 3) := by decide +kernel
theorem dX7_inverse_16 : decode cX7_inverse 16 = .ok (.aload_n 0, 1) := by decide +kernel
theorem dX7_inverse_17 : decode cX7_inverse 17 = .ok (.getfield 60, 3) := by decide +kernel
theorem dX7_inverse_20 : decode cX7_inverse 20 = .ok (.ifCond .le 5, 3) := by decide +kernel
theorem dX7_inverse_23 : decode cX7_inverse 23 = .ok (.iconst 0, 1) := by decide +kernel
theorem dX7_inverse_24 : decode cX7_inverse 24 = .ok (.ireturn, 1) := by decide +kernel
theorem dX7_inverse_25 : decode cX7_inverse 25 = .ok (.iconst 0, 1) := by decide +kernel
theorem dX7_inverse_26 : decode cX7_inverse 26 = .ok (.istore_n 2, 1) := by decide +kernel
theorem dX7_inverse_27 : decode cX7_inverse 27 = .ok (.iconst 0, 1) := by decide +kernel
theorem dX7_inverse_28 : decode cX7_inverse 28 = .ok (.istore_n 3, 1) := by decide +kernel
theorem dX7_inverse_29 : decode cX7_inverse 29 = .ok (.iload_n 3, 1) := by decide +kernel
theorem dX7_inverse_30 : decode cX7_inverse 30 = .ok (.aload_n 0, 1) := by decide +kernel
theorem dX7_inverse_31 : decode cX7_inverse 31 = .ok (.getfield 13, 3) := by decide +kernel
theorem dX7_inverse_34 : decode cX7_inverse 34 = .ok (.iload_n 1, 1) := by decide +kernel
theorem dX7_inverse_35 : decode cX7_inverse 35 = .ok (.iaload, 1) := by decide +kernel
theorem dX7_inverse_36 : decode cX7_inverse 36 = .ok (.if_icmp .ge 46, 3) := by decide +kernel
theorem dX7_inverse_39 : decode cX7_inverse 39 = .ok (.aload_n 0, 1) := by decide +kernel
theorem dX7_inverse_40 : decode cX7_inverse 40 = .ok (.getfield 17, 3) := by decide +kernel
theorem dX7_inverse_43 : decode cX7_inverse 43 = .ok (.bipush 64, 2) := by decide +kernel
theorem dX7_inverse_45 : decode cX7_inverse 45 = .ok (.iload_n 1, 1) := by decide +kernel
theorem dX7_inverse_46 : decode cX7_inverse 46 = .ok (.imul, 1) := by decide +kernel
theorem dX7_inverse_47 : decode cX7_inverse 47 = .ok (.iload_n 3, 1) := by decide +kernel
theorem dX7_inverse_48 : decode cX7_inverse 48 = .ok (.iadd, 1) := by decide +kernel
theorem dX7_inverse_49 : decode cX7_inverse 49 = .ok (.iaload, 1) := by decide +kernel
theorem dX7_inverse_50 : decode cX7_inverse 50 = .ok (.istore 4, 2) := by decide +kernel
theorem dX7_inverse_52 : decode cX7_inverse 52 = .ok (.iload_n 2, 1) := by decide +kernel
theorem dX7_inverse_53 : decode cX7_inverse 53 = .ok (.iload 4, 2) := by decide +kernel
theorem dX7_inverse_55 : decode cX7_inverse 55 = .ok (.iconst 3, 1) := by decide +kernel
theorem dX7_inverse_56 : decode cX7_inverse 56 = .ok (.if_icmp .ne 7, 3) := by decide +kernel
theorem dX7_inverse_59 : decode cX7_inverse 59 = .ok (.iconst 3, 1) := by decide +kernel
theorem dX7_inverse_60 : decode cX7_inverse 60 = .ok (.goto 14, 3) := by decide +kernel
theorem dX7_inverse_63 : decode cX7_inverse 63 = .ok (.iload 4, 2) := by decide +kernel
theorem dX7_inverse_65 : decode cX7_inverse 65 = .ok (.iconst 2, 1) := by decide +kernel
theorem dX7_inverse_66 : decode cX7_inverse 66 = .ok (.if_icmp .ne 7, 3) := by decide +kernel
theorem dX7_inverse_69 : decode cX7_inverse 69 = .ok (.iconst 2, 1) := by decide +kernel
theorem dX7_inverse_70 : decode cX7_inverse 70 = .ok (.goto 4, 3) := by decide +kernel
theorem dX7_inverse_73 : decode cX7_inverse 73 = .ok (.iconst 1, 1) := by decide +kernel
theorem dX7_inverse_74 : decode cX7_inverse 74 = .ok (.iadd, 1) := by decide +kernel
theorem dX7_inverse_75 : decode cX7_inverse 75 = .ok (.istore_n 2, 1) := by decide +kernel
theorem dX7_inverse_76 : decode cX7_inverse 76 = .ok (.iinc 3 1, 3) := by decide +kernel
theorem dX7_inverse_79 : decode cX7_inverse 79 = .ok (.goto (-50), 3) := by decide +kernel
theorem dX7_inverse_82 : decode cX7_inverse 82 = .ok (.iload_n 2, 1) := by decide +kernel
theorem dX7_inverse_83 : decode cX7_inverse 83 = .ok (.bipush 64, 2) := by decide +kernel
theorem dX7_inverse_85 : decode cX7_inverse 85 = .ok (.if_icmp .le 10, 3) := by decide +kernel
theorem dX7_inverse_88 : decode cX7_inverse 88 = .ok (.aload_n 0, 1) := by decide +kernel
theorem dX7_inverse_89 : decode cX7_inverse 89 = .ok (.iconst 2, 1) := by decide +kernel
theorem dX7_inverse_90 : decode cX7_inverse 90 = .ok (.putfield 60, 3) := by decide +kernel
theorem dX7_inverse_93 : decode cX7_inverse 93 = .ok (.iconst 0, 1) := by decide +kernel
theorem dX7_inverse_94 : decode cX7_inverse 94 = .ok (.ireturn, 1) := by decide +kernel
theorem dX7_inverse_95 : decode cX7_inverse 95 = .ok (.aload_n 0, 1) := by decide +kernel
theorem dX7_inverse_96 : decode cX7_inverse 96 = .ok (.getfield 13, 3) := by decide +kernel
theorem dX7_inverse_99 : decode cX7_inverse 99 = .ok (.iconst 3, 1) := by decide +kernel
theorem dX7_inverse_100 : decode cX7_inverse 100 = .ok (.iconst 0, 1) := by decide +kernel
theorem dX7_inverse_101 : decode cX7_inverse 101 = .ok (.iastore, 1) := by decide +kernel
theorem dX7_inverse_102 : decode cX7_inverse 102 = .ok (.aload_n 0, 1) := by decide +kernel
theorem dX7_inverse_103 : decode cX7_inverse 103 = .ok (.getfield 13, 3) := by decide +kernel
theorem dX7_inverse_106 : decode cX7_inverse 106 = .ok (.iload_n 1, 1) := by decide +kernel
theorem dX7_inverse_107 : decode cX7_inverse 107 = .ok (.iaload, 1) := by decide +kernel
theorem dX7_inverse_108 : decode cX7_inverse 108 = .ok (.iconst 1, 1) := by decide +kernel
theorem dX7_inverse_109 : decode cX7_inverse 109 = .ok (.isub, 1) := by decide +kernel
theorem dX7_inverse_110 : decode cX7_inverse 110 = .ok (.istore_n 3, 1) := by decide +kernel
theorem dX7_inverse_111 : decode cX7_inverse 111 = .ok (.iload_n 3, 1) := by decide +kernel
theorem dX7_inverse_112 : decode cX7_inverse 112 = .ok (.ifCond .lt 87, 3) := by decide +kernel
theorem dX7_inverse_115 : decode cX7_inverse 115 = .ok (.bipush 64, 2) := by decide +kernel
theorem dX7_inverse_117 : decode cX7_inverse 117 = .ok (.iload_n 1, 1) := by decide +kernel
theorem dX7_inverse_118 : decode cX7_inverse 118 = .ok (.imul, 1) := by decide +kernel
theorem dX7_inverse_119 : decode cX7_inverse 119 = .ok (.iload_n 3, 1) := by decide +kernel
theorem dX7_inverse_120 : decode cX7_inverse 120 = .ok (.iadd, 1) := by decide +kernel
theorem dX7_inverse_121 : decode cX7_inverse 121 = .ok (.istore 4, 2) := by decide +kernel
theorem dX7_inverse_123 : decode cX7_inverse 123 = .ok (.aload_n 0, 1) := by decide +kernel
theorem dX7_inverse_124 : decode cX7_inverse 124 = .ok (.iload 4, 2) := by decide +kernel
theorem dX7_inverse_126 : decode cX7_inverse 126 = .ok (.iconst 3, 1) := by decide +kernel
theorem dX7_inverse_127 : decode cX7_inverse 127 = .ok (.invokevirtual 99, 3) := by decide +kernel
theorem dX7_inverse_130 : decode cX7_inverse 130 = .ok (.aload_n 0, 1) := by decide +kernel
theorem dX7_inverse_131 : decode cX7_inverse 131 = .ok (.getfield 17, 3) := by decide +kernel
theorem dX7_inverse_134 : decode cX7_inverse 134 = .ok (.iload 4, 2) := by decide +kernel
theorem dX7_inverse_136 : decode cX7_inverse 136 = .ok (.iaload, 1) := by decide +kernel
theorem dX7_inverse_137 : decode cX7_inverse 137 = .ok (.iconst 3, 1) := by decide +kernel
theorem dX7_inverse_138 : decode cX7_inverse 138 = .ok (.if_icmp .ne 18, 3) := by decide +kernel
theorem dX7_inverse_141 : decode cX7_inverse 141 = .ok (.aload_n 0, 1) := by decide +kernel
theorem dX7_inverse_142 : decode cX7_inverse 142 = .ok (.iconst 3, 1) := by decide +kernel
theorem dX7_inverse_143 : decode cX7_inverse 143 = .ok (.iconst 2, 1) := by decide +kernel
theorem dX7_inverse_144 : decode cX7_inverse 144 = .ok (.aload_n 0, 1) := by decide +kernel
theorem dX7_inverse_145 : decode cX7_inverse 145 = .ok (.getfield 20, 3) := by decide +kernel
theorem dX7_inverse_148 : decode cX7_inverse 148 = .ok (.iload 4, 2) := by decide +kernel
theorem dX7_inverse_150 : decode cX7_inverse 150 = .ok (.iaload, 1) := by decide +kernel
theorem dX7_inverse_151 : decode cX7_inverse 151 = .ok (.iconst (-1), 1) := by decide +kernel
theorem dX7_inverse_152 : decode cX7_inverse 152 = .ok (.iconst (-1), 1) := by decide +kernel
theorem dX7_inverse_153 : decode cX7_inverse 153 = .ok (.invokevirtual 95, 3) := by decide +kernel
theorem dX7_inverse_156 : decode cX7_inverse 156 = .ok (.aload_n 0, 1) := by decide +kernel
theorem dX7_inverse_157 : decode cX7_inverse 157 = .ok (.getfield 17, 3) := by decide +kernel
theorem dX7_inverse_160 : decode cX7_inverse 160 = .ok (.iload 4, 2) := by decide +kernel
theorem dX7_inverse_162 : decode cX7_inverse 162 = .ok (.iaload, 1) := by decide +kernel
theorem dX7_inverse_163 : decode cX7_inverse 163 = .ok (.iconst 3, 1) := by decide +kernel
theorem dX7_inverse_164 : decode cX7_inverse 164 = .ok (.if_icmp .eq 14, 3) := by decide +kernel
theorem dX7_inverse_167 : decode cX7_inverse 167 = .ok (.aload_n 0, 1) := by decide +kernel
theorem dX7_inverse_168 : decode cX7_inverse 168 = .ok (.getfield 17, 3) := by decide +kernel
theorem dX7_inverse_171 : decode cX7_inverse 171 = .ok (.iload 4, 2) := by decide +kernel
theorem dX7_inverse_173 : decode cX7_inverse 173 = .ok (.iaload, 1) := by decide +kernel
theorem dX7_inverse_174 : decode cX7_inverse 174 = .ok (.iconst 2, 1) := by decide +kernel
theorem dX7_inverse_175 : decode cX7_inverse 175 = .ok (.if_icmp .ne 18, 3) := by decide +kernel
theorem dX7_inverse_178 : decode cX7_inverse 178 = .ok (.aload_n 0, 1) := by decide +kernel
theorem dX7_inverse_179 : decode cX7_inverse 179 = .ok (.iconst 3, 1) := by decide +kernel
theorem dX7_inverse_180 : decode cX7_inverse 180 = .ok (.iconst 5, 1) := by decide +kernel
theorem dX7_inverse_181 : decode cX7_inverse 181 = .ok (.aload_n 0, 1) := by decide +kernel
theorem dX7_inverse_182 : decode cX7_inverse 182 = .ok (.getfield 20, 3) := by decide +kernel
theorem dX7_inverse_185 : decode cX7_inverse 185 = .ok (.iload 4, 2) := by decide +kernel
theorem dX7_inverse_187 : decode cX7_inverse 187 = .ok (.iaload, 1) := by decide +kernel
theorem dX7_inverse_188 : decode cX7_inverse 188 = .ok (.iconst (-1), 1) := by decide +kernel
theorem dX7_inverse_189 : decode cX7_inverse 189 = .ok (.iconst (-1), 1) := by decide +kernel
theorem dX7_inverse_190 : decode cX7_inverse 190 = .ok (.invokevirtual 95, 3) := by decide +kernel
theorem dX7_inverse_193 : decode cX7_inverse 193 = .ok (.iinc 3 (-1), 3) := by decide +kernel
theorem dX7_inverse_196 : decode cX7_inverse 196 = .ok (.goto (-85), 3) := by decide +kernel
theorem dX7_inverse_199 : decode cX7_inverse 199 = .ok (.aload_n 0, 1) := by decide +kernel
theorem dX7_inverse_200 : decode cX7_inverse 200 = .ok (.iconst 3, 1) := by decide +kernel
theorem dX7_inverse_201 : decode cX7_inverse 201 = .ok (.iload_n 1, 1) := by decide +kernel
theorem dX7_inverse_202 : decode cX7_inverse 202 = .ok (.invokevirtual 103, 3) := by decide +kernel
theorem dX7_inverse_205 : decode cX7_inverse 205 = .ok (.aload_n 0, 1) := by decide +kernel
theorem dX7_inverse_206 : decode cX7_inverse 206 = .ok (.getfield 13, 3) := by decide +kernel
theorem dX7_inverse_209 : decode cX7_inverse 209 = .ok (.iload_n 1, 1) := by decide +kernel
theorem dX7_inverse_210 : decode cX7_inverse 210 = .ok (.iaload, 1) := by decide +kernel
theorem dX7_inverse_211 : decode cX7_inverse 211 = .ok (.ireturn, 1) := by decide +kernel
theorem dX7_putBack_0 : decode cX7_putBack 0 = .ok (.aload_n 0, 1) := by decide +kernel
theorem dX7_putBack_1 : decode cX7_putBack 1 = .ok (.iconst 3, 1) := by decide +kernel
theorem dX7_putBack_2 : decode cX7_putBack 2 = .ok (.iconst 3, 1) := by decide +kernel
theorem dX7_putBack_3 : decode cX7_putBack 3 = .ok (.iload_n 1, 1) := by decide +kernel
theorem dX7_putBack_4 : decode cX7_putBack 4 = .ok (.iconst (-1), 1) := by decide +kernel
theorem dX7_putBack_5 : decode cX7_putBack 5 = .ok (.iconst (-1), 1) := by decide +kernel
theorem dX7_putBack_6 : decode cX7_putBack 6 = .ok (.invokevirtual 95, 3) := by decide +kernel
theorem dX7_putBack_9 : decode cX7_putBack 9 = .ok (.aload_n 0, 1) := by decide +kernel
theorem dX7_putBack_10 : decode cX7_putBack 10 = .ok (.iconst 3, 1) := by decide +kernel
theorem dX7_putBack_11 : decode cX7_putBack 11 = .ok (.iconst 2, 1) := by decide +kernel
theorem dX7_putBack_12 : decode cX7_putBack 12 = .ok (.iload_n 1, 1) := by decide +kernel
theorem dX7_putBack_13 : decode cX7_putBack 13 = .ok (.iconst (-1), 1) := by decide +kernel
theorem dX7_putBack_14 : decode cX7_putBack 14 = .ok (.iconst (-1), 1) := by decide +kernel
theorem dX7_putBack_15 : decode cX7_putBack 15 = .ok (.invokevirtual 95, 3) := by decide +kernel
theorem dX7_putBack_18 : decode cX7_putBack 18 = .ok (.aload_n 0, 1) := by decide +kernel
theorem dX7_putBack_19 : decode cX7_putBack 19 = .ok (.iconst 3, 1) := by decide +kernel
theorem dX7_putBack_20 : decode cX7_putBack 20 = .ok (.iconst 5, 1) := by decide +kernel
theorem dX7_putBack_21 : decode cX7_putBack 21 = .ok (.iload_n 1, 1) := by decide +kernel
theorem dX7_putBack_22 : decode cX7_putBack 22 = .ok (.iconst (-1), 1) := by decide +kernel
theorem dX7_putBack_23 : decode cX7_putBack 23 = .ok (.iconst (-1), 1) := by decide +kernel
theorem dX7_putBack_24 : decode cX7_putBack 24 = .ok (.invokevirtual 95, 3) := by decide +kernel
theorem dX7_putBack_27 : decode cX7_putBack 27 = .ok (.return_, 1) := by decide +kernel
theorem dX7_expandOne_0 : decode cX7_expandOne 0 = .ok (.aload_n 0, 1) := by decide +kernel
theorem dX7_expandOne_1 : decode cX7_expandOne 1 = .ok (.iconst 3, 1) := by decide +kernel
theorem dX7_expandOne_2 : decode cX7_expandOne 2 = .ok (.iconst 1, 1) := by decide +kernel
theorem dX7_expandOne_3 : decode cX7_expandOne 3 = .ok (.iload_n 3, 1) := by decide +kernel
theorem dX7_expandOne_4 : decode cX7_expandOne 4 = .ok (.iconst (-1), 1) := by decide +kernel
theorem dX7_expandOne_5 : decode cX7_expandOne 5 = .ok (.iconst (-1), 1) := by decide +kernel
theorem dX7_expandOne_6 : decode cX7_expandOne 6 = .ok (.invokevirtual 95, 3) := by decide +kernel
theorem dX7_expandOne_9 : decode cX7_expandOne 9 = .ok (.aload_n 0, 1) := by decide +kernel
theorem dX7_expandOne_10 : decode cX7_expandOne 10 = .ok (.iconst 3, 1) := by decide +kernel
theorem dX7_expandOne_11 : decode cX7_expandOne 11 = .ok (.bipush 6, 2) := by decide +kernel
theorem dX7_expandOne_13 : decode cX7_expandOne 13 = .ok (.iload_n 2, 1) := by decide +kernel
theorem dX7_expandOne_14 : decode cX7_expandOne 14 = .ok (.iload_n 3, 1) := by decide +kernel
theorem dX7_expandOne_15 : decode cX7_expandOne 15 = .ok (.iconst (-1), 1) := by decide +kernel
theorem dX7_expandOne_16 : decode cX7_expandOne 16 = .ok (.invokevirtual 95, 3) := by decide +kernel
theorem dX7_expandOne_19 : decode cX7_expandOne 19 = .ok (.aload_n 0, 1) := by decide +kernel
theorem dX7_expandOne_20 : decode cX7_expandOne 20 = .ok (.iload_n 3, 1) := by decide +kernel
theorem dX7_expandOne_21 : decode cX7_expandOne 21 = .ok (.invokevirtual 106, 3) := by decide +kernel
theorem dX7_expandOne_24 : decode cX7_expandOne 24 = .ok (.aload_n 0, 1) := by decide +kernel
theorem dX7_expandOne_25 : decode cX7_expandOne 25 = .ok (.iconst 3, 1) := by decide +kernel
theorem dX7_expandOne_26 : decode cX7_expandOne 26 = .ok (.bipush 6, 2) := by decide +kernel
theorem dX7_expandOne_28 : decode cX7_expandOne 28 = .ok (.iload_n 1, 1) := by decide +kernel
theorem dX7_expandOne_29 : decode cX7_expandOne 29 = .ok (.iload_n 3, 1) := by decide +kernel
theorem dX7_expandOne_30 : decode cX7_expandOne 30 = .ok (.iconst (-1), 1) := by decide +kernel
theorem dX7_expandOne_31 : decode cX7_expandOne 31 = .ok (.invokevirtual 95, 3) := by decide +kernel
theorem dX7_expandOne_34 : decode cX7_expandOne 34 = .ok (.aload_n 0, 1) := by decide +kernel
theorem dX7_expandOne_35 : decode cX7_expandOne 35 = .ok (.iconst 3, 1) := by decide +kernel
theorem dX7_expandOne_36 : decode cX7_expandOne 36 = .ok (.iconst 3, 1) := by decide +kernel
theorem dX7_expandOne_37 : decode cX7_expandOne 37 = .ok (.iload_n 3, 1) := by decide +kernel
theorem dX7_expandOne_38 : decode cX7_expandOne 38 = .ok (.iconst (-1), 1) := by decide +kernel
theorem dX7_expandOne_39 : decode cX7_expandOne 39 = .ok (.iconst (-1), 1) := by decide +kernel
theorem dX7_expandOne_40 : decode cX7_expandOne 40 = .ok (.invokevirtual 95, 3) := by decide +kernel
theorem dX7_expandOne_43 : decode cX7_expandOne 43 = .ok (.aload_n 0, 1) := by decide +kernel
theorem dX7_expandOne_44 : decode cX7_expandOne 44 = .ok (.iconst 3, 1) := by decide +kernel
theorem dX7_expandOne_45 : decode cX7_expandOne 45 = .ok (.bipush 6, 2) := by decide +kernel
theorem dX7_expandOne_47 : decode cX7_expandOne 47 = .ok (.iload_n 2, 1) := by decide +kernel
theorem dX7_expandOne_48 : decode cX7_expandOne 48 = .ok (.iload_n 3, 1) := by decide +kernel
theorem dX7_expandOne_49 : decode cX7_expandOne 49 = .ok (.iconst (-1), 1) := by decide +kernel
theorem dX7_expandOne_50 : decode cX7_expandOne 50 = .ok (.invokevirtual 95, 3) := by decide +kernel
theorem dX7_expandOne_53 : decode cX7_expandOne 53 = .ok (.aload_n 0, 1) := by decide +kernel
theorem dX7_expandOne_54 : decode cX7_expandOne 54 = .ok (.iload_n 3, 1) := by decide +kernel
theorem dX7_expandOne_55 : decode cX7_expandOne 55 = .ok (.invokevirtual 106, 3) := by decide +kernel
theorem dX7_expandOne_58 : decode cX7_expandOne 58 = .ok (.aload_n 0, 1) := by decide +kernel
theorem dX7_expandOne_59 : decode cX7_expandOne 59 = .ok (.iconst 3, 1) := by decide +kernel
theorem dX7_expandOne_60 : decode cX7_expandOne 60 = .ok (.bipush 6, 2) := by decide +kernel
theorem dX7_expandOne_62 : decode cX7_expandOne 62 = .ok (.iload_n 1, 1) := by decide +kernel
theorem dX7_expandOne_63 : decode cX7_expandOne 63 = .ok (.iload_n 3, 1) := by decide +kernel
theorem dX7_expandOne_64 : decode cX7_expandOne 64 = .ok (.iconst (-1), 1) := by decide +kernel
theorem dX7_expandOne_65 : decode cX7_expandOne 65 = .ok (.invokevirtual 95, 3) := by decide +kernel
theorem dX7_expandOne_68 : decode cX7_expandOne 68 = .ok (.aload_n 0, 1) := by decide +kernel
theorem dX7_expandOne_69 : decode cX7_expandOne 69 = .ok (.iconst 3, 1) := by decide +kernel
theorem dX7_expandOne_70 : decode cX7_expandOne 70 = .ok (.iconst 3, 1) := by decide +kernel
theorem dX7_expandOne_71 : decode cX7_expandOne 71 = .ok (.iload_n 2, 1) := by decide +kernel
theorem dX7_expandOne_72 : decode cX7_expandOne 72 = .ok (.iconst (-1), 1) := by decide +kernel
theorem dX7_expandOne_73 : decode cX7_expandOne 73 = .ok (.iconst (-1), 1) := by decide +kernel
theorem dX7_expandOne_74 : decode cX7_expandOne 74 = .ok (.invokevirtual 95, 3) := by decide +kernel
theorem dX7_expandOne_77 : decode cX7_expandOne 77 = .ok (.aload_n 0, 1) := by decide +kernel
theorem dX7_expandOne_78 : decode cX7_expandOne 78 = .ok (.iconst 3, 1) := by decide +kernel
theorem dX7_expandOne_79 : decode cX7_expandOne 79 = .ok (.iconst 3, 1) := by decide +kernel
theorem dX7_expandOne_80 : decode cX7_expandOne 80 = .ok (.iload_n 3, 1) := by decide +kernel
theorem dX7_expandOne_81 : decode cX7_expandOne 81 = .ok (.iconst (-1), 1) := by decide +kernel
theorem dX7_expandOne_82 : decode cX7_expandOne 82 = .ok (.iconst (-1), 1) := by decide +kernel
theorem dX7_expandOne_83 : decode cX7_expandOne 83 = .ok (.invokevirtual 95, 3) := by decide +kernel
theorem dX7_expandOne_86 : decode cX7_expandOne 86 = .ok (.aload_n 0, 1) := by decide +kernel
theorem dX7_expandOne_87 : decode cX7_expandOne 87 = .ok (.iconst 3, 1) := by decide +kernel
theorem dX7_expandOne_88 : decode cX7_expandOne 88 = .ok (.iconst 1, 1) := by decide +kernel
theorem dX7_expandOne_89 : decode cX7_expandOne 89 = .ok (.iload_n 3, 1) := by decide +kernel
theorem dX7_expandOne_90 : decode cX7_expandOne 90 = .ok (.iconst (-1), 1) := by decide +kernel
theorem dX7_expandOne_91 : decode cX7_expandOne 91 = .ok (.iconst (-1), 1) := by decide +kernel
theorem dX7_expandOne_92 : decode cX7_expandOne 92 = .ok (.invokevirtual 95, 3) := by decide +kernel
theorem dX7_expandOne_95 : decode cX7_expandOne 95 = .ok (.aload_n 0, 1) := by decide +kernel
theorem dX7_expandOne_96 : decode cX7_expandOne 96 = .ok (.iconst 3, 1) := by decide +kernel
theorem dX7_expandOne_97 : decode cX7_expandOne 97 = .ok (.bipush 6, 2) := by decide +kernel
theorem dX7_expandOne_99 : decode cX7_expandOne 99 = .ok (.iload_n 1, 1) := by decide +kernel
theorem dX7_expandOne_100 : decode cX7_expandOne 100 = .ok (.iload_n 2, 1) := by decide +kernel
theorem dX7_expandOne_101 : decode cX7_expandOne 101 = .ok (.iconst (-1), 1) := by decide +kernel
theorem dX7_expandOne_102 : decode cX7_expandOne 102 = .ok (.invokevirtual 95, 3) := by decide +kernel
theorem dX7_expandOne_105 : decode cX7_expandOne 105 = .ok (.aload_n 0, 1) := by decide +kernel
theorem dX7_expandOne_106 : decode cX7_expandOne 106 = .ok (.iconst 3, 1) := by decide +kernel
theorem dX7_expandOne_107 : decode cX7_expandOne 107 = .ok (.iconst 3, 1) := by decide +kernel
theorem dX7_expandOne_108 : decode cX7_expandOne 108 = .ok (.iload_n 1, 1) := by decide +kernel
theorem dX7_expandOne_109 : decode cX7_expandOne 109 = .ok (.iconst (-1), 1) := by decide +kernel
theorem dX7_expandOne_110 : decode cX7_expandOne 110 = .ok (.iconst (-1), 1) := by decide +kernel
theorem dX7_expandOne_111 : decode cX7_expandOne 111 = .ok (.invokevirtual 95, 3) := by decide +kernel
theorem dX7_expandOne_114 : decode cX7_expandOne 114 = .ok (.aload_n 0, 1) := by decide +kernel
theorem dX7_expandOne_115 : decode cX7_expandOne 115 = .ok (.iload_n 2, 1) := by decide +kernel
theorem dX7_expandOne_116 : decode cX7_expandOne 116 = .ok (.invokevirtual 106, 3) := by decide +kernel
theorem dX7_expandOne_119 : decode cX7_expandOne 119 = .ok (.aload_n 0, 1) := by decide +kernel
theorem dX7_expandOne_120 : decode cX7_expandOne 120 = .ok (.iconst 3, 1) := by decide +kernel
theorem dX7_expandOne_121 : decode cX7_expandOne 121 = .ok (.bipush 6, 2) := by decide +kernel
theorem dX7_expandOne_123 : decode cX7_expandOne 123 = .ok (.iload_n 1, 1) := by decide +kernel
theorem dX7_expandOne_124 : decode cX7_expandOne 124 = .ok (.iload_n 2, 1) := by decide +kernel
theorem dX7_expandOne_125 : decode cX7_expandOne 125 = .ok (.iconst (-1), 1) := by decide +kernel
theorem dX7_expandOne_126 : decode cX7_expandOne 126 = .ok (.invokevirtual 95, 3) := by decide +kernel
theorem dX7_expandOne_129 : decode cX7_expandOne 129 = .ok (.return_, 1) := by decide +kernel
theorem dX7_expand_0 : decode cX7_expand 0 = .ok (.aload_n 0, 1) := by decide +kernel
theorem dX7_expand_1 : decode cX7_expand 1 = .ok (.iload_n 1, 1) := by decide +kernel
theorem dX7_expand_2 : decode cX7_expand 2 = .ok (.invokestatic 88, 3) := by decide +kernel
theorem dX7_expand_5 : decode cX7_expand 5 = .ok (.ifCond .eq 7, 3) := by decide +kernel
theorem dX7_expand_8 : decode cX7_expand 8 = .ok (.iconst 0, 1) := by decide +kernel
theorem dX7_expand_9 : decode cX7_expand 9 = .ok (.goto 4, 3) := by decide +kernel
theorem dX7_expand_12 : decode cX7_expand 12 = .ok (.iconst 1, 1) := by decide +kernel
theorem dX7_expand_13 : decode cX7_expand 13 = .ok (.putfield 60, 3) := by decide +kernel
theorem dX7_expand_16 : decode cX7_expand 16 = .ok (.aload_n 0, 1) := by decide +kernel
theorem dX7_expand_17 : decode cX7_expand 17 = .ok (.getfield 60, 3) := by decide +kernel
theorem dX7_expand_20 : decode cX7_expand 20 = .ok (.ifCond .le 5, 3) := by decide +kernel
theorem dX7_expand_23 : decode cX7_expand 23 = .ok (.iconst 0, 1) := by decide +kernel
theorem dX7_expand_24 : decode cX7_expand 24 = .ok (.ireturn, 1) := by decide +kernel
theorem dX7_expand_25 : decode cX7_expand 25 = .ok (.iconst 0, 1) := by decide +kernel
theorem dX7_expand_26 : decode cX7_expand 26 = .ok (.istore_n 2, 1) := by decide +kernel
theorem dX7_expand_27 : decode cX7_expand 27 = .ok (.iconst 0, 1) := by decide +kernel
theorem dX7_expand_28 : decode cX7_expand 28 = .ok (.istore_n 3, 1) := by decide +kernel
theorem dX7_expand_29 : decode cX7_expand 29 = .ok (.iload_n 3, 1) := by decide +kernel
theorem dX7_expand_30 : decode cX7_expand 30 = .ok (.aload_n 0, 1) := by decide +kernel
theorem dX7_expand_31 : decode cX7_expand 31 = .ok (.getfield 13, 3) := by decide +kernel
theorem dX7_expand_34 : decode cX7_expand 34 = .ok (.iload_n 1, 1) := by decide +kernel
theorem dX7_expand_35 : decode cX7_expand 35 = .ok (.iaload, 1) := by decide +kernel
theorem dX7_expand_36 : decode cX7_expand 36 = .ok (.if_icmp .ge 34, 3) := by decide +kernel
theorem dX7_expand_39 : decode cX7_expand 39 = .ok (.iload_n 2, 1) := by decide +kernel
theorem dX7_expand_40 : decode cX7_expand 40 = .ok (.aload_n 0, 1) := by decide +kernel
theorem dX7_expand_41 : decode cX7_expand 41 = .ok (.getfield 17, 3) := by decide +kernel
theorem dX7_expand_44 : decode cX7_expand 44 = .ok (.bipush 64, 2) := by decide +kernel
theorem dX7_expand_46 : decode cX7_expand 46 = .ok (.iload_n 1, 1) := by decide +kernel
theorem dX7_expand_47 : decode cX7_expand 47 = .ok (.imul, 1) := by decide +kernel
theorem dX7_expand_48 : decode cX7_expand 48 = .ok (.iload_n 3, 1) := by decide +kernel
theorem dX7_expand_49 : decode cX7_expand 49 = .ok (.iadd, 1) := by decide +kernel
theorem dX7_expand_50 : decode cX7_expand 50 = .ok (.iaload, 1) := by decide +kernel
theorem dX7_expand_51 : decode cX7_expand 51 = .ok (.bipush 9, 2) := by decide +kernel
theorem dX7_expand_53 : decode cX7_expand 53 = .ok (.if_icmp .ne 8, 3) := by decide +kernel
theorem dX7_expand_56 : decode cX7_expand 56 = .ok (.bipush 21, 2) := by decide +kernel
theorem dX7_expand_58 : decode cX7_expand 58 = .ok (.goto 4, 3) := by decide +kernel
theorem dX7_expand_61 : decode cX7_expand 61 = .ok (.iconst 1, 1) := by decide +kernel
theorem dX7_expand_62 : decode cX7_expand 62 = .ok (.iadd, 1) := by decide +kernel
theorem dX7_expand_63 : decode cX7_expand 63 = .ok (.istore_n 2, 1) := by decide +kernel
theorem dX7_expand_64 : decode cX7_expand 64 = .ok (.iinc 3 1, 3) := by decide +kernel
theorem dX7_expand_67 : decode cX7_expand 67 = .ok (.goto (-38), 3) := by decide +kernel
theorem dX7_expand_70 : decode cX7_expand 70 = .ok (.iload_n 2, 1) := by decide +kernel
theorem dX7_expand_71 : decode cX7_expand 71 = .ok (.bipush 64, 2) := by decide +kernel
theorem dX7_expand_73 : decode cX7_expand 73 = .ok (.if_icmp .le 10, 3) := by decide +kernel
theorem dX7_expand_76 : decode cX7_expand 76 = .ok (.aload_n 0, 1) := by decide +kernel
theorem dX7_expand_77 : decode cX7_expand 77 = .ok (.iconst 2, 1) := by decide +kernel
theorem dX7_expand_78 : decode cX7_expand 78 = .ok (.putfield 60, 3) := by decide +kernel
theorem dX7_expand_81 : decode cX7_expand 81 = .ok (.iconst 0, 1) := by decide +kernel
theorem dX7_expand_82 : decode cX7_expand 82 = .ok (.ireturn, 1) := by decide +kernel
theorem dX7_expand_83 : decode cX7_expand 83 = .ok (.aload_n 0, 1) := by decide +kernel
theorem dX7_expand_84 : decode cX7_expand 84 = .ok (.getfield 13, 3) := by decide +kernel
theorem dX7_expand_87 : decode cX7_expand 87 = .ok (.iconst 3, 1) := by decide +kernel
theorem dX7_expand_88 : decode cX7_expand 88 = .ok (.iconst 0, 1) := by decide +kernel
theorem dX7_expand_89 : decode cX7_expand 89 = .ok (.iastore, 1) := by decide +kernel
theorem dX7_expand_90 : decode cX7_expand 90 = .ok (.iconst 0, 1) := by decide +kernel
theorem dX7_expand_91 : decode cX7_expand 91 = .ok (.istore_n 3, 1) := by decide +kernel
theorem dX7_expand_92 : decode cX7_expand 92 = .ok (.iload_n 3, 1) := by decide +kernel
theorem dX7_expand_93 : decode cX7_expand 93 = .ok (.aload_n 0, 1) := by decide +kernel
theorem dX7_expand_94 : decode cX7_expand 94 = .ok (.getfield 13, 3) := by decide +kernel
theorem dX7_expand_97 : decode cX7_expand 97 = .ok (.iload_n 1, 1) := by decide +kernel
theorem dX7_expand_98 : decode cX7_expand 98 = .ok (.iaload, 1) := by decide +kernel
theorem dX7_expand_99 : decode cX7_expand 99 = .ok (.if_icmp .ge 64, 3) := by decide +kernel
theorem dX7_expand_102 : decode cX7_expand 102 = .ok (.bipush 64, 2) := by decide +kernel
theorem dX7_expand_104 : decode cX7_expand 104 = .ok (.iload_n 1, 1) := by decide +kernel
theorem dX7_expand_105 : decode cX7_expand 105 = .ok (.imul, 1) := by decide +kernel
theorem dX7_expand_106 : decode cX7_expand 106 = .ok (.iload_n 3, 1) := by decide +kernel
theorem dX7_expand_107 : decode cX7_expand 107 = .ok (.iadd, 1) := by decide +kernel
theorem dX7_expand_108 : decode cX7_expand 108 = .ok (.istore 4, 2) := by decide +kernel
theorem dX7_expand_110 : decode cX7_expand 110 = .ok (.aload_n 0, 1) := by decide +kernel
theorem dX7_expand_111 : decode cX7_expand 111 = .ok (.getfield 17, 3) := by decide +kernel
theorem dX7_expand_114 : decode cX7_expand 114 = .ok (.iload 4, 2) := by decide +kernel
theorem dX7_expand_116 : decode cX7_expand 116 = .ok (.iaload, 1) := by decide +kernel
theorem dX7_expand_117 : decode cX7_expand 117 = .ok (.bipush 9, 2) := by decide +kernel
theorem dX7_expand_119 : decode cX7_expand 119 = .ok (.if_icmp .ne 31, 3) := by decide +kernel
theorem dX7_expand_122 : decode cX7_expand 122 = .ok (.aload_n 0, 1) := by decide +kernel
theorem dX7_expand_123 : decode cX7_expand 123 = .ok (.aload_n 0, 1) := by decide +kernel
theorem dX7_expand_124 : decode cX7_expand 124 = .ok (.getfield 20, 3) := by decide +kernel
theorem dX7_expand_127 : decode cX7_expand 127 = .ok (.iload 4, 2) := by decide +kernel
theorem dX7_expand_129 : decode cX7_expand 129 = .ok (.iaload, 1) := by decide +kernel
theorem dX7_expand_130 : decode cX7_expand 130 = .ok (.aload_n 0, 1) := by decide +kernel
theorem dX7_expand_131 : decode cX7_expand 131 = .ok (.getfield 23, 3) := by decide +kernel
theorem dX7_expand_134 : decode cX7_expand 134 = .ok (.iload 4, 2) := by decide +kernel
theorem dX7_expand_136 : decode cX7_expand 136 = .ok (.iaload, 1) := by decide +kernel
theorem dX7_expand_137 : decode cX7_expand 137 = .ok (.aload_n 0, 1) := by decide +kernel
theorem dX7_expand_138 : decode cX7_expand 138 = .ok (.getfield 26, 3) := by decide +kernel
theorem dX7_expand_141 : decode cX7_expand 141 = .ok (.iload 4, 2) := by decide +kernel
theorem dX7_expand_143 : decode cX7_expand 143 = .ok (.iaload, 1) := by decide +kernel
theorem dX7_expand_144 : decode cX7_expand 144 = .ok (.invokevirtual 110, 3) := by decide +kernel
theorem dX7_expand_147 : decode cX7_expand 147 = .ok (.goto 10, 3) := by decide +kernel
theorem dX7_expand_150 : decode cX7_expand 150 = .ok (.aload_n 0, 1) := by decide +kernel
theorem dX7_expand_151 : decode cX7_expand 151 = .ok (.iload 4, 2) := by decide +kernel
theorem dX7_expand_153 : decode cX7_expand 153 = .ok (.iconst 3, 1) := by decide +kernel
theorem dX7_expand_154 : decode cX7_expand 154 = .ok (.invokevirtual 99, 3) := by decide +kernel
theorem dX7_expand_157 : decode cX7_expand 157 = .ok (.iinc 3 1, 3) := by decide +kernel
theorem dX7_expand_160 : decode cX7_expand 160 = .ok (.goto (-68), 3) := by decide +kernel
theorem dX7_expand_163 : decode cX7_expand 163 = .ok (.aload_n 0, 1) := by decide +kernel
theorem dX7_expand_164 : decode cX7_expand 164 = .ok (.iconst 3, 1) := by decide +kernel
theorem dX7_expand_165 : decode cX7_expand 165 = .ok (.iload_n 1, 1) := by decide +kernel
theorem dX7_expand_166 : decode cX7_expand 166 = .ok (.invokevirtual 103, 3) := by decide +kernel
theorem dX7_expand_169 : decode cX7_expand 169 = .ok (.aload_n 0, 1) := by decide +kernel
theorem dX7_expand_170 : decode cX7_expand 170 = .ok (.getfield 13, 3) := by decide +kernel
theorem dX7_expand_173 : decode cX7_expand 173 = .ok (.iload_n 1, 1) := by decide +kernel
theorem dX7_expand_174 : decode cX7_expand 174 = .ok (.iaload, 1) := by decide +kernel
theorem dX7_expand_175 : decode cX7_expand 175 = .ok (.ireturn, 1) := by decide +kernel
theorem dX7_samePair_0 : decode cX7_samePair 0 = .ok (.aload_n 0, 1) := by decide +kernel
theorem dX7_samePair_1 : decode cX7_samePair 1 = .ok (.getfield 20, 3) := by decide +kernel
theorem dX7_samePair_4 : decode cX7_samePair 4 = .ok (.iload_n 1, 1) := by decide +kernel
theorem dX7_samePair_5 : decode cX7_samePair 5 = .ok (.iaload, 1) := by decide +kernel
theorem dX7_samePair_6 : decode cX7_samePair 6 = .ok (.aload_n 0, 1) := by decide +kernel
theorem dX7_samePair_7 : decode cX7_samePair 7 = .ok (.getfield 20, 3) := by decide +kernel
theorem dX7_samePair_10 : decode cX7_samePair 10 = .ok (.iload_n 2, 1) := by decide +kernel
theorem dX7_samePair_11 : decode cX7_samePair 11 = .ok (.iaload, 1) := by decide +kernel
theorem dX7_samePair_12 : decode cX7_samePair 12 = .ok (.if_icmp .ne 18, 3) := by decide +kernel
theorem dX7_samePair_15 : decode cX7_samePair 15 = .ok (.aload_n 0, 1) := by decide +kernel
theorem dX7_samePair_16 : decode cX7_samePair 16 = .ok (.getfield 23, 3) := by decide +kernel
theorem dX7_samePair_19 : decode cX7_samePair 19 = .ok (.iload_n 1, 1) := by decide +kernel
theorem dX7_samePair_20 : decode cX7_samePair 20 = .ok (.iaload, 1) := by decide +kernel
theorem dX7_samePair_21 : decode cX7_samePair 21 = .ok (.aload_n 0, 1) := by decide +kernel
theorem dX7_samePair_22 : decode cX7_samePair 22 = .ok (.getfield 23, 3) := by decide +kernel
theorem dX7_samePair_25 : decode cX7_samePair 25 = .ok (.iload_n 2, 1) := by decide +kernel
theorem dX7_samePair_26 : decode cX7_samePair 26 = .ok (.iaload, 1) := by decide +kernel
theorem dX7_samePair_27 : decode cX7_samePair 27 = .ok (.if_icmp .eq 33, 3) := by decide +kernel
theorem dX7_samePair_30 : decode cX7_samePair 30 = .ok (.aload_n 0, 1) := by decide +kernel
theorem dX7_samePair_31 : decode cX7_samePair 31 = .ok (.getfield 20, 3) := by decide +kernel
theorem dX7_samePair_34 : decode cX7_samePair 34 = .ok (.iload_n 1, 1) := by decide +kernel
theorem dX7_samePair_35 : decode cX7_samePair 35 = .ok (.iaload, 1) := by decide +kernel
theorem dX7_samePair_36 : decode cX7_samePair 36 = .ok (.aload_n 0, 1) := by decide +kernel
theorem dX7_samePair_37 : decode cX7_samePair 37 = .ok (.getfield 23, 3) := by decide +kernel
theorem dX7_samePair_40 : decode cX7_samePair 40 = .ok (.iload_n 2, 1) := by decide +kernel
theorem dX7_samePair_41 : decode cX7_samePair 41 = .ok (.iaload, 1) := by decide +kernel
theorem dX7_samePair_42 : decode cX7_samePair 42 = .ok (.if_icmp .ne 22, 3) := by decide +kernel
theorem dX7_samePair_45 : decode cX7_samePair 45 = .ok (.aload_n 0, 1) := by decide +kernel
theorem dX7_samePair_46 : decode cX7_samePair 46 = .ok (.getfield 23, 3) := by decide +kernel
theorem dX7_samePair_49 : decode cX7_samePair 49 = .ok (.iload_n 1, 1) := by decide +kernel
theorem dX7_samePair_50 : decode cX7_samePair 50 = .ok (.iaload, 1) := by decide +kernel
theorem dX7_samePair_51 : decode cX7_samePair 51 = .ok (.aload_n 0, 1) := by decide +kernel
theorem dX7_samePair_52 : decode cX7_samePair 52 = .ok (.getfield 20, 3) := by decide +kernel
theorem dX7_samePair_55 : decode cX7_samePair 55 = .ok (.iload_n 2, 1) := by decide +kernel
theorem dX7_samePair_56 : decode cX7_samePair 56 = .ok (.iaload, 1) := by decide +kernel
theorem dX7_samePair_57 : decode cX7_samePair 57 = .ok (.if_icmp .ne 7, 3) := by decide +kernel
theorem dX7_samePair_60 : decode cX7_samePair 60 = .ok (.iconst 1, 1) := by decide +kernel
theorem dX7_samePair_61 : decode cX7_samePair 61 = .ok (.goto 4, 3) := by decide +kernel
theorem dX7_samePair_64 : decode cX7_samePair 64 = .ok (.iconst 0, 1) := by decide +kernel
theorem dX7_samePair_65 : decode cX7_samePair 65 = .ok (.ireturn, 1) := by decide +kernel
theorem dX7_cancels_0 : decode cX7_cancels 0 = .ok (.aload_n 0, 1) := by decide +kernel
theorem dX7_cancels_1 : decode cX7_cancels 1 = .ok (.getfield 17, 3) := by decide +kernel
theorem dX7_cancels_4 : decode cX7_cancels 4 = .ok (.iload_n 1, 1) := by decide +kernel
theorem dX7_cancels_5 : decode cX7_cancels 5 = .ok (.iaload, 1) := by decide +kernel
theorem dX7_cancels_6 : decode cX7_cancels 6 = .ok (.aload_n 0, 1) := by decide +kernel
theorem dX7_cancels_7 : decode cX7_cancels 7 = .ok (.getfield 17, 3) := by decide +kernel
theorem dX7_cancels_10 : decode cX7_cancels 10 = .ok (.iload_n 2, 1) := by decide +kernel
theorem dX7_cancels_11 : decode cX7_cancels 11 = .ok (.iaload, 1) := by decide +kernel
theorem dX7_cancels_12 : decode cX7_cancels 12 = .ok (.if_icmp .eq 5, 3) := by decide +kernel
theorem dX7_cancels_15 : decode cX7_cancels 15 = .ok (.iconst 0, 1) := by decide +kernel
theorem dX7_cancels_16 : decode cX7_cancels 16 = .ok (.ireturn, 1) := by decide +kernel
theorem dX7_cancels_17 : decode cX7_cancels 17 = .ok (.aload_n 0, 1) := by decide +kernel
theorem dX7_cancels_18 : decode cX7_cancels 18 = .ok (.getfield 17, 3) := by decide +kernel
theorem dX7_cancels_21 : decode cX7_cancels 21 = .ok (.iload_n 1, 1) := by decide +kernel
theorem dX7_cancels_22 : decode cX7_cancels 22 = .ok (.iaload, 1) := by decide +kernel
theorem dX7_cancels_23 : decode cX7_cancels 23 = .ok (.tableswitch 143 1 9 #[49, 143, 143, 49, 143, 70, 106, 106, 113], 49) := by decide +kernel
theorem dX7_cancels_72 : decode cX7_cancels 72 = .ok (.aload_n 0, 1) := by decide +kernel
theorem dX7_cancels_73 : decode cX7_cancels 73 = .ok (.getfield 20, 3) := by decide +kernel
theorem dX7_cancels_76 : decode cX7_cancels 76 = .ok (.iload_n 1, 1) := by decide +kernel
theorem dX7_cancels_77 : decode cX7_cancels 77 = .ok (.iaload, 1) := by decide +kernel
theorem dX7_cancels_78 : decode cX7_cancels 78 = .ok (.aload_n 0, 1) := by decide +kernel
theorem dX7_cancels_79 : decode cX7_cancels 79 = .ok (.getfield 20, 3) := by decide +kernel
theorem dX7_cancels_82 : decode cX7_cancels 82 = .ok (.iload_n 2, 1) := by decide +kernel
theorem dX7_cancels_83 : decode cX7_cancels 83 = .ok (.iaload, 1) := by decide +kernel
theorem dX7_cancels_84 : decode cX7_cancels 84 = .ok (.if_icmp .ne 7, 3) := by decide +kernel
theorem dX7_cancels_87 : decode cX7_cancels 87 = .ok (.iconst 1, 1) := by decide +kernel
theorem dX7_cancels_88 : decode cX7_cancels 88 = .ok (.goto 4, 3) := by decide +kernel
theorem dX7_cancels_91 : decode cX7_cancels 91 = .ok (.iconst 0, 1) := by decide +kernel
theorem dX7_cancels_92 : decode cX7_cancels 92 = .ok (.ireturn, 1) := by decide +kernel
theorem dX7_cancels_93 : decode cX7_cancels 93 = .ok (.aload_n 0, 1) := by decide +kernel
theorem dX7_cancels_94 : decode cX7_cancels 94 = .ok (.getfield 20, 3) := by decide +kernel
theorem dX7_cancels_97 : decode cX7_cancels 97 = .ok (.iload_n 1, 1) := by decide +kernel
theorem dX7_cancels_98 : decode cX7_cancels 98 = .ok (.iaload, 1) := by decide +kernel
theorem dX7_cancels_99 : decode cX7_cancels 99 = .ok (.aload_n 0, 1) := by decide +kernel
theorem dX7_cancels_100 : decode cX7_cancels 100 = .ok (.getfield 20, 3) := by decide +kernel
theorem dX7_cancels_103 : decode cX7_cancels 103 = .ok (.iload_n 2, 1) := by decide +kernel
theorem dX7_cancels_104 : decode cX7_cancels 104 = .ok (.iaload, 1) := by decide +kernel
theorem dX7_cancels_105 : decode cX7_cancels 105 = .ok (.if_icmp .ne 22, 3) := by decide +kernel
theorem dX7_cancels_108 : decode cX7_cancels 108 = .ok (.aload_n 0, 1) := by decide +kernel
theorem dX7_cancels_109 : decode cX7_cancels 109 = .ok (.getfield 23, 3) := by decide +kernel
theorem dX7_cancels_112 : decode cX7_cancels 112 = .ok (.iload_n 1, 1) := by decide +kernel
theorem dX7_cancels_113 : decode cX7_cancels 113 = .ok (.iaload, 1) := by decide +kernel
theorem dX7_cancels_114 : decode cX7_cancels 114 = .ok (.aload_n 0, 1) := by decide +kernel
theorem dX7_cancels_115 : decode cX7_cancels 115 = .ok (.getfield 23, 3) := by decide +kernel
theorem dX7_cancels_118 : decode cX7_cancels 118 = .ok (.iload_n 2, 1) := by decide +kernel
theorem dX7_cancels_119 : decode cX7_cancels 119 = .ok (.iaload, 1) := by decide +kernel
theorem dX7_cancels_120 : decode cX7_cancels 120 = .ok (.if_icmp .ne 7, 3) := by decide +kernel
theorem dX7_cancels_123 : decode cX7_cancels 123 = .ok (.iconst 1, 1) := by decide +kernel
theorem dX7_cancels_124 : decode cX7_cancels 124 = .ok (.goto 4, 3) := by decide +kernel
theorem dX7_cancels_127 : decode cX7_cancels 127 = .ok (.iconst 0, 1) := by decide +kernel
theorem dX7_cancels_128 : decode cX7_cancels 128 = .ok (.ireturn, 1) := by decide +kernel
theorem dX7_cancels_129 : decode cX7_cancels 129 = .ok (.aload_n 0, 1) := by decide +kernel
theorem dX7_cancels_130 : decode cX7_cancels 130 = .ok (.iload_n 1, 1) := by decide +kernel
theorem dX7_cancels_131 : decode cX7_cancels 131 = .ok (.iload_n 2, 1) := by decide +kernel
theorem dX7_cancels_132 : decode cX7_cancels 132 = .ok (.invokevirtual 114, 3) := by decide +kernel
theorem dX7_cancels_135 : decode cX7_cancels 135 = .ok (.ireturn, 1) := by decide +kernel
theorem dX7_cancels_136 : decode cX7_cancels 136 = .ok (.aload_n 0, 1) := by decide +kernel
theorem dX7_cancels_137 : decode cX7_cancels 137 = .ok (.getfield 26, 3) := by decide +kernel
theorem dX7_cancels_140 : decode cX7_cancels 140 = .ok (.iload_n 1, 1) := by decide +kernel
theorem dX7_cancels_141 : decode cX7_cancels 141 = .ok (.iaload, 1) := by decide +kernel
theorem dX7_cancels_142 : decode cX7_cancels 142 = .ok (.aload_n 0, 1) := by decide +kernel
theorem dX7_cancels_143 : decode cX7_cancels 143 = .ok (.getfield 26, 3) := by decide +kernel
theorem dX7_cancels_146 : decode cX7_cancels 146 = .ok (.iload_n 2, 1) := by decide +kernel
theorem dX7_cancels_147 : decode cX7_cancels 147 = .ok (.iaload, 1) := by decide +kernel
theorem dX7_cancels_148 : decode cX7_cancels 148 = .ok (.if_icmp .ne 16, 3) := by decide +kernel
theorem dX7_cancels_151 : decode cX7_cancels 151 = .ok (.aload_n 0, 1) := by decide +kernel
theorem dX7_cancels_152 : decode cX7_cancels 152 = .ok (.iload_n 1, 1) := by decide +kernel
theorem dX7_cancels_153 : decode cX7_cancels 153 = .ok (.iload_n 2, 1) := by decide +kernel
theorem dX7_cancels_154 : decode cX7_cancels 154 = .ok (.invokevirtual 114, 3) := by decide +kernel
theorem dX7_cancels_157 : decode cX7_cancels 157 = .ok (.ifCond .eq 7, 3) := by decide +kernel
theorem dX7_cancels_160 : decode cX7_cancels 160 = .ok (.iconst 1, 1) := by decide +kernel
theorem dX7_cancels_161 : decode cX7_cancels 161 = .ok (.goto 4, 3) := by decide +kernel
theorem dX7_cancels_164 : decode cX7_cancels 164 = .ok (.iconst 0, 1) := by decide +kernel
theorem dX7_cancels_165 : decode cX7_cancels 165 = .ok (.ireturn, 1) := by decide +kernel
theorem dX7_cancels_166 : decode cX7_cancels 166 = .ok (.iconst 0, 1) := by decide +kernel
theorem dX7_cancels_167 : decode cX7_cancels 167 = .ok (.ireturn, 1) := by decide +kernel
theorem dX7_together_0 : decode cX7_together 0 = .ok (.aload_n 0, 1) := by decide +kernel
theorem dX7_together_1 : decode cX7_together 1 = .ok (.aload_n 0, 1) := by decide +kernel
theorem dX7_together_2 : decode cX7_together 2 = .ok (.getfield 17, 3) := by decide +kernel
theorem dX7_together_5 : decode cX7_together 5 = .ok (.iload_n 1, 1) := by decide +kernel
theorem dX7_together_6 : decode cX7_together 6 = .ok (.iaload, 1) := by decide +kernel
theorem dX7_together_7 : decode cX7_together 7 = .ok (.invokevirtual 118, 3) := by decide +kernel
theorem dX7_together_10 : decode cX7_together 10 = .ok (.istore_n 3, 1) := by decide +kernel
theorem dX7_together_11 : decode cX7_together 11 = .ok (.aload_n 0, 1) := by decide +kernel
theorem dX7_together_12 : decode cX7_together 12 = .ok (.aload_n 0, 1) := by decide +kernel
theorem dX7_together_13 : decode cX7_together 13 = .ok (.getfield 17, 3) := by decide +kernel
theorem dX7_together_16 : decode cX7_together 16 = .ok (.iload_n 2, 1) := by decide +kernel
theorem dX7_together_17 : decode cX7_together 17 = .ok (.iaload, 1) := by decide +kernel
theorem dX7_together_18 : decode cX7_together 18 = .ok (.invokevirtual 118, 3) := by decide +kernel
theorem dX7_together_21 : decode cX7_together 21 = .ok (.istore 4, 2) := by decide +kernel
theorem dX7_together_23 : decode cX7_together 23 = .ok (.iload_n 3, 1) := by decide +kernel
theorem dX7_together_24 : decode cX7_together 24 = .ok (.ifCond .le 30, 3) := by decide +kernel
theorem dX7_together_27 : decode cX7_together 27 = .ok (.iload 4, 2) := by decide +kernel
theorem dX7_together_29 : decode cX7_together 29 = .ok (.ifCond .le 25, 3) := by decide +kernel
theorem dX7_together_32 : decode cX7_together 32 = .ok (.aload_n 0, 1) := by decide +kernel
theorem dX7_together_33 : decode cX7_together 33 = .ok (.getfield 20, 3) := by decide +kernel
theorem dX7_together_36 : decode cX7_together 36 = .ok (.iload_n 1, 1) := by decide +kernel
theorem dX7_together_37 : decode cX7_together 37 = .ok (.iaload, 1) := by decide +kernel
theorem dX7_together_38 : decode cX7_together 38 = .ok (.aload_n 0, 1) := by decide +kernel
theorem dX7_together_39 : decode cX7_together 39 = .ok (.getfield 20, 3) := by decide +kernel
theorem dX7_together_42 : decode cX7_together 42 = .ok (.iload_n 2, 1) := by decide +kernel
theorem dX7_together_43 : decode cX7_together 43 = .ok (.iaload, 1) := by decide +kernel
theorem dX7_together_44 : decode cX7_together 44 = .ok (.if_icmp .ne 10, 3) := by decide +kernel
theorem dX7_together_47 : decode cX7_together 47 = .ok (.iload_n 3, 1) := by decide +kernel
theorem dX7_together_48 : decode cX7_together 48 = .ok (.iload 4, 2) := by decide +kernel
theorem dX7_together_50 : decode cX7_together 50 = .ok (.iadd, 1) := by decide +kernel
theorem dX7_together_51 : decode cX7_together 51 = .ok (.goto 4, 3) := by decide +kernel
theorem dX7_together_54 : decode cX7_together 54 = .ok (.iconst 0, 1) := by decide +kernel
theorem dX7_together_55 : decode cX7_together 55 = .ok (.istore 5, 2) := by decide +kernel
theorem dX7_together_57 : decode cX7_together 57 = .ok (.iload 5, 2) := by decide +kernel
theorem dX7_together_59 : decode cX7_together 59 = .ok (.iconst 2, 1) := by decide +kernel
theorem dX7_together_60 : decode cX7_together 60 = .ok (.if_icmp .eq 16, 3) := by decide +kernel
theorem dX7_together_63 : decode cX7_together 63 = .ok (.iload 5, 2) := by decide +kernel
theorem dX7_together_65 : decode cX7_together 65 = .ok (.iconst 4, 1) := by decide +kernel
theorem dX7_together_66 : decode cX7_together 66 = .ok (.if_icmp .eq 10, 3) := by decide +kernel
theorem dX7_together_69 : decode cX7_together 69 = .ok (.iload 5, 2) := by decide +kernel
theorem dX7_together_71 : decode cX7_together 71 = .ok (.bipush 8, 2) := by decide +kernel
theorem dX7_together_73 : decode cX7_together 73 = .ok (.if_icmp .ne 8, 3) := by decide +kernel
theorem dX7_together_76 : decode cX7_together 76 = .ok (.iload 5, 2) := by decide +kernel
theorem dX7_together_78 : decode cX7_together 78 = .ok (.goto 4, 3) := by decide +kernel
theorem dX7_together_81 : decode cX7_together 81 = .ok (.iconst 0, 1) := by decide +kernel
theorem dX7_together_82 : decode cX7_together 82 = .ok (.ireturn, 1) := by decide +kernel
theorem dX7_has_0 : decode cX7_has 0 = .ok (.aload_n 0, 1) := by decide +kernel
theorem dX7_has_1 : decode cX7_has 1 = .ok (.getfield 20, 3) := by decide +kernel
theorem dX7_has_4 : decode cX7_has 4 = .ok (.iload_n 1, 1) := by decide +kernel
theorem dX7_has_5 : decode cX7_has 5 = .ok (.iaload, 1) := by decide +kernel
theorem dX7_has_6 : decode cX7_has 6 = .ok (.iload_n 2, 1) := by decide +kernel
theorem dX7_has_7 : decode cX7_has 7 = .ok (.if_icmp .eq 23, 3) := by decide +kernel
theorem dX7_has_10 : decode cX7_has 10 = .ok (.aload_n 0, 1) := by decide +kernel
theorem dX7_has_11 : decode cX7_has 11 = .ok (.getfield 23, 3) := by decide +kernel
theorem dX7_has_14 : decode cX7_has 14 = .ok (.iload_n 1, 1) := by decide +kernel
theorem dX7_has_15 : decode cX7_has 15 = .ok (.iaload, 1) := by decide +kernel
theorem dX7_has_16 : decode cX7_has 16 = .ok (.iload_n 2, 1) := by decide +kernel
theorem dX7_has_17 : decode cX7_has 17 = .ok (.if_icmp .eq 13, 3) := by decide +kernel
theorem dX7_has_20 : decode cX7_has 20 = .ok (.aload_n 0, 1) := by decide +kernel
theorem dX7_has_21 : decode cX7_has 21 = .ok (.getfield 26, 3) := by decide +kernel
theorem dX7_has_24 : decode cX7_has 24 = .ok (.iload_n 1, 1) := by decide +kernel
theorem dX7_has_25 : decode cX7_has 25 = .ok (.iaload, 1) := by decide +kernel
theorem dX7_has_26 : decode cX7_has 26 = .ok (.iload_n 2, 1) := by decide +kernel
theorem dX7_has_27 : decode cX7_has 27 = .ok (.if_icmp .ne 7, 3) := by decide +kernel
theorem dX7_has_30 : decode cX7_has 30 = .ok (.iconst 1, 1) := by decide +kernel
theorem dX7_has_31 : decode cX7_has 31 = .ok (.goto 4, 3) := by decide +kernel
theorem dX7_has_34 : decode cX7_has 34 = .ok (.iconst 0, 1) := by decide +kernel
theorem dX7_has_35 : decode cX7_has 35 = .ok (.ireturn, 1) := by decide +kernel
theorem dX7_shares_0 : decode cX7_shares 0 = .ok (.aload_n 0, 1) := by decide +kernel
theorem dX7_shares_1 : decode cX7_shares 1 = .ok (.iload_n 2, 1) := by decide +kernel
theorem dX7_shares_2 : decode cX7_shares 2 = .ok (.aload_n 0, 1) := by decide +kernel
theorem dX7_shares_3 : decode cX7_shares 3 = .ok (.getfield 20, 3) := by decide +kernel
theorem dX7_shares_6 : decode cX7_shares 6 = .ok (.iload_n 1, 1) := by decide +kernel
theorem dX7_shares_7 : decode cX7_shares 7 = .ok (.iaload, 1) := by decide +kernel
theorem dX7_shares_8 : decode cX7_shares 8 = .ok (.invokevirtual 121, 3) := by decide +kernel
theorem dX7_shares_11 : decode cX7_shares 11 = .ok (.ifCond .ne 49, 3) := by decide +kernel
theorem dX7_shares_14 : decode cX7_shares 14 = .ok (.aload_n 0, 1) := by decide +kernel
theorem dX7_shares_15 : decode cX7_shares 15 = .ok (.getfield 23, 3) := by decide +kernel
theorem dX7_shares_18 : decode cX7_shares 18 = .ok (.iload_n 1, 1) := by decide +kernel
theorem dX7_shares_19 : decode cX7_shares 19 = .ok (.iaload, 1) := by decide +kernel
theorem dX7_shares_20 : decode cX7_shares 20 = .ok (.ifCond .lt 17, 3) := by decide +kernel
theorem dX7_shares_23 : decode cX7_shares 23 = .ok (.aload_n 0, 1) := by decide +kernel
theorem dX7_shares_24 : decode cX7_shares 24 = .ok (.iload_n 2, 1) := by decide +kernel
theorem dX7_shares_25 : decode cX7_shares 25 = .ok (.aload_n 0, 1) := by decide +kernel
theorem dX7_shares_26 : decode cX7_shares 26 = .ok (.getfield 23, 3) := by decide +kernel
theorem dX7_shares_29 : decode cX7_shares 29 = .ok (.iload_n 1, 1) := by decide +kernel
theorem dX7_shares_30 : decode cX7_shares 30 = .ok (.iaload, 1) := by decide +kernel
theorem dX7_shares_31 : decode cX7_shares 31 = .ok (.invokevirtual 121, 3) := by decide +kernel
theorem dX7_shares_34 : decode cX7_shares 34 = .ok (.ifCond .ne 26, 3) := by decide +kernel
theorem dX7_shares_37 : decode cX7_shares 37 = .ok (.aload_n 0, 1) := by decide +kernel
theorem dX7_shares_38 : decode cX7_shares 38 = .ok (.getfield 26, 3) := by decide +kernel
theorem dX7_shares_41 : decode cX7_shares 41 = .ok (.iload_n 1, 1) := by decide +kernel
theorem dX7_shares_42 : decode cX7_shares 42 = .ok (.iaload, 1) := by decide +kernel
theorem dX7_shares_43 : decode cX7_shares 43 = .ok (.ifCond .lt 21, 3) := by decide +kernel
theorem dX7_shares_46 : decode cX7_shares 46 = .ok (.aload_n 0, 1) := by decide +kernel
theorem dX7_shares_47 : decode cX7_shares 47 = .ok (.iload_n 2, 1) := by decide +kernel
theorem dX7_shares_48 : decode cX7_shares 48 = .ok (.aload_n 0, 1) := by decide +kernel
theorem dX7_shares_49 : decode cX7_shares 49 = .ok (.getfield 26, 3) := by decide +kernel
theorem dX7_shares_52 : decode cX7_shares 52 = .ok (.iload_n 1, 1) := by decide +kernel
theorem dX7_shares_53 : decode cX7_shares 53 = .ok (.iaload, 1) := by decide +kernel
theorem dX7_shares_54 : decode cX7_shares 54 = .ok (.invokevirtual 121, 3) := by decide +kernel
theorem dX7_shares_57 : decode cX7_shares 57 = .ok (.ifCond .eq 7, 3) := by decide +kernel
theorem dX7_shares_60 : decode cX7_shares 60 = .ok (.iconst 1, 1) := by decide +kernel
theorem dX7_shares_61 : decode cX7_shares 61 = .ok (.goto 4, 3) := by decide +kernel
theorem dX7_shares_64 : decode cX7_shares 64 = .ok (.iconst 0, 1) := by decide +kernel
theorem dX7_shares_65 : decode cX7_shares 65 = .ok (.ireturn, 1) := by decide +kernel
theorem dX7_isStraight_0 : decode cX7_isStraight 0 = .ok (.aload_n 0, 1) := by decide +kernel
theorem dX7_isStraight_1 : decode cX7_isStraight 1 = .ok (.aload_n 0, 1) := by decide +kernel
theorem dX7_isStraight_2 : decode cX7_isStraight 2 = .ok (.getfield 17, 3) := by decide +kernel
theorem dX7_isStraight_5 : decode cX7_isStraight 5 = .ok (.iload_n 1, 1) := by decide +kernel
theorem dX7_isStraight_6 : decode cX7_isStraight 6 = .ok (.iaload, 1) := by decide +kernel
theorem dX7_isStraight_7 : decode cX7_isStraight 7 = .ok (.invokevirtual 118, 3) := by decide +kernel
theorem dX7_isStraight_10 : decode cX7_isStraight 10 = .ok (.ifCond .gt 14, 3) := by decide +kernel
theorem dX7_isStraight_13 : decode cX7_isStraight 13 = .ok (.aload_n 0, 1) := by decide +kernel
theorem dX7_isStraight_14 : decode cX7_isStraight 14 = .ok (.getfield 17, 3) := by decide +kernel
theorem dX7_isStraight_17 : decode cX7_isStraight 17 = .ok (.iload_n 1, 1) := by decide +kernel
theorem dX7_isStraight_18 : decode cX7_isStraight 18 = .ok (.iaload, 1) := by decide +kernel
theorem dX7_isStraight_19 : decode cX7_isStraight 19 = .ok (.bipush 7, 2) := by decide +kernel
theorem dX7_isStraight_21 : decode cX7_isStraight 21 = .ok (.if_icmp .ne 7, 3) := by decide +kernel
theorem dX7_isStraight_24 : decode cX7_isStraight 24 = .ok (.iconst 1, 1) := by decide +kernel
theorem dX7_isStraight_25 : decode cX7_isStraight 25 = .ok (.goto 4, 3) := by decide +kernel
theorem dX7_isStraight_28 : decode cX7_isStraight 28 = .ok (.iconst 0, 1) := by decide +kernel
theorem dX7_isStraight_29 : decode cX7_isStraight 29 = .ok (.ireturn, 1) := by decide +kernel
theorem dX7_goesBy_0 : decode cX7_goesBy 0 = .ok (.aload_n 0, 1) := by decide +kernel
theorem dX7_goesBy_1 : decode cX7_goesBy 1 = .ok (.getfield 17, 3) := by decide +kernel
theorem dX7_goesBy_4 : decode cX7_goesBy 4 = .ok (.iload_n 2, 1) := by decide +kernel
theorem dX7_goesBy_5 : decode cX7_goesBy 5 = .ok (.iaload, 1) := by decide +kernel
theorem dX7_goesBy_6 : decode cX7_goesBy 6 = .ok (.bipush 6, 2) := by decide +kernel
theorem dX7_goesBy_8 : decode cX7_goesBy 8 = .ok (.if_icmp .ne 7, 3) := by decide +kernel
theorem dX7_goesBy_11 : decode cX7_goesBy 11 = .ok (.iconst 1, 1) := by decide +kernel
theorem dX7_goesBy_12 : decode cX7_goesBy 12 = .ok (.goto 4, 3) := by decide +kernel
theorem dX7_goesBy_15 : decode cX7_goesBy 15 = .ok (.iconst 0, 1) := by decide +kernel
theorem dX7_goesBy_16 : decode cX7_goesBy 16 = .ok (.istore_n 3, 1) := by decide +kernel
theorem dX7_goesBy_17 : decode cX7_goesBy 17 = .ok (.aload_n 0, 1) := by decide +kernel
theorem dX7_goesBy_18 : decode cX7_goesBy 18 = .ok (.getfield 17, 3) := by decide +kernel
theorem dX7_goesBy_21 : decode cX7_goesBy 21 = .ok (.iload_n 2, 1) := by decide +kernel
theorem dX7_goesBy_22 : decode cX7_goesBy 22 = .ok (.iaload, 1) := by decide +kernel
theorem dX7_goesBy_23 : decode cX7_goesBy 23 = .ok (.bipush 9, 2) := by decide +kernel
theorem dX7_goesBy_25 : decode cX7_goesBy 25 = .ok (.if_icmp .ne 7, 3) := by decide +kernel
theorem dX7_goesBy_28 : decode cX7_goesBy 28 = .ok (.iconst 1, 1) := by decide +kernel
theorem dX7_goesBy_29 : decode cX7_goesBy 29 = .ok (.goto 4, 3) := by decide +kernel
theorem dX7_goesBy_32 : decode cX7_goesBy 32 = .ok (.iconst 0, 1) := by decide +kernel
theorem dX7_goesBy_33 : decode cX7_goesBy 33 = .ok (.istore 4, 2) := by decide +kernel
theorem dX7_goesBy_35 : decode cX7_goesBy 35 = .ok (.aload_n 0, 1) := by decide +kernel
theorem dX7_goesBy_36 : decode cX7_goesBy 36 = .ok (.getfield 20, 3) := by decide +kernel
theorem dX7_goesBy_39 : decode cX7_goesBy 39 = .ok (.iload_n 1, 1) := by decide +kernel
theorem dX7_goesBy_40 : decode cX7_goesBy 40 = .ok (.iaload, 1) := by decide +kernel
theorem dX7_goesBy_41 : decode cX7_goesBy 41 = .ok (.aload_n 0, 1) := by decide +kernel
theorem dX7_goesBy_42 : decode cX7_goesBy 42 = .ok (.getfield 20, 3) := by decide +kernel
theorem dX7_goesBy_45 : decode cX7_goesBy 45 = .ok (.iload_n 2, 1) := by decide +kernel
theorem dX7_goesBy_46 : decode cX7_goesBy 46 = .ok (.iaload, 1) := by decide +kernel
theorem dX7_goesBy_47 : decode cX7_goesBy 47 = .ok (.if_icmp .eq 23, 3) := by decide +kernel
theorem dX7_goesBy_50 : decode cX7_goesBy 50 = .ok (.iload 4, 2) := by decide +kernel
theorem dX7_goesBy_52 : decode cX7_goesBy 52 = .ok (.ifCond .eq 22, 3) := by decide +kernel
theorem dX7_goesBy_55 : decode cX7_goesBy 55 = .ok (.aload_n 0, 1) := by decide +kernel
theorem dX7_goesBy_56 : decode cX7_goesBy 56 = .ok (.getfield 20, 3) := by decide +kernel
theorem dX7_goesBy_59 : decode cX7_goesBy 59 = .ok (.iload_n 1, 1) := by decide +kernel
theorem dX7_goesBy_60 : decode cX7_goesBy 60 = .ok (.iaload, 1) := by decide +kernel
theorem dX7_goesBy_61 : decode cX7_goesBy 61 = .ok (.aload_n 0, 1) := by decide +kernel
theorem dX7_goesBy_62 : decode cX7_goesBy 62 = .ok (.getfield 23, 3) := by decide +kernel
theorem dX7_goesBy_65 : decode cX7_goesBy 65 = .ok (.iload_n 2, 1) := by decide +kernel
theorem dX7_goesBy_66 : decode cX7_goesBy 66 = .ok (.iaload, 1) := by decide +kernel
theorem dX7_goesBy_67 : decode cX7_goesBy 67 = .ok (.if_icmp .ne 7, 3) := by decide +kernel
theorem dX7_goesBy_70 : decode cX7_goesBy 70 = .ok (.iconst 1, 1) := by decide +kernel
theorem dX7_goesBy_71 : decode cX7_goesBy 71 = .ok (.goto 4, 3) := by decide +kernel
theorem dX7_goesBy_74 : decode cX7_goesBy 74 = .ok (.iconst 0, 1) := by decide +kernel
theorem dX7_goesBy_75 : decode cX7_goesBy 75 = .ok (.istore 5, 2) := by decide +kernel
theorem dX7_goesBy_77 : decode cX7_goesBy 77 = .ok (.iload_n 3, 1) := by decide +kernel
theorem dX7_goesBy_78 : decode cX7_goesBy 78 = .ok (.ifCond .eq 12, 3) := by decide +kernel
theorem dX7_goesBy_81 : decode cX7_goesBy 81 = .ok (.aload_n 0, 1) := by decide +kernel
theorem dX7_goesBy_82 : decode cX7_goesBy 82 = .ok (.getfield 23, 3) := by decide +kernel
theorem dX7_goesBy_85 : decode cX7_goesBy 85 = .ok (.iload_n 2, 1) := by decide +kernel
theorem dX7_goesBy_86 : decode cX7_goesBy 86 = .ok (.iaload, 1) := by decide +kernel
theorem dX7_goesBy_87 : decode cX7_goesBy 87 = .ok (.goto 9, 3) := by decide +kernel
theorem dX7_goesBy_90 : decode cX7_goesBy 90 = .ok (.aload_n 0, 1) := by decide +kernel
theorem dX7_goesBy_91 : decode cX7_goesBy 91 = .ok (.getfield 26, 3) := by decide +kernel
theorem dX7_goesBy_94 : decode cX7_goesBy 94 = .ok (.iload_n 2, 1) := by decide +kernel
theorem dX7_goesBy_95 : decode cX7_goesBy 95 = .ok (.iaload, 1) := by decide +kernel
theorem dX7_goesBy_96 : decode cX7_goesBy 96 = .ok (.istore 6, 2) := by decide +kernel
theorem dX7_goesBy_98 : decode cX7_goesBy 98 = .ok (.iload_n 3, 1) := by decide +kernel
theorem dX7_goesBy_99 : decode cX7_goesBy 99 = .ok (.ifCond .ne 8, 3) := by decide +kernel
theorem dX7_goesBy_102 : decode cX7_goesBy 102 = .ok (.iload 4, 2) := by decide +kernel
theorem dX7_goesBy_104 : decode cX7_goesBy 104 = .ok (.ifCond .eq 46, 3) := by decide +kernel
theorem dX7_goesBy_107 : decode cX7_goesBy 107 = .ok (.aload_n 0, 1) := by decide +kernel
theorem dX7_goesBy_108 : decode cX7_goesBy 108 = .ok (.aload_n 0, 1) := by decide +kernel
theorem dX7_goesBy_109 : decode cX7_goesBy 109 = .ok (.getfield 17, 3) := by decide +kernel
theorem dX7_goesBy_112 : decode cX7_goesBy 112 = .ok (.iload_n 1, 1) := by decide +kernel
theorem dX7_goesBy_113 : decode cX7_goesBy 113 = .ok (.iaload, 1) := by decide +kernel
theorem dX7_goesBy_114 : decode cX7_goesBy 114 = .ok (.invokevirtual 118, 3) := by decide +kernel
theorem dX7_goesBy_117 : decode cX7_goesBy 117 = .ok (.ifCond .le 8, 3) := by decide +kernel
theorem dX7_goesBy_120 : decode cX7_goesBy 120 = .ok (.iload 5, 2) := by decide +kernel
theorem dX7_goesBy_122 : decode cX7_goesBy 122 = .ok (.ifCond .ne 24, 3) := by decide +kernel
theorem dX7_goesBy_125 : decode cX7_goesBy 125 = .ok (.aload_n 0, 1) := by decide +kernel
theorem dX7_goesBy_126 : decode cX7_goesBy 126 = .ok (.getfield 17, 3) := by decide +kernel
theorem dX7_goesBy_129 : decode cX7_goesBy 129 = .ok (.iload_n 1, 1) := by decide +kernel
theorem dX7_goesBy_130 : decode cX7_goesBy 130 = .ok (.iaload, 1) := by decide +kernel
theorem dX7_goesBy_131 : decode cX7_goesBy 131 = .ok (.iconst 4, 1) := by decide +kernel
theorem dX7_goesBy_132 : decode cX7_goesBy 132 = .ok (.if_icmp .ne 18, 3) := by decide +kernel
theorem dX7_goesBy_135 : decode cX7_goesBy 135 = .ok (.aload_n 0, 1) := by decide +kernel
theorem dX7_goesBy_136 : decode cX7_goesBy 136 = .ok (.getfield 20, 3) := by decide +kernel
theorem dX7_goesBy_139 : decode cX7_goesBy 139 = .ok (.iload_n 1, 1) := by decide +kernel
theorem dX7_goesBy_140 : decode cX7_goesBy 140 = .ok (.iaload, 1) := by decide +kernel
theorem dX7_goesBy_141 : decode cX7_goesBy 141 = .ok (.iload 6, 2) := by decide +kernel
theorem dX7_goesBy_143 : decode cX7_goesBy 143 = .ok (.if_icmp .ne 7, 3) := by decide +kernel
theorem dX7_goesBy_146 : decode cX7_goesBy 146 = .ok (.iconst 1, 1) := by decide +kernel
theorem dX7_goesBy_147 : decode cX7_goesBy 147 = .ok (.goto 4, 3) := by decide +kernel
theorem dX7_goesBy_150 : decode cX7_goesBy 150 = .ok (.iconst 0, 1) := by decide +kernel
theorem dX7_goesBy_151 : decode cX7_goesBy 151 = .ok (.ireturn, 1) := by decide +kernel
theorem dX7_passes_0 : decode cX7_passes 0 = .ok (.aload_n 0, 1) := by decide +kernel
theorem dX7_passes_1 : decode cX7_passes 1 = .ok (.iload_n 1, 1) := by decide +kernel
theorem dX7_passes_2 : decode cX7_passes 2 = .ok (.iload_n 2, 1) := by decide +kernel
theorem dX7_passes_3 : decode cX7_passes 3 = .ok (.invokevirtual 124, 3) := by decide +kernel
theorem dX7_passes_6 : decode cX7_passes 6 = .ok (.ifCond .eq 37, 3) := by decide +kernel
theorem dX7_passes_9 : decode cX7_passes 9 = .ok (.aload_n 0, 1) := by decide +kernel
theorem dX7_passes_10 : decode cX7_passes 10 = .ok (.iload_n 1, 1) := by decide +kernel
theorem dX7_passes_11 : decode cX7_passes 11 = .ok (.invokevirtual 127, 3) := by decide +kernel
theorem dX7_passes_14 : decode cX7_passes 14 = .ok (.ifCond .eq 11, 3) := by decide +kernel
theorem dX7_passes_17 : decode cX7_passes 17 = .ok (.aload_n 0, 1) := by decide +kernel
theorem dX7_passes_18 : decode cX7_passes 18 = .ok (.iload_n 2, 1) := by decide +kernel
theorem dX7_passes_19 : decode cX7_passes 19 = .ok (.invokevirtual 127, 3) := by decide +kernel
theorem dX7_passes_22 : decode cX7_passes 22 = .ok (.ifCond .ne 21, 3) := by decide +kernel
theorem dX7_passes_25 : decode cX7_passes 25 = .ok (.aload_n 0, 1) := by decide +kernel
theorem dX7_passes_26 : decode cX7_passes 26 = .ok (.iload_n 1, 1) := by decide +kernel
theorem dX7_passes_27 : decode cX7_passes 27 = .ok (.iload_n 2, 1) := by decide +kernel
theorem dX7_passes_28 : decode cX7_passes 28 = .ok (.invokevirtual 130, 3) := by decide +kernel
theorem dX7_passes_31 : decode cX7_passes 31 = .ok (.ifCond .ne 12, 3) := by decide +kernel
theorem dX7_passes_34 : decode cX7_passes 34 = .ok (.aload_n 0, 1) := by decide +kernel
theorem dX7_passes_35 : decode cX7_passes 35 = .ok (.iload_n 2, 1) := by decide +kernel
theorem dX7_passes_36 : decode cX7_passes 36 = .ok (.iload_n 1, 1) := by decide +kernel
theorem dX7_passes_37 : decode cX7_passes 37 = .ok (.invokevirtual 130, 3) := by decide +kernel
theorem dX7_passes_40 : decode cX7_passes 40 = .ok (.ifCond .eq 7, 3) := by decide +kernel
theorem dX7_passes_43 : decode cX7_passes 43 = .ok (.iconst 1, 1) := by decide +kernel
theorem dX7_passes_44 : decode cX7_passes 44 = .ok (.goto 4, 3) := by decide +kernel
theorem dX7_passes_47 : decode cX7_passes 47 = .ok (.iconst 0, 1) := by decide +kernel
theorem dX7_passes_48 : decode cX7_passes 48 = .ok (.ireturn, 1) := by decide +kernel
theorem dX7_remove_0 : decode cX7_remove 0 = .ok (.iload_n 2, 1) := by decide +kernel
theorem dX7_remove_1 : decode cX7_remove 1 = .ok (.istore_n 3, 1) := by decide +kernel
theorem dX7_remove_2 : decode cX7_remove 2 = .ok (.iload_n 3, 1) := by decide +kernel
theorem dX7_remove_3 : decode cX7_remove 3 = .ok (.iconst 1, 1) := by decide +kernel
theorem dX7_remove_4 : decode cX7_remove 4 = .ok (.iadd, 1) := by decide +kernel
theorem dX7_remove_5 : decode cX7_remove 5 = .ok (.aload_n 0, 1) := by decide +kernel
theorem dX7_remove_6 : decode cX7_remove 6 = .ok (.getfield 13, 3) := by decide +kernel
theorem dX7_remove_9 : decode cX7_remove 9 = .ok (.iload_n 1, 1) := by decide +kernel
theorem dX7_remove_10 : decode cX7_remove 10 = .ok (.iaload, 1) := by decide +kernel
theorem dX7_remove_11 : decode cX7_remove 11 = .ok (.if_icmp .ge 81, 3) := by decide +kernel
theorem dX7_remove_14 : decode cX7_remove 14 = .ok (.bipush 64, 2) := by decide +kernel
theorem dX7_remove_16 : decode cX7_remove 16 = .ok (.iload_n 1, 1) := by decide +kernel
theorem dX7_remove_17 : decode cX7_remove 17 = .ok (.imul, 1) := by decide +kernel
theorem dX7_remove_18 : decode cX7_remove 18 = .ok (.iload_n 3, 1) := by decide +kernel
theorem dX7_remove_19 : decode cX7_remove 19 = .ok (.iadd, 1) := by decide +kernel
theorem dX7_remove_20 : decode cX7_remove 20 = .ok (.istore 4, 2) := by decide +kernel
theorem dX7_remove_22 : decode cX7_remove 22 = .ok (.aload_n 0, 1) := by decide +kernel
theorem dX7_remove_23 : decode cX7_remove 23 = .ok (.getfield 17, 3) := by decide +kernel
theorem dX7_remove_26 : decode cX7_remove 26 = .ok (.iload 4, 2) := by decide +kernel
theorem dX7_remove_28 : decode cX7_remove 28 = .ok (.aload_n 0, 1) := by decide +kernel
theorem dX7_remove_29 : decode cX7_remove 29 = .ok (.getfield 17, 3) := by decide +kernel
theorem dX7_remove_32 : decode cX7_remove 32 = .ok (.iload 4, 2) := by decide +kernel
theorem dX7_remove_34 : decode cX7_remove 34 = .ok (.iconst 1, 1) := by decide +kernel
theorem dX7_remove_35 : decode cX7_remove 35 = .ok (.iadd, 1) := by decide +kernel
theorem dX7_remove_36 : decode cX7_remove 36 = .ok (.iaload, 1) := by decide +kernel
theorem dX7_remove_37 : decode cX7_remove 37 = .ok (.iastore, 1) := by decide +kernel
theorem dX7_remove_38 : decode cX7_remove 38 = .ok (.aload_n 0, 1) := by decide +kernel
theorem dX7_remove_39 : decode cX7_remove 39 = .ok (.getfield 20, 3) := by decide +kernel
theorem dX7_remove_42 : decode cX7_remove 42 = .ok (.iload 4, 2) := by decide +kernel
theorem dX7_remove_44 : decode cX7_remove 44 = .ok (.aload_n 0, 1) := by decide +kernel
theorem dX7_remove_45 : decode cX7_remove 45 = .ok (.getfield 20, 3) := by decide +kernel
theorem dX7_remove_48 : decode cX7_remove 48 = .ok (.iload 4, 2) := by decide +kernel
theorem dX7_remove_50 : decode cX7_remove 50 = .ok (.iconst 1, 1) := by decide +kernel
theorem dX7_remove_51 : decode cX7_remove 51 = .ok (.iadd, 1) := by decide +kernel
theorem dX7_remove_52 : decode cX7_remove 52 = .ok (.iaload, 1) := by decide +kernel
theorem dX7_remove_53 : decode cX7_remove 53 = .ok (.iastore, 1) := by decide +kernel
theorem dX7_remove_54 : decode cX7_remove 54 = .ok (.aload_n 0, 1) := by decide +kernel
theorem dX7_remove_55 : decode cX7_remove 55 = .ok (.getfield 23, 3) := by decide +kernel
theorem dX7_remove_58 : decode cX7_remove 58 = .ok (.iload 4, 2) := by decide +kernel
theorem dX7_remove_60 : decode cX7_remove 60 = .ok (.aload_n 0, 1) := by decide +kernel
theorem dX7_remove_61 : decode cX7_remove 61 = .ok (.getfield 23, 3) := by decide +kernel
theorem dX7_remove_64 : decode cX7_remove 64 = .ok (.iload 4, 2) := by decide +kernel
theorem dX7_remove_66 : decode cX7_remove 66 = .ok (.iconst 1, 1) := by decide +kernel
theorem dX7_remove_67 : decode cX7_remove 67 = .ok (.iadd, 1) := by decide +kernel
theorem dX7_remove_68 : decode cX7_remove 68 = .ok (.iaload, 1) := by decide +kernel
theorem dX7_remove_69 : decode cX7_remove 69 = .ok (.iastore, 1) := by decide +kernel
theorem dX7_remove_70 : decode cX7_remove 70 = .ok (.aload_n 0, 1) := by decide +kernel
theorem dX7_remove_71 : decode cX7_remove 71 = .ok (.getfield 26, 3) := by decide +kernel
theorem dX7_remove_74 : decode cX7_remove 74 = .ok (.iload 4, 2) := by decide +kernel
theorem dX7_remove_76 : decode cX7_remove 76 = .ok (.aload_n 0, 1) := by decide +kernel
theorem dX7_remove_77 : decode cX7_remove 77 = .ok (.getfield 26, 3) := by decide +kernel
theorem dX7_remove_80 : decode cX7_remove 80 = .ok (.iload 4, 2) := by decide +kernel
theorem dX7_remove_82 : decode cX7_remove 82 = .ok (.iconst 1, 1) := by decide +kernel
theorem dX7_remove_83 : decode cX7_remove 83 = .ok (.iadd, 1) := by decide +kernel
theorem dX7_remove_84 : decode cX7_remove 84 = .ok (.iaload, 1) := by decide +kernel
theorem dX7_remove_85 : decode cX7_remove 85 = .ok (.iastore, 1) := by decide +kernel
theorem dX7_remove_86 : decode cX7_remove 86 = .ok (.iinc 3 1, 3) := by decide +kernel
theorem dX7_remove_89 : decode cX7_remove 89 = .ok (.goto (-87), 3) := by decide +kernel
theorem dX7_remove_92 : decode cX7_remove 92 = .ok (.aload_n 0, 1) := by decide +kernel
theorem dX7_remove_93 : decode cX7_remove 93 = .ok (.getfield 13, 3) := by decide +kernel
theorem dX7_remove_96 : decode cX7_remove 96 = .ok (.iload_n 1, 1) := by decide +kernel
theorem dX7_remove_97 : decode cX7_remove 97 = .ok (.dup2, 1) := by decide +kernel
theorem dX7_remove_98 : decode cX7_remove 98 = .ok (.iaload, 1) := by decide +kernel
theorem dX7_remove_99 : decode cX7_remove 99 = .ok (.iconst 1, 1) := by decide +kernel
theorem dX7_remove_100 : decode cX7_remove 100 = .ok (.isub, 1) := by decide +kernel
theorem dX7_remove_101 : decode cX7_remove 101 = .ok (.iastore, 1) := by decide +kernel
theorem dX7_remove_102 : decode cX7_remove 102 = .ok (.return_, 1) := by decide +kernel
theorem dX7_meetOnce_0 : decode cX7_meetOnce 0 = .ok (.iconst 0, 1) := by decide +kernel
theorem dX7_meetOnce_1 : decode cX7_meetOnce 1 = .ok (.istore_n 2, 1) := by decide +kernel
theorem dX7_meetOnce_2 : decode cX7_meetOnce 2 = .ok (.iload_n 2, 1) := by decide +kernel
theorem dX7_meetOnce_3 : decode cX7_meetOnce 3 = .ok (.aload_n 0, 1) := by decide +kernel
theorem dX7_meetOnce_4 : decode cX7_meetOnce 4 = .ok (.getfield 13, 3) := by decide +kernel
theorem dX7_meetOnce_7 : decode cX7_meetOnce 7 = .ok (.iload_n 1, 1) := by decide +kernel
theorem dX7_meetOnce_8 : decode cX7_meetOnce 8 = .ok (.iaload, 1) := by decide +kernel
theorem dX7_meetOnce_9 : decode cX7_meetOnce 9 = .ok (.if_icmp .ge 135, 3) := by decide +kernel
theorem dX7_meetOnce_12 : decode cX7_meetOnce 12 = .ok (.bipush 64, 2) := by decide +kernel
theorem dX7_meetOnce_14 : decode cX7_meetOnce 14 = .ok (.iload_n 1, 1) := by decide +kernel
theorem dX7_meetOnce_15 : decode cX7_meetOnce 15 = .ok (.imul, 1) := by decide +kernel
theorem dX7_meetOnce_16 : decode cX7_meetOnce 16 = .ok (.iload_n 2, 1) := by decide +kernel
theorem dX7_meetOnce_17 : decode cX7_meetOnce 17 = .ok (.iadd, 1) := by decide +kernel
theorem dX7_meetOnce_18 : decode cX7_meetOnce 18 = .ok (.istore_n 3, 1) := by decide +kernel
theorem dX7_meetOnce_19 : decode cX7_meetOnce 19 = .ok (.iconst 1, 1) := by decide +kernel
theorem dX7_meetOnce_20 : decode cX7_meetOnce 20 = .ok (.istore 4, 2) := by decide +kernel
theorem dX7_meetOnce_22 : decode cX7_meetOnce 22 = .ok (.iload_n 2, 1) := by decide +kernel
theorem dX7_meetOnce_23 : decode cX7_meetOnce 23 = .ok (.iconst 1, 1) := by decide +kernel
theorem dX7_meetOnce_24 : decode cX7_meetOnce 24 = .ok (.iadd, 1) := by decide +kernel
theorem dX7_meetOnce_25 : decode cX7_meetOnce 25 = .ok (.istore 5, 2) := by decide +kernel
theorem dX7_meetOnce_27 : decode cX7_meetOnce 27 = .ok (.iload 5, 2) := by decide +kernel
theorem dX7_meetOnce_29 : decode cX7_meetOnce 29 = .ok (.aload_n 0, 1) := by decide +kernel
theorem dX7_meetOnce_30 : decode cX7_meetOnce 30 = .ok (.getfield 13, 3) := by decide +kernel
theorem dX7_meetOnce_33 : decode cX7_meetOnce 33 = .ok (.iload_n 1, 1) := by decide +kernel
theorem dX7_meetOnce_34 : decode cX7_meetOnce 34 = .ok (.iaload, 1) := by decide +kernel
theorem dX7_meetOnce_35 : decode cX7_meetOnce 35 = .ok (.if_icmp .ge 103, 3) := by decide +kernel
theorem dX7_meetOnce_38 : decode cX7_meetOnce 38 = .ok (.iload 4, 2) := by decide +kernel
theorem dX7_meetOnce_40 : decode cX7_meetOnce 40 = .ok (.ifCond .eq 98, 3) := by decide +kernel
theorem dX7_meetOnce_43 : decode cX7_meetOnce 43 = .ok (.bipush 64, 2) := by decide +kernel
theorem dX7_meetOnce_45 : decode cX7_meetOnce 45 = .ok (.iload_n 1, 1) := by decide +kernel
theorem dX7_meetOnce_46 : decode cX7_meetOnce 46 = .ok (.imul, 1) := by decide +kernel
theorem dX7_meetOnce_47 : decode cX7_meetOnce 47 = .ok (.iload 5, 2) := by decide +kernel
theorem dX7_meetOnce_49 : decode cX7_meetOnce 49 = .ok (.iadd, 1) := by decide +kernel
theorem dX7_meetOnce_50 : decode cX7_meetOnce 50 = .ok (.istore 6, 2) := by decide +kernel
theorem dX7_meetOnce_52 : decode cX7_meetOnce 52 = .ok (.aload_n 0, 1) := by decide +kernel
theorem dX7_meetOnce_53 : decode cX7_meetOnce 53 = .ok (.iload_n 3, 1) := by decide +kernel
theorem dX7_meetOnce_54 : decode cX7_meetOnce 54 = .ok (.iload 6, 2) := by decide +kernel
theorem dX7_meetOnce_56 : decode cX7_meetOnce 56 = .ok (.invokevirtual 133, 3) := by decide +kernel
theorem dX7_meetOnce_59 : decode cX7_meetOnce 59 = .ok (.istore 7, 2) := by decide +kernel
theorem dX7_meetOnce_61 : decode cX7_meetOnce 61 = .ok (.aload_n 0, 1) := by decide +kernel
theorem dX7_meetOnce_62 : decode cX7_meetOnce 62 = .ok (.iload_n 3, 1) := by decide +kernel
theorem dX7_meetOnce_63 : decode cX7_meetOnce 63 = .ok (.iload 6, 2) := by decide +kernel
theorem dX7_meetOnce_65 : decode cX7_meetOnce 65 = .ok (.invokevirtual 137, 3) := by decide +kernel
theorem dX7_meetOnce_68 : decode cX7_meetOnce 68 = .ok (.ifCond .ne 8, 3) := by decide +kernel
theorem dX7_meetOnce_71 : decode cX7_meetOnce 71 = .ok (.iload 7, 2) := by decide +kernel
theorem dX7_meetOnce_73 : decode cX7_meetOnce 73 = .ok (.ifCond .le 50, 3) := by decide +kernel
theorem dX7_meetOnce_76 : decode cX7_meetOnce 76 = .ok (.aload_n 0, 1) := by decide +kernel
theorem dX7_meetOnce_77 : decode cX7_meetOnce 77 = .ok (.iload_n 1, 1) := by decide +kernel
theorem dX7_meetOnce_78 : decode cX7_meetOnce 78 = .ok (.iload 5, 2) := by decide +kernel
theorem dX7_meetOnce_80 : decode cX7_meetOnce 80 = .ok (.invokevirtual 140, 3) := by decide +kernel
theorem dX7_meetOnce_83 : decode cX7_meetOnce 83 = .ok (.iload 7, 2) := by decide +kernel
theorem dX7_meetOnce_85 : decode cX7_meetOnce 85 = .ok (.iconst 2, 1) := by decide +kernel
theorem dX7_meetOnce_86 : decode cX7_meetOnce 86 = .ok (.if_icmp .eq 9, 3) := by decide +kernel
theorem dX7_meetOnce_89 : decode cX7_meetOnce 89 = .ok (.iload 7, 2) := by decide +kernel
theorem dX7_meetOnce_91 : decode cX7_meetOnce 91 = .ok (.iconst 4, 1) := by decide +kernel
theorem dX7_meetOnce_92 : decode cX7_meetOnce 92 = .ok (.if_icmp .ne 23, 3) := by decide +kernel
theorem dX7_meetOnce_95 : decode cX7_meetOnce 95 = .ok (.aload_n 0, 1) := by decide +kernel
theorem dX7_meetOnce_96 : decode cX7_meetOnce 96 = .ok (.getfield 17, 3) := by decide +kernel
theorem dX7_meetOnce_99 : decode cX7_meetOnce 99 = .ok (.iload_n 3, 1) := by decide +kernel
theorem dX7_meetOnce_100 : decode cX7_meetOnce 100 = .ok (.iload 7, 2) := by decide +kernel
theorem dX7_meetOnce_102 : decode cX7_meetOnce 102 = .ok (.iconst 2, 1) := by decide +kernel
theorem dX7_meetOnce_103 : decode cX7_meetOnce 103 = .ok (.if_icmp .ne 7, 3) := by decide +kernel
theorem dX7_meetOnce_106 : decode cX7_meetOnce 106 = .ok (.iconst 2, 1) := by decide +kernel
theorem dX7_meetOnce_107 : decode cX7_meetOnce 107 = .ok (.goto 4, 3) := by decide +kernel
theorem dX7_meetOnce_110 : decode cX7_meetOnce 110 = .ok (.iconst 5, 1) := by decide +kernel
theorem dX7_meetOnce_111 : decode cX7_meetOnce 111 = .ok (.iastore, 1) := by decide +kernel
theorem dX7_meetOnce_112 : decode cX7_meetOnce 112 = .ok (.goto 9, 3) := by decide +kernel
theorem dX7_meetOnce_115 : decode cX7_meetOnce 115 = .ok (.aload_n 0, 1) := by decide +kernel
theorem dX7_meetOnce_116 : decode cX7_meetOnce 116 = .ok (.iload_n 1, 1) := by decide +kernel
theorem dX7_meetOnce_117 : decode cX7_meetOnce 117 = .ok (.iload_n 2, 1) := by decide +kernel
theorem dX7_meetOnce_118 : decode cX7_meetOnce 118 = .ok (.invokevirtual 140, 3) := by decide +kernel
theorem dX7_meetOnce_121 : decode cX7_meetOnce 121 = .ok (.iconst 1, 1) := by decide +kernel
theorem dX7_meetOnce_122 : decode cX7_meetOnce 122 = .ok (.ireturn, 1) := by decide +kernel
theorem dX7_meetOnce_123 : decode cX7_meetOnce 123 = .ok (.aload_n 0, 1) := by decide +kernel
theorem dX7_meetOnce_124 : decode cX7_meetOnce 124 = .ok (.iload_n 3, 1) := by decide +kernel
theorem dX7_meetOnce_125 : decode cX7_meetOnce 125 = .ok (.iload 6, 2) := by decide +kernel
theorem dX7_meetOnce_127 : decode cX7_meetOnce 127 = .ok (.invokevirtual 143, 3) := by decide +kernel
theorem dX7_meetOnce_130 : decode cX7_meetOnce 130 = .ok (.istore 4, 2) := by decide +kernel
theorem dX7_meetOnce_132 : decode cX7_meetOnce 132 = .ok (.iinc 5 1, 3) := by decide +kernel
theorem dX7_meetOnce_135 : decode cX7_meetOnce 135 = .ok (.goto (-108), 3) := by decide +kernel
theorem dX7_meetOnce_138 : decode cX7_meetOnce 138 = .ok (.iinc 2 1, 3) := by decide +kernel
theorem dX7_meetOnce_141 : decode cX7_meetOnce 141 = .ok (.goto (-139), 3) := by decide +kernel
theorem dX7_meetOnce_144 : decode cX7_meetOnce 144 = .ok (.iconst 0, 1) := by decide +kernel
theorem dX7_meetOnce_145 : decode cX7_meetOnce 145 = .ok (.ireturn, 1) := by decide +kernel
theorem dX7_optimise_0 : decode cX7_optimise 0 = .ok (.aload_n 0, 1) := by decide +kernel
theorem dX7_optimise_1 : decode cX7_optimise 1 = .ok (.iload_n 1, 1) := by decide +kernel
theorem dX7_optimise_2 : decode cX7_optimise 2 = .ok (.invokestatic 88, 3) := by decide +kernel
theorem dX7_optimise_5 : decode cX7_optimise 5 = .ok (.ifCond .eq 7, 3) := by decide +kernel
theorem dX7_optimise_8 : decode cX7_optimise 8 = .ok (.iconst 0, 1) := by decide +kernel
theorem dX7_optimise_9 : decode cX7_optimise 9 = .ok (.goto 4, 3) := by decide +kernel
theorem dX7_optimise_12 : decode cX7_optimise 12 = .ok (.iconst 1, 1) := by decide +kernel
theorem dX7_optimise_13 : decode cX7_optimise 13 = .ok (.putfield 60, 3) := by decide +kernel
theorem dX7_optimise_16 : decode cX7_optimise 16 = .ok (.aload_n 0, 1) := by decide +kernel
theorem dX7_optimise_17 : decode cX7_optimise 17 = .ok (.getfield 60, 3) := by decide +kernel
theorem dX7_optimise_20 : decode cX7_optimise 20 = .ok (.ifCond .le 5, 3) := by decide +kernel
theorem dX7_optimise_23 : decode cX7_optimise 23 = .ok (.iconst 0, 1) := by decide +kernel
theorem dX7_optimise_24 : decode cX7_optimise 24 = .ok (.ireturn, 1) := by decide +kernel
theorem dX7_optimise_25 : decode cX7_optimise 25 = .ok (.iconst 1, 1) := by decide +kernel
theorem dX7_optimise_26 : decode cX7_optimise 26 = .ok (.istore_n 2, 1) := by decide +kernel
theorem dX7_optimise_27 : decode cX7_optimise 27 = .ok (.iload_n 2, 1) := by decide +kernel
theorem dX7_optimise_28 : decode cX7_optimise 28 = .ok (.ifCond .eq 12, 3) := by decide +kernel
theorem dX7_optimise_31 : decode cX7_optimise 31 = .ok (.aload_n 0, 1) := by decide +kernel
theorem dX7_optimise_32 : decode cX7_optimise 32 = .ok (.iload_n 1, 1) := by decide +kernel
theorem dX7_optimise_33 : decode cX7_optimise 33 = .ok (.invokevirtual 146, 3) := by decide +kernel
theorem dX7_optimise_36 : decode cX7_optimise 36 = .ok (.istore_n 2, 1) := by decide +kernel
theorem dX7_optimise_37 : decode cX7_optimise 37 = .ok (.goto (-10), 3) := by decide +kernel
theorem dX7_optimise_40 : decode cX7_optimise 40 = .ok (.aload_n 0, 1) := by decide +kernel
theorem dX7_optimise_41 : decode cX7_optimise 41 = .ok (.getfield 13, 3) := by decide +kernel
theorem dX7_optimise_44 : decode cX7_optimise 44 = .ok (.iload_n 1, 1) := by decide +kernel
theorem dX7_optimise_45 : decode cX7_optimise 45 = .ok (.iaload, 1) := by decide +kernel
theorem dX7_optimise_46 : decode cX7_optimise 46 = .ok (.ireturn, 1) := by decide +kernel
theorem dX7_basis_0 : decode cX7_basis 0 = .ok (.iconst 1, 1) := by decide +kernel
theorem dX7_basis_1 : decode cX7_basis 1 = .ok (.aload_n 0, 1) := by decide +kernel
theorem dX7_basis_2 : decode cX7_basis 2 = .ok (.getfield 7, 3) := by decide +kernel
theorem dX7_basis_5 : decode cX7_basis 5 = .ok (.ishl, 1) := by decide +kernel
theorem dX7_basis_6 : decode cX7_basis 6 = .ok (.ireturn, 1) := by decide +kernel
theorem dX7_turn_0 : decode cX7_turn 0 = .ok (.iconst 0, 1) := by decide +kernel
theorem dX7_turn_1 : decode cX7_turn 1 = .ok (.istore_n 3, 1) := by decide +kernel
theorem dX7_turn_2 : decode cX7_turn 2 = .ok (.iload_n 3, 1) := by decide +kernel
theorem dX7_turn_3 : decode cX7_turn 3 = .ok (.iload_n 2, 1) := by decide +kernel
theorem dX7_turn_4 : decode cX7_turn 4 = .ok (.if_icmp .ge 50, 3) := by decide +kernel
theorem dX7_turn_7 : decode cX7_turn 7 = .ok (.aload_n 0, 1) := by decide +kernel
theorem dX7_turn_8 : decode cX7_turn 8 = .ok (.iload_n 1, 1) := by decide +kernel
theorem dX7_turn_9 : decode cX7_turn 9 = .ok (.iconst 3, 1) := by decide +kernel
theorem dX7_turn_10 : decode cX7_turn 10 = .ok (.iadd, 1) := by decide +kernel
theorem dX7_turn_11 : decode cX7_turn 11 = .ok (.laload, 1) := by decide +kernel
theorem dX7_turn_12 : decode cX7_turn 12 = .ok (.lstore 4, 2) := by decide +kernel
theorem dX7_turn_14 : decode cX7_turn 14 = .ok (.aload_n 0, 1) := by decide +kernel
theorem dX7_turn_15 : decode cX7_turn 15 = .ok (.iload_n 1, 1) := by decide +kernel
theorem dX7_turn_16 : decode cX7_turn 16 = .ok (.iconst 3, 1) := by decide +kernel
theorem dX7_turn_17 : decode cX7_turn 17 = .ok (.iadd, 1) := by decide +kernel
theorem dX7_turn_18 : decode cX7_turn 18 = .ok (.aload_n 0, 1) := by decide +kernel
theorem dX7_turn_19 : decode cX7_turn 19 = .ok (.iload_n 1, 1) := by decide +kernel
theorem dX7_turn_20 : decode cX7_turn 20 = .ok (.iconst 2, 1) := by decide +kernel
theorem dX7_turn_21 : decode cX7_turn 21 = .ok (.iadd, 1) := by decide +kernel
theorem dX7_turn_22 : decode cX7_turn 22 = .ok (.laload, 1) := by decide +kernel
theorem dX7_turn_23 : decode cX7_turn 23 = .ok (.lastore, 1) := by decide +kernel
theorem dX7_turn_24 : decode cX7_turn 24 = .ok (.aload_n 0, 1) := by decide +kernel
theorem dX7_turn_25 : decode cX7_turn 25 = .ok (.iload_n 1, 1) := by decide +kernel
theorem dX7_turn_26 : decode cX7_turn 26 = .ok (.iconst 2, 1) := by decide +kernel
theorem dX7_turn_27 : decode cX7_turn 27 = .ok (.iadd, 1) := by decide +kernel
theorem dX7_turn_28 : decode cX7_turn 28 = .ok (.aload_n 0, 1) := by decide +kernel
theorem dX7_turn_29 : decode cX7_turn 29 = .ok (.iload_n 1, 1) := by decide +kernel
theorem dX7_turn_30 : decode cX7_turn 30 = .ok (.iconst 1, 1) := by decide +kernel
theorem dX7_turn_31 : decode cX7_turn 31 = .ok (.iadd, 1) := by decide +kernel
theorem dX7_turn_32 : decode cX7_turn 32 = .ok (.laload, 1) := by decide +kernel
theorem dX7_turn_33 : decode cX7_turn 33 = .ok (.lastore, 1) := by decide +kernel
theorem dX7_turn_34 : decode cX7_turn 34 = .ok (.aload_n 0, 1) := by decide +kernel
theorem dX7_turn_35 : decode cX7_turn 35 = .ok (.iload_n 1, 1) := by decide +kernel
theorem dX7_turn_36 : decode cX7_turn 36 = .ok (.iconst 1, 1) := by decide +kernel
theorem dX7_turn_37 : decode cX7_turn 37 = .ok (.iadd, 1) := by decide +kernel
theorem dX7_turn_38 : decode cX7_turn 38 = .ok (.aload_n 0, 1) := by decide +kernel
theorem dX7_turn_39 : decode cX7_turn 39 = .ok (.iload_n 1, 1) := by decide +kernel
theorem dX7_turn_40 : decode cX7_turn 40 = .ok (.laload, 1) := by decide +kernel
theorem dX7_turn_41 : decode cX7_turn 41 = .ok (.lastore, 1) := by decide +kernel
theorem dX7_turn_42 : decode cX7_turn 42 = .ok (.aload_n 0, 1) := by decide +kernel
theorem dX7_turn_43 : decode cX7_turn 43 = .ok (.iload_n 1, 1) := by decide +kernel
theorem dX7_turn_44 : decode cX7_turn 44 = .ok (.lload 4, 2) := by decide +kernel
theorem dX7_turn_46 : decode cX7_turn 46 = .ok (.lneg, 1) := by decide +kernel
theorem dX7_turn_47 : decode cX7_turn 47 = .ok (.lastore, 1) := by decide +kernel
theorem dX7_turn_48 : decode cX7_turn 48 = .ok (.iinc 3 1, 3) := by decide +kernel
theorem dX7_turn_51 : decode cX7_turn 51 = .ok (.goto (-49), 3) := by decide +kernel
theorem dX7_turn_54 : decode cX7_turn 54 = .ok (.return_, 1) := by decide +kernel
theorem dX7_grow_0 : decode cX7_grow 0 = .ok (.aload_n 0, 1) := by decide +kernel
theorem dX7_grow_1 : decode cX7_grow 1 = .ok (.iload_n 1, 1) := by decide +kernel
theorem dX7_grow_2 : decode cX7_grow 2 = .ok (.laload, 1) := by decide +kernel
theorem dX7_grow_3 : decode cX7_grow 3 = .ok (.lstore_n 2, 1) := by decide +kernel
theorem dX7_grow_4 : decode cX7_grow 4 = .ok (.aload_n 0, 1) := by decide +kernel
theorem dX7_grow_5 : decode cX7_grow 5 = .ok (.iload_n 1, 1) := by decide +kernel
theorem dX7_grow_6 : decode cX7_grow 6 = .ok (.iconst 1, 1) := by decide +kernel
theorem dX7_grow_7 : decode cX7_grow 7 = .ok (.iadd, 1) := by decide +kernel
theorem dX7_grow_8 : decode cX7_grow 8 = .ok (.laload, 1) := by decide +kernel
theorem dX7_grow_9 : decode cX7_grow 9 = .ok (.lstore 4, 2) := by decide +kernel
theorem dX7_grow_11 : decode cX7_grow 11 = .ok (.aload_n 0, 1) := by decide +kernel
theorem dX7_grow_12 : decode cX7_grow 12 = .ok (.iload_n 1, 1) := by decide +kernel
theorem dX7_grow_13 : decode cX7_grow 13 = .ok (.iconst 2, 1) := by decide +kernel
theorem dX7_grow_14 : decode cX7_grow 14 = .ok (.iadd, 1) := by decide +kernel
theorem dX7_grow_15 : decode cX7_grow 15 = .ok (.laload, 1) := by decide +kernel
theorem dX7_grow_16 : decode cX7_grow 16 = .ok (.lstore 6, 2) := by decide +kernel
theorem dX7_grow_18 : decode cX7_grow 18 = .ok (.aload_n 0, 1) := by decide +kernel
theorem dX7_grow_19 : decode cX7_grow 19 = .ok (.iload_n 1, 1) := by decide +kernel
theorem dX7_grow_20 : decode cX7_grow 20 = .ok (.iconst 3, 1) := by decide +kernel
theorem dX7_grow_21 : decode cX7_grow 21 = .ok (.iadd, 1) := by decide +kernel
theorem dX7_grow_22 : decode cX7_grow 22 = .ok (.laload, 1) := by decide +kernel
theorem dX7_grow_23 : decode cX7_grow 23 = .ok (.lstore 8, 2) := by decide +kernel
theorem dX7_grow_25 : decode cX7_grow 25 = .ok (.aload_n 0, 1) := by decide +kernel
theorem dX7_grow_26 : decode cX7_grow 26 = .ok (.iload_n 1, 1) := by decide +kernel
theorem dX7_grow_27 : decode cX7_grow 27 = .ok (.lload 4, 2) := by decide +kernel
theorem dX7_grow_29 : decode cX7_grow 29 = .ok (.lload 8, 2) := by decide +kernel
theorem dX7_grow_31 : decode cX7_grow 31 = .ok (.lsub, 1) := by decide +kernel
theorem dX7_grow_32 : decode cX7_grow 32 = .ok (.lastore, 1) := by decide +kernel
theorem dX7_grow_33 : decode cX7_grow 33 = .ok (.aload_n 0, 1) := by decide +kernel
theorem dX7_grow_34 : decode cX7_grow 34 = .ok (.iload_n 1, 1) := by decide +kernel
theorem dX7_grow_35 : decode cX7_grow 35 = .ok (.iconst 1, 1) := by decide +kernel
theorem dX7_grow_36 : decode cX7_grow 36 = .ok (.iadd, 1) := by decide +kernel
theorem dX7_grow_37 : decode cX7_grow 37 = .ok (.lload_n 2, 1) := by decide +kernel
theorem dX7_grow_38 : decode cX7_grow 38 = .ok (.lload 6, 2) := by decide +kernel
theorem dX7_grow_40 : decode cX7_grow 40 = .ok (.ladd, 1) := by decide +kernel
theorem dX7_grow_41 : decode cX7_grow 41 = .ok (.lastore, 1) := by decide +kernel
theorem dX7_grow_42 : decode cX7_grow 42 = .ok (.aload_n 0, 1) := by decide +kernel
theorem dX7_grow_43 : decode cX7_grow 43 = .ok (.iload_n 1, 1) := by decide +kernel
theorem dX7_grow_44 : decode cX7_grow 44 = .ok (.iconst 2, 1) := by decide +kernel
theorem dX7_grow_45 : decode cX7_grow 45 = .ok (.iadd, 1) := by decide +kernel
theorem dX7_grow_46 : decode cX7_grow 46 = .ok (.lload 4, 2) := by decide +kernel
theorem dX7_grow_48 : decode cX7_grow 48 = .ok (.lload 8, 2) := by decide +kernel
theorem dX7_grow_50 : decode cX7_grow 50 = .ok (.ladd, 1) := by decide +kernel
theorem dX7_grow_51 : decode cX7_grow 51 = .ok (.lastore, 1) := by decide +kernel
theorem dX7_grow_52 : decode cX7_grow 52 = .ok (.aload_n 0, 1) := by decide +kernel
theorem dX7_grow_53 : decode cX7_grow 53 = .ok (.iload_n 1, 1) := by decide +kernel
theorem dX7_grow_54 : decode cX7_grow 54 = .ok (.iconst 3, 1) := by decide +kernel
theorem dX7_grow_55 : decode cX7_grow 55 = .ok (.iadd, 1) := by decide +kernel
theorem dX7_grow_56 : decode cX7_grow 56 = .ok (.lload 6, 2) := by decide +kernel
theorem dX7_grow_58 : decode cX7_grow 58 = .ok (.lload_n 2, 1) := by decide +kernel
theorem dX7_grow_59 : decode cX7_grow 59 = .ok (.lsub, 1) := by decide +kernel
theorem dX7_grow_60 : decode cX7_grow 60 = .ok (.lastore, 1) := by decide +kernel
theorem dX7_grow_61 : decode cX7_grow 61 = .ok (.return_, 1) := by decide +kernel
theorem dX7_change_0 : decode cX7_change 0 = .ok (.iconst 0, 1) := by decide +kernel
theorem dX7_change_1 : decode cX7_change 1 = .ok (.istore_n 3, 1) := by decide +kernel
theorem dX7_change_2 : decode cX7_change 2 = .ok (.iload_n 3, 1) := by decide +kernel
theorem dX7_change_3 : decode cX7_change 3 = .ok (.iconst 4, 1) := by decide +kernel
theorem dX7_change_4 : decode cX7_change 4 = .ok (.if_icmp .ge 41, 3) := by decide +kernel
theorem dX7_change_7 : decode cX7_change 7 = .ok (.aload_n 0, 1) := by decide +kernel
theorem dX7_change_8 : decode cX7_change 8 = .ok (.iconst 4, 1) := by decide +kernel
theorem dX7_change_9 : decode cX7_change 9 = .ok (.iload_n 1, 1) := by decide +kernel
theorem dX7_change_10 : decode cX7_change 10 = .ok (.imul, 1) := by decide +kernel
theorem dX7_change_11 : decode cX7_change 11 = .ok (.iload_n 3, 1) := by decide +kernel
theorem dX7_change_12 : decode cX7_change 12 = .ok (.iadd, 1) := by decide +kernel
theorem dX7_change_13 : decode cX7_change 13 = .ok (.laload, 1) := by decide +kernel
theorem dX7_change_14 : decode cX7_change 14 = .ok (.lstore 4, 2) := by decide +kernel
theorem dX7_change_16 : decode cX7_change 16 = .ok (.aload_n 0, 1) := by decide +kernel
theorem dX7_change_17 : decode cX7_change 17 = .ok (.iconst 4, 1) := by decide +kernel
theorem dX7_change_18 : decode cX7_change 18 = .ok (.iload_n 1, 1) := by decide +kernel
theorem dX7_change_19 : decode cX7_change 19 = .ok (.imul, 1) := by decide +kernel
theorem dX7_change_20 : decode cX7_change 20 = .ok (.iload_n 3, 1) := by decide +kernel
theorem dX7_change_21 : decode cX7_change 21 = .ok (.iadd, 1) := by decide +kernel
theorem dX7_change_22 : decode cX7_change 22 = .ok (.aload_n 0, 1) := by decide +kernel
theorem dX7_change_23 : decode cX7_change 23 = .ok (.iconst 4, 1) := by decide +kernel
theorem dX7_change_24 : decode cX7_change 24 = .ok (.iload_n 2, 1) := by decide +kernel
theorem dX7_change_25 : decode cX7_change 25 = .ok (.imul, 1) := by decide +kernel
theorem dX7_change_26 : decode cX7_change 26 = .ok (.iload_n 3, 1) := by decide +kernel
theorem dX7_change_27 : decode cX7_change 27 = .ok (.iadd, 1) := by decide +kernel
theorem dX7_change_28 : decode cX7_change 28 = .ok (.laload, 1) := by decide +kernel
theorem dX7_change_29 : decode cX7_change 29 = .ok (.lastore, 1) := by decide +kernel
theorem dX7_change_30 : decode cX7_change 30 = .ok (.aload_n 0, 1) := by decide +kernel
theorem dX7_change_31 : decode cX7_change 31 = .ok (.iconst 4, 1) := by decide +kernel
theorem dX7_change_32 : decode cX7_change 32 = .ok (.iload_n 2, 1) := by decide +kernel
theorem dX7_change_33 : decode cX7_change 33 = .ok (.imul, 1) := by decide +kernel
theorem dX7_change_34 : decode cX7_change 34 = .ok (.iload_n 3, 1) := by decide +kernel
theorem dX7_change_35 : decode cX7_change 35 = .ok (.iadd, 1) := by decide +kernel
theorem dX7_change_36 : decode cX7_change 36 = .ok (.lload 4, 2) := by decide +kernel
theorem dX7_change_38 : decode cX7_change 38 = .ok (.lastore, 1) := by decide +kernel
theorem dX7_change_39 : decode cX7_change 39 = .ok (.iinc 3 1, 3) := by decide +kernel
theorem dX7_change_42 : decode cX7_change 42 = .ok (.goto (-40), 3) := by decide +kernel
theorem dX7_change_45 : decode cX7_change 45 = .ok (.return_, 1) := by decide +kernel
theorem dX7_mix_0 : decode cX7_mix 0 = .ok (.iconst 0, 1) := by decide +kernel
theorem dX7_mix_1 : decode cX7_mix 1 = .ok (.istore_n 3, 1) := by decide +kernel
theorem dX7_mix_2 : decode cX7_mix 2 = .ok (.iload_n 3, 1) := by decide +kernel
theorem dX7_mix_3 : decode cX7_mix 3 = .ok (.iconst 4, 1) := by decide +kernel
theorem dX7_mix_4 : decode cX7_mix 4 = .ok (.if_icmp .ge 51, 3) := by decide +kernel
theorem dX7_mix_7 : decode cX7_mix 7 = .ok (.aload_n 0, 1) := by decide +kernel
theorem dX7_mix_8 : decode cX7_mix 8 = .ok (.iconst 4, 1) := by decide +kernel
theorem dX7_mix_9 : decode cX7_mix 9 = .ok (.iload_n 1, 1) := by decide +kernel
theorem dX7_mix_10 : decode cX7_mix 10 = .ok (.imul, 1) := by decide +kernel
theorem dX7_mix_11 : decode cX7_mix 11 = .ok (.iload_n 3, 1) := by decide +kernel
theorem dX7_mix_12 : decode cX7_mix 12 = .ok (.iadd, 1) := by decide +kernel
theorem dX7_mix_13 : decode cX7_mix 13 = .ok (.laload, 1) := by decide +kernel
theorem dX7_mix_14 : decode cX7_mix 14 = .ok (.lstore 4, 2) := by decide +kernel
theorem dX7_mix_16 : decode cX7_mix 16 = .ok (.aload_n 0, 1) := by decide +kernel
theorem dX7_mix_17 : decode cX7_mix 17 = .ok (.iconst 4, 1) := by decide +kernel
theorem dX7_mix_18 : decode cX7_mix 18 = .ok (.iload_n 2, 1) := by decide +kernel
theorem dX7_mix_19 : decode cX7_mix 19 = .ok (.imul, 1) := by decide +kernel
theorem dX7_mix_20 : decode cX7_mix 20 = .ok (.iload_n 3, 1) := by decide +kernel
theorem dX7_mix_21 : decode cX7_mix 21 = .ok (.iadd, 1) := by decide +kernel
theorem dX7_mix_22 : decode cX7_mix 22 = .ok (.laload, 1) := by decide +kernel
theorem dX7_mix_23 : decode cX7_mix 23 = .ok (.lstore 6, 2) := by decide +kernel
theorem dX7_mix_25 : decode cX7_mix 25 = .ok (.aload_n 0, 1) := by decide +kernel
theorem dX7_mix_26 : decode cX7_mix 26 = .ok (.iconst 4, 1) := by decide +kernel
theorem dX7_mix_27 : decode cX7_mix 27 = .ok (.iload_n 1, 1) := by decide +kernel
theorem dX7_mix_28 : decode cX7_mix 28 = .ok (.imul, 1) := by decide +kernel
theorem dX7_mix_29 : decode cX7_mix 29 = .ok (.iload_n 3, 1) := by decide +kernel
theorem dX7_mix_30 : decode cX7_mix 30 = .ok (.iadd, 1) := by decide +kernel
theorem dX7_mix_31 : decode cX7_mix 31 = .ok (.lload 4, 2) := by decide +kernel
theorem dX7_mix_33 : decode cX7_mix 33 = .ok (.lload 6, 2) := by decide +kernel
theorem dX7_mix_35 : decode cX7_mix 35 = .ok (.ladd, 1) := by decide +kernel
theorem dX7_mix_36 : decode cX7_mix 36 = .ok (.lastore, 1) := by decide +kernel
theorem dX7_mix_37 : decode cX7_mix 37 = .ok (.aload_n 0, 1) := by decide +kernel
theorem dX7_mix_38 : decode cX7_mix 38 = .ok (.iconst 4, 1) := by decide +kernel
theorem dX7_mix_39 : decode cX7_mix 39 = .ok (.iload_n 2, 1) := by decide +kernel
theorem dX7_mix_40 : decode cX7_mix 40 = .ok (.imul, 1) := by decide +kernel
theorem dX7_mix_41 : decode cX7_mix 41 = .ok (.iload_n 3, 1) := by decide +kernel
theorem dX7_mix_42 : decode cX7_mix 42 = .ok (.iadd, 1) := by decide +kernel
theorem dX7_mix_43 : decode cX7_mix 43 = .ok (.lload 4, 2) := by decide +kernel
theorem dX7_mix_45 : decode cX7_mix 45 = .ok (.lload 6, 2) := by decide +kernel
theorem dX7_mix_47 : decode cX7_mix 47 = .ok (.lsub, 1) := by decide +kernel
theorem dX7_mix_48 : decode cX7_mix 48 = .ok (.lastore, 1) := by decide +kernel
theorem dX7_mix_49 : decode cX7_mix 49 = .ok (.iinc 3 1, 3) := by decide +kernel
theorem dX7_mix_52 : decode cX7_mix 52 = .ok (.goto (-50), 3) := by decide +kernel
theorem dX7_mix_55 : decode cX7_mix 55 = .ok (.return_, 1) := by decide +kernel
theorem dX7_bit_0 : decode cX7_bit 0 = .ok (.iload_n 0, 1) := by decide +kernel
theorem dX7_bit_1 : decode cX7_bit 1 = .ok (.iload_n 1, 1) := by decide +kernel
theorem dX7_bit_2 : decode cX7_bit 2 = .ok (.ishr, 1) := by decide +kernel
theorem dX7_bit_3 : decode cX7_bit 3 = .ok (.iconst 1, 1) := by decide +kernel
theorem dX7_bit_4 : decode cX7_bit 4 = .ok (.iand, 1) := by decide +kernel
theorem dX7_bit_5 : decode cX7_bit 5 = .ok (.iconst 1, 1) := by decide +kernel
theorem dX7_bit_6 : decode cX7_bit 6 = .ok (.if_icmp .ne 7, 3) := by decide +kernel
theorem dX7_bit_9 : decode cX7_bit 9 = .ok (.iconst 1, 1) := by decide +kernel
theorem dX7_bit_10 : decode cX7_bit 10 = .ok (.goto 4, 3) := by decide +kernel
theorem dX7_bit_13 : decode cX7_bit 13 = .ok (.iconst 0, 1) := by decide +kernel
theorem dX7_bit_14 : decode cX7_bit 14 = .ok (.ireturn, 1) := by decide +kernel
theorem dX7_act_0 : decode cX7_act 0 = .ok (.aload_n 0, 1) := by decide +kernel
theorem dX7_act_1 : decode cX7_act 1 = .ok (.getfield 20, 3) := by decide +kernel
theorem dX7_act_4 : decode cX7_act 4 = .ok (.iload_n 2, 1) := by decide +kernel
theorem dX7_act_5 : decode cX7_act 5 = .ok (.iaload, 1) := by decide +kernel
theorem dX7_act_6 : decode cX7_act 6 = .ok (.istore_n 3, 1) := by decide +kernel
theorem dX7_act_7 : decode cX7_act 7 = .ok (.aload_n 0, 1) := by decide +kernel
theorem dX7_act_8 : decode cX7_act 8 = .ok (.getfield 23, 3) := by decide +kernel
theorem dX7_act_11 : decode cX7_act 11 = .ok (.iload_n 2, 1) := by decide +kernel
theorem dX7_act_12 : decode cX7_act 12 = .ok (.iaload, 1) := by decide +kernel
theorem dX7_act_13 : decode cX7_act 13 = .ok (.istore 4, 2) := by decide +kernel
theorem dX7_act_15 : decode cX7_act 15 = .ok (.aload_n 0, 1) := by decide +kernel
theorem dX7_act_16 : decode cX7_act 16 = .ok (.getfield 26, 3) := by decide +kernel
theorem dX7_act_19 : decode cX7_act 19 = .ok (.iload_n 2, 1) := by decide +kernel
theorem dX7_act_20 : decode cX7_act 20 = .ok (.iaload, 1) := by decide +kernel
theorem dX7_act_21 : decode cX7_act 21 = .ok (.istore 5, 2) := by decide +kernel
theorem dX7_act_23 : decode cX7_act 23 = .ok (.iconst 0, 1) := by decide +kernel
theorem dX7_act_24 : decode cX7_act 24 = .ok (.istore 6, 2) := by decide +kernel
theorem dX7_act_26 : decode cX7_act 26 = .ok (.iload 6, 2) := by decide +kernel
theorem dX7_act_28 : decode cX7_act 28 = .ok (.aload_n 0, 1) := by decide +kernel
theorem dX7_act_29 : decode cX7_act 29 = .ok (.invokevirtual 149, 3) := by decide +kernel
theorem dX7_act_32 : decode cX7_act 32 = .ok (.if_icmp .ge 295, 3) := by decide +kernel
theorem dX7_act_35 : decode cX7_act 35 = .ok (.aload_n 0, 1) := by decide +kernel
theorem dX7_act_36 : decode cX7_act 36 = .ok (.getfield 17, 3) := by decide +kernel
theorem dX7_act_39 : decode cX7_act 39 = .ok (.iload_n 2, 1) := by decide +kernel
theorem dX7_act_40 : decode cX7_act 40 = .ok (.iaload, 1) := by decide +kernel
theorem dX7_act_41 : decode cX7_act 41 = .ok (.tableswitch 238 1 8 #[47, 71, 71, 105, 71, 129, 164, 199], 47) := by decide +kernel
theorem dX7_act_88 : decode cX7_act 88 = .ok (.iload 6, 2) := by decide +kernel
theorem dX7_act_90 : decode cX7_act 90 = .ok (.iload_n 3, 1) := by decide +kernel
theorem dX7_act_91 : decode cX7_act 91 = .ok (.invokestatic 153, 3) := by decide +kernel
theorem dX7_act_94 : decode cX7_act 94 = .ok (.ifCond .ne 227, 3) := by decide +kernel
theorem dX7_act_97 : decode cX7_act 97 = .ok (.aload_n 1, 1) := by decide +kernel
theorem dX7_act_98 : decode cX7_act 98 = .ok (.iload 6, 2) := by decide +kernel
theorem dX7_act_100 : decode cX7_act 100 = .ok (.iload 6, 2) := by decide +kernel
theorem dX7_act_102 : decode cX7_act 102 = .ok (.iconst 1, 1) := by decide +kernel
theorem dX7_act_103 : decode cX7_act 103 = .ok (.iload_n 3, 1) := by decide +kernel
theorem dX7_act_104 : decode cX7_act 104 = .ok (.ishl, 1) := by decide +kernel
theorem dX7_act_105 : decode cX7_act 105 = .ok (.ior, 1) := by decide +kernel
theorem dX7_act_106 : decode cX7_act 106 = .ok (.invokestatic 156, 3) := by decide +kernel
theorem dX7_act_109 : decode cX7_act 109 = .ok (.goto 212, 3) := by decide +kernel
theorem dX7_act_112 : decode cX7_act 112 = .ok (.aload_n 1, 1) := by decide +kernel
theorem dX7_act_113 : decode cX7_act 113 = .ok (.iconst 4, 1) := by decide +kernel
theorem dX7_act_114 : decode cX7_act 114 = .ok (.iload 6, 2) := by decide +kernel
theorem dX7_act_116 : decode cX7_act 116 = .ok (.imul, 1) := by decide +kernel
theorem dX7_act_117 : decode cX7_act 117 = .ok (.iload 6, 2) := by decide +kernel
theorem dX7_act_119 : decode cX7_act 119 = .ok (.iload_n 3, 1) := by decide +kernel
theorem dX7_act_120 : decode cX7_act 120 = .ok (.invokestatic 153, 3) := by decide +kernel
theorem dX7_act_123 : decode cX7_act 123 = .ok (.ifCond .eq 16, 3) := by decide +kernel
theorem dX7_act_126 : decode cX7_act 126 = .ok (.aload_n 0, 1) := by decide +kernel
theorem dX7_act_127 : decode cX7_act 127 = .ok (.aload_n 0, 1) := by decide +kernel
theorem dX7_act_128 : decode cX7_act 128 = .ok (.getfield 17, 3) := by decide +kernel
theorem dX7_act_131 : decode cX7_act 131 = .ok (.iload_n 2, 1) := by decide +kernel
theorem dX7_act_132 : decode cX7_act 132 = .ok (.iaload, 1) := by decide +kernel
theorem dX7_act_133 : decode cX7_act 133 = .ok (.invokevirtual 118, 3) := by decide +kernel
theorem dX7_act_136 : decode cX7_act 136 = .ok (.goto 4, 3) := by decide +kernel
theorem dX7_act_139 : decode cX7_act 139 = .ok (.iconst 0, 1) := by decide +kernel
theorem dX7_act_140 : decode cX7_act 140 = .ok (.invokestatic 160, 3) := by decide +kernel
theorem dX7_act_143 : decode cX7_act 143 = .ok (.goto 178, 3) := by decide +kernel
theorem dX7_act_146 : decode cX7_act 146 = .ok (.iload 6, 2) := by decide +kernel
theorem dX7_act_148 : decode cX7_act 148 = .ok (.iload_n 3, 1) := by decide +kernel
theorem dX7_act_149 : decode cX7_act 149 = .ok (.invokestatic 153, 3) := by decide +kernel
theorem dX7_act_152 : decode cX7_act 152 = .ok (.ifCond .ne 169, 3) := by decide +kernel
theorem dX7_act_155 : decode cX7_act 155 = .ok (.aload_n 1, 1) := by decide +kernel
theorem dX7_act_156 : decode cX7_act 156 = .ok (.iload 6, 2) := by decide +kernel
theorem dX7_act_158 : decode cX7_act 158 = .ok (.iload 6, 2) := by decide +kernel
theorem dX7_act_160 : decode cX7_act 160 = .ok (.iconst 1, 1) := by decide +kernel
theorem dX7_act_161 : decode cX7_act 161 = .ok (.iload_n 3, 1) := by decide +kernel
theorem dX7_act_162 : decode cX7_act 162 = .ok (.ishl, 1) := by decide +kernel
theorem dX7_act_163 : decode cX7_act 163 = .ok (.ior, 1) := by decide +kernel
theorem dX7_act_164 : decode cX7_act 164 = .ok (.invokestatic 163, 3) := by decide +kernel
theorem dX7_act_167 : decode cX7_act 167 = .ok (.goto 154, 3) := by decide +kernel
theorem dX7_act_170 : decode cX7_act 170 = .ok (.iload 6, 2) := by decide +kernel
theorem dX7_act_172 : decode cX7_act 172 = .ok (.iload_n 3, 1) := by decide +kernel
theorem dX7_act_173 : decode cX7_act 173 = .ok (.invokestatic 153, 3) := by decide +kernel
theorem dX7_act_176 : decode cX7_act 176 = .ok (.ifCond .eq 145, 3) := by decide +kernel
theorem dX7_act_179 : decode cX7_act 179 = .ok (.iload 6, 2) := by decide +kernel
theorem dX7_act_181 : decode cX7_act 181 = .ok (.iload 4, 2) := by decide +kernel
theorem dX7_act_183 : decode cX7_act 183 = .ok (.invokestatic 153, 3) := by decide +kernel
theorem dX7_act_186 : decode cX7_act 186 = .ok (.ifCond .ne 135, 3) := by decide +kernel
theorem dX7_act_189 : decode cX7_act 189 = .ok (.aload_n 1, 1) := by decide +kernel
theorem dX7_act_190 : decode cX7_act 190 = .ok (.iload 6, 2) := by decide +kernel
theorem dX7_act_192 : decode cX7_act 192 = .ok (.iload 6, 2) := by decide +kernel
theorem dX7_act_194 : decode cX7_act 194 = .ok (.iconst 1, 1) := by decide +kernel
theorem dX7_act_195 : decode cX7_act 195 = .ok (.iload 4, 2) := by decide +kernel
theorem dX7_act_197 : decode cX7_act 197 = .ok (.ishl, 1) := by decide +kernel
theorem dX7_act_198 : decode cX7_act 198 = .ok (.ior, 1) := by decide +kernel
theorem dX7_act_199 : decode cX7_act 199 = .ok (.invokestatic 163, 3) := by decide +kernel
theorem dX7_act_202 : decode cX7_act 202 = .ok (.goto 119, 3) := by decide +kernel
theorem dX7_act_205 : decode cX7_act 205 = .ok (.aload_n 1, 1) := by decide +kernel
theorem dX7_act_206 : decode cX7_act 206 = .ok (.iconst 4, 1) := by decide +kernel
theorem dX7_act_207 : decode cX7_act 207 = .ok (.iload 6, 2) := by decide +kernel
theorem dX7_act_209 : decode cX7_act 209 = .ok (.imul, 1) := by decide +kernel
theorem dX7_act_210 : decode cX7_act 210 = .ok (.iload 6, 2) := by decide +kernel
theorem dX7_act_212 : decode cX7_act 212 = .ok (.iload_n 3, 1) := by decide +kernel
theorem dX7_act_213 : decode cX7_act 213 = .ok (.invokestatic 153, 3) := by decide +kernel
theorem dX7_act_216 : decode cX7_act 216 = .ok (.ifCond .eq 17, 3) := by decide +kernel
theorem dX7_act_219 : decode cX7_act 219 = .ok (.iload 6, 2) := by decide +kernel
theorem dX7_act_221 : decode cX7_act 221 = .ok (.iload 4, 2) := by decide +kernel
theorem dX7_act_223 : decode cX7_act 223 = .ok (.invokestatic 153, 3) := by decide +kernel
theorem dX7_act_226 : decode cX7_act 226 = .ok (.ifCond .eq 7, 3) := by decide +kernel
theorem dX7_act_229 : decode cX7_act 229 = .ok (.iconst 4, 1) := by decide +kernel
theorem dX7_act_230 : decode cX7_act 230 = .ok (.goto 4, 3) := by decide +kernel
theorem dX7_act_233 : decode cX7_act 233 = .ok (.iconst 0, 1) := by decide +kernel
theorem dX7_act_234 : decode cX7_act 234 = .ok (.invokestatic 160, 3) := by decide +kernel
theorem dX7_act_237 : decode cX7_act 237 = .ok (.goto 84, 3) := by decide +kernel
theorem dX7_act_240 : decode cX7_act 240 = .ok (.iload 6, 2) := by decide +kernel
theorem dX7_act_242 : decode cX7_act 242 = .ok (.iload_n 3, 1) := by decide +kernel
theorem dX7_act_243 : decode cX7_act 243 = .ok (.invokestatic 153, 3) := by decide +kernel
theorem dX7_act_246 : decode cX7_act 246 = .ok (.ifCond .eq 75, 3) := by decide +kernel
theorem dX7_act_249 : decode cX7_act 249 = .ok (.iload 6, 2) := by decide +kernel
theorem dX7_act_251 : decode cX7_act 251 = .ok (.iload 4, 2) := by decide +kernel
theorem dX7_act_253 : decode cX7_act 253 = .ok (.invokestatic 153, 3) := by decide +kernel
theorem dX7_act_256 : decode cX7_act 256 = .ok (.ifCond .ne 65, 3) := by decide +kernel
theorem dX7_act_259 : decode cX7_act 259 = .ok (.aload_n 1, 1) := by decide +kernel
theorem dX7_act_260 : decode cX7_act 260 = .ok (.iload 6, 2) := by decide +kernel
theorem dX7_act_262 : decode cX7_act 262 = .ok (.iload 6, 2) := by decide +kernel
theorem dX7_act_264 : decode cX7_act 264 = .ok (.iconst 1, 1) := by decide +kernel
theorem dX7_act_265 : decode cX7_act 265 = .ok (.iload_n 3, 1) := by decide +kernel
theorem dX7_act_266 : decode cX7_act 266 = .ok (.ishl, 1) := by decide +kernel
theorem dX7_act_267 : decode cX7_act 267 = .ok (.ixor, 1) := by decide +kernel
theorem dX7_act_268 : decode cX7_act 268 = .ok (.iconst 1, 1) := by decide +kernel
theorem dX7_act_269 : decode cX7_act 269 = .ok (.iload 4, 2) := by decide +kernel
theorem dX7_act_271 : decode cX7_act 271 = .ok (.ishl, 1) := by decide +kernel
theorem dX7_act_272 : decode cX7_act 272 = .ok (.ixor, 1) := by decide +kernel
theorem dX7_act_273 : decode cX7_act 273 = .ok (.invokestatic 163, 3) := by decide +kernel
theorem dX7_act_276 : decode cX7_act 276 = .ok (.goto 45, 3) := by decide +kernel
theorem dX7_act_279 : decode cX7_act 279 = .ok (.iload 6, 2) := by decide +kernel
theorem dX7_act_281 : decode cX7_act 281 = .ok (.iload_n 3, 1) := by decide +kernel
theorem dX7_act_282 : decode cX7_act 282 = .ok (.invokestatic 153, 3) := by decide +kernel
theorem dX7_act_285 : decode cX7_act 285 = .ok (.ifCond .eq 36, 3) := by decide +kernel
theorem dX7_act_288 : decode cX7_act 288 = .ok (.iload 6, 2) := by decide +kernel
theorem dX7_act_290 : decode cX7_act 290 = .ok (.iload 4, 2) := by decide +kernel
theorem dX7_act_292 : decode cX7_act 292 = .ok (.invokestatic 153, 3) := by decide +kernel
theorem dX7_act_295 : decode cX7_act 295 = .ok (.ifCond .eq 26, 3) := by decide +kernel
theorem dX7_act_298 : decode cX7_act 298 = .ok (.iload 6, 2) := by decide +kernel
theorem dX7_act_300 : decode cX7_act 300 = .ok (.iload 5, 2) := by decide +kernel
theorem dX7_act_302 : decode cX7_act 302 = .ok (.invokestatic 153, 3) := by decide +kernel
theorem dX7_act_305 : decode cX7_act 305 = .ok (.ifCond .ne 16, 3) := by decide +kernel
theorem dX7_act_308 : decode cX7_act 308 = .ok (.aload_n 1, 1) := by decide +kernel
theorem dX7_act_309 : decode cX7_act 309 = .ok (.iload 6, 2) := by decide +kernel
theorem dX7_act_311 : decode cX7_act 311 = .ok (.iload 6, 2) := by decide +kernel
theorem dX7_act_313 : decode cX7_act 313 = .ok (.iconst 1, 1) := by decide +kernel
theorem dX7_act_314 : decode cX7_act 314 = .ok (.iload 5, 2) := by decide +kernel
theorem dX7_act_316 : decode cX7_act 316 = .ok (.ishl, 1) := by decide +kernel
theorem dX7_act_317 : decode cX7_act 317 = .ok (.ior, 1) := by decide +kernel
theorem dX7_act_318 : decode cX7_act 318 = .ok (.invokestatic 163, 3) := by decide +kernel
theorem dX7_act_321 : decode cX7_act 321 = .ok (.iinc 6 1, 3) := by decide +kernel
theorem dX7_act_324 : decode cX7_act 324 = .ok (.goto (-298), 3) := by decide +kernel
theorem dX7_act_327 : decode cX7_act 327 = .ok (.return_, 1) := by decide +kernel
theorem dX7_column_0 : decode cX7_column 0 = .ok (.iconst 0, 1) := by decide +kernel
theorem dX7_column_1 : decode cX7_column 1 = .ok (.istore 4, 2) := by decide +kernel
theorem dX7_column_3 : decode cX7_column 3 = .ok (.iload 4, 2) := by decide +kernel
theorem dX7_column_5 : decode cX7_column 5 = .ok (.bipush 64, 2) := by decide +kernel
theorem dX7_column_7 : decode cX7_column 7 = .ok (.if_icmp .ge 26, 3) := by decide +kernel
theorem dX7_column_10 : decode cX7_column 10 = .ok (.aload_n 3, 1) := by decide +kernel
theorem dX7_column_11 : decode cX7_column 11 = .ok (.iload 4, 2) := by decide +kernel
theorem dX7_column_13 : decode cX7_column 13 = .ok (.iload 4, 2) := by decide +kernel
theorem dX7_column_15 : decode cX7_column 15 = .ok (.iconst 4, 1) := by decide +kernel
theorem dX7_column_16 : decode cX7_column 16 = .ok (.iload_n 2, 1) := by decide +kernel
theorem dX7_column_17 : decode cX7_column 17 = .ok (.imul, 1) := by decide +kernel
theorem dX7_column_18 : decode cX7_column 18 = .ok (.if_icmp .ne 7, 3) := by decide +kernel
theorem dX7_column_21 : decode cX7_column 21 = .ok (.lconst 1, 1) := by decide +kernel
theorem dX7_column_22 : decode cX7_column 22 = .ok (.goto 4, 3) := by decide +kernel
theorem dX7_column_25 : decode cX7_column 25 = .ok (.lconst 0, 1) := by decide +kernel
theorem dX7_column_26 : decode cX7_column 26 = .ok (.lastore, 1) := by decide +kernel
theorem dX7_column_27 : decode cX7_column 27 = .ok (.iinc 4 1, 3) := by decide +kernel
theorem dX7_column_30 : decode cX7_column 30 = .ok (.goto (-27), 3) := by decide +kernel
theorem dX7_column_33 : decode cX7_column 33 = .ok (.iconst 0, 1) := by decide +kernel
theorem dX7_column_34 : decode cX7_column 34 = .ok (.istore 4, 2) := by decide +kernel
theorem dX7_column_36 : decode cX7_column 36 = .ok (.iconst 0, 1) := by decide +kernel
theorem dX7_column_37 : decode cX7_column 37 = .ok (.istore 5, 2) := by decide +kernel
theorem dX7_column_39 : decode cX7_column 39 = .ok (.iload 5, 2) := by decide +kernel
theorem dX7_column_41 : decode cX7_column 41 = .ok (.aload_n 0, 1) := by decide +kernel
theorem dX7_column_42 : decode cX7_column 42 = .ok (.getfield 13, 3) := by decide +kernel
theorem dX7_column_45 : decode cX7_column 45 = .ok (.iload_n 1, 1) := by decide +kernel
theorem dX7_column_46 : decode cX7_column 46 = .ok (.iaload, 1) := by decide +kernel
theorem dX7_column_47 : decode cX7_column 47 = .ok (.if_icmp .ge 48, 3) := by decide +kernel
theorem dX7_column_50 : decode cX7_column 50 = .ok (.aload_n 0, 1) := by decide +kernel
theorem dX7_column_51 : decode cX7_column 51 = .ok (.aload_n 3, 1) := by decide +kernel
theorem dX7_column_52 : decode cX7_column 52 = .ok (.bipush 64, 2) := by decide +kernel
theorem dX7_column_54 : decode cX7_column 54 = .ok (.iload_n 1, 1) := by decide +kernel
theorem dX7_column_55 : decode cX7_column 55 = .ok (.imul, 1) := by decide +kernel
theorem dX7_column_56 : decode cX7_column 56 = .ok (.iload 5, 2) := by decide +kernel
theorem dX7_column_58 : decode cX7_column 58 = .ok (.iadd, 1) := by decide +kernel
theorem dX7_column_59 : decode cX7_column 59 = .ok (.invokevirtual 166, 3) := by decide +kernel
theorem dX7_column_62 : decode cX7_column 62 = .ok (.aload_n 0, 1) := by decide +kernel
theorem dX7_column_63 : decode cX7_column 63 = .ok (.getfield 17, 3) := by decide +kernel
theorem dX7_column_66 : decode cX7_column 66 = .ok (.bipush 64, 2) := by decide +kernel
theorem dX7_column_68 : decode cX7_column 68 = .ok (.iload_n 1, 1) := by decide +kernel
theorem dX7_column_69 : decode cX7_column 69 = .ok (.imul, 1) := by decide +kernel
theorem dX7_column_70 : decode cX7_column 70 = .ok (.iload 5, 2) := by decide +kernel
theorem dX7_column_72 : decode cX7_column 72 = .ok (.iadd, 1) := by decide +kernel
theorem dX7_column_73 : decode cX7_column 73 = .ok (.iaload, 1) := by decide +kernel
theorem dX7_column_74 : decode cX7_column 74 = .ok (.iconst 1, 1) := by decide +kernel
theorem dX7_column_75 : decode cX7_column 75 = .ok (.if_icmp .ne 10, 3) := by decide +kernel
theorem dX7_column_78 : decode cX7_column 78 = .ok (.iload 4, 2) := by decide +kernel
theorem dX7_column_80 : decode cX7_column 80 = .ok (.iconst 1, 1) := by decide +kernel
theorem dX7_column_81 : decode cX7_column 81 = .ok (.iadd, 1) := by decide +kernel
theorem dX7_column_82 : decode cX7_column 82 = .ok (.goto 5, 3) := by decide +kernel
theorem dX7_column_85 : decode cX7_column 85 = .ok (.iload 4, 2) := by decide +kernel
theorem dX7_column_87 : decode cX7_column 87 = .ok (.istore 4, 2) := by decide +kernel
theorem dX7_column_89 : decode cX7_column 89 = .ok (.iinc 5 1, 3) := by decide +kernel
theorem dX7_column_92 : decode cX7_column 92 = .ok (.goto (-53), 3) := by decide +kernel
theorem dX7_column_95 : decode cX7_column 95 = .ok (.iload 4, 2) := by decide +kernel
theorem dX7_column_97 : decode cX7_column 97 = .ok (.ireturn, 1) := by decide +kernel
theorem dX7_both_0 : decode cX7_both 0 = .ok (.aload_n 0, 1) := by decide +kernel
theorem dX7_both_1 : decode cX7_both 1 = .ok (.aload_n 0, 1) := by decide +kernel
theorem dX7_both_2 : decode cX7_both 2 = .ok (.iload_n 1, 1) := by decide +kernel
theorem dX7_both_3 : decode cX7_both 3 = .ok (.iload_n 3, 1) := by decide +kernel
theorem dX7_both_4 : decode cX7_both 4 = .ok (.aload_n 0, 1) := by decide +kernel
theorem dX7_both_5 : decode cX7_both 5 = .ok (.getfield 33, 3) := by decide +kernel
theorem dX7_both_8 : decode cX7_both 8 = .ok (.invokevirtual 170, 3) := by decide +kernel
theorem dX7_both_11 : decode cX7_both 11 = .ok (.putfield 174, 3) := by decide +kernel
theorem dX7_both_14 : decode cX7_both 14 = .ok (.aload_n 0, 1) := by decide +kernel
theorem dX7_both_15 : decode cX7_both 15 = .ok (.aload_n 0, 1) := by decide +kernel
theorem dX7_both_16 : decode cX7_both 16 = .ok (.iload_n 2, 1) := by decide +kernel
theorem dX7_both_17 : decode cX7_both 17 = .ok (.iload_n 3, 1) := by decide +kernel
theorem dX7_both_18 : decode cX7_both 18 = .ok (.aload_n 0, 1) := by decide +kernel
theorem dX7_both_19 : decode cX7_both 19 = .ok (.getfield 36, 3) := by decide +kernel
theorem dX7_both_22 : decode cX7_both 22 = .ok (.invokevirtual 170, 3) := by decide +kernel
theorem dX7_both_25 : decode cX7_both 25 = .ok (.putfield 177, 3) := by decide +kernel
theorem dX7_both_28 : decode cX7_both 28 = .ok (.aload_n 0, 1) := by decide +kernel
theorem dX7_both_29 : decode cX7_both 29 = .ok (.getfield 174, 3) := by decide +kernel
theorem dX7_both_32 : decode cX7_both 32 = .ok (.aload_n 0, 1) := by decide +kernel
theorem dX7_both_33 : decode cX7_both 33 = .ok (.getfield 177, 3) := by decide +kernel
theorem dX7_both_36 : decode cX7_both 36 = .ok (.if_icmp .ge 43, 3) := by decide +kernel
theorem dX7_both_39 : decode cX7_both 39 = .ok (.iconst 0, 1) := by decide +kernel
theorem dX7_both_40 : decode cX7_both 40 = .ok (.istore 4, 2) := by decide +kernel
theorem dX7_both_42 : decode cX7_both 42 = .ok (.iload 4, 2) := by decide +kernel
theorem dX7_both_44 : decode cX7_both 44 = .ok (.bipush 16, 2) := by decide +kernel
theorem dX7_both_46 : decode cX7_both 46 = .ok (.if_icmp .ge 20, 3) := by decide +kernel
theorem dX7_both_49 : decode cX7_both 49 = .ok (.aload_n 0, 1) := by decide +kernel
theorem dX7_both_50 : decode cX7_both 50 = .ok (.getfield 33, 3) := by decide +kernel
theorem dX7_both_53 : decode cX7_both 53 = .ok (.iconst 4, 1) := by decide +kernel
theorem dX7_both_54 : decode cX7_both 54 = .ok (.iload 4, 2) := by decide +kernel
theorem dX7_both_56 : decode cX7_both 56 = .ok (.imul, 1) := by decide +kernel
theorem dX7_both_57 : decode cX7_both 57 = .ok (.invokestatic 180, 3) := by decide +kernel
theorem dX7_both_60 : decode cX7_both 60 = .ok (.iinc 4 1, 3) := by decide +kernel
theorem dX7_both_63 : decode cX7_both 63 = .ok (.goto (-21), 3) := by decide +kernel
theorem dX7_both_66 : decode cX7_both 66 = .ok (.aload_n 0, 1) := by decide +kernel
theorem dX7_both_67 : decode cX7_both 67 = .ok (.dup, 1) := by decide +kernel
theorem dX7_both_68 : decode cX7_both 68 = .ok (.getfield 174, 3) := by decide +kernel
theorem dX7_both_71 : decode cX7_both 71 = .ok (.iconst 1, 1) := by decide +kernel
theorem dX7_both_72 : decode cX7_both 72 = .ok (.iadd, 1) := by decide +kernel
theorem dX7_both_73 : decode cX7_both 73 = .ok (.putfield 174, 3) := by decide +kernel
theorem dX7_both_76 : decode cX7_both 76 = .ok (.goto (-48), 3) := by decide +kernel
theorem dX7_both_79 : decode cX7_both 79 = .ok (.aload_n 0, 1) := by decide +kernel
theorem dX7_both_80 : decode cX7_both 80 = .ok (.getfield 177, 3) := by decide +kernel
theorem dX7_both_83 : decode cX7_both 83 = .ok (.aload_n 0, 1) := by decide +kernel
theorem dX7_both_84 : decode cX7_both 84 = .ok (.getfield 174, 3) := by decide +kernel
theorem dX7_both_87 : decode cX7_both 87 = .ok (.if_icmp .ge 43, 3) := by decide +kernel
theorem dX7_both_90 : decode cX7_both 90 = .ok (.iconst 0, 1) := by decide +kernel
theorem dX7_both_91 : decode cX7_both 91 = .ok (.istore 4, 2) := by decide +kernel
theorem dX7_both_93 : decode cX7_both 93 = .ok (.iload 4, 2) := by decide +kernel
theorem dX7_both_95 : decode cX7_both 95 = .ok (.bipush 16, 2) := by decide +kernel
theorem dX7_both_97 : decode cX7_both 97 = .ok (.if_icmp .ge 20, 3) := by decide +kernel
theorem dX7_both_100 : decode cX7_both 100 = .ok (.aload_n 0, 1) := by decide +kernel
theorem dX7_both_101 : decode cX7_both 101 = .ok (.getfield 36, 3) := by decide +kernel
theorem dX7_both_104 : decode cX7_both 104 = .ok (.iconst 4, 1) := by decide +kernel
theorem dX7_both_105 : decode cX7_both 105 = .ok (.iload 4, 2) := by decide +kernel
theorem dX7_both_107 : decode cX7_both 107 = .ok (.imul, 1) := by decide +kernel
theorem dX7_both_108 : decode cX7_both 108 = .ok (.invokestatic 180, 3) := by decide +kernel
theorem dX7_both_111 : decode cX7_both 111 = .ok (.iinc 4 1, 3) := by decide +kernel
theorem dX7_both_114 : decode cX7_both 114 = .ok (.goto (-21), 3) := by decide +kernel
theorem dX7_both_117 : decode cX7_both 117 = .ok (.aload_n 0, 1) := by decide +kernel
theorem dX7_both_118 : decode cX7_both 118 = .ok (.dup, 1) := by decide +kernel
theorem dX7_both_119 : decode cX7_both 119 = .ok (.getfield 177, 3) := by decide +kernel
theorem dX7_both_122 : decode cX7_both 122 = .ok (.iconst 1, 1) := by decide +kernel
theorem dX7_both_123 : decode cX7_both 123 = .ok (.iadd, 1) := by decide +kernel
theorem dX7_both_124 : decode cX7_both 124 = .ok (.putfield 177, 3) := by decide +kernel
theorem dX7_both_127 : decode cX7_both 127 = .ok (.goto (-48), 3) := by decide +kernel
theorem dX7_both_130 : decode cX7_both 130 = .ok (.return_, 1) := by decide +kernel
theorem dX7_isTurned_0 : decode cX7_isTurned 0 = .ok (.iconst 1, 1) := by decide +kernel
theorem dX7_isTurned_1 : decode cX7_isTurned 1 = .ok (.istore 4, 2) := by decide +kernel
theorem dX7_isTurned_3 : decode cX7_isTurned 3 = .ok (.iconst 0, 1) := by decide +kernel
theorem dX7_isTurned_4 : decode cX7_isTurned 4 = .ok (.istore 5, 2) := by decide +kernel
theorem dX7_isTurned_6 : decode cX7_isTurned 6 = .ok (.iload 5, 2) := by decide +kernel
theorem dX7_isTurned_8 : decode cX7_isTurned 8 = .ok (.aload_n 0, 1) := by decide +kernel
theorem dX7_isTurned_9 : decode cX7_isTurned 9 = .ok (.invokevirtual 149, 3) := by decide +kernel
theorem dX7_isTurned_12 : decode cX7_isTurned 12 = .ok (.if_icmp .ge 107, 3) := by decide +kernel
theorem dX7_isTurned_15 : decode cX7_isTurned 15 = .ok (.iload 4, 2) := by decide +kernel
theorem dX7_isTurned_17 : decode cX7_isTurned 17 = .ok (.ifCond .eq 102, 3) := by decide +kernel
theorem dX7_isTurned_20 : decode cX7_isTurned 20 = .ok (.aload_n 0, 1) := by decide +kernel
theorem dX7_isTurned_21 : decode cX7_isTurned 21 = .ok (.iload_n 1, 1) := by decide +kernel
theorem dX7_isTurned_22 : decode cX7_isTurned 22 = .ok (.iload_n 2, 1) := by decide +kernel
theorem dX7_isTurned_23 : decode cX7_isTurned 23 = .ok (.iload 5, 2) := by decide +kernel
theorem dX7_isTurned_25 : decode cX7_isTurned 25 = .ok (.invokevirtual 183, 3) := by decide +kernel
theorem dX7_isTurned_28 : decode cX7_isTurned 28 = .ok (.iconst 0, 1) := by decide +kernel
theorem dX7_isTurned_29 : decode cX7_isTurned 29 = .ok (.istore 6, 2) := by decide +kernel
theorem dX7_isTurned_31 : decode cX7_isTurned 31 = .ok (.iload 6, 2) := by decide +kernel
theorem dX7_isTurned_33 : decode cX7_isTurned 33 = .ok (.aload_n 0, 1) := by decide +kernel
theorem dX7_isTurned_34 : decode cX7_isTurned 34 = .ok (.invokevirtual 149, 3) := by decide +kernel
theorem dX7_isTurned_37 : decode cX7_isTurned 37 = .ok (.if_icmp .ge 76, 3) := by decide +kernel
theorem dX7_isTurned_40 : decode cX7_isTurned 40 = .ok (.aload_n 0, 1) := by decide +kernel
theorem dX7_isTurned_41 : decode cX7_isTurned 41 = .ok (.getfield 36, 3) := by decide +kernel
theorem dX7_isTurned_44 : decode cX7_isTurned 44 = .ok (.iconst 4, 1) := by decide +kernel
theorem dX7_isTurned_45 : decode cX7_isTurned 45 = .ok (.iload 6, 2) := by decide +kernel
theorem dX7_isTurned_47 : decode cX7_isTurned 47 = .ok (.imul, 1) := by decide +kernel
theorem dX7_isTurned_48 : decode cX7_isTurned 48 = .ok (.iload_n 3, 1) := by decide +kernel
theorem dX7_isTurned_49 : decode cX7_isTurned 49 = .ok (.invokestatic 160, 3) := by decide +kernel
theorem dX7_isTurned_52 : decode cX7_isTurned 52 = .ok (.iconst 0, 1) := by decide +kernel
theorem dX7_isTurned_53 : decode cX7_isTurned 53 = .ok (.istore 7, 2) := by decide +kernel
theorem dX7_isTurned_55 : decode cX7_isTurned 55 = .ok (.iload 7, 2) := by decide +kernel
theorem dX7_isTurned_57 : decode cX7_isTurned 57 = .ok (.iconst 4, 1) := by decide +kernel
theorem dX7_isTurned_58 : decode cX7_isTurned 58 = .ok (.if_icmp .ge 49, 3) := by decide +kernel
theorem dX7_isTurned_61 : decode cX7_isTurned 61 = .ok (.iload 4, 2) := by decide +kernel
theorem dX7_isTurned_63 : decode cX7_isTurned 63 = .ok (.ifCond .eq 35, 3) := by decide +kernel
theorem dX7_isTurned_66 : decode cX7_isTurned 66 = .ok (.aload_n 0, 1) := by decide +kernel
theorem dX7_isTurned_67 : decode cX7_isTurned 67 = .ok (.getfield 33, 3) := by decide +kernel
theorem dX7_isTurned_70 : decode cX7_isTurned 70 = .ok (.iconst 4, 1) := by decide +kernel
theorem dX7_isTurned_71 : decode cX7_isTurned 71 = .ok (.iload 6, 2) := by decide +kernel
theorem dX7_isTurned_73 : decode cX7_isTurned 73 = .ok (.imul, 1) := by decide +kernel
theorem dX7_isTurned_74 : decode cX7_isTurned 74 = .ok (.iload 7, 2) := by decide +kernel
theorem dX7_isTurned_76 : decode cX7_isTurned 76 = .ok (.iadd, 1) := by decide +kernel
theorem dX7_isTurned_77 : decode cX7_isTurned 77 = .ok (.laload, 1) := by decide +kernel
theorem dX7_isTurned_78 : decode cX7_isTurned 78 = .ok (.aload_n 0, 1) := by decide +kernel
theorem dX7_isTurned_79 : decode cX7_isTurned 79 = .ok (.getfield 36, 3) := by decide +kernel
theorem dX7_isTurned_82 : decode cX7_isTurned 82 = .ok (.iconst 4, 1) := by decide +kernel
theorem dX7_isTurned_83 : decode cX7_isTurned 83 = .ok (.iload 6, 2) := by decide +kernel
theorem dX7_isTurned_85 : decode cX7_isTurned 85 = .ok (.imul, 1) := by decide +kernel
theorem dX7_isTurned_86 : decode cX7_isTurned 86 = .ok (.iload 7, 2) := by decide +kernel
theorem dX7_isTurned_88 : decode cX7_isTurned 88 = .ok (.iadd, 1) := by decide +kernel
theorem dX7_isTurned_89 : decode cX7_isTurned 89 = .ok (.laload, 1) := by decide +kernel
theorem dX7_isTurned_90 : decode cX7_isTurned 90 = .ok (.lcmp, 1) := by decide +kernel
theorem dX7_isTurned_91 : decode cX7_isTurned 91 = .ok (.ifCond .ne 7, 3) := by decide +kernel
theorem dX7_isTurned_94 : decode cX7_isTurned 94 = .ok (.iconst 1, 1) := by decide +kernel
theorem dX7_isTurned_95 : decode cX7_isTurned 95 = .ok (.goto 4, 3) := by decide +kernel
theorem dX7_isTurned_98 : decode cX7_isTurned 98 = .ok (.iconst 0, 1) := by decide +kernel
theorem dX7_isTurned_99 : decode cX7_isTurned 99 = .ok (.istore 4, 2) := by decide +kernel
theorem dX7_isTurned_101 : decode cX7_isTurned 101 = .ok (.iinc 7 1, 3) := by decide +kernel
theorem dX7_isTurned_104 : decode cX7_isTurned 104 = .ok (.goto (-49), 3) := by decide +kernel
theorem dX7_isTurned_107 : decode cX7_isTurned 107 = .ok (.iinc 6 1, 3) := by decide +kernel
theorem dX7_isTurned_110 : decode cX7_isTurned 110 = .ok (.goto (-79), 3) := by decide +kernel
theorem dX7_isTurned_113 : decode cX7_isTurned 113 = .ok (.iinc 5 1, 3) := by decide +kernel
theorem dX7_isTurned_116 : decode cX7_isTurned 116 = .ok (.goto (-110), 3) := by decide +kernel
theorem dX7_isTurned_119 : decode cX7_isTurned 119 = .ok (.iload 4, 2) := by decide +kernel
theorem dX7_isTurned_121 : decode cX7_isTurned 121 = .ok (.ireturn, 1) := by decide +kernel
theorem dX7_equal_0 : decode cX7_equal 0 = .ok (.aload_n 0, 1) := by decide +kernel
theorem dX7_equal_1 : decode cX7_equal 1 = .ok (.iload_n 1, 1) := by decide +kernel
theorem dX7_equal_2 : decode cX7_equal 2 = .ok (.invokestatic 88, 3) := by decide +kernel
theorem dX7_equal_5 : decode cX7_equal 5 = .ok (.ifCond .eq 14, 3) := by decide +kernel
theorem dX7_equal_8 : decode cX7_equal 8 = .ok (.iload_n 2, 1) := by decide +kernel
theorem dX7_equal_9 : decode cX7_equal 9 = .ok (.invokestatic 88, 3) := by decide +kernel
theorem dX7_equal_12 : decode cX7_equal 12 = .ok (.ifCond .eq 7, 3) := by decide +kernel
theorem dX7_equal_15 : decode cX7_equal 15 = .ok (.iconst 0, 1) := by decide +kernel
theorem dX7_equal_16 : decode cX7_equal 16 = .ok (.goto 4, 3) := by decide +kernel
theorem dX7_equal_19 : decode cX7_equal 19 = .ok (.iconst 1, 1) := by decide +kernel
theorem dX7_equal_20 : decode cX7_equal 20 = .ok (.putfield 60, 3) := by decide +kernel
theorem dX7_equal_23 : decode cX7_equal 23 = .ok (.iconst 0, 1) := by decide +kernel
theorem dX7_equal_24 : decode cX7_equal 24 = .ok (.istore_n 3, 1) := by decide +kernel
theorem dX7_equal_25 : decode cX7_equal 25 = .ok (.iload_n 3, 1) := by decide +kernel
theorem dX7_equal_26 : decode cX7_equal 26 = .ok (.bipush 8, 2) := by decide +kernel
theorem dX7_equal_28 : decode cX7_equal 28 = .ok (.if_icmp .ge 41, 3) := by decide +kernel
theorem dX7_equal_31 : decode cX7_equal 31 = .ok (.aload_n 0, 1) := by decide +kernel
theorem dX7_equal_32 : decode cX7_equal 32 = .ok (.getfield 60, 3) := by decide +kernel
theorem dX7_equal_35 : decode cX7_equal 35 = .ok (.ifCond .ne 34, 3) := by decide +kernel
theorem dX7_equal_38 : decode cX7_equal 38 = .ok (.aload_n 0, 1) := by decide +kernel
theorem dX7_equal_39 : decode cX7_equal 39 = .ok (.iload_n 1, 1) := by decide +kernel
theorem dX7_equal_40 : decode cX7_equal 40 = .ok (.iload_n 2, 1) := by decide +kernel
theorem dX7_equal_41 : decode cX7_equal 41 = .ok (.iload_n 3, 1) := by decide +kernel
theorem dX7_equal_42 : decode cX7_equal 42 = .ok (.invokevirtual 186, 3) := by decide +kernel
theorem dX7_equal_45 : decode cX7_equal 45 = .ok (.ifCond .eq 18, 3) := by decide +kernel
theorem dX7_equal_48 : decode cX7_equal 48 = .ok (.aload_n 0, 1) := by decide +kernel
theorem dX7_equal_49 : decode cX7_equal 49 = .ok (.iload_n 3, 1) := by decide +kernel
theorem dX7_equal_50 : decode cX7_equal 50 = .ok (.putfield 190, 3) := by decide +kernel
theorem dX7_equal_53 : decode cX7_equal 53 = .ok (.iload_n 3, 1) := by decide +kernel
theorem dX7_equal_54 : decode cX7_equal 54 = .ok (.ifCond .ne 7, 3) := by decide +kernel
theorem dX7_equal_57 : decode cX7_equal 57 = .ok (.iconst 1, 1) := by decide +kernel
theorem dX7_equal_58 : decode cX7_equal 58 = .ok (.goto 4, 3) := by decide +kernel
theorem dX7_equal_61 : decode cX7_equal 61 = .ok (.iconst 2, 1) := by decide +kernel
theorem dX7_equal_62 : decode cX7_equal 62 = .ok (.ireturn, 1) := by decide +kernel
theorem dX7_equal_63 : decode cX7_equal 63 = .ok (.iinc 3 1, 3) := by decide +kernel
theorem dX7_equal_66 : decode cX7_equal 66 = .ok (.goto (-41), 3) := by decide +kernel
theorem dX7_equal_69 : decode cX7_equal 69 = .ok (.iconst 0, 1) := by decide +kernel
theorem dX7_equal_70 : decode cX7_equal 70 = .ok (.ireturn, 1) := by decide +kernel
theorem dX7_phase_0 : decode cX7_phase 0 = .ok (.aload_n 0, 1) := by decide +kernel
theorem dX7_phase_1 : decode cX7_phase 1 = .ok (.iconst 0, 1) := by decide +kernel
theorem dX7_phase_2 : decode cX7_phase 2 = .ok (.putfield 60, 3) := by decide +kernel
theorem dX7_phase_5 : decode cX7_phase 5 = .ok (.aload_n 0, 1) := by decide +kernel
theorem dX7_phase_6 : decode cX7_phase 6 = .ok (.getfield 190, 3) := by decide +kernel
theorem dX7_phase_9 : decode cX7_phase 9 = .ok (.ireturn, 1) := by decide +kernel
theorem dX7_differ_0 : decode cX7_differ 0 = .ok (.aload_n 0, 1) := by decide +kernel
theorem dX7_differ_1 : decode cX7_differ 1 = .ok (.iload_n 1, 1) := by decide +kernel
theorem dX7_differ_2 : decode cX7_differ 2 = .ok (.invokestatic 88, 3) := by decide +kernel
theorem dX7_differ_5 : decode cX7_differ 5 = .ok (.ifCond .eq 14, 3) := by decide +kernel
theorem dX7_differ_8 : decode cX7_differ 8 = .ok (.iload_n 2, 1) := by decide +kernel
theorem dX7_differ_9 : decode cX7_differ 9 = .ok (.invokestatic 88, 3) := by decide +kernel
theorem dX7_differ_12 : decode cX7_differ 12 = .ok (.ifCond .eq 7, 3) := by decide +kernel
theorem dX7_differ_15 : decode cX7_differ 15 = .ok (.iconst 0, 1) := by decide +kernel
theorem dX7_differ_16 : decode cX7_differ 16 = .ok (.goto 4, 3) := by decide +kernel
theorem dX7_differ_19 : decode cX7_differ 19 = .ok (.iconst 1, 1) := by decide +kernel
theorem dX7_differ_20 : decode cX7_differ 20 = .ok (.putfield 60, 3) := by decide +kernel
theorem dX7_differ_23 : decode cX7_differ 23 = .ok (.aload_n 0, 1) := by decide +kernel
theorem dX7_differ_24 : decode cX7_differ 24 = .ok (.getfield 60, 3) := by decide +kernel
theorem dX7_differ_27 : decode cX7_differ 27 = .ok (.ifCond .le 5, 3) := by decide +kernel
theorem dX7_differ_30 : decode cX7_differ 30 = .ok (.iconst 0, 1) := by decide +kernel
theorem dX7_differ_31 : decode cX7_differ 31 = .ok (.ireturn, 1) := by decide +kernel
theorem dX7_differ_32 : decode cX7_differ 32 = .ok (.iconst 0, 1) := by decide +kernel
theorem dX7_differ_33 : decode cX7_differ 33 = .ok (.istore_n 3, 1) := by decide +kernel
theorem dX7_differ_34 : decode cX7_differ 34 = .ok (.iload_n 3, 1) := by decide +kernel
theorem dX7_differ_35 : decode cX7_differ 35 = .ok (.aload_n 0, 1) := by decide +kernel
theorem dX7_differ_36 : decode cX7_differ 36 = .ok (.invokevirtual 149, 3) := by decide +kernel
theorem dX7_differ_39 : decode cX7_differ 39 = .ok (.if_icmp .ge 85, 3) := by decide +kernel
theorem dX7_differ_42 : decode cX7_differ 42 = .ok (.aload_n 0, 1) := by decide +kernel
theorem dX7_differ_43 : decode cX7_differ 43 = .ok (.iload_n 1, 1) := by decide +kernel
theorem dX7_differ_44 : decode cX7_differ 44 = .ok (.iload_n 2, 1) := by decide +kernel
theorem dX7_differ_45 : decode cX7_differ 45 = .ok (.iload_n 3, 1) := by decide +kernel
theorem dX7_differ_46 : decode cX7_differ 46 = .ok (.invokevirtual 183, 3) := by decide +kernel
theorem dX7_differ_49 : decode cX7_differ 49 = .ok (.iconst 0, 1) := by decide +kernel
theorem dX7_differ_50 : decode cX7_differ 50 = .ok (.istore 4, 2) := by decide +kernel
theorem dX7_differ_52 : decode cX7_differ 52 = .ok (.iload 4, 2) := by decide +kernel
theorem dX7_differ_54 : decode cX7_differ 54 = .ok (.aload_n 0, 1) := by decide +kernel
theorem dX7_differ_55 : decode cX7_differ 55 = .ok (.invokevirtual 149, 3) := by decide +kernel
theorem dX7_differ_58 : decode cX7_differ 58 = .ok (.if_icmp .ge 60, 3) := by decide +kernel
theorem dX7_differ_61 : decode cX7_differ 61 = .ok (.iconst 0, 1) := by decide +kernel
theorem dX7_differ_62 : decode cX7_differ 62 = .ok (.istore 5, 2) := by decide +kernel
theorem dX7_differ_64 : decode cX7_differ 64 = .ok (.iload 5, 2) := by decide +kernel
theorem dX7_differ_66 : decode cX7_differ 66 = .ok (.iconst 4, 1) := by decide +kernel
theorem dX7_differ_67 : decode cX7_differ 67 = .ok (.if_icmp .ge 45, 3) := by decide +kernel
theorem dX7_differ_70 : decode cX7_differ 70 = .ok (.aload_n 0, 1) := by decide +kernel
theorem dX7_differ_71 : decode cX7_differ 71 = .ok (.getfield 33, 3) := by decide +kernel
theorem dX7_differ_74 : decode cX7_differ 74 = .ok (.iconst 4, 1) := by decide +kernel
theorem dX7_differ_75 : decode cX7_differ 75 = .ok (.iload 4, 2) := by decide +kernel
theorem dX7_differ_77 : decode cX7_differ 77 = .ok (.imul, 1) := by decide +kernel
theorem dX7_differ_78 : decode cX7_differ 78 = .ok (.iload 5, 2) := by decide +kernel
theorem dX7_differ_80 : decode cX7_differ 80 = .ok (.iadd, 1) := by decide +kernel
theorem dX7_differ_81 : decode cX7_differ 81 = .ok (.laload, 1) := by decide +kernel
theorem dX7_differ_82 : decode cX7_differ 82 = .ok (.aload_n 0, 1) := by decide +kernel
theorem dX7_differ_83 : decode cX7_differ 83 = .ok (.getfield 36, 3) := by decide +kernel
theorem dX7_differ_86 : decode cX7_differ 86 = .ok (.iconst 4, 1) := by decide +kernel
theorem dX7_differ_87 : decode cX7_differ 87 = .ok (.iload 4, 2) := by decide +kernel
theorem dX7_differ_89 : decode cX7_differ 89 = .ok (.imul, 1) := by decide +kernel
theorem dX7_differ_90 : decode cX7_differ 90 = .ok (.iload 5, 2) := by decide +kernel
theorem dX7_differ_92 : decode cX7_differ 92 = .ok (.iadd, 1) := by decide +kernel
theorem dX7_differ_93 : decode cX7_differ 93 = .ok (.laload, 1) := by decide +kernel
theorem dX7_differ_94 : decode cX7_differ 94 = .ok (.lcmp, 1) := by decide +kernel
theorem dX7_differ_95 : decode cX7_differ 95 = .ok (.ifCond .eq 11, 3) := by decide +kernel
theorem dX7_differ_98 : decode cX7_differ 98 = .ok (.bipush 16, 2) := by decide +kernel
theorem dX7_differ_100 : decode cX7_differ 100 = .ok (.iload_n 3, 1) := by decide +kernel
theorem dX7_differ_101 : decode cX7_differ 101 = .ok (.imul, 1) := by decide +kernel
theorem dX7_differ_102 : decode cX7_differ 102 = .ok (.iload 4, 2) := by decide +kernel
theorem dX7_differ_104 : decode cX7_differ 104 = .ok (.iadd, 1) := by decide +kernel
theorem dX7_differ_105 : decode cX7_differ 105 = .ok (.ireturn, 1) := by decide +kernel
theorem dX7_differ_106 : decode cX7_differ 106 = .ok (.iinc 5 1, 3) := by decide +kernel
theorem dX7_differ_109 : decode cX7_differ 109 = .ok (.goto (-45), 3) := by decide +kernel
theorem dX7_differ_112 : decode cX7_differ 112 = .ok (.iinc 4 1, 3) := by decide +kernel
theorem dX7_differ_115 : decode cX7_differ 115 = .ok (.goto (-63), 3) := by decide +kernel
theorem dX7_differ_118 : decode cX7_differ 118 = .ok (.iinc 3 1, 3) := by decide +kernel
theorem dX7_differ_121 : decode cX7_differ 121 = .ok (.goto (-87), 3) := by decide +kernel
theorem dX7_differ_124 : decode cX7_differ 124 = .ok (.iconst (-1), 1) := by decide +kernel
theorem dX7_differ_125 : decode cX7_differ 125 = .ok (.ireturn, 1) := by decide +kernel
theorem dX7_size2_0 : decode cX7_size2 0 = .ok (.iload_n 0, 1) := by decide +kernel
theorem dX7_size2_1 : decode cX7_size2 1 = .ok (.ifCond .ge 8, 3) := by decide +kernel
theorem dX7_size2_4 : decode cX7_size2 4 = .ok (.iload_n 0, 1) := by decide +kernel
theorem dX7_size2_5 : decode cX7_size2 5 = .ok (.ineg, 1) := by decide +kernel
theorem dX7_size2_6 : decode cX7_size2 6 = .ok (.goto 4, 3) := by decide +kernel
theorem dX7_size2_9 : decode cX7_size2 9 = .ok (.iload_n 0, 1) := by decide +kernel
theorem dX7_size2_10 : decode cX7_size2 10 = .ok (.ireturn, 1) := by decide +kernel
theorem dX7_product_0 : decode cX7_product 0 = .ok (.iload_n 0, 1) := by decide +kernel
theorem dX7_product_1 : decode cX7_product 1 = .ok (.invokestatic 193, 3) := by decide +kernel
theorem dX7_product_4 : decode cX7_product 4 = .ok (.istore_n 2, 1) := by decide +kernel
theorem dX7_product_5 : decode cX7_product 5 = .ok (.iload_n 1, 1) := by decide +kernel
theorem dX7_product_6 : decode cX7_product 6 = .ok (.invokestatic 193, 3) := by decide +kernel
theorem dX7_product_9 : decode cX7_product 9 = .ok (.istore_n 3, 1) := by decide +kernel
theorem dX7_product_10 : decode cX7_product 10 = .ok (.bipush 6, 2) := by decide +kernel
theorem dX7_product_12 : decode cX7_product 12 = .ok (.iload_n 2, 1) := by decide +kernel
theorem dX7_product_13 : decode cX7_product 13 = .ok (.isub, 1) := by decide +kernel
theorem dX7_product_14 : decode cX7_product 14 = .ok (.iload_n 3, 1) := by decide +kernel
theorem dX7_product_15 : decode cX7_product 15 = .ok (.isub, 1) := by decide +kernel
theorem dX7_product_16 : decode cX7_product 16 = .ok (.istore 4, 2) := by decide +kernel
theorem dX7_product_18 : decode cX7_product 18 = .ok (.iload_n 2, 1) := by decide +kernel
theorem dX7_product_19 : decode cX7_product 19 = .ok (.iconst 1, 1) := by decide +kernel
theorem dX7_product_20 : decode cX7_product 20 = .ok (.if_icmp .ne 8, 3) := by decide +kernel
theorem dX7_product_23 : decode cX7_product 23 = .ok (.iload_n 3, 1) := by decide +kernel
theorem dX7_product_24 : decode cX7_product 24 = .ok (.iconst 3, 1) := by decide +kernel
theorem dX7_product_25 : decode cX7_product 25 = .ok (.if_icmp .eq 23, 3) := by decide +kernel
theorem dX7_product_28 : decode cX7_product 28 = .ok (.iload_n 2, 1) := by decide +kernel
theorem dX7_product_29 : decode cX7_product 29 = .ok (.iconst 2, 1) := by decide +kernel
theorem dX7_product_30 : decode cX7_product 30 = .ok (.if_icmp .ne 8, 3) := by decide +kernel
theorem dX7_product_33 : decode cX7_product 33 = .ok (.iload_n 3, 1) := by decide +kernel
theorem dX7_product_34 : decode cX7_product 34 = .ok (.iconst 1, 1) := by decide +kernel
theorem dX7_product_35 : decode cX7_product 35 = .ok (.if_icmp .eq 13, 3) := by decide +kernel
theorem dX7_product_38 : decode cX7_product 38 = .ok (.iload_n 2, 1) := by decide +kernel
theorem dX7_product_39 : decode cX7_product 39 = .ok (.iconst 3, 1) := by decide +kernel
theorem dX7_product_40 : decode cX7_product 40 = .ok (.if_icmp .ne 12, 3) := by decide +kernel
theorem dX7_product_43 : decode cX7_product 43 = .ok (.iload_n 3, 1) := by decide +kernel
theorem dX7_product_44 : decode cX7_product 44 = .ok (.iconst 2, 1) := by decide +kernel
theorem dX7_product_45 : decode cX7_product 45 = .ok (.if_icmp .ne 7, 3) := by decide +kernel
theorem dX7_product_48 : decode cX7_product 48 = .ok (.iconst 1, 1) := by decide +kernel
theorem dX7_product_49 : decode cX7_product 49 = .ok (.goto 4, 3) := by decide +kernel
theorem dX7_product_52 : decode cX7_product 52 = .ok (.iconst 0, 1) := by decide +kernel
theorem dX7_product_53 : decode cX7_product 53 = .ok (.istore 5, 2) := by decide +kernel
theorem dX7_product_55 : decode cX7_product 55 = .ok (.iload_n 0, 1) := by decide +kernel
theorem dX7_product_56 : decode cX7_product 56 = .ok (.ifCond .ge 7, 3) := by decide +kernel
theorem dX7_product_59 : decode cX7_product 59 = .ok (.iconst 1, 1) := by decide +kernel
theorem dX7_product_60 : decode cX7_product 60 = .ok (.goto 4, 3) := by decide +kernel
theorem dX7_product_63 : decode cX7_product 63 = .ok (.iconst 0, 1) := by decide +kernel
theorem dX7_product_64 : decode cX7_product 64 = .ok (.iload_n 1, 1) := by decide +kernel
theorem dX7_product_65 : decode cX7_product 65 = .ok (.ifCond .ge 7, 3) := by decide +kernel
theorem dX7_product_68 : decode cX7_product 68 = .ok (.iconst 1, 1) := by decide +kernel
theorem dX7_product_69 : decode cX7_product 69 = .ok (.goto 4, 3) := by decide +kernel
theorem dX7_product_72 : decode cX7_product 72 = .ok (.iconst 0, 1) := by decide +kernel
theorem dX7_product_73 : decode cX7_product 73 = .ok (.if_icmp .eq 7, 3) := by decide +kernel
theorem dX7_product_76 : decode cX7_product 76 = .ok (.iconst 1, 1) := by decide +kernel
theorem dX7_product_77 : decode cX7_product 77 = .ok (.goto 4, 3) := by decide +kernel
theorem dX7_product_80 : decode cX7_product 80 = .ok (.iconst 0, 1) := by decide +kernel
theorem dX7_product_81 : decode cX7_product 81 = .ok (.istore 6, 2) := by decide +kernel
theorem dX7_product_83 : decode cX7_product 83 = .ok (.iload 5, 2) := by decide +kernel
theorem dX7_product_85 : decode cX7_product 85 = .ok (.iload 6, 2) := by decide +kernel
theorem dX7_product_87 : decode cX7_product 87 = .ok (.if_icmp .eq 8, 3) := by decide +kernel
theorem dX7_product_90 : decode cX7_product 90 = .ok (.iload 4, 2) := by decide +kernel
theorem dX7_product_92 : decode cX7_product 92 = .ok (.goto 6, 3) := by decide +kernel
theorem dX7_product_95 : decode cX7_product 95 = .ok (.iload 4, 2) := by decide +kernel
theorem dX7_product_97 : decode cX7_product 97 = .ok (.ineg, 1) := by decide +kernel
theorem dX7_product_98 : decode cX7_product 98 = .ok (.ireturn, 1) := by decide +kernel
theorem dX7_image_0 : decode cX7_image 0 = .ok (.iload_n 1, 1) := by decide +kernel
theorem dX7_image_1 : decode cX7_image 1 = .ok (.invokestatic 193, 3) := by decide +kernel
theorem dX7_image_4 : decode cX7_image 4 = .ok (.iconst 1, 1) := by decide +kernel
theorem dX7_image_5 : decode cX7_image 5 = .ok (.if_icmp .ne 10, 3) := by decide +kernel
theorem dX7_image_8 : decode cX7_image 8 = .ok (.aload_n 0, 1) := by decide +kernel
theorem dX7_image_9 : decode cX7_image 9 = .ok (.getfield 196, 3) := by decide +kernel
theorem dX7_image_12 : decode cX7_image 12 = .ok (.goto 29, 3) := by decide +kernel
theorem dX7_image_15 : decode cX7_image 15 = .ok (.iload_n 1, 1) := by decide +kernel
theorem dX7_image_16 : decode cX7_image 16 = .ok (.invokestatic 193, 3) := by decide +kernel
theorem dX7_image_19 : decode cX7_image 19 = .ok (.iconst 3, 1) := by decide +kernel
theorem dX7_image_20 : decode cX7_image 20 = .ok (.if_icmp .ne 10, 3) := by decide +kernel
theorem dX7_image_23 : decode cX7_image 23 = .ok (.aload_n 0, 1) := by decide +kernel
theorem dX7_image_24 : decode cX7_image 24 = .ok (.getfield 199, 3) := by decide +kernel
theorem dX7_image_27 : decode cX7_image 27 = .ok (.goto 14, 3) := by decide +kernel
theorem dX7_image_30 : decode cX7_image 30 = .ok (.aload_n 0, 1) := by decide +kernel
theorem dX7_image_31 : decode cX7_image 31 = .ok (.getfield 196, 3) := by decide +kernel
theorem dX7_image_34 : decode cX7_image 34 = .ok (.aload_n 0, 1) := by decide +kernel
theorem dX7_image_35 : decode cX7_image 35 = .ok (.getfield 199, 3) := by decide +kernel
theorem dX7_image_38 : decode cX7_image 38 = .ok (.invokestatic 202, 3) := by decide +kernel
theorem dX7_image_41 : decode cX7_image 41 = .ok (.istore_n 2, 1) := by decide +kernel
theorem dX7_image_42 : decode cX7_image 42 = .ok (.iload_n 1, 1) := by decide +kernel
theorem dX7_image_43 : decode cX7_image 43 = .ok (.ifCond .ge 8, 3) := by decide +kernel
theorem dX7_image_46 : decode cX7_image 46 = .ok (.iload_n 2, 1) := by decide +kernel
theorem dX7_image_47 : decode cX7_image 47 = .ok (.ineg, 1) := by decide +kernel
theorem dX7_image_48 : decode cX7_image 48 = .ok (.goto 4, 3) := by decide +kernel
theorem dX7_image_51 : decode cX7_image 51 = .ok (.iload_n 2, 1) := by decide +kernel
theorem dX7_image_52 : decode cX7_image 52 = .ok (.ireturn, 1) := by decide +kernel
theorem dX7_joinLeft_0 : decode cX7_joinLeft 0 = .ok (.aload_n 0, 1) := by decide +kernel
theorem dX7_joinLeft_1 : decode cX7_joinLeft 1 = .ok (.aload_n 0, 1) := by decide +kernel
theorem dX7_joinLeft_2 : decode cX7_joinLeft 2 = .ok (.aload_n 0, 1) := by decide +kernel
theorem dX7_joinLeft_3 : decode cX7_joinLeft 3 = .ok (.getfield 205, 3) := by decide +kernel
theorem dX7_joinLeft_6 : decode cX7_joinLeft 6 = .ok (.invokevirtual 208, 3) := by decide +kernel
theorem dX7_joinLeft_9 : decode cX7_joinLeft 9 = .ok (.putfield 205, 3) := by decide +kernel
theorem dX7_joinLeft_12 : decode cX7_joinLeft 12 = .ok (.aload_n 0, 1) := by decide +kernel
theorem dX7_joinLeft_13 : decode cX7_joinLeft 13 = .ok (.aload_n 0, 1) := by decide +kernel
theorem dX7_joinLeft_14 : decode cX7_joinLeft 14 = .ok (.aload_n 0, 1) := by decide +kernel
theorem dX7_joinLeft_15 : decode cX7_joinLeft 15 = .ok (.getfield 211, 3) := by decide +kernel
theorem dX7_joinLeft_18 : decode cX7_joinLeft 18 = .ok (.invokevirtual 208, 3) := by decide +kernel
theorem dX7_joinLeft_21 : decode cX7_joinLeft 21 = .ok (.putfield 211, 3) := by decide +kernel
theorem dX7_joinLeft_24 : decode cX7_joinLeft 24 = .ok (.return_, 1) := by decide +kernel
theorem dX7_setLeft_0 : decode cX7_setLeft 0 = .ok (.aload_n 0, 1) := by decide +kernel
theorem dX7_setLeft_1 : decode cX7_setLeft 1 = .ok (.iload_n 1, 1) := by decide +kernel
theorem dX7_setLeft_2 : decode cX7_setLeft 2 = .ok (.iconst 1, 1) := by decide +kernel
theorem dX7_setLeft_3 : decode cX7_setLeft 3 = .ok (.if_icmp .ne 7, 3) := by decide +kernel
theorem dX7_setLeft_6 : decode cX7_setLeft 6 = .ok (.iconst 3, 1) := by decide +kernel
theorem dX7_setLeft_7 : decode cX7_setLeft 7 = .ok (.goto 22, 3) := by decide +kernel
theorem dX7_setLeft_10 : decode cX7_setLeft 10 = .ok (.iload_n 1, 1) := by decide +kernel
theorem dX7_setLeft_11 : decode cX7_setLeft 11 = .ok (.iconst 2, 1) := by decide +kernel
theorem dX7_setLeft_12 : decode cX7_setLeft 12 = .ok (.if_icmp .ne 7, 3) := by decide +kernel
theorem dX7_setLeft_15 : decode cX7_setLeft 15 = .ok (.iconst 2, 1) := by decide +kernel
theorem dX7_setLeft_16 : decode cX7_setLeft 16 = .ok (.goto 13, 3) := by decide +kernel
theorem dX7_setLeft_19 : decode cX7_setLeft 19 = .ok (.iload_n 1, 1) := by decide +kernel
theorem dX7_setLeft_20 : decode cX7_setLeft 20 = .ok (.iconst 5, 1) := by decide +kernel
theorem dX7_setLeft_21 : decode cX7_setLeft 21 = .ok (.if_icmp .ne 7, 3) := by decide +kernel
theorem dX7_setLeft_24 : decode cX7_setLeft 24 = .ok (.iconst (-1), 1) := by decide +kernel
theorem dX7_setLeft_25 : decode cX7_setLeft 25 = .ok (.goto 4, 3) := by decide +kernel
theorem dX7_setLeft_28 : decode cX7_setLeft 28 = .ok (.iconst 1, 1) := by decide +kernel
theorem dX7_setLeft_29 : decode cX7_setLeft 29 = .ok (.putfield 196, 3) := by decide +kernel
theorem dX7_setLeft_32 : decode cX7_setLeft 32 = .ok (.aload_n 0, 1) := by decide +kernel
theorem dX7_setLeft_33 : decode cX7_setLeft 33 = .ok (.iload_n 1, 1) := by decide +kernel
theorem dX7_setLeft_34 : decode cX7_setLeft 34 = .ok (.iconst 1, 1) := by decide +kernel
theorem dX7_setLeft_35 : decode cX7_setLeft 35 = .ok (.if_icmp .ne 7, 3) := by decide +kernel
theorem dX7_setLeft_38 : decode cX7_setLeft 38 = .ok (.iconst 1, 1) := by decide +kernel
theorem dX7_setLeft_39 : decode cX7_setLeft 39 = .ok (.goto 14, 3) := by decide +kernel
theorem dX7_setLeft_42 : decode cX7_setLeft 42 = .ok (.iload_n 1, 1) := by decide +kernel
theorem dX7_setLeft_43 : decode cX7_setLeft 43 = .ok (.iconst 4, 1) := by decide +kernel
theorem dX7_setLeft_44 : decode cX7_setLeft 44 = .ok (.if_icmp .ne 8, 3) := by decide +kernel
theorem dX7_setLeft_47 : decode cX7_setLeft 47 = .ok (.bipush (-3), 2) := by decide +kernel
theorem dX7_setLeft_49 : decode cX7_setLeft 49 = .ok (.goto 4, 3) := by decide +kernel
theorem dX7_setLeft_52 : decode cX7_setLeft 52 = .ok (.iconst 3, 1) := by decide +kernel
theorem dX7_setLeft_53 : decode cX7_setLeft 53 = .ok (.putfield 199, 3) := by decide +kernel
theorem dX7_setLeft_56 : decode cX7_setLeft 56 = .ok (.return_, 1) := by decide +kernel
theorem dX7_joinBackS_0 : decode cX7_joinBackS 0 = .ok (.aload_n 0, 1) := by decide +kernel
theorem dX7_joinBackS_1 : decode cX7_joinBackS 1 = .ok (.iconst 2, 1) := by decide +kernel
theorem dX7_joinBackS_2 : decode cX7_joinBackS 2 = .ok (.invokevirtual 214, 3) := by decide +kernel
theorem dX7_joinBackS_5 : decode cX7_joinBackS 5 = .ok (.aload_n 0, 1) := by decide +kernel
theorem dX7_joinBackS_6 : decode cX7_joinBackS 6 = .ok (.invokevirtual 217, 3) := by decide +kernel
theorem dX7_joinBackS_9 : decode cX7_joinBackS 9 = .ok (.aload_n 0, 1) := by decide +kernel
theorem dX7_joinBackS_10 : decode cX7_joinBackS 10 = .ok (.invokevirtual 217, 3) := by decide +kernel
theorem dX7_joinBackS_13 : decode cX7_joinBackS 13 = .ok (.aload_n 0, 1) := by decide +kernel
theorem dX7_joinBackS_14 : decode cX7_joinBackS 14 = .ok (.invokevirtual 217, 3) := by decide +kernel
theorem dX7_joinBackS_17 : decode cX7_joinBackS 17 = .ok (.return_, 1) := by decide +kernel
theorem dX7_carry_0 : decode cX7_carry 0 = .ok (.iload_n 1, 1) := by decide +kernel
theorem dX7_carry_1 : decode cX7_carry 1 = .ok (.istore_n 2, 1) := by decide +kernel
theorem dX7_carry_2 : decode cX7_carry 2 = .ok (.iload_n 2, 1) := by decide +kernel
theorem dX7_carry_3 : decode cX7_carry 3 = .ok (.aload_n 0, 1) := by decide +kernel
theorem dX7_carry_4 : decode cX7_carry 4 = .ok (.getfield 220, 3) := by decide +kernel
theorem dX7_carry_7 : decode cX7_carry 7 = .ok (.if_icmp .ge 128, 3) := by decide +kernel
theorem dX7_carry_10 : decode cX7_carry 10 = .ok (.aload_n 0, 1) := by decide +kernel
theorem dX7_carry_11 : decode cX7_carry 11 = .ok (.getfield 205, 3) := by decide +kernel
theorem dX7_carry_14 : decode cX7_carry 14 = .ok (.istore_n 3, 1) := by decide +kernel
theorem dX7_carry_15 : decode cX7_carry 15 = .ok (.aload_n 0, 1) := by decide +kernel
theorem dX7_carry_16 : decode cX7_carry 16 = .ok (.getfield 211, 3) := by decide +kernel
theorem dX7_carry_19 : decode cX7_carry 19 = .ok (.istore 4, 2) := by decide +kernel
theorem dX7_carry_21 : decode cX7_carry 21 = .ok (.aload_n 0, 1) := by decide +kernel
theorem dX7_carry_22 : decode cX7_carry 22 = .ok (.getfield 45, 3) := by decide +kernel
theorem dX7_carry_25 : decode cX7_carry 25 = .ok (.iload_n 2, 1) := by decide +kernel
theorem dX7_carry_26 : decode cX7_carry 26 = .ok (.iaload, 1) := by decide +kernel
theorem dX7_carry_27 : decode cX7_carry 27 = .ok (.iconst 2, 1) := by decide +kernel
theorem dX7_carry_28 : decode cX7_carry 28 = .ok (.if_icmp .ne 8, 3) := by decide +kernel
theorem dX7_carry_31 : decode cX7_carry 31 = .ok (.aload_n 0, 1) := by decide +kernel
theorem dX7_carry_32 : decode cX7_carry 32 = .ok (.iconst 2, 1) := by decide +kernel
theorem dX7_carry_33 : decode cX7_carry 33 = .ok (.invokevirtual 223, 3) := by decide +kernel
theorem dX7_carry_36 : decode cX7_carry 36 = .ok (.aload_n 0, 1) := by decide +kernel
theorem dX7_carry_37 : decode cX7_carry 37 = .ok (.getfield 45, 3) := by decide +kernel
theorem dX7_carry_40 : decode cX7_carry 40 = .ok (.iload_n 2, 1) := by decide +kernel
theorem dX7_carry_41 : decode cX7_carry 41 = .ok (.iaload, 1) := by decide +kernel
theorem dX7_carry_42 : decode cX7_carry 42 = .ok (.ifCond .le 8, 3) := by decide +kernel
theorem dX7_carry_45 : decode cX7_carry 45 = .ok (.aload_n 0, 1) := by decide +kernel
theorem dX7_carry_46 : decode cX7_carry 46 = .ok (.iconst 1, 1) := by decide +kernel
theorem dX7_carry_47 : decode cX7_carry 47 = .ok (.invokevirtual 223, 3) := by decide +kernel
theorem dX7_carry_50 : decode cX7_carry 50 = .ok (.aload_n 0, 1) := by decide +kernel
theorem dX7_carry_51 : decode cX7_carry 51 = .ok (.getfield 211, 3) := by decide +kernel
theorem dX7_carry_54 : decode cX7_carry 54 = .ok (.invokestatic 193, 3) := by decide +kernel
theorem dX7_carry_57 : decode cX7_carry 57 = .ok (.istore 5, 2) := by decide +kernel
theorem dX7_carry_59 : decode cX7_carry 59 = .ok (.aload_n 0, 1) := by decide +kernel
theorem dX7_carry_60 : decode cX7_carry 60 = .ok (.getfield 45, 3) := by decide +kernel
theorem dX7_carry_63 : decode cX7_carry 63 = .ok (.iload_n 2, 1) := by decide +kernel
theorem dX7_carry_64 : decode cX7_carry 64 = .ok (.iload 5, 2) := by decide +kernel
theorem dX7_carry_66 : decode cX7_carry 66 = .ok (.iconst 3, 1) := by decide +kernel
theorem dX7_carry_67 : decode cX7_carry 67 = .ok (.if_icmp .ne 7, 3) := by decide +kernel
theorem dX7_carry_70 : decode cX7_carry 70 = .ok (.iconst 0, 1) := by decide +kernel
theorem dX7_carry_71 : decode cX7_carry 71 = .ok (.goto 14, 3) := by decide +kernel
theorem dX7_carry_74 : decode cX7_carry 74 = .ok (.iload 5, 2) := by decide +kernel
theorem dX7_carry_76 : decode cX7_carry 76 = .ok (.iconst 1, 1) := by decide +kernel
theorem dX7_carry_77 : decode cX7_carry 77 = .ok (.if_icmp .ne 7, 3) := by decide +kernel
theorem dX7_carry_80 : decode cX7_carry 80 = .ok (.iconst 1, 1) := by decide +kernel
theorem dX7_carry_81 : decode cX7_carry 81 = .ok (.goto 4, 3) := by decide +kernel
theorem dX7_carry_84 : decode cX7_carry 84 = .ok (.iconst 2, 1) := by decide +kernel
theorem dX7_carry_85 : decode cX7_carry 85 = .ok (.iastore, 1) := by decide +kernel
theorem dX7_carry_86 : decode cX7_carry 86 = .ok (.aload_n 0, 1) := by decide +kernel
theorem dX7_carry_87 : decode cX7_carry 87 = .ok (.getfield 45, 3) := by decide +kernel
theorem dX7_carry_90 : decode cX7_carry 90 = .ok (.iload_n 2, 1) := by decide +kernel
theorem dX7_carry_91 : decode cX7_carry 91 = .ok (.iaload, 1) := by decide +kernel
theorem dX7_carry_92 : decode cX7_carry 92 = .ok (.iconst 2, 1) := by decide +kernel
theorem dX7_carry_93 : decode cX7_carry 93 = .ok (.if_icmp .ne 7, 3) := by decide +kernel
theorem dX7_carry_96 : decode cX7_carry 96 = .ok (.aload_n 0, 1) := by decide +kernel
theorem dX7_carry_97 : decode cX7_carry 97 = .ok (.invokevirtual 226, 3) := by decide +kernel
theorem dX7_carry_100 : decode cX7_carry 100 = .ok (.aload_n 0, 1) := by decide +kernel
theorem dX7_carry_101 : decode cX7_carry 101 = .ok (.getfield 45, 3) := by decide +kernel
theorem dX7_carry_104 : decode cX7_carry 104 = .ok (.iload_n 2, 1) := by decide +kernel
theorem dX7_carry_105 : decode cX7_carry 105 = .ok (.iaload, 1) := by decide +kernel
theorem dX7_carry_106 : decode cX7_carry 106 = .ok (.ifCond .le 12, 3) := by decide +kernel
theorem dX7_carry_109 : decode cX7_carry 109 = .ok (.aload_n 0, 1) := by decide +kernel
theorem dX7_carry_110 : decode cX7_carry 110 = .ok (.iconst 1, 1) := by decide +kernel
theorem dX7_carry_111 : decode cX7_carry 111 = .ok (.invokevirtual 214, 3) := by decide +kernel
theorem dX7_carry_114 : decode cX7_carry 114 = .ok (.aload_n 0, 1) := by decide +kernel
theorem dX7_carry_115 : decode cX7_carry 115 = .ok (.invokevirtual 217, 3) := by decide +kernel
theorem dX7_carry_118 : decode cX7_carry 118 = .ok (.aload_n 0, 1) := by decide +kernel
theorem dX7_carry_119 : decode cX7_carry 119 = .ok (.getfield 211, 3) := by decide +kernel
theorem dX7_carry_122 : decode cX7_carry 122 = .ok (.ifCond .ge 7, 3) := by decide +kernel
theorem dX7_carry_125 : decode cX7_carry 125 = .ok (.aload_n 0, 1) := by decide +kernel
theorem dX7_carry_126 : decode cX7_carry 126 = .ok (.invokevirtual 226, 3) := by decide +kernel
theorem dX7_carry_129 : decode cX7_carry 129 = .ok (.iinc 2 1, 3) := by decide +kernel
theorem dX7_carry_132 : decode cX7_carry 132 = .ok (.goto (-130), 3) := by decide +kernel
theorem dX7_carry_135 : decode cX7_carry 135 = .ok (.aload_n 0, 1) := by decide +kernel
theorem dX7_carry_136 : decode cX7_carry 136 = .ok (.aload_n 0, 1) := by decide +kernel
theorem dX7_carry_137 : decode cX7_carry 137 = .ok (.getfield 205, 3) := by decide +kernel
theorem dX7_carry_140 : decode cX7_carry 140 = .ok (.putfield 196, 3) := by decide +kernel
theorem dX7_carry_143 : decode cX7_carry 143 = .ok (.aload_n 0, 1) := by decide +kernel
theorem dX7_carry_144 : decode cX7_carry 144 = .ok (.aload_n 0, 1) := by decide +kernel
theorem dX7_carry_145 : decode cX7_carry 145 = .ok (.getfield 211, 3) := by decide +kernel
theorem dX7_carry_148 : decode cX7_carry 148 = .ok (.putfield 199, 3) := by decide +kernel
theorem dX7_carry_151 : decode cX7_carry 151 = .ok (.aload_n 0, 1) := by decide +kernel
theorem dX7_carry_152 : decode cX7_carry 152 = .ok (.aload_n 0, 1) := by decide +kernel
theorem dX7_carry_153 : decode cX7_carry 153 = .ok (.getfield 229, 3) := by decide +kernel
theorem dX7_carry_156 : decode cX7_carry 156 = .ok (.putfield 205, 3) := by decide +kernel
theorem dX7_carry_159 : decode cX7_carry 159 = .ok (.aload_n 0, 1) := by decide +kernel
theorem dX7_carry_160 : decode cX7_carry 160 = .ok (.aload_n 0, 1) := by decide +kernel
theorem dX7_carry_161 : decode cX7_carry 161 = .ok (.getfield 232, 3) := by decide +kernel
theorem dX7_carry_164 : decode cX7_carry 164 = .ok (.putfield 211, 3) := by decide +kernel
theorem dX7_carry_167 : decode cX7_carry 167 = .ok (.aload_n 0, 1) := by decide +kernel
theorem dX7_carry_168 : decode cX7_carry 168 = .ok (.invokevirtual 217, 3) := by decide +kernel
theorem dX7_carry_171 : decode cX7_carry 171 = .ok (.aload_n 0, 1) := by decide +kernel
theorem dX7_carry_172 : decode cX7_carry 172 = .ok (.aload_n 0, 1) := by decide +kernel
theorem dX7_carry_173 : decode cX7_carry 173 = .ok (.getfield 205, 3) := by decide +kernel
theorem dX7_carry_176 : decode cX7_carry 176 = .ok (.putfield 229, 3) := by decide +kernel
theorem dX7_carry_179 : decode cX7_carry 179 = .ok (.aload_n 0, 1) := by decide +kernel
theorem dX7_carry_180 : decode cX7_carry 180 = .ok (.aload_n 0, 1) := by decide +kernel
theorem dX7_carry_181 : decode cX7_carry 181 = .ok (.getfield 211, 3) := by decide +kernel
theorem dX7_carry_184 : decode cX7_carry 184 = .ok (.putfield 232, 3) := by decide +kernel
theorem dX7_carry_187 : decode cX7_carry 187 = .ok (.return_, 1) := by decide +kernel
theorem dX7_timesRight_0 : decode cX7_timesRight 0 = .ok (.aload_n 0, 1) := by decide +kernel
theorem dX7_timesRight_1 : decode cX7_timesRight 1 = .ok (.aload_n 0, 1) := by decide +kernel
theorem dX7_timesRight_2 : decode cX7_timesRight 2 = .ok (.getfield 205, 3) := by decide +kernel
theorem dX7_timesRight_5 : decode cX7_timesRight 5 = .ok (.putfield 196, 3) := by decide +kernel
theorem dX7_timesRight_8 : decode cX7_timesRight 8 = .ok (.aload_n 0, 1) := by decide +kernel
theorem dX7_timesRight_9 : decode cX7_timesRight 9 = .ok (.aload_n 0, 1) := by decide +kernel
theorem dX7_timesRight_10 : decode cX7_timesRight 10 = .ok (.getfield 211, 3) := by decide +kernel
theorem dX7_timesRight_13 : decode cX7_timesRight 13 = .ok (.putfield 199, 3) := by decide +kernel
theorem dX7_timesRight_16 : decode cX7_timesRight 16 = .ok (.aload_n 0, 1) := by decide +kernel
theorem dX7_timesRight_17 : decode cX7_timesRight 17 = .ok (.iload_n 1, 1) := by decide +kernel
theorem dX7_timesRight_18 : decode cX7_timesRight 18 = .ok (.iconst 1, 1) := by decide +kernel
theorem dX7_timesRight_19 : decode cX7_timesRight 19 = .ok (.if_icmp .ne 7, 3) := by decide +kernel
theorem dX7_timesRight_22 : decode cX7_timesRight 22 = .ok (.iconst 3, 1) := by decide +kernel
theorem dX7_timesRight_23 : decode cX7_timesRight 23 = .ok (.goto 13, 3) := by decide +kernel
theorem dX7_timesRight_26 : decode cX7_timesRight 26 = .ok (.iload_n 1, 1) := by decide +kernel
theorem dX7_timesRight_27 : decode cX7_timesRight 27 = .ok (.iconst 2, 1) := by decide +kernel
theorem dX7_timesRight_28 : decode cX7_timesRight 28 = .ok (.if_icmp .ne 7, 3) := by decide +kernel
theorem dX7_timesRight_31 : decode cX7_timesRight 31 = .ok (.iconst 2, 1) := by decide +kernel
theorem dX7_timesRight_32 : decode cX7_timesRight 32 = .ok (.goto 4, 3) := by decide +kernel
theorem dX7_timesRight_35 : decode cX7_timesRight 35 = .ok (.iconst 1, 1) := by decide +kernel
theorem dX7_timesRight_36 : decode cX7_timesRight 36 = .ok (.putfield 205, 3) := by decide +kernel
theorem dX7_timesRight_39 : decode cX7_timesRight 39 = .ok (.aload_n 0, 1) := by decide +kernel
theorem dX7_timesRight_40 : decode cX7_timesRight 40 = .ok (.iload_n 1, 1) := by decide +kernel
theorem dX7_timesRight_41 : decode cX7_timesRight 41 = .ok (.iconst 1, 1) := by decide +kernel
theorem dX7_timesRight_42 : decode cX7_timesRight 42 = .ok (.if_icmp .ne 7, 3) := by decide +kernel
theorem dX7_timesRight_45 : decode cX7_timesRight 45 = .ok (.iconst 1, 1) := by decide +kernel
theorem dX7_timesRight_46 : decode cX7_timesRight 46 = .ok (.goto 4, 3) := by decide +kernel
theorem dX7_timesRight_49 : decode cX7_timesRight 49 = .ok (.iconst 3, 1) := by decide +kernel
theorem dX7_timesRight_50 : decode cX7_timesRight 50 = .ok (.putfield 211, 3) := by decide +kernel
theorem dX7_timesRight_53 : decode cX7_timesRight 53 = .ok (.aload_n 0, 1) := by decide +kernel
theorem dX7_timesRight_54 : decode cX7_timesRight 54 = .ok (.invokevirtual 217, 3) := by decide +kernel
theorem dX7_timesRight_57 : decode cX7_timesRight 57 = .ok (.return_, 1) := by decide +kernel
theorem dX7_addRound_0 : decode cX7_addRound 0 = .ok (.aload_n 0, 1) := by decide +kernel
theorem dX7_addRound_1 : decode cX7_addRound 1 = .ok (.getfield 220, 3) := by decide +kernel
theorem dX7_addRound_4 : decode cX7_addRound 4 = .ok (.istore_n 1, 1) := by decide +kernel
theorem dX7_addRound_5 : decode cX7_addRound 5 = .ok (.iload_n 1, 1) := by decide +kernel
theorem dX7_addRound_6 : decode cX7_addRound 6 = .ok (.ifCond .le 23, 3) := by decide +kernel
theorem dX7_addRound_9 : decode cX7_addRound 9 = .ok (.aload_n 0, 1) := by decide +kernel
theorem dX7_addRound_10 : decode cX7_addRound 10 = .ok (.getfield 45, 3) := by decide +kernel
theorem dX7_addRound_13 : decode cX7_addRound 13 = .ok (.iload_n 1, 1) := by decide +kernel
theorem dX7_addRound_14 : decode cX7_addRound 14 = .ok (.aload_n 0, 1) := by decide +kernel
theorem dX7_addRound_15 : decode cX7_addRound 15 = .ok (.getfield 45, 3) := by decide +kernel
theorem dX7_addRound_18 : decode cX7_addRound 18 = .ok (.iload_n 1, 1) := by decide +kernel
theorem dX7_addRound_19 : decode cX7_addRound 19 = .ok (.iconst 1, 1) := by decide +kernel
theorem dX7_addRound_20 : decode cX7_addRound 20 = .ok (.isub, 1) := by decide +kernel
theorem dX7_addRound_21 : decode cX7_addRound 21 = .ok (.iaload, 1) := by decide +kernel
theorem dX7_addRound_22 : decode cX7_addRound 22 = .ok (.iastore, 1) := by decide +kernel
theorem dX7_addRound_23 : decode cX7_addRound 23 = .ok (.iinc 1 (-1), 3) := by decide +kernel
theorem dX7_addRound_26 : decode cX7_addRound 26 = .ok (.goto (-21), 3) := by decide +kernel
theorem dX7_addRound_29 : decode cX7_addRound 29 = .ok (.aload_n 0, 1) := by decide +kernel
theorem dX7_addRound_30 : decode cX7_addRound 30 = .ok (.getfield 45, 3) := by decide +kernel
theorem dX7_addRound_33 : decode cX7_addRound 33 = .ok (.iconst 0, 1) := by decide +kernel
theorem dX7_addRound_34 : decode cX7_addRound 34 = .ok (.iconst 0, 1) := by decide +kernel
theorem dX7_addRound_35 : decode cX7_addRound 35 = .ok (.iastore, 1) := by decide +kernel
theorem dX7_addRound_36 : decode cX7_addRound 36 = .ok (.aload_n 0, 1) := by decide +kernel
theorem dX7_addRound_37 : decode cX7_addRound 37 = .ok (.dup, 1) := by decide +kernel
theorem dX7_addRound_38 : decode cX7_addRound 38 = .ok (.getfield 220, 3) := by decide +kernel
theorem dX7_addRound_41 : decode cX7_addRound 41 = .ok (.iconst 1, 1) := by decide +kernel
theorem dX7_addRound_42 : decode cX7_addRound 42 = .ok (.iadd, 1) := by decide +kernel
theorem dX7_addRound_43 : decode cX7_addRound 43 = .ok (.putfield 220, 3) := by decide +kernel
theorem dX7_addRound_46 : decode cX7_addRound 46 = .ok (.return_, 1) := by decide +kernel
theorem dX7_dropRound_0 : decode cX7_dropRound 0 = .ok (.aload_n 0, 1) := by decide +kernel
theorem dX7_dropRound_1 : decode cX7_dropRound 1 = .ok (.dup, 1) := by decide +kernel
theorem dX7_dropRound_2 : decode cX7_dropRound 2 = .ok (.getfield 220, 3) := by decide +kernel
theorem dX7_dropRound_5 : decode cX7_dropRound 5 = .ok (.iconst 1, 1) := by decide +kernel
theorem dX7_dropRound_6 : decode cX7_dropRound 6 = .ok (.isub, 1) := by decide +kernel
theorem dX7_dropRound_7 : decode cX7_dropRound 7 = .ok (.putfield 220, 3) := by decide +kernel
theorem dX7_dropRound_10 : decode cX7_dropRound 10 = .ok (.iconst 0, 1) := by decide +kernel
theorem dX7_dropRound_11 : decode cX7_dropRound 11 = .ok (.istore_n 1, 1) := by decide +kernel
theorem dX7_dropRound_12 : decode cX7_dropRound 12 = .ok (.iload_n 1, 1) := by decide +kernel
theorem dX7_dropRound_13 : decode cX7_dropRound 13 = .ok (.aload_n 0, 1) := by decide +kernel
theorem dX7_dropRound_14 : decode cX7_dropRound 14 = .ok (.getfield 220, 3) := by decide +kernel
theorem dX7_dropRound_17 : decode cX7_dropRound 17 = .ok (.if_icmp .ge 23, 3) := by decide +kernel
theorem dX7_dropRound_20 : decode cX7_dropRound 20 = .ok (.aload_n 0, 1) := by decide +kernel
theorem dX7_dropRound_21 : decode cX7_dropRound 21 = .ok (.getfield 45, 3) := by decide +kernel
theorem dX7_dropRound_24 : decode cX7_dropRound 24 = .ok (.iload_n 1, 1) := by decide +kernel
theorem dX7_dropRound_25 : decode cX7_dropRound 25 = .ok (.aload_n 0, 1) := by decide +kernel
theorem dX7_dropRound_26 : decode cX7_dropRound 26 = .ok (.getfield 45, 3) := by decide +kernel
theorem dX7_dropRound_29 : decode cX7_dropRound 29 = .ok (.iload_n 1, 1) := by decide +kernel
theorem dX7_dropRound_30 : decode cX7_dropRound 30 = .ok (.iconst 1, 1) := by decide +kernel
theorem dX7_dropRound_31 : decode cX7_dropRound 31 = .ok (.iadd, 1) := by decide +kernel
theorem dX7_dropRound_32 : decode cX7_dropRound 32 = .ok (.iaload, 1) := by decide +kernel
theorem dX7_dropRound_33 : decode cX7_dropRound 33 = .ok (.iastore, 1) := by decide +kernel
theorem dX7_dropRound_34 : decode cX7_dropRound 34 = .ok (.iinc 1 1, 3) := by decide +kernel
theorem dX7_dropRound_37 : decode cX7_dropRound 37 = .ok (.goto (-25), 3) := by decide +kernel
theorem dX7_dropRound_40 : decode cX7_dropRound 40 = .ok (.return_, 1) := by decide +kernel
theorem dX7_takeGate_0 : decode cX7_takeGate 0 = .ok (.iload_n 1, 1) := by decide +kernel
theorem dX7_takeGate_1 : decode cX7_takeGate 1 = .ok (.iconst 3, 1) := by decide +kernel
theorem dX7_takeGate_2 : decode cX7_takeGate 2 = .ok (.if_icmp .eq 32, 3) := by decide +kernel
theorem dX7_takeGate_5 : decode cX7_takeGate 5 = .ok (.aload_n 0, 1) := by decide +kernel
theorem dX7_takeGate_6 : decode cX7_takeGate 6 = .ok (.iload_n 1, 1) := by decide +kernel
theorem dX7_takeGate_7 : decode cX7_takeGate 7 = .ok (.invokevirtual 214, 3) := by decide +kernel
theorem dX7_takeGate_10 : decode cX7_takeGate 10 = .ok (.aload_n 0, 1) := by decide +kernel
theorem dX7_takeGate_11 : decode cX7_takeGate 11 = .ok (.aload_n 0, 1) := by decide +kernel
theorem dX7_takeGate_12 : decode cX7_takeGate 12 = .ok (.getfield 196, 3) := by decide +kernel
theorem dX7_takeGate_15 : decode cX7_takeGate 15 = .ok (.putfield 205, 3) := by decide +kernel
theorem dX7_takeGate_18 : decode cX7_takeGate 18 = .ok (.aload_n 0, 1) := by decide +kernel
theorem dX7_takeGate_19 : decode cX7_takeGate 19 = .ok (.aload_n 0, 1) := by decide +kernel
theorem dX7_takeGate_20 : decode cX7_takeGate 20 = .ok (.getfield 199, 3) := by decide +kernel
theorem dX7_takeGate_23 : decode cX7_takeGate 23 = .ok (.putfield 211, 3) := by decide +kernel
theorem dX7_takeGate_26 : decode cX7_takeGate 26 = .ok (.aload_n 0, 1) := by decide +kernel
theorem dX7_takeGate_27 : decode cX7_takeGate 27 = .ok (.iconst 0, 1) := by decide +kernel
theorem dX7_takeGate_28 : decode cX7_takeGate 28 = .ok (.invokevirtual 235, 3) := by decide +kernel
theorem dX7_takeGate_31 : decode cX7_takeGate 31 = .ok (.goto 56, 3) := by decide +kernel
theorem dX7_takeGate_34 : decode cX7_takeGate 34 = .ok (.aload_n 0, 1) := by decide +kernel
theorem dX7_takeGate_35 : decode cX7_takeGate 35 = .ok (.getfield 220, 3) := by decide +kernel
theorem dX7_takeGate_38 : decode cX7_takeGate 38 = .ok (.ifCond .le 45, 3) := by decide +kernel
theorem dX7_takeGate_41 : decode cX7_takeGate 41 = .ok (.aload_n 0, 1) := by decide +kernel
theorem dX7_takeGate_42 : decode cX7_takeGate 42 = .ok (.getfield 45, 3) := by decide +kernel
theorem dX7_takeGate_45 : decode cX7_takeGate 45 = .ok (.iconst 0, 1) := by decide +kernel
theorem dX7_takeGate_46 : decode cX7_takeGate 46 = .ok (.iaload, 1) := by decide +kernel
theorem dX7_takeGate_47 : decode cX7_takeGate 47 = .ok (.ifCond .ne 36, 3) := by decide +kernel
theorem dX7_takeGate_50 : decode cX7_takeGate 50 = .ok (.aload_n 0, 1) := by decide +kernel
theorem dX7_takeGate_51 : decode cX7_takeGate 51 = .ok (.invokevirtual 238, 3) := by decide +kernel
theorem dX7_takeGate_54 : decode cX7_takeGate 54 = .ok (.aload_n 0, 1) := by decide +kernel
theorem dX7_takeGate_55 : decode cX7_takeGate 55 = .ok (.iconst 2, 1) := by decide +kernel
theorem dX7_takeGate_56 : decode cX7_takeGate 56 = .ok (.invokevirtual 214, 3) := by decide +kernel
theorem dX7_takeGate_59 : decode cX7_takeGate 59 = .ok (.aload_n 0, 1) := by decide +kernel
theorem dX7_takeGate_60 : decode cX7_takeGate 60 = .ok (.aload_n 0, 1) := by decide +kernel
theorem dX7_takeGate_61 : decode cX7_takeGate 61 = .ok (.getfield 196, 3) := by decide +kernel
theorem dX7_takeGate_64 : decode cX7_takeGate 64 = .ok (.putfield 205, 3) := by decide +kernel
theorem dX7_takeGate_67 : decode cX7_takeGate 67 = .ok (.aload_n 0, 1) := by decide +kernel
theorem dX7_takeGate_68 : decode cX7_takeGate 68 = .ok (.aload_n 0, 1) := by decide +kernel
theorem dX7_takeGate_69 : decode cX7_takeGate 69 = .ok (.getfield 199, 3) := by decide +kernel
theorem dX7_takeGate_72 : decode cX7_takeGate 72 = .ok (.putfield 211, 3) := by decide +kernel
theorem dX7_takeGate_75 : decode cX7_takeGate 75 = .ok (.aload_n 0, 1) := by decide +kernel
theorem dX7_takeGate_76 : decode cX7_takeGate 76 = .ok (.iconst 0, 1) := by decide +kernel
theorem dX7_takeGate_77 : decode cX7_takeGate 77 = .ok (.invokevirtual 235, 3) := by decide +kernel
theorem dX7_takeGate_80 : decode cX7_takeGate 80 = .ok (.goto 7, 3) := by decide +kernel
theorem dX7_takeGate_83 : decode cX7_takeGate 83 = .ok (.aload_n 0, 1) := by decide +kernel
theorem dX7_takeGate_84 : decode cX7_takeGate 84 = .ok (.invokevirtual 241, 3) := by decide +kernel
theorem dX7_takeGate_87 : decode cX7_takeGate 87 = .ok (.return_, 1) := by decide +kernel
theorem dX7_findElement_0 : decode cX7_findElement 0 = .ok (.iconst 0, 1) := by decide +kernel
theorem dX7_findElement_1 : decode cX7_findElement 1 = .ok (.istore_n 3, 1) := by decide +kernel
theorem dX7_findElement_2 : decode cX7_findElement 2 = .ok (.iload_n 3, 1) := by decide +kernel
theorem dX7_findElement_3 : decode cX7_findElement 3 = .ok (.aload_n 0, 1) := by decide +kernel
theorem dX7_findElement_4 : decode cX7_findElement 4 = .ok (.getfield 244, 3) := by decide +kernel
theorem dX7_findElement_7 : decode cX7_findElement 7 = .ok (.if_icmp .ge 31, 3) := by decide +kernel
theorem dX7_findElement_10 : decode cX7_findElement 10 = .ok (.aload_n 0, 1) := by decide +kernel
theorem dX7_findElement_11 : decode cX7_findElement 11 = .ok (.getfield 48, 3) := by decide +kernel
theorem dX7_findElement_14 : decode cX7_findElement 14 = .ok (.iload_n 3, 1) := by decide +kernel
theorem dX7_findElement_15 : decode cX7_findElement 15 = .ok (.iaload, 1) := by decide +kernel
theorem dX7_findElement_16 : decode cX7_findElement 16 = .ok (.iload_n 1, 1) := by decide +kernel
theorem dX7_findElement_17 : decode cX7_findElement 17 = .ok (.if_icmp .ne 15, 3) := by decide +kernel
theorem dX7_findElement_20 : decode cX7_findElement 20 = .ok (.aload_n 0, 1) := by decide +kernel
theorem dX7_findElement_21 : decode cX7_findElement 21 = .ok (.getfield 51, 3) := by decide +kernel
theorem dX7_findElement_24 : decode cX7_findElement 24 = .ok (.iload_n 3, 1) := by decide +kernel
theorem dX7_findElement_25 : decode cX7_findElement 25 = .ok (.iaload, 1) := by decide +kernel
theorem dX7_findElement_26 : decode cX7_findElement 26 = .ok (.iload_n 2, 1) := by decide +kernel
theorem dX7_findElement_27 : decode cX7_findElement 27 = .ok (.if_icmp .ne 5, 3) := by decide +kernel
theorem dX7_findElement_30 : decode cX7_findElement 30 = .ok (.iload_n 3, 1) := by decide +kernel
theorem dX7_findElement_31 : decode cX7_findElement 31 = .ok (.ireturn, 1) := by decide +kernel
theorem dX7_findElement_32 : decode cX7_findElement 32 = .ok (.iinc 3 1, 3) := by decide +kernel
theorem dX7_findElement_35 : decode cX7_findElement 35 = .ok (.goto (-33), 3) := by decide +kernel
theorem dX7_findElement_38 : decode cX7_findElement 38 = .ok (.iconst (-1), 1) := by decide +kernel
theorem dX7_findElement_39 : decode cX7_findElement 39 = .ok (.ireturn, 1) := by decide +kernel
theorem dX7_findWords_0 : decode cX7_findWords 0 = .ok (.aload_n 0, 1) := by decide +kernel
theorem dX7_findWords_1 : decode cX7_findWords 1 = .ok (.iconst 1, 1) := by decide +kernel
theorem dX7_findWords_2 : decode cX7_findWords 2 = .ok (.putfield 244, 3) := by decide +kernel
theorem dX7_findWords_5 : decode cX7_findWords 5 = .ok (.aload_n 0, 1) := by decide +kernel
theorem dX7_findWords_6 : decode cX7_findWords 6 = .ok (.getfield 48, 3) := by decide +kernel
theorem dX7_findWords_9 : decode cX7_findWords 9 = .ok (.iconst 0, 1) := by decide +kernel
theorem dX7_findWords_10 : decode cX7_findWords 10 = .ok (.iconst 1, 1) := by decide +kernel
theorem dX7_findWords_11 : decode cX7_findWords 11 = .ok (.iastore, 1) := by decide +kernel
theorem dX7_findWords_12 : decode cX7_findWords 12 = .ok (.aload_n 0, 1) := by decide +kernel
theorem dX7_findWords_13 : decode cX7_findWords 13 = .ok (.getfield 51, 3) := by decide +kernel
theorem dX7_findWords_16 : decode cX7_findWords 16 = .ok (.iconst 0, 1) := by decide +kernel
theorem dX7_findWords_17 : decode cX7_findWords 17 = .ok (.iconst 3, 1) := by decide +kernel
theorem dX7_findWords_18 : decode cX7_findWords 18 = .ok (.iastore, 1) := by decide +kernel
theorem dX7_findWords_19 : decode cX7_findWords 19 = .ok (.aload_n 0, 1) := by decide +kernel
theorem dX7_findWords_20 : decode cX7_findWords 20 = .ok (.getfield 54, 3) := by decide +kernel
theorem dX7_findWords_23 : decode cX7_findWords 23 = .ok (.iconst 0, 1) := by decide +kernel
theorem dX7_findWords_24 : decode cX7_findWords 24 = .ok (.iconst (-1), 1) := by decide +kernel
theorem dX7_findWords_25 : decode cX7_findWords 25 = .ok (.iastore, 1) := by decide +kernel
theorem dX7_findWords_26 : decode cX7_findWords 26 = .ok (.iconst 0, 1) := by decide +kernel
theorem dX7_findWords_27 : decode cX7_findWords 27 = .ok (.istore_n 1, 1) := by decide +kernel
theorem dX7_findWords_28 : decode cX7_findWords 28 = .ok (.iload_n 1, 1) := by decide +kernel
theorem dX7_findWords_29 : decode cX7_findWords 29 = .ok (.aload_n 0, 1) := by decide +kernel
theorem dX7_findWords_30 : decode cX7_findWords 30 = .ok (.getfield 244, 3) := by decide +kernel
theorem dX7_findWords_33 : decode cX7_findWords 33 = .ok (.if_icmp .ge 122, 3) := by decide +kernel
theorem dX7_findWords_36 : decode cX7_findWords 36 = .ok (.iconst 1, 1) := by decide +kernel
theorem dX7_findWords_37 : decode cX7_findWords 37 = .ok (.istore_n 2, 1) := by decide +kernel
theorem dX7_findWords_38 : decode cX7_findWords 38 = .ok (.iload_n 2, 1) := by decide +kernel
theorem dX7_findWords_39 : decode cX7_findWords 39 = .ok (.iconst 2, 1) := by decide +kernel
theorem dX7_findWords_40 : decode cX7_findWords 40 = .ok (.if_icmp .gt 109, 3) := by decide +kernel
theorem dX7_findWords_43 : decode cX7_findWords 43 = .ok (.aload_n 0, 1) := by decide +kernel
theorem dX7_findWords_44 : decode cX7_findWords 44 = .ok (.iload_n 2, 1) := by decide +kernel
theorem dX7_findWords_45 : decode cX7_findWords 45 = .ok (.invokevirtual 214, 3) := by decide +kernel
theorem dX7_findWords_48 : decode cX7_findWords 48 = .ok (.aload_n 0, 1) := by decide +kernel
theorem dX7_findWords_49 : decode cX7_findWords 49 = .ok (.aload_n 0, 1) := by decide +kernel
theorem dX7_findWords_50 : decode cX7_findWords 50 = .ok (.getfield 48, 3) := by decide +kernel
theorem dX7_findWords_53 : decode cX7_findWords 53 = .ok (.iload_n 1, 1) := by decide +kernel
theorem dX7_findWords_54 : decode cX7_findWords 54 = .ok (.iaload, 1) := by decide +kernel
theorem dX7_findWords_55 : decode cX7_findWords 55 = .ok (.putfield 205, 3) := by decide +kernel
theorem dX7_findWords_58 : decode cX7_findWords 58 = .ok (.aload_n 0, 1) := by decide +kernel
theorem dX7_findWords_59 : decode cX7_findWords 59 = .ok (.aload_n 0, 1) := by decide +kernel
theorem dX7_findWords_60 : decode cX7_findWords 60 = .ok (.getfield 51, 3) := by decide +kernel
theorem dX7_findWords_63 : decode cX7_findWords 63 = .ok (.iload_n 1, 1) := by decide +kernel
theorem dX7_findWords_64 : decode cX7_findWords 64 = .ok (.iaload, 1) := by decide +kernel
theorem dX7_findWords_65 : decode cX7_findWords 65 = .ok (.putfield 211, 3) := by decide +kernel
theorem dX7_findWords_68 : decode cX7_findWords 68 = .ok (.aload_n 0, 1) := by decide +kernel
theorem dX7_findWords_69 : decode cX7_findWords 69 = .ok (.invokevirtual 217, 3) := by decide +kernel
theorem dX7_findWords_72 : decode cX7_findWords 72 = .ok (.aload_n 0, 1) := by decide +kernel
theorem dX7_findWords_73 : decode cX7_findWords 73 = .ok (.aload_n 0, 1) := by decide +kernel
theorem dX7_findWords_74 : decode cX7_findWords 74 = .ok (.getfield 205, 3) := by decide +kernel
theorem dX7_findWords_77 : decode cX7_findWords 77 = .ok (.aload_n 0, 1) := by decide +kernel
theorem dX7_findWords_78 : decode cX7_findWords 78 = .ok (.getfield 211, 3) := by decide +kernel
theorem dX7_findWords_81 : decode cX7_findWords 81 = .ok (.invokevirtual 247, 3) := by decide +kernel
theorem dX7_findWords_84 : decode cX7_findWords 84 = .ok (.ifCond .ge 59, 3) := by decide +kernel
theorem dX7_findWords_87 : decode cX7_findWords 87 = .ok (.aload_n 0, 1) := by decide +kernel
theorem dX7_findWords_88 : decode cX7_findWords 88 = .ok (.getfield 48, 3) := by decide +kernel
theorem dX7_findWords_91 : decode cX7_findWords 91 = .ok (.aload_n 0, 1) := by decide +kernel
theorem dX7_findWords_92 : decode cX7_findWords 92 = .ok (.getfield 244, 3) := by decide +kernel
theorem dX7_findWords_95 : decode cX7_findWords 95 = .ok (.aload_n 0, 1) := by decide +kernel
theorem dX7_findWords_96 : decode cX7_findWords 96 = .ok (.getfield 205, 3) := by decide +kernel
theorem dX7_findWords_99 : decode cX7_findWords 99 = .ok (.iastore, 1) := by decide +kernel
theorem dX7_findWords_100 : decode cX7_findWords 100 = .ok (.aload_n 0, 1) := by decide +kernel
theorem dX7_findWords_101 : decode cX7_findWords 101 = .ok (.getfield 51, 3) := by decide +kernel
theorem dX7_findWords_104 : decode cX7_findWords 104 = .ok (.aload_n 0, 1) := by decide +kernel
theorem dX7_findWords_105 : decode cX7_findWords 105 = .ok (.getfield 244, 3) := by decide +kernel
theorem dX7_findWords_108 : decode cX7_findWords 108 = .ok (.aload_n 0, 1) := by decide +kernel
theorem dX7_findWords_109 : decode cX7_findWords 109 = .ok (.getfield 211, 3) := by decide +kernel
theorem dX7_findWords_112 : decode cX7_findWords 112 = .ok (.iastore, 1) := by decide +kernel
theorem dX7_findWords_113 : decode cX7_findWords 113 = .ok (.aload_n 0, 1) := by decide +kernel
theorem dX7_findWords_114 : decode cX7_findWords 114 = .ok (.getfield 54, 3) := by decide +kernel
theorem dX7_findWords_117 : decode cX7_findWords 117 = .ok (.aload_n 0, 1) := by decide +kernel
theorem dX7_findWords_118 : decode cX7_findWords 118 = .ok (.getfield 244, 3) := by decide +kernel
theorem dX7_findWords_121 : decode cX7_findWords 121 = .ok (.iload_n 1, 1) := by decide +kernel
theorem dX7_findWords_122 : decode cX7_findWords 122 = .ok (.iastore, 1) := by decide +kernel
theorem dX7_findWords_123 : decode cX7_findWords 123 = .ok (.aload_n 0, 1) := by decide +kernel
theorem dX7_findWords_124 : decode cX7_findWords 124 = .ok (.getfield 57, 3) := by decide +kernel
theorem dX7_findWords_127 : decode cX7_findWords 127 = .ok (.aload_n 0, 1) := by decide +kernel
theorem dX7_findWords_128 : decode cX7_findWords 128 = .ok (.getfield 244, 3) := by decide +kernel
theorem dX7_findWords_131 : decode cX7_findWords 131 = .ok (.iload_n 2, 1) := by decide +kernel
theorem dX7_findWords_132 : decode cX7_findWords 132 = .ok (.iastore, 1) := by decide +kernel
theorem dX7_findWords_133 : decode cX7_findWords 133 = .ok (.aload_n 0, 1) := by decide +kernel
theorem dX7_findWords_134 : decode cX7_findWords 134 = .ok (.dup, 1) := by decide +kernel
theorem dX7_findWords_135 : decode cX7_findWords 135 = .ok (.getfield 244, 3) := by decide +kernel
theorem dX7_findWords_138 : decode cX7_findWords 138 = .ok (.iconst 1, 1) := by decide +kernel
theorem dX7_findWords_139 : decode cX7_findWords 139 = .ok (.iadd, 1) := by decide +kernel
theorem dX7_findWords_140 : decode cX7_findWords 140 = .ok (.putfield 244, 3) := by decide +kernel
theorem dX7_findWords_143 : decode cX7_findWords 143 = .ok (.iinc 2 1, 3) := by decide +kernel
theorem dX7_findWords_146 : decode cX7_findWords 146 = .ok (.goto (-108), 3) := by decide +kernel
theorem dX7_findWords_149 : decode cX7_findWords 149 = .ok (.iinc 1 1, 3) := by decide +kernel
theorem dX7_findWords_152 : decode cX7_findWords 152 = .ok (.goto (-124), 3) := by decide +kernel
theorem dX7_findWords_155 : decode cX7_findWords 155 = .ok (.return_, 1) := by decide +kernel
theorem dX7_putWord_0 : decode cX7_putWord 0 = .ok (.iconst 0, 1) := by decide +kernel
theorem dX7_putWord_1 : decode cX7_putWord 1 = .ok (.istore_n 3, 1) := by decide +kernel
theorem dX7_putWord_2 : decode cX7_putWord 2 = .ok (.iload_n 1, 1) := by decide +kernel
theorem dX7_putWord_3 : decode cX7_putWord 3 = .ok (.istore 4, 2) := by decide +kernel
theorem dX7_putWord_5 : decode cX7_putWord 5 = .ok (.aload_n 0, 1) := by decide +kernel
theorem dX7_putWord_6 : decode cX7_putWord 6 = .ok (.getfield 54, 3) := by decide +kernel
theorem dX7_putWord_9 : decode cX7_putWord 9 = .ok (.iload 4, 2) := by decide +kernel
theorem dX7_putWord_11 : decode cX7_putWord 11 = .ok (.iaload, 1) := by decide +kernel
theorem dX7_putWord_12 : decode cX7_putWord 12 = .ok (.ifCond .lt 18, 3) := by decide +kernel
theorem dX7_putWord_15 : decode cX7_putWord 15 = .ok (.iinc 3 1, 3) := by decide +kernel
theorem dX7_putWord_18 : decode cX7_putWord 18 = .ok (.aload_n 0, 1) := by decide +kernel
theorem dX7_putWord_19 : decode cX7_putWord 19 = .ok (.getfield 54, 3) := by decide +kernel
theorem dX7_putWord_22 : decode cX7_putWord 22 = .ok (.iload 4, 2) := by decide +kernel
theorem dX7_putWord_24 : decode cX7_putWord 24 = .ok (.iaload, 1) := by decide +kernel
theorem dX7_putWord_25 : decode cX7_putWord 25 = .ok (.istore 4, 2) := by decide +kernel
theorem dX7_putWord_27 : decode cX7_putWord 27 = .ok (.goto (-22), 3) := by decide +kernel
theorem dX7_putWord_30 : decode cX7_putWord 30 = .ok (.iload_n 3, 1) := by decide +kernel
theorem dX7_putWord_31 : decode cX7_putWord 31 = .ok (.iconst 1, 1) := by decide +kernel
theorem dX7_putWord_32 : decode cX7_putWord 32 = .ok (.isub, 1) := by decide +kernel
theorem dX7_putWord_33 : decode cX7_putWord 33 = .ok (.istore 4, 2) := by decide +kernel
theorem dX7_putWord_35 : decode cX7_putWord 35 = .ok (.iload 4, 2) := by decide +kernel
theorem dX7_putWord_37 : decode cX7_putWord 37 = .ok (.ifCond .lt 52, 3) := by decide +kernel
theorem dX7_putWord_40 : decode cX7_putWord 40 = .ok (.iload_n 1, 1) := by decide +kernel
theorem dX7_putWord_41 : decode cX7_putWord 41 = .ok (.istore 5, 2) := by decide +kernel
theorem dX7_putWord_43 : decode cX7_putWord 43 = .ok (.iconst 0, 1) := by decide +kernel
theorem dX7_putWord_44 : decode cX7_putWord 44 = .ok (.istore 6, 2) := by decide +kernel
theorem dX7_putWord_46 : decode cX7_putWord 46 = .ok (.iload 6, 2) := by decide +kernel
theorem dX7_putWord_48 : decode cX7_putWord 48 = .ok (.iload 4, 2) := by decide +kernel
theorem dX7_putWord_50 : decode cX7_putWord 50 = .ok (.if_icmp .ge 18, 3) := by decide +kernel
theorem dX7_putWord_53 : decode cX7_putWord 53 = .ok (.aload_n 0, 1) := by decide +kernel
theorem dX7_putWord_54 : decode cX7_putWord 54 = .ok (.getfield 54, 3) := by decide +kernel
theorem dX7_putWord_57 : decode cX7_putWord 57 = .ok (.iload 5, 2) := by decide +kernel
theorem dX7_putWord_59 : decode cX7_putWord 59 = .ok (.iaload, 1) := by decide +kernel
theorem dX7_putWord_60 : decode cX7_putWord 60 = .ok (.istore 5, 2) := by decide +kernel
theorem dX7_putWord_62 : decode cX7_putWord 62 = .ok (.iinc 6 1, 3) := by decide +kernel
theorem dX7_putWord_65 : decode cX7_putWord 65 = .ok (.goto (-19), 3) := by decide +kernel
theorem dX7_putWord_68 : decode cX7_putWord 68 = .ok (.aload_n 0, 1) := by decide +kernel
theorem dX7_putWord_69 : decode cX7_putWord 69 = .ok (.iconst 3, 1) := by decide +kernel
theorem dX7_putWord_70 : decode cX7_putWord 70 = .ok (.aload_n 0, 1) := by decide +kernel
theorem dX7_putWord_71 : decode cX7_putWord 71 = .ok (.getfield 57, 3) := by decide +kernel
theorem dX7_putWord_74 : decode cX7_putWord 74 = .ok (.iload 5, 2) := by decide +kernel
theorem dX7_putWord_76 : decode cX7_putWord 76 = .ok (.iaload, 1) := by decide +kernel
theorem dX7_putWord_77 : decode cX7_putWord 77 = .ok (.iload_n 2, 1) := by decide +kernel
theorem dX7_putWord_78 : decode cX7_putWord 78 = .ok (.iconst (-1), 1) := by decide +kernel
theorem dX7_putWord_79 : decode cX7_putWord 79 = .ok (.iconst (-1), 1) := by decide +kernel
theorem dX7_putWord_80 : decode cX7_putWord 80 = .ok (.invokevirtual 95, 3) := by decide +kernel
theorem dX7_putWord_83 : decode cX7_putWord 83 = .ok (.iinc 4 (-1), 3) := by decide +kernel
theorem dX7_putWord_86 : decode cX7_putWord 86 = .ok (.goto (-51), 3) := by decide +kernel
theorem dX7_putWord_89 : decode cX7_putWord 89 = .ok (.return_, 1) := by decide +kernel
theorem dX7_least_0 : decode cX7_least 0 = .ok (.aload_n 0, 1) := by decide +kernel
theorem dX7_least_1 : decode cX7_least 1 = .ok (.iload_n 1, 1) := by decide +kernel
theorem dX7_least_2 : decode cX7_least 2 = .ok (.invokestatic 88, 3) := by decide +kernel
theorem dX7_least_5 : decode cX7_least 5 = .ok (.ifCond .eq 7, 3) := by decide +kernel
theorem dX7_least_8 : decode cX7_least 8 = .ok (.iconst 0, 1) := by decide +kernel
theorem dX7_least_9 : decode cX7_least 9 = .ok (.goto 4, 3) := by decide +kernel
theorem dX7_least_12 : decode cX7_least 12 = .ok (.iconst 1, 1) := by decide +kernel
theorem dX7_least_13 : decode cX7_least 13 = .ok (.putfield 60, 3) := by decide +kernel
theorem dX7_least_16 : decode cX7_least 16 = .ok (.aload_n 0, 1) := by decide +kernel
theorem dX7_least_17 : decode cX7_least 17 = .ok (.getfield 60, 3) := by decide +kernel
theorem dX7_least_20 : decode cX7_least 20 = .ok (.ifCond .ne 15, 3) := by decide +kernel
theorem dX7_least_23 : decode cX7_least 23 = .ok (.aload_n 0, 1) := by decide +kernel
theorem dX7_least_24 : decode cX7_least 24 = .ok (.getfield 20, 3) := by decide +kernel
theorem dX7_least_27 : decode cX7_least 27 = .ok (.bipush 64, 2) := by decide +kernel
