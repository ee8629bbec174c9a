theorem dX0_init_0 : decode cX0_init 0 = .ok (.aload_n 0, 1) := by decide +kernel
theorem dX0_init_1 : decode cX0_init 1 = .ok (.invokespecial 3, 3) := by decide +kernel
theorem dX0_init_4 : decode cX0_init 4 = .ok (.aload_n 0, 1) := by decide +kernel
theorem dX0_init_5 : decode cX0_init 5 = .ok (.bipush 64, 2) := by decide +kernel
theorem dX0_init_7 : decode cX0_init 7 = .ok (.newarray .int, 2) := by decide +kernel
theorem dX0_init_9 : decode cX0_init 9 = .ok (.putfield 9, 3) := by decide +kernel
theorem dX0_init_12 : decode cX0_init 12 = .ok (.aload_n 0, 1) := by decide +kernel
theorem dX0_init_13 : decode cX0_init 13 = .ok (.iconst 0, 1) := by decide +kernel
theorem dX0_init_14 : decode cX0_init 14 = .ok (.putfield 15, 3) := by decide +kernel
theorem dX0_init_17 : decode cX0_init 17 = .ok (.return_, 1) := by decide +kernel
theorem dX0_count_0 : decode cX0_count 0 = .ok (.aload_n 0, 1) := by decide +kernel
theorem dX0_count_1 : decode cX0_count 1 = .ok (.getfield 15, 3) := by decide +kernel
theorem dX0_count_4 : decode cX0_count 4 = .ok (.ireturn, 1) := by decide +kernel
theorem dX0_at_0 : decode cX0_at 0 = .ok (.iload_n 1, 1) := by decide +kernel
theorem dX0_at_1 : decode cX0_at 1 = .ok (.ifCond .lt 20, 3) := by decide +kernel
theorem dX0_at_4 : decode cX0_at 4 = .ok (.iload_n 1, 1) := by decide +kernel
theorem dX0_at_5 : decode cX0_at 5 = .ok (.aload_n 0, 1) := by decide +kernel
theorem dX0_at_6 : decode cX0_at 6 = .ok (.getfield 15, 3) := by decide +kernel
theorem dX0_at_9 : decode cX0_at 9 = .ok (.if_icmp .ge 12, 3) := by decide +kernel
theorem dX0_at_12 : decode cX0_at 12 = .ok (.aload_n 0, 1) := by decide +kernel
theorem dX0_at_13 : decode cX0_at 13 = .ok (.getfield 9, 3) := by decide +kernel
theorem dX0_at_16 : decode cX0_at 16 = .ok (.iload_n 1, 1) := by decide +kernel
theorem dX0_at_17 : decode cX0_at 17 = .ok (.iaload, 1) := by decide +kernel
theorem dX0_at_18 : decode cX0_at 18 = .ok (.goto 4, 3) := by decide +kernel
theorem dX0_at_21 : decode cX0_at 21 = .ok (.iconst (-1), 1) := by decide +kernel
theorem dX0_at_22 : decode cX0_at 22 = .ok (.ireturn, 1) := by decide +kernel
theorem dX0_removeAll_0 : decode cX0_removeAll 0 = .ok (.aload_n 0, 1) := by decide +kernel
theorem dX0_removeAll_1 : decode cX0_removeAll 1 = .ok (.iconst 0, 1) := by decide +kernel
theorem dX0_removeAll_2 : decode cX0_removeAll 2 = .ok (.putfield 15, 3) := by decide +kernel
theorem dX0_removeAll_5 : decode cX0_removeAll 5 = .ok (.return_, 1) := by decide +kernel
theorem dX0_add_0 : decode cX0_add 0 = .ok (.aload_n 0, 1) := by decide +kernel
theorem dX0_add_1 : decode cX0_add 1 = .ok (.getfield 15, 3) := by decide +kernel
theorem dX0_add_4 : decode cX0_add 4 = .ok (.bipush 64, 2) := by decide +kernel
theorem dX0_add_6 : decode cX0_add 6 = .ok (.if_icmp .ge 23, 3) := by decide +kernel
theorem dX0_add_9 : decode cX0_add 9 = .ok (.aload_n 0, 1) := by decide +kernel
theorem dX0_add_10 : decode cX0_add 10 = .ok (.getfield 9, 3) := by decide +kernel
theorem dX0_add_13 : decode cX0_add 13 = .ok (.aload_n 0, 1) := by decide +kernel
theorem dX0_add_14 : decode cX0_add 14 = .ok (.getfield 15, 3) := by decide +kernel
theorem dX0_add_17 : decode cX0_add 17 = .ok (.iload_n 1, 1) := by decide +kernel
theorem dX0_add_18 : decode cX0_add 18 = .ok (.iastore, 1) := by decide +kernel
theorem dX0_add_19 : decode cX0_add 19 = .ok (.aload_n 0, 1) := by decide +kernel
theorem dX0_add_20 : decode cX0_add 20 = .ok (.dup, 1) := by decide +kernel
theorem dX0_add_21 : decode cX0_add 21 = .ok (.getfield 15, 3) := by decide +kernel
theorem dX0_add_24 : decode cX0_add 24 = .ok (.iconst 1, 1) := by decide +kernel
theorem dX0_add_25 : decode cX0_add 25 = .ok (.iadd, 1) := by decide +kernel
theorem dX0_add_26 : decode cX0_add 26 = .ok (.putfield 15, 3) := by decide +kernel
theorem dX0_add_29 : decode cX0_add 29 = .ok (.return_, 1) := by decide +kernel
theorem dX0_addAll_0 : decode cX0_addAll 0 = .ok (.aload_n 1, 1) := by decide +kernel
theorem dX0_addAll_1 : decode cX0_addAll 1 = .ok (.getfield 15, 3) := by decide +kernel
theorem dX0_addAll_4 : decode cX0_addAll 4 = .ok (.istore_n 2, 1) := by decide +kernel
theorem dX0_addAll_5 : decode cX0_addAll 5 = .ok (.iconst 0, 1) := by decide +kernel
theorem dX0_addAll_6 : decode cX0_addAll 6 = .ok (.istore_n 3, 1) := by decide +kernel
theorem dX0_addAll_7 : decode cX0_addAll 7 = .ok (.iload_n 3, 1) := by decide +kernel
theorem dX0_addAll_8 : decode cX0_addAll 8 = .ok (.iload_n 2, 1) := by decide +kernel
theorem dX0_addAll_9 : decode cX0_addAll 9 = .ok (.if_icmp .ge 18, 3) := by decide +kernel
theorem dX0_addAll_12 : decode cX0_addAll 12 = .ok (.aload_n 0, 1) := by decide +kernel
theorem dX0_addAll_13 : decode cX0_addAll 13 = .ok (.aload_n 1, 1) := by decide +kernel
theorem dX0_addAll_14 : decode cX0_addAll 14 = .ok (.iload_n 3, 1) := by decide +kernel
theorem dX0_addAll_15 : decode cX0_addAll 15 = .ok (.invokevirtual 19, 3) := by decide +kernel
theorem dX0_addAll_18 : decode cX0_addAll 18 = .ok (.invokevirtual 23, 3) := by decide +kernel
theorem dX0_addAll_21 : decode cX0_addAll 21 = .ok (.iinc 3 1, 3) := by decide +kernel
theorem dX0_addAll_24 : decode cX0_addAll 24 = .ok (.goto (-17), 3) := by decide +kernel
theorem dX0_addAll_27 : decode cX0_addAll 27 = .ok (.return_, 1) := by decide +kernel
theorem dX0_become_0 : decode cX0_become 0 = .ok (.aload_n 0, 1) := by decide +kernel
theorem dX0_become_1 : decode cX0_become 1 = .ok (.invokevirtual 27, 3) := by decide +kernel
theorem dX0_become_4 : decode cX0_become 4 = .ok (.aload_n 0, 1) := by decide +kernel
theorem dX0_become_5 : decode cX0_become 5 = .ok (.aload_n 1, 1) := by decide +kernel
theorem dX0_become_6 : decode cX0_become 6 = .ok (.invokevirtual 30, 3) := by decide +kernel
theorem dX0_become_9 : decode cX0_become 9 = .ok (.return_, 1) := by decide +kernel
theorem dX0_countKind_0 : decode cX0_countKind 0 = .ok (.iconst 0, 1) := by decide +kernel
theorem dX0_countKind_1 : decode cX0_countKind 1 = .ok (.istore_n 2, 1) := by decide +kernel
theorem dX0_countKind_2 : decode cX0_countKind 2 = .ok (.iconst 0, 1) := by decide +kernel
theorem dX0_countKind_3 : decode cX0_countKind 3 = .ok (.istore_n 3, 1) := by decide +kernel
theorem dX0_countKind_4 : decode cX0_countKind 4 = .ok (.iload_n 3, 1) := by decide +kernel
theorem dX0_countKind_5 : decode cX0_countKind 5 = .ok (.aload_n 0, 1) := by decide +kernel
theorem dX0_countKind_6 : decode cX0_countKind 6 = .ok (.getfield 15, 3) := by decide +kernel
theorem dX0_countKind_9 : decode cX0_countKind 9 = .ok (.if_icmp .ge 30, 3) := by decide +kernel
theorem dX0_countKind_12 : decode cX0_countKind 12 = .ok (.iload_n 2, 1) := by decide +kernel
theorem dX0_countKind_13 : decode cX0_countKind 13 = .ok (.aload_n 0, 1) := by decide +kernel
theorem dX0_countKind_14 : decode cX0_countKind 14 = .ok (.getfield 9, 3) := by decide +kernel
theorem dX0_countKind_17 : decode cX0_countKind 17 = .ok (.iload_n 3, 1) := by decide +kernel
theorem dX0_countKind_18 : decode cX0_countKind 18 = .ok (.iaload, 1) := by decide +kernel
theorem dX0_countKind_19 : decode cX0_countKind 19 = .ok (.invokestatic 34, 3) := by decide +kernel
theorem dX0_countKind_22 : decode cX0_countKind 22 = .ok (.iload_n 1, 1) := by decide +kernel
theorem dX0_countKind_23 : decode cX0_countKind 23 = .ok (.if_icmp .ne 7, 3) := by decide +kernel
theorem dX0_countKind_26 : decode cX0_countKind 26 = .ok (.iconst 1, 1) := by decide +kernel
theorem dX0_countKind_27 : decode cX0_countKind 27 = .ok (.goto 4, 3) := by decide +kernel
theorem dX0_countKind_30 : decode cX0_countKind 30 = .ok (.iconst 0, 1) := by decide +kernel
theorem dX0_countKind_31 : decode cX0_countKind 31 = .ok (.iadd, 1) := by decide +kernel
theorem dX0_countKind_32 : decode cX0_countKind 32 = .ok (.istore_n 2, 1) := by decide +kernel
theorem dX0_countKind_33 : decode cX0_countKind 33 = .ok (.iinc 3 1, 3) := by decide +kernel
theorem dX0_countKind_36 : decode cX0_countKind 36 = .ok (.goto (-32), 3) := by decide +kernel
theorem dX0_countKind_39 : decode cX0_countKind 39 = .ok (.iload_n 2, 1) := by decide +kernel
theorem dX0_countKind_40 : decode cX0_countKind 40 = .ok (.ireturn, 1) := by decide +kernel
theorem dX0_isOnOneWire_0 : decode cX0_isOnOneWire 0 = .ok (.iconst 0, 1) := by decide +kernel
theorem dX0_isOnOneWire_1 : decode cX0_isOnOneWire 1 = .ok (.istore_n 1, 1) := by decide +kernel
theorem dX0_isOnOneWire_2 : decode cX0_isOnOneWire 2 = .ok (.iload_n 1, 1) := by decide +kernel
theorem dX0_isOnOneWire_3 : decode cX0_isOnOneWire 3 = .ok (.aload_n 0, 1) := by decide +kernel
theorem dX0_isOnOneWire_4 : decode cX0_isOnOneWire 4 = .ok (.getfield 15, 3) := by decide +kernel
theorem dX0_isOnOneWire_7 : decode cX0_isOnOneWire 7 = .ok (.if_icmp .ge 45, 3) := by decide +kernel
theorem dX0_isOnOneWire_10 : decode cX0_isOnOneWire 10 = .ok (.aload_n 0, 1) := by decide +kernel
theorem dX0_isOnOneWire_11 : decode cX0_isOnOneWire 11 = .ok (.getfield 9, 3) := by decide +kernel
theorem dX0_isOnOneWire_14 : decode cX0_isOnOneWire 14 = .ok (.iload_n 1, 1) := by decide +kernel
theorem dX0_isOnOneWire_15 : decode cX0_isOnOneWire 15 = .ok (.iaload, 1) := by decide +kernel
theorem dX0_isOnOneWire_16 : decode cX0_isOnOneWire 16 = .ok (.invokestatic 34, 3) := by decide +kernel
theorem dX0_isOnOneWire_19 : decode cX0_isOnOneWire 19 = .ok (.iconst 5, 1) := by decide +kernel
theorem dX0_isOnOneWire_20 : decode cX0_isOnOneWire 20 = .ok (.if_icmp .gt 24, 3) := by decide +kernel
theorem dX0_isOnOneWire_23 : decode cX0_isOnOneWire 23 = .ok (.aload_n 0, 1) := by decide +kernel
theorem dX0_isOnOneWire_24 : decode cX0_isOnOneWire 24 = .ok (.getfield 9, 3) := by decide +kernel
theorem dX0_isOnOneWire_27 : decode cX0_isOnOneWire 27 = .ok (.iload_n 1, 1) := by decide +kernel
theorem dX0_isOnOneWire_28 : decode cX0_isOnOneWire 28 = .ok (.iaload, 1) := by decide +kernel
theorem dX0_isOnOneWire_29 : decode cX0_isOnOneWire 29 = .ok (.invokestatic 39, 3) := by decide +kernel
theorem dX0_isOnOneWire_32 : decode cX0_isOnOneWire 32 = .ok (.aload_n 0, 1) := by decide +kernel
theorem dX0_isOnOneWire_33 : decode cX0_isOnOneWire 33 = .ok (.getfield 9, 3) := by decide +kernel
theorem dX0_isOnOneWire_36 : decode cX0_isOnOneWire 36 = .ok (.iconst 0, 1) := by decide +kernel
theorem dX0_isOnOneWire_37 : decode cX0_isOnOneWire 37 = .ok (.iaload, 1) := by decide +kernel
theorem dX0_isOnOneWire_38 : decode cX0_isOnOneWire 38 = .ok (.invokestatic 39, 3) := by decide +kernel
theorem dX0_isOnOneWire_41 : decode cX0_isOnOneWire 41 = .ok (.if_icmp .eq 5, 3) := by decide +kernel
theorem dX0_isOnOneWire_44 : decode cX0_isOnOneWire 44 = .ok (.iconst 0, 1) := by decide +kernel
theorem dX0_isOnOneWire_45 : decode cX0_isOnOneWire 45 = .ok (.ireturn, 1) := by decide +kernel
theorem dX0_isOnOneWire_46 : decode cX0_isOnOneWire 46 = .ok (.iinc 1 1, 3) := by decide +kernel
theorem dX0_isOnOneWire_49 : decode cX0_isOnOneWire 49 = .ok (.goto (-47), 3) := by decide +kernel
theorem dX0_isOnOneWire_52 : decode cX0_isOnOneWire 52 = .ok (.iconst 1, 1) := by decide +kernel
theorem dX0_isOnOneWire_53 : decode cX0_isOnOneWire 53 = .ok (.ireturn, 1) := by decide +kernel
theorem dX0_countInverted_0 : decode cX0_countInverted 0 = .ok (.aload_n 0, 1) := by decide +kernel
theorem dX0_countInverted_1 : decode cX0_countInverted 1 = .ok (.getfield 15, 3) := by decide +kernel
theorem dX0_countInverted_4 : decode cX0_countInverted 4 = .ok (.aload_n 0, 1) := by decide +kernel
theorem dX0_countInverted_5 : decode cX0_countInverted 5 = .ok (.iconst 2, 1) := by decide +kernel
theorem dX0_countInverted_6 : decode cX0_countInverted 6 = .ok (.invokevirtual 42, 3) := by decide +kernel
theorem dX0_countInverted_9 : decode cX0_countInverted 9 = .ok (.iadd, 1) := by decide +kernel
theorem dX0_countInverted_10 : decode cX0_countInverted 10 = .ok (.iconst 2, 1) := by decide +kernel
theorem dX0_countInverted_11 : decode cX0_countInverted 11 = .ok (.aload_n 0, 1) := by decide +kernel
theorem dX0_countInverted_12 : decode cX0_countInverted 12 = .ok (.iconst 3, 1) := by decide +kernel
theorem dX0_countInverted_13 : decode cX0_countInverted 13 = .ok (.invokevirtual 42, 3) := by decide +kernel
theorem dX0_countInverted_16 : decode cX0_countInverted 16 = .ok (.imul, 1) := by decide +kernel
theorem dX0_countInverted_17 : decode cX0_countInverted 17 = .ok (.iadd, 1) := by decide +kernel
theorem dX0_countInverted_18 : decode cX0_countInverted 18 = .ok (.ireturn, 1) := by decide +kernel
theorem dX0_addInverted_0 : decode cX0_addInverted 0 = .ok (.aload_n 1, 1) := by decide +kernel
theorem dX0_addInverted_1 : decode cX0_addInverted 1 = .ok (.getfield 15, 3) := by decide +kernel
theorem dX0_addInverted_4 : decode cX0_addInverted 4 = .ok (.iconst 1, 1) := by decide +kernel
theorem dX0_addInverted_5 : decode cX0_addInverted 5 = .ok (.isub, 1) := by decide +kernel
theorem dX0_addInverted_6 : decode cX0_addInverted 6 = .ok (.istore_n 2, 1) := by decide +kernel
theorem dX0_addInverted_7 : decode cX0_addInverted 7 = .ok (.iload_n 2, 1) := by decide +kernel
theorem dX0_addInverted_8 : decode cX0_addInverted 8 = .ok (.ifCond .lt 58, 3) := by decide +kernel
theorem dX0_addInverted_11 : decode cX0_addInverted 11 = .ok (.aload_n 1, 1) := by decide +kernel
theorem dX0_addInverted_12 : decode cX0_addInverted 12 = .ok (.iload_n 2, 1) := by decide +kernel
theorem dX0_addInverted_13 : decode cX0_addInverted 13 = .ok (.invokevirtual 19, 3) := by decide +kernel
theorem dX0_addInverted_16 : decode cX0_addInverted 16 = .ok (.istore_n 3, 1) := by decide +kernel
theorem dX0_addInverted_17 : decode cX0_addInverted 17 = .ok (.iload_n 3, 1) := by decide +kernel
theorem dX0_addInverted_18 : decode cX0_addInverted 18 = .ok (.invokestatic 34, 3) := by decide +kernel
theorem dX0_addInverted_21 : decode cX0_addInverted 21 = .ok (.istore 4, 2) := by decide +kernel
theorem dX0_addInverted_23 : decode cX0_addInverted 23 = .ok (.iload 4, 2) := by decide +kernel
theorem dX0_addInverted_25 : decode cX0_addInverted 25 = .ok (.iconst 3, 1) := by decide +kernel
theorem dX0_addInverted_26 : decode cX0_addInverted 26 = .ok (.if_icmp .ne 14, 3) := by decide +kernel
theorem dX0_addInverted_29 : decode cX0_addInverted 29 = .ok (.aload_n 0, 1) := by decide +kernel
theorem dX0_addInverted_30 : decode cX0_addInverted 30 = .ok (.iload_n 3, 1) := by decide +kernel
theorem dX0_addInverted_31 : decode cX0_addInverted 31 = .ok (.invokestatic 39, 3) := by decide +kernel
theorem dX0_addInverted_34 : decode cX0_addInverted 34 = .ok (.invokevirtual 45, 3) := by decide +kernel
theorem dX0_addInverted_37 : decode cX0_addInverted 37 = .ok (.goto 23, 3) := by decide +kernel
theorem dX0_addInverted_40 : decode cX0_addInverted 40 = .ok (.aload_n 0, 1) := by decide +kernel
theorem dX0_addInverted_41 : decode cX0_addInverted 41 = .ok (.iload_n 3, 1) := by decide +kernel
theorem dX0_addInverted_42 : decode cX0_addInverted 42 = .ok (.invokevirtual 23, 3) := by decide +kernel
theorem dX0_addInverted_45 : decode cX0_addInverted 45 = .ok (.iload 4, 2) := by decide +kernel
theorem dX0_addInverted_47 : decode cX0_addInverted 47 = .ok (.iconst 2, 1) := by decide +kernel
theorem dX0_addInverted_48 : decode cX0_addInverted 48 = .ok (.if_icmp .ne 12, 3) := by decide +kernel
theorem dX0_addInverted_51 : decode cX0_addInverted 51 = .ok (.aload_n 0, 1) := by decide +kernel
theorem dX0_addInverted_52 : decode cX0_addInverted 52 = .ok (.iconst 5, 1) := by decide +kernel
theorem dX0_addInverted_53 : decode cX0_addInverted 53 = .ok (.iload_n 3, 1) := by decide +kernel
theorem dX0_addInverted_54 : decode cX0_addInverted 54 = .ok (.invokestatic 39, 3) := by decide +kernel
theorem dX0_addInverted_57 : decode cX0_addInverted 57 = .ok (.invokevirtual 48, 3) := by decide +kernel
theorem dX0_addInverted_60 : decode cX0_addInverted 60 = .ok (.iinc 2 (-1), 3) := by decide +kernel
theorem dX0_addInverted_63 : decode cX0_addInverted 63 = .ok (.goto (-56), 3) := by decide +kernel
theorem dX0_addInverted_66 : decode cX0_addInverted 66 = .ok (.return_, 1) := by decide +kernel
theorem dX0_countExpanded_0 : decode cX0_countExpanded 0 = .ok (.aload_n 0, 1) := by decide +kernel
theorem dX0_countExpanded_1 : decode cX0_countExpanded 1 = .ok (.getfield 15, 3) := by decide +kernel
theorem dX0_countExpanded_4 : decode cX0_countExpanded 4 = .ok (.bipush 20, 2) := by decide +kernel
theorem dX0_countExpanded_6 : decode cX0_countExpanded 6 = .ok (.aload_n 0, 1) := by decide +kernel
theorem dX0_countExpanded_7 : decode cX0_countExpanded 7 = .ok (.bipush 9, 2) := by decide +kernel
theorem dX0_countExpanded_9 : decode cX0_countExpanded 9 = .ok (.invokevirtual 42, 3) := by decide +kernel
theorem dX0_countExpanded_12 : decode cX0_countExpanded 12 = .ok (.imul, 1) := by decide +kernel
theorem dX0_countExpanded_13 : decode cX0_countExpanded 13 = .ok (.iadd, 1) := by decide +kernel
theorem dX0_countExpanded_14 : decode cX0_countExpanded 14 = .ok (.ireturn, 1) := by decide +kernel
theorem dX0_addExpanded_0 : decode cX0_addExpanded 0 = .ok (.iconst 0, 1) := by decide +kernel
theorem dX0_addExpanded_1 : decode cX0_addExpanded 1 = .ok (.istore_n 2, 1) := by decide +kernel
theorem dX0_addExpanded_2 : decode cX0_addExpanded 2 = .ok (.iload_n 2, 1) := by decide +kernel
theorem dX0_addExpanded_3 : decode cX0_addExpanded 3 = .ok (.aload_n 1, 1) := by decide +kernel
theorem dX0_addExpanded_4 : decode cX0_addExpanded 4 = .ok (.getfield 15, 3) := by decide +kernel
theorem dX0_addExpanded_7 : decode cX0_addExpanded 7 = .ok (.if_icmp .ge 48, 3) := by decide +kernel
theorem dX0_addExpanded_10 : decode cX0_addExpanded 10 = .ok (.aload_n 1, 1) := by decide +kernel
theorem dX0_addExpanded_11 : decode cX0_addExpanded 11 = .ok (.iload_n 2, 1) := by decide +kernel
theorem dX0_addExpanded_12 : decode cX0_addExpanded 12 = .ok (.invokevirtual 19, 3) := by decide +kernel
theorem dX0_addExpanded_15 : decode cX0_addExpanded 15 = .ok (.istore_n 3, 1) := by decide +kernel
theorem dX0_addExpanded_16 : decode cX0_addExpanded 16 = .ok (.iload_n 3, 1) := by decide +kernel
theorem dX0_addExpanded_17 : decode cX0_addExpanded 17 = .ok (.invokestatic 34, 3) := by decide +kernel
theorem dX0_addExpanded_20 : decode cX0_addExpanded 20 = .ok (.bipush 9, 2) := by decide +kernel
theorem dX0_addExpanded_22 : decode cX0_addExpanded 22 = .ok (.if_icmp .ne 22, 3) := by decide +kernel
theorem dX0_addExpanded_25 : decode cX0_addExpanded 25 = .ok (.aload_n 0, 1) := by decide +kernel
theorem dX0_addExpanded_26 : decode cX0_addExpanded 26 = .ok (.iload_n 3, 1) := by decide +kernel
theorem dX0_addExpanded_27 : decode cX0_addExpanded 27 = .ok (.invokestatic 39, 3) := by decide +kernel
theorem dX0_addExpanded_30 : decode cX0_addExpanded 30 = .ok (.iload_n 3, 1) := by decide +kernel
theorem dX0_addExpanded_31 : decode cX0_addExpanded 31 = .ok (.invokestatic 52, 3) := by decide +kernel
theorem dX0_addExpanded_34 : decode cX0_addExpanded 34 = .ok (.iload_n 3, 1) := by decide +kernel
theorem dX0_addExpanded_35 : decode cX0_addExpanded 35 = .ok (.invokestatic 55, 3) := by decide +kernel
theorem dX0_addExpanded_38 : decode cX0_addExpanded 38 = .ok (.invokevirtual 58, 3) := by decide +kernel
theorem dX0_addExpanded_41 : decode cX0_addExpanded 41 = .ok (.goto 8, 3) := by decide +kernel
theorem dX0_addExpanded_44 : decode cX0_addExpanded 44 = .ok (.aload_n 0, 1) := by decide +kernel
theorem dX0_addExpanded_45 : decode cX0_addExpanded 45 = .ok (.iload_n 3, 1) := by decide +kernel
theorem dX0_addExpanded_46 : decode cX0_addExpanded 46 = .ok (.invokevirtual 23, 3) := by decide +kernel
theorem dX0_addExpanded_49 : decode cX0_addExpanded 49 = .ok (.iinc 2 1, 3) := by decide +kernel
theorem dX0_addExpanded_52 : decode cX0_addExpanded 52 = .ok (.goto (-50), 3) := by decide +kernel
theorem dX0_addExpanded_55 : decode cX0_addExpanded 55 = .ok (.return_, 1) := by decide +kernel
theorem dX0_addParts_0 : decode cX0_addParts 0 = .ok (.aload_n 0, 1) := by decide +kernel
theorem dX0_addParts_1 : decode cX0_addParts 1 = .ok (.iconst 1, 1) := by decide +kernel
theorem dX0_addParts_2 : decode cX0_addParts 2 = .ok (.iload_n 3, 1) := by decide +kernel
theorem dX0_addParts_3 : decode cX0_addParts 3 = .ok (.invokevirtual 48, 3) := by decide +kernel
theorem dX0_addParts_6 : decode cX0_addParts 6 = .ok (.aload_n 0, 1) := by decide +kernel
theorem dX0_addParts_7 : decode cX0_addParts 7 = .ok (.iload_n 2, 1) := by decide +kernel
theorem dX0_addParts_8 : decode cX0_addParts 8 = .ok (.iload_n 3, 1) := by decide +kernel
theorem dX0_addParts_9 : decode cX0_addParts 9 = .ok (.invokevirtual 62, 3) := by decide +kernel
theorem dX0_addParts_12 : decode cX0_addParts 12 = .ok (.aload_n 0, 1) := by decide +kernel
theorem dX0_addParts_13 : decode cX0_addParts 13 = .ok (.iload_n 3, 1) := by decide +kernel
theorem dX0_addParts_14 : decode cX0_addParts 14 = .ok (.invokevirtual 45, 3) := by decide +kernel
theorem dX0_addParts_17 : decode cX0_addParts 17 = .ok (.aload_n 0, 1) := by decide +kernel
theorem dX0_addParts_18 : decode cX0_addParts 18 = .ok (.iload_n 1, 1) := by decide +kernel
theorem dX0_addParts_19 : decode cX0_addParts 19 = .ok (.iload_n 3, 1) := by decide +kernel
theorem dX0_addParts_20 : decode cX0_addParts 20 = .ok (.invokevirtual 62, 3) := by decide +kernel
theorem dX0_addParts_23 : decode cX0_addParts 23 = .ok (.aload_n 0, 1) := by decide +kernel
theorem dX0_addParts_24 : decode cX0_addParts 24 = .ok (.iconst 3, 1) := by decide +kernel
theorem dX0_addParts_25 : decode cX0_addParts 25 = .ok (.iload_n 3, 1) := by decide +kernel
theorem dX0_addParts_26 : decode cX0_addParts 26 = .ok (.invokevirtual 48, 3) := by decide +kernel
theorem dX0_addParts_29 : decode cX0_addParts 29 = .ok (.aload_n 0, 1) := by decide +kernel
theorem dX0_addParts_30 : decode cX0_addParts 30 = .ok (.iload_n 2, 1) := by decide +kernel
theorem dX0_addParts_31 : decode cX0_addParts 31 = .ok (.iload_n 3, 1) := by decide +kernel
theorem dX0_addParts_32 : decode cX0_addParts 32 = .ok (.invokevirtual 62, 3) := by decide +kernel
theorem dX0_addParts_35 : decode cX0_addParts 35 = .ok (.aload_n 0, 1) := by decide +kernel
theorem dX0_addParts_36 : decode cX0_addParts 36 = .ok (.iload_n 3, 1) := by decide +kernel
theorem dX0_addParts_37 : decode cX0_addParts 37 = .ok (.invokevirtual 45, 3) := by decide +kernel
theorem dX0_addParts_40 : decode cX0_addParts 40 = .ok (.aload_n 0, 1) := by decide +kernel
theorem dX0_addParts_41 : decode cX0_addParts 41 = .ok (.iload_n 1, 1) := by decide +kernel
theorem dX0_addParts_42 : decode cX0_addParts 42 = .ok (.iload_n 3, 1) := by decide +kernel
theorem dX0_addParts_43 : decode cX0_addParts 43 = .ok (.invokevirtual 62, 3) := by decide +kernel
theorem dX0_addParts_46 : decode cX0_addParts 46 = .ok (.aload_n 0, 1) := by decide +kernel
theorem dX0_addParts_47 : decode cX0_addParts 47 = .ok (.iconst 3, 1) := by decide +kernel
theorem dX0_addParts_48 : decode cX0_addParts 48 = .ok (.iload_n 2, 1) := by decide +kernel
theorem dX0_addParts_49 : decode cX0_addParts 49 = .ok (.invokevirtual 48, 3) := by decide +kernel
theorem dX0_addParts_52 : decode cX0_addParts 52 = .ok (.aload_n 0, 1) := by decide +kernel
theorem dX0_addParts_53 : decode cX0_addParts 53 = .ok (.iconst 3, 1) := by decide +kernel
theorem dX0_addParts_54 : decode cX0_addParts 54 = .ok (.iload_n 3, 1) := by decide +kernel
theorem dX0_addParts_55 : decode cX0_addParts 55 = .ok (.invokevirtual 48, 3) := by decide +kernel
theorem dX0_addParts_58 : decode cX0_addParts 58 = .ok (.aload_n 0, 1) := by decide +kernel
theorem dX0_addParts_59 : decode cX0_addParts 59 = .ok (.iconst 1, 1) := by decide +kernel
theorem dX0_addParts_60 : decode cX0_addParts 60 = .ok (.iload_n 3, 1) := by decide +kernel
theorem dX0_addParts_61 : decode cX0_addParts 61 = .ok (.invokevirtual 48, 3) := by decide +kernel
theorem dX0_addParts_64 : decode cX0_addParts 64 = .ok (.aload_n 0, 1) := by decide +kernel
theorem dX0_addParts_65 : decode cX0_addParts 65 = .ok (.iload_n 1, 1) := by decide +kernel
theorem dX0_addParts_66 : decode cX0_addParts 66 = .ok (.iload_n 2, 1) := by decide +kernel
theorem dX0_addParts_67 : decode cX0_addParts 67 = .ok (.invokevirtual 62, 3) := by decide +kernel
theorem dX0_addParts_70 : decode cX0_addParts 70 = .ok (.aload_n 0, 1) := by decide +kernel
theorem dX0_addParts_71 : decode cX0_addParts 71 = .ok (.iconst 3, 1) := by decide +kernel
theorem dX0_addParts_72 : decode cX0_addParts 72 = .ok (.iload_n 1, 1) := by decide +kernel
theorem dX0_addParts_73 : decode cX0_addParts 73 = .ok (.invokevirtual 48, 3) := by decide +kernel
theorem dX0_addParts_76 : decode cX0_addParts 76 = .ok (.aload_n 0, 1) := by decide +kernel
theorem dX0_addParts_77 : decode cX0_addParts 77 = .ok (.iload_n 2, 1) := by decide +kernel
theorem dX0_addParts_78 : decode cX0_addParts 78 = .ok (.invokevirtual 45, 3) := by decide +kernel
theorem dX0_addParts_81 : decode cX0_addParts 81 = .ok (.aload_n 0, 1) := by decide +kernel
theorem dX0_addParts_82 : decode cX0_addParts 82 = .ok (.iload_n 1, 1) := by decide +kernel
theorem dX0_addParts_83 : decode cX0_addParts 83 = .ok (.iload_n 2, 1) := by decide +kernel
theorem dX0_addParts_84 : decode cX0_addParts 84 = .ok (.invokevirtual 62, 3) := by decide +kernel
theorem dX0_addParts_87 : decode cX0_addParts 87 = .ok (.return_, 1) := by decide +kernel
theorem dX0_addOn_0 : decode cX0_addOn 0 = .ok (.aload_n 0, 1) := by decide +kernel
theorem dX0_addOn_1 : decode cX0_addOn 1 = .ok (.iload_n 1, 1) := by decide +kernel
theorem dX0_addOn_2 : decode cX0_addOn 2 = .ok (.iload_n 2, 1) := by decide +kernel
theorem dX0_addOn_3 : decode cX0_addOn 3 = .ok (.iconst 0, 1) := by decide +kernel
theorem dX0_addOn_4 : decode cX0_addOn 4 = .ok (.iconst 0, 1) := by decide +kernel
theorem dX0_addOn_5 : decode cX0_addOn 5 = .ok (.invokestatic 65, 3) := by decide +kernel
theorem dX0_addOn_8 : decode cX0_addOn 8 = .ok (.invokevirtual 23, 3) := by decide +kernel
theorem dX0_addOn_11 : decode cX0_addOn 11 = .ok (.return_, 1) := by decide +kernel
theorem dX0_addControlled_0 : decode cX0_addControlled 0 = .ok (.aload_n 0, 1) := by decide +kernel
theorem dX0_addControlled_1 : decode cX0_addControlled 1 = .ok (.bipush 6, 2) := by decide +kernel
theorem dX0_addControlled_3 : decode cX0_addControlled 3 = .ok (.iload_n 1, 1) := by decide +kernel
theorem dX0_addControlled_4 : decode cX0_addControlled 4 = .ok (.iload_n 2, 1) := by decide +kernel
theorem dX0_addControlled_5 : decode cX0_addControlled 5 = .ok (.iconst 0, 1) := by decide +kernel
theorem dX0_addControlled_6 : decode cX0_addControlled 6 = .ok (.invokestatic 65, 3) := by decide +kernel
theorem dX0_addControlled_9 : decode cX0_addControlled 9 = .ok (.invokevirtual 23, 3) := by decide +kernel
theorem dX0_addControlled_12 : decode cX0_addControlled 12 = .ok (.return_, 1) := by decide +kernel
theorem dX0_addBackTurn_0 : decode cX0_addBackTurn 0 = .ok (.aload_n 0, 1) := by decide +kernel
theorem dX0_addBackTurn_1 : decode cX0_addBackTurn 1 = .ok (.iconst 3, 1) := by decide +kernel
theorem dX0_addBackTurn_2 : decode cX0_addBackTurn 2 = .ok (.iload_n 1, 1) := by decide +kernel
theorem dX0_addBackTurn_3 : decode cX0_addBackTurn 3 = .ok (.invokevirtual 48, 3) := by decide +kernel
theorem dX0_addBackTurn_6 : decode cX0_addBackTurn 6 = .ok (.aload_n 0, 1) := by decide +kernel
theorem dX0_addBackTurn_7 : decode cX0_addBackTurn 7 = .ok (.iconst 2, 1) := by decide +kernel
theorem dX0_addBackTurn_8 : decode cX0_addBackTurn 8 = .ok (.iload_n 1, 1) := by decide +kernel
theorem dX0_addBackTurn_9 : decode cX0_addBackTurn 9 = .ok (.invokevirtual 48, 3) := by decide +kernel
theorem dX0_addBackTurn_12 : decode cX0_addBackTurn 12 = .ok (.aload_n 0, 1) := by decide +kernel
theorem dX0_addBackTurn_13 : decode cX0_addBackTurn 13 = .ok (.iconst 5, 1) := by decide +kernel
theorem dX0_addBackTurn_14 : decode cX0_addBackTurn 14 = .ok (.iload_n 1, 1) := by decide +kernel
theorem dX0_addBackTurn_15 : decode cX0_addBackTurn 15 = .ok (.invokevirtual 48, 3) := by decide +kernel
theorem dX0_addBackTurn_18 : decode cX0_addBackTurn 18 = .ok (.return_, 1) := by decide +kernel
theorem dX0_rewriteAll_0 : decode cX0_rewriteAll 0 = .ok (.iconst 1, 1) := by decide +kernel
theorem dX0_rewriteAll_1 : decode cX0_rewriteAll 1 = .ok (.istore_n 1, 1) := by decide +kernel
theorem dX0_rewriteAll_2 : decode cX0_rewriteAll 2 = .ok (.bipush 64, 2) := by decide +kernel
theorem dX0_rewriteAll_4 : decode cX0_rewriteAll 4 = .ok (.istore_n 2, 1) := by decide +kernel
theorem dX0_rewriteAll_5 : decode cX0_rewriteAll 5 = .ok (.iload_n 2, 1) := by decide +kernel
theorem dX0_rewriteAll_6 : decode cX0_rewriteAll 6 = .ok (.ifCond .le 18, 3) := by decide +kernel
theorem dX0_rewriteAll_9 : decode cX0_rewriteAll 9 = .ok (.iload_n 1, 1) := by decide +kernel
theorem dX0_rewriteAll_10 : decode cX0_rewriteAll 10 = .ok (.ifCond .eq 14, 3) := by decide +kernel
theorem dX0_rewriteAll_13 : decode cX0_rewriteAll 13 = .ok (.aload_n 0, 1) := by decide +kernel
theorem dX0_rewriteAll_14 : decode cX0_rewriteAll 14 = .ok (.invokevirtual 69, 3) := by decide +kernel
theorem dX0_rewriteAll_17 : decode cX0_rewriteAll 17 = .ok (.istore_n 1, 1) := by decide +kernel
theorem dX0_rewriteAll_18 : decode cX0_rewriteAll 18 = .ok (.iinc 2 (-1), 3) := by decide +kernel
theorem dX0_rewriteAll_21 : decode cX0_rewriteAll 21 = .ok (.goto (-16), 3) := by decide +kernel
theorem dX0_rewriteAll_24 : decode cX0_rewriteAll 24 = .ok (.return_, 1) := by decide +kernel
theorem dX0_rewriteOne_0 : decode cX0_rewriteOne 0 = .ok (.iconst 0, 1) := by decide +kernel
theorem dX0_rewriteOne_1 : decode cX0_rewriteOne 1 = .ok (.istore_n 1, 1) := by decide +kernel
theorem dX0_rewriteOne_2 : decode cX0_rewriteOne 2 = .ok (.iload_n 1, 1) := by decide +kernel
theorem dX0_rewriteOne_3 : decode cX0_rewriteOne 3 = .ok (.aload_n 0, 1) := by decide +kernel
theorem dX0_rewriteOne_4 : decode cX0_rewriteOne 4 = .ok (.getfield 15, 3) := by decide +kernel
theorem dX0_rewriteOne_7 : decode cX0_rewriteOne 7 = .ok (.if_icmp .ge 28, 3) := by decide +kernel
theorem dX0_rewriteOne_10 : decode cX0_rewriteOne 10 = .ok (.aload_n 0, 1) := by decide +kernel
theorem dX0_rewriteOne_11 : decode cX0_rewriteOne 11 = .ok (.iload_n 1, 1) := by decide +kernel
theorem dX0_rewriteOne_12 : decode cX0_rewriteOne 12 = .ok (.invokevirtual 73, 3) := by decide +kernel
theorem dX0_rewriteOne_15 : decode cX0_rewriteOne 15 = .ok (.istore_n 2, 1) := by decide +kernel
theorem dX0_rewriteOne_16 : decode cX0_rewriteOne 16 = .ok (.iload_n 2, 1) := by decide +kernel
theorem dX0_rewriteOne_17 : decode cX0_rewriteOne 17 = .ok (.iconst (-1), 1) := by decide +kernel
theorem dX0_rewriteOne_18 : decode cX0_rewriteOne 18 = .ok (.if_icmp .eq 11, 3) := by decide +kernel
theorem dX0_rewriteOne_21 : decode cX0_rewriteOne 21 = .ok (.aload_n 0, 1) := by decide +kernel
theorem dX0_rewriteOne_22 : decode cX0_rewriteOne 22 = .ok (.iload_n 1, 1) := by decide +kernel
theorem dX0_rewriteOne_23 : decode cX0_rewriteOne 23 = .ok (.iload_n 2, 1) := by decide +kernel
theorem dX0_rewriteOne_24 : decode cX0_rewriteOne 24 = .ok (.invokevirtual 76, 3) := by decide +kernel
theorem dX0_rewriteOne_27 : decode cX0_rewriteOne 27 = .ok (.iconst 1, 1) := by decide +kernel
theorem dX0_rewriteOne_28 : decode cX0_rewriteOne 28 = .ok (.ireturn, 1) := by decide +kernel
theorem dX0_rewriteOne_29 : decode cX0_rewriteOne 29 = .ok (.iinc 1 1, 3) := by decide +kernel
theorem dX0_rewriteOne_32 : decode cX0_rewriteOne 32 = .ok (.goto (-30), 3) := by decide +kernel
theorem dX0_rewriteOne_35 : decode cX0_rewriteOne 35 = .ok (.iconst 0, 1) := by decide +kernel
theorem dX0_rewriteOne_36 : decode cX0_rewriteOne 36 = .ok (.ireturn, 1) := by decide +kernel
theorem dX0_partnerOf_0 : decode cX0_partnerOf 0 = .ok (.iload_n 1, 1) := by decide +kernel
theorem dX0_partnerOf_1 : decode cX0_partnerOf 1 = .ok (.iconst 1, 1) := by decide +kernel
theorem dX0_partnerOf_2 : decode cX0_partnerOf 2 = .ok (.iadd, 1) := by decide +kernel
theorem dX0_partnerOf_3 : decode cX0_partnerOf 3 = .ok (.istore_n 2, 1) := by decide +kernel
theorem dX0_partnerOf_4 : decode cX0_partnerOf 4 = .ok (.iload_n 2, 1) := by decide +kernel
theorem dX0_partnerOf_5 : decode cX0_partnerOf 5 = .ok (.aload_n 0, 1) := by decide +kernel
theorem dX0_partnerOf_6 : decode cX0_partnerOf 6 = .ok (.getfield 15, 3) := by decide +kernel
theorem dX0_partnerOf_9 : decode cX0_partnerOf 9 = .ok (.if_icmp .ge 49, 3) := by decide +kernel
theorem dX0_partnerOf_12 : decode cX0_partnerOf 12 = .ok (.aload_n 0, 1) := by decide +kernel
theorem dX0_partnerOf_13 : decode cX0_partnerOf 13 = .ok (.getfield 9, 3) := by decide +kernel
theorem dX0_partnerOf_16 : decode cX0_partnerOf 16 = .ok (.iload_n 1, 1) := by decide +kernel
theorem dX0_partnerOf_17 : decode cX0_partnerOf 17 = .ok (.iaload, 1) := by decide +kernel
theorem dX0_partnerOf_18 : decode cX0_partnerOf 18 = .ok (.aload_n 0, 1) := by decide +kernel
theorem dX0_partnerOf_19 : decode cX0_partnerOf 19 = .ok (.getfield 9, 3) := by decide +kernel
theorem dX0_partnerOf_22 : decode cX0_partnerOf 22 = .ok (.iload_n 2, 1) := by decide +kernel
theorem dX0_partnerOf_23 : decode cX0_partnerOf 23 = .ok (.iaload, 1) := by decide +kernel
theorem dX0_partnerOf_24 : decode cX0_partnerOf 24 = .ok (.invokestatic 79, 3) := by decide +kernel
theorem dX0_partnerOf_27 : decode cX0_partnerOf 27 = .ok (.ifCond .eq 5, 3) := by decide +kernel
theorem dX0_partnerOf_30 : decode cX0_partnerOf 30 = .ok (.iload_n 2, 1) := by decide +kernel
theorem dX0_partnerOf_31 : decode cX0_partnerOf 31 = .ok (.ireturn, 1) := by decide +kernel
theorem dX0_partnerOf_32 : decode cX0_partnerOf 32 = .ok (.aload_n 0, 1) := by decide +kernel
theorem dX0_partnerOf_33 : decode cX0_partnerOf 33 = .ok (.getfield 9, 3) := by decide +kernel
theorem dX0_partnerOf_36 : decode cX0_partnerOf 36 = .ok (.iload_n 1, 1) := by decide +kernel
theorem dX0_partnerOf_37 : decode cX0_partnerOf 37 = .ok (.iaload, 1) := by decide +kernel
theorem dX0_partnerOf_38 : decode cX0_partnerOf 38 = .ok (.aload_n 0, 1) := by decide +kernel
theorem dX0_partnerOf_39 : decode cX0_partnerOf 39 = .ok (.getfield 9, 3) := by decide +kernel
theorem dX0_partnerOf_42 : decode cX0_partnerOf 42 = .ok (.iload_n 2, 1) := by decide +kernel
theorem dX0_partnerOf_43 : decode cX0_partnerOf 43 = .ok (.iaload, 1) := by decide +kernel
theorem dX0_partnerOf_44 : decode cX0_partnerOf 44 = .ok (.invokestatic 83, 3) := by decide +kernel
theorem dX0_partnerOf_47 : decode cX0_partnerOf 47 = .ok (.ifCond .ne 5, 3) := by decide +kernel
theorem dX0_partnerOf_50 : decode cX0_partnerOf 50 = .ok (.iconst (-1), 1) := by decide +kernel
theorem dX0_partnerOf_51 : decode cX0_partnerOf 51 = .ok (.ireturn, 1) := by decide +kernel
theorem dX0_partnerOf_52 : decode cX0_partnerOf 52 = .ok (.iinc 2 1, 3) := by decide +kernel
theorem dX0_partnerOf_55 : decode cX0_partnerOf 55 = .ok (.goto (-51), 3) := by decide +kernel
theorem dX0_partnerOf_58 : decode cX0_partnerOf 58 = .ok (.iconst (-1), 1) := by decide +kernel
theorem dX0_partnerOf_59 : decode cX0_partnerOf 59 = .ok (.ireturn, 1) := by decide +kernel
theorem dX0_unite_0 : decode cX0_unite 0 = .ok (.aload_n 0, 1) := by decide +kernel
theorem dX0_unite_1 : decode cX0_unite 1 = .ok (.getfield 9, 3) := by decide +kernel
theorem dX0_unite_4 : decode cX0_unite 4 = .ok (.iload_n 1, 1) := by decide +kernel
theorem dX0_unite_5 : decode cX0_unite 5 = .ok (.iaload, 1) := by decide +kernel
theorem dX0_unite_6 : decode cX0_unite 6 = .ok (.invokestatic 86, 3) := by decide +kernel
theorem dX0_unite_9 : decode cX0_unite 9 = .ok (.istore_n 3, 1) := by decide +kernel
theorem dX0_unite_10 : decode cX0_unite 10 = .ok (.aload_n 0, 1) := by decide +kernel
theorem dX0_unite_11 : decode cX0_unite 11 = .ok (.iload_n 2, 1) := by decide +kernel
theorem dX0_unite_12 : decode cX0_unite 12 = .ok (.invokevirtual 89, 3) := by decide +kernel
theorem dX0_unite_15 : decode cX0_unite 15 = .ok (.iload_n 3, 1) := by decide +kernel
theorem dX0_unite_16 : decode cX0_unite 16 = .ok (.iconst (-1), 1) := by decide +kernel
theorem dX0_unite_17 : decode cX0_unite 17 = .ok (.if_icmp .ne 11, 3) := by decide +kernel
theorem dX0_unite_20 : decode cX0_unite 20 = .ok (.aload_n 0, 1) := by decide +kernel
theorem dX0_unite_21 : decode cX0_unite 21 = .ok (.iload_n 1, 1) := by decide +kernel
theorem dX0_unite_22 : decode cX0_unite 22 = .ok (.invokevirtual 89, 3) := by decide +kernel
theorem dX0_unite_25 : decode cX0_unite 25 = .ok (.goto 10, 3) := by decide +kernel
theorem dX0_unite_28 : decode cX0_unite 28 = .ok (.aload_n 0, 1) := by decide +kernel
theorem dX0_unite_29 : decode cX0_unite 29 = .ok (.getfield 9, 3) := by decide +kernel
theorem dX0_unite_32 : decode cX0_unite 32 = .ok (.iload_n 1, 1) := by decide +kernel
theorem dX0_unite_33 : decode cX0_unite 33 = .ok (.iload_n 3, 1) := by decide +kernel
theorem dX0_unite_34 : decode cX0_unite 34 = .ok (.iastore, 1) := by decide +kernel
theorem dX0_unite_35 : decode cX0_unite 35 = .ok (.return_, 1) := by decide +kernel
theorem dX0_removeAt_0 : decode cX0_removeAt 0 = .ok (.iload_n 1, 1) := by decide +kernel
theorem dX0_removeAt_1 : decode cX0_removeAt 1 = .ok (.iconst 1, 1) := by decide +kernel
theorem dX0_removeAt_2 : decode cX0_removeAt 2 = .ok (.iadd, 1) := by decide +kernel
theorem dX0_removeAt_3 : decode cX0_removeAt 3 = .ok (.istore_n 2, 1) := by decide +kernel
theorem dX0_removeAt_4 : decode cX0_removeAt 4 = .ok (.iload_n 2, 1) := by decide +kernel
theorem dX0_removeAt_5 : decode cX0_removeAt 5 = .ok (.aload_n 0, 1) := by decide +kernel
theorem dX0_removeAt_6 : decode cX0_removeAt 6 = .ok (.getfield 15, 3) := by decide +kernel
theorem dX0_removeAt_9 : decode cX0_removeAt 9 = .ok (.if_icmp .ge 23, 3) := by decide +kernel
theorem dX0_removeAt_12 : decode cX0_removeAt 12 = .ok (.aload_n 0, 1) := by decide +kernel
theorem dX0_removeAt_13 : decode cX0_removeAt 13 = .ok (.getfield 9, 3) := by decide +kernel
theorem dX0_removeAt_16 : decode cX0_removeAt 16 = .ok (.iload_n 2, 1) := by decide +kernel
theorem dX0_removeAt_17 : decode cX0_removeAt 17 = .ok (.iconst 1, 1) := by decide +kernel
theorem dX0_removeAt_18 : decode cX0_removeAt 18 = .ok (.isub, 1) := by decide +kernel
theorem dX0_removeAt_19 : decode cX0_removeAt 19 = .ok (.aload_n 0, 1) := by decide +kernel
theorem dX0_removeAt_20 : decode cX0_removeAt 20 = .ok (.getfield 9, 3) := by decide +kernel
theorem dX0_removeAt_23 : decode cX0_removeAt 23 = .ok (.iload_n 2, 1) := by decide +kernel
theorem dX0_removeAt_24 : decode cX0_removeAt 24 = .ok (.iaload, 1) := by decide +kernel
theorem dX0_removeAt_25 : decode cX0_removeAt 25 = .ok (.iastore, 1) := by decide +kernel
theorem dX0_removeAt_26 : decode cX0_removeAt 26 = .ok (.iinc 2 1, 3) := by decide +kernel
theorem dX0_removeAt_29 : decode cX0_removeAt 29 = .ok (.goto (-25), 3) := by decide +kernel
theorem dX0_removeAt_32 : decode cX0_removeAt 32 = .ok (.aload_n 0, 1) := by decide +kernel
theorem dX0_removeAt_33 : decode cX0_removeAt 33 = .ok (.dup, 1) := by decide +kernel
theorem dX0_removeAt_34 : decode cX0_removeAt 34 = .ok (.getfield 15, 3) := by decide +kernel
theorem dX0_removeAt_37 : decode cX0_removeAt 37 = .ok (.iconst 1, 1) := by decide +kernel
theorem dX0_removeAt_38 : decode cX0_removeAt 38 = .ok (.isub, 1) := by decide +kernel
theorem dX0_removeAt_39 : decode cX0_removeAt 39 = .ok (.putfield 15, 3) := by decide +kernel
theorem dX0_removeAt_42 : decode cX0_removeAt 42 = .ok (.return_, 1) := by decide +kernel
theorem dX1_init_0 : decode cX1_init 0 = .ok (.aload_n 0, 1) := by decide +kernel
theorem dX1_init_1 : decode cX1_init 1 = .ok (.invokespecial 3, 3) := by decide +kernel
theorem dX1_init_4 : decode cX1_init 4 = .ok (.aload_n 0, 1) := by decide +kernel
theorem dX1_init_5 : decode cX1_init 5 = .ok (.bipush 64, 2) := by decide +kernel
theorem dX1_init_7 : decode cX1_init 7 = .ok (.newarray .long, 2) := by decide +kernel
theorem dX1_init_9 : decode cX1_init 9 = .ok (.putfield 11, 3) := by decide +kernel
theorem dX1_init_12 : decode cX1_init 12 = .ok (.aload_n 0, 1) := by decide +kernel
theorem dX1_init_13 : decode cX1_init 13 = .ok (.iconst 1, 1) := by decide +kernel
theorem dX1_init_14 : decode cX1_init 14 = .ok (.putfield 15, 3) := by decide +kernel
theorem dX1_init_17 : decode cX1_init 17 = .ok (.aload_n 0, 1) := by decide +kernel
theorem dX1_init_18 : decode cX1_init 18 = .ok (.iconst 0, 1) := by decide +kernel
theorem dX1_init_19 : decode cX1_init 19 = .ok (.putfield 19, 3) := by decide +kernel
theorem dX1_init_22 : decode cX1_init 22 = .ok (.return_, 1) := by decide +kernel
theorem dX1_exponent_0 : decode cX1_exponent 0 = .ok (.aload_n 0, 1) := by decide +kernel
theorem dX1_exponent_1 : decode cX1_exponent 1 = .ok (.getfield 19, 3) := by decide +kernel
theorem dX1_exponent_4 : decode cX1_exponent 4 = .ok (.ireturn, 1) := by decide +kernel
theorem dX1_part_0 : decode cX1_part 0 = .ok (.iconst 4, 1) := by decide +kernel
theorem dX1_part_1 : decode cX1_part 1 = .ok (.iload_n 1, 1) := by decide +kernel
theorem dX1_part_2 : decode cX1_part 2 = .ok (.imul, 1) := by decide +kernel
theorem dX1_part_3 : decode cX1_part 3 = .ok (.iload_n 2, 1) := by decide +kernel
theorem dX1_part_4 : decode cX1_part 4 = .ok (.iadd, 1) := by decide +kernel
theorem dX1_part_5 : decode cX1_part 5 = .ok (.istore_n 3, 1) := by decide +kernel
theorem dX1_part_6 : decode cX1_part 6 = .ok (.iload_n 3, 1) := by decide +kernel
theorem dX1_part_7 : decode cX1_part 7 = .ok (.ifCond .lt 21, 3) := by decide +kernel
theorem dX1_part_10 : decode cX1_part 10 = .ok (.iload_n 3, 1) := by decide +kernel
theorem dX1_part_11 : decode cX1_part 11 = .ok (.aload_n 0, 1) := by decide +kernel
theorem dX1_part_12 : decode cX1_part 12 = .ok (.getfield 11, 3) := by decide +kernel
theorem dX1_part_15 : decode cX1_part 15 = .ok (.arraylength, 1) := by decide +kernel
theorem dX1_part_16 : decode cX1_part 16 = .ok (.if_icmp .ge 12, 3) := by decide +kernel
theorem dX1_part_19 : decode cX1_part 19 = .ok (.aload_n 0, 1) := by decide +kernel
theorem dX1_part_20 : decode cX1_part 20 = .ok (.getfield 11, 3) := by decide +kernel
theorem dX1_part_23 : decode cX1_part 23 = .ok (.iload_n 3, 1) := by decide +kernel
theorem dX1_part_24 : decode cX1_part 24 = .ok (.laload, 1) := by decide +kernel
theorem dX1_part_25 : decode cX1_part 25 = .ok (.goto 4, 3) := by decide +kernel
theorem dX1_part_28 : decode cX1_part 28 = .ok (.lconst 0, 1) := by decide +kernel
theorem dX1_part_29 : decode cX1_part 29 = .ok (.lreturn, 1) := by decide +kernel
theorem dX1_run_0 : decode cX1_run 0 = .ok (.aload_n 0, 1) := by decide +kernel
theorem dX1_run_1 : decode cX1_run 1 = .ok (.getfield 11, 3) := by decide +kernel
theorem dX1_run_4 : decode cX1_run 4 = .ok (.lconst 0, 1) := by decide +kernel
theorem dX1_run_5 : decode cX1_run 5 = .ok (.invokestatic 22, 3) := by decide +kernel
theorem dX1_run_8 : decode cX1_run 8 = .ok (.aload_n 0, 1) := by decide +kernel
theorem dX1_run_9 : decode cX1_run 9 = .ok (.iconst 1, 1) := by decide +kernel
theorem dX1_run_10 : decode cX1_run 10 = .ok (.iload_n 3, 1) := by decide +kernel
theorem dX1_run_11 : decode cX1_run 11 = .ok (.ishl, 1) := by decide +kernel
theorem dX1_run_12 : decode cX1_run 12 = .ok (.putfield 15, 3) := by decide +kernel
theorem dX1_run_15 : decode cX1_run 15 = .ok (.aload_n 0, 1) := by decide +kernel
theorem dX1_run_16 : decode cX1_run 16 = .ok (.iconst 0, 1) := by decide +kernel
theorem dX1_run_17 : decode cX1_run 17 = .ok (.putfield 19, 3) := by decide +kernel
theorem dX1_run_20 : decode cX1_run 20 = .ok (.iload_n 2, 1) := by decide +kernel
theorem dX1_run_21 : decode cX1_run 21 = .ok (.ifCond .lt 20, 3) := by decide +kernel
theorem dX1_run_24 : decode cX1_run 24 = .ok (.iload_n 2, 1) := by decide +kernel
theorem dX1_run_25 : decode cX1_run 25 = .ok (.aload_n 0, 1) := by decide +kernel
theorem dX1_run_26 : decode cX1_run 26 = .ok (.getfield 15, 3) := by decide +kernel
theorem dX1_run_29 : decode cX1_run 29 = .ok (.if_icmp .ge 12, 3) := by decide +kernel
theorem dX1_run_32 : decode cX1_run 32 = .ok (.aload_n 0, 1) := by decide +kernel
theorem dX1_run_33 : decode cX1_run 33 = .ok (.getfield 11, 3) := by decide +kernel
theorem dX1_run_36 : decode cX1_run 36 = .ok (.iconst 4, 1) := by decide +kernel
theorem dX1_run_37 : decode cX1_run 37 = .ok (.iload_n 2, 1) := by decide +kernel
theorem dX1_run_38 : decode cX1_run 38 = .ok (.imul, 1) := by decide +kernel
theorem dX1_run_39 : decode cX1_run 39 = .ok (.lconst 1, 1) := by decide +kernel
theorem dX1_run_40 : decode cX1_run 40 = .ok (.lastore, 1) := by decide +kernel
theorem dX1_run_41 : decode cX1_run 41 = .ok (.iload 4, 2) := by decide +kernel
theorem dX1_run_43 : decode cX1_run 43 = .ok (.aload_n 1, 1) := by decide +kernel
theorem dX1_run_44 : decode cX1_run 44 = .ok (.iconst 1, 1) := by decide +kernel
theorem dX1_run_45 : decode cX1_run 45 = .ok (.invokevirtual 30, 3) := by decide +kernel
theorem dX1_run_48 : decode cX1_run 48 = .ok (.isub, 1) := by decide +kernel
theorem dX1_run_49 : decode cX1_run 49 = .ok (.istore 5, 2) := by decide +kernel
theorem dX1_run_51 : decode cX1_run 51 = .ok (.iload 5, 2) := by decide +kernel
theorem dX1_run_53 : decode cX1_run 53 = .ok (.ifCond .le 13, 3) := by decide +kernel
theorem dX1_run_56 : decode cX1_run 56 = .ok (.aload_n 0, 1) := by decide +kernel
theorem dX1_run_57 : decode cX1_run 57 = .ok (.invokevirtual 36, 3) := by decide +kernel
theorem dX1_run_60 : decode cX1_run 60 = .ok (.iinc 5 (-1), 3) := by decide +kernel
theorem dX1_run_63 : decode cX1_run 63 = .ok (.goto (-12), 3) := by decide +kernel
theorem dX1_run_66 : decode cX1_run 66 = .ok (.iconst 0, 1) := by decide +kernel
theorem dX1_run_67 : decode cX1_run 67 = .ok (.istore 5, 2) := by decide +kernel
theorem dX1_run_69 : decode cX1_run 69 = .ok (.iload 5, 2) := by decide +kernel
theorem dX1_run_71 : decode cX1_run 71 = .ok (.aload_n 1, 1) := by decide +kernel
theorem dX1_run_72 : decode cX1_run 72 = .ok (.invokevirtual 39, 3) := by decide +kernel
theorem dX1_run_75 : decode cX1_run 75 = .ok (.if_icmp .ge 19, 3) := by decide +kernel
theorem dX1_run_78 : decode cX1_run 78 = .ok (.aload_n 0, 1) := by decide +kernel
theorem dX1_run_79 : decode cX1_run 79 = .ok (.aload_n 1, 1) := by decide +kernel
theorem dX1_run_80 : decode cX1_run 80 = .ok (.iload 5, 2) := by decide +kernel
theorem dX1_run_82 : decode cX1_run 82 = .ok (.invokevirtual 43, 3) := by decide +kernel
theorem dX1_run_85 : decode cX1_run 85 = .ok (.invokevirtual 46, 3) := by decide +kernel
theorem dX1_run_88 : decode cX1_run 88 = .ok (.iinc 5 1, 3) := by decide +kernel
theorem dX1_run_91 : decode cX1_run 91 = .ok (.goto (-22), 3) := by decide +kernel
theorem dX1_run_94 : decode cX1_run 94 = .ok (.return_, 1) := by decide +kernel
theorem dX1_apply_0 : decode cX1_apply 0 = .ok (.iload_n 1, 1) := by decide +kernel
theorem dX1_apply_1 : decode cX1_apply 1 = .ok (.invokestatic 50, 3) := by decide +kernel
theorem dX1_apply_4 : decode cX1_apply 4 = .ok (.istore_n 2, 1) := by decide +kernel
theorem dX1_apply_5 : decode cX1_apply 5 = .ok (.iload_n 2, 1) := by decide +kernel
theorem dX1_apply_6 : decode cX1_apply 6 = .ok (.iconst 1, 1) := by decide +kernel
theorem dX1_apply_7 : decode cX1_apply 7 = .ok (.if_icmp .ne 16, 3) := by decide +kernel
theorem dX1_apply_10 : decode cX1_apply 10 = .ok (.aload_n 0, 1) := by decide +kernel
theorem dX1_apply_11 : decode cX1_apply 11 = .ok (.iconst 1, 1) := by decide +kernel
theorem dX1_apply_12 : decode cX1_apply 12 = .ok (.iload_n 1, 1) := by decide +kernel
theorem dX1_apply_13 : decode cX1_apply 13 = .ok (.invokestatic 53, 3) := by decide +kernel
theorem dX1_apply_16 : decode cX1_apply 16 = .ok (.ishl, 1) := by decide +kernel
theorem dX1_apply_17 : decode cX1_apply 17 = .ok (.invokevirtual 56, 3) := by decide +kernel
theorem dX1_apply_20 : decode cX1_apply 20 = .ok (.goto 72, 3) := by decide +kernel
theorem dX1_apply_23 : decode cX1_apply 23 = .ok (.iload_n 2, 1) := by decide +kernel
theorem dX1_apply_24 : decode cX1_apply 24 = .ok (.bipush 8, 2) := by decide +kernel
theorem dX1_apply_26 : decode cX1_apply 26 = .ok (.if_icmp .ne 22, 3) := by decide +kernel
theorem dX1_apply_29 : decode cX1_apply 29 = .ok (.aload_n 0, 1) := by decide +kernel
theorem dX1_apply_30 : decode cX1_apply 30 = .ok (.iconst 1, 1) := by decide +kernel
theorem dX1_apply_31 : decode cX1_apply 31 = .ok (.iload_n 1, 1) := by decide +kernel
theorem dX1_apply_32 : decode cX1_apply 32 = .ok (.invokestatic 53, 3) := by decide +kernel
theorem dX1_apply_35 : decode cX1_apply 35 = .ok (.ishl, 1) := by decide +kernel
theorem dX1_apply_36 : decode cX1_apply 36 = .ok (.iconst 1, 1) := by decide +kernel
theorem dX1_apply_37 : decode cX1_apply 37 = .ok (.iload_n 1, 1) := by decide +kernel
theorem dX1_apply_38 : decode cX1_apply 38 = .ok (.invokestatic 59, 3) := by decide +kernel
theorem dX1_apply_41 : decode cX1_apply 41 = .ok (.ishl, 1) := by decide +kernel
theorem dX1_apply_42 : decode cX1_apply 42 = .ok (.invokevirtual 62, 3) := by decide +kernel
theorem dX1_apply_45 : decode cX1_apply 45 = .ok (.goto 47, 3) := by decide +kernel
theorem dX1_apply_48 : decode cX1_apply 48 = .ok (.iload_n 1, 1) := by decide +kernel
theorem dX1_apply_49 : decode cX1_apply 49 = .ok (.invokestatic 66, 3) := by decide +kernel
theorem dX1_apply_52 : decode cX1_apply 52 = .ok (.ifCond .eq 18, 3) := by decide +kernel
theorem dX1_apply_55 : decode cX1_apply 55 = .ok (.aload_n 0, 1) := by decide +kernel
theorem dX1_apply_56 : decode cX1_apply 56 = .ok (.iload_n 1, 1) := by decide +kernel
theorem dX1_apply_57 : decode cX1_apply 57 = .ok (.invokestatic 70, 3) := by decide +kernel
theorem dX1_apply_60 : decode cX1_apply 60 = .ok (.iload_n 1, 1) := by decide +kernel
theorem dX1_apply_61 : decode cX1_apply 61 = .ok (.invokestatic 73, 3) := by decide +kernel
theorem dX1_apply_64 : decode cX1_apply 64 = .ok (.invokevirtual 76, 3) := by decide +kernel
theorem dX1_apply_67 : decode cX1_apply 67 = .ok (.goto 25, 3) := by decide +kernel
theorem dX1_apply_70 : decode cX1_apply 70 = .ok (.aload_n 0, 1) := by decide +kernel
theorem dX1_apply_71 : decode cX1_apply 71 = .ok (.iload_n 1, 1) := by decide +kernel
theorem dX1_apply_72 : decode cX1_apply 72 = .ok (.invokestatic 79, 3) := by decide +kernel
theorem dX1_apply_75 : decode cX1_apply 75 = .ok (.iload_n 2, 1) := by decide +kernel
theorem dX1_apply_76 : decode cX1_apply 76 = .ok (.bipush 7, 2) := by decide +kernel
theorem dX1_apply_78 : decode cX1_apply 78 = .ok (.if_icmp .ne 7, 3) := by decide +kernel
theorem dX1_apply_81 : decode cX1_apply 81 = .ok (.iconst 4, 1) := by decide +kernel
theorem dX1_apply_82 : decode cX1_apply 82 = .ok (.goto 7, 3) := by decide +kernel
theorem dX1_apply_85 : decode cX1_apply 85 = .ok (.iload_n 1, 1) := by decide +kernel
theorem dX1_apply_86 : decode cX1_apply 86 = .ok (.invokestatic 82, 3) := by decide +kernel
theorem dX1_apply_89 : decode cX1_apply 89 = .ok (.invokevirtual 85, 3) := by decide +kernel
theorem dX1_apply_92 : decode cX1_apply 92 = .ok (.return_, 1) := by decide +kernel
theorem dX1_mix_0 : decode cX1_mix 0 = .ok (.iconst 0, 1) := by decide +kernel
theorem dX1_mix_1 : decode cX1_mix 1 = .ok (.istore_n 2, 1) := by decide +kernel
theorem dX1_mix_2 : decode cX1_mix 2 = .ok (.iload_n 2, 1) := by decide +kernel
theorem dX1_mix_3 : decode cX1_mix 3 = .ok (.aload_n 0, 1) := by decide +kernel
theorem dX1_mix_4 : decode cX1_mix 4 = .ok (.getfield 15, 3) := by decide +kernel
theorem dX1_mix_7 : decode cX1_mix 7 = .ok (.if_icmp .ge 27, 3) := by decide +kernel
theorem dX1_mix_10 : decode cX1_mix 10 = .ok (.iload_n 2, 1) := by decide +kernel
theorem dX1_mix_11 : decode cX1_mix 11 = .ok (.iload_n 1, 1) := by decide +kernel
theorem dX1_mix_12 : decode cX1_mix 12 = .ok (.iand, 1) := by decide +kernel
theorem dX1_mix_13 : decode cX1_mix 13 = .ok (.ifCond .ne 15, 3) := by decide +kernel
theorem dX1_mix_16 : decode cX1_mix 16 = .ok (.aload_n 0, 1) := by decide +kernel
theorem dX1_mix_17 : decode cX1_mix 17 = .ok (.iconst 4, 1) := by decide +kernel
theorem dX1_mix_18 : decode cX1_mix 18 = .ok (.iload_n 2, 1) := by decide +kernel
theorem dX1_mix_19 : decode cX1_mix 19 = .ok (.imul, 1) := by decide +kernel
theorem dX1_mix_20 : decode cX1_mix 20 = .ok (.iconst 4, 1) := by decide +kernel
theorem dX1_mix_21 : decode cX1_mix 21 = .ok (.iload_n 2, 1) := by decide +kernel
theorem dX1_mix_22 : decode cX1_mix 22 = .ok (.iload_n 1, 1) := by decide +kernel
theorem dX1_mix_23 : decode cX1_mix 23 = .ok (.ior, 1) := by decide +kernel
theorem dX1_mix_24 : decode cX1_mix 24 = .ok (.imul, 1) := by decide +kernel
theorem dX1_mix_25 : decode cX1_mix 25 = .ok (.invokevirtual 88, 3) := by decide +kernel
theorem dX1_mix_28 : decode cX1_mix 28 = .ok (.iinc 2 1, 3) := by decide +kernel
theorem dX1_mix_31 : decode cX1_mix 31 = .ok (.goto (-29), 3) := by decide +kernel
theorem dX1_mix_34 : decode cX1_mix 34 = .ok (.aload_n 0, 1) := by decide +kernel
theorem dX1_mix_35 : decode cX1_mix 35 = .ok (.dup, 1) := by decide +kernel
theorem dX1_mix_36 : decode cX1_mix 36 = .ok (.getfield 19, 3) := by decide +kernel
theorem dX1_mix_39 : decode cX1_mix 39 = .ok (.iconst 1, 1) := by decide +kernel
theorem dX1_mix_40 : decode cX1_mix 40 = .ok (.iadd, 1) := by decide +kernel
theorem dX1_mix_41 : decode cX1_mix 41 = .ok (.putfield 19, 3) := by decide +kernel
theorem dX1_mix_44 : decode cX1_mix 44 = .ok (.return_, 1) := by decide +kernel
theorem dX1_mixPair_0 : decode cX1_mixPair 0 = .ok (.iconst 0, 1) := by decide +kernel
theorem dX1_mixPair_1 : decode cX1_mixPair 1 = .ok (.istore_n 3, 1) := by decide +kernel
theorem dX1_mixPair_2 : decode cX1_mixPair 2 = .ok (.iload_n 3, 1) := by decide +kernel
theorem dX1_mixPair_3 : decode cX1_mixPair 3 = .ok (.iconst 4, 1) := by decide +kernel
theorem dX1_mixPair_4 : decode cX1_mixPair 4 = .ok (.if_icmp .ge 63, 3) := by decide +kernel
theorem dX1_mixPair_7 : decode cX1_mixPair 7 = .ok (.aload_n 0, 1) := by decide +kernel
theorem dX1_mixPair_8 : decode cX1_mixPair 8 = .ok (.getfield 11, 3) := by decide +kernel
theorem dX1_mixPair_11 : decode cX1_mixPair 11 = .ok (.iload_n 1, 1) := by decide +kernel
theorem dX1_mixPair_12 : decode cX1_mixPair 12 = .ok (.iload_n 3, 1) := by decide +kernel
theorem dX1_mixPair_13 : decode cX1_mixPair 13 = .ok (.iadd, 1) := by decide +kernel
theorem dX1_mixPair_14 : decode cX1_mixPair 14 = .ok (.laload, 1) := by decide +kernel
theorem dX1_mixPair_15 : decode cX1_mixPair 15 = .ok (.aload_n 0, 1) := by decide +kernel
theorem dX1_mixPair_16 : decode cX1_mixPair 16 = .ok (.getfield 11, 3) := by decide +kernel
theorem dX1_mixPair_19 : decode cX1_mixPair 19 = .ok (.iload_n 2, 1) := by decide +kernel
theorem dX1_mixPair_20 : decode cX1_mixPair 20 = .ok (.iload_n 3, 1) := by decide +kernel
theorem dX1_mixPair_21 : decode cX1_mixPair 21 = .ok (.iadd, 1) := by decide +kernel
theorem dX1_mixPair_22 : decode cX1_mixPair 22 = .ok (.laload, 1) := by decide +kernel
theorem dX1_mixPair_23 : decode cX1_mixPair 23 = .ok (.ladd, 1) := by decide +kernel
theorem dX1_mixPair_24 : decode cX1_mixPair 24 = .ok (.lstore 4, 2) := by decide +kernel
theorem dX1_mixPair_26 : decode cX1_mixPair 26 = .ok (.aload_n 0, 1) := by decide +kernel
theorem dX1_mixPair_27 : decode cX1_mixPair 27 = .ok (.getfield 11, 3) := by decide +kernel
theorem dX1_mixPair_30 : decode cX1_mixPair 30 = .ok (.iload_n 2, 1) := by decide +kernel
theorem dX1_mixPair_31 : decode cX1_mixPair 31 = .ok (.iload_n 3, 1) := by decide +kernel
theorem dX1_mixPair_32 : decode cX1_mixPair 32 = .ok (.iadd, 1) := by decide +kernel
theorem dX1_mixPair_33 : decode cX1_mixPair 33 = .ok (.aload_n 0, 1) := by decide +kernel
theorem dX1_mixPair_34 : decode cX1_mixPair 34 = .ok (.getfield 11, 3) := by decide +kernel
theorem dX1_mixPair_37 : decode cX1_mixPair 37 = .ok (.iload_n 1, 1) := by decide +kernel
theorem dX1_mixPair_38 : decode cX1_mixPair 38 = .ok (.iload_n 3, 1) := by decide +kernel
theorem dX1_mixPair_39 : decode cX1_mixPair 39 = .ok (.iadd, 1) := by decide +kernel
theorem dX1_mixPair_40 : decode cX1_mixPair 40 = .ok (.laload, 1) := by decide +kernel
theorem dX1_mixPair_41 : decode cX1_mixPair 41 = .ok (.aload_n 0, 1) := by decide +kernel
theorem dX1_mixPair_42 : decode cX1_mixPair 42 = .ok (.getfield 11, 3) := by decide +kernel
theorem dX1_mixPair_45 : decode cX1_mixPair 45 = .ok (.iload_n 2, 1) := by decide +kernel
theorem dX1_mixPair_46 : decode cX1_mixPair 46 = .ok (.iload_n 3, 1) := by decide +kernel
theorem dX1_mixPair_47 : decode cX1_mixPair 47 = .ok (.iadd, 1) := by decide +kernel
theorem dX1_mixPair_48 : decode cX1_mixPair 48 = .ok (.laload, 1) := by decide +kernel
theorem dX1_mixPair_49 : decode cX1_mixPair 49 = .ok (.lsub, 1) := by decide +kernel
theorem dX1_mixPair_50 : decode cX1_mixPair 50 = .ok (.lastore, 1) := by decide +kernel
theorem dX1_mixPair_51 : decode cX1_mixPair 51 = .ok (.aload_n 0, 1) := by decide +kernel
theorem dX1_mixPair_52 : decode cX1_mixPair 52 = .ok (.getfield 11, 3) := by decide +kernel
theorem dX1_mixPair_55 : decode cX1_mixPair 55 = .ok (.iload_n 1, 1) := by decide +kernel
theorem dX1_mixPair_56 : decode cX1_mixPair 56 = .ok (.iload_n 3, 1) := by decide +kernel
theorem dX1_mixPair_57 : decode cX1_mixPair 57 = .ok (.iadd, 1) := by decide +kernel
theorem dX1_mixPair_58 : decode cX1_mixPair 58 = .ok (.lload 4, 2) := by decide +kernel
theorem dX1_mixPair_60 : decode cX1_mixPair 60 = .ok (.lastore, 1) := by decide +kernel
theorem dX1_mixPair_61 : decode cX1_mixPair 61 = .ok (.iinc 3 1, 3) := by decide +kernel
theorem dX1_mixPair_64 : decode cX1_mixPair 64 = .ok (.goto (-62), 3) := by decide +kernel
theorem dX1_mixPair_67 : decode cX1_mixPair 67 = .ok (.return_, 1) := by decide +kernel
theorem dX1_trade_0 : decode cX1_trade 0 = .ok (.iconst 0, 1) := by decide +kernel
theorem dX1_trade_1 : decode cX1_trade 1 = .ok (.istore_n 3, 1) := by decide +kernel
theorem dX1_trade_2 : decode cX1_trade 2 = .ok (.iload_n 3, 1) := by decide +kernel
theorem dX1_trade_3 : decode cX1_trade 3 = .ok (.aload_n 0, 1) := by decide +kernel
theorem dX1_trade_4 : decode cX1_trade 4 = .ok (.getfield 15, 3) := by decide +kernel
theorem dX1_trade_7 : decode cX1_trade 7 = .ok (.if_icmp .ge 35, 3) := by decide +kernel
theorem dX1_trade_10 : decode cX1_trade 10 = .ok (.iload_n 3, 1) := by decide +kernel
theorem dX1_trade_11 : decode cX1_trade 11 = .ok (.iload_n 1, 1) := by decide +kernel
theorem dX1_trade_12 : decode cX1_trade 12 = .ok (.iand, 1) := by decide +kernel
theorem dX1_trade_13 : decode cX1_trade 13 = .ok (.ifCond .eq 23, 3) := by decide +kernel
theorem dX1_trade_16 : decode cX1_trade 16 = .ok (.iload_n 3, 1) := by decide +kernel
theorem dX1_trade_17 : decode cX1_trade 17 = .ok (.iload_n 2, 1) := by decide +kernel
theorem dX1_trade_18 : decode cX1_trade 18 = .ok (.iand, 1) := by decide +kernel
theorem dX1_trade_19 : decode cX1_trade 19 = .ok (.ifCond .ne 17, 3) := by decide +kernel
theorem dX1_trade_22 : decode cX1_trade 22 = .ok (.aload_n 0, 1) := by decide +kernel
theorem dX1_trade_23 : decode cX1_trade 23 = .ok (.iconst 4, 1) := by decide +kernel
theorem dX1_trade_24 : decode cX1_trade 24 = .ok (.iload_n 3, 1) := by decide +kernel
theorem dX1_trade_25 : decode cX1_trade 25 = .ok (.imul, 1) := by decide +kernel
theorem dX1_trade_26 : decode cX1_trade 26 = .ok (.iconst 4, 1) := by decide +kernel
theorem dX1_trade_27 : decode cX1_trade 27 = .ok (.iload_n 3, 1) := by decide +kernel
theorem dX1_trade_28 : decode cX1_trade 28 = .ok (.iload_n 1, 1) := by decide +kernel
theorem dX1_trade_29 : decode cX1_trade 29 = .ok (.ixor, 1) := by decide +kernel
theorem dX1_trade_30 : decode cX1_trade 30 = .ok (.iload_n 2, 1) := by decide +kernel
theorem dX1_trade_31 : decode cX1_trade 31 = .ok (.ixor, 1) := by decide +kernel
theorem dX1_trade_32 : decode cX1_trade 32 = .ok (.imul, 1) := by decide +kernel
theorem dX1_trade_33 : decode cX1_trade 33 = .ok (.invokevirtual 91, 3) := by decide +kernel
theorem dX1_trade_36 : decode cX1_trade 36 = .ok (.iinc 3 1, 3) := by decide +kernel
theorem dX1_trade_39 : decode cX1_trade 39 = .ok (.goto (-37), 3) := by decide +kernel
theorem dX1_trade_42 : decode cX1_trade 42 = .ok (.return_, 1) := by decide +kernel
theorem dX1_flip_0 : decode cX1_flip 0 = .ok (.iconst 0, 1) := by decide +kernel
theorem dX1_flip_1 : decode cX1_flip 1 = .ok (.istore_n 3, 1) := by decide +kernel
theorem dX1_flip_2 : decode cX1_flip 2 = .ok (.iload_n 3, 1) := by decide +kernel
theorem dX1_flip_3 : decode cX1_flip 3 = .ok (.aload_n 0, 1) := by decide +kernel
theorem dX1_flip_4 : decode cX1_flip 4 = .ok (.getfield 15, 3) := by decide +kernel
theorem dX1_flip_7 : decode cX1_flip 7 = .ok (.if_icmp .ge 34, 3) := by decide +kernel
theorem dX1_flip_10 : decode cX1_flip 10 = .ok (.iload_n 3, 1) := by decide +kernel
theorem dX1_flip_11 : decode cX1_flip 11 = .ok (.iload_n 1, 1) := by decide +kernel
theorem dX1_flip_12 : decode cX1_flip 12 = .ok (.iand, 1) := by decide +kernel
theorem dX1_flip_13 : decode cX1_flip 13 = .ok (.iload_n 1, 1) := by decide +kernel
theorem dX1_flip_14 : decode cX1_flip 14 = .ok (.if_icmp .ne 21, 3) := by decide +kernel
theorem dX1_flip_17 : decode cX1_flip 17 = .ok (.iload_n 3, 1) := by decide +kernel
theorem dX1_flip_18 : decode cX1_flip 18 = .ok (.iload_n 2, 1) := by decide +kernel
theorem dX1_flip_19 : decode cX1_flip 19 = .ok (.iand, 1) := by decide +kernel
theorem dX1_flip_20 : decode cX1_flip 20 = .ok (.ifCond .ne 15, 3) := by decide +kernel
theorem dX1_flip_23 : decode cX1_flip 23 = .ok (.aload_n 0, 1) := by decide +kernel
theorem dX1_flip_24 : decode cX1_flip 24 = .ok (.iconst 4, 1) := by decide +kernel
theorem dX1_flip_25 : decode cX1_flip 25 = .ok (.iload_n 3, 1) := by decide +kernel
theorem dX1_flip_26 : decode cX1_flip 26 = .ok (.imul, 1) := by decide +kernel
theorem dX1_flip_27 : decode cX1_flip 27 = .ok (.iconst 4, 1) := by decide +kernel
theorem dX1_flip_28 : decode cX1_flip 28 = .ok (.iload_n 3, 1) := by decide +kernel
theorem dX1_flip_29 : decode cX1_flip 29 = .ok (.iload_n 2, 1) := by decide +kernel
theorem dX1_flip_30 : decode cX1_flip 30 = .ok (.ior, 1) := by decide +kernel
theorem dX1_flip_31 : decode cX1_flip 31 = .ok (.imul, 1) := by decide +kernel
theorem dX1_flip_32 : decode cX1_flip 32 = .ok (.invokevirtual 91, 3) := by decide +kernel
theorem dX1_flip_35 : decode cX1_flip 35 = .ok (.iinc 3 1, 3) := by decide +kernel
theorem dX1_flip_38 : decode cX1_flip 38 = .ok (.goto (-36), 3) := by decide +kernel
theorem dX1_flip_41 : decode cX1_flip 41 = .ok (.return_, 1) := by decide +kernel
theorem dX1_exchange_0 : decode cX1_exchange 0 = .ok (.iconst 0, 1) := by decide +kernel
theorem dX1_exchange_1 : decode cX1_exchange 1 = .ok (.istore_n 3, 1) := by decide +kernel
theorem dX1_exchange_2 : decode cX1_exchange 2 = .ok (.iload_n 3, 1) := by decide +kernel
theorem dX1_exchange_3 : decode cX1_exchange 3 = .ok (.iconst 4, 1) := by decide +kernel
theorem dX1_exchange_4 : decode cX1_exchange 4 = .ok (.if_icmp .ge 45, 3) := by decide +kernel
theorem dX1_exchange_7 : decode cX1_exchange 7 = .ok (.aload_n 0, 1) := by decide +kernel
theorem dX1_exchange_8 : decode cX1_exchange 8 = .ok (.getfield 11, 3) := by decide +kernel
theorem dX1_exchange_11 : decode cX1_exchange 11 = .ok (.iload_n 1, 1) := by decide +kernel
theorem dX1_exchange_12 : decode cX1_exchange 12 = .ok (.iload_n 3, 1) := by decide +kernel
theorem dX1_exchange_13 : decode cX1_exchange 13 = .ok (.iadd, 1) := by decide +kernel
theorem dX1_exchange_14 : decode cX1_exchange 14 = .ok (.laload, 1) := by decide +kernel
theorem dX1_exchange_15 : decode cX1_exchange 15 = .ok (.lstore 4, 2) := by decide +kernel
theorem dX1_exchange_17 : decode cX1_exchange 17 = .ok (.aload_n 0, 1) := by decide +kernel
theorem dX1_exchange_18 : decode cX1_exchange 18 = .ok (.getfield 11, 3) := by decide +kernel
theorem dX1_exchange_21 : decode cX1_exchange 21 = .ok (.iload_n 1, 1) := by decide +kernel
theorem dX1_exchange_22 : decode cX1_exchange 22 = .ok (.iload_n 3, 1) := by decide +kernel
theorem dX1_exchange_23 : decode cX1_exchange 23 = .ok (.iadd, 1) := by decide +kernel
theorem dX1_exchange_24 : decode cX1_exchange 24 = .ok (.aload_n 0, 1) := by decide +kernel
theorem dX1_exchange_25 : decode cX1_exchange 25 = .ok (.getfield 11, 3) := by decide +kernel
theorem dX1_exchange_28 : decode cX1_exchange 28 = .ok (.iload_n 2, 1) := by decide +kernel
theorem dX1_exchange_29 : decode cX1_exchange 29 = .ok (.iload_n 3, 1) := by decide +kernel
theorem dX1_exchange_30 : decode cX1_exchange 30 = .ok (.iadd, 1) := by decide +kernel
theorem dX1_exchange_31 : decode cX1_exchange 31 = .ok (.laload, 1) := by decide +kernel
theorem dX1_exchange_32 : decode cX1_exchange 32 = .ok (.lastore, 1) := by decide +kernel
theorem dX1_exchange_33 : decode cX1_exchange 33 = .ok (.aload_n 0, 1) := by decide +kernel
theorem dX1_exchange_34 : decode cX1_exchange 34 = .ok (.getfield 11, 3) := by decide +kernel
theorem dX1_exchange_37 : decode cX1_exchange 37 = .ok (.iload_n 2, 1) := by decide +kernel
theorem dX1_exchange_38 : decode cX1_exchange 38 = .ok (.iload_n 3, 1) := by decide +kernel
theorem dX1_exchange_39 : decode cX1_exchange 39 = .ok (.iadd, 1) := by decide +kernel
theorem dX1_exchange_40 : decode cX1_exchange 40 = .ok (.lload 4, 2) := by decide +kernel
theorem dX1_exchange_42 : decode cX1_exchange 42 = .ok (.lastore, 1) := by decide +kernel
theorem dX1_exchange_43 : decode cX1_exchange 43 = .ok (.iinc 3 1, 3) := by decide +kernel
theorem dX1_exchange_46 : decode cX1_exchange 46 = .ok (.goto (-44), 3) := by decide +kernel
theorem dX1_exchange_49 : decode cX1_exchange 49 = .ok (.return_, 1) := by decide +kernel
theorem dX1_turn_0 : decode cX1_turn 0 = .ok (.iconst 0, 1) := by decide +kernel
theorem dX1_turn_1 : decode cX1_turn 1 = .ok (.istore_n 3, 1) := by decide +kernel
theorem dX1_turn_2 : decode cX1_turn 2 = .ok (.iload_n 3, 1) := by decide +kernel
theorem dX1_turn_3 : decode cX1_turn 3 = .ok (.aload_n 0, 1) := by decide +kernel
theorem dX1_turn_4 : decode cX1_turn 4 = .ok (.getfield 15, 3) := by decide +kernel
theorem dX1_turn_7 : decode cX1_turn 7 = .ok (.if_icmp .ge 24, 3) := by decide +kernel
theorem dX1_turn_10 : decode cX1_turn 10 = .ok (.iload_n 3, 1) := by decide +kernel
theorem dX1_turn_11 : decode cX1_turn 11 = .ok (.iload_n 1, 1) := by decide +kernel
theorem dX1_turn_12 : decode cX1_turn 12 = .ok (.iand, 1) := by decide +kernel
theorem dX1_turn_13 : decode cX1_turn 13 = .ok (.iload_n 1, 1) := by decide +kernel
theorem dX1_turn_14 : decode cX1_turn 14 = .ok (.if_icmp .ne 11, 3) := by decide +kernel
theorem dX1_turn_17 : decode cX1_turn 17 = .ok (.aload_n 0, 1) := by decide +kernel
theorem dX1_turn_18 : decode cX1_turn 18 = .ok (.iconst 4, 1) := by decide +kernel
theorem dX1_turn_19 : decode cX1_turn 19 = .ok (.iload_n 3, 1) := by decide +kernel
theorem dX1_turn_20 : decode cX1_turn 20 = .ok (.imul, 1) := by decide +kernel
theorem dX1_turn_21 : decode cX1_turn 21 = .ok (.iload_n 2, 1) := by decide +kernel
theorem dX1_turn_22 : decode cX1_turn 22 = .ok (.invokevirtual 94, 3) := by decide +kernel
theorem dX1_turn_25 : decode cX1_turn 25 = .ok (.iinc 3 1, 3) := by decide +kernel
theorem dX1_turn_28 : decode cX1_turn 28 = .ok (.goto (-26), 3) := by decide +kernel
theorem dX1_turn_31 : decode cX1_turn 31 = .ok (.return_, 1) := by decide +kernel
theorem dX1_turnOne_0 : decode cX1_turnOne 0 = .ok (.iconst 0, 1) := by decide +kernel
theorem dX1_turnOne_1 : decode cX1_turnOne 1 = .ok (.istore_n 3, 1) := by decide +kernel
theorem dX1_turnOne_2 : decode cX1_turnOne 2 = .ok (.iload_n 3, 1) := by decide +kernel
theorem dX1_turnOne_3 : decode cX1_turnOne 3 = .ok (.iload_n 2, 1) := by decide +kernel
theorem dX1_turnOne_4 : decode cX1_turnOne 4 = .ok (.if_icmp .ge 74, 3) := by decide +kernel
theorem dX1_turnOne_7 : decode cX1_turnOne 7 = .ok (.aload_n 0, 1) := by decide +kernel
theorem dX1_turnOne_8 : decode cX1_turnOne 8 = .ok (.getfield 11, 3) := by decide +kernel
theorem dX1_turnOne_11 : decode cX1_turnOne 11 = .ok (.iload_n 1, 1) := by decide +kernel
theorem dX1_turnOne_12 : decode cX1_turnOne 12 = .ok (.iconst 3, 1) := by decide +kernel
theorem dX1_turnOne_13 : decode cX1_turnOne 13 = .ok (.iadd, 1) := by decide +kernel
theorem dX1_turnOne_14 : decode cX1_turnOne 14 = .ok (.laload, 1) := by decide +kernel
theorem dX1_turnOne_15 : decode cX1_turnOne 15 = .ok (.lstore 4, 2) := by decide +kernel
theorem dX1_turnOne_17 : decode cX1_turnOne 17 = .ok (.aload_n 0, 1) := by decide +kernel
theorem dX1_turnOne_18 : decode cX1_turnOne 18 = .ok (.getfield 11, 3) := by decide +kernel
theorem dX1_turnOne_21 : decode cX1_turnOne 21 = .ok (.iload_n 1, 1) := by decide +kernel
theorem dX1_turnOne_22 : decode cX1_turnOne 22 = .ok (.iconst 3, 1) := by decide +kernel
theorem dX1_turnOne_23 : decode cX1_turnOne 23 = .ok (.iadd, 1) := by decide +kernel
theorem dX1_turnOne_24 : decode cX1_turnOne 24 = .ok (.aload_n 0, 1) := by decide +kernel
theorem dX1_turnOne_25 : decode cX1_turnOne 25 = .ok (.getfield 11, 3) := by decide +kernel
theorem dX1_turnOne_28 : decode cX1_turnOne 28 = .ok (.iload_n 1, 1) := by decide +kernel
theorem dX1_turnOne_29 : decode cX1_turnOne 29 = .ok (.iconst 2, 1) := by decide +kernel
theorem dX1_turnOne_30 : decode cX1_turnOne 30 = .ok (.iadd, 1) := by decide +kernel
theorem dX1_turnOne_31 : decode cX1_turnOne 31 = .ok (.laload, 1) := by decide +kernel
theorem dX1_turnOne_32 : decode cX1_turnOne 32 = .ok (.lastore, 1) := by decide +kernel
theorem dX1_turnOne_33 : decode cX1_turnOne 33 = .ok (.aload_n 0, 1) := by decide +kernel
theorem dX1_turnOne_34 : decode cX1_turnOne 34 = .ok (.getfield 11, 3) := by decide +kernel
theorem dX1_turnOne_37 : decode cX1_turnOne 37 = .ok (.iload_n 1, 1) := by decide +kernel
theorem dX1_turnOne_38 : decode cX1_turnOne 38 = .ok (.iconst 2, 1) := by decide +kernel
theorem dX1_turnOne_39 : decode cX1_turnOne 39 = .ok (.iadd, 1) := by decide +kernel
theorem dX1_turnOne_40 : decode cX1_turnOne 40 = .ok (.aload_n 0, 1) := by decide +kernel
theorem dX1_turnOne_41 : decode cX1_turnOne 41 = .ok (.getfield 11, 3) := by decide +kernel
theorem dX1_turnOne_44 : decode cX1_turnOne 44 = .ok (.iload_n 1, 1) := by decide +kernel
theorem dX1_turnOne_45 : decode cX1_turnOne 45 = .ok (.iconst 1, 1) := by decide +kernel
theorem dX1_turnOne_46 : decode cX1_turnOne 46 = .ok (.iadd, 1) := by decide +kernel
theorem dX1_turnOne_47 : decode cX1_turnOne 47 = .ok (.laload, 1) := by decide +kernel
theorem dX1_turnOne_48 : decode cX1_turnOne 48 = .ok (.lastore, 1) := by decide +kernel
theorem dX1_turnOne_49 : decode cX1_turnOne 49 = .ok (.aload_n 0, 1) := by decide +kernel
theorem dX1_turnOne_50 : decode cX1_turnOne 50 = .ok (.getfield 11, 3) := by decide +kernel
theorem dX1_turnOne_53 : decode cX1_turnOne 53 = .ok (.iload_n 1, 1) := by decide +kernel
theorem dX1_turnOne_54 : decode cX1_turnOne 54 = .ok (.iconst 1, 1) := by decide +kernel
theorem dX1_turnOne_55 : decode cX1_turnOne 55 = .ok (.iadd, 1) := by decide +kernel
theorem dX1_turnOne_56 : decode cX1_turnOne 56 = .ok (.aload_n 0, 1) := by decide +kernel
theorem dX1_turnOne_57 : decode cX1_turnOne 57 = .ok (.getfield 11, 3) := by decide +kernel
theorem dX1_turnOne_60 : decode cX1_turnOne 60 = .ok (.iload_n 1, 1) := by decide +kernel
theorem dX1_turnOne_61 : decode cX1_turnOne 61 = .ok (.laload, 1) := by decide +kernel
theorem dX1_turnOne_62 : decode cX1_turnOne 62 = .ok (.lastore, 1) := by decide +kernel
theorem dX1_turnOne_63 : decode cX1_turnOne 63 = .ok (.aload_n 0, 1) := by decide +kernel
theorem dX1_turnOne_64 : decode cX1_turnOne 64 = .ok (.getfield 11, 3) := by decide +kernel
theorem dX1_turnOne_67 : decode cX1_turnOne 67 = .ok (.iload_n 1, 1) := by decide +kernel
theorem dX1_turnOne_68 : decode cX1_turnOne 68 = .ok (.lload 4, 2) := by decide +kernel
theorem dX1_turnOne_70 : decode cX1_turnOne 70 = .ok (.lneg, 1) := by decide +kernel
theorem dX1_turnOne_71 : decode cX1_turnOne 71 = .ok (.lastore, 1) := by decide +kernel
theorem dX1_turnOne_72 : decode cX1_turnOne 72 = .ok (.iinc 3 1, 3) := by decide +kernel
theorem dX1_turnOne_75 : decode cX1_turnOne 75 = .ok (.goto (-73), 3) := by decide +kernel
theorem dX1_turnOne_78 : decode cX1_turnOne 78 = .ok (.return_, 1) := by decide +kernel
theorem dX1_raise_0 : decode cX1_raise 0 = .ok (.iconst 0, 1) := by decide +kernel
theorem dX1_raise_1 : decode cX1_raise 1 = .ok (.istore_n 1, 1) := by decide +kernel
theorem dX1_raise_2 : decode cX1_raise 2 = .ok (.iload_n 1, 1) := by decide +kernel
theorem dX1_raise_3 : decode cX1_raise 3 = .ok (.aload_n 0, 1) := by decide +kernel
theorem dX1_raise_4 : decode cX1_raise 4 = .ok (.getfield 15, 3) := by decide +kernel
theorem dX1_raise_7 : decode cX1_raise 7 = .ok (.if_icmp .ge 16, 3) := by decide +kernel
theorem dX1_raise_10 : decode cX1_raise 10 = .ok (.aload_n 0, 1) := by decide +kernel
theorem dX1_raise_11 : decode cX1_raise 11 = .ok (.iconst 4, 1) := by decide +kernel
theorem dX1_raise_12 : decode cX1_raise 12 = .ok (.iload_n 1, 1) := by decide +kernel
theorem dX1_raise_13 : decode cX1_raise 13 = .ok (.imul, 1) := by decide +kernel
theorem dX1_raise_14 : decode cX1_raise 14 = .ok (.invokevirtual 97, 3) := by decide +kernel
theorem dX1_raise_17 : decode cX1_raise 17 = .ok (.iinc 1 1, 3) := by decide +kernel
theorem dX1_raise_20 : decode cX1_raise 20 = .ok (.goto (-18), 3) := by decide +kernel
theorem dX1_raise_23 : decode cX1_raise 23 = .ok (.aload_n 0, 1) := by decide +kernel
theorem dX1_raise_24 : decode cX1_raise 24 = .ok (.dup, 1) := by decide +kernel
theorem dX1_raise_25 : decode cX1_raise 25 = .ok (.getfield 19, 3) := by decide +kernel
theorem dX1_raise_28 : decode cX1_raise 28 = .ok (.iconst 1, 1) := by decide +kernel
theorem dX1_raise_29 : decode cX1_raise 29 = .ok (.iadd, 1) := by decide +kernel
theorem dX1_raise_30 : decode cX1_raise 30 = .ok (.putfield 19, 3) := by decide +kernel
theorem dX1_raise_33 : decode cX1_raise 33 = .ok (.return_, 1) := by decide +kernel
theorem dX1_timesRoot_0 : decode cX1_timesRoot 0 = .ok (.aload_n 0, 1) := by decide +kernel
theorem dX1_timesRoot_1 : decode cX1_timesRoot 1 = .ok (.getfield 11, 3) := by decide +kernel
theorem dX1_timesRoot_4 : decode cX1_timesRoot 4 = .ok (.iload_n 1, 1) := by decide +kernel
theorem dX1_timesRoot_5 : decode cX1_timesRoot 5 = .ok (.laload, 1) := by decide +kernel
theorem dX1_timesRoot_6 : decode cX1_timesRoot 6 = .ok (.lstore_n 2, 1) := by decide +kernel
theorem dX1_timesRoot_7 : decode cX1_timesRoot 7 = .ok (.aload_n 0, 1) := by decide +kernel
theorem dX1_timesRoot_8 : decode cX1_timesRoot 8 = .ok (.getfield 11, 3) := by decide +kernel
theorem dX1_timesRoot_11 : decode cX1_timesRoot 11 = .ok (.iload_n 1, 1) := by decide +kernel
theorem dX1_timesRoot_12 : decode cX1_timesRoot 12 = .ok (.iconst 1, 1) := by decide +kernel
theorem dX1_timesRoot_13 : decode cX1_timesRoot 13 = .ok (.iadd, 1) := by decide +kernel
theorem dX1_timesRoot_14 : decode cX1_timesRoot 14 = .ok (.laload, 1) := by decide +kernel
theorem dX1_timesRoot_15 : decode cX1_timesRoot 15 = .ok (.lstore 4, 2) := by decide +kernel
theorem dX1_timesRoot_17 : decode cX1_timesRoot 17 = .ok (.aload_n 0, 1) := by decide +kernel
theorem dX1_timesRoot_18 : decode cX1_timesRoot 18 = .ok (.getfield 11, 3) := by decide +kernel
theorem dX1_timesRoot_21 : decode cX1_timesRoot 21 = .ok (.iload_n 1, 1) := by decide +kernel
theorem dX1_timesRoot_22 : decode cX1_timesRoot 22 = .ok (.iconst 2, 1) := by decide +kernel
theorem dX1_timesRoot_23 : decode cX1_timesRoot 23 = .ok (.iadd, 1) := by decide +kernel
theorem dX1_timesRoot_24 : decode cX1_timesRoot 24 = .ok (.laload, 1) := by decide +kernel
theorem dX1_timesRoot_25 : decode cX1_timesRoot 25 = .ok (.lstore 6, 2) := by decide +kernel
theorem dX1_timesRoot_27 : decode cX1_timesRoot 27 = .ok (.aload_n 0, 1) := by decide +kernel
theorem dX1_timesRoot_28 : decode cX1_timesRoot 28 = .ok (.getfield 11, 3) := by decide +kernel
theorem dX1_timesRoot_31 : decode cX1_timesRoot 31 = .ok (.iload_n 1, 1) := by decide +kernel
theorem dX1_timesRoot_32 : decode cX1_timesRoot 32 = .ok (.iconst 3, 1) := by decide +kernel
theorem dX1_timesRoot_33 : decode cX1_timesRoot 33 = .ok (.iadd, 1) := by decide +kernel
theorem dX1_timesRoot_34 : decode cX1_timesRoot 34 = .ok (.laload, 1) := by decide +kernel
theorem dX1_timesRoot_35 : decode cX1_timesRoot 35 = .ok (.lstore 8, 2) := by decide +kernel
theorem dX1_timesRoot_37 : decode cX1_timesRoot 37 = .ok (.aload_n 0, 1) := by decide +kernel
theorem dX1_timesRoot_38 : decode cX1_timesRoot 38 = .ok (.getfield 11, 3) := by decide +kernel
theorem dX1_timesRoot_41 : decode cX1_timesRoot 41 = .ok (.iload_n 1, 1) := by decide +kernel
theorem dX1_timesRoot_42 : decode cX1_timesRoot 42 = .ok (.lload 4, 2) := by decide +kernel
theorem dX1_timesRoot_44 : decode cX1_timesRoot 44 = .ok (.lload 8, 2) := by decide +kernel
theorem dX1_timesRoot_46 : decode cX1_timesRoot 46 = .ok (.lsub, 1) := by decide +kernel
theorem dX1_timesRoot_47 : decode cX1_timesRoot 47 = .ok (.lastore, 1) := by decide +kernel
theorem dX1_timesRoot_48 : decode cX1_timesRoot 48 = .ok (.aload_n 0, 1) := by decide +kernel
theorem dX1_timesRoot_49 : decode cX1_timesRoot 49 = .ok (.getfield 11, 3) := by decide +kernel
theorem dX1_timesRoot_52 : decode cX1_timesRoot 52 = .ok (.iload_n 1, 1) := by decide +kernel
theorem dX1_timesRoot_53 : decode cX1_timesRoot 53 = .ok (.iconst 1, 1) := by decide +kernel
theorem dX1_timesRoot_54 : decode cX1_timesRoot 54 = .ok (.iadd, 1) := by decide +kernel
theorem dX1_timesRoot_55 : decode cX1_timesRoot 55 = .ok (.lload_n 2, 1) := by decide +kernel
theorem dX1_timesRoot_56 : decode cX1_timesRoot 56 = .ok (.lload 6, 2) := by decide +kernel
theorem dX1_timesRoot_58 : decode cX1_timesRoot 58 = .ok (.ladd, 1) := by decide +kernel
theorem dX1_timesRoot_59 : decode cX1_timesRoot 59 = .ok (.lastore, 1) := by decide +kernel
theorem dX1_timesRoot_60 : decode cX1_timesRoot 60 = .ok (.aload_n 0, 1) := by decide +kernel
theorem dX1_timesRoot_61 : decode cX1_timesRoot 61 = .ok (.getfield 11, 3) := by decide +kernel
theorem dX1_timesRoot_64 : decode cX1_timesRoot 64 = .ok (.iload_n 1, 1) := by decide +kernel
theorem dX1_timesRoot_65 : decode cX1_timesRoot 65 = .ok (.iconst 2, 1) := by decide +kernel
theorem dX1_timesRoot_66 : decode cX1_timesRoot 66 = .ok (.iadd, 1) := by decide +kernel
theorem dX1_timesRoot_67 : decode cX1_timesRoot 67 = .ok (.lload 4, 2) := by decide +kernel
theorem dX1_timesRoot_69 : decode cX1_timesRoot 69 = .ok (.lload 8, 2) := by decide +kernel
theorem dX1_timesRoot_71 : decode cX1_timesRoot 71 = .ok (.ladd, 1) := by decide +kernel
theorem dX1_timesRoot_72 : decode cX1_timesRoot 72 = .ok (.lastore, 1) := by decide +kernel
theorem dX1_timesRoot_73 : decode cX1_timesRoot 73 = .ok (.aload_n 0, 1) := by decide +kernel
theorem dX1_timesRoot_74 : decode cX1_timesRoot 74 = .ok (.getfield 11, 3) := by decide +kernel
theorem dX1_timesRoot_77 : decode cX1_timesRoot 77 = .ok (.iload_n 1, 1) := by decide +kernel
theorem dX1_timesRoot_78 : decode cX1_timesRoot 78 = .ok (.iconst 3, 1) := by decide +kernel
theorem dX1_timesRoot_79 : decode cX1_timesRoot 79 = .ok (.iadd, 1) := by decide +kernel
theorem dX1_timesRoot_80 : decode cX1_timesRoot 80 = .ok (.lload 6, 2) := by decide +kernel
theorem dX1_timesRoot_82 : decode cX1_timesRoot 82 = .ok (.lload_n 2, 1) := by decide +kernel
theorem dX1_timesRoot_83 : decode cX1_timesRoot 83 = .ok (.lsub, 1) := by decide +kernel
theorem dX1_timesRoot_84 : decode cX1_timesRoot 84 = .ok (.lastore, 1) := by decide +kernel
theorem dX1_timesRoot_85 : decode cX1_timesRoot 85 = .ok (.return_, 1) := by decide +kernel
theorem dX1_lower_0 : decode cX1_lower 0 = .ok (.aload_n 0, 1) := by decide +kernel
theorem dX1_lower_1 : decode cX1_lower 1 = .ok (.getfield 19, 3) := by decide +kernel
theorem dX1_lower_4 : decode cX1_lower 4 = .ok (.ifCond .le 27, 3) := by decide +kernel
theorem dX1_lower_7 : decode cX1_lower 7 = .ok (.aload_n 0, 1) := by decide +kernel
theorem dX1_lower_8 : decode cX1_lower 8 = .ok (.invokevirtual 100, 3) := by decide +kernel
theorem dX1_lower_11 : decode cX1_lower 11 = .ok (.ifCond .eq 20, 3) := by decide +kernel
theorem dX1_lower_14 : decode cX1_lower 14 = .ok (.aload_n 0, 1) := by decide +kernel
theorem dX1_lower_15 : decode cX1_lower 15 = .ok (.invokevirtual 104, 3) := by decide +kernel
theorem dX1_lower_18 : decode cX1_lower 18 = .ok (.aload_n 0, 1) := by decide +kernel
theorem dX1_lower_19 : decode cX1_lower 19 = .ok (.dup, 1) := by decide +kernel
theorem dX1_lower_20 : decode cX1_lower 20 = .ok (.getfield 19, 3) := by decide +kernel
theorem dX1_lower_23 : decode cX1_lower 23 = .ok (.iconst 1, 1) := by decide +kernel
theorem dX1_lower_24 : decode cX1_lower 24 = .ok (.isub, 1) := by decide +kernel
theorem dX1_lower_25 : decode cX1_lower 25 = .ok (.putfield 19, 3) := by decide +kernel
theorem dX1_lower_28 : decode cX1_lower 28 = .ok (.goto (-28), 3) := by decide +kernel
theorem dX1_lower_31 : decode cX1_lower 31 = .ok (.return_, 1) := by decide +kernel
theorem dX1_canBeDivided_0 : decode cX1_canBeDivided 0 = .ok (.lconst 0, 1) := by decide +kernel
theorem dX1_canBeDivided_1 : decode cX1_canBeDivided 1 = .ok (.lstore_n 1, 1) := by decide +kernel
theorem dX1_canBeDivided_2 : decode cX1_canBeDivided 2 = .ok (.iconst 0, 1) := by decide +kernel
theorem dX1_canBeDivided_3 : decode cX1_canBeDivided 3 = .ok (.istore_n 3, 1) := by decide +kernel
theorem dX1_canBeDivided_4 : decode cX1_canBeDivided 4 = .ok (.iload_n 3, 1) := by decide +kernel
theorem dX1_canBeDivided_5 : decode cX1_canBeDivided 5 = .ok (.aload_n 0, 1) := by decide +kernel
theorem dX1_canBeDivided_6 : decode cX1_canBeDivided 6 = .ok (.getfield 15, 3) := by decide +kernel
theorem dX1_canBeDivided_9 : decode cX1_canBeDivided 9 = .ok (.if_icmp .ge 54, 3) := by decide +kernel
theorem dX1_canBeDivided_12 : decode cX1_canBeDivided 12 = .ok (.iconst 4, 1) := by decide +kernel
theorem dX1_canBeDivided_13 : decode cX1_canBeDivided 13 = .ok (.iload_n 3, 1) := by decide +kernel
theorem dX1_canBeDivided_14 : decode cX1_canBeDivided 14 = .ok (.imul, 1) := by decide +kernel
theorem dX1_canBeDivided_15 : decode cX1_canBeDivided 15 = .ok (.istore 4, 2) := by decide +kernel
theorem dX1_canBeDivided_17 : decode cX1_canBeDivided 17 = .ok (.lload_n 1, 1) := by decide +kernel
theorem dX1_canBeDivided_18 : decode cX1_canBeDivided 18 = .ok (.aload_n 0, 1) := by decide +kernel
theorem dX1_canBeDivided_19 : decode cX1_canBeDivided 19 = .ok (.getfield 11, 3) := by decide +kernel
theorem dX1_canBeDivided_22 : decode cX1_canBeDivided 22 = .ok (.iload 4, 2) := by decide +kernel
theorem dX1_canBeDivided_24 : decode cX1_canBeDivided 24 = .ok (.laload, 1) := by decide +kernel
theorem dX1_canBeDivided_25 : decode cX1_canBeDivided 25 = .ok (.aload_n 0, 1) := by decide +kernel
theorem dX1_canBeDivided_26 : decode cX1_canBeDivided 26 = .ok (.getfield 11, 3) := by decide +kernel
theorem dX1_canBeDivided_29 : decode cX1_canBeDivided 29 = .ok (.iload 4, 2) := by decide +kernel
theorem dX1_canBeDivided_31 : decode cX1_canBeDivided 31 = .ok (.iconst 2, 1) := by decide +kernel
theorem dX1_canBeDivided_32 : decode cX1_canBeDivided 32 = .ok (.iadd, 1) := by decide +kernel
theorem dX1_canBeDivided_33 : decode cX1_canBeDivided 33 = .ok (.laload, 1) := by decide +kernel
theorem dX1_canBeDivided_34 : decode cX1_canBeDivided 34 = .ok (.lxor, 1) := by decide +kernel
theorem dX1_canBeDivided_35 : decode cX1_canBeDivided 35 = .ok (.aload_n 0, 1) := by decide +kernel
theorem dX1_canBeDivided_36 : decode cX1_canBeDivided 36 = .ok (.getfield 11, 3) := by decide +kernel
theorem dX1_canBeDivided_39 : decode cX1_canBeDivided 39 = .ok (.iload 4, 2) := by decide +kernel
theorem dX1_canBeDivided_41 : decode cX1_canBeDivided 41 = .ok (.iconst 1, 1) := by decide +kernel
theorem dX1_canBeDivided_42 : decode cX1_canBeDivided 42 = .ok (.iadd, 1) := by decide +kernel
theorem dX1_canBeDivided_43 : decode cX1_canBeDivided 43 = .ok (.laload, 1) := by decide +kernel
theorem dX1_canBeDivided_44 : decode cX1_canBeDivided 44 = .ok (.aload_n 0, 1) := by decide +kernel
theorem dX1_canBeDivided_45 : decode cX1_canBeDivided 45 = .ok (.getfield 11, 3) := by decide +kernel
theorem dX1_canBeDivided_48 : decode cX1_canBeDivided 48 = .ok (.iload 4, 2) := by decide +kernel
theorem dX1_canBeDivided_50 : decode cX1_canBeDivided 50 = .ok (.iconst 3, 1) := by decide +kernel
theorem dX1_canBeDivided_51 : decode cX1_canBeDivided 51 = .ok (.iadd, 1) := by decide +kernel
theorem dX1_canBeDivided_52 : decode cX1_canBeDivided 52 = .ok (.laload, 1) := by decide +kernel
theorem dX1_canBeDivided_53 : decode cX1_canBeDivided 53 = .ok (.lxor, 1) := by decide +kernel
theorem dX1_canBeDivided_54 : decode cX1_canBeDivided 54 = .ok (.lor, 1) := by decide +kernel
theorem dX1_canBeDivided_55 : decode cX1_canBeDivided 55 = .ok (.lor, 1) := by decide +kernel
theorem dX1_canBeDivided_56 : decode cX1_canBeDivided 56 = .ok (.lstore_n 1, 1) := by decide +kernel
theorem dX1_canBeDivided_57 : decode cX1_canBeDivided 57 = .ok (.iinc 3 1, 3) := by decide +kernel
theorem dX1_canBeDivided_60 : decode cX1_canBeDivided 60 = .ok (.goto (-56), 3) := by decide +kernel
theorem dX1_canBeDivided_63 : decode cX1_canBeDivided 63 = .ok (.lload_n 1, 1) := by decide +kernel
theorem dX1_canBeDivided_64 : decode cX1_canBeDivided 64 = .ok (.lconst 1, 1) := by decide +kernel
theorem dX1_canBeDivided_65 : decode cX1_canBeDivided 65 = .ok (.land, 1) := by decide +kernel
theorem dX1_canBeDivided_66 : decode cX1_canBeDivided 66 = .ok (.lconst 0, 1) := by decide +kernel
theorem dX1_canBeDivided_67 : decode cX1_canBeDivided 67 = .ok (.lcmp, 1) := by decide +kernel
theorem dX1_canBeDivided_68 : decode cX1_canBeDivided 68 = .ok (.ifCond .ne 7, 3) := by decide +kernel
theorem dX1_canBeDivided_71 : decode cX1_canBeDivided 71 = .ok (.iconst 1, 1) := by decide +kernel
theorem dX1_canBeDivided_72 : decode cX1_canBeDivided 72 = .ok (.goto 4, 3) := by decide +kernel
theorem dX1_canBeDivided_75 : decode cX1_canBeDivided 75 = .ok (.iconst 0, 1) := by decide +kernel
theorem dX1_canBeDivided_76 : decode cX1_canBeDivided 76 = .ok (.ireturn, 1) := by decide +kernel
theorem dX1_divide_0 : decode cX1_divide 0 = .ok (.iconst 0, 1) := by decide +kernel
theorem dX1_divide_1 : decode cX1_divide 1 = .ok (.istore_n 1, 1) := by decide +kernel
theorem dX1_divide_2 : decode cX1_divide 2 = .ok (.iload_n 1, 1) := by decide +kernel
theorem dX1_divide_3 : decode cX1_divide 3 = .ok (.aload_n 0, 1) := by decide +kernel
theorem dX1_divide_4 : decode cX1_divide 4 = .ok (.getfield 15, 3) := by decide +kernel
theorem dX1_divide_7 : decode cX1_divide 7 = .ok (.if_icmp .ge 43, 3) := by decide +kernel
theorem dX1_divide_10 : decode cX1_divide 10 = .ok (.iconst 4, 1) := by decide +kernel
theorem dX1_divide_11 : decode cX1_divide 11 = .ok (.iload_n 1, 1) := by decide +kernel
theorem dX1_divide_12 : decode cX1_divide 12 = .ok (.imul, 1) := by decide +kernel
theorem dX1_divide_13 : decode cX1_divide 13 = .ok (.istore_n 2, 1) := by decide +kernel
theorem dX1_divide_14 : decode cX1_divide 14 = .ok (.aload_n 0, 1) := by decide +kernel
theorem dX1_divide_15 : decode cX1_divide 15 = .ok (.iload_n 2, 1) := by decide +kernel
theorem dX1_divide_16 : decode cX1_divide 16 = .ok (.invokevirtual 97, 3) := by decide +kernel
theorem dX1_divide_19 : decode cX1_divide 19 = .ok (.iconst 0, 1) := by decide +kernel
theorem dX1_divide_20 : decode cX1_divide 20 = .ok (.istore_n 3, 1) := by decide +kernel
theorem dX1_divide_21 : decode cX1_divide 21 = .ok (.iload_n 3, 1) := by decide +kernel
theorem dX1_divide_22 : decode cX1_divide 22 = .ok (.iconst 4, 1) := by decide +kernel
theorem dX1_divide_23 : decode cX1_divide 23 = .ok (.if_icmp .ge 21, 3) := by decide +kernel
theorem dX1_divide_26 : decode cX1_divide 26 = .ok (.aload_n 0, 1) := by decide +kernel
theorem dX1_divide_27 : decode cX1_divide 27 = .ok (.getfield 11, 3) := by decide +kernel
theorem dX1_divide_30 : decode cX1_divide 30 = .ok (.iload_n 2, 1) := by decide +kernel
theorem dX1_divide_31 : decode cX1_divide 31 = .ok (.iload_n 3, 1) := by decide +kernel
theorem dX1_divide_32 : decode cX1_divide 32 = .ok (.iadd, 1) := by decide +kernel
theorem dX1_divide_33 : decode cX1_divide 33 = .ok (.dup2, 1) := by decide +kernel
theorem dX1_divide_34 : decode cX1_divide 34 = .ok (.laload, 1) := by decide +kernel
theorem dX1_divide_35 : decode cX1_divide 35 = .ok (.iconst 1, 1) := by decide +kernel
theorem dX1_divide_36 : decode cX1_divide 36 = .ok (.lshr, 1) := by decide +kernel
theorem dX1_divide_37 : decode cX1_divide 37 = .ok (.lastore, 1) := by decide +kernel
theorem dX1_divide_38 : decode cX1_divide 38 = .ok (.iinc 3 1, 3) := by decide +kernel
theorem dX1_divide_41 : decode cX1_divide 41 = .ok (.goto (-20), 3) := by decide +kernel
theorem dX1_divide_44 : decode cX1_divide 44 = .ok (.iinc 1 1, 3) := by decide +kernel
theorem dX1_divide_47 : decode cX1_divide 47 = .ok (.goto (-45), 3) := by decide +kernel
theorem dX1_divide_50 : decode cX1_divide 50 = .ok (.return_, 1) := by decide +kernel
theorem dX1_firstDifference_0 : decode cX1_firstDifference 0 = .ok (.iconst 0, 1) := by decide +kernel
theorem dX1_firstDifference_1 : decode cX1_firstDifference 1 = .ok (.istore_n 2, 1) := by decide +kernel
theorem dX1_firstDifference_2 : decode cX1_firstDifference 2 = .ok (.iload_n 2, 1) := by decide +kernel
theorem dX1_firstDifference_3 : decode cX1_firstDifference 3 = .ok (.aload_n 0, 1) := by decide +kernel
theorem dX1_firstDifference_4 : decode cX1_firstDifference 4 = .ok (.getfield 15, 3) := by decide +kernel
theorem dX1_firstDifference_7 : decode cX1_firstDifference 7 = .ok (.if_icmp .ge 40, 3) := by decide +kernel
theorem dX1_firstDifference_10 : decode cX1_firstDifference 10 = .ok (.iconst 0, 1) := by decide +kernel
theorem dX1_firstDifference_11 : decode cX1_firstDifference 11 = .ok (.istore_n 3, 1) := by decide +kernel
theorem dX1_firstDifference_12 : decode cX1_firstDifference 12 = .ok (.iload_n 3, 1) := by decide +kernel
theorem dX1_firstDifference_13 : decode cX1_firstDifference 13 = .ok (.iconst 4, 1) := by decide +kernel
theorem dX1_firstDifference_14 : decode cX1_firstDifference 14 = .ok (.if_icmp .ge 27, 3) := by decide +kernel
theorem dX1_firstDifference_17 : decode cX1_firstDifference 17 = .ok (.aload_n 0, 1) := by decide +kernel
theorem dX1_firstDifference_18 : decode cX1_firstDifference 18 = .ok (.iload_n 2, 1) := by decide +kernel
theorem dX1_firstDifference_19 : decode cX1_firstDifference 19 = .ok (.iload_n 3, 1) := by decide +kernel
theorem dX1_firstDifference_20 : decode cX1_firstDifference 20 = .ok (.invokevirtual 107, 3) := by decide +kernel
theorem dX1_firstDifference_23 : decode cX1_firstDifference 23 = .ok (.aload_n 1, 1) := by decide +kernel
theorem dX1_firstDifference_24 : decode cX1_firstDifference 24 = .ok (.iload_n 2, 1) := by decide +kernel
theorem dX1_firstDifference_25 : decode cX1_firstDifference 25 = .ok (.iload_n 3, 1) := by decide +kernel
theorem dX1_firstDifference_26 : decode cX1_firstDifference 26 = .ok (.invokevirtual 107, 3) := by decide +kernel
theorem dX1_firstDifference_29 : decode cX1_firstDifference 29 = .ok (.lcmp, 1) := by decide +kernel
theorem dX1_firstDifference_30 : decode cX1_firstDifference 30 = .ok (.ifCond .eq 5, 3) := by decide +kernel
theorem dX1_firstDifference_33 : decode cX1_firstDifference 33 = .ok (.iload_n 2, 1) := by decide +kernel
theorem dX1_firstDifference_34 : decode cX1_firstDifference 34 = .ok (.ireturn, 1) := by decide +kernel
theorem dX1_firstDifference_35 : decode cX1_firstDifference 35 = .ok (.iinc 3 1, 3) := by decide +kernel
theorem dX1_firstDifference_38 : decode cX1_firstDifference 38 = .ok (.goto (-26), 3) := by decide +kernel
theorem dX1_firstDifference_41 : decode cX1_firstDifference 41 = .ok (.iinc 2 1, 3) := by decide +kernel
theorem dX1_firstDifference_44 : decode cX1_firstDifference 44 = .ok (.goto (-42), 3) := by decide +kernel
theorem dX1_firstDifference_47 : decode cX1_firstDifference 47 = .ok (.iconst (-1), 1) := by decide +kernel
theorem dX1_firstDifference_48 : decode cX1_firstDifference 48 = .ok (.ireturn, 1) := by decide +kernel
theorem dX1_isTurned_0 : decode cX1_isTurned 0 = .ok (.iconst 0, 1) := by decide +kernel
theorem dX1_isTurned_1 : decode cX1_isTurned 1 = .ok (.istore_n 3, 1) := by decide +kernel
theorem dX1_isTurned_2 : decode cX1_isTurned 2 = .ok (.iload_n 3, 1) := by decide +kernel
theorem dX1_isTurned_3 : decode cX1_isTurned 3 = .ok (.aload_n 0, 1) := by decide +kernel
theorem dX1_isTurned_4 : decode cX1_isTurned 4 = .ok (.getfield 15, 3) := by decide +kernel
theorem dX1_isTurned_7 : decode cX1_isTurned 7 = .ok (.if_icmp .ge 76, 3) := by decide +kernel
theorem dX1_isTurned_10 : decode cX1_isTurned 10 = .ok (.iconst 0, 1) := by decide +kernel
theorem dX1_isTurned_11 : decode cX1_isTurned 11 = .ok (.istore 4, 2) := by decide +kernel
theorem dX1_isTurned_13 : decode cX1_isTurned 13 = .ok (.iload 4, 2) := by decide +kernel
theorem dX1_isTurned_15 : decode cX1_isTurned 15 = .ok (.iconst 4, 1) := by decide +kernel
theorem dX1_isTurned_16 : decode cX1_isTurned 16 = .ok (.if_icmp .ge 61, 3) := by decide +kernel
theorem dX1_isTurned_19 : decode cX1_isTurned 19 = .ok (.iload 4, 2) := by decide +kernel
theorem dX1_isTurned_21 : decode cX1_isTurned 21 = .ok (.iload_n 2, 1) := by decide +kernel
theorem dX1_isTurned_22 : decode cX1_isTurned 22 = .ok (.isub, 1) := by decide +kernel
theorem dX1_isTurned_23 : decode cX1_isTurned 23 = .ok (.bipush 7, 2) := by decide +kernel
theorem dX1_isTurned_25 : decode cX1_isTurned 25 = .ok (.iand, 1) := by decide +kernel
theorem dX1_isTurned_26 : decode cX1_isTurned 26 = .ok (.istore 5, 2) := by decide +kernel
theorem dX1_isTurned_28 : decode cX1_isTurned 28 = .ok (.iload 5, 2) := by decide +kernel
theorem dX1_isTurned_30 : decode cX1_isTurned 30 = .ok (.iconst 4, 1) := by decide +kernel
theorem dX1_isTurned_31 : decode cX1_isTurned 31 = .ok (.if_icmp .ge 13, 3) := by decide +kernel
theorem dX1_isTurned_34 : decode cX1_isTurned 34 = .ok (.aload_n 1, 1) := by decide +kernel
theorem dX1_isTurned_35 : decode cX1_isTurned 35 = .ok (.iload_n 3, 1) := by decide +kernel
theorem dX1_isTurned_36 : decode cX1_isTurned 36 = .ok (.iload 5, 2) := by decide +kernel
theorem dX1_isTurned_38 : decode cX1_isTurned 38 = .ok (.invokevirtual 107, 3) := by decide +kernel
theorem dX1_isTurned_41 : decode cX1_isTurned 41 = .ok (.goto 13, 3) := by decide +kernel
theorem dX1_isTurned_44 : decode cX1_isTurned 44 = .ok (.aload_n 1, 1) := by decide +kernel
theorem dX1_isTurned_45 : decode cX1_isTurned 45 = .ok (.iload_n 3, 1) := by decide +kernel
theorem dX1_isTurned_46 : decode cX1_isTurned 46 = .ok (.iload 5, 2) := by decide +kernel
theorem dX1_isTurned_48 : decode cX1_isTurned 48 = .ok (.iconst 4, 1) := by decide +kernel
theorem dX1_isTurned_49 : decode cX1_isTurned 49 = .ok (.isub, 1) := by decide +kernel
theorem dX1_isTurned_50 : decode cX1_isTurned 50 = .ok (.invokevirtual 107, 3) := by decide +kernel
theorem dX1_isTurned_53 : decode cX1_isTurned 53 = .ok (.lneg, 1) := by decide +kernel
theorem dX1_isTurned_54 : decode cX1_isTurned 54 = .ok (.lstore 6, 2) := by decide +kernel
theorem dX1_isTurned_56 : decode cX1_isTurned 56 = .ok (.aload_n 0, 1) := by decide +kernel
theorem dX1_isTurned_57 : decode cX1_isTurned 57 = .ok (.iload_n 3, 1) := by decide +kernel
theorem dX1_isTurned_58 : decode cX1_isTurned 58 = .ok (.iload 4, 2) := by decide +kernel
theorem dX1_isTurned_60 : decode cX1_isTurned 60 = .ok (.invokevirtual 107, 3) := by decide +kernel
theorem dX1_isTurned_63 : decode cX1_isTurned 63 = .ok (.lload 6, 2) := by decide +kernel
theorem dX1_isTurned_65 : decode cX1_isTurned 65 = .ok (.lcmp, 1) := by decide +kernel
theorem dX1_isTurned_66 : decode cX1_isTurned 66 = .ok (.ifCond .eq 5, 3) := by decide +kernel
theorem dX1_isTurned_69 : decode cX1_isTurned 69 = .ok (.iconst 0, 1) := by decide +kernel
theorem dX1_isTurned_70 : decode cX1_isTurned 70 = .ok (.ireturn, 1) := by decide +kernel
theorem dX1_isTurned_71 : decode cX1_isTurned 71 = .ok (.iinc 4 1, 3) := by decide +kernel
theorem dX1_isTurned_74 : decode cX1_isTurned 74 = .ok (.goto (-61), 3) := by decide +kernel
theorem dX1_isTurned_77 : decode cX1_isTurned 77 = .ok (.iinc 3 1, 3) := by decide +kernel
theorem dX1_isTurned_80 : decode cX1_isTurned 80 = .ok (.goto (-78), 3) := by decide +kernel
theorem dX1_isTurned_83 : decode cX1_isTurned 83 = .ok (.iconst 1, 1) := by decide +kernel
theorem dX1_isTurned_84 : decode cX1_isTurned 84 = .ok (.ireturn, 1) := by decide +kernel
theorem dX1_weightWhole_0 : decode cX1_weightWhole 0 = .ok (.lconst 0, 1) := by decide +kernel
theorem dX1_weightWhole_1 : decode cX1_weightWhole 1 = .ok (.lstore_n 3, 1) := by decide +kernel
theorem dX1_weightWhole_2 : decode cX1_weightWhole 2 = .ok (.iconst 0, 1) := by decide +kernel
theorem dX1_weightWhole_3 : decode cX1_weightWhole 3 = .ok (.istore 5, 2) := by decide +kernel
theorem dX1_weightWhole_5 : decode cX1_weightWhole 5 = .ok (.iload 5, 2) := by decide +kernel
theorem dX1_weightWhole_7 : decode cX1_weightWhole 7 = .ok (.aload_n 0, 1) := by decide +kernel
theorem dX1_weightWhole_8 : decode cX1_weightWhole 8 = .ok (.getfield 15, 3) := by decide +kernel
theorem dX1_weightWhole_11 : decode cX1_weightWhole 11 = .ok (.if_icmp .ge 105, 3) := by decide +kernel
theorem dX1_weightWhole_14 : decode cX1_weightWhole 14 = .ok (.iload 5, 2) := by decide +kernel
theorem dX1_weightWhole_16 : decode cX1_weightWhole 16 = .ok (.iload_n 1, 1) := by decide +kernel
theorem dX1_weightWhole_17 : decode cX1_weightWhole 17 = .ok (.ishr, 1) := by decide +kernel
theorem dX1_weightWhole_18 : decode cX1_weightWhole 18 = .ok (.iconst 1, 1) := by decide +kernel
theorem dX1_weightWhole_19 : decode cX1_weightWhole 19 = .ok (.iand, 1) := by decide +kernel
theorem dX1_weightWhole_20 : decode cX1_weightWhole 20 = .ok (.iload_n 2, 1) := by decide +kernel
theorem dX1_weightWhole_21 : decode cX1_weightWhole 21 = .ok (.if_icmp .ne 89, 3) := by decide +kernel
theorem dX1_weightWhole_24 : decode cX1_weightWhole 24 = .ok (.iconst 4, 1) := by decide +kernel
theorem dX1_weightWhole_25 : decode cX1_weightWhole 25 = .ok (.iload 5, 2) := by decide +kernel
theorem dX1_weightWhole_27 : decode cX1_weightWhole 27 = .ok (.imul, 1) := by decide +kernel
theorem dX1_weightWhole_28 : decode cX1_weightWhole 28 = .ok (.istore 6, 2) := by decide +kernel
theorem dX1_weightWhole_30 : decode cX1_weightWhole 30 = .ok (.lload_n 3, 1) := by decide +kernel
theorem dX1_weightWhole_31 : decode cX1_weightWhole 31 = .ok (.aload_n 0, 1) := by decide +kernel
theorem dX1_weightWhole_32 : decode cX1_weightWhole 32 = .ok (.getfield 11, 3) := by decide +kernel
theorem dX1_weightWhole_35 : decode cX1_weightWhole 35 = .ok (.iload 6, 2) := by decide +kernel
theorem dX1_weightWhole_37 : decode cX1_weightWhole 37 = .ok (.laload, 1) := by decide +kernel
theorem dX1_weightWhole_38 : decode cX1_weightWhole 38 = .ok (.aload_n 0, 1) := by decide +kernel
theorem dX1_weightWhole_39 : decode cX1_weightWhole 39 = .ok (.getfield 11, 3) := by decide +kernel
theorem dX1_weightWhole_42 : decode cX1_weightWhole 42 = .ok (.iload 6, 2) := by decide +kernel
theorem dX1_weightWhole_44 : decode cX1_weightWhole 44 = .ok (.laload, 1) := by decide +kernel
theorem dX1_weightWhole_45 : decode cX1_weightWhole 45 = .ok (.lmul, 1) := by decide +kernel
theorem dX1_weightWhole_46 : decode cX1_weightWhole 46 = .ok (.aload_n 0, 1) := by decide +kernel
theorem dX1_weightWhole_47 : decode cX1_weightWhole 47 = .ok (.getfield 11, 3) := by decide +kernel
theorem dX1_weightWhole_50 : decode cX1_weightWhole 50 = .ok (.iload 6, 2) := by decide +kernel
theorem dX1_weightWhole_52 : decode cX1_weightWhole 52 = .ok (.iconst 1, 1) := by decide +kernel
theorem dX1_weightWhole_53 : decode cX1_weightWhole 53 = .ok (.iadd, 1) := by decide +kernel
theorem dX1_weightWhole_54 : decode cX1_weightWhole 54 = .ok (.laload, 1) := by decide +kernel
theorem dX1_weightWhole_55 : decode cX1_weightWhole 55 = .ok (.aload_n 0, 1) := by decide +kernel
theorem dX1_weightWhole_56 : decode cX1_weightWhole 56 = .ok (.getfield 11, 3) := by decide +kernel
theorem dX1_weightWhole_59 : decode cX1_weightWhole 59 = .ok (.iload 6, 2) := by decide +kernel
theorem dX1_weightWhole_61 : decode cX1_weightWhole 61 = .ok (.iconst 1, 1) := by decide +kernel
theorem dX1_weightWhole_62 : decode cX1_weightWhole 62 = .ok (.iadd, 1) := by decide +kernel
theorem dX1_weightWhole_63 : decode cX1_weightWhole 63 = .ok (.laload, 1) := by decide +kernel
theorem dX1_weightWhole_64 : decode cX1_weightWhole 64 = .ok (.lmul, 1) := by decide +kernel
theorem dX1_weightWhole_65 : decode cX1_weightWhole 65 = .ok (.ladd, 1) := by decide +kernel
theorem dX1_weightWhole_66 : decode cX1_weightWhole 66 = .ok (.ladd, 1) := by decide +kernel
theorem dX1_weightWhole_67 : decode cX1_weightWhole 67 = .ok (.lstore_n 3, 1) := by decide +kernel
theorem dX1_weightWhole_68 : decode cX1_weightWhole 68 = .ok (.lload_n 3, 1) := by decide +kernel
theorem dX1_weightWhole_69 : decode cX1_weightWhole 69 = .ok (.aload_n 0, 1) := by decide +kernel
theorem dX1_weightWhole_70 : decode cX1_weightWhole 70 = .ok (.getfield 11, 3) := by decide +kernel
theorem dX1_weightWhole_73 : decode cX1_weightWhole 73 = .ok (.iload 6, 2) := by decide +kernel
theorem dX1_weightWhole_75 : decode cX1_weightWhole 75 = .ok (.iconst 2, 1) := by decide +kernel
theorem dX1_weightWhole_76 : decode cX1_weightWhole 76 = .ok (.iadd, 1) := by decide +kernel
theorem dX1_weightWhole_77 : decode cX1_weightWhole 77 = .ok (.laload, 1) := by decide +kernel
theorem dX1_weightWhole_78 : decode cX1_weightWhole 78 = .ok (.aload_n 0, 1) := by decide +kernel
theorem dX1_weightWhole_79 : decode cX1_weightWhole 79 = .ok (.getfield 11, 3) := by decide +kernel
theorem dX1_weightWhole_82 : decode cX1_weightWhole 82 = .ok (.iload 6, 2) := by decide +kernel
theorem dX1_weightWhole_84 : decode cX1_weightWhole 84 = .ok (.iconst 2, 1) := by decide +kernel
theorem dX1_weightWhole_85 : decode cX1_weightWhole 85 = .ok (.iadd, 1) := by decide +kernel
theorem dX1_weightWhole_86 : decode cX1_weightWhole 86 = .ok (.laload, 1) := by decide +kernel
theorem dX1_weightWhole_87 : decode cX1_weightWhole 87 = .ok (.lmul, 1) := by decide +kernel
theorem dX1_weightWhole_88 : decode cX1_weightWhole 88 = .ok (.aload_n 0, 1) := by decide +kernel
theorem dX1_weightWhole_89 : decode cX1_weightWhole 89 = .ok (.getfield 11, 3) := by decide +kernel
theorem dX1_weightWhole_92 : decode cX1_weightWhole 92 = .ok (.iload 6, 2) := by decide +kernel
theorem dX1_weightWhole_94 : decode cX1_weightWhole 94 = .ok (.iconst 3, 1) := by decide +kernel
theorem dX1_weightWhole_95 : decode cX1_weightWhole 95 = .ok (.iadd, 1) := by decide +kernel
theorem dX1_weightWhole_96 : decode cX1_weightWhole 96 = .ok (.laload, 1) := by decide +kernel
theorem dX1_weightWhole_97 : decode cX1_weightWhole 97 = .ok (.aload_n 0, 1) := by decide +kernel
theorem dX1_weightWhole_98 : decode cX1_weightWhole 98 = .ok (.getfield 11, 3) := by decide +kernel
theorem dX1_weightWhole_101 : decode cX1_weightWhole 101 = .ok (.iload 6, 2) := by decide +kernel
theorem dX1_weightWhole_103 : decode cX1_weightWhole 103 = .ok (.iconst 3, 1) := by decide +kernel
theorem dX1_weightWhole_104 : decode cX1_weightWhole 104 = .ok (.iadd, 1) := by decide +kernel
theorem dX1_weightWhole_105 : decode cX1_weightWhole 105 = .ok (.laload, 1) := by decide +kernel
theorem dX1_weightWhole_106 : decode cX1_weightWhole 106 = .ok (.lmul, 1) := by decide +kernel
theorem dX1_weightWhole_107 : decode cX1_weightWhole 107 = .ok (.ladd, 1) := by decide +kernel
theorem dX1_weightWhole_108 : decode cX1_weightWhole 108 = .ok (.ladd, 1) := by decide +kernel
theorem dX1_weightWhole_109 : decode cX1_weightWhole 109 = .ok (.lstore_n 3, 1) := by decide +kernel
theorem dX1_weightWhole_110 : decode cX1_weightWhole 110 = .ok (.iinc 5 1, 3) := by decide +kernel
theorem dX1_weightWhole_113 : decode cX1_weightWhole 113 = .ok (.goto (-108), 3) := by decide +kernel
theorem dX1_weightWhole_116 : decode cX1_weightWhole 116 = .ok (.lload_n 3, 1) := by decide +kernel
theorem dX1_weightWhole_117 : decode cX1_weightWhole 117 = .ok (.lreturn, 1) := by decide +kernel
theorem dX1_weightRoot_0 : decode cX1_weightRoot 0 = .ok (.lconst 0, 1) := by decide +kernel
theorem dX1_weightRoot_1 : decode cX1_weightRoot 1 = .ok (.lstore_n 3, 1) := by decide +kernel
theorem dX1_weightRoot_2 : decode cX1_weightRoot 2 = .ok (.iconst 0, 1) := by decide +kernel
theorem dX1_weightRoot_3 : decode cX1_weightRoot 3 = .ok (.istore 5, 2) := by decide +kernel
theorem dX1_weightRoot_5 : decode cX1_weightRoot 5 = .ok (.iload 5, 2) := by decide +kernel
theorem dX1_weightRoot_7 : decode cX1_weightRoot 7 = .ok (.aload_n 0, 1) := by decide +kernel
theorem dX1_weightRoot_8 : decode cX1_weightRoot 8 = .ok (.getfield 15, 3) := by decide +kernel
theorem dX1_weightRoot_11 : decode cX1_weightRoot 11 = .ok (.if_icmp .ge 105, 3) := by decide +kernel
theorem dX1_weightRoot_14 : decode cX1_weightRoot 14 = .ok (.iload 5, 2) := by decide +kernel
theorem dX1_weightRoot_16 : decode cX1_weightRoot 16 = .ok (.iload_n 1, 1) := by decide +kernel
theorem dX1_weightRoot_17 : decode cX1_weightRoot 17 = .ok (.ishr, 1) := by decide +kernel
theorem dX1_weightRoot_18 : decode cX1_weightRoot 18 = .ok (.iconst 1, 1) := by decide +kernel
theorem dX1_weightRoot_19 : decode cX1_weightRoot 19 = .ok (.iand, 1) := by decide +kernel
theorem dX1_weightRoot_20 : decode cX1_weightRoot 20 = .ok (.iload_n 2, 1) := by decide +kernel
theorem dX1_weightRoot_21 : decode cX1_weightRoot 21 = .ok (.if_icmp .ne 89, 3) := by decide +kernel
theorem dX1_weightRoot_24 : decode cX1_weightRoot 24 = .ok (.iconst 4, 1) := by decide +kernel
theorem dX1_weightRoot_25 : decode cX1_weightRoot 25 = .ok (.iload 5, 2) := by decide +kernel
theorem dX1_weightRoot_27 : decode cX1_weightRoot 27 = .ok (.imul, 1) := by decide +kernel
theorem dX1_weightRoot_28 : decode cX1_weightRoot 28 = .ok (.istore 6, 2) := by decide +kernel
theorem dX1_weightRoot_30 : decode cX1_weightRoot 30 = .ok (.lload_n 3, 1) := by decide +kernel
theorem dX1_weightRoot_31 : decode cX1_weightRoot 31 = .ok (.aload_n 0, 1) := by decide +kernel
theorem dX1_weightRoot_32 : decode cX1_weightRoot 32 = .ok (.getfield 11, 3) := by decide +kernel
theorem dX1_weightRoot_35 : decode cX1_weightRoot 35 = .ok (.iload 6, 2) := by decide +kernel
theorem dX1_weightRoot_37 : decode cX1_weightRoot 37 = .ok (.laload, 1) := by decide +kernel
theorem dX1_weightRoot_38 : decode cX1_weightRoot 38 = .ok (.aload_n 0, 1) := by decide +kernel
theorem dX1_weightRoot_39 : decode cX1_weightRoot 39 = .ok (.getfield 11, 3) := by decide +kernel
theorem dX1_weightRoot_42 : decode cX1_weightRoot 42 = .ok (.iload 6, 2) := by decide +kernel
theorem dX1_weightRoot_44 : decode cX1_weightRoot 44 = .ok (.iconst 1, 1) := by decide +kernel
theorem dX1_weightRoot_45 : decode cX1_weightRoot 45 = .ok (.iadd, 1) := by decide +kernel
theorem dX1_weightRoot_46 : decode cX1_weightRoot 46 = .ok (.laload, 1) := by decide +kernel
theorem dX1_weightRoot_47 : decode cX1_weightRoot 47 = .ok (.lmul, 1) := by decide +kernel
theorem dX1_weightRoot_48 : decode cX1_weightRoot 48 = .ok (.aload_n 0, 1) := by decide +kernel
theorem dX1_weightRoot_49 : decode cX1_weightRoot 49 = .ok (.getfield 11, 3) := by decide +kernel
theorem dX1_weightRoot_52 : decode cX1_weightRoot 52 = .ok (.iload 6, 2) := by decide +kernel
theorem dX1_weightRoot_54 : decode cX1_weightRoot 54 = .ok (.iconst 1, 1) := by decide +kernel
theorem dX1_weightRoot_55 : decode cX1_weightRoot 55 = .ok (.iadd, 1) := by decide +kernel
theorem dX1_weightRoot_56 : decode cX1_weightRoot 56 = .ok (.laload, 1) := by decide +kernel
theorem dX1_weightRoot_57 : decode cX1_weightRoot 57 = .ok (.aload_n 0, 1) := by decide +kernel
theorem dX1_weightRoot_58 : decode cX1_weightRoot 58 = .ok (.getfield 11, 3) := by decide +kernel
theorem dX1_weightRoot_61 : decode cX1_weightRoot 61 = .ok (.iload 6, 2) := by decide +kernel
theorem dX1_weightRoot_63 : decode cX1_weightRoot 63 = .ok (.iconst 2, 1) := by decide +kernel
theorem dX1_weightRoot_64 : decode cX1_weightRoot 64 = .ok (.iadd, 1) := by decide +kernel
theorem dX1_weightRoot_65 : decode cX1_weightRoot 65 = .ok (.laload, 1) := by decide +kernel
theorem dX1_weightRoot_66 : decode cX1_weightRoot 66 = .ok (.lmul, 1) := by decide +kernel
theorem dX1_weightRoot_67 : decode cX1_weightRoot 67 = .ok (.ladd, 1) := by decide +kernel
theorem dX1_weightRoot_68 : decode cX1_weightRoot 68 = .ok (.ladd, 1) := by decide +kernel
theorem dX1_weightRoot_69 : decode cX1_weightRoot 69 = .ok (.lstore_n 3, 1) := by decide +kernel
theorem dX1_weightRoot_70 : decode cX1_weightRoot 70 = .ok (.lload_n 3, 1) := by decide +kernel
theorem dX1_weightRoot_71 : decode cX1_weightRoot 71 = .ok (.aload_n 0, 1) := by decide +kernel
theorem dX1_weightRoot_72 : decode cX1_weightRoot 72 = .ok (.getfield 11, 3) := by decide +kernel
theorem dX1_weightRoot_75 : decode cX1_weightRoot 75 = .ok (.iload 6, 2) := by decide +kernel
theorem dX1_weightRoot_77 : decode cX1_weightRoot 77 = .ok (.iconst 2, 1) := by decide +kernel
theorem dX1_weightRoot_78 : decode cX1_weightRoot 78 = .ok (.iadd, 1) := by decide +kernel
theorem dX1_weightRoot_79 : decode cX1_weightRoot 79 = .ok (.laload, 1) := by decide +kernel
theorem dX1_weightRoot_80 : decode cX1_weightRoot 80 = .ok (.aload_n 0, 1) := by decide +kernel
theorem dX1_weightRoot_81 : decode cX1_weightRoot 81 = .ok (.getfield 11, 3) := by decide +kernel
theorem dX1_weightRoot_84 : decode cX1_weightRoot 84 = .ok (.iload 6, 2) := by decide +kernel
theorem dX1_weightRoot_86 : decode cX1_weightRoot 86 = .ok (.iconst 3, 1) := by decide +kernel
theorem dX1_weightRoot_87 : decode cX1_weightRoot 87 = .ok (.iadd, 1) := by decide +kernel
theorem dX1_weightRoot_88 : decode cX1_weightRoot 88 = .ok (.laload, 1) := by decide +kernel
theorem dX1_weightRoot_89 : decode cX1_weightRoot 89 = .ok (.lmul, 1) := by decide +kernel
theorem dX1_weightRoot_90 : decode cX1_weightRoot 90 = .ok (.aload_n 0, 1) := by decide +kernel
theorem dX1_weightRoot_91 : decode cX1_weightRoot 91 = .ok (.getfield 11, 3) := by decide +kernel
theorem dX1_weightRoot_94 : decode cX1_weightRoot 94 = .ok (.iload 6, 2) := by decide +kernel
theorem dX1_weightRoot_96 : decode cX1_weightRoot 96 = .ok (.iconst 3, 1) := by decide +kernel
theorem dX1_weightRoot_97 : decode cX1_weightRoot 97 = .ok (.iadd, 1) := by decide +kernel
theorem dX1_weightRoot_98 : decode cX1_weightRoot 98 = .ok (.laload, 1) := by decide +kernel
theorem dX1_weightRoot_99 : decode cX1_weightRoot 99 = .ok (.aload_n 0, 1) := by decide +kernel
theorem dX1_weightRoot_100 : decode cX1_weightRoot 100 = .ok (.getfield 11, 3) := by decide +kernel
theorem dX1_weightRoot_103 : decode cX1_weightRoot 103 = .ok (.iload 6, 2) := by decide +kernel
theorem dX1_weightRoot_105 : decode cX1_weightRoot 105 = .ok (.laload, 1) := by decide +kernel
theorem dX1_weightRoot_106 : decode cX1_weightRoot 106 = .ok (.lmul, 1) := by decide +kernel
theorem dX1_weightRoot_107 : decode cX1_weightRoot 107 = .ok (.lsub, 1) := by decide +kernel
theorem dX1_weightRoot_108 : decode cX1_weightRoot 108 = .ok (.ladd, 1) := by decide +kernel
theorem dX1_weightRoot_109 : decode cX1_weightRoot 109 = .ok (.lstore_n 3, 1) := by decide +kernel
theorem dX1_weightRoot_110 : decode cX1_weightRoot 110 = .ok (.iinc 5 1, 3) := by decide +kernel
theorem dX1_weightRoot_113 : decode cX1_weightRoot 113 = .ok (.goto (-108), 3) := by decide +kernel
theorem dX1_weightRoot_116 : decode cX1_weightRoot 116 = .ok (.lload_n 3, 1) := by decide +kernel
theorem dX1_weightRoot_117 : decode cX1_weightRoot 117 = .ok (.lreturn, 1) := by decide +kernel
theorem dX1_hasAny_0 : decode cX1_hasAny 0 = .ok (.iconst 0, 1) := by decide +kernel
theorem dX1_hasAny_1 : decode cX1_hasAny 1 = .ok (.istore_n 3, 1) := by decide +kernel
theorem dX1_hasAny_2 : decode cX1_hasAny 2 = .ok (.iload_n 3, 1) := by decide +kernel
theorem dX1_hasAny_3 : decode cX1_hasAny 3 = .ok (.iconst 4, 1) := by decide +kernel
theorem dX1_hasAny_4 : decode cX1_hasAny 4 = .ok (.aload_n 0, 1) := by decide +kernel
theorem dX1_hasAny_5 : decode cX1_hasAny 5 = .ok (.getfield 15, 3) := by decide +kernel
theorem dX1_hasAny_8 : decode cX1_hasAny 8 = .ok (.imul, 1) := by decide +kernel
theorem dX1_hasAny_9 : decode cX1_hasAny 9 = .ok (.if_icmp .ge 33, 3) := by decide +kernel
theorem dX1_hasAny_12 : decode cX1_hasAny 12 = .ok (.iload_n 3, 1) := by decide +kernel
theorem dX1_hasAny_13 : decode cX1_hasAny 13 = .ok (.iconst 4, 1) := by decide +kernel
theorem dX1_hasAny_14 : decode cX1_hasAny 14 = .ok (.idiv, 1) := by decide +kernel
theorem dX1_hasAny_15 : decode cX1_hasAny 15 = .ok (.iload_n 1, 1) := by decide +kernel
theorem dX1_hasAny_16 : decode cX1_hasAny 16 = .ok (.ishr, 1) := by decide +kernel
theorem dX1_hasAny_17 : decode cX1_hasAny 17 = .ok (.iconst 1, 1) := by decide +kernel
theorem dX1_hasAny_18 : decode cX1_hasAny 18 = .ok (.iand, 1) := by decide +kernel
theorem dX1_hasAny_19 : decode cX1_hasAny 19 = .ok (.iload_n 2, 1) := by decide +kernel
theorem dX1_hasAny_20 : decode cX1_hasAny 20 = .ok (.if_icmp .ne 16, 3) := by decide +kernel
theorem dX1_hasAny_23 : decode cX1_hasAny 23 = .ok (.aload_n 0, 1) := by decide +kernel
theorem dX1_hasAny_24 : decode cX1_hasAny 24 = .ok (.getfield 11, 3) := by decide +kernel
theorem dX1_hasAny_27 : decode cX1_hasAny 27 = .ok (.iload_n 3, 1) := by decide +kernel
theorem dX1_hasAny_28 : decode cX1_hasAny 28 = .ok (.laload, 1) := by decide +kernel
theorem dX1_hasAny_29 : decode cX1_hasAny 29 = .ok (.lconst 0, 1) := by decide +kernel
theorem dX1_hasAny_30 : decode cX1_hasAny 30 = .ok (.lcmp, 1) := by decide +kernel
theorem dX1_hasAny_31 : decode cX1_hasAny 31 = .ok (.ifCond .eq 5, 3) := by decide +kernel
theorem dX1_hasAny_34 : decode cX1_hasAny 34 = .ok (.iconst 1, 1) := by decide +kernel
theorem dX1_hasAny_35 : decode cX1_hasAny 35 = .ok (.ireturn, 1) := by decide +kernel
theorem dX1_hasAny_36 : decode cX1_hasAny 36 = .ok (.iinc 3 1, 3) := by decide +kernel
theorem dX1_hasAny_39 : decode cX1_hasAny 39 = .ok (.goto (-37), 3) := by decide +kernel
theorem dX1_hasAny_42 : decode cX1_hasAny 42 = .ok (.iconst 0, 1) := by decide +kernel
theorem dX1_hasAny_43 : decode cX1_hasAny 43 = .ok (.ireturn, 1) := by decide +kernel
theorem dX1_keepOnly_0 : decode cX1_keepOnly 0 = .ok (.iconst 0, 1) := by decide +kernel
theorem dX1_keepOnly_1 : decode cX1_keepOnly 1 = .ok (.istore_n 3, 1) := by decide +kernel
theorem dX1_keepOnly_2 : decode cX1_keepOnly 2 = .ok (.iload_n 3, 1) := by decide +kernel
theorem dX1_keepOnly_3 : decode cX1_keepOnly 3 = .ok (.iconst 4, 1) := by decide +kernel
theorem dX1_keepOnly_4 : decode cX1_keepOnly 4 = .ok (.aload_n 0, 1) := by decide +kernel
theorem dX1_keepOnly_5 : decode cX1_keepOnly 5 = .ok (.getfield 15, 3) := by decide +kernel
theorem dX1_keepOnly_8 : decode cX1_keepOnly 8 = .ok (.imul, 1) := by decide +kernel
theorem dX1_keepOnly_9 : decode cX1_keepOnly 9 = .ok (.if_icmp .ge 27, 3) := by decide +kernel
theorem dX1_keepOnly_12 : decode cX1_keepOnly 12 = .ok (.iload_n 3, 1) := by decide +kernel
theorem dX1_keepOnly_13 : decode cX1_keepOnly 13 = .ok (.iconst 4, 1) := by decide +kernel
theorem dX1_keepOnly_14 : decode cX1_keepOnly 14 = .ok (.idiv, 1) := by decide +kernel
theorem dX1_keepOnly_15 : decode cX1_keepOnly 15 = .ok (.iload_n 1, 1) := by decide +kernel
theorem dX1_keepOnly_16 : decode cX1_keepOnly 16 = .ok (.ishr, 1) := by decide +kernel
theorem dX1_keepOnly_17 : decode cX1_keepOnly 17 = .ok (.iconst 1, 1) := by decide +kernel
theorem dX1_keepOnly_18 : decode cX1_keepOnly 18 = .ok (.iand, 1) := by decide +kernel
theorem dX1_keepOnly_19 : decode cX1_keepOnly 19 = .ok (.iload_n 2, 1) := by decide +kernel
theorem dX1_keepOnly_20 : decode cX1_keepOnly 20 = .ok (.if_icmp .eq 10, 3) := by decide +kernel
theorem dX1_keepOnly_23 : decode cX1_keepOnly 23 = .ok (.aload_n 0, 1) := by decide +kernel
theorem dX1_keepOnly_24 : decode cX1_keepOnly 24 = .ok (.getfield 11, 3) := by decide +kernel
theorem dX1_keepOnly_27 : decode cX1_keepOnly 27 = .ok (.iload_n 3, 1) := by decide +kernel
theorem dX1_keepOnly_28 : decode cX1_keepOnly 28 = .ok (.lconst 0, 1) := by decide +kernel
theorem dX1_keepOnly_29 : decode cX1_keepOnly 29 = .ok (.lastore, 1) := by decide +kernel
theorem dX1_keepOnly_30 : decode cX1_keepOnly 30 = .ok (.iinc 3 1, 3) := by decide +kernel
theorem dX1_keepOnly_33 : decode cX1_keepOnly 33 = .ok (.goto (-31), 3) := by decide +kernel
theorem dX1_keepOnly_36 : decode cX1_keepOnly 36 = .ok (.return_, 1) := by decide +kernel
theorem dX2_canStand_0 : decode cX2_canStand 0 = .ok (.iload_n 0, 1) := by decide +kernel
theorem dX2_canStand_1 : decode cX2_canStand 1 = .ok (.iconst 1, 1) := by decide +kernel
theorem dX2_canStand_2 : decode cX2_canStand 2 = .ok (.if_icmp .lt 19, 3) := by decide +kernel
theorem dX2_canStand_5 : decode cX2_canStand 5 = .ok (.iload_n 0, 1) := by decide +kernel
theorem dX2_canStand_6 : decode cX2_canStand 6 = .ok (.bipush 9, 2) := by decide +kernel
theorem dX2_canStand_8 : decode cX2_canStand 8 = .ok (.if_icmp .gt 13, 3) := by decide +kernel
theorem dX2_canStand_11 : decode cX2_canStand 11 = .ok (.iload_n 1, 1) := by decide +kernel
theorem dX2_canStand_12 : decode cX2_canStand 12 = .ok (.ifCond .lt 9, 3) := by decide +kernel
theorem dX2_canStand_15 : decode cX2_canStand 15 = .ok (.iload_n 1, 1) := by decide +kernel
theorem dX2_canStand_16 : decode cX2_canStand 16 = .ok (.iload 4, 2) := by decide +kernel
theorem dX2_canStand_18 : decode cX2_canStand 18 = .ok (.if_icmp .lt 5, 3) := by decide +kernel
theorem dX2_canStand_21 : decode cX2_canStand 21 = .ok (.iconst 0, 1) := by decide +kernel
theorem dX2_canStand_22 : decode cX2_canStand 22 = .ok (.ireturn, 1) := by decide +kernel
theorem dX2_canStand_23 : decode cX2_canStand 23 = .ok (.iload_n 0, 1) := by decide +kernel
theorem dX2_canStand_24 : decode cX2_canStand 24 = .ok (.invokestatic 11, 3) := by decide +kernel
theorem dX2_canStand_27 : decode cX2_canStand 27 = .ok (.istore 5, 2) := by decide +kernel
theorem dX2_canStand_29 : decode cX2_canStand 29 = .ok (.iload 5, 2) := by decide +kernel
theorem dX2_canStand_31 : decode cX2_canStand 31 = .ok (.iconst 2, 1) := by decide +kernel
theorem dX2_canStand_32 : decode cX2_canStand 32 = .ok (.if_icmp .lt 20, 3) := by decide +kernel
theorem dX2_canStand_35 : decode cX2_canStand 35 = .ok (.iload_n 2, 1) := by decide +kernel
theorem dX2_canStand_36 : decode cX2_canStand 36 = .ok (.ifCond .lt 14, 3) := by decide +kernel
theorem dX2_canStand_39 : decode cX2_canStand 39 = .ok (.iload_n 2, 1) := by decide +kernel
theorem dX2_canStand_40 : decode cX2_canStand 40 = .ok (.iload 4, 2) := by decide +kernel
theorem dX2_canStand_42 : decode cX2_canStand 42 = .ok (.if_icmp .ge 8, 3) := by decide +kernel
theorem dX2_canStand_45 : decode cX2_canStand 45 = .ok (.iload_n 2, 1) := by decide +kernel
theorem dX2_canStand_46 : decode cX2_canStand 46 = .ok (.iload_n 1, 1) := by decide +kernel
theorem dX2_canStand_47 : decode cX2_canStand 47 = .ok (.if_icmp .ne 5, 3) := by decide +kernel
theorem dX2_canStand_50 : decode cX2_canStand 50 = .ok (.iconst 0, 1) := by decide +kernel
theorem dX2_canStand_51 : decode cX2_canStand 51 = .ok (.ireturn, 1) := by decide +kernel
theorem dX2_canStand_52 : decode cX2_canStand 52 = .ok (.iload 5, 2) := by decide +kernel
theorem dX2_canStand_54 : decode cX2_canStand 54 = .ok (.iconst 3, 1) := by decide +kernel
theorem dX2_canStand_55 : decode cX2_canStand 55 = .ok (.if_icmp .lt 23, 3) := by decide +kernel
theorem dX2_canStand_58 : decode cX2_canStand 58 = .ok (.iload_n 3, 1) := by decide +kernel
theorem dX2_canStand_59 : decode cX2_canStand 59 = .ok (.ifCond .lt 23, 3) := by decide +kernel
theorem dX2_canStand_62 : decode cX2_canStand 62 = .ok (.iload_n 3, 1) := by decide +kernel
theorem dX2_canStand_63 : decode cX2_canStand 63 = .ok (.iload 4, 2) := by decide +kernel
theorem dX2_canStand_65 : decode cX2_canStand 65 = .ok (.if_icmp .ge 17, 3) := by decide +kernel
theorem dX2_canStand_68 : decode cX2_canStand 68 = .ok (.iload_n 3, 1) := by decide +kernel
theorem dX2_canStand_69 : decode cX2_canStand 69 = .ok (.iload_n 1, 1) := by decide +kernel
theorem dX2_canStand_70 : decode cX2_canStand 70 = .ok (.if_icmp .eq 12, 3) := by decide +kernel
theorem dX2_canStand_73 : decode cX2_canStand 73 = .ok (.iload_n 3, 1) := by decide +kernel
theorem dX2_canStand_74 : decode cX2_canStand 74 = .ok (.iload_n 2, 1) := by decide +kernel
theorem dX2_canStand_75 : decode cX2_canStand 75 = .ok (.if_icmp .eq 7, 3) := by decide +kernel
theorem dX2_canStand_78 : decode cX2_canStand 78 = .ok (.iconst 1, 1) := by decide +kernel
theorem dX2_canStand_79 : decode cX2_canStand 79 = .ok (.goto 4, 3) := by decide +kernel
theorem dX2_canStand_82 : decode cX2_canStand 82 = .ok (.iconst 0, 1) := by decide +kernel
theorem dX2_canStand_83 : decode cX2_canStand 83 = .ok (.ireturn, 1) := by decide +kernel
theorem dX2_of_0 : decode cX2_of 0 = .ok (.iload_n 0, 1) := by decide +kernel
theorem dX2_of_1 : decode cX2_of 1 = .ok (.invokestatic 11, 3) := by decide +kernel
theorem dX2_of_4 : decode cX2_of 4 = .ok (.istore 4, 2) := by decide +kernel
theorem dX2_of_6 : decode cX2_of 6 = .ok (.iload_n 0, 1) := by decide +kernel
theorem dX2_of_7 : decode cX2_of 7 = .ok (.bipush 10, 2) := by decide +kernel
theorem dX2_of_9 : decode cX2_of 9 = .ok (.iload_n 1, 1) := by decide +kernel
theorem dX2_of_10 : decode cX2_of 10 = .ok (.imul, 1) := by decide +kernel
theorem dX2_of_11 : decode cX2_of 11 = .ok (.iadd, 1) := by decide +kernel
theorem dX2_of_12 : decode cX2_of 12 = .ok (.iload 4, 2) := by decide +kernel
theorem dX2_of_14 : decode cX2_of 14 = .ok (.iconst 2, 1) := by decide +kernel
theorem dX2_of_15 : decode cX2_of 15 = .ok (.if_icmp .lt 10, 3) := by decide +kernel
theorem dX2_of_18 : decode cX2_of 18 = .ok (.bipush 100, 2) := by decide +kernel
theorem dX2_of_20 : decode cX2_of 20 = .ok (.iload_n 2, 1) := by decide +kernel
theorem dX2_of_21 : decode cX2_of 21 = .ok (.imul, 1) := by decide +kernel
theorem dX2_of_22 : decode cX2_of 22 = .ok (.goto 4, 3) := by decide +kernel
theorem dX2_of_25 : decode cX2_of 25 = .ok (.iconst 0, 1) := by decide +kernel
theorem dX2_of_26 : decode cX2_of 26 = .ok (.iadd, 1) := by decide +kernel
theorem dX2_of_27 : decode cX2_of 27 = .ok (.iload 4, 2) := by decide +kernel
theorem dX2_of_29 : decode cX2_of 29 = .ok (.iconst 3, 1) := by decide +kernel
theorem dX2_of_30 : decode cX2_of 30 = .ok (.if_icmp .lt 11, 3) := by decide +kernel
theorem dX2_of_33 : decode cX2_of 33 = .ok (.sipush 1000, 3) := by decide +kernel
theorem dX2_of_36 : decode cX2_of 36 = .ok (.iload_n 3, 1) := by decide +kernel
theorem dX2_of_37 : decode cX2_of 37 = .ok (.imul, 1) := by decide +kernel
theorem dX2_of_38 : decode cX2_of 38 = .ok (.goto 4, 3) := by decide +kernel
theorem dX2_of_41 : decode cX2_of 41 = .ok (.iconst 0, 1) := by decide +kernel
theorem dX2_of_42 : decode cX2_of 42 = .ok (.iadd, 1) := by decide +kernel
theorem dX2_of_43 : decode cX2_of 43 = .ok (.ireturn, 1) := by decide +kernel
theorem dX2_wiresOf_0 : decode cX2_wiresOf 0 = .ok (.iload_n 0, 1) := by decide +kernel
theorem dX2_wiresOf_1 : decode cX2_wiresOf 1 = .ok (.bipush 9, 2) := by decide +kernel
theorem dX2_wiresOf_3 : decode cX2_wiresOf 3 = .ok (.if_icmp .ne 5, 3) := by decide +kernel
theorem dX2_wiresOf_6 : decode cX2_wiresOf 6 = .ok (.iconst 3, 1) := by decide +kernel
theorem dX2_wiresOf_7 : decode cX2_wiresOf 7 = .ok (.ireturn, 1) := by decide +kernel
theorem dX2_wiresOf_8 : decode cX2_wiresOf 8 = .ok (.iload_n 0, 1) := by decide +kernel
theorem dX2_wiresOf_9 : decode cX2_wiresOf 9 = .ok (.bipush 6, 2) := by decide +kernel
theorem dX2_wiresOf_11 : decode cX2_wiresOf 11 = .ok (.if_icmp .lt 7, 3) := by decide +kernel
theorem dX2_wiresOf_14 : decode cX2_wiresOf 14 = .ok (.iconst 2, 1) := by decide +kernel
theorem dX2_wiresOf_15 : decode cX2_wiresOf 15 = .ok (.goto 4, 3) := by decide +kernel
theorem dX2_wiresOf_18 : decode cX2_wiresOf 18 = .ok (.iconst 1, 1) := by decide +kernel
theorem dX2_wiresOf_19 : decode cX2_wiresOf 19 = .ok (.ireturn, 1) := by decide +kernel
theorem dX2_kind_0 : decode cX2_kind 0 = .ok (.iload_n 0, 1) := by decide +kernel
theorem dX2_kind_1 : decode cX2_kind 1 = .ok (.bipush 10, 2) := by decide +kernel
theorem dX2_kind_3 : decode cX2_kind 3 = .ok (.irem, 1) := by decide +kernel
theorem dX2_kind_4 : decode cX2_kind 4 = .ok (.ireturn, 1) := by decide +kernel
theorem dX2_a_0 : decode cX2_a 0 = .ok (.iload_n 0, 1) := by decide +kernel
theorem dX2_a_1 : decode cX2_a 1 = .ok (.bipush 10, 2) := by decide +kernel
theorem dX2_a_3 : decode cX2_a 3 = .ok (.idiv, 1) := by decide +kernel
theorem dX2_a_4 : decode cX2_a 4 = .ok (.bipush 10, 2) := by decide +kernel
theorem dX2_a_6 : decode cX2_a 6 = .ok (.irem, 1) := by decide +kernel
theorem dX2_a_7 : decode cX2_a 7 = .ok (.ireturn, 1) := by decide +kernel
theorem dX2_b_0 : decode cX2_b 0 = .ok (.iload_n 0, 1) := by decide +kernel
theorem dX2_b_1 : decode cX2_b 1 = .ok (.bipush 100, 2) := by decide +kernel
theorem dX2_b_3 : decode cX2_b 3 = .ok (.idiv, 1) := by decide +kernel
theorem dX2_b_4 : decode cX2_b 4 = .ok (.bipush 10, 2) := by decide +kernel
theorem dX2_b_6 : decode cX2_b 6 = .ok (.irem, 1) := by decide +kernel
theorem dX2_b_7 : decode cX2_b 7 = .ok (.ireturn, 1) := by decide +kernel
theorem dX2_c_0 : decode cX2_c 0 = .ok (.iload_n 0, 1) := by decide +kernel
theorem dX2_c_1 : decode cX2_c 1 = .ok (.sipush 1000, 3) := by decide +kernel
theorem dX2_c_4 : decode cX2_c 4 = .ok (.idiv, 1) := by decide +kernel
theorem dX2_c_5 : decode cX2_c 5 = .ok (.bipush 10, 2) := by decide +kernel
theorem dX2_c_7 : decode cX2_c 7 = .ok (.irem, 1) := by decide +kernel
theorem dX2_c_8 : decode cX2_c 8 = .ok (.ireturn, 1) := by decide +kernel
theorem dX2_wireBits_0 : decode cX2_wireBits 0 = .ok (.iload_n 0, 1) := by decide +kernel
theorem dX2_wireBits_1 : decode cX2_wireBits 1 = .ok (.invokestatic 15, 3) := by decide +kernel
theorem dX2_wireBits_4 : decode cX2_wireBits 4 = .ok (.invokestatic 11, 3) := by decide +kernel
theorem dX2_wireBits_7 : decode cX2_wireBits 7 = .ok (.istore_n 1, 1) := by decide +kernel
theorem dX2_wireBits_8 : decode cX2_wireBits 8 = .ok (.iconst 1, 1) := by decide +kernel
theorem dX2_wireBits_9 : decode cX2_wireBits 9 = .ok (.iload_n 0, 1) := by decide +kernel
theorem dX2_wireBits_10 : decode cX2_wireBits 10 = .ok (.invokestatic 18, 3) := by decide +kernel
theorem dX2_wireBits_13 : decode cX2_wireBits 13 = .ok (.ishl, 1) := by decide +kernel
theorem dX2_wireBits_14 : decode cX2_wireBits 14 = .ok (.iload_n 1, 1) := by decide +kernel
theorem dX2_wireBits_15 : decode cX2_wireBits 15 = .ok (.iconst 2, 1) := by decide +kernel
theorem dX2_wireBits_16 : decode cX2_wireBits 16 = .ok (.if_icmp .lt 12, 3) := by decide +kernel
theorem dX2_wireBits_19 : decode cX2_wireBits 19 = .ok (.iconst 1, 1) := by decide +kernel
theorem dX2_wireBits_20 : decode cX2_wireBits 20 = .ok (.iload_n 0, 1) := by decide +kernel
theorem dX2_wireBits_21 : decode cX2_wireBits 21 = .ok (.invokestatic 21, 3) := by decide +kernel
theorem dX2_wireBits_24 : decode cX2_wireBits 24 = .ok (.ishl, 1) := by decide +kernel
theorem dX2_wireBits_25 : decode cX2_wireBits 25 = .ok (.goto 4, 3) := by decide +kernel
theorem dX2_wireBits_28 : decode cX2_wireBits 28 = .ok (.iconst 0, 1) := by decide +kernel
theorem dX2_wireBits_29 : decode cX2_wireBits 29 = .ok (.ior, 1) := by decide +kernel
theorem dX2_wireBits_30 : decode cX2_wireBits 30 = .ok (.iload_n 1, 1) := by decide +kernel
theorem dX2_wireBits_31 : decode cX2_wireBits 31 = .ok (.iconst 3, 1) := by decide +kernel
theorem dX2_wireBits_32 : decode cX2_wireBits 32 = .ok (.if_icmp .lt 12, 3) := by decide +kernel
theorem dX2_wireBits_35 : decode cX2_wireBits 35 = .ok (.iconst 1, 1) := by decide +kernel
theorem dX2_wireBits_36 : decode cX2_wireBits 36 = .ok (.iload_n 0, 1) := by decide +kernel
theorem dX2_wireBits_37 : decode cX2_wireBits 37 = .ok (.invokestatic 24, 3) := by decide +kernel
theorem dX2_wireBits_40 : decode cX2_wireBits 40 = .ok (.ishl, 1) := by decide +kernel
theorem dX2_wireBits_41 : decode cX2_wireBits 41 = .ok (.goto 4, 3) := by decide +kernel
theorem dX2_wireBits_44 : decode cX2_wireBits 44 = .ok (.iconst 0, 1) := by decide +kernel
theorem dX2_wireBits_45 : decode cX2_wireBits 45 = .ok (.ior, 1) := by decide +kernel
theorem dX2_wireBits_46 : decode cX2_wireBits 46 = .ok (.ireturn, 1) := by decide +kernel
theorem dX2_flips_0 : decode cX2_flips 0 = .ok (.iload_n 0, 1) := by decide +kernel
theorem dX2_flips_1 : decode cX2_flips 1 = .ok (.invokestatic 15, 3) := by decide +kernel
theorem dX2_flips_4 : decode cX2_flips 4 = .ok (.istore_n 1, 1) := by decide +kernel
theorem dX2_flips_5 : decode cX2_flips 5 = .ok (.iload_n 1, 1) := by decide +kernel
theorem dX2_flips_6 : decode cX2_flips 6 = .ok (.iconst 4, 1) := by decide +kernel
theorem dX2_flips_7 : decode cX2_flips 7 = .ok (.if_icmp .eq 15, 3) := by decide +kernel
theorem dX2_flips_10 : decode cX2_flips 10 = .ok (.iload_n 1, 1) := by decide +kernel
theorem dX2_flips_11 : decode cX2_flips 11 = .ok (.bipush 6, 2) := by decide +kernel
theorem dX2_flips_13 : decode cX2_flips 13 = .ok (.if_icmp .eq 9, 3) := by decide +kernel
theorem dX2_flips_16 : decode cX2_flips 16 = .ok (.iload_n 1, 1) := by decide +kernel
theorem dX2_flips_17 : decode cX2_flips 17 = .ok (.bipush 9, 2) := by decide +kernel
theorem dX2_flips_19 : decode cX2_flips 19 = .ok (.if_icmp .ne 7, 3) := by decide +kernel
theorem dX2_flips_22 : decode cX2_flips 22 = .ok (.iconst 1, 1) := by decide +kernel
theorem dX2_flips_23 : decode cX2_flips 23 = .ok (.goto 4, 3) := by decide +kernel
theorem dX2_flips_26 : decode cX2_flips 26 = .ok (.iconst 0, 1) := by decide +kernel
theorem dX2_flips_27 : decode cX2_flips 27 = .ok (.ireturn, 1) := by decide +kernel
theorem dX2_targetBit_0 : decode cX2_targetBit 0 = .ok (.iload_n 0, 1) := by decide +kernel
theorem dX2_targetBit_1 : decode cX2_targetBit 1 = .ok (.invokestatic 15, 3) := by decide +kernel
theorem dX2_targetBit_4 : decode cX2_targetBit 4 = .ok (.istore_n 1, 1) := by decide +kernel
theorem dX2_targetBit_5 : decode cX2_targetBit 5 = .ok (.iload_n 1, 1) := by decide +kernel
theorem dX2_targetBit_6 : decode cX2_targetBit 6 = .ok (.bipush 9, 2) := by decide +kernel
theorem dX2_targetBit_8 : decode cX2_targetBit 8 = .ok (.if_icmp .ne 10, 3) := by decide +kernel
theorem dX2_targetBit_11 : decode cX2_targetBit 11 = .ok (.iconst 1, 1) := by decide +kernel
theorem dX2_targetBit_12 : decode cX2_targetBit 12 = .ok (.iload_n 0, 1) := by decide +kernel
theorem dX2_targetBit_13 : decode cX2_targetBit 13 = .ok (.invokestatic 24, 3) := by decide +kernel
theorem dX2_targetBit_16 : decode cX2_targetBit 16 = .ok (.ishl, 1) := by decide +kernel
theorem dX2_targetBit_17 : decode cX2_targetBit 17 = .ok (.ireturn, 1) := by decide +kernel
theorem dX2_targetBit_18 : decode cX2_targetBit 18 = .ok (.iload_n 1, 1) := by decide +kernel
theorem dX2_targetBit_19 : decode cX2_targetBit 19 = .ok (.bipush 6, 2) := by decide +kernel
theorem dX2_targetBit_21 : decode cX2_targetBit 21 = .ok (.if_icmp .ne 12, 3) := by decide +kernel
theorem dX2_targetBit_24 : decode cX2_targetBit 24 = .ok (.iconst 1, 1) := by decide +kernel
theorem dX2_targetBit_25 : decode cX2_targetBit 25 = .ok (.iload_n 0, 1) := by decide +kernel
theorem dX2_targetBit_26 : decode cX2_targetBit 26 = .ok (.invokestatic 21, 3) := by decide +kernel
theorem dX2_targetBit_29 : decode cX2_targetBit 29 = .ok (.ishl, 1) := by decide +kernel
theorem dX2_targetBit_30 : decode cX2_targetBit 30 = .ok (.goto 9, 3) := by decide +kernel
theorem dX2_targetBit_33 : decode cX2_targetBit 33 = .ok (.iconst 1, 1) := by decide +kernel
theorem dX2_targetBit_34 : decode cX2_targetBit 34 = .ok (.iload_n 0, 1) := by decide +kernel
theorem dX2_targetBit_35 : decode cX2_targetBit 35 = .ok (.invokestatic 18, 3) := by decide +kernel
theorem dX2_targetBit_38 : decode cX2_targetBit 38 = .ok (.ishl, 1) := by decide +kernel
theorem dX2_targetBit_39 : decode cX2_targetBit 39 = .ok (.ireturn, 1) := by decide +kernel
theorem dX2_controlBits_0 : decode cX2_controlBits 0 = .ok (.iload_n 0, 1) := by decide +kernel
theorem dX2_controlBits_1 : decode cX2_controlBits 1 = .ok (.invokestatic 15, 3) := by decide +kernel
theorem dX2_controlBits_4 : decode cX2_controlBits 4 = .ok (.istore_n 1, 1) := by decide +kernel
theorem dX2_controlBits_5 : decode cX2_controlBits 5 = .ok (.iload_n 1, 1) := by decide +kernel
theorem dX2_controlBits_6 : decode cX2_controlBits 6 = .ok (.bipush 9, 2) := by decide +kernel
theorem dX2_controlBits_8 : decode cX2_controlBits 8 = .ok (.if_icmp .ne 17, 3) := by decide +kernel
theorem dX2_controlBits_11 : decode cX2_controlBits 11 = .ok (.iconst 1, 1) := by decide +kernel
theorem dX2_controlBits_12 : decode cX2_controlBits 12 = .ok (.iload_n 0, 1) := by decide +kernel
theorem dX2_controlBits_13 : decode cX2_controlBits 13 = .ok (.invokestatic 18, 3) := by decide +kernel
theorem dX2_controlBits_16 : decode cX2_controlBits 16 = .ok (.ishl, 1) := by decide +kernel
theorem dX2_controlBits_17 : decode cX2_controlBits 17 = .ok (.iconst 1, 1) := by decide +kernel
theorem dX2_controlBits_18 : decode cX2_controlBits 18 = .ok (.iload_n 0, 1) := by decide +kernel
theorem dX2_controlBits_19 : decode cX2_controlBits 19 = .ok (.invokestatic 21, 3) := by decide +kernel
theorem dX2_controlBits_22 : decode cX2_controlBits 22 = .ok (.ishl, 1) := by decide +kernel
theorem dX2_controlBits_23 : decode cX2_controlBits 23 = .ok (.ior, 1) := by decide +kernel
theorem dX2_controlBits_24 : decode cX2_controlBits 24 = .ok (.ireturn, 1) := by decide +kernel
theorem dX2_controlBits_25 : decode cX2_controlBits 25 = .ok (.iload_n 1, 1) := by decide +kernel
theorem dX2_controlBits_26 : decode cX2_controlBits 26 = .ok (.bipush 6, 2) := by decide +kernel
theorem dX2_controlBits_28 : decode cX2_controlBits 28 = .ok (.if_icmp .ne 12, 3) := by decide +kernel
theorem dX2_controlBits_31 : decode cX2_controlBits 31 = .ok (.iconst 1, 1) := by decide +kernel
theorem dX2_controlBits_32 : decode cX2_controlBits 32 = .ok (.iload_n 0, 1) := by decide +kernel
theorem dX2_controlBits_33 : decode cX2_controlBits 33 = .ok (.invokestatic 18, 3) := by decide +kernel
theorem dX2_controlBits_36 : decode cX2_controlBits 36 = .ok (.ishl, 1) := by decide +kernel
theorem dX2_controlBits_37 : decode cX2_controlBits 37 = .ok (.goto 4, 3) := by decide +kernel
theorem dX2_controlBits_40 : decode cX2_controlBits 40 = .ok (.iconst 0, 1) := by decide +kernel
theorem dX2_controlBits_41 : decode cX2_controlBits 41 = .ok (.ireturn, 1) := by decide +kernel
theorem dX2_turns_0 : decode cX2_turns 0 = .ok (.iload_n 0, 1) := by decide +kernel
theorem dX2_turns_1 : decode cX2_turns 1 = .ok (.invokestatic 15, 3) := by decide +kernel
theorem dX2_turns_4 : decode cX2_turns 4 = .ok (.istore_n 1, 1) := by decide +kernel
theorem dX2_turns_5 : decode cX2_turns 5 = .ok (.iload_n 1, 1) := by decide +kernel
theorem dX2_turns_6 : decode cX2_turns 6 = .ok (.iconst 3, 1) := by decide +kernel
theorem dX2_turns_7 : decode cX2_turns 7 = .ok (.if_icmp .ne 5, 3) := by decide +kernel
theorem dX2_turns_10 : decode cX2_turns 10 = .ok (.iconst 1, 1) := by decide +kernel
theorem dX2_turns_11 : decode cX2_turns 11 = .ok (.ireturn, 1) := by decide +kernel
theorem dX2_turns_12 : decode cX2_turns 12 = .ok (.iload_n 1, 1) := by decide +kernel
theorem dX2_turns_13 : decode cX2_turns 13 = .ok (.iconst 2, 1) := by decide +kernel
theorem dX2_turns_14 : decode cX2_turns 14 = .ok (.if_icmp .ne 5, 3) := by decide +kernel
theorem dX2_turns_17 : decode cX2_turns 17 = .ok (.iconst 2, 1) := by decide +kernel
theorem dX2_turns_18 : decode cX2_turns 18 = .ok (.ireturn, 1) := by decide +kernel
theorem dX2_turns_19 : decode cX2_turns 19 = .ok (.iload_n 1, 1) := by decide +kernel
theorem dX2_turns_20 : decode cX2_turns 20 = .ok (.iconst 5, 1) := by decide +kernel
theorem dX2_turns_21 : decode cX2_turns 21 = .ok (.if_icmp .ne 7, 3) := by decide +kernel
theorem dX2_turns_24 : decode cX2_turns 24 = .ok (.iconst 4, 1) := by decide +kernel
theorem dX2_turns_25 : decode cX2_turns 25 = .ok (.goto 4, 3) := by decide +kernel
theorem dX2_turns_28 : decode cX2_turns 28 = .ok (.iconst 0, 1) := by decide +kernel
theorem dX2_turns_29 : decode cX2_turns 29 = .ok (.ireturn, 1) := by decide +kernel
theorem dX2_meet_0 : decode cX2_meet 0 = .ok (.iload_n 0, 1) := by decide +kernel
theorem dX2_meet_1 : decode cX2_meet 1 = .ok (.invokestatic 15, 3) := by decide +kernel
theorem dX2_meet_4 : decode cX2_meet 4 = .ok (.istore_n 2, 1) := by decide +kernel
theorem dX2_meet_5 : decode cX2_meet 5 = .ok (.iload_n 2, 1) := by decide +kernel
theorem dX2_meet_6 : decode cX2_meet 6 = .ok (.iload_n 1, 1) := by decide +kernel
theorem dX2_meet_7 : decode cX2_meet 7 = .ok (.invokestatic 15, 3) := by decide +kernel
theorem dX2_meet_10 : decode cX2_meet 10 = .ok (.if_icmp .eq 5, 3) := by decide +kernel
theorem dX2_meet_13 : decode cX2_meet 13 = .ok (.iconst 0, 1) := by decide +kernel
theorem dX2_meet_14 : decode cX2_meet 14 = .ok (.ireturn, 1) := by decide +kernel
theorem dX2_meet_15 : decode cX2_meet 15 = .ok (.iload_n 2, 1) := by decide +kernel
theorem dX2_meet_16 : decode cX2_meet 16 = .ok (.bipush 7, 2) := by decide +kernel
theorem dX2_meet_18 : decode cX2_meet 18 = .ok (.if_icmp .eq 9, 3) := by decide +kernel
theorem dX2_meet_21 : decode cX2_meet 21 = .ok (.iload_n 2, 1) := by decide +kernel
theorem dX2_meet_22 : decode cX2_meet 22 = .ok (.bipush 8, 2) := by decide +kernel
theorem dX2_meet_24 : decode cX2_meet 24 = .ok (.if_icmp .ne 20, 3) := by decide +kernel
theorem dX2_meet_27 : decode cX2_meet 27 = .ok (.iload_n 0, 1) := by decide +kernel
theorem dX2_meet_28 : decode cX2_meet 28 = .ok (.invokestatic 27, 3) := by decide +kernel
theorem dX2_meet_31 : decode cX2_meet 31 = .ok (.iload_n 1, 1) := by decide +kernel
theorem dX2_meet_32 : decode cX2_meet 32 = .ok (.invokestatic 27, 3) := by decide +kernel
theorem dX2_meet_35 : decode cX2_meet 35 = .ok (.if_icmp .ne 7, 3) := by decide +kernel
theorem dX2_meet_38 : decode cX2_meet 38 = .ok (.iconst 1, 1) := by decide +kernel
theorem dX2_meet_39 : decode cX2_meet 39 = .ok (.goto 4, 3) := by decide +kernel
theorem dX2_meet_42 : decode cX2_meet 42 = .ok (.iconst 0, 1) := by decide +kernel
theorem dX2_meet_43 : decode cX2_meet 43 = .ok (.ireturn, 1) := by decide +kernel
theorem dX2_meet_44 : decode cX2_meet 44 = .ok (.iload_n 2, 1) := by decide +kernel
theorem dX2_meet_45 : decode cX2_meet 45 = .ok (.bipush 9, 2) := by decide +kernel
theorem dX2_meet_47 : decode cX2_meet 47 = .ok (.if_icmp .ne 31, 3) := by decide +kernel
theorem dX2_meet_50 : decode cX2_meet 50 = .ok (.iload_n 0, 1) := by decide +kernel
theorem dX2_meet_51 : decode cX2_meet 51 = .ok (.invokestatic 24, 3) := by decide +kernel
theorem dX2_meet_54 : decode cX2_meet 54 = .ok (.iload_n 1, 1) := by decide +kernel
theorem dX2_meet_55 : decode cX2_meet 55 = .ok (.invokestatic 24, 3) := by decide +kernel
theorem dX2_meet_58 : decode cX2_meet 58 = .ok (.if_icmp .ne 18, 3) := by decide +kernel
theorem dX2_meet_61 : decode cX2_meet 61 = .ok (.iload_n 0, 1) := by decide +kernel
theorem dX2_meet_62 : decode cX2_meet 62 = .ok (.invokestatic 27, 3) := by decide +kernel
theorem dX2_meet_65 : decode cX2_meet 65 = .ok (.iload_n 1, 1) := by decide +kernel
theorem dX2_meet_66 : decode cX2_meet 66 = .ok (.invokestatic 27, 3) := by decide +kernel
theorem dX2_meet_69 : decode cX2_meet 69 = .ok (.if_icmp .ne 7, 3) := by decide +kernel
theorem dX2_meet_72 : decode cX2_meet 72 = .ok (.iconst 1, 1) := by decide +kernel
theorem dX2_meet_73 : decode cX2_meet 73 = .ok (.goto 4, 3) := by decide +kernel
theorem dX2_meet_76 : decode cX2_meet 76 = .ok (.iconst 0, 1) := by decide +kernel
theorem dX2_meet_77 : decode cX2_meet 77 = .ok (.ireturn, 1) := by decide +kernel
theorem dX2_meet_78 : decode cX2_meet 78 = .ok (.iload_n 0, 1) := by decide +kernel
theorem dX2_meet_79 : decode cX2_meet 79 = .ok (.iload_n 1, 1) := by decide +kernel
theorem dX2_meet_80 : decode cX2_meet 80 = .ok (.if_icmp .ne 7, 3) := by decide +kernel
theorem dX2_meet_83 : decode cX2_meet 83 = .ok (.iconst 1, 1) := by decide +kernel
theorem dX2_meet_84 : decode cX2_meet 84 = .ok (.goto 4, 3) := by decide +kernel
theorem dX2_meet_87 : decode cX2_meet 87 = .ok (.iconst 0, 1) := by decide +kernel
theorem dX2_meet_88 : decode cX2_meet 88 = .ok (.ireturn, 1) := by decide +kernel
theorem dX2_united_0 : decode cX2_united 0 = .ok (.iload_n 0, 1) := by decide +kernel
theorem dX2_united_1 : decode cX2_united 1 = .ok (.invokestatic 15, 3) := by decide +kernel
theorem dX2_united_4 : decode cX2_united 4 = .ok (.istore_n 1, 1) := by decide +kernel
theorem dX2_united_5 : decode cX2_united 5 = .ok (.iload_n 1, 1) := by decide +kernel
theorem dX2_united_6 : decode cX2_united 6 = .ok (.iconst 3, 1) := by decide +kernel
theorem dX2_united_7 : decode cX2_united 7 = .ok (.if_icmp .ne 14, 3) := by decide +kernel
theorem dX2_united_10 : decode cX2_united 10 = .ok (.iconst 2, 1) := by decide +kernel
theorem dX2_united_11 : decode cX2_united 11 = .ok (.iload_n 0, 1) := by decide +kernel
theorem dX2_united_12 : decode cX2_united 12 = .ok (.invokestatic 18, 3) := by decide +kernel
theorem dX2_united_15 : decode cX2_united 15 = .ok (.iconst 0, 1) := by decide +kernel
theorem dX2_united_16 : decode cX2_united 16 = .ok (.iconst 0, 1) := by decide +kernel
theorem dX2_united_17 : decode cX2_united 17 = .ok (.invokestatic 30, 3) := by decide +kernel
theorem dX2_united_20 : decode cX2_united 20 = .ok (.ireturn, 1) := by decide +kernel
theorem dX2_united_21 : decode cX2_united 21 = .ok (.iload_n 1, 1) := by decide +kernel
theorem dX2_united_22 : decode cX2_united 22 = .ok (.iconst 2, 1) := by decide +kernel
theorem dX2_united_23 : decode cX2_united 23 = .ok (.if_icmp .ne 16, 3) := by decide +kernel
theorem dX2_united_26 : decode cX2_united 26 = .ok (.iconst 5, 1) := by decide +kernel
theorem dX2_united_27 : decode cX2_united 27 = .ok (.iload_n 0, 1) := by decide +kernel
theorem dX2_united_28 : decode cX2_united 28 = .ok (.invokestatic 18, 3) := by decide +kernel
theorem dX2_united_31 : decode cX2_united 31 = .ok (.iconst 0, 1) := by decide +kernel
theorem dX2_united_32 : decode cX2_united 32 = .ok (.iconst 0, 1) := by decide +kernel
theorem dX2_united_33 : decode cX2_united 33 = .ok (.invokestatic 30, 3) := by decide +kernel
theorem dX2_united_36 : decode cX2_united 36 = .ok (.goto 4, 3) := by decide +kernel
theorem dX2_united_39 : decode cX2_united 39 = .ok (.iconst (-1), 1) := by decide +kernel
theorem dX2_united_40 : decode cX2_united 40 = .ok (.ireturn, 1) := by decide +kernel
theorem dX2_pass_0 : decode cX2_pass 0 = .ok (.iload_n 0, 1) := by decide +kernel
theorem dX2_pass_1 : decode cX2_pass 1 = .ok (.invokestatic 27, 3) := by decide +kernel
theorem dX2_pass_4 : decode cX2_pass 4 = .ok (.iload_n 1, 1) := by decide +kernel
theorem dX2_pass_5 : decode cX2_pass 5 = .ok (.invokestatic 27, 3) := by decide +kernel
theorem dX2_pass_8 : decode cX2_pass 8 = .ok (.iand, 1) := by decide +kernel
theorem dX2_pass_9 : decode cX2_pass 9 = .ok (.ifCond .ne 5, 3) := by decide +kernel
theorem dX2_pass_12 : decode cX2_pass 12 = .ok (.iconst 1, 1) := by decide +kernel
theorem dX2_pass_13 : decode cX2_pass 13 = .ok (.ireturn, 1) := by decide +kernel
theorem dX2_pass_14 : decode cX2_pass 14 = .ok (.iload_n 0, 1) := by decide +kernel
theorem dX2_pass_15 : decode cX2_pass 15 = .ok (.invokestatic 34, 3) := by decide +kernel
theorem dX2_pass_18 : decode cX2_pass 18 = .ok (.ifCond .eq 12, 3) := by decide +kernel
theorem dX2_pass_21 : decode cX2_pass 21 = .ok (.iload_n 1, 1) := by decide +kernel
theorem dX2_pass_22 : decode cX2_pass 22 = .ok (.invokestatic 34, 3) := by decide +kernel
theorem dX2_pass_25 : decode cX2_pass 25 = .ok (.ifCond .eq 5, 3) := by decide +kernel
theorem dX2_pass_28 : decode cX2_pass 28 = .ok (.iconst 1, 1) := by decide +kernel
theorem dX2_pass_29 : decode cX2_pass 29 = .ok (.ireturn, 1) := by decide +kernel
theorem dX2_pass_30 : decode cX2_pass 30 = .ok (.iload_n 0, 1) := by decide +kernel
theorem dX2_pass_31 : decode cX2_pass 31 = .ok (.iload_n 1, 1) := by decide +kernel
theorem dX2_pass_32 : decode cX2_pass 32 = .ok (.invokestatic 38, 3) := by decide +kernel
theorem dX2_pass_35 : decode cX2_pass 35 = .ok (.ifCond .ne 11, 3) := by decide +kernel
theorem dX2_pass_38 : decode cX2_pass 38 = .ok (.iload_n 1, 1) := by decide +kernel
theorem dX2_pass_39 : decode cX2_pass 39 = .ok (.iload_n 0, 1) := by decide +kernel
theorem dX2_pass_40 : decode cX2_pass 40 = .ok (.invokestatic 38, 3) := by decide +kernel
theorem dX2_pass_43 : decode cX2_pass 43 = .ok (.ifCond .eq 7, 3) := by decide +kernel
theorem dX2_pass_46 : decode cX2_pass 46 = .ok (.iconst 1, 1) := by decide +kernel
theorem dX2_pass_47 : decode cX2_pass 47 = .ok (.goto 4, 3) := by decide +kernel
theorem dX2_pass_50 : decode cX2_pass 50 = .ok (.iconst 0, 1) := by decide +kernel
theorem dX2_pass_51 : decode cX2_pass 51 = .ok (.ireturn, 1) := by decide +kernel
theorem dX2_onlyTurns_0 : decode cX2_onlyTurns 0 = .ok (.iload_n 0, 1) := by decide +kernel
theorem dX2_onlyTurns_1 : decode cX2_onlyTurns 1 = .ok (.invokestatic 42, 3) := by decide +kernel
theorem dX2_onlyTurns_4 : decode cX2_onlyTurns 4 = .ok (.ifCond .gt 12, 3) := by decide +kernel
theorem dX2_onlyTurns_7 : decode cX2_onlyTurns 7 = .ok (.iload_n 0, 1) := by decide +kernel
theorem dX2_onlyTurns_8 : decode cX2_onlyTurns 8 = .ok (.invokestatic 15, 3) := by decide +kernel
theorem dX2_onlyTurns_11 : decode cX2_onlyTurns 11 = .ok (.bipush 7, 2) := by decide +kernel
theorem dX2_onlyTurns_13 : decode cX2_onlyTurns 13 = .ok (.if_icmp .ne 7, 3) := by decide +kernel
theorem dX2_onlyTurns_16 : decode cX2_onlyTurns 16 = .ok (.iconst 1, 1) := by decide +kernel
theorem dX2_onlyTurns_17 : decode cX2_onlyTurns 17 = .ok (.goto 4, 3) := by decide +kernel
theorem dX2_onlyTurns_20 : decode cX2_onlyTurns 20 = .ok (.iconst 0, 1) := by decide +kernel
theorem dX2_onlyTurns_21 : decode cX2_onlyTurns 21 = .ok (.ireturn, 1) := by decide +kernel
theorem dX2_slipsBy_0 : decode cX2_slipsBy 0 = .ok (.iload_n 1, 1) := by decide +kernel
theorem dX2_slipsBy_1 : decode cX2_slipsBy 1 = .ok (.invokestatic 15, 3) := by decide +kernel
theorem dX2_slipsBy_4 : decode cX2_slipsBy 4 = .ok (.istore_n 2, 1) := by decide +kernel
theorem dX2_slipsBy_5 : decode cX2_slipsBy 5 = .ok (.iload_n 2, 1) := by decide +kernel
theorem dX2_slipsBy_6 : decode cX2_slipsBy 6 = .ok (.bipush 6, 2) := by decide +kernel
theorem dX2_slipsBy_8 : decode cX2_slipsBy 8 = .ok (.if_icmp .eq 11, 3) := by decide +kernel
theorem dX2_slipsBy_11 : decode cX2_slipsBy 11 = .ok (.iload_n 2, 1) := by decide +kernel
theorem dX2_slipsBy_12 : decode cX2_slipsBy 12 = .ok (.bipush 9, 2) := by decide +kernel
theorem dX2_slipsBy_14 : decode cX2_slipsBy 14 = .ok (.if_icmp .eq 5, 3) := by decide +kernel
theorem dX2_slipsBy_17 : decode cX2_slipsBy 17 = .ok (.iconst 0, 1) := by decide +kernel
theorem dX2_slipsBy_18 : decode cX2_slipsBy 18 = .ok (.ireturn, 1) := by decide +kernel
theorem dX2_slipsBy_19 : decode cX2_slipsBy 19 = .ok (.iload_n 0, 1) := by decide +kernel
theorem dX2_slipsBy_20 : decode cX2_slipsBy 20 = .ok (.invokestatic 42, 3) := by decide +kernel
theorem dX2_slipsBy_23 : decode cX2_slipsBy 23 = .ok (.ifCond .le 21, 3) := by decide +kernel
theorem dX2_slipsBy_26 : decode cX2_slipsBy 26 = .ok (.iload_n 1, 1) := by decide +kernel
theorem dX2_slipsBy_27 : decode cX2_slipsBy 27 = .ok (.invokestatic 45, 3) := by decide +kernel
theorem dX2_slipsBy_30 : decode cX2_slipsBy 30 = .ok (.iload_n 0, 1) := by decide +kernel
theorem dX2_slipsBy_31 : decode cX2_slipsBy 31 = .ok (.invokestatic 27, 3) := by decide +kernel
theorem dX2_slipsBy_34 : decode cX2_slipsBy 34 = .ok (.iand, 1) := by decide +kernel
theorem dX2_slipsBy_35 : decode cX2_slipsBy 35 = .ok (.ifCond .eq 7, 3) := by decide +kernel
theorem dX2_slipsBy_38 : decode cX2_slipsBy 38 = .ok (.iconst 1, 1) := by decide +kernel
theorem dX2_slipsBy_39 : decode cX2_slipsBy 39 = .ok (.goto 4, 3) := by decide +kernel
theorem dX2_slipsBy_42 : decode cX2_slipsBy 42 = .ok (.iconst 0, 1) := by decide +kernel
theorem dX2_slipsBy_43 : decode cX2_slipsBy 43 = .ok (.ireturn, 1) := by decide +kernel
theorem dX2_slipsBy_44 : decode cX2_slipsBy 44 = .ok (.iload_n 0, 1) := by decide +kernel
theorem dX2_slipsBy_45 : decode cX2_slipsBy 45 = .ok (.invokestatic 15, 3) := by decide +kernel
theorem dX2_slipsBy_48 : decode cX2_slipsBy 48 = .ok (.iconst 4, 1) := by decide +kernel
theorem dX2_slipsBy_49 : decode cX2_slipsBy 49 = .ok (.if_icmp .ne 18, 3) := by decide +kernel
theorem dX2_slipsBy_52 : decode cX2_slipsBy 52 = .ok (.iload_n 1, 1) := by decide +kernel
theorem dX2_slipsBy_53 : decode cX2_slipsBy 53 = .ok (.invokestatic 48, 3) := by decide +kernel
theorem dX2_slipsBy_56 : decode cX2_slipsBy 56 = .ok (.iload_n 0, 1) := by decide +kernel
theorem dX2_slipsBy_57 : decode cX2_slipsBy 57 = .ok (.invokestatic 27, 3) := by decide +kernel
theorem dX2_slipsBy_60 : decode cX2_slipsBy 60 = .ok (.if_icmp .ne 7, 3) := by decide +kernel
theorem dX2_slipsBy_63 : decode cX2_slipsBy 63 = .ok (.iconst 1, 1) := by decide +kernel
theorem dX2_slipsBy_64 : decode cX2_slipsBy 64 = .ok (.goto 4, 3) := by decide +kernel
theorem dX2_slipsBy_67 : decode cX2_slipsBy 67 = .ok (.iconst 0, 1) := by decide +kernel
theorem dX2_slipsBy_68 : decode cX2_slipsBy 68 = .ok (.ireturn, 1) := by decide +kernel
theorem dX3_init_0 : decode cX3_init 0 = .ok (.aload_n 0, 1) := by decide +kernel
theorem dX3_init_1 : decode cX3_init 1 = .ok (.invokespecial 3, 3) := by decide +kernel
theorem dX3_init_4 : decode cX3_init 4 = .ok (.aload_n 0, 1) := by decide +kernel
theorem dX3_init_5 : decode cX3_init 5 = .ok (.bipush 64, 2) := by decide +kernel
theorem dX3_init_7 : decode cX3_init 7 = .ok (.newarray .int, 2) := by decide +kernel
theorem dX3_init_9 : decode cX3_init 9 = .ok (.putfield 9, 3) := by decide +kernel
theorem dX3_init_12 : decode cX3_init 12 = .ok (.aload_n 0, 1) := by decide +kernel
theorem dX3_init_13 : decode cX3_init 13 = .ok (.iconst 0, 1) := by decide +kernel
theorem dX3_init_14 : decode cX3_init 14 = .ok (.putfield 15, 3) := by decide +kernel
theorem dX3_init_17 : decode cX3_init 17 = .ok (.aload_n 0, 1) := by decide +kernel
theorem dX3_init_18 : decode cX3_init 18 = .ok (.bipush 12, 2) := by decide +kernel
theorem dX3_init_20 : decode cX3_init 20 = .ok (.putfield 19, 3) := by decide +kernel
theorem dX3_init_23 : decode cX3_init 23 = .ok (.aload_n 0, 1) := by decide +kernel
theorem dX3_init_24 : decode cX3_init 24 = .ok (.iconst 1, 1) := by decide +kernel
theorem dX3_init_25 : decode cX3_init 25 = .ok (.putfield 22, 3) := by decide +kernel
theorem dX3_init_28 : decode cX3_init 28 = .ok (.return_, 1) := by decide +kernel
theorem dX3_take_0 : decode cX3_take 0 = .ok (.aload_n 0, 1) := by decide +kernel
theorem dX3_take_1 : decode cX3_take 1 = .ok (.iconst 0, 1) := by decide +kernel
theorem dX3_take_2 : decode cX3_take 2 = .ok (.putfield 15, 3) := by decide +kernel
theorem dX3_take_5 : decode cX3_take 5 = .ok (.aload_n 0, 1) := by decide +kernel
theorem dX3_take_6 : decode cX3_take 6 = .ok (.bipush 12, 2) := by decide +kernel
theorem dX3_take_8 : decode cX3_take 8 = .ok (.putfield 19, 3) := by decide +kernel
theorem dX3_take_11 : decode cX3_take 11 = .ok (.aload_n 1, 1) := by decide +kernel
theorem dX3_take_12 : decode cX3_take 12 = .ok (.invokevirtual 25, 3) := by decide +kernel
theorem dX3_take_15 : decode cX3_take 15 = .ok (.iconst 1, 1) := by decide +kernel
theorem dX3_take_16 : decode cX3_take 16 = .ok (.isub, 1) := by decide +kernel
theorem dX3_take_17 : decode cX3_take 17 = .ok (.istore_n 2, 1) := by decide +kernel
theorem dX3_take_18 : decode cX3_take 18 = .ok (.iload_n 2, 1) := by decide +kernel
theorem dX3_take_19 : decode cX3_take 19 = .ok (.ifCond .lt 45, 3) := by decide +kernel
theorem dX3_take_22 : decode cX3_take 22 = .ok (.aload_n 1, 1) := by decide +kernel
theorem dX3_take_23 : decode cX3_take 23 = .ok (.iload_n 2, 1) := by decide +kernel
theorem dX3_take_24 : decode cX3_take 24 = .ok (.invokevirtual 30, 3) := by decide +kernel
theorem dX3_take_27 : decode cX3_take 27 = .ok (.invokestatic 34, 3) := by decide +kernel
theorem dX3_take_30 : decode cX3_take 30 = .ok (.istore_n 3, 1) := by decide +kernel
theorem dX3_take_31 : decode cX3_take 31 = .ok (.iload_n 3, 1) := by decide +kernel
theorem dX3_take_32 : decode cX3_take 32 = .ok (.iconst 3, 1) := by decide +kernel
theorem dX3_take_33 : decode cX3_take 33 = .ok (.if_icmp .ne 10, 3) := by decide +kernel
theorem dX3_take_36 : decode cX3_take 36 = .ok (.aload_n 0, 1) := by decide +kernel
theorem dX3_take_37 : decode cX3_take 37 = .ok (.invokevirtual 39, 3) := by decide +kernel
theorem dX3_take_40 : decode cX3_take 40 = .ok (.goto 18, 3) := by decide +kernel
theorem dX3_take_43 : decode cX3_take 43 = .ok (.aload_n 0, 1) := by decide +kernel
theorem dX3_take_44 : decode cX3_take 44 = .ok (.aload_n 0, 1) := by decide +kernel
theorem dX3_take_45 : decode cX3_take 45 = .ok (.getfield 19, 3) := by decide +kernel
theorem dX3_take_48 : decode cX3_take 48 = .ok (.iload_n 3, 1) := by decide +kernel
theorem dX3_take_49 : decode cX3_take 49 = .ok (.invokestatic 42, 3) := by decide +kernel
theorem dX3_take_52 : decode cX3_take 52 = .ok (.invokestatic 45, 3) := by decide +kernel
theorem dX3_take_55 : decode cX3_take 55 = .ok (.putfield 19, 3) := by decide +kernel
theorem dX3_take_58 : decode cX3_take 58 = .ok (.iinc 2 (-1), 3) := by decide +kernel
theorem dX3_take_61 : decode cX3_take 61 = .ok (.goto (-43), 3) := by decide +kernel
theorem dX3_take_64 : decode cX3_take 64 = .ok (.aload_n 0, 1) := by decide +kernel
theorem dX3_take_65 : decode cX3_take 65 = .ok (.aload_n 0, 1) := by decide +kernel
theorem dX3_take_66 : decode cX3_take 66 = .ok (.getfield 19, 3) := by decide +kernel
theorem dX3_take_69 : decode cX3_take 69 = .ok (.invokestatic 49, 3) := by decide +kernel
theorem dX3_take_72 : decode cX3_take 72 = .ok (.putfield 22, 3) := by decide +kernel
theorem dX3_take_75 : decode cX3_take 75 = .ok (.return_, 1) := by decide +kernel
theorem dX3_takeT_0 : decode cX3_takeT 0 = .ok (.aload_n 0, 1) := by decide +kernel
theorem dX3_takeT_1 : decode cX3_takeT 1 = .ok (.getfield 19, 3) := by decide +kernel
theorem dX3_takeT_4 : decode cX3_takeT 4 = .ok (.invokestatic 52, 3) := by decide +kernel
theorem dX3_takeT_7 : decode cX3_takeT 7 = .ok (.istore_n 1, 1) := by decide +kernel
theorem dX3_takeT_8 : decode cX3_takeT 8 = .ok (.iload_n 1, 1) := by decide +kernel
theorem dX3_takeT_9 : decode cX3_takeT 9 = .ok (.invokestatic 55, 3) := by decide +kernel
theorem dX3_takeT_12 : decode cX3_takeT 12 = .ok (.aload_n 0, 1) := by decide +kernel
theorem dX3_takeT_13 : decode cX3_takeT 13 = .ok (.getfield 19, 3) := by decide +kernel
theorem dX3_takeT_16 : decode cX3_takeT 16 = .ok (.invokestatic 45, 3) := by decide +kernel
theorem dX3_takeT_19 : decode cX3_takeT 19 = .ok (.istore_n 2, 1) := by decide +kernel
theorem dX3_takeT_20 : decode cX3_takeT 20 = .ok (.iload_n 2, 1) := by decide +kernel
theorem dX3_takeT_21 : decode cX3_takeT 21 = .ok (.invokestatic 58, 3) := by decide +kernel
theorem dX3_takeT_24 : decode cX3_takeT 24 = .ok (.iconst 2, 1) := by decide +kernel
theorem dX3_takeT_25 : decode cX3_takeT 25 = .ok (.if_icmp .eq 11, 3) := by decide +kernel
theorem dX3_takeT_28 : decode cX3_takeT 28 = .ok (.sipush 402, 3) := by decide +kernel
theorem dX3_takeT_31 : decode cX3_takeT 31 = .ok (.iload_n 2, 1) := by decide +kernel
theorem dX3_takeT_32 : decode cX3_takeT 32 = .ok (.invokestatic 45, 3) := by decide +kernel
theorem dX3_takeT_35 : decode cX3_takeT 35 = .ok (.istore_n 2, 1) := by decide +kernel
theorem dX3_takeT_36 : decode cX3_takeT 36 = .ok (.iload_n 1, 1) := by decide +kernel
theorem dX3_takeT_37 : decode cX3_takeT 37 = .ok (.ifCond .ne 49, 3) := by decide +kernel
theorem dX3_takeT_40 : decode cX3_takeT 40 = .ok (.aload_n 0, 1) := by decide +kernel
theorem dX3_takeT_41 : decode cX3_takeT 41 = .ok (.getfield 15, 3) := by decide +kernel
theorem dX3_takeT_44 : decode cX3_takeT 44 = .ok (.ifCond .le 42, 3) := by decide +kernel
theorem dX3_takeT_47 : decode cX3_takeT 47 = .ok (.aload_n 0, 1) := by decide +kernel
theorem dX3_takeT_48 : decode cX3_takeT 48 = .ok (.dup, 1) := by decide +kernel
theorem dX3_takeT_49 : decode cX3_takeT 49 = .ok (.getfield 15, 3) := by decide +kernel
theorem dX3_takeT_52 : decode cX3_takeT 52 = .ok (.iconst 1, 1) := by decide +kernel
theorem dX3_takeT_53 : decode cX3_takeT 53 = .ok (.isub, 1) := by decide +kernel
theorem dX3_takeT_54 : decode cX3_takeT 54 = .ok (.putfield 15, 3) := by decide +kernel
theorem dX3_takeT_57 : decode cX3_takeT 57 = .ok (.aload_n 0, 1) := by decide +kernel
theorem dX3_takeT_58 : decode cX3_takeT 58 = .ok (.aload_n 0, 1) := by decide +kernel
theorem dX3_takeT_59 : decode cX3_takeT 59 = .ok (.getfield 9, 3) := by decide +kernel
theorem dX3_takeT_62 : decode cX3_takeT 62 = .ok (.aload_n 0, 1) := by decide +kernel
theorem dX3_takeT_63 : decode cX3_takeT 63 = .ok (.getfield 15, 3) := by decide +kernel
theorem dX3_takeT_66 : decode cX3_takeT 66 = .ok (.iaload, 1) := by decide +kernel
theorem dX3_takeT_67 : decode cX3_takeT 67 = .ok (.invokestatic 61, 3) := by decide +kernel
theorem dX3_takeT_70 : decode cX3_takeT 70 = .ok (.sipush 132, 3) := by decide +kernel
theorem dX3_takeT_73 : decode cX3_takeT 73 = .ok (.invokestatic 45, 3) := by decide +kernel
theorem dX3_takeT_76 : decode cX3_takeT 76 = .ok (.iload_n 2, 1) := by decide +kernel
theorem dX3_takeT_77 : decode cX3_takeT 77 = .ok (.invokestatic 45, 3) := by decide +kernel
theorem dX3_takeT_80 : decode cX3_takeT 80 = .ok (.putfield 19, 3) := by decide +kernel
theorem dX3_takeT_83 : decode cX3_takeT 83 = .ok (.goto 37, 3) := by decide +kernel
theorem dX3_takeT_86 : decode cX3_takeT 86 = .ok (.aload_n 0, 1) := by decide +kernel
theorem dX3_takeT_87 : decode cX3_takeT 87 = .ok (.getfield 15, 3) := by decide +kernel
theorem dX3_takeT_90 : decode cX3_takeT 90 = .ok (.bipush 64, 2) := by decide +kernel
theorem dX3_takeT_92 : decode cX3_takeT 92 = .ok (.if_icmp .ge 28, 3) := by decide +kernel
theorem dX3_takeT_95 : decode cX3_takeT 95 = .ok (.aload_n 0, 1) := by decide +kernel
theorem dX3_takeT_96 : decode cX3_takeT 96 = .ok (.getfield 9, 3) := by decide +kernel
theorem dX3_takeT_99 : decode cX3_takeT 99 = .ok (.aload_n 0, 1) := by decide +kernel
theorem dX3_takeT_100 : decode cX3_takeT 100 = .ok (.getfield 15, 3) := by decide +kernel
theorem dX3_takeT_103 : decode cX3_takeT 103 = .ok (.iload_n 1, 1) := by decide +kernel
theorem dX3_takeT_104 : decode cX3_takeT 104 = .ok (.iastore, 1) := by decide +kernel
theorem dX3_takeT_105 : decode cX3_takeT 105 = .ok (.aload_n 0, 1) := by decide +kernel
theorem dX3_takeT_106 : decode cX3_takeT 106 = .ok (.dup, 1) := by decide +kernel
theorem dX3_takeT_107 : decode cX3_takeT 107 = .ok (.getfield 15, 3) := by decide +kernel
theorem dX3_takeT_110 : decode cX3_takeT 110 = .ok (.iconst 1, 1) := by decide +kernel
theorem dX3_takeT_111 : decode cX3_takeT 111 = .ok (.iadd, 1) := by decide +kernel
theorem dX3_takeT_112 : decode cX3_takeT 112 = .ok (.putfield 15, 3) := by decide +kernel
theorem dX3_takeT_115 : decode cX3_takeT 115 = .ok (.aload_n 0, 1) := by decide +kernel
theorem dX3_takeT_116 : decode cX3_takeT 116 = .ok (.iload_n 2, 1) := by decide +kernel
theorem dX3_takeT_117 : decode cX3_takeT 117 = .ok (.putfield 19, 3) := by decide +kernel
theorem dX3_takeT_120 : decode cX3_takeT 120 = .ok (.return_, 1) := by decide +kernel
theorem dX3_countT_0 : decode cX3_countT 0 = .ok (.aload_n 0, 1) := by decide +kernel
theorem dX3_countT_1 : decode cX3_countT 1 = .ok (.getfield 15, 3) := by decide +kernel
theorem dX3_countT_4 : decode cX3_countT 4 = .ok (.ireturn, 1) := by decide +kernel
theorem dX3_countGates_0 : decode cX3_countGates 0 = .ok (.iconst 0, 1) := by decide +kernel
theorem dX3_countGates_1 : decode cX3_countGates 1 = .ok (.istore_n 1, 1) := by decide +kernel
theorem dX3_countGates_2 : decode cX3_countGates 2 = .ok (.aload_n 0, 1) := by decide +kernel
theorem dX3_countGates_3 : decode cX3_countGates 3 = .ok (.getfield 22, 3) := by decide +kernel
theorem dX3_countGates_6 : decode cX3_countGates 6 = .ok (.istore_n 2, 1) := by decide +kernel
theorem dX3_countGates_7 : decode cX3_countGates 7 = .ok (.iload_n 2, 1) := by decide +kernel
theorem dX3_countGates_8 : decode cX3_countGates 8 = .ok (.iconst 1, 1) := by decide +kernel
theorem dX3_countGates_9 : decode cX3_countGates 9 = .ok (.if_icmp .le 13, 3) := by decide +kernel
theorem dX3_countGates_12 : decode cX3_countGates 12 = .ok (.iinc 1 1, 3) := by decide +kernel
theorem dX3_countGates_15 : decode cX3_countGates 15 = .ok (.iload_n 2, 1) := by decide +kernel
theorem dX3_countGates_16 : decode cX3_countGates 16 = .ok (.iconst 1, 1) := by decide +kernel
theorem dX3_countGates_17 : decode cX3_countGates 17 = .ok (.ishr, 1) := by decide +kernel
theorem dX3_countGates_18 : decode cX3_countGates 18 = .ok (.istore_n 2, 1) := by decide +kernel
theorem dX3_countGates_19 : decode cX3_countGates 19 = .ok (.goto (-12), 3) := by decide +kernel
theorem dX3_countGates_22 : decode cX3_countGates 22 = .ok (.iconst 0, 1) := by decide +kernel
theorem dX3_countGates_23 : decode cX3_countGates 23 = .ok (.istore_n 2, 1) := by decide +kernel
theorem dX3_countGates_24 : decode cX3_countGates 24 = .ok (.iload_n 2, 1) := by decide +kernel
theorem dX3_countGates_25 : decode cX3_countGates 25 = .ok (.aload_n 0, 1) := by decide +kernel
theorem dX3_countGates_26 : decode cX3_countGates 26 = .ok (.getfield 15, 3) := by decide +kernel
theorem dX3_countGates_29 : decode cX3_countGates 29 = .ok (.if_icmp .ge 20, 3) := by decide +kernel
theorem dX3_countGates_32 : decode cX3_countGates 32 = .ok (.iload_n 1, 1) := by decide +kernel
theorem dX3_countGates_33 : decode cX3_countGates 33 = .ok (.iconst 1, 1) := by decide +kernel
theorem dX3_countGates_34 : decode cX3_countGates 34 = .ok (.aload_n 0, 1) := by decide +kernel
theorem dX3_countGates_35 : decode cX3_countGates 35 = .ok (.getfield 9, 3) := by decide +kernel
theorem dX3_countGates_38 : decode cX3_countGates 38 = .ok (.iload_n 2, 1) := by decide +kernel
theorem dX3_countGates_39 : decode cX3_countGates 39 = .ok (.iaload, 1) := by decide +kernel
theorem dX3_countGates_40 : decode cX3_countGates 40 = .ok (.iadd, 1) := by decide +kernel
theorem dX3_countGates_41 : decode cX3_countGates 41 = .ok (.iadd, 1) := by decide +kernel
theorem dX3_countGates_42 : decode cX3_countGates 42 = .ok (.istore_n 1, 1) := by decide +kernel
theorem dX3_countGates_43 : decode cX3_countGates 43 = .ok (.iinc 2 1, 3) := by decide +kernel
theorem dX3_countGates_46 : decode cX3_countGates 46 = .ok (.goto (-22), 3) := by decide +kernel
theorem dX3_countGates_49 : decode cX3_countGates 49 = .ok (.iload_n 1, 1) := by decide +kernel
theorem dX3_countGates_50 : decode cX3_countGates 50 = .ok (.ireturn, 1) := by decide +kernel
theorem dX3_addTo_0 : decode cX3_addTo 0 = .ok (.iconst 0, 1) := by decide +kernel
theorem dX3_addTo_1 : decode cX3_addTo 1 = .ok (.istore_n 3, 1) := by decide +kernel
theorem dX3_addTo_2 : decode cX3_addTo 2 = .ok (.sipush 256, 3) := by decide +kernel
theorem dX3_addTo_5 : decode cX3_addTo 5 = .ok (.istore 4, 2) := by decide +kernel
theorem dX3_addTo_7 : decode cX3_addTo 7 = .ok (.iload 4, 2) := by decide +kernel
theorem dX3_addTo_9 : decode cX3_addTo 9 = .ok (.ifCond .le 61, 3) := by decide +kernel
theorem dX3_addTo_12 : decode cX3_addTo 12 = .ok (.iload_n 3, 1) := by decide +kernel
theorem dX3_addTo_13 : decode cX3_addTo 13 = .ok (.ifCond .eq 28, 3) := by decide +kernel
theorem dX3_addTo_16 : decode cX3_addTo 16 = .ok (.aload_n 1, 1) := by decide +kernel
theorem dX3_addTo_17 : decode cX3_addTo 17 = .ok (.aload_n 0, 1) := by decide +kernel
theorem dX3_addTo_18 : decode cX3_addTo 18 = .ok (.getfield 22, 3) := by decide +kernel
theorem dX3_addTo_21 : decode cX3_addTo 21 = .ok (.iload 4, 2) := by decide +kernel
theorem dX3_addTo_23 : decode cX3_addTo 23 = .ok (.iand, 1) := by decide +kernel
theorem dX3_addTo_24 : decode cX3_addTo 24 = .ok (.ifCond .ne 7, 3) := by decide +kernel
theorem dX3_addTo_27 : decode cX3_addTo 27 = .ok (.iconst 1, 1) := by decide +kernel
theorem dX3_addTo_28 : decode cX3_addTo 28 = .ok (.goto 4, 3) := by decide +kernel
theorem dX3_addTo_31 : decode cX3_addTo 31 = .ok (.iconst 2, 1) := by decide +kernel
theorem dX3_addTo_32 : decode cX3_addTo 32 = .ok (.iload_n 2, 1) := by decide +kernel
theorem dX3_addTo_33 : decode cX3_addTo 33 = .ok (.iconst 0, 1) := by decide +kernel
theorem dX3_addTo_34 : decode cX3_addTo 34 = .ok (.iconst 0, 1) := by decide +kernel
theorem dX3_addTo_35 : decode cX3_addTo 35 = .ok (.invokestatic 64, 3) := by decide +kernel
theorem dX3_addTo_38 : decode cX3_addTo 38 = .ok (.invokevirtual 68, 3) := by decide +kernel
theorem dX3_addTo_41 : decode cX3_addTo 41 = .ok (.iload_n 3, 1) := by decide +kernel
theorem dX3_addTo_42 : decode cX3_addTo 42 = .ok (.ifCond .ne 13, 3) := by decide +kernel
theorem dX3_addTo_45 : decode cX3_addTo 45 = .ok (.aload_n 0, 1) := by decide +kernel
theorem dX3_addTo_46 : decode cX3_addTo 46 = .ok (.getfield 22, 3) := by decide +kernel
theorem dX3_addTo_49 : decode cX3_addTo 49 = .ok (.iload 4, 2) := by decide +kernel
theorem dX3_addTo_51 : decode cX3_addTo 51 = .ok (.iand, 1) := by decide +kernel
theorem dX3_addTo_52 : decode cX3_addTo 52 = .ok (.ifCond .eq 7, 3) := by decide +kernel
theorem dX3_addTo_55 : decode cX3_addTo 55 = .ok (.iconst 1, 1) := by decide +kernel
theorem dX3_addTo_56 : decode cX3_addTo 56 = .ok (.goto 4, 3) := by decide +kernel
theorem dX3_addTo_59 : decode cX3_addTo 59 = .ok (.iconst 0, 1) := by decide +kernel
theorem dX3_addTo_60 : decode cX3_addTo 60 = .ok (.istore_n 3, 1) := by decide +kernel
theorem dX3_addTo_61 : decode cX3_addTo 61 = .ok (.iload 4, 2) := by decide +kernel
theorem dX3_addTo_63 : decode cX3_addTo 63 = .ok (.iconst 1, 1) := by decide +kernel
theorem dX3_addTo_64 : decode cX3_addTo 64 = .ok (.ishr, 1) := by decide +kernel
theorem dX3_addTo_65 : decode cX3_addTo 65 = .ok (.istore 4, 2) := by decide +kernel
theorem dX3_addTo_67 : decode cX3_addTo 67 = .ok (.goto (-60), 3) := by decide +kernel
theorem dX3_addTo_70 : decode cX3_addTo 70 = .ok (.aload_n 0, 1) := by decide +kernel
theorem dX3_addTo_71 : decode cX3_addTo 71 = .ok (.getfield 15, 3) := by decide +kernel
theorem dX3_addTo_74 : decode cX3_addTo 74 = .ok (.iconst 1, 1) := by decide +kernel
theorem dX3_addTo_75 : decode cX3_addTo 75 = .ok (.isub, 1) := by decide +kernel
theorem dX3_addTo_76 : decode cX3_addTo 76 = .ok (.istore 4, 2) := by decide +kernel
theorem dX3_addTo_78 : decode cX3_addTo 78 = .ok (.iload 4, 2) := by decide +kernel
theorem dX3_addTo_80 : decode cX3_addTo 80 = .ok (.ifCond .lt 63, 3) := by decide +kernel
theorem dX3_addTo_83 : decode cX3_addTo 83 = .ok (.aload_n 1, 1) := by decide +kernel
theorem dX3_addTo_84 : decode cX3_addTo 84 = .ok (.iconst 3, 1) := by decide +kernel
theorem dX3_addTo_85 : decode cX3_addTo 85 = .ok (.iload_n 2, 1) := by decide +kernel
theorem dX3_addTo_86 : decode cX3_addTo 86 = .ok (.iconst 0, 1) := by decide +kernel
theorem dX3_addTo_87 : decode cX3_addTo 87 = .ok (.iconst 0, 1) := by decide +kernel
theorem dX3_addTo_88 : decode cX3_addTo 88 = .ok (.invokestatic 64, 3) := by decide +kernel
theorem dX3_addTo_91 : decode cX3_addTo 91 = .ok (.invokevirtual 68, 3) := by decide +kernel
theorem dX3_addTo_94 : decode cX3_addTo 94 = .ok (.aload_n 0, 1) := by decide +kernel
theorem dX3_addTo_95 : decode cX3_addTo 95 = .ok (.getfield 9, 3) := by decide +kernel
theorem dX3_addTo_98 : decode cX3_addTo 98 = .ok (.iload 4, 2) := by decide +kernel
theorem dX3_addTo_100 : decode cX3_addTo 100 = .ok (.iaload, 1) := by decide +kernel
theorem dX3_addTo_101 : decode cX3_addTo 101 = .ok (.ifCond .eq 14, 3) := by decide +kernel
theorem dX3_addTo_104 : decode cX3_addTo 104 = .ok (.aload_n 1, 1) := by decide +kernel
theorem dX3_addTo_105 : decode cX3_addTo 105 = .ok (.iconst 1, 1) := by decide +kernel
theorem dX3_addTo_106 : decode cX3_addTo 106 = .ok (.iload_n 2, 1) := by decide +kernel
theorem dX3_addTo_107 : decode cX3_addTo 107 = .ok (.iconst 0, 1) := by decide +kernel
theorem dX3_addTo_108 : decode cX3_addTo 108 = .ok (.iconst 0, 1) := by decide +kernel
theorem dX3_addTo_109 : decode cX3_addTo 109 = .ok (.invokestatic 64, 3) := by decide +kernel
theorem dX3_addTo_112 : decode cX3_addTo 112 = .ok (.invokevirtual 68, 3) := by decide +kernel
theorem dX3_addTo_115 : decode cX3_addTo 115 = .ok (.aload_n 0, 1) := by decide +kernel
theorem dX3_addTo_116 : decode cX3_addTo 116 = .ok (.getfield 9, 3) := by decide +kernel
theorem dX3_addTo_119 : decode cX3_addTo 119 = .ok (.iload 4, 2) := by decide +kernel
theorem dX3_addTo_121 : decode cX3_addTo 121 = .ok (.iaload, 1) := by decide +kernel
theorem dX3_addTo_122 : decode cX3_addTo 122 = .ok (.iconst 2, 1) := by decide +kernel
theorem dX3_addTo_123 : decode cX3_addTo 123 = .ok (.if_icmp .ne 14, 3) := by decide +kernel
theorem dX3_addTo_126 : decode cX3_addTo 126 = .ok (.aload_n 1, 1) := by decide +kernel
theorem dX3_addTo_127 : decode cX3_addTo 127 = .ok (.iconst 2, 1) := by decide +kernel
theorem dX3_addTo_128 : decode cX3_addTo 128 = .ok (.iload_n 2, 1) := by decide +kernel
theorem dX3_addTo_129 : decode cX3_addTo 129 = .ok (.iconst 0, 1) := by decide +kernel
theorem dX3_addTo_130 : decode cX3_addTo 130 = .ok (.iconst 0, 1) := by decide +kernel
theorem dX3_addTo_131 : decode cX3_addTo 131 = .ok (.invokestatic 64, 3) := by decide +kernel
theorem dX3_addTo_134 : decode cX3_addTo 134 = .ok (.invokevirtual 68, 3) := by decide +kernel
theorem dX3_addTo_137 : decode cX3_addTo 137 = .ok (.iinc 4 (-1), 3) := by decide +kernel
theorem dX3_addTo_140 : decode cX3_addTo 140 = .ok (.goto (-62), 3) := by decide +kernel
theorem dX3_addTo_143 : decode cX3_addTo 143 = .ok (.return_, 1) := by decide +kernel
theorem dX3_wordOf_0 : decode cX3_wordOf 0 = .ok (.iconst 1, 1) := by decide +kernel
theorem dX3_wordOf_1 : decode cX3_wordOf 1 = .ok (.istore_n 1, 1) := by decide +kernel
theorem dX3_wordOf_2 : decode cX3_wordOf 2 = .ok (.iload_n 1, 1) := by decide +kernel
theorem dX3_wordOf_3 : decode cX3_wordOf 3 = .ok (.sipush 256, 3) := by decide +kernel
theorem dX3_wordOf_6 : decode cX3_wordOf 6 = .ok (.if_icmp .ge 19, 3) := by decide +kernel
theorem dX3_wordOf_9 : decode cX3_wordOf 9 = .ok (.iload_n 1, 1) := by decide +kernel
theorem dX3_wordOf_10 : decode cX3_wordOf 10 = .ok (.invokestatic 72, 3) := by decide +kernel
theorem dX3_wordOf_13 : decode cX3_wordOf 13 = .ok (.iload_n 0, 1) := by decide +kernel
theorem dX3_wordOf_14 : decode cX3_wordOf 14 = .ok (.if_icmp .ne 5, 3) := by decide +kernel
theorem dX3_wordOf_17 : decode cX3_wordOf 17 = .ok (.iload_n 1, 1) := by decide +kernel
theorem dX3_wordOf_18 : decode cX3_wordOf 18 = .ok (.ireturn, 1) := by decide +kernel
theorem dX3_wordOf_19 : decode cX3_wordOf 19 = .ok (.iinc 1 1, 3) := by decide +kernel
theorem dX3_wordOf_22 : decode cX3_wordOf 22 = .ok (.goto (-20), 3) := by decide +kernel
theorem dX3_wordOf_25 : decode cX3_wordOf 25 = .ok (.iconst 1, 1) := by decide +kernel
theorem dX3_wordOf_26 : decode cX3_wordOf 26 = .ok (.ireturn, 1) := by decide +kernel
theorem dX3_rotationOfWord_0 : decode cX3_rotationOfWord 0 = .ok (.bipush 12, 2) := by decide +kernel
theorem dX3_rotationOfWord_2 : decode cX3_rotationOfWord 2 = .ok (.istore_n 1, 1) := by decide +kernel
theorem dX3_rotationOfWord_3 : decode cX3_rotationOfWord 3 = .ok (.iload_n 0, 1) := by decide +kernel
theorem dX3_rotationOfWord_4 : decode cX3_rotationOfWord 4 = .ok (.istore_n 2, 1) := by decide +kernel
theorem dX3_rotationOfWord_5 : decode cX3_rotationOfWord 5 = .ok (.iload_n 2, 1) := by decide +kernel
theorem dX3_rotationOfWord_6 : decode cX3_rotationOfWord 6 = .ok (.iconst 1, 1) := by decide +kernel
theorem dX3_rotationOfWord_7 : decode cX3_rotationOfWord 7 = .ok (.if_icmp .le 30, 3) := by decide +kernel
theorem dX3_rotationOfWord_10 : decode cX3_rotationOfWord 10 = .ok (.iload_n 1, 1) := by decide +kernel
theorem dX3_rotationOfWord_11 : decode cX3_rotationOfWord 11 = .ok (.iload_n 2, 1) := by decide +kernel
theorem dX3_rotationOfWord_12 : decode cX3_rotationOfWord 12 = .ok (.iconst 1, 1) := by decide +kernel
theorem dX3_rotationOfWord_13 : decode cX3_rotationOfWord 13 = .ok (.iand, 1) := by decide +kernel
theorem dX3_rotationOfWord_14 : decode cX3_rotationOfWord 14 = .ok (.ifCond .ne 9, 3) := by decide +kernel
theorem dX3_rotationOfWord_17 : decode cX3_rotationOfWord 17 = .ok (.sipush 240, 3) := by decide +kernel
theorem dX3_rotationOfWord_20 : decode cX3_rotationOfWord 20 = .ok (.goto 6, 3) := by decide +kernel
theorem dX3_rotationOfWord_23 : decode cX3_rotationOfWord 23 = .ok (.sipush 132, 3) := by decide +kernel
theorem dX3_rotationOfWord_26 : decode cX3_rotationOfWord 26 = .ok (.invokestatic 45, 3) := by decide +kernel
theorem dX3_rotationOfWord_29 : decode cX3_rotationOfWord 29 = .ok (.istore_n 1, 1) := by decide +kernel
theorem dX3_rotationOfWord_30 : decode cX3_rotationOfWord 30 = .ok (.iload_n 2, 1) := by decide +kernel
theorem dX3_rotationOfWord_31 : decode cX3_rotationOfWord 31 = .ok (.iconst 1, 1) := by decide +kernel
theorem dX3_rotationOfWord_32 : decode cX3_rotationOfWord 32 = .ok (.ishr, 1) := by decide +kernel
theorem dX3_rotationOfWord_33 : decode cX3_rotationOfWord 33 = .ok (.istore_n 2, 1) := by decide +kernel
theorem dX3_rotationOfWord_34 : decode cX3_rotationOfWord 34 = .ok (.goto (-29), 3) := by decide +kernel
theorem dX3_rotationOfWord_37 : decode cX3_rotationOfWord 37 = .ok (.iload_n 1, 1) := by decide +kernel
theorem dX3_rotationOfWord_38 : decode cX3_rotationOfWord 38 = .ok (.ireturn, 1) := by decide +kernel
theorem dX3_rotationOf_0 : decode cX3_rotationOf 0 = .ok (.iload_n 0, 1) := by decide +kernel
theorem dX3_rotationOf_1 : decode cX3_rotationOf 1 = .ok (.tableswitch 50 1 5 #[35, 39, 50, 43, 46], 35) := by decide +kernel
theorem dX3_rotationOf_36 : decode cX3_rotationOf 36 = .ok (.sipush 240, 3) := by decide +kernel
theorem dX3_rotationOf_39 : decode cX3_rotationOf 39 = .ok (.ireturn, 1) := by decide +kernel
theorem dX3_rotationOf_40 : decode cX3_rotationOf 40 = .ok (.sipush 132, 3) := by decide +kernel
theorem dX3_rotationOf_43 : decode cX3_rotationOf 43 = .ok (.ireturn, 1) := by decide +kernel
theorem dX3_rotationOf_44 : decode cX3_rotationOf 44 = .ok (.bipush 45, 2) := by decide +kernel
theorem dX3_rotationOf_46 : decode cX3_rotationOf 46 = .ok (.ireturn, 1) := by decide +kernel
theorem dX3_rotationOf_47 : decode cX3_rotationOf 47 = .ok (.sipush 342, 3) := by decide +kernel
theorem dX3_rotationOf_50 : decode cX3_rotationOf 50 = .ok (.ireturn, 1) := by decide +kernel
theorem dX3_rotationOf_51 : decode cX3_rotationOf 51 = .ok (.bipush 12, 2) := by decide +kernel
theorem dX3_rotationOf_53 : decode cX3_rotationOf 53 = .ok (.ireturn, 1) := by decide +kernel
theorem dX3_headOf_0 : decode cX3_headOf 0 = .ok (.iload_n 0, 1) := by decide +kernel
theorem dX3_headOf_1 : decode cX3_headOf 1 = .ok (.invokestatic 58, 3) := by decide +kernel
theorem dX3_headOf_4 : decode cX3_headOf 4 = .ok (.iconst 3, 1) := by decide +kernel
theorem dX3_headOf_5 : decode cX3_headOf 5 = .ok (.irem, 1) := by decide +kernel
theorem dX3_headOf_6 : decode cX3_headOf 6 = .ok (.istore_n 1, 1) := by decide +kernel
theorem dX3_headOf_7 : decode cX3_headOf 7 = .ok (.iload_n 1, 1) := by decide +kernel
theorem dX3_headOf_8 : decode cX3_headOf 8 = .ok (.iconst 2, 1) := by decide +kernel
theorem dX3_headOf_9 : decode cX3_headOf 9 = .ok (.if_icmp .ne 5, 3) := by decide +kernel
theorem dX3_headOf_12 : decode cX3_headOf 12 = .ok (.iconst 0, 1) := by decide +kernel
theorem dX3_headOf_13 : decode cX3_headOf 13 = .ok (.ireturn, 1) := by decide +kernel
theorem dX3_headOf_14 : decode cX3_headOf 14 = .ok (.iload_n 1, 1) := by decide +kernel
theorem dX3_headOf_15 : decode cX3_headOf 15 = .ok (.ifCond .ne 7, 3) := by decide +kernel
theorem dX3_headOf_18 : decode cX3_headOf 18 = .ok (.iconst 1, 1) := by decide +kernel
theorem dX3_headOf_19 : decode cX3_headOf 19 = .ok (.goto 4, 3) := by decide +kernel
theorem dX3_headOf_22 : decode cX3_headOf 22 = .ok (.iconst 2, 1) := by decide +kernel
theorem dX3_headOf_23 : decode cX3_headOf 23 = .ok (.ireturn, 1) := by decide +kernel
theorem dX3_rotationOfHead_0 : decode cX3_rotationOfHead 0 = .ok (.iload_n 0, 1) := by decide +kernel
theorem dX3_rotationOfHead_1 : decode cX3_rotationOfHead 1 = .ok (.ifCond .ne 6, 3) := by decide +kernel
theorem dX3_rotationOfHead_4 : decode cX3_rotationOfHead 4 = .ok (.bipush 12, 2) := by decide +kernel
theorem dX3_rotationOfHead_6 : decode cX3_rotationOfHead 6 = .ok (.ireturn, 1) := by decide +kernel
theorem dX3_rotationOfHead_7 : decode cX3_rotationOfHead 7 = .ok (.iload_n 0, 1) := by decide +kernel
theorem dX3_rotationOfHead_8 : decode cX3_rotationOfHead 8 = .ok (.iconst 1, 1) := by decide +kernel
theorem dX3_rotationOfHead_9 : decode cX3_rotationOfHead 9 = .ok (.if_icmp .ne 9, 3) := by decide +kernel
theorem dX3_rotationOfHead_12 : decode cX3_rotationOfHead 12 = .ok (.sipush 240, 3) := by decide +kernel
theorem dX3_rotationOfHead_15 : decode cX3_rotationOfHead 15 = .ok (.goto 12, 3) := by decide +kernel
theorem dX3_rotationOfHead_18 : decode cX3_rotationOfHead 18 = .ok (.sipush 132, 3) := by decide +kernel
theorem dX3_rotationOfHead_21 : decode cX3_rotationOfHead 21 = .ok (.sipush 240, 3) := by decide +kernel
theorem dX3_rotationOfHead_24 : decode cX3_rotationOfHead 24 = .ok (.invokestatic 45, 3) := by decide +kernel
theorem dX3_rotationOfHead_27 : decode cX3_rotationOfHead 27 = .ok (.ireturn, 1) := by decide +kernel
theorem dX3_rotationBackOfHead_0 : decode cX3_rotationBackOfHead 0 = .ok (.iload_n 0, 1) := by decide +kernel
theorem dX3_rotationBackOfHead_1 : decode cX3_rotationBackOfHead 1 = .ok (.ifCond .ne 6, 3) := by decide +kernel
theorem dX3_rotationBackOfHead_4 : decode cX3_rotationBackOfHead 4 = .ok (.bipush 12, 2) := by decide +kernel
theorem dX3_rotationBackOfHead_6 : decode cX3_rotationBackOfHead 6 = .ok (.ireturn, 1) := by decide +kernel
theorem dX3_rotationBackOfHead_7 : decode cX3_rotationBackOfHead 7 = .ok (.iload_n 0, 1) := by decide +kernel
theorem dX3_rotationBackOfHead_8 : decode cX3_rotationBackOfHead 8 = .ok (.iconst 1, 1) := by decide +kernel
theorem dX3_rotationBackOfHead_9 : decode cX3_rotationBackOfHead 9 = .ok (.if_icmp .ne 9, 3) := by decide +kernel
theorem dX3_rotationBackOfHead_12 : decode cX3_rotationBackOfHead 12 = .ok (.sipush 240, 3) := by decide +kernel
theorem dX3_rotationBackOfHead_15 : decode cX3_rotationBackOfHead 15 = .ok (.goto 12, 3) := by decide +kernel
theorem dX3_rotationBackOfHead_18 : decode cX3_rotationBackOfHead 18 = .ok (.sipush 240, 3) := by decide +kernel
theorem dX3_rotationBackOfHead_21 : decode cX3_rotationBackOfHead 21 = .ok (.sipush 402, 3) := by decide +kernel
theorem dX3_rotationBackOfHead_24 : decode cX3_rotationBackOfHead 24 = .ok (.invokestatic 45, 3) := by decide +kernel
theorem dX3_rotationBackOfHead_27 : decode cX3_rotationBackOfHead 27 = .ok (.ireturn, 1) := by decide +kernel
theorem dX3_imageOfZ_0 : decode cX3_imageOfZ 0 = .ok (.iload_n 0, 1) := by decide +kernel
theorem dX3_imageOfZ_1 : decode cX3_imageOfZ 1 = .ok (.bipush 10, 2) := by decide +kernel
theorem dX3_imageOfZ_3 : decode cX3_imageOfZ 3 = .ok (.irem, 1) := by decide +kernel
theorem dX3_imageOfZ_4 : decode cX3_imageOfZ 4 = .ok (.ireturn, 1) := by decide +kernel
theorem dX3_product_0 : decode cX3_product 0 = .ok (.iload_n 0, 1) := by decide +kernel
theorem dX3_product_1 : decode cX3_product 1 = .ok (.iload_n 1, 1) := by decide +kernel
theorem dX3_product_2 : decode cX3_product 2 = .ok (.bipush 100, 2) := by decide +kernel
theorem dX3_product_4 : decode cX3_product 4 = .ok (.idiv, 1) := by decide +kernel
theorem dX3_product_5 : decode cX3_product 5 = .ok (.invokestatic 75, 3) := by decide +kernel
theorem dX3_product_8 : decode cX3_product 8 = .ok (.istore_n 2, 1) := by decide +kernel
theorem dX3_product_9 : decode cX3_product 9 = .ok (.iload_n 0, 1) := by decide +kernel
theorem dX3_product_10 : decode cX3_product 10 = .ok (.iload_n 1, 1) := by decide +kernel
theorem dX3_product_11 : decode cX3_product 11 = .ok (.bipush 10, 2) := by decide +kernel
theorem dX3_product_13 : decode cX3_product 13 = .ok (.idiv, 1) := by decide +kernel
theorem dX3_product_14 : decode cX3_product 14 = .ok (.bipush 10, 2) := by decide +kernel
theorem dX3_product_16 : decode cX3_product 16 = .ok (.irem, 1) := by decide +kernel
theorem dX3_product_17 : decode cX3_product 17 = .ok (.invokestatic 75, 3) := by decide +kernel
theorem dX3_product_20 : decode cX3_product 20 = .ok (.istore_n 3, 1) := by decide +kernel
theorem dX3_product_21 : decode cX3_product 21 = .ok (.bipush 100, 2) := by decide +kernel
theorem dX3_product_23 : decode cX3_product 23 = .ok (.iload_n 2, 1) := by decide +kernel
theorem dX3_product_24 : decode cX3_product 24 = .ok (.imul, 1) := by decide +kernel
theorem dX3_product_25 : decode cX3_product 25 = .ok (.bipush 10, 2) := by decide +kernel
theorem dX3_product_27 : decode cX3_product 27 = .ok (.iload_n 3, 1) := by decide +kernel
theorem dX3_product_28 : decode cX3_product 28 = .ok (.imul, 1) := by decide +kernel
theorem dX3_product_29 : decode cX3_product 29 = .ok (.iadd, 1) := by decide +kernel
theorem dX3_product_30 : decode cX3_product 30 = .ok (.iload_n 0, 1) := by decide +kernel
theorem dX3_product_31 : decode cX3_product 31 = .ok (.iload_n 1, 1) := by decide +kernel
theorem dX3_product_32 : decode cX3_product 32 = .ok (.invokestatic 58, 3) := by decide +kernel
theorem dX3_product_35 : decode cX3_product 35 = .ok (.invokestatic 75, 3) := by decide +kernel
theorem dX3_product_38 : decode cX3_product 38 = .ok (.iadd, 1) := by decide +kernel
theorem dX3_product_39 : decode cX3_product 39 = .ok (.ireturn, 1) := by decide +kernel
theorem dX3_image_0 : decode cX3_image 0 = .ok (.iload_n 1, 1) := by decide +kernel
theorem dX3_image_1 : decode cX3_image 1 = .ok (.iconst 3, 1) := by decide +kernel
theorem dX3_image_2 : decode cX3_image 2 = .ok (.irem, 1) := by decide +kernel
theorem dX3_image_3 : decode cX3_image 3 = .ok (.istore_n 2, 1) := by decide +kernel
theorem dX3_image_4 : decode cX3_image 4 = .ok (.iload_n 0, 1) := by decide +kernel
theorem dX3_image_5 : decode cX3_image 5 = .ok (.invokestatic 58, 3) := by decide +kernel
theorem dX3_image_8 : decode cX3_image 8 = .ok (.istore_n 3, 1) := by decide +kernel
theorem dX3_image_9 : decode cX3_image 9 = .ok (.iload_n 2, 1) := by decide +kernel
theorem dX3_image_10 : decode cX3_image 10 = .ok (.ifCond .ne 11, 3) := by decide +kernel
theorem dX3_image_13 : decode cX3_image 13 = .ok (.iload_n 0, 1) := by decide +kernel
theorem dX3_image_14 : decode cX3_image 14 = .ok (.bipush 100, 2) := by decide +kernel
theorem dX3_image_16 : decode cX3_image 16 = .ok (.idiv, 1) := by decide +kernel
theorem dX3_image_17 : decode cX3_image 17 = .ok (.istore_n 3, 1) := by decide +kernel
theorem dX3_image_18 : decode cX3_image 18 = .ok (.goto 16, 3) := by decide +kernel
theorem dX3_image_21 : decode cX3_image 21 = .ok (.iload_n 2, 1) := by decide +kernel
theorem dX3_image_22 : decode cX3_image 22 = .ok (.iconst 1, 1) := by decide +kernel
theorem dX3_image_23 : decode cX3_image 23 = .ok (.if_icmp .ne 11, 3) := by decide +kernel
theorem dX3_image_26 : decode cX3_image 26 = .ok (.iload_n 0, 1) := by decide +kernel
theorem dX3_image_27 : decode cX3_image 27 = .ok (.bipush 10, 2) := by decide +kernel
theorem dX3_image_29 : decode cX3_image 29 = .ok (.idiv, 1) := by decide +kernel
theorem dX3_image_30 : decode cX3_image 30 = .ok (.bipush 10, 2) := by decide +kernel
theorem dX3_image_32 : decode cX3_image 32 = .ok (.irem, 1) := by decide +kernel
theorem dX3_image_33 : decode cX3_image 33 = .ok (.istore_n 3, 1) := by decide +kernel
theorem dX3_image_34 : decode cX3_image 34 = .ok (.iload_n 1, 1) := by decide +kernel
theorem dX3_image_35 : decode cX3_image 35 = .ok (.iconst 3, 1) := by decide +kernel
theorem dX3_image_36 : decode cX3_image 36 = .ok (.if_icmp .ge 7, 3) := by decide +kernel
theorem dX3_image_39 : decode cX3_image 39 = .ok (.iload_n 3, 1) := by decide +kernel
theorem dX3_image_40 : decode cX3_image 40 = .ok (.goto 9, 3) := by decide +kernel
theorem dX3_image_43 : decode cX3_image 43 = .ok (.iload_n 3, 1) := by decide +kernel
theorem dX3_image_44 : decode cX3_image 44 = .ok (.iconst 3, 1) := by decide +kernel
theorem dX3_image_45 : decode cX3_image 45 = .ok (.iadd, 1) := by decide +kernel
theorem dX3_image_46 : decode cX3_image 46 = .ok (.bipush 6, 2) := by decide +kernel
theorem dX3_image_48 : decode cX3_image 48 = .ok (.irem, 1) := by decide +kernel
theorem dX3_image_49 : decode cX3_image 49 = .ok (.ireturn, 1) := by decide +kernel
theorem dX4_init_0 : decode cX4_init 0 = .ok (.aload_n 0, 1) := by decide +kernel
theorem dX4_init_1 : decode cX4_init 1 = .ok (.invokespecial 3, 3) := by decide +kernel
theorem dX4_init_4 : decode cX4_init 4 = .ok (.return_, 1) := by decide +kernel
theorem dX4_begin_0 : decode cX4_begin 0 = .ok (.aload_n 0, 1) := by decide +kernel
theorem dX4_begin_1 : decode cX4_begin 1 = .ok (.iconst 0, 1) := by decide +kernel
theorem dX4_begin_2 : decode cX4_begin 2 = .ok (.putfield 9, 3) := by decide +kernel
theorem dX4_begin_5 : decode cX4_begin 5 = .ok (.aload_n 0, 1) := by decide +kernel
theorem dX4_begin_6 : decode cX4_begin 6 = .ok (.iconst 1, 1) := by decide +kernel
theorem dX4_begin_7 : decode cX4_begin 7 = .ok (.iload_n 1, 1) := by decide +kernel
theorem dX4_begin_8 : decode cX4_begin 8 = .ok (.ishl, 1) := by decide +kernel
theorem dX4_begin_9 : decode cX4_begin 9 = .ok (.putfield 15, 3) := by decide +kernel
theorem dX4_begin_12 : decode cX4_begin 12 = .ok (.aload_n 0, 1) := by decide +kernel
theorem dX4_begin_13 : decode cX4_begin 13 = .ok (.iconst 0, 1) := by decide +kernel
theorem dX4_begin_14 : decode cX4_begin 14 = .ok (.putfield 18, 3) := by decide +kernel
theorem dX4_begin_17 : decode cX4_begin 17 = .ok (.return_, 1) := by decide +kernel
theorem dX4_bit_0 : decode cX4_bit 0 = .ok (.iload_n 0, 1) := by decide +kernel
theorem dX4_bit_1 : decode cX4_bit 1 = .ok (.iload_n 1, 1) := by decide +kernel
theorem dX4_bit_2 : decode cX4_bit 2 = .ok (.ishr, 1) := by decide +kernel
theorem dX4_bit_3 : decode cX4_bit 3 = .ok (.iconst 1, 1) := by decide +kernel
theorem dX4_bit_4 : decode cX4_bit 4 = .ok (.iand, 1) := by decide +kernel
theorem dX4_bit_5 : decode cX4_bit 5 = .ok (.ireturn, 1) := by decide +kernel
theorem dX4_pass_0 : decode cX4_pass 0 = .ok (.iload_n 1, 1) := by decide +kernel
theorem dX4_pass_1 : decode cX4_pass 1 = .ok (.invokestatic 21, 3) := by decide +kernel
theorem dX4_pass_4 : decode cX4_pass 4 = .ok (.istore_n 2, 1) := by decide +kernel
theorem dX4_pass_5 : decode cX4_pass 5 = .ok (.iload_n 1, 1) := by decide +kernel
theorem dX4_pass_6 : decode cX4_pass 6 = .ok (.invokestatic 27, 3) := by decide +kernel
theorem dX4_pass_9 : decode cX4_pass 9 = .ok (.istore_n 3, 1) := by decide +kernel
theorem dX4_pass_10 : decode cX4_pass 10 = .ok (.iload_n 1, 1) := by decide +kernel
theorem dX4_pass_11 : decode cX4_pass 11 = .ok (.invokestatic 30, 3) := by decide +kernel
theorem dX4_pass_14 : decode cX4_pass 14 = .ok (.tableswitch 199 1 8 #[46, 54, 199, 102, 122, 142, 151, 170], 46) := by decide +kernel
theorem dX4_pass_60 : decode cX4_pass 60 = .ok (.aload_n 0, 1) := by decide +kernel
theorem dX4_pass_61 : decode cX4_pass 61 = .ok (.iload_n 2, 1) := by decide +kernel
theorem dX4_pass_62 : decode cX4_pass 62 = .ok (.invokevirtual 33, 3) := by decide +kernel
theorem dX4_pass_65 : decode cX4_pass 65 = .ok (.goto 148, 3) := by decide +kernel
theorem dX4_pass_68 : decode cX4_pass 68 = .ok (.aload_n 0, 1) := by decide +kernel
theorem dX4_pass_69 : decode cX4_pass 69 = .ok (.dup, 1) := by decide +kernel
theorem dX4_pass_70 : decode cX4_pass 70 = .ok (.getfield 18, 3) := by decide +kernel
theorem dX4_pass_73 : decode cX4_pass 73 = .ok (.aload_n 0, 1) := by decide +kernel
theorem dX4_pass_74 : decode cX4_pass 74 = .ok (.getfield 9, 3) := by decide +kernel
theorem dX4_pass_77 : decode cX4_pass 77 = .ok (.iload_n 2, 1) := by decide +kernel
theorem dX4_pass_78 : decode cX4_pass 78 = .ok (.invokestatic 37, 3) := by decide +kernel
theorem dX4_pass_81 : decode cX4_pass 81 = .ok (.aload_n 0, 1) := by decide +kernel
theorem dX4_pass_82 : decode cX4_pass 82 = .ok (.getfield 15, 3) := by decide +kernel
theorem dX4_pass_85 : decode cX4_pass 85 = .ok (.iload_n 2, 1) := by decide +kernel
theorem dX4_pass_86 : decode cX4_pass 86 = .ok (.invokestatic 37, 3) := by decide +kernel
theorem dX4_pass_89 : decode cX4_pass 89 = .ok (.iand, 1) := by decide +kernel
theorem dX4_pass_90 : decode cX4_pass 90 = .ok (.ixor, 1) := by decide +kernel
theorem dX4_pass_91 : decode cX4_pass 91 = .ok (.putfield 18, 3) := by decide +kernel
theorem dX4_pass_94 : decode cX4_pass 94 = .ok (.aload_n 0, 1) := by decide +kernel
theorem dX4_pass_95 : decode cX4_pass 95 = .ok (.dup, 1) := by decide +kernel
theorem dX4_pass_96 : decode cX4_pass 96 = .ok (.getfield 15, 3) := by decide +kernel
theorem dX4_pass_99 : decode cX4_pass 99 = .ok (.aload_n 0, 1) := by decide +kernel
theorem dX4_pass_100 : decode cX4_pass 100 = .ok (.getfield 9, 3) := by decide +kernel
theorem dX4_pass_103 : decode cX4_pass 103 = .ok (.iload_n 2, 1) := by decide +kernel
theorem dX4_pass_104 : decode cX4_pass 104 = .ok (.invokestatic 37, 3) := by decide +kernel
theorem dX4_pass_107 : decode cX4_pass 107 = .ok (.iload_n 2, 1) := by decide +kernel
theorem dX4_pass_108 : decode cX4_pass 108 = .ok (.ishl, 1) := by decide +kernel
theorem dX4_pass_109 : decode cX4_pass 109 = .ok (.ixor, 1) := by decide +kernel
theorem dX4_pass_110 : decode cX4_pass 110 = .ok (.putfield 15, 3) := by decide +kernel
theorem dX4_pass_113 : decode cX4_pass 113 = .ok (.goto 100, 3) := by decide +kernel
theorem dX4_pass_116 : decode cX4_pass 116 = .ok (.aload_n 0, 1) := by decide +kernel
theorem dX4_pass_117 : decode cX4_pass 117 = .ok (.dup, 1) := by decide +kernel
theorem dX4_pass_118 : decode cX4_pass 118 = .ok (.getfield 18, 3) := by decide +kernel
theorem dX4_pass_121 : decode cX4_pass 121 = .ok (.aload_n 0, 1) := by decide +kernel
theorem dX4_pass_122 : decode cX4_pass 122 = .ok (.getfield 15, 3) := by decide +kernel
theorem dX4_pass_125 : decode cX4_pass 125 = .ok (.iload_n 2, 1) := by decide +kernel
theorem dX4_pass_126 : decode cX4_pass 126 = .ok (.invokestatic 37, 3) := by decide +kernel
theorem dX4_pass_129 : decode cX4_pass 129 = .ok (.ixor, 1) := by decide +kernel
theorem dX4_pass_130 : decode cX4_pass 130 = .ok (.putfield 18, 3) := by decide +kernel
theorem dX4_pass_133 : decode cX4_pass 133 = .ok (.goto 80, 3) := by decide +kernel
theorem dX4_pass_136 : decode cX4_pass 136 = .ok (.aload_n 0, 1) := by decide +kernel
theorem dX4_pass_137 : decode cX4_pass 137 = .ok (.dup, 1) := by decide +kernel
theorem dX4_pass_138 : decode cX4_pass 138 = .ok (.getfield 18, 3) := by decide +kernel
theorem dX4_pass_141 : decode cX4_pass 141 = .ok (.aload_n 0, 1) := by decide +kernel
theorem dX4_pass_142 : decode cX4_pass 142 = .ok (.getfield 9, 3) := by decide +kernel
theorem dX4_pass_145 : decode cX4_pass 145 = .ok (.iload_n 2, 1) := by decide +kernel
theorem dX4_pass_146 : decode cX4_pass 146 = .ok (.invokestatic 37, 3) := by decide +kernel
theorem dX4_pass_149 : decode cX4_pass 149 = .ok (.ixor, 1) := by decide +kernel
theorem dX4_pass_150 : decode cX4_pass 150 = .ok (.putfield 18, 3) := by decide +kernel
theorem dX4_pass_153 : decode cX4_pass 153 = .ok (.goto 60, 3) := by decide +kernel
theorem dX4_pass_156 : decode cX4_pass 156 = .ok (.aload_n 0, 1) := by decide +kernel
theorem dX4_pass_157 : decode cX4_pass 157 = .ok (.iload_n 2, 1) := by decide +kernel
theorem dX4_pass_158 : decode cX4_pass 158 = .ok (.iload_n 3, 1) := by decide +kernel
theorem dX4_pass_159 : decode cX4_pass 159 = .ok (.invokevirtual 41, 3) := by decide +kernel
theorem dX4_pass_162 : decode cX4_pass 162 = .ok (.goto 51, 3) := by decide +kernel
theorem dX4_pass_165 : decode cX4_pass 165 = .ok (.aload_n 0, 1) := by decide +kernel
theorem dX4_pass_166 : decode cX4_pass 166 = .ok (.iload_n 3, 1) := by decide +kernel
theorem dX4_pass_167 : decode cX4_pass 167 = .ok (.invokevirtual 33, 3) := by decide +kernel
theorem dX4_pass_170 : decode cX4_pass 170 = .ok (.aload_n 0, 1) := by decide +kernel
theorem dX4_pass_171 : decode cX4_pass 171 = .ok (.iload_n 2, 1) := by decide +kernel
theorem dX4_pass_172 : decode cX4_pass 172 = .ok (.iload_n 3, 1) := by decide +kernel
theorem dX4_pass_173 : decode cX4_pass 173 = .ok (.invokevirtual 41, 3) := by decide +kernel
theorem dX4_pass_176 : decode cX4_pass 176 = .ok (.aload_n 0, 1) := by decide +kernel
theorem dX4_pass_177 : decode cX4_pass 177 = .ok (.iload_n 3, 1) := by decide +kernel
theorem dX4_pass_178 : decode cX4_pass 178 = .ok (.invokevirtual 33, 3) := by decide +kernel
theorem dX4_pass_181 : decode cX4_pass 181 = .ok (.goto 32, 3) := by decide +kernel
theorem dX4_pass_184 : decode cX4_pass 184 = .ok (.aload_n 0, 1) := by decide +kernel
theorem dX4_pass_185 : decode cX4_pass 185 = .ok (.aload_n 0, 1) := by decide +kernel
theorem dX4_pass_186 : decode cX4_pass 186 = .ok (.getfield 9, 3) := by decide +kernel
theorem dX4_pass_189 : decode cX4_pass 189 = .ok (.iload_n 2, 1) := by decide +kernel
theorem dX4_pass_190 : decode cX4_pass 190 = .ok (.iload_n 3, 1) := by decide +kernel
theorem dX4_pass_191 : decode cX4_pass 191 = .ok (.invokestatic 45, 3) := by decide +kernel
theorem dX4_pass_194 : decode cX4_pass 194 = .ok (.putfield 9, 3) := by decide +kernel
theorem dX4_pass_197 : decode cX4_pass 197 = .ok (.aload_n 0, 1) := by decide +kernel
theorem dX4_pass_198 : decode cX4_pass 198 = .ok (.aload_n 0, 1) := by decide +kernel
theorem dX4_pass_199 : decode cX4_pass 199 = .ok (.getfield 15, 3) := by decide +kernel
theorem dX4_pass_202 : decode cX4_pass 202 = .ok (.iload_n 2, 1) := by decide +kernel
theorem dX4_pass_203 : decode cX4_pass 203 = .ok (.iload_n 3, 1) := by decide +kernel
theorem dX4_pass_204 : decode cX4_pass 204 = .ok (.invokestatic 45, 3) := by decide +kernel
theorem dX4_pass_207 : decode cX4_pass 207 = .ok (.putfield 15, 3) := by decide +kernel
theorem dX4_pass_210 : decode cX4_pass 210 = .ok (.goto 3, 3) := by decide +kernel
theorem dX4_pass_213 : decode cX4_pass 213 = .ok (.return_, 1) := by decide +kernel
theorem dX4_passH_0 : decode cX4_passH 0 = .ok (.aload_n 0, 1) := by decide +kernel
theorem dX4_passH_1 : decode cX4_passH 1 = .ok (.getfield 9, 3) := by decide +kernel
theorem dX4_passH_4 : decode cX4_passH 4 = .ok (.iload_n 1, 1) := by decide +kernel
theorem dX4_passH_5 : decode cX4_passH 5 = .ok (.invokestatic 37, 3) := by decide +kernel
theorem dX4_passH_8 : decode cX4_passH 8 = .ok (.aload_n 0, 1) := by decide +kernel
theorem dX4_passH_9 : decode cX4_passH 9 = .ok (.getfield 15, 3) := by decide +kernel
theorem dX4_passH_12 : decode cX4_passH 12 = .ok (.iload_n 1, 1) := by decide +kernel
theorem dX4_passH_13 : decode cX4_passH 13 = .ok (.invokestatic 37, 3) := by decide +kernel
theorem dX4_passH_16 : decode cX4_passH 16 = .ok (.ixor, 1) := by decide +kernel
theorem dX4_passH_17 : decode cX4_passH 17 = .ok (.istore_n 2, 1) := by decide +kernel
theorem dX4_passH_18 : decode cX4_passH 18 = .ok (.aload_n 0, 1) := by decide +kernel
theorem dX4_passH_19 : decode cX4_passH 19 = .ok (.dup, 1) := by decide +kernel
theorem dX4_passH_20 : decode cX4_passH 20 = .ok (.getfield 18, 3) := by decide +kernel
theorem dX4_passH_23 : decode cX4_passH 23 = .ok (.aload_n 0, 1) := by decide +kernel
theorem dX4_passH_24 : decode cX4_passH 24 = .ok (.getfield 9, 3) := by decide +kernel
theorem dX4_passH_27 : decode cX4_passH 27 = .ok (.iload_n 1, 1) := by decide +kernel
theorem dX4_passH_28 : decode cX4_passH 28 = .ok (.invokestatic 37, 3) := by decide +kernel
theorem dX4_passH_31 : decode cX4_passH 31 = .ok (.aload_n 0, 1) := by decide +kernel
theorem dX4_passH_32 : decode cX4_passH 32 = .ok (.getfield 15, 3) := by decide +kernel
theorem dX4_passH_35 : decode cX4_passH 35 = .ok (.iload_n 1, 1) := by decide +kernel
theorem dX4_passH_36 : decode cX4_passH 36 = .ok (.invokestatic 37, 3) := by decide +kernel
theorem dX4_passH_39 : decode cX4_passH 39 = .ok (.iand, 1) := by decide +kernel
theorem dX4_passH_40 : decode cX4_passH 40 = .ok (.ixor, 1) := by decide +kernel
theorem dX4_passH_41 : decode cX4_passH 41 = .ok (.putfield 18, 3) := by decide +kernel
theorem dX4_passH_44 : decode cX4_passH 44 = .ok (.aload_n 0, 1) := by decide +kernel
theorem dX4_passH_45 : decode cX4_passH 45 = .ok (.dup, 1) := by decide +kernel
theorem dX4_passH_46 : decode cX4_passH 46 = .ok (.getfield 9, 3) := by decide +kernel
theorem dX4_passH_49 : decode cX4_passH 49 = .ok (.iload_n 2, 1) := by decide +kernel
theorem dX4_passH_50 : decode cX4_passH 50 = .ok (.iload_n 1, 1) := by decide +kernel
theorem dX4_passH_51 : decode cX4_passH 51 = .ok (.ishl, 1) := by decide +kernel
theorem dX4_passH_52 : decode cX4_passH 52 = .ok (.ixor, 1) := by decide +kernel
theorem dX4_passH_53 : decode cX4_passH 53 = .ok (.putfield 9, 3) := by decide +kernel
theorem dX4_passH_56 : decode cX4_passH 56 = .ok (.aload_n 0, 1) := by decide +kernel
theorem dX4_passH_57 : decode cX4_passH 57 = .ok (.dup, 1) := by decide +kernel
theorem dX4_passH_58 : decode cX4_passH 58 = .ok (.getfield 15, 3) := by decide +kernel
theorem dX4_passH_61 : decode cX4_passH 61 = .ok (.iload_n 2, 1) := by decide +kernel
theorem dX4_passH_62 : decode cX4_passH 62 = .ok (.iload_n 1, 1) := by decide +kernel
theorem dX4_passH_63 : decode cX4_passH 63 = .ok (.ishl, 1) := by decide +kernel
theorem dX4_passH_64 : decode cX4_passH 64 = .ok (.ixor, 1) := by decide +kernel
theorem dX4_passH_65 : decode cX4_passH 65 = .ok (.putfield 15, 3) := by decide +kernel
theorem dX4_passH_68 : decode cX4_passH 68 = .ok (.return_, 1) := by decide +kernel
theorem dX4_passCX_0 : decode cX4_passCX 0 = .ok (.aload_n 0, 1) := by decide +kernel
theorem dX4_passCX_1 : decode cX4_passCX 1 = .ok (.dup, 1) := by decide +kernel
theorem dX4_passCX_2 : decode cX4_passCX 2 = .ok (.getfield 18, 3) := by decide +kernel
theorem dX4_passCX_5 : decode cX4_passCX 5 = .ok (.aload_n 0, 1) := by decide +kernel
theorem dX4_passCX_6 : decode cX4_passCX 6 = .ok (.getfield 9, 3) := by decide +kernel
theorem dX4_passCX_9 : decode cX4_passCX 9 = .ok (.iload_n 1, 1) := by decide +kernel
theorem dX4_passCX_10 : decode cX4_passCX 10 = .ok (.invokestatic 37, 3) := by decide +kernel
theorem dX4_passCX_13 : decode cX4_passCX 13 = .ok (.aload_n 0, 1) := by decide +kernel
theorem dX4_passCX_14 : decode cX4_passCX 14 = .ok (.getfield 15, 3) := by decide +kernel
theorem dX4_passCX_17 : decode cX4_passCX 17 = .ok (.iload_n 2, 1) := by decide +kernel
theorem dX4_passCX_18 : decode cX4_passCX 18 = .ok (.invokestatic 37, 3) := by decide +kernel
theorem dX4_passCX_21 : decode cX4_passCX 21 = .ok (.iand, 1) := by decide +kernel
theorem dX4_passCX_22 : decode cX4_passCX 22 = .ok (.iconst 1, 1) := by decide +kernel
theorem dX4_passCX_23 : decode cX4_passCX 23 = .ok (.aload_n 0, 1) := by decide +kernel
theorem dX4_passCX_24 : decode cX4_passCX 24 = .ok (.getfield 9, 3) := by decide +kernel
theorem dX4_passCX_27 : decode cX4_passCX 27 = .ok (.iload_n 2, 1) := by decide +kernel
theorem dX4_passCX_28 : decode cX4_passCX 28 = .ok (.invokestatic 37, 3) := by decide +kernel
theorem dX4_passCX_31 : decode cX4_passCX 31 = .ok (.ixor, 1) := by decide +kernel
theorem dX4_passCX_32 : decode cX4_passCX 32 = .ok (.aload_n 0, 1) := by decide +kernel
theorem dX4_passCX_33 : decode cX4_passCX 33 = .ok (.getfield 15, 3) := by decide +kernel
theorem dX4_passCX_36 : decode cX4_passCX 36 = .ok (.iload_n 1, 1) := by decide +kernel
theorem dX4_passCX_37 : decode cX4_passCX 37 = .ok (.invokestatic 37, 3) := by decide +kernel
theorem dX4_passCX_40 : decode cX4_passCX 40 = .ok (.ixor, 1) := by decide +kernel
theorem dX4_passCX_41 : decode cX4_passCX 41 = .ok (.iand, 1) := by decide +kernel
theorem dX4_passCX_42 : decode cX4_passCX 42 = .ok (.ixor, 1) := by decide +kernel
theorem dX4_passCX_43 : decode cX4_passCX 43 = .ok (.putfield 18, 3) := by decide +kernel
theorem dX4_passCX_46 : decode cX4_passCX 46 = .ok (.aload_n 0, 1) := by decide +kernel
theorem dX4_passCX_47 : decode cX4_passCX 47 = .ok (.dup, 1) := by decide +kernel
theorem dX4_passCX_48 : decode cX4_passCX 48 = .ok (.getfield 9, 3) := by decide +kernel
theorem dX4_passCX_51 : decode cX4_passCX 51 = .ok (.aload_n 0, 1) := by decide +kernel
theorem dX4_passCX_52 : decode cX4_passCX 52 = .ok (.getfield 9, 3) := by decide +kernel
theorem dX4_passCX_55 : decode cX4_passCX 55 = .ok (.iload_n 1, 1) := by decide +kernel
theorem dX4_passCX_56 : decode cX4_passCX 56 = .ok (.invokestatic 37, 3) := by decide +kernel
theorem dX4_passCX_59 : decode cX4_passCX 59 = .ok (.iload_n 2, 1) := by decide +kernel
theorem dX4_passCX_60 : decode cX4_passCX 60 = .ok (.ishl, 1) := by decide +kernel
theorem dX4_passCX_61 : decode cX4_passCX 61 = .ok (.ixor, 1) := by decide +kernel
theorem dX4_passCX_62 : decode cX4_passCX 62 = .ok (.putfield 9, 3) := by decide +kernel
theorem dX4_passCX_65 : decode cX4_passCX 65 = .ok (.aload_n 0, 1) := by decide +kernel
theorem dX4_passCX_66 : decode cX4_passCX 66 = .ok (.dup, 1) := by decide +kernel
theorem dX4_passCX_67 : decode cX4_passCX 67 = .ok (.getfield 15, 3) := by decide +kernel
theorem dX4_passCX_70 : decode cX4_passCX 70 = .ok (.aload_n 0, 1) := by decide +kernel
theorem dX4_passCX_71 : decode cX4_passCX 71 = .ok (.getfield 15, 3) := by decide +kernel
theorem dX4_passCX_74 : decode cX4_passCX 74 = .ok (.iload_n 2, 1) := by decide +kernel
theorem dX4_passCX_75 : decode cX4_passCX 75 = .ok (.invokestatic 37, 3) := by decide +kernel
theorem dX4_passCX_78 : decode cX4_passCX 78 = .ok (.iload_n 1, 1) := by decide +kernel
theorem dX4_passCX_79 : decode cX4_passCX 79 = .ok (.ishl, 1) := by decide +kernel
theorem dX4_passCX_80 : decode cX4_passCX 80 = .ok (.ixor, 1) := by decide +kernel
theorem dX4_passCX_81 : decode cX4_passCX 81 = .ok (.putfield 15, 3) := by decide +kernel
theorem dX4_passCX_84 : decode cX4_passCX 84 = .ok (.return_, 1) := by decide +kernel
theorem dX4_traded_0 : decode cX4_traded 0 = .ok (.iload_n 0, 1) := by decide +kernel
theorem dX4_traded_1 : decode cX4_traded 1 = .ok (.iload_n 1, 1) := by decide +kernel
theorem dX4_traded_2 : decode cX4_traded 2 = .ok (.invokestatic 37, 3) := by decide +kernel
theorem dX4_traded_5 : decode cX4_traded 5 = .ok (.iload_n 0, 1) := by decide +kernel
theorem dX4_traded_6 : decode cX4_traded 6 = .ok (.iload_n 2, 1) := by decide +kernel
theorem dX4_traded_7 : decode cX4_traded 7 = .ok (.invokestatic 37, 3) := by decide +kernel
theorem dX4_traded_10 : decode cX4_traded 10 = .ok (.ixor, 1) := by decide +kernel
theorem dX4_traded_11 : decode cX4_traded 11 = .ok (.istore_n 3, 1) := by decide +kernel
theorem dX4_traded_12 : decode cX4_traded 12 = .ok (.iload_n 0, 1) := by decide +kernel
theorem dX4_traded_13 : decode cX4_traded 13 = .ok (.iload_n 3, 1) := by decide +kernel
theorem dX4_traded_14 : decode cX4_traded 14 = .ok (.iload_n 1, 1) := by decide +kernel
theorem dX4_traded_15 : decode cX4_traded 15 = .ok (.ishl, 1) := by decide +kernel
theorem dX4_traded_16 : decode cX4_traded 16 = .ok (.ixor, 1) := by decide +kernel
theorem dX4_traded_17 : decode cX4_traded 17 = .ok (.iload_n 3, 1) := by decide +kernel
theorem dX4_traded_18 : decode cX4_traded 18 = .ok (.iload_n 2, 1) := by decide +kernel
theorem dX4_traded_19 : decode cX4_traded 19 = .ok (.ishl, 1) := by decide +kernel
theorem dX4_traded_20 : decode cX4_traded 20 = .ok (.ixor, 1) := by decide +kernel
theorem dX4_traded_21 : decode cX4_traded 21 = .ok (.ireturn, 1) := by decide +kernel
theorem dX4_digits_0 : decode cX4_digits 0 = .ok (.sipush 256, 3) := by decide +kernel
theorem dX4_digits_3 : decode cX4_digits 3 = .ok (.aload_n 0, 1) := by decide +kernel
theorem dX4_digits_4 : decode cX4_digits 4 = .ok (.getfield 18, 3) := by decide +kernel
theorem dX4_digits_7 : decode cX4_digits 7 = .ok (.imul, 1) := by decide +kernel
theorem dX4_digits_8 : decode cX4_digits 8 = .ok (.istore_n 1, 1) := by decide +kernel
theorem dX4_digits_9 : decode cX4_digits 9 = .ok (.iconst 0, 1) := by decide +kernel
theorem dX4_digits_10 : decode cX4_digits 10 = .ok (.istore_n 2, 1) := by decide +kernel
theorem dX4_digits_11 : decode cX4_digits 11 = .ok (.iload_n 2, 1) := by decide +kernel
theorem dX4_digits_12 : decode cX4_digits 12 = .ok (.iconst 4, 1) := by decide +kernel
theorem dX4_digits_13 : decode cX4_digits 13 = .ok (.if_icmp .ge 53, 3) := by decide +kernel
theorem dX4_digits_16 : decode cX4_digits 16 = .ok (.aload_n 0, 1) := by decide +kernel
theorem dX4_digits_17 : decode cX4_digits 17 = .ok (.getfield 9, 3) := by decide +kernel
theorem dX4_digits_20 : decode cX4_digits 20 = .ok (.iload_n 2, 1) := by decide +kernel
theorem dX4_digits_21 : decode cX4_digits 21 = .ok (.invokestatic 37, 3) := by decide +kernel
theorem dX4_digits_24 : decode cX4_digits 24 = .ok (.iconst 1, 1) := by decide +kernel
theorem dX4_digits_25 : decode cX4_digits 25 = .ok (.if_icmp .ne 16, 3) := by decide +kernel
theorem dX4_digits_28 : decode cX4_digits 28 = .ok (.iconst 1, 1) := by decide +kernel
theorem dX4_digits_29 : decode cX4_digits 29 = .ok (.aload_n 0, 1) := by decide +kernel
theorem dX4_digits_30 : decode cX4_digits 30 = .ok (.getfield 15, 3) := by decide +kernel
theorem dX4_digits_33 : decode cX4_digits 33 = .ok (.iload_n 2, 1) := by decide +kernel
theorem dX4_digits_34 : decode cX4_digits 34 = .ok (.invokestatic 37, 3) := by decide +kernel
theorem dX4_digits_37 : decode cX4_digits 37 = .ok (.iadd, 1) := by decide +kernel
theorem dX4_digits_38 : decode cX4_digits 38 = .ok (.goto 13, 3) := by decide +kernel
theorem dX4_digits_41 : decode cX4_digits 41 = .ok (.iconst 3, 1) := by decide +kernel
theorem dX4_digits_42 : decode cX4_digits 42 = .ok (.aload_n 0, 1) := by decide +kernel
theorem dX4_digits_43 : decode cX4_digits 43 = .ok (.getfield 15, 3) := by decide +kernel
theorem dX4_digits_46 : decode cX4_digits 46 = .ok (.iload_n 2, 1) := by decide +kernel
theorem dX4_digits_47 : decode cX4_digits 47 = .ok (.invokestatic 37, 3) := by decide +kernel
theorem dX4_digits_50 : decode cX4_digits 50 = .ok (.imul, 1) := by decide +kernel
theorem dX4_digits_51 : decode cX4_digits 51 = .ok (.istore_n 3, 1) := by decide +kernel
theorem dX4_digits_52 : decode cX4_digits 52 = .ok (.iload_n 1, 1) := by decide +kernel
theorem dX4_digits_53 : decode cX4_digits 53 = .ok (.iload_n 3, 1) := by decide +kernel
theorem dX4_digits_54 : decode cX4_digits 54 = .ok (.iconst 2, 1) := by decide +kernel
theorem dX4_digits_55 : decode cX4_digits 55 = .ok (.iload_n 2, 1) := by decide +kernel
theorem dX4_digits_56 : decode cX4_digits 56 = .ok (.imul, 1) := by decide +kernel
theorem dX4_digits_57 : decode cX4_digits 57 = .ok (.ishl, 1) := by decide +kernel
theorem dX4_digits_58 : decode cX4_digits 58 = .ok (.iadd, 1) := by decide +kernel
theorem dX4_digits_59 : decode cX4_digits 59 = .ok (.istore_n 1, 1) := by decide +kernel
theorem dX4_digits_60 : decode cX4_digits 60 = .ok (.iinc 2 1, 3) := by decide +kernel
theorem dX4_digits_63 : decode cX4_digits 63 = .ok (.goto (-52), 3) := by decide +kernel
theorem dX4_digits_66 : decode cX4_digits 66 = .ok (.iload_n 1, 1) := by decide +kernel
theorem dX4_digits_67 : decode cX4_digits 67 = .ok (.ireturn, 1) := by decide +kernel
theorem dX5_init_0 : decode cX5_init 0 = .ok (.aload_n 0, 1) := by decide +kernel
theorem dX5_init_1 : decode cX5_init 1 = .ok (.invokespecial 3, 3) := by decide +kernel
theorem dX5_init_4 : decode cX5_init 4 = .ok (.aload_n 0, 1) := by decide +kernel
theorem dX5_init_5 : decode cX5_init 5 = .ok (.sipush 320, 3) := by decide +kernel
theorem dX5_init_8 : decode cX5_init 8 = .ok (.newarray .char, 2) := by decide +kernel
theorem dX5_init_10 : decode cX5_init 10 = .ok (.putfield 11, 3) := by decide +kernel
theorem dX5_init_13 : decode cX5_init 13 = .ok (.aload_n 0, 1) := by decide +kernel
theorem dX5_init_14 : decode cX5_init 14 = .ok (.iconst 0, 1) := by decide +kernel
theorem dX5_init_15 : decode cX5_init 15 = .ok (.putfield 15, 3) := by decide +kernel
theorem dX5_init_18 : decode cX5_init 18 = .ok (.aload_n 0, 1) := by decide +kernel
theorem dX5_init_19 : decode cX5_init 19 = .ok (.iconst 0, 1) := by decide +kernel
theorem dX5_init_20 : decode cX5_init 20 = .ok (.putfield 19, 3) := by decide +kernel
theorem dX5_init_23 : decode cX5_init 23 = .ok (.return_, 1) := by decide +kernel
theorem dX5_count_0 : decode cX5_count 0 = .ok (.aload_n 0, 1) := by decide +kernel
theorem dX5_count_1 : decode cX5_count 1 = .ok (.getfield 15, 3) := by decide +kernel
theorem dX5_count_4 : decode cX5_count 4 = .ok (.ireturn, 1) := by decide +kernel
theorem dX5_at_0 : decode cX5_at 0 = .ok (.iload_n 1, 1) := by decide +kernel
theorem dX5_at_1 : decode cX5_at 1 = .ok (.ifCond .lt 20, 3) := by decide +kernel
theorem dX5_at_4 : decode cX5_at 4 = .ok (.iload_n 1, 1) := by decide +kernel
theorem dX5_at_5 : decode cX5_at 5 = .ok (.aload_n 0, 1) := by decide +kernel
theorem dX5_at_6 : decode cX5_at 6 = .ok (.getfield 15, 3) := by decide +kernel
theorem dX5_at_9 : decode cX5_at 9 = .ok (.if_icmp .ge 12, 3) := by decide +kernel
theorem dX5_at_12 : decode cX5_at 12 = .ok (.aload_n 0, 1) := by decide +kernel
theorem dX5_at_13 : decode cX5_at 13 = .ok (.getfield 11, 3) := by decide +kernel
theorem dX5_at_16 : decode cX5_at 16 = .ok (.iload_n 1, 1) := by decide +kernel
theorem dX5_at_17 : decode cX5_at 17 = .ok (.caload, 1) := by decide +kernel
theorem dX5_at_18 : decode cX5_at 18 = .ok (.goto 4, 3) := by decide +kernel
theorem dX5_at_21 : decode cX5_at 21 = .ok (.iconst (-1), 1) := by decide +kernel
theorem dX5_at_22 : decode cX5_at 22 = .ok (.ireturn, 1) := by decide +kernel
theorem dX5_removeAll_0 : decode cX5_removeAll 0 = .ok (.aload_n 0, 1) := by decide +kernel
theorem dX5_removeAll_1 : decode cX5_removeAll 1 = .ok (.iconst 0, 1) := by decide +kernel
theorem dX5_removeAll_2 : decode cX5_removeAll 2 = .ok (.putfield 15, 3) := by decide +kernel
theorem dX5_removeAll_5 : decode cX5_removeAll 5 = .ok (.return_, 1) := by decide +kernel
theorem dX5_addBytes_0 : decode cX5_addBytes 0 = .ok (.iload_n 3, 1) := by decide +kernel
theorem dX5_addBytes_1 : decode cX5_addBytes 1 = .ok (.iconst 1, 1) := by decide +kernel
theorem dX5_addBytes_2 : decode cX5_addBytes 2 = .ok (.if_icmp .lt 21, 3) := by decide +kernel
theorem dX5_addBytes_5 : decode cX5_addBytes 5 = .ok (.iload_n 3, 1) := by decide +kernel
theorem dX5_addBytes_6 : decode cX5_addBytes 6 = .ok (.bipush 8, 2) := by decide +kernel
theorem dX5_addBytes_8 : decode cX5_addBytes 8 = .ok (.if_icmp .gt 15, 3) := by decide +kernel
theorem dX5_addBytes_11 : decode cX5_addBytes 11 = .ok (.aload_n 0, 1) := by decide +kernel
theorem dX5_addBytes_12 : decode cX5_addBytes 12 = .ok (.getfield 15, 3) := by decide +kernel
theorem dX5_addBytes_15 : decode cX5_addBytes 15 = .ok (.iload_n 3, 1) := by decide +kernel
theorem dX5_addBytes_16 : decode cX5_addBytes 16 = .ok (.iadd, 1) := by decide +kernel
theorem dX5_addBytes_17 : decode cX5_addBytes 17 = .ok (.sipush 320, 3) := by decide +kernel
theorem dX5_addBytes_20 : decode cX5_addBytes 20 = .ok (.if_icmp .le 5, 3) := by decide +kernel
theorem dX5_addBytes_23 : decode cX5_addBytes 23 = .ok (.iconst 0, 1) := by decide +kernel
theorem dX5_addBytes_24 : decode cX5_addBytes 24 = .ok (.ireturn, 1) := by decide +kernel
theorem dX5_addBytes_25 : decode cX5_addBytes 25 = .ok (.iconst 0, 1) := by decide +kernel
theorem dX5_addBytes_26 : decode cX5_addBytes 26 = .ok (.istore 4, 2) := by decide +kernel
theorem dX5_addBytes_28 : decode cX5_addBytes 28 = .ok (.iload 4, 2) := by decide +kernel
theorem dX5_addBytes_30 : decode cX5_addBytes 30 = .ok (.iload_n 3, 1) := by decide +kernel
theorem dX5_addBytes_31 : decode cX5_addBytes 31 = .ok (.if_icmp .ge 33, 3) := by decide +kernel
theorem dX5_addBytes_34 : decode cX5_addBytes 34 = .ok (.lload_n 1, 1) := by decide +kernel
theorem dX5_addBytes_35 : decode cX5_addBytes 35 = .ok (.iload 4, 2) := by decide +kernel
theorem dX5_addBytes_37 : decode cX5_addBytes 37 = .ok (.invokestatic 22, 3) := by decide +kernel
theorem dX5_addBytes_40 : decode cX5_addBytes 40 = .ok (.istore 5, 2) := by decide +kernel
theorem dX5_addBytes_42 : decode cX5_addBytes 42 = .ok (.iload 5, 2) := by decide +kernel
theorem dX5_addBytes_44 : decode cX5_addBytes 44 = .ok (.bipush 32, 2) := by decide +kernel
theorem dX5_addBytes_46 : decode cX5_addBytes 46 = .ok (.if_icmp .lt 10, 3) := by decide +kernel
theorem dX5_addBytes_49 : decode cX5_addBytes 49 = .ok (.iload 5, 2) := by decide +kernel
theorem dX5_addBytes_51 : decode cX5_addBytes 51 = .ok (.bipush 126, 2) := by decide +kernel
theorem dX5_addBytes_53 : decode cX5_addBytes 53 = .ok (.if_icmp .le 5, 3) := by decide +kernel
theorem dX5_addBytes_56 : decode cX5_addBytes 56 = .ok (.iconst 0, 1) := by decide +kernel
theorem dX5_addBytes_57 : decode cX5_addBytes 57 = .ok (.ireturn, 1) := by decide +kernel
theorem dX5_addBytes_58 : decode cX5_addBytes 58 = .ok (.iinc 4 1, 3) := by decide +kernel
theorem dX5_addBytes_61 : decode cX5_addBytes 61 = .ok (.goto (-33), 3) := by decide +kernel
theorem dX5_addBytes_64 : decode cX5_addBytes 64 = .ok (.iload_n 3, 1) := by decide +kernel
theorem dX5_addBytes_65 : decode cX5_addBytes 65 = .ok (.iconst 1, 1) := by decide +kernel
theorem dX5_addBytes_66 : decode cX5_addBytes 66 = .ok (.isub, 1) := by decide +kernel
theorem dX5_addBytes_67 : decode cX5_addBytes 67 = .ok (.istore 4, 2) := by decide +kernel
theorem dX5_addBytes_69 : decode cX5_addBytes 69 = .ok (.iload 4, 2) := by decide +kernel
theorem dX5_addBytes_71 : decode cX5_addBytes 71 = .ok (.ifCond .lt 20, 3) := by decide +kernel
theorem dX5_addBytes_74 : decode cX5_addBytes 74 = .ok (.aload_n 0, 1) := by decide +kernel
theorem dX5_addBytes_75 : decode cX5_addBytes 75 = .ok (.lload_n 1, 1) := by decide +kernel
theorem dX5_addBytes_76 : decode cX5_addBytes 76 = .ok (.iload 4, 2) := by decide +kernel
theorem dX5_addBytes_78 : decode cX5_addBytes 78 = .ok (.invokestatic 22, 3) := by decide +kernel
theorem dX5_addBytes_81 : decode cX5_addBytes 81 = .ok (.i2c, 1) := by decide +kernel
theorem dX5_addBytes_82 : decode cX5_addBytes 82 = .ok (.invokevirtual 26, 3) := by decide +kernel
theorem dX5_addBytes_85 : decode cX5_addBytes 85 = .ok (.iinc 4 (-1), 3) := by decide +kernel
theorem dX5_addBytes_88 : decode cX5_addBytes 88 = .ok (.goto (-19), 3) := by decide +kernel
theorem dX5_addBytes_91 : decode cX5_addBytes 91 = .ok (.iconst 1, 1) := by decide +kernel
theorem dX5_addBytes_92 : decode cX5_addBytes 92 = .ok (.ireturn, 1) := by decide +kernel
theorem dX5_byteAt_0 : decode cX5_byteAt 0 = .ok (.lload_n 0, 1) := by decide +kernel
theorem dX5_byteAt_1 : decode cX5_byteAt 1 = .ok (.bipush 8, 2) := by decide +kernel
theorem dX5_byteAt_3 : decode cX5_byteAt 3 = .ok (.iload_n 2, 1) := by decide +kernel
theorem dX5_byteAt_4 : decode cX5_byteAt 4 = .ok (.imul, 1) := by decide +kernel
theorem dX5_byteAt_5 : decode cX5_byteAt 5 = .ok (.lushr, 1) := by decide +kernel
theorem dX5_byteAt_6 : decode cX5_byteAt 6 = .ok (.ldc2_w 30, 3) := by decide +kernel
theorem dX5_byteAt_9 : decode cX5_byteAt 9 = .ok (.land, 1) := by decide +kernel
theorem dX5_byteAt_10 : decode cX5_byteAt 10 = .ok (.l2i, 1) := by decide +kernel
theorem dX5_byteAt_11 : decode cX5_byteAt 11 = .ok (.ireturn, 1) := by decide +kernel
theorem dX5_put_0 : decode cX5_put 0 = .ok (.aload_n 0, 1) := by decide +kernel
theorem dX5_put_1 : decode cX5_put 1 = .ok (.getfield 15, 3) := by decide +kernel
theorem dX5_put_4 : decode cX5_put 4 = .ok (.sipush 320, 3) := by decide +kernel
theorem dX5_put_7 : decode cX5_put 7 = .ok (.if_icmp .ge 23, 3) := by decide +kernel
theorem dX5_put_10 : decode cX5_put 10 = .ok (.aload_n 0, 1) := by decide +kernel
theorem dX5_put_11 : decode cX5_put 11 = .ok (.getfield 11, 3) := by decide +kernel
theorem dX5_put_14 : decode cX5_put 14 = .ok (.aload_n 0, 1) := by decide +kernel
theorem dX5_put_15 : decode cX5_put 15 = .ok (.getfield 15, 3) := by decide +kernel
theorem dX5_put_18 : decode cX5_put 18 = .ok (.iload_n 1, 1) := by decide +kernel
theorem dX5_put_19 : decode cX5_put 19 = .ok (.castore, 1) := by decide +kernel
theorem dX5_put_20 : decode cX5_put 20 = .ok (.aload_n 0, 1) := by decide +kernel
theorem dX5_put_21 : decode cX5_put 21 = .ok (.dup, 1) := by decide +kernel
theorem dX5_put_22 : decode cX5_put 22 = .ok (.getfield 15, 3) := by decide +kernel
theorem dX5_put_25 : decode cX5_put 25 = .ok (.iconst 1, 1) := by decide +kernel
theorem dX5_put_26 : decode cX5_put 26 = .ok (.iadd, 1) := by decide +kernel
theorem dX5_put_27 : decode cX5_put 27 = .ok (.putfield 15, 3) := by decide +kernel
theorem dX5_put_30 : decode cX5_put 30 = .ok (.return_, 1) := by decide +kernel
theorem dX5_write_0 : decode cX5_write 0 = .ok (.aload_n 0, 1) := by decide +kernel
theorem dX5_write_1 : decode cX5_write 1 = .ok (.invokevirtual 32, 3) := by decide +kernel
theorem dX5_write_4 : decode cX5_write 4 = .ok (.iconst 0, 1) := by decide +kernel
theorem dX5_write_5 : decode cX5_write 5 = .ok (.istore_n 2, 1) := by decide +kernel
theorem dX5_write_6 : decode cX5_write 6 = .ok (.iload_n 2, 1) := by decide +kernel
theorem dX5_write_7 : decode cX5_write 7 = .ok (.aload_n 1, 1) := by decide +kernel
theorem dX5_write_8 : decode cX5_write 8 = .ok (.invokevirtual 35, 3) := by decide +kernel
theorem dX5_write_11 : decode cX5_write 11 = .ok (.if_icmp .ge 28, 3) := by decide +kernel
theorem dX5_write_14 : decode cX5_write 14 = .ok (.iload_n 2, 1) := by decide +kernel
theorem dX5_write_15 : decode cX5_write 15 = .ok (.ifCond .le 9, 3) := by decide +kernel
theorem dX5_write_18 : decode cX5_write 18 = .ok (.aload_n 0, 1) := by decide +kernel
theorem dX5_write_19 : decode cX5_write 19 = .ok (.bipush 32, 2) := by decide +kernel
theorem dX5_write_21 : decode cX5_write 21 = .ok (.invokevirtual 26, 3) := by decide +kernel
theorem dX5_write_24 : decode cX5_write 24 = .ok (.aload_n 0, 1) := by decide +kernel
theorem dX5_write_25 : decode cX5_write 25 = .ok (.aload_n 1, 1) := by decide +kernel
theorem dX5_write_26 : decode cX5_write 26 = .ok (.iload_n 2, 1) := by decide +kernel
theorem dX5_write_27 : decode cX5_write 27 = .ok (.invokevirtual 40, 3) := by decide +kernel
theorem dX5_write_30 : decode cX5_write 30 = .ok (.invokevirtual 44, 3) := by decide +kernel
theorem dX5_write_33 : decode cX5_write 33 = .ok (.iinc 2 1, 3) := by decide +kernel
theorem dX5_write_36 : decode cX5_write 36 = .ok (.goto (-30), 3) := by decide +kernel
theorem dX5_write_39 : decode cX5_write 39 = .ok (.return_, 1) := by decide +kernel
theorem dX5_writeGate_0 : decode cX5_writeGate 0 = .ok (.iload_n 1, 1) := by decide +kernel
theorem dX5_writeGate_1 : decode cX5_writeGate 1 = .ok (.invokestatic 48, 3) := by decide +kernel
theorem dX5_writeGate_4 : decode cX5_writeGate 4 = .ok (.istore_n 2, 1) := by decide +kernel
theorem dX5_writeGate_5 : decode cX5_writeGate 5 = .ok (.iload_n 2, 1) := by decide +kernel
theorem dX5_writeGate_6 : decode cX5_writeGate 6 = .ok (.iconst 1, 1) := by decide +kernel
theorem dX5_writeGate_7 : decode cX5_writeGate 7 = .ok (.if_icmp .lt 12, 3) := by decide +kernel
theorem dX5_writeGate_10 : decode cX5_writeGate 10 = .ok (.iload_n 2, 1) := by decide +kernel
theorem dX5_writeGate_11 : decode cX5_writeGate 11 = .ok (.ldc 53, 2) := by decide +kernel
theorem dX5_writeGate_13 : decode cX5_writeGate 13 = .ok (.invokevirtual 55, 3) := by decide +kernel
theorem dX5_writeGate_16 : decode cX5_writeGate 16 = .ok (.if_icmp .le 4, 3) := by decide +kernel
theorem dX5_writeGate_19 : decode cX5_writeGate 19 = .ok (.return_, 1) := by decide +kernel
theorem dX5_writeGate_20 : decode cX5_writeGate 20 = .ok (.aload_n 0, 1) := by decide +kernel
theorem dX5_writeGate_21 : decode cX5_writeGate 21 = .ok (.ldc 53, 2) := by decide +kernel
theorem dX5_writeGate_23 : decode cX5_writeGate 23 = .ok (.iload_n 2, 1) := by decide +kernel
theorem dX5_writeGate_24 : decode cX5_writeGate 24 = .ok (.iconst 1, 1) := by decide +kernel
theorem dX5_writeGate_25 : decode cX5_writeGate 25 = .ok (.isub, 1) := by decide +kernel
theorem dX5_writeGate_26 : decode cX5_writeGate 26 = .ok (.invokevirtual 60, 3) := by decide +kernel
theorem dX5_writeGate_29 : decode cX5_writeGate 29 = .ok (.invokevirtual 26, 3) := by decide +kernel
theorem dX5_writeGate_32 : decode cX5_writeGate 32 = .ok (.iload_n 1, 1) := by decide +kernel
theorem dX5_writeGate_33 : decode cX5_writeGate 33 = .ok (.bipush 10, 2) := by decide +kernel
theorem dX5_writeGate_35 : decode cX5_writeGate 35 = .ok (.idiv, 1) := by decide +kernel
theorem dX5_writeGate_36 : decode cX5_writeGate 36 = .ok (.istore_n 3, 1) := by decide +kernel
theorem dX5_writeGate_37 : decode cX5_writeGate 37 = .ok (.iconst 0, 1) := by decide +kernel
theorem dX5_writeGate_38 : decode cX5_writeGate 38 = .ok (.istore 4, 2) := by decide +kernel
theorem dX5_writeGate_40 : decode cX5_writeGate 40 = .ok (.iload 4, 2) := by decide +kernel
theorem dX5_writeGate_42 : decode cX5_writeGate 42 = .ok (.iload_n 2, 1) := by decide +kernel
theorem dX5_writeGate_43 : decode cX5_writeGate 43 = .ok (.invokestatic 64, 3) := by decide +kernel
theorem dX5_writeGate_46 : decode cX5_writeGate 46 = .ok (.if_icmp .ge 26, 3) := by decide +kernel
theorem dX5_writeGate_49 : decode cX5_writeGate 49 = .ok (.aload_n 0, 1) := by decide +kernel
theorem dX5_writeGate_50 : decode cX5_writeGate 50 = .ok (.bipush 48, 2) := by decide +kernel
theorem dX5_writeGate_52 : decode cX5_writeGate 52 = .ok (.iload_n 3, 1) := by decide +kernel
theorem dX5_writeGate_53 : decode cX5_writeGate 53 = .ok (.bipush 10, 2) := by decide +kernel
theorem dX5_writeGate_55 : decode cX5_writeGate 55 = .ok (.irem, 1) := by decide +kernel
theorem dX5_writeGate_56 : decode cX5_writeGate 56 = .ok (.iadd, 1) := by decide +kernel
theorem dX5_writeGate_57 : decode cX5_writeGate 57 = .ok (.i2c, 1) := by decide +kernel
theorem dX5_writeGate_58 : decode cX5_writeGate 58 = .ok (.invokevirtual 26, 3) := by decide +kernel
theorem dX5_writeGate_61 : decode cX5_writeGate 61 = .ok (.iload_n 3, 1) := by decide +kernel
theorem dX5_writeGate_62 : decode cX5_writeGate 62 = .ok (.bipush 10, 2) := by decide +kernel
theorem dX5_writeGate_64 : decode cX5_writeGate 64 = .ok (.idiv, 1) := by decide +kernel
theorem dX5_writeGate_65 : decode cX5_writeGate 65 = .ok (.istore_n 3, 1) := by decide +kernel
theorem dX5_writeGate_66 : decode cX5_writeGate 66 = .ok (.iinc 4 1, 3) := by decide +kernel
theorem dX5_writeGate_69 : decode cX5_writeGate 69 = .ok (.goto (-29), 3) := by decide +kernel
theorem dX5_writeGate_72 : decode cX5_writeGate 72 = .ok (.return_, 1) := by decide +kernel
theorem dX5_parse_0 : decode cX5_parse 0 = .ok (.aload_n 1, 1) := by decide +kernel
theorem dX5_parse_1 : decode cX5_parse 1 = .ok (.invokevirtual 67, 3) := by decide +kernel
theorem dX5_parse_4 : decode cX5_parse 4 = .ok (.aload_n 0, 1) := by decide +kernel
theorem dX5_parse_5 : decode cX5_parse 5 = .ok (.iconst 0, 1) := by decide +kernel
theorem dX5_parse_6 : decode cX5_parse 6 = .ok (.putfield 19, 3) := by decide +kernel
theorem dX5_parse_9 : decode cX5_parse 9 = .ok (.aload_n 0, 1) := by decide +kernel
theorem dX5_parse_10 : decode cX5_parse 10 = .ok (.getfield 15, 3) := by decide +kernel
theorem dX5_parse_13 : decode cX5_parse 13 = .ok (.ifCond .ne 5, 3) := by decide +kernel
theorem dX5_parse_16 : decode cX5_parse 16 = .ok (.iconst (-1), 1) := by decide +kernel
theorem dX5_parse_17 : decode cX5_parse 17 = .ok (.ireturn, 1) := by decide +kernel
theorem dX5_parse_18 : decode cX5_parse 18 = .ok (.iconst 0, 1) := by decide +kernel
theorem dX5_parse_19 : decode cX5_parse 19 = .ok (.istore_n 3, 1) := by decide +kernel
theorem dX5_parse_20 : decode cX5_parse 20 = .ok (.iload_n 3, 1) := by decide +kernel
theorem dX5_parse_21 : decode cX5_parse 21 = .ok (.bipush 64, 2) := by decide +kernel
theorem dX5_parse_23 : decode cX5_parse 23 = .ok (.if_icmp .ge 74, 3) := by decide +kernel
theorem dX5_parse_26 : decode cX5_parse 26 = .ok (.aload_n 0, 1) := by decide +kernel
theorem dX5_parse_27 : decode cX5_parse 27 = .ok (.iload_n 2, 1) := by decide +kernel
theorem dX5_parse_28 : decode cX5_parse 28 = .ok (.invokevirtual 68, 3) := by decide +kernel
theorem dX5_parse_31 : decode cX5_parse 31 = .ok (.istore 4, 2) := by decide +kernel
theorem dX5_parse_33 : decode cX5_parse 33 = .ok (.iload 4, 2) := by decide +kernel
theorem dX5_parse_35 : decode cX5_parse 35 = .ok (.iconst (-1), 1) := by decide +kernel
theorem dX5_parse_36 : decode cX5_parse 36 = .ok (.if_icmp .ne 8, 3) := by decide +kernel
theorem dX5_parse_39 : decode cX5_parse 39 = .ok (.aload_n 0, 1) := by decide +kernel
theorem dX5_parse_40 : decode cX5_parse 40 = .ok (.getfield 19, 3) := by decide +kernel
theorem dX5_parse_43 : decode cX5_parse 43 = .ok (.ireturn, 1) := by decide +kernel
theorem dX5_parse_44 : decode cX5_parse 44 = .ok (.aload_n 1, 1) := by decide +kernel
theorem dX5_parse_45 : decode cX5_parse 45 = .ok (.iload 4, 2) := by decide +kernel
theorem dX5_parse_47 : decode cX5_parse 47 = .ok (.invokevirtual 71, 3) := by decide +kernel
theorem dX5_parse_50 : decode cX5_parse 50 = .ok (.aload_n 0, 1) := by decide +kernel
theorem dX5_parse_51 : decode cX5_parse 51 = .ok (.getfield 19, 3) := by decide +kernel
theorem dX5_parse_54 : decode cX5_parse 54 = .ok (.aload_n 0, 1) := by decide +kernel
theorem dX5_parse_55 : decode cX5_parse 55 = .ok (.getfield 15, 3) := by decide +kernel
theorem dX5_parse_58 : decode cX5_parse 58 = .ok (.if_icmp .ne 5, 3) := by decide +kernel
theorem dX5_parse_61 : decode cX5_parse 61 = .ok (.iconst (-1), 1) := by decide +kernel
theorem dX5_parse_62 : decode cX5_parse 62 = .ok (.ireturn, 1) := by decide +kernel
theorem dX5_parse_63 : decode cX5_parse 63 = .ok (.aload_n 0, 1) := by decide +kernel
theorem dX5_parse_64 : decode cX5_parse 64 = .ok (.aload_n 0, 1) := by decide +kernel
theorem dX5_parse_65 : decode cX5_parse 65 = .ok (.getfield 19, 3) := by decide +kernel
theorem dX5_parse_68 : decode cX5_parse 68 = .ok (.invokevirtual 74, 3) := by decide +kernel
theorem dX5_parse_71 : decode cX5_parse 71 = .ok (.bipush 32, 2) := by decide +kernel
theorem dX5_parse_73 : decode cX5_parse 73 = .ok (.if_icmp .eq 8, 3) := by decide +kernel
theorem dX5_parse_76 : decode cX5_parse 76 = .ok (.aload_n 0, 1) := by decide +kernel
theorem dX5_parse_77 : decode cX5_parse 77 = .ok (.getfield 19, 3) := by decide +kernel
theorem dX5_parse_80 : decode cX5_parse 80 = .ok (.ireturn, 1) := by decide +kernel
theorem dX5_parse_81 : decode cX5_parse 81 = .ok (.aload_n 0, 1) := by decide +kernel
theorem dX5_parse_82 : decode cX5_parse 82 = .ok (.dup, 1) := by decide +kernel
theorem dX5_parse_83 : decode cX5_parse 83 = .ok (.getfield 19, 3) := by decide +kernel
theorem dX5_parse_86 : decode cX5_parse 86 = .ok (.iconst 1, 1) := by decide +kernel
theorem dX5_parse_87 : decode cX5_parse 87 = .ok (.iadd, 1) := by decide +kernel
theorem dX5_parse_88 : decode cX5_parse 88 = .ok (.putfield 19, 3) := by decide +kernel
theorem dX5_parse_91 : decode cX5_parse 91 = .ok (.iinc 3 1, 3) := by decide +kernel
theorem dX5_parse_94 : decode cX5_parse 94 = .ok (.goto (-74), 3) := by decide +kernel
theorem dX5_parse_97 : decode cX5_parse 97 = .ok (.aload_n 0, 1) := by decide +kernel
theorem dX5_parse_98 : decode cX5_parse 98 = .ok (.getfield 19, 3) := by decide +kernel
theorem dX5_parse_101 : decode cX5_parse 101 = .ok (.ireturn, 1) := by decide +kernel
theorem dX5_parseGate_0 : decode cX5_parseGate 0 = .ok (.aload_n 0, 1) := by decide +kernel
theorem dX5_parseGate_1 : decode cX5_parseGate 1 = .ok (.getfield 19, 3) := by decide +kernel
theorem dX5_parseGate_4 : decode cX5_parseGate 4 = .ok (.aload_n 0, 1) := by decide +kernel
theorem dX5_parseGate_5 : decode cX5_parseGate 5 = .ok (.getfield 15, 3) := by decide +kernel
theorem dX5_parseGate_8 : decode cX5_parseGate 8 = .ok (.if_icmp .ge 22, 3) := by decide +kernel
theorem dX5_parseGate_11 : decode cX5_parseGate 11 = .ok (.ldc 53, 2) := by decide +kernel
theorem dX5_parseGate_13 : decode cX5_parseGate 13 = .ok (.aload_n 0, 1) := by decide +kernel
theorem dX5_parseGate_14 : decode cX5_parseGate 14 = .ok (.aload_n 0, 1) := by decide +kernel
theorem dX5_parseGate_15 : decode cX5_parseGate 15 = .ok (.getfield 19, 3) := by decide +kernel
theorem dX5_parseGate_18 : decode cX5_parseGate 18 = .ok (.invokevirtual 74, 3) := by decide +kernel
theorem dX5_parseGate_21 : decode cX5_parseGate 21 = .ok (.i2c, 1) := by decide +kernel
theorem dX5_parseGate_22 : decode cX5_parseGate 22 = .ok (.invokevirtual 75, 3) := by decide +kernel
theorem dX5_parseGate_25 : decode cX5_parseGate 25 = .ok (.iconst 1, 1) := by decide +kernel
theorem dX5_parseGate_26 : decode cX5_parseGate 26 = .ok (.iadd, 1) := by decide +kernel
theorem dX5_parseGate_27 : decode cX5_parseGate 27 = .ok (.goto 4, 3) := by decide +kernel
theorem dX5_parseGate_30 : decode cX5_parseGate 30 = .ok (.iconst 0, 1) := by decide +kernel
theorem dX5_parseGate_31 : decode cX5_parseGate 31 = .ok (.istore_n 2, 1) := by decide +kernel
theorem dX5_parseGate_32 : decode cX5_parseGate 32 = .ok (.iload_n 2, 1) := by decide +kernel
theorem dX5_parseGate_33 : decode cX5_parseGate 33 = .ok (.ifCond .ne 5, 3) := by decide +kernel
theorem dX5_parseGate_36 : decode cX5_parseGate 36 = .ok (.iconst (-1), 1) := by decide +kernel
theorem dX5_parseGate_37 : decode cX5_parseGate 37 = .ok (.ireturn, 1) := by decide +kernel
theorem dX5_parseGate_38 : decode cX5_parseGate 38 = .ok (.aload_n 0, 1) := by decide +kernel
theorem dX5_parseGate_39 : decode cX5_parseGate 39 = .ok (.dup, 1) := by decide +kernel
theorem dX5_parseGate_40 : decode cX5_parseGate 40 = .ok (.getfield 19, 3) := by decide +kernel
theorem dX5_parseGate_43 : decode cX5_parseGate 43 = .ok (.iconst 1, 1) := by decide +kernel
theorem dX5_parseGate_44 : decode cX5_parseGate 44 = .ok (.iadd, 1) := by decide +kernel
theorem dX5_parseGate_45 : decode cX5_parseGate 45 = .ok (.putfield 19, 3) := by decide +kernel
theorem dX5_parseGate_48 : decode cX5_parseGate 48 = .ok (.iload_n 2, 1) := by decide +kernel
theorem dX5_parseGate_49 : decode cX5_parseGate 49 = .ok (.istore_n 3, 1) := by decide +kernel
theorem dX5_parseGate_50 : decode cX5_parseGate 50 = .ok (.bipush 10, 2) := by decide +kernel
theorem dX5_parseGate_52 : decode cX5_parseGate 52 = .ok (.istore 4, 2) := by decide +kernel
theorem dX5_parseGate_54 : decode cX5_parseGate 54 = .ok (.iconst 0, 1) := by decide +kernel
theorem dX5_parseGate_55 : decode cX5_parseGate 55 = .ok (.istore 5, 2) := by decide +kernel
theorem dX5_parseGate_57 : decode cX5_parseGate 57 = .ok (.iconst 0, 1) := by decide +kernel
theorem dX5_parseGate_58 : decode cX5_parseGate 58 = .ok (.istore 6, 2) := by decide +kernel
theorem dX5_parseGate_60 : decode cX5_parseGate 60 = .ok (.iload 6, 2) := by decide +kernel
theorem dX5_parseGate_62 : decode cX5_parseGate 62 = .ok (.iload_n 2, 1) := by decide +kernel
theorem dX5_parseGate_63 : decode cX5_parseGate 63 = .ok (.invokestatic 64, 3) := by decide +kernel
theorem dX5_parseGate_66 : decode cX5_parseGate 66 = .ok (.if_icmp .ge 80, 3) := by decide +kernel
theorem dX5_parseGate_69 : decode cX5_parseGate 69 = .ok (.aload_n 0, 1) := by decide +kernel
theorem dX5_parseGate_70 : decode cX5_parseGate 70 = .ok (.aload_n 0, 1) := by decide +kernel
theorem dX5_parseGate_71 : decode cX5_parseGate 71 = .ok (.getfield 19, 3) := by decide +kernel
theorem dX5_parseGate_74 : decode cX5_parseGate 74 = .ok (.invokevirtual 74, 3) := by decide +kernel
theorem dX5_parseGate_77 : decode cX5_parseGate 77 = .ok (.bipush 48, 2) := by decide +kernel
theorem dX5_parseGate_79 : decode cX5_parseGate 79 = .ok (.isub, 1) := by decide +kernel
theorem dX5_parseGate_80 : decode cX5_parseGate 80 = .ok (.istore 7, 2) := by decide +kernel
theorem dX5_parseGate_82 : decode cX5_parseGate 82 = .ok (.iload 7, 2) := by decide +kernel
theorem dX5_parseGate_84 : decode cX5_parseGate 84 = .ok (.ifCond .lt 20, 3) := by decide +kernel
theorem dX5_parseGate_87 : decode cX5_parseGate 87 = .ok (.iload 7, 2) := by decide +kernel
theorem dX5_parseGate_89 : decode cX5_parseGate 89 = .ok (.iload_n 1, 1) := by decide +kernel
theorem dX5_parseGate_90 : decode cX5_parseGate 90 = .ok (.if_icmp .ge 14, 3) := by decide +kernel
theorem dX5_parseGate_93 : decode cX5_parseGate 93 = .ok (.iload 5, 2) := by decide +kernel
theorem dX5_parseGate_95 : decode cX5_parseGate 95 = .ok (.iload 7, 2) := by decide +kernel
theorem dX5_parseGate_97 : decode cX5_parseGate 97 = .ok (.ishr, 1) := by decide +kernel
theorem dX5_parseGate_98 : decode cX5_parseGate 98 = .ok (.iconst 1, 1) := by decide +kernel
theorem dX5_parseGate_99 : decode cX5_parseGate 99 = .ok (.iand, 1) := by decide +kernel
theorem dX5_parseGate_100 : decode cX5_parseGate 100 = .ok (.iconst 1, 1) := by decide +kernel
theorem dX5_parseGate_101 : decode cX5_parseGate 101 = .ok (.if_icmp .ne 5, 3) := by decide +kernel
theorem dX5_parseGate_104 : decode cX5_parseGate 104 = .ok (.iconst (-1), 1) := by decide +kernel
theorem dX5_parseGate_105 : decode cX5_parseGate 105 = .ok (.ireturn, 1) := by decide +kernel
theorem dX5_parseGate_106 : decode cX5_parseGate 106 = .ok (.aload_n 0, 1) := by decide +kernel
theorem dX5_parseGate_107 : decode cX5_parseGate 107 = .ok (.dup, 1) := by decide +kernel
theorem dX5_parseGate_108 : decode cX5_parseGate 108 = .ok (.getfield 19, 3) := by decide +kernel
theorem dX5_parseGate_111 : decode cX5_parseGate 111 = .ok (.iconst 1, 1) := by decide +kernel
theorem dX5_parseGate_112 : decode cX5_parseGate 112 = .ok (.iadd, 1) := by decide +kernel
theorem dX5_parseGate_113 : decode cX5_parseGate 113 = .ok (.putfield 19, 3) := by decide +kernel
theorem dX5_parseGate_116 : decode cX5_parseGate 116 = .ok (.iload_n 3, 1) := by decide +kernel
theorem dX5_parseGate_117 : decode cX5_parseGate 117 = .ok (.iload 4, 2) := by decide +kernel
theorem dX5_parseGate_119 : decode cX5_parseGate 119 = .ok (.iload 7, 2) := by decide +kernel
theorem dX5_parseGate_121 : decode cX5_parseGate 121 = .ok (.imul, 1) := by decide +kernel
theorem dX5_parseGate_122 : decode cX5_parseGate 122 = .ok (.iadd, 1) := by decide +kernel
theorem dX5_parseGate_123 : decode cX5_parseGate 123 = .ok (.istore_n 3, 1) := by decide +kernel
theorem dX5_parseGate_124 : decode cX5_parseGate 124 = .ok (.iload 4, 2) := by decide +kernel
theorem dX5_parseGate_126 : decode cX5_parseGate 126 = .ok (.bipush 10, 2) := by decide +kernel
theorem dX5_parseGate_128 : decode cX5_parseGate 128 = .ok (.imul, 1) := by decide +kernel
theorem dX5_parseGate_129 : decode cX5_parseGate 129 = .ok (.istore 4, 2) := by decide +kernel
theorem dX5_parseGate_131 : decode cX5_parseGate 131 = .ok (.iload 5, 2) := by decide +kernel
theorem dX5_parseGate_133 : decode cX5_parseGate 133 = .ok (.iconst 1, 1) := by decide +kernel
theorem dX5_parseGate_134 : decode cX5_parseGate 134 = .ok (.iload 7, 2) := by decide +kernel
theorem dX5_parseGate_136 : decode cX5_parseGate 136 = .ok (.ishl, 1) := by decide +kernel
theorem dX5_parseGate_137 : decode cX5_parseGate 137 = .ok (.ior, 1) := by decide +kernel
theorem dX5_parseGate_138 : decode cX5_parseGate 138 = .ok (.istore 5, 2) := by decide +kernel
theorem dX5_parseGate_140 : decode cX5_parseGate 140 = .ok (.iinc 6 1, 3) := by decide +kernel
theorem dX5_parseGate_143 : decode cX5_parseGate 143 = .ok (.goto (-83), 3) := by decide +kernel
theorem dX5_parseGate_146 : decode cX5_parseGate 146 = .ok (.iload_n 3, 1) := by decide +kernel
theorem dX5_parseGate_147 : decode cX5_parseGate 147 = .ok (.ireturn, 1) := by decide +kernel
theorem dX6_init_0 : decode cX6_init 0 = .ok (.aload_n 0, 1) := by decide +kernel
theorem dX6_init_1 : decode cX6_init 1 = .ok (.invokespecial 1, 3) := by decide +kernel
theorem dX6_init_4 : decode cX6_init 4 = .ok (.aload_n 0, 1) := by decide +kernel
theorem dX6_init_5 : decode cX6_init 5 = .ok (.new 7, 3) := by decide +kernel
theorem dX6_init_8 : decode cX6_init 8 = .ok (.dup, 1) := by decide +kernel
theorem dX6_init_9 : decode cX6_init 9 = .ok (.invokespecial 9, 3) := by decide +kernel
theorem dX6_init_12 : decode cX6_init 12 = .ok (.putfield 10, 3) := by decide +kernel
theorem dX6_init_15 : decode cX6_init 15 = .ok (.aload_n 0, 1) := by decide +kernel
theorem dX6_init_16 : decode cX6_init 16 = .ok (.new 7, 3) := by decide +kernel
theorem dX6_init_19 : decode cX6_init 19 = .ok (.dup, 1) := by decide +kernel
theorem dX6_init_20 : decode cX6_init 20 = .ok (.invokespecial 9, 3) := by decide +kernel
theorem dX6_init_23 : decode cX6_init 23 = .ok (.putfield 16, 3) := by decide +kernel
theorem dX6_init_26 : decode cX6_init 26 = .ok (.aload_n 0, 1) := by decide +kernel
theorem dX6_init_27 : decode cX6_init 27 = .ok (.new 7, 3) := by decide +kernel
theorem dX6_init_30 : decode cX6_init 30 = .ok (.dup, 1) := by decide +kernel
theorem dX6_init_31 : decode cX6_init 31 = .ok (.invokespecial 9, 3) := by decide +kernel
theorem dX6_init_34 : decode cX6_init 34 = .ok (.putfield 19, 3) := by decide +kernel
theorem dX6_init_37 : decode cX6_init 37 = .ok (.aload_n 0, 1) := by decide +kernel
theorem dX6_init_38 : decode cX6_init 38 = .ok (.new 7, 3) := by decide +kernel
theorem dX6_init_41 : decode cX6_init 41 = .ok (.dup, 1) := by decide +kernel
theorem dX6_init_42 : decode cX6_init 42 = .ok (.invokespecial 9, 3) := by decide +kernel
theorem dX6_init_45 : decode cX6_init 45 = .ok (.putfield 22, 3) := by decide +kernel
theorem dX6_init_48 : decode cX6_init 48 = .ok (.aload_n 0, 1) := by decide +kernel
theorem dX6_init_49 : decode cX6_init 49 = .ok (.new 25, 3) := by decide +kernel
theorem dX6_init_52 : decode cX6_init 52 = .ok (.dup, 1) := by decide +kernel
theorem dX6_init_53 : decode cX6_init 53 = .ok (.invokespecial 27, 3) := by decide +kernel
theorem dX6_init_56 : decode cX6_init 56 = .ok (.putfield 28, 3) := by decide +kernel
theorem dX6_init_59 : decode cX6_init 59 = .ok (.aload_n 0, 1) := by decide +kernel
theorem dX6_init_60 : decode cX6_init 60 = .ok (.new 25, 3) := by decide +kernel
theorem dX6_init_63 : decode cX6_init 63 = .ok (.dup, 1) := by decide +kernel
theorem dX6_init_64 : decode cX6_init 64 = .ok (.invokespecial 27, 3) := by decide +kernel
theorem dX6_init_67 : decode cX6_init 67 = .ok (.putfield 32, 3) := by decide +kernel
theorem dX6_init_70 : decode cX6_init 70 = .ok (.aload_n 0, 1) := by decide +kernel
theorem dX6_init_71 : decode cX6_init 71 = .ok (.new 25, 3) := by decide +kernel
theorem dX6_init_74 : decode cX6_init 74 = .ok (.dup, 1) := by decide +kernel
theorem dX6_init_75 : decode cX6_init 75 = .ok (.invokespecial 27, 3) := by decide +kernel
theorem dX6_init_78 : decode cX6_init 78 = .ok (.putfield 35, 3) := by decide +kernel
theorem dX6_init_81 : decode cX6_init 81 = .ok (.aload_n 0, 1) := by decide +kernel
theorem dX6_init_82 : decode cX6_init 82 = .ok (.new 38, 3) := by decide +kernel
theorem dX6_init_85 : decode cX6_init 85 = .ok (.dup, 1) := by decide +kernel
theorem dX6_init_86 : decode cX6_init 86 = .ok (.invokespecial 40, 3) := by decide +kernel
theorem dX6_init_89 : decode cX6_init 89 = .ok (.putfield 41, 3) := by decide +kernel
theorem dX6_init_92 : decode cX6_init 92 = .ok (.aload_n 0, 1) := by decide +kernel
theorem dX6_init_93 : decode cX6_init 93 = .ok (.new 45, 3) := by decide +kernel
theorem dX6_init_96 : decode cX6_init 96 = .ok (.dup, 1) := by decide +kernel
theorem dX6_init_97 : decode cX6_init 97 = .ok (.invokespecial 47, 3) := by decide +kernel
theorem dX6_init_100 : decode cX6_init 100 = .ok (.putfield 48, 3) := by decide +kernel
theorem dX6_init_103 : decode cX6_init 103 = .ok (.aload_n 0, 1) := by decide +kernel
theorem dX6_init_104 : decode cX6_init 104 = .ok (.new 52, 3) := by decide +kernel
theorem dX6_init_107 : decode cX6_init 107 = .ok (.dup, 1) := by decide +kernel
theorem dX6_init_108 : decode cX6_init 108 = .ok (.invokespecial 54, 3) := by decide +kernel
theorem dX6_init_111 : decode cX6_init 111 = .ok (.putfield 55, 3) := by decide +kernel
theorem dX6_init_114 : decode cX6_init 114 = .ok (.aload_n 0, 1) := by decide +kernel
theorem dX6_init_115 : decode cX6_init 115 = .ok (.iconst 1, 1) := by decide +kernel
theorem dX6_init_116 : decode cX6_init 116 = .ok (.putfield 59, 3) := by decide +kernel
theorem dX6_init_119 : decode cX6_init 119 = .ok (.aload_n 0, 1) := by decide +kernel
theorem dX6_init_120 : decode cX6_init 120 = .ok (.iconst 0, 1) := by decide +kernel
theorem dX6_init_121 : decode cX6_init 121 = .ok (.putfield 63, 3) := by decide +kernel
theorem dX6_init_124 : decode cX6_init 124 = .ok (.aload_n 0, 1) := by decide +kernel
theorem dX6_init_125 : decode cX6_init 125 = .ok (.iconst 0, 1) := by decide +kernel
theorem dX6_init_126 : decode cX6_init 126 = .ok (.putfield 67, 3) := by decide +kernel
theorem dX6_init_129 : decode cX6_init 129 = .ok (.aload_n 0, 1) := by decide +kernel
theorem dX6_init_130 : decode cX6_init 130 = .ok (.iconst (-1), 1) := by decide +kernel
theorem dX6_init_131 : decode cX6_init 131 = .ok (.putfield 70, 3) := by decide +kernel
theorem dX6_init_134 : decode cX6_init 134 = .ok (.return_, 1) := by decide +kernel
theorem dX6_wires_0 : decode cX6_wires 0 = .ok (.iload_n 1, 1) := by decide +kernel
theorem dX6_wires_1 : decode cX6_wires 1 = .ok (.iconst 1, 1) := by decide +kernel
theorem dX6_wires_2 : decode cX6_wires 2 = .ok (.if_icmp .lt 8, 3) := by decide +kernel
theorem dX6_wires_5 : decode cX6_wires 5 = .ok (.iload_n 1, 1) := by decide +kernel
theorem dX6_wires_6 : decode cX6_wires 6 = .ok (.iconst 4, 1) := by decide +kernel
theorem dX6_wires_7 : decode cX6_wires 7 = .ok (.if_icmp .le 13, 3) := by decide +kernel
theorem dX6_wires_10 : decode cX6_wires 10 = .ok (.new 73, 3) := by decide +kernel
theorem dX6_wires_13 : decode cX6_wires 13 = .ok (.dup, 1) := by decide +kernel
theorem dX6_wires_14 : decode cX6_wires 14 = .ok (.ldc 75, 2) := by decide +kernel
theorem dX6_wires_16 : decode cX6_wires 16 = .ok (.invokespecial 77, 3) := by decide +kernel
theorem dX6_wires_19 : decode cX6_wires 19 = .ok (.athrow, 1) := by decide +kernel
theorem dX6_wires_20 : decode cX6_wires 20 = .ok (.aload_n 0, 1) := by decide +kernel
theorem dX6_wires_21 : decode cX6_wires 21 = .ok (.getfield 10, 3) := by decide +kernel
theorem dX6_wires_24 : decode cX6_wires 24 = .ok (.invokevirtual 80, 3) := by decide +kernel
theorem dX6_wires_27 : decode cX6_wires 27 = .ok (.aload_n 0, 1) := by decide +kernel
theorem dX6_wires_28 : decode cX6_wires 28 = .ok (.getfield 16, 3) := by decide +kernel
theorem dX6_wires_31 : decode cX6_wires 31 = .ok (.invokevirtual 80, 3) := by decide +kernel
theorem dX6_wires_34 : decode cX6_wires 34 = .ok (.aload_n 0, 1) := by decide +kernel
theorem dX6_wires_35 : decode cX6_wires 35 = .ok (.getfield 19, 3) := by decide +kernel
theorem dX6_wires_38 : decode cX6_wires 38 = .ok (.invokevirtual 80, 3) := by decide +kernel
theorem dX6_wires_41 : decode cX6_wires 41 = .ok (.aload_n 0, 1) := by decide +kernel
theorem dX6_wires_42 : decode cX6_wires 42 = .ok (.getfield 55, 3) := by decide +kernel
theorem dX6_wires_45 : decode cX6_wires 45 = .ok (.invokevirtual 83, 3) := by decide +kernel
theorem dX6_wires_48 : decode cX6_wires 48 = .ok (.aload_n 0, 1) := by decide +kernel
theorem dX6_wires_49 : decode cX6_wires 49 = .ok (.iconst 0, 1) := by decide +kernel
theorem dX6_wires_50 : decode cX6_wires 50 = .ok (.putfield 63, 3) := by decide +kernel
theorem dX6_wires_53 : decode cX6_wires 53 = .ok (.aload_n 0, 1) := by decide +kernel
theorem dX6_wires_54 : decode cX6_wires 54 = .ok (.iload_n 1, 1) := by decide +kernel
theorem dX6_wires_55 : decode cX6_wires 55 = .ok (.putfield 59, 3) := by decide +kernel
theorem dX6_wires_58 : decode cX6_wires 58 = .ok (.return_, 1) := by decide +kernel
theorem dX6_gate_0 : decode cX6_gate 0 = .ok (.aload_n 0, 1) := by decide +kernel
theorem dX6_gate_1 : decode cX6_gate 1 = .ok (.iload_n 1, 1) := by decide +kernel
theorem dX6_gate_2 : decode cX6_gate 2 = .ok (.invokevirtual 84, 3) := by decide +kernel
theorem dX6_gate_5 : decode cX6_gate 5 = .ok (.astore 6, 2) := by decide +kernel
theorem dX6_gate_7 : decode cX6_gate 7 = .ok (.aload 6, 2) := by decide +kernel
theorem dX6_gate_9 : decode cX6_gate 9 = .ok (.ifnull 19, 3) := by decide +kernel
theorem dX6_gate_12 : decode cX6_gate 12 = .ok (.iload_n 2, 1) := by decide +kernel
theorem dX6_gate_13 : decode cX6_gate 13 = .ok (.iload_n 3, 1) := by decide +kernel
theorem dX6_gate_14 : decode cX6_gate 14 = .ok (.iload 4, 2) := by decide +kernel
theorem dX6_gate_16 : decode cX6_gate 16 = .ok (.iload 5, 2) := by decide +kernel
theorem dX6_gate_18 : decode cX6_gate 18 = .ok (.aload_n 0, 1) := by decide +kernel
theorem dX6_gate_19 : decode cX6_gate 19 = .ok (.getfield 59, 3) := by decide +kernel
theorem dX6_gate_22 : decode cX6_gate 22 = .ok (.invokestatic 88, 3) := by decide +kernel
theorem dX6_gate_25 : decode cX6_gate 25 = .ok (.ifCond .ne 13, 3) := by decide +kernel
theorem dX6_gate_28 : decode cX6_gate 28 = .ok (.new 73, 3) := by decide +kernel
theorem dX6_gate_31 : decode cX6_gate 31 = .ok (.dup, 1) := by decide +kernel
theorem dX6_gate_32 : decode cX6_gate 32 = .ok (.ldc 94, 2) := by decide +kernel
theorem dX6_gate_34 : decode cX6_gate 34 = .ok (.invokespecial 77, 3) := by decide +kernel
theorem dX6_gate_37 : decode cX6_gate 37 = .ok (.athrow, 1) := by decide +kernel
theorem dX6_gate_38 : decode cX6_gate 38 = .ok (.aload 6, 2) := by decide +kernel
theorem dX6_gate_40 : decode cX6_gate 40 = .ok (.invokevirtual 96, 3) := by decide +kernel
theorem dX6_gate_43 : decode cX6_gate 43 = .ok (.bipush 64, 2) := by decide +kernel
theorem dX6_gate_45 : decode cX6_gate 45 = .ok (.if_icmp .lt 13, 3) := by decide +kernel
theorem dX6_gate_48 : decode cX6_gate 48 = .ok (.new 100, 3) := by decide +kernel
theorem dX6_gate_51 : decode cX6_gate 51 = .ok (.dup, 1) := by decide +kernel
theorem dX6_gate_52 : decode cX6_gate 52 = .ok (.ldc 102, 2) := by decide +kernel
theorem dX6_gate_54 : decode cX6_gate 54 = .ok (.invokespecial 104, 3) := by decide +kernel
theorem dX6_gate_57 : decode cX6_gate 57 = .ok (.athrow, 1) := by decide +kernel
theorem dX6_gate_58 : decode cX6_gate 58 = .ok (.aload 6, 2) := by decide +kernel
theorem dX6_gate_60 : decode cX6_gate 60 = .ok (.iload_n 2, 1) := by decide +kernel
theorem dX6_gate_61 : decode cX6_gate 61 = .ok (.iload_n 3, 1) := by decide +kernel
theorem dX6_gate_62 : decode cX6_gate 62 = .ok (.iload 4, 2) := by decide +kernel
theorem dX6_gate_64 : decode cX6_gate 64 = .ok (.iload 5, 2) := by decide +kernel
theorem dX6_gate_66 : decode cX6_gate 66 = .ok (.invokestatic 105, 3) := by decide +kernel
theorem dX6_gate_69 : decode cX6_gate 69 = .ok (.invokevirtual 109, 3) := by decide +kernel
theorem dX6_gate_72 : decode cX6_gate 72 = .ok (.aload 6, 2) := by decide +kernel
theorem dX6_gate_74 : decode cX6_gate 74 = .ok (.invokevirtual 96, 3) := by decide +kernel
theorem dX6_gate_77 : decode cX6_gate 77 = .ok (.ireturn, 1) := by decide +kernel
theorem dX6_size_0 : decode cX6_size 0 = .ok (.aload_n 0, 1) := by decide +kernel
theorem dX6_size_1 : decode cX6_size 1 = .ok (.iload_n 1, 1) := by decide +kernel
theorem dX6_size_2 : decode cX6_size 2 = .ok (.invokevirtual 84, 3) := by decide +kernel
theorem dX6_size_5 : decode cX6_size 5 = .ok (.astore_n 2, 1) := by decide +kernel
theorem dX6_size_6 : decode cX6_size 6 = .ok (.aload_n 2, 1) := by decide +kernel
theorem dX6_size_7 : decode cX6_size 7 = .ok (.ifnonnull 7, 3) := by decide +kernel
theorem dX6_size_10 : decode cX6_size 10 = .ok (.iconst (-1), 1) := by decide +kernel
theorem dX6_size_11 : decode cX6_size 11 = .ok (.goto 7, 3) := by decide +kernel
theorem dX6_size_14 : decode cX6_size 14 = .ok (.aload_n 2, 1) := by decide +kernel
theorem dX6_size_15 : decode cX6_size 15 = .ok (.invokevirtual 96, 3) := by decide +kernel
theorem dX6_size_18 : decode cX6_size 18 = .ok (.ireturn, 1) := by decide +kernel
theorem dX6_gateAt_0 : decode cX6_gateAt 0 = .ok (.aload_n 0, 1) := by decide +kernel
theorem dX6_gateAt_1 : decode cX6_gateAt 1 = .ok (.iload_n 1, 1) := by decide +kernel
theorem dX6_gateAt_2 : decode cX6_gateAt 2 = .ok (.invokevirtual 84, 3) := by decide +kernel
theorem dX6_gateAt_5 : decode cX6_gateAt 5 = .ok (.astore_n 3, 1) := by decide +kernel
theorem dX6_gateAt_6 : decode cX6_gateAt 6 = .ok (.aload_n 3, 1) := by decide +kernel
theorem dX6_gateAt_7 : decode cX6_gateAt 7 = .ok (.ifnonnull 7, 3) := by decide +kernel
theorem dX6_gateAt_10 : decode cX6_gateAt 10 = .ok (.iconst (-1), 1) := by decide +kernel
theorem dX6_gateAt_11 : decode cX6_gateAt 11 = .ok (.goto 8, 3) := by decide +kernel
theorem dX6_gateAt_14 : decode cX6_gateAt 14 = .ok (.aload_n 3, 1) := by decide +kernel
theorem dX6_gateAt_15 : decode cX6_gateAt 15 = .ok (.iload_n 2, 1) := by decide +kernel
theorem dX6_gateAt_16 : decode cX6_gateAt 16 = .ok (.invokevirtual 113, 3) := by decide +kernel
theorem dX6_gateAt_19 : decode cX6_gateAt 19 = .ok (.ireturn, 1) := by decide +kernel
theorem dX6_clear_0 : decode cX6_clear 0 = .ok (.aload_n 0, 1) := by decide +kernel
theorem dX6_clear_1 : decode cX6_clear 1 = .ok (.iload_n 1, 1) := by decide +kernel
theorem dX6_clear_2 : decode cX6_clear 2 = .ok (.invokevirtual 84, 3) := by decide +kernel
theorem dX6_clear_5 : decode cX6_clear 5 = .ok (.astore_n 2, 1) := by decide +kernel
theorem dX6_clear_6 : decode cX6_clear 6 = .ok (.aload_n 2, 1) := by decide +kernel
theorem dX6_clear_7 : decode cX6_clear 7 = .ok (.ifnonnull 13, 3) := by decide +kernel
theorem dX6_clear_10 : decode cX6_clear 10 = .ok (.new 73, 3) := by decide +kernel
theorem dX6_clear_13 : decode cX6_clear 13 = .ok (.dup, 1) := by decide +kernel
theorem dX6_clear_14 : decode cX6_clear 14 = .ok (.ldc 117, 2) := by decide +kernel
theorem dX6_clear_16 : decode cX6_clear 16 = .ok (.invokespecial 77, 3) := by decide +kernel
theorem dX6_clear_19 : decode cX6_clear 19 = .ok (.athrow, 1) := by decide +kernel
theorem dX6_clear_20 : decode cX6_clear 20 = .ok (.aload_n 2, 1) := by decide +kernel
theorem dX6_clear_21 : decode cX6_clear 21 = .ok (.invokevirtual 80, 3) := by decide +kernel
theorem dX6_clear_24 : decode cX6_clear 24 = .ok (.return_, 1) := by decide +kernel
theorem dX6_append_0 : decode cX6_append 0 = .ok (.aload_n 0, 1) := by decide +kernel
theorem dX6_append_1 : decode cX6_append 1 = .ok (.iload_n 1, 1) := by decide +kernel
theorem dX6_append_2 : decode cX6_append 2 = .ok (.invokevirtual 84, 3) := by decide +kernel
theorem dX6_append_5 : decode cX6_append 5 = .ok (.astore_n 3, 1) := by decide +kernel
theorem dX6_append_6 : decode cX6_append 6 = .ok (.aload_n 0, 1) := by decide +kernel
theorem dX6_append_7 : decode cX6_append 7 = .ok (.iload_n 2, 1) := by decide +kernel
theorem dX6_append_8 : decode cX6_append 8 = .ok (.invokevirtual 84, 3) := by decide +kernel
theorem dX6_append_11 : decode cX6_append 11 = .ok (.astore 4, 2) := by decide +kernel
theorem dX6_append_13 : decode cX6_append 13 = .ok (.aload_n 3, 1) := by decide +kernel
theorem dX6_append_14 : decode cX6_append 14 = .ok (.ifnull 8, 3) := by decide +kernel
theorem dX6_append_17 : decode cX6_append 17 = .ok (.aload 4, 2) := by decide +kernel
theorem dX6_append_19 : decode cX6_append 19 = .ok (.ifnonnull 13, 3) := by decide +kernel
theorem dX6_append_22 : decode cX6_append 22 = .ok (.new 73, 3) := by decide +kernel
theorem dX6_append_25 : decode cX6_append 25 = .ok (.dup, 1) := by decide +kernel
theorem dX6_append_26 : decode cX6_append 26 = .ok (.ldc 117, 2) := by decide +kernel
theorem dX6_append_28 : decode cX6_append 28 = .ok (.invokespecial 77, 3) := by decide +kernel
theorem dX6_append_31 : decode cX6_append 31 = .ok (.athrow, 1) := by decide +kernel
theorem dX6_append_32 : decode cX6_append 32 = .ok (.aload_n 3, 1) := by decide +kernel
theorem dX6_append_33 : decode cX6_append 33 = .ok (.invokevirtual 96, 3) := by decide +kernel
theorem dX6_append_36 : decode cX6_append 36 = .ok (.aload 4, 2) := by decide +kernel
theorem dX6_append_38 : decode cX6_append 38 = .ok (.invokevirtual 96, 3) := by decide +kernel
theorem dX6_append_41 : decode cX6_append 41 = .ok (.iadd, 1) := by decide +kernel
theorem dX6_append_42 : decode cX6_append 42 = .ok (.bipush 64, 2) := by decide +kernel
theorem dX6_append_44 : decode cX6_append 44 = .ok (.if_icmp .le 13, 3) := by decide +kernel
theorem dX6_append_47 : decode cX6_append 47 = .ok (.new 100, 3) := by decide +kernel
theorem dX6_append_50 : decode cX6_append 50 = .ok (.dup, 1) := by decide +kernel
theorem dX6_append_51 : decode cX6_append 51 = .ok (.ldc 119, 2) := by decide +kernel
theorem dX6_append_53 : decode cX6_append 53 = .ok (.invokespecial 104, 3) := by decide +kernel
theorem dX6_append_56 : decode cX6_append 56 = .ok (.athrow, 1) := by decide +kernel
theorem dX6_append_57 : decode cX6_append 57 = .ok (.aload_n 3, 1) := by decide +kernel
theorem dX6_append_58 : decode cX6_append 58 = .ok (.aload 4, 2) := by decide +kernel
theorem dX6_append_60 : decode cX6_append 60 = .ok (.invokevirtual 121, 3) := by decide +kernel
theorem dX6_append_63 : decode cX6_append 63 = .ok (.aload_n 3, 1) := by decide +kernel
theorem dX6_append_64 : decode cX6_append 64 = .ok (.invokevirtual 96, 3) := by decide +kernel
theorem dX6_append_67 : decode cX6_append 67 = .ok (.ireturn, 1) := by decide +kernel
theorem dX6_inverse_0 : decode cX6_inverse 0 = .ok (.aload_n 0, 1) := by decide +kernel
theorem dX6_inverse_1 : decode cX6_inverse 1 = .ok (.iload_n 1, 1) := by decide +kernel
theorem dX6_inverse_2 : decode cX6_inverse 2 = .ok (.invokevirtual 84, 3) := by decide +kernel
theorem dX6_inverse_5 : decode cX6_inverse 5 = .ok (.astore_n 2, 1) := by decide +kernel
theorem dX6_inverse_6 : decode cX6_inverse 6 = .ok (.aload_n 2, 1) := by decide +kernel
theorem dX6_inverse_7 : decode cX6_inverse 7 = .ok (.ifnonnull 13, 3) := by decide +kernel
theorem dX6_inverse_10 : decode cX6_inverse 10 = .ok (.new 73, 3) := by decide +kernel
theorem dX6_inverse_13 : decode cX6_inverse 13 = .ok (.dup, 1) := by decide +kernel
theorem dX6_inverse_14 : decode cX6_inverse 14 = .ok (.ldc 117, 2) := by decide +kernel
theorem dX6_inverse_16 : decode cX6_inverse 16 = .ok (.invokespecial 77, 3) := by decide +kernel
theorem dX6_inverse_19 : decode cX6_inverse 19 = .ok (.athrow, 1) := by decide +kernel
theorem dX6_inverse_20 : decode cX6_inverse 20 = .ok (.aload_n 2, 1) := by decide +kernel
theorem dX6_inverse_21 : decode cX6_inverse 21 = .ok (.invokevirtual 125, 3) := by decide +kernel
theorem dX6_inverse_24 : decode cX6_inverse 24 = .ok (.bipush 64, 2) := by decide +kernel
theorem dX6_inverse_26 : decode cX6_inverse 26 = .ok (.if_icmp .le 13, 3) := by decide +kernel
theorem dX6_inverse_29 : decode cX6_inverse 29 = .ok (.new 100, 3) := by decide +kernel
theorem dX6_inverse_32 : decode cX6_inverse 32 = .ok (.dup, 1) := by decide +kernel
theorem dX6_inverse_33 : decode cX6_inverse 33 = .ok (.ldc 119, 2) := by decide +kernel
theorem dX6_inverse_35 : decode cX6_inverse 35 = .ok (.invokespecial 104, 3) := by decide +kernel
theorem dX6_inverse_38 : decode cX6_inverse 38 = .ok (.athrow, 1) := by decide +kernel
theorem dX6_inverse_39 : decode cX6_inverse 39 = .ok (.aload_n 0, 1) := by decide +kernel
theorem dX6_inverse_40 : decode cX6_inverse 40 = .ok (.getfield 22, 3) := by decide +kernel
theorem dX6_inverse_43 : decode cX6_inverse 43 = .ok (.invokevirtual 80, 3) := by decide +kernel
theorem dX6_inverse_46 : decode cX6_inverse 46 = .ok (.aload_n 0, 1) := by decide +kernel
theorem dX6_inverse_47 : decode cX6_inverse 47 = .ok (.getfield 22, 3) := by decide +kernel
theorem dX6_inverse_50 : decode cX6_inverse 50 = .ok (.aload_n 2, 1) := by decide +kernel
theorem dX6_inverse_51 : decode cX6_inverse 51 = .ok (.invokevirtual 128, 3) := by decide +kernel
theorem dX6_inverse_54 : decode cX6_inverse 54 = .ok (.aload_n 2, 1) := by decide +kernel
theorem dX6_inverse_55 : decode cX6_inverse 55 = .ok (.aload_n 0, 1) := by decide +kernel
theorem dX6_inverse_56 : decode cX6_inverse 56 = .ok (.getfield 22, 3) := by decide +kernel
theorem dX6_inverse_59 : decode cX6_inverse 59 = .ok (.invokevirtual 131, 3) := by decide +kernel
theorem dX6_inverse_62 : decode cX6_inverse 62 = .ok (.aload_n 2, 1) := by decide +kernel
theorem dX6_inverse_63 : decode cX6_inverse 63 = .ok (.invokevirtual 96, 3) := by decide +kernel
theorem dX6_inverse_66 : decode cX6_inverse 66 = .ok (.ireturn, 1) := by decide +kernel
theorem dX6_expand_0 : decode cX6_expand 0 = .ok (.aload_n 0, 1) := by decide +kernel
theorem dX6_expand_1 : decode cX6_expand 1 = .ok (.iload_n 1, 1) := by decide +kernel
theorem dX6_expand_2 : decode cX6_expand 2 = .ok (.invokevirtual 84, 3) := by decide +kernel
theorem dX6_expand_5 : decode cX6_expand 5 = .ok (.astore_n 2, 1) := by decide +kernel
theorem dX6_expand_6 : decode cX6_expand 6 = .ok (.aload_n 2, 1) := by decide +kernel
theorem dX6_expand_7 : decode cX6_expand 7 = .ok (.ifnonnull 13, 3) := by decide +kernel
theorem dX6_expand_10 : decode cX6_expand 10 = .ok (.new 73, 3) := by decide +kernel
theorem dX6_expand_13 : decode cX6_expand 13 = .ok (.dup, 1) := by decide +kernel
theorem dX6_expand_14 : decode cX6_expand 14 = .ok (.ldc 117, 2) := by decide +kernel
theorem dX6_expand_16 : decode cX6_expand 16 = .ok (.invokespecial 77, 3) := by decide +kernel
theorem dX6_expand_19 : decode cX6_expand 19 = .ok (.athrow, 1) := by decide +kernel
theorem dX6_expand_20 : decode cX6_expand 20 = .ok (.aload_n 2, 1) := by decide +kernel
theorem dX6_expand_21 : decode cX6_expand 21 = .ok (.invokevirtual 134, 3) := by decide +kernel
theorem dX6_expand_24 : decode cX6_expand 24 = .ok (.bipush 64, 2) := by decide +kernel
theorem dX6_expand_26 : decode cX6_expand 26 = .ok (.if_icmp .le 13, 3) := by decide +kernel
theorem dX6_expand_29 : decode cX6_expand 29 = .ok (.new 100, 3) := by decide +kernel
theorem dX6_expand_32 : decode cX6_expand 32 = .ok (.dup, 1) := by decide +kernel
theorem dX6_expand_33 : decode cX6_expand 33 = .ok (.ldc 119, 2) := by decide +kernel
theorem dX6_expand_35 : decode cX6_expand 35 = .ok (.invokespecial 104, 3) := by decide +kernel
theorem dX6_expand_38 : decode cX6_expand 38 = .ok (.athrow, 1) := by decide +kernel
theorem dX6_expand_39 : decode cX6_expand 39 = .ok (.aload_n 0, 1) := by decide +kernel
theorem dX6_expand_40 : decode cX6_expand 40 = .ok (.getfield 22, 3) := by decide +kernel
theorem dX6_expand_43 : decode cX6_expand 43 = .ok (.invokevirtual 80, 3) := by decide +kernel
theorem dX6_expand_46 : decode cX6_expand 46 = .ok (.aload_n 0, 1) := by decide +kernel
theorem dX6_expand_47 : decode cX6_expand 47 = .ok (.getfield 22, 3) := by decide +kernel
theorem dX6_expand_50 : decode cX6_expand 50 = .ok (.aload_n 2, 1) := by decide +kernel
theorem dX6_expand_51 : decode cX6_expand 51 = .ok (.invokevirtual 137, 3) := by decide +kernel
theorem dX6_expand_54 : decode cX6_expand 54 = .ok (.aload_n 2, 1) := by decide +kernel
theorem dX6_expand_55 : decode cX6_expand 55 = .ok (.aload_n 0, 1) := by decide +kernel
theorem dX6_expand_56 : decode cX6_expand 56 = .ok (.getfield 22, 3) := by decide +kernel
theorem dX6_expand_59 : decode cX6_expand 59 = .ok (.invokevirtual 131, 3) := by decide +kernel
theorem dX6_expand_62 : decode cX6_expand 62 = .ok (.aload_n 2, 1) := by decide +kernel
theorem dX6_expand_63 : decode cX6_expand 63 = .ok (.invokevirtual 96, 3) := by decide +kernel
theorem dX6_expand_66 : decode cX6_expand 66 = .ok (.ireturn, 1) := by decide +kernel
theorem dX6_optimise_0 : decode cX6_optimise 0 = .ok (.aload_n 0, 1) := by decide +kernel
theorem dX6_optimise_1 : decode cX6_optimise 1 = .ok (.iload_n 1, 1) := by decide +kernel
theorem dX6_optimise_2 : decode cX6_optimise 2 = .ok (.invokevirtual 84, 3) := by decide +kernel
theorem dX6_optimise_5 : decode cX6_optimise 5 = .ok (.astore_n 2, 1) := by decide +kernel
theorem dX6_optimise_6 : decode cX6_optimise 6 = .ok (.aload_n 2, 1) := by decide +kernel
theorem dX6_optimise_7 : decode cX6_optimise 7 = .ok (.ifnonnull 13, 3) := by decide +kernel
theorem dX6_optimise_10 : decode cX6_optimise 10 = .ok (.new 73, 3) := by decide +kernel
theorem dX6_optimise_13 : decode cX6_optimise 13 = .ok (.dup, 1) := by decide +kernel
theorem dX6_optimise_14 : decode cX6_optimise 14 = .ok (.ldc 117, 2) := by decide +kernel
theorem dX6_optimise_16 : decode cX6_optimise 16 = .ok (.invokespecial 77, 3) := by decide +kernel
theorem dX6_optimise_19 : decode cX6_optimise 19 = .ok (.athrow, 1) := by decide +kernel
theorem dX6_optimise_20 : decode cX6_optimise 20 = .ok (.aload_n 2, 1) := by decide +kernel
theorem dX6_optimise_21 : decode cX6_optimise 21 = .ok (.invokevirtual 140, 3) := by decide +kernel
theorem dX6_optimise_24 : decode cX6_optimise 24 = .ok (.aload_n 2, 1) := by decide +kernel
theorem dX6_optimise_25 : decode cX6_optimise 25 = .ok (.invokevirtual 96, 3) := by decide +kernel
theorem dX6_optimise_28 : decode cX6_optimise 28 = .ok (.ireturn, 1) := by decide +kernel
theorem dX6_least_0 : decode cX6_least 0 = .ok (.aload_n 0, 1) := by decide +kernel
theorem dX6_least_1 : decode cX6_least 1 = .ok (.iload_n 1, 1) := by decide +kernel
theorem dX6_least_2 : decode cX6_least 2 = .ok (.invokevirtual 84, 3) := by decide +kernel
theorem dX6_least_5 : decode cX6_least 5 = .ok (.astore_n 2, 1) := by decide +kernel
theorem dX6_least_6 : decode cX6_least 6 = .ok (.aload_n 2, 1) := by decide +kernel
theorem dX6_least_7 : decode cX6_least 7 = .ok (.ifnull 10, 3) := by decide +kernel
theorem dX6_least_10 : decode cX6_least 10 = .ok (.aload_n 2, 1) := by decide +kernel
theorem dX6_least_11 : decode cX6_least 11 = .ok (.invokevirtual 143, 3) := by decide +kernel
theorem dX6_least_14 : decode cX6_least 14 = .ok (.ifCond .ne 13, 3) := by decide +kernel
theorem dX6_least_17 : decode cX6_least 17 = .ok (.new 73, 3) := by decide +kernel
theorem dX6_least_20 : decode cX6_least 20 = .ok (.dup, 1) := by decide +kernel
theorem dX6_least_21 : decode cX6_least 21 = .ok (.ldc 147, 2) := by decide +kernel
theorem dX6_least_23 : decode cX6_least 23 = .ok (.invokespecial 77, 3) := by decide +kernel
theorem dX6_least_26 : decode cX6_least 26 = .ok (.athrow, 1) := by decide +kernel
theorem dX6_least_27 : decode cX6_least 27 = .ok (.aload_n 0, 1) := by decide +kernel
theorem dX6_least_28 : decode cX6_least 28 = .ok (.getfield 48, 3) := by decide +kernel
theorem dX6_least_31 : decode cX6_least 31 = .ok (.aload_n 2, 1) := by decide +kernel
theorem dX6_least_32 : decode cX6_least 32 = .ok (.invokevirtual 149, 3) := by decide +kernel
theorem dX6_least_35 : decode cX6_least 35 = .ok (.aload_n 0, 1) := by decide +kernel
theorem dX6_least_36 : decode cX6_least 36 = .ok (.getfield 48, 3) := by decide +kernel
theorem dX6_least_39 : decode cX6_least 39 = .ok (.invokevirtual 152, 3) := by decide +kernel
theorem dX6_least_42 : decode cX6_least 42 = .ok (.bipush 64, 2) := by decide +kernel
theorem dX6_least_44 : decode cX6_least 44 = .ok (.if_icmp .le 13, 3) := by decide +kernel
theorem dX6_least_47 : decode cX6_least 47 = .ok (.new 100, 3) := by decide +kernel
theorem dX6_least_50 : decode cX6_least 50 = .ok (.dup, 1) := by decide +kernel
theorem dX6_least_51 : decode cX6_least 51 = .ok (.ldc 155, 2) := by decide +kernel
theorem dX6_least_53 : decode cX6_least 53 = .ok (.invokespecial 104, 3) := by decide +kernel
theorem dX6_least_56 : decode cX6_least 56 = .ok (.athrow, 1) := by decide +kernel
theorem dX6_least_57 : decode cX6_least 57 = .ok (.aload_n 0, 1) := by decide +kernel
theorem dX6_least_58 : decode cX6_least 58 = .ok (.getfield 22, 3) := by decide +kernel
theorem dX6_least_61 : decode cX6_least 61 = .ok (.invokevirtual 80, 3) := by decide +kernel
theorem dX6_least_64 : decode cX6_least 64 = .ok (.aload_n 0, 1) := by decide +kernel
theorem dX6_least_65 : decode cX6_least 65 = .ok (.getfield 48, 3) := by decide +kernel
theorem dX6_least_68 : decode cX6_least 68 = .ok (.aload_n 0, 1) := by decide +kernel
theorem dX6_least_69 : decode cX6_least 69 = .ok (.getfield 22, 3) := by decide +kernel
theorem dX6_least_72 : decode cX6_least 72 = .ok (.aload_n 2, 1) := by decide +kernel
theorem dX6_least_73 : decode cX6_least 73 = .ok (.iconst 0, 1) := by decide +kernel
theorem dX6_least_74 : decode cX6_least 74 = .ok (.invokevirtual 113, 3) := by decide +kernel
theorem dX6_least_77 : decode cX6_least 77 = .ok (.invokestatic 157, 3) := by decide +kernel
theorem dX6_least_80 : decode cX6_least 80 = .ok (.invokevirtual 160, 3) := by decide +kernel
theorem dX6_least_83 : decode cX6_least 83 = .ok (.aload_n 0, 1) := by decide +kernel
theorem dX6_least_84 : decode cX6_least 84 = .ok (.aload_n 0, 1) := by decide +kernel
theorem dX6_least_85 : decode cX6_least 85 = .ok (.aload_n 2, 1) := by decide +kernel
theorem dX6_least_86 : decode cX6_least 86 = .ok (.aload_n 0, 1) := by decide +kernel
theorem dX6_least_87 : decode cX6_least 87 = .ok (.getfield 22, 3) := by decide +kernel
theorem dX6_least_90 : decode cX6_least 90 = .ok (.invokevirtual 164, 3) := by decide +kernel
theorem dX6_least_93 : decode cX6_least 93 = .ok (.putfield 67, 3) := by decide +kernel
theorem dX6_least_96 : decode cX6_least 96 = .ok (.aload_n 2, 1) := by decide +kernel
theorem dX6_least_97 : decode cX6_least 97 = .ok (.aload_n 0, 1) := by decide +kernel
theorem dX6_least_98 : decode cX6_least 98 = .ok (.getfield 22, 3) := by decide +kernel
theorem dX6_least_101 : decode cX6_least 101 = .ok (.invokevirtual 131, 3) := by decide +kernel
theorem dX6_least_104 : decode cX6_least 104 = .ok (.aload_n 0, 1) := by decide +kernel
theorem dX6_least_105 : decode cX6_least 105 = .ok (.getfield 48, 3) := by decide +kernel
theorem dX6_least_108 : decode cX6_least 108 = .ok (.invokevirtual 168, 3) := by decide +kernel
theorem dX6_least_111 : decode cX6_least 111 = .ok (.ireturn, 1) := by decide +kernel
theorem dX6_equal_0 : decode cX6_equal 0 = .ok (.aload_n 0, 1) := by decide +kernel
theorem dX6_equal_1 : decode cX6_equal 1 = .ok (.iload_n 1, 1) := by decide +kernel
theorem dX6_equal_2 : decode cX6_equal 2 = .ok (.invokevirtual 84, 3) := by decide +kernel
theorem dX6_equal_5 : decode cX6_equal 5 = .ok (.astore_n 3, 1) := by decide +kernel
theorem dX6_equal_6 : decode cX6_equal 6 = .ok (.aload_n 0, 1) := by decide +kernel
theorem dX6_equal_7 : decode cX6_equal 7 = .ok (.iload_n 2, 1) := by decide +kernel
theorem dX6_equal_8 : decode cX6_equal 8 = .ok (.invokevirtual 84, 3) := by decide +kernel
theorem dX6_equal_11 : decode cX6_equal 11 = .ok (.astore 4, 2) := by decide +kernel
theorem dX6_equal_13 : decode cX6_equal 13 = .ok (.aload_n 3, 1) := by decide +kernel
theorem dX6_equal_14 : decode cX6_equal 14 = .ok (.ifnull 8, 3) := by decide +kernel
theorem dX6_equal_17 : decode cX6_equal 17 = .ok (.aload 4, 2) := by decide +kernel
theorem dX6_equal_19 : decode cX6_equal 19 = .ok (.ifnonnull 13, 3) := by decide +kernel
theorem dX6_equal_22 : decode cX6_equal 22 = .ok (.new 73, 3) := by decide +kernel
theorem dX6_equal_25 : decode cX6_equal 25 = .ok (.dup, 1) := by decide +kernel
theorem dX6_equal_26 : decode cX6_equal 26 = .ok (.ldc 117, 2) := by decide +kernel
theorem dX6_equal_28 : decode cX6_equal 28 = .ok (.invokespecial 77, 3) := by decide +kernel
theorem dX6_equal_31 : decode cX6_equal 31 = .ok (.athrow, 1) := by decide +kernel
theorem dX6_equal_32 : decode cX6_equal 32 = .ok (.aload_n 0, 1) := by decide +kernel
theorem dX6_equal_33 : decode cX6_equal 33 = .ok (.aload_n 3, 1) := by decide +kernel
theorem dX6_equal_34 : decode cX6_equal 34 = .ok (.aload 4, 2) := by decide +kernel
theorem dX6_equal_36 : decode cX6_equal 36 = .ok (.invokevirtual 164, 3) := by decide +kernel
theorem dX6_equal_39 : decode cX6_equal 39 = .ok (.istore 5, 2) := by decide +kernel
theorem dX6_equal_41 : decode cX6_equal 41 = .ok (.iload 5, 2) := by decide +kernel
theorem dX6_equal_43 : decode cX6_equal 43 = .ok (.iconst (-1), 1) := by decide +kernel
theorem dX6_equal_44 : decode cX6_equal 44 = .ok (.if_icmp .eq 15, 3) := by decide +kernel
theorem dX6_equal_47 : decode cX6_equal 47 = .ok (.aload_n 0, 1) := by decide +kernel
theorem dX6_equal_48 : decode cX6_equal 48 = .ok (.aload_n 3, 1) := by decide +kernel
theorem dX6_equal_49 : decode cX6_equal 49 = .ok (.aload 4, 2) := by decide +kernel
theorem dX6_equal_51 : decode cX6_equal 51 = .ok (.iload 5, 2) := by decide +kernel
theorem dX6_equal_53 : decode cX6_equal 53 = .ok (.invokevirtual 171, 3) := by decide +kernel
theorem dX6_equal_56 : decode cX6_equal 56 = .ok (.ifCond .ne 5, 3) := by decide +kernel
theorem dX6_equal_59 : decode cX6_equal 59 = .ok (.iconst 0, 1) := by decide +kernel
theorem dX6_equal_60 : decode cX6_equal 60 = .ok (.ireturn, 1) := by decide +kernel
theorem dX6_equal_61 : decode cX6_equal 61 = .ok (.aload_n 0, 1) := by decide +kernel
theorem dX6_equal_62 : decode cX6_equal 62 = .ok (.iload 5, 2) := by decide +kernel
theorem dX6_equal_64 : decode cX6_equal 64 = .ok (.putfield 67, 3) := by decide +kernel
theorem dX6_equal_67 : decode cX6_equal 67 = .ok (.iload 5, 2) := by decide +kernel
theorem dX6_equal_69 : decode cX6_equal 69 = .ok (.ifCond .ne 7, 3) := by decide +kernel
theorem dX6_equal_72 : decode cX6_equal 72 = .ok (.iconst 1, 1) := by decide +kernel
theorem dX6_equal_73 : decode cX6_equal 73 = .ok (.goto 4, 3) := by decide +kernel
theorem dX6_equal_76 : decode cX6_equal 76 = .ok (.iconst 2, 1) := by decide +kernel
theorem dX6_equal_77 : decode cX6_equal 77 = .ok (.ireturn, 1) := by decide +kernel
theorem dX6_phase_0 : decode cX6_phase 0 = .ok (.aload_n 0, 1) := by decide +kernel
theorem dX6_phase_1 : decode cX6_phase 1 = .ok (.getfield 67, 3) := by decide +kernel
theorem dX6_phase_4 : decode cX6_phase 4 = .ok (.ireturn, 1) := by decide +kernel
theorem dX6_differ_0 : decode cX6_differ 0 = .ok (.aload_n 0, 1) := by decide +kernel
theorem dX6_differ_1 : decode cX6_differ 1 = .ok (.iload_n 1, 1) := by decide +kernel
