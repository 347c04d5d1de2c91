theorem dX0_init_0 : decode cX0_init 0 = .ok (.aload_n 0, 1) := by decide +kernel
theorem dX0_init_1 : decode cX0_init 1 = .ok (.invokespecial 3, 3) := by decide +kernel
theorem dX0_init_4 : decode cX0_init 4 = .ok (.aload_n 0, 1) := by decide +kernel
theorem dX0_init_5 : decode cX0_init 5 = .ok (.iconst 4, 1) := by decide +kernel
theorem dX0_init_6 : decode cX0_init 6 = .ok (.anewarray 9, 3) := by decide +kernel
theorem dX0_init_9 : decode cX0_init 9 = .ok (.putfield 11, 3) := by decide +kernel
theorem dX0_init_12 : decode cX0_init 12 = .ok (.iconst 0, 1) := by decide +kernel
theorem dX0_init_13 : decode cX0_init 13 = .ok (.istore_n 1, 1) := by decide +kernel
theorem dX0_init_14 : decode cX0_init 14 = .ok (.iload_n 1, 1) := by decide +kernel
theorem dX0_init_15 : decode cX0_init 15 = .ok (.iconst 4, 1) := by decide +kernel
theorem dX0_init_16 : decode cX0_init 16 = .ok (.if_icmp .ge 22, 3) := by decide +kernel
theorem dX0_init_19 : decode cX0_init 19 = .ok (.aload_n 0, 1) := by decide +kernel
theorem dX0_init_20 : decode cX0_init 20 = .ok (.getfield 11, 3) := by decide +kernel
theorem dX0_init_23 : decode cX0_init 23 = .ok (.iload_n 1, 1) := by decide +kernel
theorem dX0_init_24 : decode cX0_init 24 = .ok (.new 9, 3) := by decide +kernel
theorem dX0_init_27 : decode cX0_init 27 = .ok (.dup, 1) := by decide +kernel
theorem dX0_init_28 : decode cX0_init 28 = .ok (.invokespecial 17, 3) := by decide +kernel
theorem dX0_init_31 : decode cX0_init 31 = .ok (.aastore, 1) := by decide +kernel
theorem dX0_init_32 : decode cX0_init 32 = .ok (.iinc 1 1, 3) := by decide +kernel
theorem dX0_init_35 : decode cX0_init 35 = .ok (.goto (-21), 3) := by decide +kernel
theorem dX0_init_38 : decode cX0_init 38 = .ok (.return_, 1) := by decide +kernel
theorem dX0_size_0 : decode cX0_size 0 = .ok (.aload_n 0, 1) := by decide +kernel
theorem dX0_size_1 : decode cX0_size 1 = .ok (.getfield 18, 3) := by decide +kernel
theorem dX0_size_4 : decode cX0_size 4 = .ok (.ireturn, 1) := by decide +kernel
theorem dX0_stateAt_0 : decode cX0_stateAt 0 = .ok (.aload_n 0, 1) := by decide +kernel
theorem dX0_stateAt_1 : decode cX0_stateAt 1 = .ok (.getfield 11, 3) := by decide +kernel
theorem dX0_stateAt_4 : decode cX0_stateAt 4 = .ok (.aload_n 0, 1) := by decide +kernel
theorem dX0_stateAt_5 : decode cX0_stateAt 5 = .ok (.getfield 22, 3) := by decide +kernel
theorem dX0_stateAt_8 : decode cX0_stateAt 8 = .ok (.iload_n 1, 1) := by decide +kernel
theorem dX0_stateAt_9 : decode cX0_stateAt 9 = .ok (.iadd, 1) := by decide +kernel
theorem dX0_stateAt_10 : decode cX0_stateAt 10 = .ok (.iconst 4, 1) := by decide +kernel
theorem dX0_stateAt_11 : decode cX0_stateAt 11 = .ok (.invokestatic 25, 3) := by decide +kernel
theorem dX0_stateAt_14 : decode cX0_stateAt 14 = .ok (.aaload, 1) := by decide +kernel
theorem dX0_stateAt_15 : decode cX0_stateAt 15 = .ok (.areturn, 1) := by decide +kernel
theorem dX0_record_0 : decode cX0_record 0 = .ok (.aload_n 0, 1) := by decide +kernel
theorem dX0_record_1 : decode cX0_record 1 = .ok (.getfield 18, 3) := by decide +kernel
theorem dX0_record_4 : decode cX0_record 4 = .ok (.iconst 4, 1) := by decide +kernel
theorem dX0_record_5 : decode cX0_record 5 = .ok (.if_icmp .lt 27, 3) := by decide +kernel
theorem dX0_record_8 : decode cX0_record 8 = .ok (.aload_n 0, 1) := by decide +kernel
theorem dX0_record_9 : decode cX0_record 9 = .ok (.aload_n 0, 1) := by decide +kernel
theorem dX0_record_10 : decode cX0_record 10 = .ok (.getfield 22, 3) := by decide +kernel
theorem dX0_record_13 : decode cX0_record 13 = .ok (.iconst 1, 1) := by decide +kernel
theorem dX0_record_14 : decode cX0_record 14 = .ok (.iadd, 1) := by decide +kernel
theorem dX0_record_15 : decode cX0_record 15 = .ok (.iconst 4, 1) := by decide +kernel
theorem dX0_record_16 : decode cX0_record 16 = .ok (.invokestatic 25, 3) := by decide +kernel
theorem dX0_record_19 : decode cX0_record 19 = .ok (.putfield 22, 3) := by decide +kernel
theorem dX0_record_22 : decode cX0_record 22 = .ok (.aload_n 0, 1) := by decide +kernel
theorem dX0_record_23 : decode cX0_record 23 = .ok (.dup, 1) := by decide +kernel
theorem dX0_record_24 : decode cX0_record 24 = .ok (.getfield 18, 3) := by decide +kernel
theorem dX0_record_27 : decode cX0_record 27 = .ok (.iconst 1, 1) := by decide +kernel
theorem dX0_record_28 : decode cX0_record 28 = .ok (.isub, 1) := by decide +kernel
theorem dX0_record_29 : decode cX0_record 29 = .ok (.putfield 18, 3) := by decide +kernel
theorem dX0_record_32 : decode cX0_record 32 = .ok (.aload_n 0, 1) := by decide +kernel
theorem dX0_record_33 : decode cX0_record 33 = .ok (.aload_n 0, 1) := by decide +kernel
theorem dX0_record_34 : decode cX0_record 34 = .ok (.getfield 18, 3) := by decide +kernel
theorem dX0_record_37 : decode cX0_record 37 = .ok (.invokevirtual 31, 3) := by decide +kernel
theorem dX0_record_40 : decode cX0_record 40 = .ok (.aload_n 1, 1) := by decide +kernel
theorem dX0_record_41 : decode cX0_record 41 = .ok (.invokevirtual 35, 3) := by decide +kernel
theorem dX0_record_44 : decode cX0_record 44 = .ok (.aload_n 0, 1) := by decide +kernel
theorem dX0_record_45 : decode cX0_record 45 = .ok (.dup, 1) := by decide +kernel
theorem dX0_record_46 : decode cX0_record 46 = .ok (.getfield 18, 3) := by decide +kernel
theorem dX0_record_49 : decode cX0_record 49 = .ok (.iconst 1, 1) := by decide +kernel
theorem dX0_record_50 : decode cX0_record 50 = .ok (.iadd, 1) := by decide +kernel
theorem dX0_record_51 : decode cX0_record 51 = .ok (.putfield 18, 3) := by decide +kernel
theorem dX0_record_54 : decode cX0_record 54 = .ok (.return_, 1) := by decide +kernel
theorem dX0_takeLatest_0 : decode cX0_takeLatest 0 = .ok (.aload_n 0, 1) := by decide +kernel
theorem dX0_takeLatest_1 : decode cX0_takeLatest 1 = .ok (.getfield 18, 3) := by decide +kernel
theorem dX0_takeLatest_4 : decode cX0_takeLatest 4 = .ok (.ifCond .le 25, 3) := by decide +kernel
theorem dX0_takeLatest_7 : decode cX0_takeLatest 7 = .ok (.aload_n 0, 1) := by decide +kernel
theorem dX0_takeLatest_8 : decode cX0_takeLatest 8 = .ok (.dup, 1) := by decide +kernel
theorem dX0_takeLatest_9 : decode cX0_takeLatest 9 = .ok (.getfield 18, 3) := by decide +kernel
theorem dX0_takeLatest_12 : decode cX0_takeLatest 12 = .ok (.iconst 1, 1) := by decide +kernel
theorem dX0_takeLatest_13 : decode cX0_takeLatest 13 = .ok (.isub, 1) := by decide +kernel
theorem dX0_takeLatest_14 : decode cX0_takeLatest 14 = .ok (.putfield 18, 3) := by decide +kernel
theorem dX0_takeLatest_17 : decode cX0_takeLatest 17 = .ok (.aload_n 1, 1) := by decide +kernel
theorem dX0_takeLatest_18 : decode cX0_takeLatest 18 = .ok (.aload_n 0, 1) := by decide +kernel
theorem dX0_takeLatest_19 : decode cX0_takeLatest 19 = .ok (.aload_n 0, 1) := by decide +kernel
theorem dX0_takeLatest_20 : decode cX0_takeLatest 20 = .ok (.getfield 18, 3) := by decide +kernel
theorem dX0_takeLatest_23 : decode cX0_takeLatest 23 = .ok (.invokevirtual 31, 3) := by decide +kernel
theorem dX0_takeLatest_26 : decode cX0_takeLatest 26 = .ok (.invokevirtual 35, 3) := by decide +kernel
theorem dX0_takeLatest_29 : decode cX0_takeLatest 29 = .ok (.return_, 1) := by decide +kernel
theorem dX1_init_0 : decode cX1_init 0 = .ok (.aload_n 0, 1) := by decide +kernel
theorem dX1_init_1 : decode cX1_init 1 = .ok (.invokespecial 3, 3) := by decide +kernel
theorem dX1_init_4 : decode cX1_init 4 = .ok (.aload_n 0, 1) := by decide +kernel
theorem dX1_init_5 : decode cX1_init 5 = .ok (.bipush 60, 2) := by decide +kernel
theorem dX1_init_7 : decode cX1_init 7 = .ok (.newarray .int, 2) := by decide +kernel
theorem dX1_init_9 : decode cX1_init 9 = .ok (.putfield 9, 3) := by decide +kernel
theorem dX1_init_12 : decode cX1_init 12 = .ok (.aload_n 0, 1) := by decide +kernel
theorem dX1_init_13 : decode cX1_init 13 = .ok (.iconst 4, 1) := by decide +kernel
theorem dX1_init_14 : decode cX1_init 14 = .ok (.newarray .int, 2) := by decide +kernel
theorem dX1_init_16 : decode cX1_init 16 = .ok (.putfield 15, 3) := by decide +kernel
theorem dX1_init_19 : decode cX1_init 19 = .ok (.return_, 1) := by decide +kernel
theorem dX1_length_0 : decode cX1_length 0 = .ok (.aload_n 0, 1) := by decide +kernel
theorem dX1_length_1 : decode cX1_length 1 = .ok (.getfield 18, 3) := by decide +kernel
theorem dX1_length_4 : decode cX1_length 4 = .ok (.ireturn, 1) := by decide +kernel
theorem dX1_orders_0 : decode cX1_orders 0 = .ok (.aload_n 0, 1) := by decide +kernel
theorem dX1_orders_1 : decode cX1_orders 1 = .ok (.getfield 22, 3) := by decide +kernel
theorem dX1_orders_4 : decode cX1_orders 4 = .ok (.ireturn, 1) := by decide +kernel
theorem dX1_hasFault_0 : decode cX1_hasFault 0 = .ok (.aload_n 0, 1) := by decide +kernel
theorem dX1_hasFault_1 : decode cX1_hasFault 1 = .ok (.getfield 25, 3) := by decide +kernel
theorem dX1_hasFault_4 : decode cX1_hasFault 4 = .ok (.ifCond .eq 7, 3) := by decide +kernel
theorem dX1_hasFault_7 : decode cX1_hasFault 7 = .ok (.iconst 1, 1) := by decide +kernel
theorem dX1_hasFault_8 : decode cX1_hasFault 8 = .ok (.goto 4, 3) := by decide +kernel
theorem dX1_hasFault_11 : decode cX1_hasFault 11 = .ok (.iconst 0, 1) := by decide +kernel
theorem dX1_hasFault_12 : decode cX1_hasFault 12 = .ok (.ireturn, 1) := by decide +kernel
theorem dX1_position_0 : decode cX1_position 0 = .ok (.aload_n 0, 1) := by decide +kernel
theorem dX1_position_1 : decode cX1_position 1 = .ok (.getfield 28, 3) := by decide +kernel
theorem dX1_position_4 : decode cX1_position 4 = .ok (.ireturn, 1) := by decide +kernel
theorem dX1_reason_0 : decode cX1_reason 0 = .ok (.aload_n 0, 1) := by decide +kernel
theorem dX1_reason_1 : decode cX1_reason 1 = .ok (.getfield 25, 3) := by decide +kernel
theorem dX1_reason_4 : decode cX1_reason 4 = .ok (.ireturn, 1) := by decide +kernel
theorem dX1_cause_0 : decode cX1_cause 0 = .ok (.aload_n 0, 1) := by decide +kernel
theorem dX1_cause_1 : decode cX1_cause 1 = .ok (.getfield 31, 3) := by decide +kernel
theorem dX1_cause_4 : decode cX1_cause 4 = .ok (.ireturn, 1) := by decide +kernel
theorem dX1_append_0 : decode cX1_append 0 = .ok (.iload_n 1, 1) := by decide +kernel
theorem dX1_append_1 : decode cX1_append 1 = .ok (.bipush 32, 2) := by decide +kernel
theorem dX1_append_3 : decode cX1_append 3 = .ok (.bipush 126, 2) := by decide +kernel
theorem dX1_append_5 : decode cX1_append 5 = .ok (.invokestatic 34, 3) := by decide +kernel
theorem dX1_append_8 : decode cX1_append 8 = .ok (.ifCond .ne 6, 3) := by decide +kernel
theorem dX1_append_11 : decode cX1_append 11 = .ok (.ldc 38, 2) := by decide +kernel
theorem dX1_append_13 : decode cX1_append 13 = .ok (.ireturn, 1) := by decide +kernel
theorem dX1_append_14 : decode cX1_append 14 = .ok (.aload_n 0, 1) := by decide +kernel
theorem dX1_append_15 : decode cX1_append 15 = .ok (.getfield 18, 3) := by decide +kernel
theorem dX1_append_18 : decode cX1_append 18 = .ok (.ifCond .lt 15, 3) := by decide +kernel
theorem dX1_append_21 : decode cX1_append 21 = .ok (.aload_n 0, 1) := by decide +kernel
theorem dX1_append_22 : decode cX1_append 22 = .ok (.getfield 18, 3) := by decide +kernel
theorem dX1_append_25 : decode cX1_append 25 = .ok (.aload_n 0, 1) := by decide +kernel
theorem dX1_append_26 : decode cX1_append 26 = .ok (.getfield 9, 3) := by decide +kernel
theorem dX1_append_29 : decode cX1_append 29 = .ok (.arraylength, 1) := by decide +kernel
theorem dX1_append_30 : decode cX1_append 30 = .ok (.if_icmp .lt 6, 3) := by decide +kernel
theorem dX1_append_33 : decode cX1_append 33 = .ok (.ldc 39, 2) := by decide +kernel
theorem dX1_append_35 : decode cX1_append 35 = .ok (.ireturn, 1) := by decide +kernel
theorem dX1_append_36 : decode cX1_append 36 = .ok (.aload_n 0, 1) := by decide +kernel
theorem dX1_append_37 : decode cX1_append 37 = .ok (.getfield 9, 3) := by decide +kernel
theorem dX1_append_40 : decode cX1_append 40 = .ok (.aload_n 0, 1) := by decide +kernel
theorem dX1_append_41 : decode cX1_append 41 = .ok (.getfield 18, 3) := by decide +kernel
theorem dX1_append_44 : decode cX1_append 44 = .ok (.iload_n 1, 1) := by decide +kernel
theorem dX1_append_45 : decode cX1_append 45 = .ok (.iastore, 1) := by decide +kernel
theorem dX1_append_46 : decode cX1_append 46 = .ok (.aload_n 0, 1) := by decide +kernel
theorem dX1_append_47 : decode cX1_append 47 = .ok (.dup, 1) := by decide +kernel
theorem dX1_append_48 : decode cX1_append 48 = .ok (.getfield 18, 3) := by decide +kernel
theorem dX1_append_51 : decode cX1_append 51 = .ok (.iconst 1, 1) := by decide +kernel
theorem dX1_append_52 : decode cX1_append 52 = .ok (.iadd, 1) := by decide +kernel
theorem dX1_append_53 : decode cX1_append 53 = .ok (.putfield 18, 3) := by decide +kernel
theorem dX1_append_56 : decode cX1_append 56 = .ok (.aload_n 0, 1) := by decide +kernel
theorem dX1_append_57 : decode cX1_append 57 = .ok (.getfield 18, 3) := by decide +kernel
theorem dX1_append_60 : decode cX1_append 60 = .ok (.ireturn, 1) := by decide +kernel
theorem dX1_clear_0 : decode cX1_clear 0 = .ok (.aload_n 0, 1) := by decide +kernel
theorem dX1_clear_1 : decode cX1_clear 1 = .ok (.getfield 18, 3) := by decide +kernel
theorem dX1_clear_4 : decode cX1_clear 4 = .ok (.istore_n 1, 1) := by decide +kernel
theorem dX1_clear_5 : decode cX1_clear 5 = .ok (.aload_n 0, 1) := by decide +kernel
theorem dX1_clear_6 : decode cX1_clear 6 = .ok (.iconst 0, 1) := by decide +kernel
theorem dX1_clear_7 : decode cX1_clear 7 = .ok (.putfield 18, 3) := by decide +kernel
theorem dX1_clear_10 : decode cX1_clear 10 = .ok (.iload_n 1, 1) := by decide +kernel
theorem dX1_clear_11 : decode cX1_clear 11 = .ok (.ireturn, 1) := by decide +kernel
theorem dX1_doAll_0 : decode cX1_doAll 0 = .ok (.aload_n 0, 1) := by decide +kernel
theorem dX1_doAll_1 : decode cX1_doAll 1 = .ok (.iconst 0, 1) := by decide +kernel
theorem dX1_doAll_2 : decode cX1_doAll 2 = .ok (.putfield 40, 3) := by decide +kernel
theorem dX1_doAll_5 : decode cX1_doAll 5 = .ok (.aload_n 0, 1) := by decide +kernel
theorem dX1_doAll_6 : decode cX1_doAll 6 = .ok (.iconst 0, 1) := by decide +kernel
theorem dX1_doAll_7 : decode cX1_doAll 7 = .ok (.putfield 22, 3) := by decide +kernel
theorem dX1_doAll_10 : decode cX1_doAll 10 = .ok (.aload_n 0, 1) := by decide +kernel
theorem dX1_doAll_11 : decode cX1_doAll 11 = .ok (.iconst 0, 1) := by decide +kernel
theorem dX1_doAll_12 : decode cX1_doAll 12 = .ok (.putfield 25, 3) := by decide +kernel
theorem dX1_doAll_15 : decode cX1_doAll 15 = .ok (.iconst 0, 1) := by decide +kernel
theorem dX1_doAll_16 : decode cX1_doAll 16 = .ok (.istore_n 2, 1) := by decide +kernel
theorem dX1_doAll_17 : decode cX1_doAll 17 = .ok (.iload_n 2, 1) := by decide +kernel
theorem dX1_doAll_18 : decode cX1_doAll 18 = .ok (.bipush 60, 2) := by decide +kernel
theorem dX1_doAll_20 : decode cX1_doAll 20 = .ok (.if_icmp .ge 87, 3) := by decide +kernel
theorem dX1_doAll_23 : decode cX1_doAll 23 = .ok (.aload_n 0, 1) := by decide +kernel
theorem dX1_doAll_24 : decode cX1_doAll 24 = .ok (.getfield 40, 3) := by decide +kernel
theorem dX1_doAll_27 : decode cX1_doAll 27 = .ok (.aload_n 0, 1) := by decide +kernel
theorem dX1_doAll_28 : decode cX1_doAll 28 = .ok (.getfield 18, 3) := by decide +kernel
theorem dX1_doAll_31 : decode cX1_doAll 31 = .ok (.if_icmp .ge 76, 3) := by decide +kernel
theorem dX1_doAll_34 : decode cX1_doAll 34 = .ok (.aload_n 0, 1) := by decide +kernel
theorem dX1_doAll_35 : decode cX1_doAll 35 = .ok (.invokevirtual 43, 3) := by decide +kernel
theorem dX1_doAll_38 : decode cX1_doAll 38 = .ok (.ifCond .ne 69, 3) := by decide +kernel
theorem dX1_doAll_41 : decode cX1_doAll 41 = .ok (.aload_n 0, 1) := by decide +kernel
theorem dX1_doAll_42 : decode cX1_doAll 42 = .ok (.getfield 40, 3) := by decide +kernel
theorem dX1_doAll_45 : decode cX1_doAll 45 = .ok (.istore_n 3, 1) := by decide +kernel
theorem dX1_doAll_46 : decode cX1_doAll 46 = .ok (.aload_n 0, 1) := by decide +kernel
theorem dX1_doAll_47 : decode cX1_doAll 47 = .ok (.invokevirtual 47, 3) := by decide +kernel
theorem dX1_doAll_50 : decode cX1_doAll 50 = .ok (.ifCond .ne 18, 3) := by decide +kernel
theorem dX1_doAll_53 : decode cX1_doAll 53 = .ok (.aload_n 0, 1) := by decide +kernel
theorem dX1_doAll_54 : decode cX1_doAll 54 = .ok (.iload_n 3, 1) := by decide +kernel
theorem dX1_doAll_55 : decode cX1_doAll 55 = .ok (.iconst 1, 1) := by decide +kernel
theorem dX1_doAll_56 : decode cX1_doAll 56 = .ok (.aload_n 0, 1) := by decide +kernel
theorem dX1_doAll_57 : decode cX1_doAll 57 = .ok (.getfield 40, 3) := by decide +kernel
theorem dX1_doAll_60 : decode cX1_doAll 60 = .ok (.iload_n 3, 1) := by decide +kernel
theorem dX1_doAll_61 : decode cX1_doAll 61 = .ok (.isub, 1) := by decide +kernel
theorem dX1_doAll_62 : decode cX1_doAll 62 = .ok (.invokevirtual 50, 3) := by decide +kernel
theorem dX1_doAll_65 : decode cX1_doAll 65 = .ok (.goto 36, 3) := by decide +kernel
theorem dX1_doAll_68 : decode cX1_doAll 68 = .ok (.aload_n 0, 1) := by decide +kernel
theorem dX1_doAll_69 : decode cX1_doAll 69 = .ok (.aload_n 1, 1) := by decide +kernel
theorem dX1_doAll_70 : decode cX1_doAll 70 = .ok (.invokevirtual 54, 3) := by decide +kernel
theorem dX1_doAll_73 : decode cX1_doAll 73 = .ok (.istore 4, 2) := by decide +kernel
theorem dX1_doAll_75 : decode cX1_doAll 75 = .ok (.iload 4, 2) := by decide +kernel
theorem dX1_doAll_77 : decode cX1_doAll 77 = .ok (.invokestatic 58, 3) := by decide +kernel
theorem dX1_doAll_80 : decode cX1_doAll 80 = .ok (.ifCond .eq 11, 3) := by decide +kernel
theorem dX1_doAll_83 : decode cX1_doAll 83 = .ok (.aload_n 0, 1) := by decide +kernel
theorem dX1_doAll_84 : decode cX1_doAll 84 = .ok (.iload_n 3, 1) := by decide +kernel
theorem dX1_doAll_85 : decode cX1_doAll 85 = .ok (.iconst 2, 1) := by decide +kernel
theorem dX1_doAll_86 : decode cX1_doAll 86 = .ok (.iload 4, 2) := by decide +kernel
theorem dX1_doAll_88 : decode cX1_doAll 88 = .ok (.invokevirtual 50, 3) := by decide +kernel
theorem dX1_doAll_91 : decode cX1_doAll 91 = .ok (.aload_n 0, 1) := by decide +kernel
theorem dX1_doAll_92 : decode cX1_doAll 92 = .ok (.dup, 1) := by decide +kernel
theorem dX1_doAll_93 : decode cX1_doAll 93 = .ok (.getfield 22, 3) := by decide +kernel
theorem dX1_doAll_96 : decode cX1_doAll 96 = .ok (.iconst 1, 1) := by decide +kernel
theorem dX1_doAll_97 : decode cX1_doAll 97 = .ok (.iadd, 1) := by decide +kernel
theorem dX1_doAll_98 : decode cX1_doAll 98 = .ok (.putfield 22, 3) := by decide +kernel
theorem dX1_doAll_101 : decode cX1_doAll 101 = .ok (.iinc 2 1, 3) := by decide +kernel
theorem dX1_doAll_104 : decode cX1_doAll 104 = .ok (.goto (-87), 3) := by decide +kernel
theorem dX1_doAll_107 : decode cX1_doAll 107 = .ok (.return_, 1) := by decide +kernel
theorem dX1_blame_0 : decode cX1_blame 0 = .ok (.aload_n 0, 1) := by decide +kernel
theorem dX1_blame_1 : decode cX1_blame 1 = .ok (.iload_n 1, 1) := by decide +kernel
theorem dX1_blame_2 : decode cX1_blame 2 = .ok (.putfield 28, 3) := by decide +kernel
theorem dX1_blame_5 : decode cX1_blame 5 = .ok (.aload_n 0, 1) := by decide +kernel
theorem dX1_blame_6 : decode cX1_blame 6 = .ok (.iload_n 2, 1) := by decide +kernel
theorem dX1_blame_7 : decode cX1_blame 7 = .ok (.putfield 25, 3) := by decide +kernel
theorem dX1_blame_10 : decode cX1_blame 10 = .ok (.aload_n 0, 1) := by decide +kernel
theorem dX1_blame_11 : decode cX1_blame 11 = .ok (.iload_n 3, 1) := by decide +kernel
theorem dX1_blame_12 : decode cX1_blame 12 = .ok (.putfield 31, 3) := by decide +kernel
theorem dX1_blame_15 : decode cX1_blame 15 = .ok (.return_, 1) := by decide +kernel
theorem dX1_doOrder_0 : decode cX1_doOrder 0 = .ok (.aload_n 0, 1) := by decide +kernel
theorem dX1_doOrder_1 : decode cX1_doOrder 1 = .ok (.getfield 62, 3) := by decide +kernel
theorem dX1_doOrder_4 : decode cX1_doOrder 4 = .ok (.tableswitch 137 108 119 #[75, 137, 137, 137, 137, 137, 97, 137, 108, 86, 137, 64], 64) := by decide +kernel
theorem dX1_doOrder_68 : decode cX1_doOrder 68 = .ok (.aload_n 1, 1) := by decide +kernel
theorem dX1_doOrder_69 : decode cX1_doOrder 69 = .ok (.aload_n 0, 1) := by decide +kernel
theorem dX1_doOrder_70 : decode cX1_doOrder 70 = .ok (.getfield 15, 3) := by decide +kernel
theorem dX1_doOrder_73 : decode cX1_doOrder 73 = .ok (.iconst 0, 1) := by decide +kernel
theorem dX1_doOrder_74 : decode cX1_doOrder 74 = .ok (.iaload, 1) := by decide +kernel
theorem dX1_doOrder_75 : decode cX1_doOrder 75 = .ok (.invokevirtual 65, 3) := by decide +kernel
theorem dX1_doOrder_78 : decode cX1_doOrder 78 = .ok (.ireturn, 1) := by decide +kernel
theorem dX1_doOrder_79 : decode cX1_doOrder 79 = .ok (.aload_n 1, 1) := by decide +kernel
theorem dX1_doOrder_80 : decode cX1_doOrder 80 = .ok (.aload_n 0, 1) := by decide +kernel
theorem dX1_doOrder_81 : decode cX1_doOrder 81 = .ok (.getfield 15, 3) := by decide +kernel
theorem dX1_doOrder_84 : decode cX1_doOrder 84 = .ok (.iconst 0, 1) := by decide +kernel
theorem dX1_doOrder_85 : decode cX1_doOrder 85 = .ok (.iaload, 1) := by decide +kernel
theorem dX1_doOrder_86 : decode cX1_doOrder 86 = .ok (.invokevirtual 71, 3) := by decide +kernel
theorem dX1_doOrder_89 : decode cX1_doOrder 89 = .ok (.ireturn, 1) := by decide +kernel
theorem dX1_doOrder_90 : decode cX1_doOrder 90 = .ok (.aload_n 1, 1) := by decide +kernel
theorem dX1_doOrder_91 : decode cX1_doOrder 91 = .ok (.aload_n 0, 1) := by decide +kernel
theorem dX1_doOrder_92 : decode cX1_doOrder 92 = .ok (.getfield 15, 3) := by decide +kernel
theorem dX1_doOrder_95 : decode cX1_doOrder 95 = .ok (.iconst 0, 1) := by decide +kernel
theorem dX1_doOrder_96 : decode cX1_doOrder 96 = .ok (.iaload, 1) := by decide +kernel
theorem dX1_doOrder_97 : decode cX1_doOrder 97 = .ok (.invokevirtual 74, 3) := by decide +kernel
theorem dX1_doOrder_100 : decode cX1_doOrder 100 = .ok (.ireturn, 1) := by decide +kernel
theorem dX1_doOrder_101 : decode cX1_doOrder 101 = .ok (.aload_n 1, 1) := by decide +kernel
theorem dX1_doOrder_102 : decode cX1_doOrder 102 = .ok (.aload_n 0, 1) := by decide +kernel
theorem dX1_doOrder_103 : decode cX1_doOrder 103 = .ok (.getfield 15, 3) := by decide +kernel
theorem dX1_doOrder_106 : decode cX1_doOrder 106 = .ok (.iconst 0, 1) := by decide +kernel
theorem dX1_doOrder_107 : decode cX1_doOrder 107 = .ok (.iaload, 1) := by decide +kernel
theorem dX1_doOrder_108 : decode cX1_doOrder 108 = .ok (.invokevirtual 77, 3) := by decide +kernel
theorem dX1_doOrder_111 : decode cX1_doOrder 111 = .ok (.ireturn, 1) := by decide +kernel
theorem dX1_doOrder_112 : decode cX1_doOrder 112 = .ok (.aload_n 1, 1) := by decide +kernel
theorem dX1_doOrder_113 : decode cX1_doOrder 113 = .ok (.aload_n 0, 1) := by decide +kernel
theorem dX1_doOrder_114 : decode cX1_doOrder 114 = .ok (.getfield 15, 3) := by decide +kernel
theorem dX1_doOrder_117 : decode cX1_doOrder 117 = .ok (.iconst 0, 1) := by decide +kernel
theorem dX1_doOrder_118 : decode cX1_doOrder 118 = .ok (.iaload, 1) := by decide +kernel
theorem dX1_doOrder_119 : decode cX1_doOrder 119 = .ok (.aload_n 0, 1) := by decide +kernel
theorem dX1_doOrder_120 : decode cX1_doOrder 120 = .ok (.getfield 15, 3) := by decide +kernel
theorem dX1_doOrder_123 : decode cX1_doOrder 123 = .ok (.iconst 1, 1) := by decide +kernel
theorem dX1_doOrder_124 : decode cX1_doOrder 124 = .ok (.iaload, 1) := by decide +kernel
theorem dX1_doOrder_125 : decode cX1_doOrder 125 = .ok (.aload_n 0, 1) := by decide +kernel
theorem dX1_doOrder_126 : decode cX1_doOrder 126 = .ok (.getfield 15, 3) := by decide +kernel
theorem dX1_doOrder_129 : decode cX1_doOrder 129 = .ok (.iconst 2, 1) := by decide +kernel
theorem dX1_doOrder_130 : decode cX1_doOrder 130 = .ok (.iaload, 1) := by decide +kernel
theorem dX1_doOrder_131 : decode cX1_doOrder 131 = .ok (.aload_n 0, 1) := by decide +kernel
theorem dX1_doOrder_132 : decode cX1_doOrder 132 = .ok (.getfield 15, 3) := by decide +kernel
theorem dX1_doOrder_135 : decode cX1_doOrder 135 = .ok (.iconst 3, 1) := by decide +kernel
theorem dX1_doOrder_136 : decode cX1_doOrder 136 = .ok (.iaload, 1) := by decide +kernel
theorem dX1_doOrder_137 : decode cX1_doOrder 137 = .ok (.invokevirtual 80, 3) := by decide +kernel
theorem dX1_doOrder_140 : decode cX1_doOrder 140 = .ok (.ireturn, 1) := by decide +kernel
theorem dX1_doOrder_141 : decode cX1_doOrder 141 = .ok (.aload_n 1, 1) := by decide +kernel
theorem dX1_doOrder_142 : decode cX1_doOrder 142 = .ok (.aload_n 0, 1) := by decide +kernel
theorem dX1_doOrder_143 : decode cX1_doOrder 143 = .ok (.getfield 15, 3) := by decide +kernel
theorem dX1_doOrder_146 : decode cX1_doOrder 146 = .ok (.iconst 0, 1) := by decide +kernel
theorem dX1_doOrder_147 : decode cX1_doOrder 147 = .ok (.iaload, 1) := by decide +kernel
theorem dX1_doOrder_148 : decode cX1_doOrder 148 = .ok (.invokevirtual 84, 3) := by decide +kernel
theorem dX1_doOrder_151 : decode cX1_doOrder 151 = .ok (.ireturn, 1) := by decide +kernel
theorem dX1_readOrder_0 : decode cX1_readOrder 0 = .ok (.aload_n 0, 1) := by decide +kernel
theorem dX1_readOrder_1 : decode cX1_readOrder 1 = .ok (.aload_n 0, 1) := by decide +kernel
theorem dX1_readOrder_2 : decode cX1_readOrder 2 = .ok (.aload_n 0, 1) := by decide +kernel
theorem dX1_readOrder_3 : decode cX1_readOrder 3 = .ok (.getfield 40, 3) := by decide +kernel
theorem dX1_readOrder_6 : decode cX1_readOrder 6 = .ok (.invokevirtual 87, 3) := by decide +kernel
theorem dX1_readOrder_9 : decode cX1_readOrder 9 = .ok (.putfield 62, 3) := by decide +kernel
theorem dX1_readOrder_12 : decode cX1_readOrder 12 = .ok (.aload_n 0, 1) := by decide +kernel
theorem dX1_readOrder_13 : decode cX1_readOrder 13 = .ok (.getfield 62, 3) := by decide +kernel
theorem dX1_readOrder_16 : decode cX1_readOrder 16 = .ok (.invokestatic 90, 3) := by decide +kernel
theorem dX1_readOrder_19 : decode cX1_readOrder 19 = .ok (.istore_n 1, 1) := by decide +kernel
theorem dX1_readOrder_20 : decode cX1_readOrder 20 = .ok (.iload_n 1, 1) := by decide +kernel
theorem dX1_readOrder_21 : decode cX1_readOrder 21 = .ok (.ifCond .ne 5, 3) := by decide +kernel
theorem dX1_readOrder_24 : decode cX1_readOrder 24 = .ok (.iconst 0, 1) := by decide +kernel
theorem dX1_readOrder_25 : decode cX1_readOrder 25 = .ok (.ireturn, 1) := by decide +kernel
theorem dX1_readOrder_26 : decode cX1_readOrder 26 = .ok (.aload_n 0, 1) := by decide +kernel
theorem dX1_readOrder_27 : decode cX1_readOrder 27 = .ok (.dup, 1) := by decide +kernel
theorem dX1_readOrder_28 : decode cX1_readOrder 28 = .ok (.getfield 40, 3) := by decide +kernel
theorem dX1_readOrder_31 : decode cX1_readOrder 31 = .ok (.iconst 1, 1) := by decide +kernel
theorem dX1_readOrder_32 : decode cX1_readOrder 32 = .ok (.iadd, 1) := by decide +kernel
theorem dX1_readOrder_33 : decode cX1_readOrder 33 = .ok (.putfield 40, 3) := by decide +kernel
theorem dX1_readOrder_36 : decode cX1_readOrder 36 = .ok (.iconst 0, 1) := by decide +kernel
theorem dX1_readOrder_37 : decode cX1_readOrder 37 = .ok (.istore_n 2, 1) := by decide +kernel
theorem dX1_readOrder_38 : decode cX1_readOrder 38 = .ok (.iload_n 2, 1) := by decide +kernel
theorem dX1_readOrder_39 : decode cX1_readOrder 39 = .ok (.iload_n 1, 1) := by decide +kernel
theorem dX1_readOrder_40 : decode cX1_readOrder 40 = .ok (.if_icmp .ge 34, 3) := by decide +kernel
theorem dX1_readOrder_43 : decode cX1_readOrder 43 = .ok (.iload_n 2, 1) := by decide +kernel
theorem dX1_readOrder_44 : decode cX1_readOrder 44 = .ok (.ifCond .le 14, 3) := by decide +kernel
theorem dX1_readOrder_47 : decode cX1_readOrder 47 = .ok (.aload_n 0, 1) := by decide +kernel
theorem dX1_readOrder_48 : decode cX1_readOrder 48 = .ok (.bipush 44, 2) := by decide +kernel
theorem dX1_readOrder_50 : decode cX1_readOrder 50 = .ok (.invokevirtual 93, 3) := by decide +kernel
theorem dX1_readOrder_53 : decode cX1_readOrder 53 = .ok (.ifCond .ne 5, 3) := by decide +kernel
theorem dX1_readOrder_56 : decode cX1_readOrder 56 = .ok (.iconst 0, 1) := by decide +kernel
theorem dX1_readOrder_57 : decode cX1_readOrder 57 = .ok (.ireturn, 1) := by decide +kernel
theorem dX1_readOrder_58 : decode cX1_readOrder 58 = .ok (.aload_n 0, 1) := by decide +kernel
theorem dX1_readOrder_59 : decode cX1_readOrder 59 = .ok (.iload_n 2, 1) := by decide +kernel
theorem dX1_readOrder_60 : decode cX1_readOrder 60 = .ok (.invokevirtual 96, 3) := by decide +kernel
theorem dX1_readOrder_63 : decode cX1_readOrder 63 = .ok (.ifCond .ne 5, 3) := by decide +kernel
theorem dX1_readOrder_66 : decode cX1_readOrder 66 = .ok (.iconst 0, 1) := by decide +kernel
theorem dX1_readOrder_67 : decode cX1_readOrder 67 = .ok (.ireturn, 1) := by decide +kernel
theorem dX1_readOrder_68 : decode cX1_readOrder 68 = .ok (.iinc 2 1, 3) := by decide +kernel
theorem dX1_readOrder_71 : decode cX1_readOrder 71 = .ok (.goto (-33), 3) := by decide +kernel
theorem dX1_readOrder_74 : decode cX1_readOrder 74 = .ok (.aload_n 0, 1) := by decide +kernel
theorem dX1_readOrder_75 : decode cX1_readOrder 75 = .ok (.bipush 59, 2) := by decide +kernel
theorem dX1_readOrder_77 : decode cX1_readOrder 77 = .ok (.invokevirtual 93, 3) := by decide +kernel
theorem dX1_readOrder_80 : decode cX1_readOrder 80 = .ok (.ireturn, 1) := by decide +kernel
theorem dX1_numbersOf_0 : decode cX1_numbersOf 0 = .ok (.iload_n 0, 1) := by decide +kernel
theorem dX1_numbersOf_1 : decode cX1_numbersOf 1 = .ok (.tableswitch 99 100 119 #[95, 99, 99, 99, 99, 99, 99, 99, 95, 99, 99, 99, 99, 99, 95, 99, 97, 95, 99, 95], 95) := by decide +kernel
theorem dX1_numbersOf_96 : decode cX1_numbersOf 96 = .ok (.iconst 1, 1) := by decide +kernel
theorem dX1_numbersOf_97 : decode cX1_numbersOf 97 = .ok (.ireturn, 1) := by decide +kernel
theorem dX1_numbersOf_98 : decode cX1_numbersOf 98 = .ok (.iconst 4, 1) := by decide +kernel
theorem dX1_numbersOf_99 : decode cX1_numbersOf 99 = .ok (.ireturn, 1) := by decide +kernel
theorem dX1_numbersOf_100 : decode cX1_numbersOf 100 = .ok (.iconst 0, 1) := by decide +kernel
theorem dX1_numbersOf_101 : decode cX1_numbersOf 101 = .ok (.ireturn, 1) := by decide +kernel
theorem dX1_readSign_0 : decode cX1_readSign 0 = .ok (.aload_n 0, 1) := by decide +kernel
theorem dX1_readSign_1 : decode cX1_readSign 1 = .ok (.aload_n 0, 1) := by decide +kernel
theorem dX1_readSign_2 : decode cX1_readSign 2 = .ok (.getfield 40, 3) := by decide +kernel
theorem dX1_readSign_5 : decode cX1_readSign 5 = .ok (.invokevirtual 87, 3) := by decide +kernel
theorem dX1_readSign_8 : decode cX1_readSign 8 = .ok (.iload_n 1, 1) := by decide +kernel
theorem dX1_readSign_9 : decode cX1_readSign 9 = .ok (.if_icmp .eq 5, 3) := by decide +kernel
theorem dX1_readSign_12 : decode cX1_readSign 12 = .ok (.iconst 0, 1) := by decide +kernel
theorem dX1_readSign_13 : decode cX1_readSign 13 = .ok (.ireturn, 1) := by decide +kernel
theorem dX1_readSign_14 : decode cX1_readSign 14 = .ok (.aload_n 0, 1) := by decide +kernel
theorem dX1_readSign_15 : decode cX1_readSign 15 = .ok (.dup, 1) := by decide +kernel
theorem dX1_readSign_16 : decode cX1_readSign 16 = .ok (.getfield 40, 3) := by decide +kernel
theorem dX1_readSign_19 : decode cX1_readSign 19 = .ok (.iconst 1, 1) := by decide +kernel
theorem dX1_readSign_20 : decode cX1_readSign 20 = .ok (.iadd, 1) := by decide +kernel
theorem dX1_readSign_21 : decode cX1_readSign 21 = .ok (.putfield 40, 3) := by decide +kernel
theorem dX1_readSign_24 : decode cX1_readSign 24 = .ok (.iconst 1, 1) := by decide +kernel
theorem dX1_readSign_25 : decode cX1_readSign 25 = .ok (.ireturn, 1) := by decide +kernel
theorem dX1_readNumber_0 : decode cX1_readNumber 0 = .ok (.aload_n 0, 1) := by decide +kernel
theorem dX1_readNumber_1 : decode cX1_readNumber 1 = .ok (.aload_n 0, 1) := by decide +kernel
theorem dX1_readNumber_2 : decode cX1_readNumber 2 = .ok (.getfield 40, 3) := by decide +kernel
theorem dX1_readNumber_5 : decode cX1_readNumber 5 = .ok (.invokevirtual 87, 3) := by decide +kernel
theorem dX1_readNumber_8 : decode cX1_readNumber 8 = .ok (.invokestatic 99, 3) := by decide +kernel
theorem dX1_readNumber_11 : decode cX1_readNumber 11 = .ok (.ifCond .eq 16, 3) := by decide +kernel
theorem dX1_readNumber_14 : decode cX1_readNumber 14 = .ok (.iload_n 1, 1) := by decide +kernel
theorem dX1_readNumber_15 : decode cX1_readNumber 15 = .ok (.ifCond .lt 12, 3) := by decide +kernel
theorem dX1_readNumber_18 : decode cX1_readNumber 18 = .ok (.iload_n 1, 1) := by decide +kernel
theorem dX1_readNumber_19 : decode cX1_readNumber 19 = .ok (.aload_n 0, 1) := by decide +kernel
theorem dX1_readNumber_20 : decode cX1_readNumber 20 = .ok (.getfield 15, 3) := by decide +kernel
theorem dX1_readNumber_23 : decode cX1_readNumber 23 = .ok (.arraylength, 1) := by decide +kernel
theorem dX1_readNumber_24 : decode cX1_readNumber 24 = .ok (.if_icmp .lt 5, 3) := by decide +kernel
theorem dX1_readNumber_27 : decode cX1_readNumber 27 = .ok (.iconst 0, 1) := by decide +kernel
theorem dX1_readNumber_28 : decode cX1_readNumber 28 = .ok (.ireturn, 1) := by decide +kernel
theorem dX1_readNumber_29 : decode cX1_readNumber 29 = .ok (.aload_n 0, 1) := by decide +kernel
theorem dX1_readNumber_30 : decode cX1_readNumber 30 = .ok (.aload_n 0, 1) := by decide +kernel
theorem dX1_readNumber_31 : decode cX1_readNumber 31 = .ok (.getfield 40, 3) := by decide +kernel
theorem dX1_readNumber_34 : decode cX1_readNumber 34 = .ok (.invokevirtual 87, 3) := by decide +kernel
theorem dX1_readNumber_37 : decode cX1_readNumber 37 = .ok (.bipush 48, 2) := by decide +kernel
theorem dX1_readNumber_39 : decode cX1_readNumber 39 = .ok (.isub, 1) := by decide +kernel
theorem dX1_readNumber_40 : decode cX1_readNumber 40 = .ok (.istore_n 2, 1) := by decide +kernel
theorem dX1_readNumber_41 : decode cX1_readNumber 41 = .ok (.aload_n 0, 1) := by decide +kernel
theorem dX1_readNumber_42 : decode cX1_readNumber 42 = .ok (.dup, 1) := by decide +kernel
theorem dX1_readNumber_43 : decode cX1_readNumber 43 = .ok (.getfield 40, 3) := by decide +kernel
theorem dX1_readNumber_46 : decode cX1_readNumber 46 = .ok (.iconst 1, 1) := by decide +kernel
theorem dX1_readNumber_47 : decode cX1_readNumber 47 = .ok (.iadd, 1) := by decide +kernel
theorem dX1_readNumber_48 : decode cX1_readNumber 48 = .ok (.putfield 40, 3) := by decide +kernel
theorem dX1_readNumber_51 : decode cX1_readNumber 51 = .ok (.aload_n 0, 1) := by decide +kernel
theorem dX1_readNumber_52 : decode cX1_readNumber 52 = .ok (.aload_n 0, 1) := by decide +kernel
theorem dX1_readNumber_53 : decode cX1_readNumber 53 = .ok (.getfield 40, 3) := by decide +kernel
theorem dX1_readNumber_56 : decode cX1_readNumber 56 = .ok (.invokevirtual 87, 3) := by decide +kernel
theorem dX1_readNumber_59 : decode cX1_readNumber 59 = .ok (.invokestatic 99, 3) := by decide +kernel
theorem dX1_readNumber_62 : decode cX1_readNumber 62 = .ok (.ifCond .eq 30, 3) := by decide +kernel
theorem dX1_readNumber_65 : decode cX1_readNumber 65 = .ok (.iload_n 2, 1) := by decide +kernel
theorem dX1_readNumber_66 : decode cX1_readNumber 66 = .ok (.bipush 10, 2) := by decide +kernel
theorem dX1_readNumber_68 : decode cX1_readNumber 68 = .ok (.imul, 1) := by decide +kernel
theorem dX1_readNumber_69 : decode cX1_readNumber 69 = .ok (.aload_n 0, 1) := by decide +kernel
theorem dX1_readNumber_70 : decode cX1_readNumber 70 = .ok (.aload_n 0, 1) := by decide +kernel
theorem dX1_readNumber_71 : decode cX1_readNumber 71 = .ok (.getfield 40, 3) := by decide +kernel
theorem dX1_readNumber_74 : decode cX1_readNumber 74 = .ok (.invokevirtual 87, 3) := by decide +kernel
theorem dX1_readNumber_77 : decode cX1_readNumber 77 = .ok (.iadd, 1) := by decide +kernel
theorem dX1_readNumber_78 : decode cX1_readNumber 78 = .ok (.bipush 48, 2) := by decide +kernel
theorem dX1_readNumber_80 : decode cX1_readNumber 80 = .ok (.isub, 1) := by decide +kernel
theorem dX1_readNumber_81 : decode cX1_readNumber 81 = .ok (.istore_n 2, 1) := by decide +kernel
theorem dX1_readNumber_82 : decode cX1_readNumber 82 = .ok (.aload_n 0, 1) := by decide +kernel
theorem dX1_readNumber_83 : decode cX1_readNumber 83 = .ok (.dup, 1) := by decide +kernel
theorem dX1_readNumber_84 : decode cX1_readNumber 84 = .ok (.getfield 40, 3) := by decide +kernel
theorem dX1_readNumber_87 : decode cX1_readNumber 87 = .ok (.iconst 1, 1) := by decide +kernel
theorem dX1_readNumber_88 : decode cX1_readNumber 88 = .ok (.iadd, 1) := by decide +kernel
theorem dX1_readNumber_89 : decode cX1_readNumber 89 = .ok (.putfield 40, 3) := by decide +kernel
theorem dX1_readNumber_92 : decode cX1_readNumber 92 = .ok (.aload_n 0, 1) := by decide +kernel
theorem dX1_readNumber_93 : decode cX1_readNumber 93 = .ok (.getfield 15, 3) := by decide +kernel
theorem dX1_readNumber_96 : decode cX1_readNumber 96 = .ok (.iload_n 1, 1) := by decide +kernel
theorem dX1_readNumber_97 : decode cX1_readNumber 97 = .ok (.iload_n 2, 1) := by decide +kernel
theorem dX1_readNumber_98 : decode cX1_readNumber 98 = .ok (.iastore, 1) := by decide +kernel
theorem dX1_readNumber_99 : decode cX1_readNumber 99 = .ok (.iconst 1, 1) := by decide +kernel
theorem dX1_readNumber_100 : decode cX1_readNumber 100 = .ok (.ireturn, 1) := by decide +kernel
theorem dX1_signAt_0 : decode cX1_signAt 0 = .ok (.iload_n 1, 1) := by decide +kernel
theorem dX1_signAt_1 : decode cX1_signAt 1 = .ok (.ifCond .lt 29, 3) := by decide +kernel
theorem dX1_signAt_4 : decode cX1_signAt 4 = .ok (.iload_n 1, 1) := by decide +kernel
theorem dX1_signAt_5 : decode cX1_signAt 5 = .ok (.aload_n 0, 1) := by decide +kernel
theorem dX1_signAt_6 : decode cX1_signAt 6 = .ok (.getfield 9, 3) := by decide +kernel
theorem dX1_signAt_9 : decode cX1_signAt 9 = .ok (.arraylength, 1) := by decide +kernel
theorem dX1_signAt_10 : decode cX1_signAt 10 = .ok (.if_icmp .ge 20, 3) := by decide +kernel
theorem dX1_signAt_13 : decode cX1_signAt 13 = .ok (.iload_n 1, 1) := by decide +kernel
theorem dX1_signAt_14 : decode cX1_signAt 14 = .ok (.aload_n 0, 1) := by decide +kernel
theorem dX1_signAt_15 : decode cX1_signAt 15 = .ok (.getfield 18, 3) := by decide +kernel
theorem dX1_signAt_18 : decode cX1_signAt 18 = .ok (.if_icmp .ge 12, 3) := by decide +kernel
theorem dX1_signAt_21 : decode cX1_signAt 21 = .ok (.aload_n 0, 1) := by decide +kernel
theorem dX1_signAt_22 : decode cX1_signAt 22 = .ok (.getfield 9, 3) := by decide +kernel
theorem dX1_signAt_25 : decode cX1_signAt 25 = .ok (.iload_n 1, 1) := by decide +kernel
theorem dX1_signAt_26 : decode cX1_signAt 26 = .ok (.iaload, 1) := by decide +kernel
theorem dX1_signAt_27 : decode cX1_signAt 27 = .ok (.goto 4, 3) := by decide +kernel
theorem dX1_signAt_30 : decode cX1_signAt 30 = .ok (.iconst (-1), 1) := by decide +kernel
theorem dX1_signAt_31 : decode cX1_signAt 31 = .ok (.ireturn, 1) := by decide +kernel
theorem dX1_isDigit_0 : decode cX1_isDigit 0 = .ok (.iload_n 0, 1) := by decide +kernel
theorem dX1_isDigit_1 : decode cX1_isDigit 1 = .ok (.bipush 48, 2) := by decide +kernel
theorem dX1_isDigit_3 : decode cX1_isDigit 3 = .ok (.if_icmp .lt 13, 3) := by decide +kernel
theorem dX1_isDigit_6 : decode cX1_isDigit 6 = .ok (.iload_n 0, 1) := by decide +kernel
theorem dX1_isDigit_7 : decode cX1_isDigit 7 = .ok (.bipush 57, 2) := by decide +kernel
theorem dX1_isDigit_9 : decode cX1_isDigit 9 = .ok (.if_icmp .gt 7, 3) := by decide +kernel
theorem dX1_isDigit_12 : decode cX1_isDigit 12 = .ok (.iconst 1, 1) := by decide +kernel
theorem dX1_isDigit_13 : decode cX1_isDigit 13 = .ok (.goto 4, 3) := by decide +kernel
theorem dX1_isDigit_16 : decode cX1_isDigit 16 = .ok (.iconst 0, 1) := by decide +kernel
theorem dX1_isDigit_17 : decode cX1_isDigit 17 = .ok (.ireturn, 1) := by decide +kernel
theorem dX2_init_0 : decode cX2_init 0 = .ok (.aload_n 0, 1) := by decide +kernel
theorem dX2_init_1 : decode cX2_init 1 = .ok (.invokespecial 3, 3) := by decide +kernel
theorem dX2_init_4 : decode cX2_init 4 = .ok (.return_, 1) := by decide +kernel
theorem dX2_copyFrom_0 : decode cX2_copyFrom 0 = .ok (.aload_n 0, 1) := by decide +kernel
theorem dX2_copyFrom_1 : decode cX2_copyFrom 1 = .ok (.aload_n 1, 1) := by decide +kernel
theorem dX2_copyFrom_2 : decode cX2_copyFrom 2 = .ok (.getfield 9, 3) := by decide +kernel
theorem dX2_copyFrom_5 : decode cX2_copyFrom 5 = .ok (.putfield 9, 3) := by decide +kernel
theorem dX2_copyFrom_8 : decode cX2_copyFrom 8 = .ok (.aload_n 0, 1) := by decide +kernel
theorem dX2_copyFrom_9 : decode cX2_copyFrom 9 = .ok (.aload_n 1, 1) := by decide +kernel
theorem dX2_copyFrom_10 : decode cX2_copyFrom 10 = .ok (.getfield 15, 3) := by decide +kernel
theorem dX2_copyFrom_13 : decode cX2_copyFrom 13 = .ok (.putfield 15, 3) := by decide +kernel
theorem dX2_copyFrom_16 : decode cX2_copyFrom 16 = .ok (.aload_n 0, 1) := by decide +kernel
theorem dX2_copyFrom_17 : decode cX2_copyFrom 17 = .ok (.aload_n 1, 1) := by decide +kernel
theorem dX2_copyFrom_18 : decode cX2_copyFrom 18 = .ok (.getfield 18, 3) := by decide +kernel
theorem dX2_copyFrom_21 : decode cX2_copyFrom 21 = .ok (.putfield 18, 3) := by decide +kernel
theorem dX2_copyFrom_24 : decode cX2_copyFrom 24 = .ok (.aload_n 0, 1) := by decide +kernel
theorem dX2_copyFrom_25 : decode cX2_copyFrom 25 = .ok (.aload_n 1, 1) := by decide +kernel
theorem dX2_copyFrom_26 : decode cX2_copyFrom 26 = .ok (.getfield 21, 3) := by decide +kernel
theorem dX2_copyFrom_29 : decode cX2_copyFrom 29 = .ok (.putfield 21, 3) := by decide +kernel
theorem dX2_copyFrom_32 : decode cX2_copyFrom 32 = .ok (.aload_n 0, 1) := by decide +kernel
theorem dX2_copyFrom_33 : decode cX2_copyFrom 33 = .ok (.aload_n 1, 1) := by decide +kernel
theorem dX2_copyFrom_34 : decode cX2_copyFrom 34 = .ok (.getfield 24, 3) := by decide +kernel
theorem dX2_copyFrom_37 : decode cX2_copyFrom 37 = .ok (.putfield 24, 3) := by decide +kernel
theorem dX2_copyFrom_40 : decode cX2_copyFrom 40 = .ok (.aload_n 0, 1) := by decide +kernel
theorem dX2_copyFrom_41 : decode cX2_copyFrom 41 = .ok (.aload_n 1, 1) := by decide +kernel
theorem dX2_copyFrom_42 : decode cX2_copyFrom 42 = .ok (.getfield 27, 3) := by decide +kernel
theorem dX2_copyFrom_45 : decode cX2_copyFrom 45 = .ok (.putfield 27, 3) := by decide +kernel
theorem dX2_copyFrom_48 : decode cX2_copyFrom 48 = .ok (.return_, 1) := by decide +kernel
theorem dX2_grow_0 : decode cX2_grow 0 = .ok (.aload_n 0, 1) := by decide +kernel
theorem dX2_grow_1 : decode cX2_grow 1 = .ok (.aload_n 0, 1) := by decide +kernel
theorem dX2_grow_2 : decode cX2_grow 2 = .ok (.getfield 15, 3) := by decide +kernel
theorem dX2_grow_5 : decode cX2_grow 5 = .ok (.aload_n 0, 1) := by decide +kernel
theorem dX2_grow_6 : decode cX2_grow 6 = .ok (.getfield 9, 3) := by decide +kernel
theorem dX2_grow_9 : decode cX2_grow 9 = .ok (.iadd, 1) := by decide +kernel
theorem dX2_grow_10 : decode cX2_grow 10 = .ok (.sipush 999, 3) := by decide +kernel
theorem dX2_grow_13 : decode cX2_grow 13 = .ok (.if_icmp .le 9, 3) := by decide +kernel
theorem dX2_grow_16 : decode cX2_grow 16 = .ok (.sipush 999, 3) := by decide +kernel
theorem dX2_grow_19 : decode cX2_grow 19 = .ok (.goto 12, 3) := by decide +kernel
theorem dX2_grow_22 : decode cX2_grow 22 = .ok (.aload_n 0, 1) := by decide +kernel
theorem dX2_grow_23 : decode cX2_grow 23 = .ok (.getfield 15, 3) := by decide +kernel
theorem dX2_grow_26 : decode cX2_grow 26 = .ok (.aload_n 0, 1) := by decide +kernel
theorem dX2_grow_27 : decode cX2_grow 27 = .ok (.getfield 9, 3) := by decide +kernel
theorem dX2_grow_30 : decode cX2_grow 30 = .ok (.iadd, 1) := by decide +kernel
theorem dX2_grow_31 : decode cX2_grow 31 = .ok (.putfield 15, 3) := by decide +kernel
theorem dX2_grow_34 : decode cX2_grow 34 = .ok (.return_, 1) := by decide +kernel
theorem dX2_pay_0 : decode cX2_pay 0 = .ok (.aload_n 0, 1) := by decide +kernel
theorem dX2_pay_1 : decode cX2_pay 1 = .ok (.dup, 1) := by decide +kernel
theorem dX2_pay_2 : decode cX2_pay 2 = .ok (.getfield 18, 3) := by decide +kernel
theorem dX2_pay_5 : decode cX2_pay 5 = .ok (.iload_n 2, 1) := by decide +kernel
theorem dX2_pay_6 : decode cX2_pay 6 = .ok (.isub, 1) := by decide +kernel
theorem dX2_pay_7 : decode cX2_pay 7 = .ok (.putfield 18, 3) := by decide +kernel
theorem dX2_pay_10 : decode cX2_pay 10 = .ok (.aload_n 1, 1) := by decide +kernel
theorem dX2_pay_11 : decode cX2_pay 11 = .ok (.dup, 1) := by decide +kernel
theorem dX2_pay_12 : decode cX2_pay 12 = .ok (.getfield 18, 3) := by decide +kernel
theorem dX2_pay_15 : decode cX2_pay 15 = .ok (.iload_n 2, 1) := by decide +kernel
theorem dX2_pay_16 : decode cX2_pay 16 = .ok (.iadd, 1) := by decide +kernel
theorem dX2_pay_17 : decode cX2_pay 17 = .ok (.putfield 18, 3) := by decide +kernel
theorem dX2_pay_20 : decode cX2_pay 20 = .ok (.return_, 1) := by decide +kernel
theorem dX2_payHire_0 : decode cX2_payHire 0 = .ok (.aload_n 0, 1) := by decide +kernel
theorem dX2_payHire_1 : decode cX2_payHire 1 = .ok (.dup, 1) := by decide +kernel
theorem dX2_payHire_2 : decode cX2_payHire 2 = .ok (.getfield 18, 3) := by decide +kernel
theorem dX2_payHire_5 : decode cX2_payHire 5 = .ok (.iload_n 2, 1) := by decide +kernel
theorem dX2_payHire_6 : decode cX2_payHire 6 = .ok (.isub, 1) := by decide +kernel
theorem dX2_payHire_7 : decode cX2_payHire 7 = .ok (.putfield 18, 3) := by decide +kernel
theorem dX2_payHire_10 : decode cX2_payHire 10 = .ok (.aload_n 0, 1) := by decide +kernel
theorem dX2_payHire_11 : decode cX2_payHire 11 = .ok (.dup, 1) := by decide +kernel
theorem dX2_payHire_12 : decode cX2_payHire 12 = .ok (.getfield 24, 3) := by decide +kernel
theorem dX2_payHire_15 : decode cX2_payHire 15 = .ok (.iload_n 2, 1) := by decide +kernel
theorem dX2_payHire_16 : decode cX2_payHire 16 = .ok (.isub, 1) := by decide +kernel
theorem dX2_payHire_17 : decode cX2_payHire 17 = .ok (.putfield 24, 3) := by decide +kernel
theorem dX2_payHire_20 : decode cX2_payHire 20 = .ok (.aload_n 1, 1) := by decide +kernel
theorem dX2_payHire_21 : decode cX2_payHire 21 = .ok (.dup, 1) := by decide +kernel
theorem dX2_payHire_22 : decode cX2_payHire 22 = .ok (.getfield 18, 3) := by decide +kernel
theorem dX2_payHire_25 : decode cX2_payHire 25 = .ok (.iload_n 2, 1) := by decide +kernel
theorem dX2_payHire_26 : decode cX2_payHire 26 = .ok (.iadd, 1) := by decide +kernel
theorem dX2_payHire_27 : decode cX2_payHire 27 = .ok (.putfield 18, 3) := by decide +kernel
theorem dX2_payHire_30 : decode cX2_payHire 30 = .ok (.aload_n 1, 1) := by decide +kernel
theorem dX2_payHire_31 : decode cX2_payHire 31 = .ok (.dup, 1) := by decide +kernel
theorem dX2_payHire_32 : decode cX2_payHire 32 = .ok (.getfield 24, 3) := by decide +kernel
theorem dX2_payHire_35 : decode cX2_payHire 35 = .ok (.iload_n 2, 1) := by decide +kernel
theorem dX2_payHire_36 : decode cX2_payHire 36 = .ok (.iadd, 1) := by decide +kernel
theorem dX2_payHire_37 : decode cX2_payHire 37 = .ok (.putfield 24, 3) := by decide +kernel
theorem dX2_payHire_40 : decode cX2_payHire 40 = .ok (.return_, 1) := by decide +kernel
theorem dX2_payDemurrage_0 : decode cX2_payDemurrage 0 = .ok (.aload_n 0, 1) := by decide +kernel
theorem dX2_payDemurrage_1 : decode cX2_payDemurrage 1 = .ok (.dup, 1) := by decide +kernel
theorem dX2_payDemurrage_2 : decode cX2_payDemurrage 2 = .ok (.getfield 18, 3) := by decide +kernel
theorem dX2_payDemurrage_5 : decode cX2_payDemurrage 5 = .ok (.iload_n 2, 1) := by decide +kernel
theorem dX2_payDemurrage_6 : decode cX2_payDemurrage 6 = .ok (.isub, 1) := by decide +kernel
theorem dX2_payDemurrage_7 : decode cX2_payDemurrage 7 = .ok (.putfield 18, 3) := by decide +kernel
theorem dX2_payDemurrage_10 : decode cX2_payDemurrage 10 = .ok (.aload_n 0, 1) := by decide +kernel
theorem dX2_payDemurrage_11 : decode cX2_payDemurrage 11 = .ok (.dup, 1) := by decide +kernel
theorem dX2_payDemurrage_12 : decode cX2_payDemurrage 12 = .ok (.getfield 21, 3) := by decide +kernel
theorem dX2_payDemurrage_15 : decode cX2_payDemurrage 15 = .ok (.iload_n 2, 1) := by decide +kernel
theorem dX2_payDemurrage_16 : decode cX2_payDemurrage 16 = .ok (.iadd, 1) := by decide +kernel
theorem dX2_payDemurrage_17 : decode cX2_payDemurrage 17 = .ok (.putfield 21, 3) := by decide +kernel
theorem dX2_payDemurrage_20 : decode cX2_payDemurrage 20 = .ok (.aload_n 1, 1) := by decide +kernel
theorem dX2_payDemurrage_21 : decode cX2_payDemurrage 21 = .ok (.dup, 1) := by decide +kernel
theorem dX2_payDemurrage_22 : decode cX2_payDemurrage 22 = .ok (.getfield 18, 3) := by decide +kernel
theorem dX2_payDemurrage_25 : decode cX2_payDemurrage 25 = .ok (.iload_n 2, 1) := by decide +kernel
theorem dX2_payDemurrage_26 : decode cX2_payDemurrage 26 = .ok (.iadd, 1) := by decide +kernel
theorem dX2_payDemurrage_27 : decode cX2_payDemurrage 27 = .ok (.putfield 18, 3) := by decide +kernel
theorem dX2_payDemurrage_30 : decode cX2_payDemurrage 30 = .ok (.aload_n 1, 1) := by decide +kernel
theorem dX2_payDemurrage_31 : decode cX2_payDemurrage 31 = .ok (.dup, 1) := by decide +kernel
theorem dX2_payDemurrage_32 : decode cX2_payDemurrage 32 = .ok (.getfield 21, 3) := by decide +kernel
theorem dX2_payDemurrage_35 : decode cX2_payDemurrage 35 = .ok (.iload_n 2, 1) := by decide +kernel
theorem dX2_payDemurrage_36 : decode cX2_payDemurrage 36 = .ok (.iadd, 1) := by decide +kernel
theorem dX2_payDemurrage_37 : decode cX2_payDemurrage 37 = .ok (.putfield 21, 3) := by decide +kernel
theorem dX2_payDemurrage_40 : decode cX2_payDemurrage 40 = .ok (.return_, 1) := by decide +kernel
theorem dX2_loadsOfHeap_0 : decode cX2_loadsOfHeap 0 = .ok (.aload_n 0, 1) := by decide +kernel
theorem dX2_loadsOfHeap_1 : decode cX2_loadsOfHeap 1 = .ok (.getfield 15, 3) := by decide +kernel
theorem dX2_loadsOfHeap_4 : decode cX2_loadsOfHeap 4 = .ok (.bipush 30, 2) := by decide +kernel
theorem dX2_loadsOfHeap_6 : decode cX2_loadsOfHeap 6 = .ok (.idiv, 1) := by decide +kernel
theorem dX2_loadsOfHeap_7 : decode cX2_loadsOfHeap 7 = .ok (.ireturn, 1) := by decide +kernel
theorem dX3_init_0 : decode cX3_init 0 = .ok (.aload_n 0, 1) := by decide +kernel
theorem dX3_init_1 : decode cX3_init 1 = .ok (.invokespecial 3, 3) := by decide +kernel
theorem dX3_init_4 : decode cX3_init 4 = .ok (.aload_n 0, 1) := by decide +kernel
theorem dX3_init_5 : decode cX3_init 5 = .ok (.iconst 5, 1) := by decide +kernel
theorem dX3_init_6 : decode cX3_init 6 = .ok (.anewarray 9, 3) := by decide +kernel
theorem dX3_init_9 : decode cX3_init 9 = .ok (.putfield 11, 3) := by decide +kernel
theorem dX3_init_12 : decode cX3_init 12 = .ok (.iconst 0, 1) := by decide +kernel
theorem dX3_init_13 : decode cX3_init 13 = .ok (.istore_n 1, 1) := by decide +kernel
theorem dX3_init_14 : decode cX3_init 14 = .ok (.iload_n 1, 1) := by decide +kernel
theorem dX3_init_15 : decode cX3_init 15 = .ok (.iconst 5, 1) := by decide +kernel
theorem dX3_init_16 : decode cX3_init 16 = .ok (.if_icmp .ge 22, 3) := by decide +kernel
theorem dX3_init_19 : decode cX3_init 19 = .ok (.aload_n 0, 1) := by decide +kernel
theorem dX3_init_20 : decode cX3_init 20 = .ok (.getfield 11, 3) := by decide +kernel
theorem dX3_init_23 : decode cX3_init 23 = .ok (.iload_n 1, 1) := by decide +kernel
theorem dX3_init_24 : decode cX3_init 24 = .ok (.new 9, 3) := by decide +kernel
theorem dX3_init_27 : decode cX3_init 27 = .ok (.dup, 1) := by decide +kernel
theorem dX3_init_28 : decode cX3_init 28 = .ok (.invokespecial 17, 3) := by decide +kernel
theorem dX3_init_31 : decode cX3_init 31 = .ok (.aastore, 1) := by decide +kernel
theorem dX3_init_32 : decode cX3_init 32 = .ok (.iinc 1 1, 3) := by decide +kernel
theorem dX3_init_35 : decode cX3_init 35 = .ok (.goto (-21), 3) := by decide +kernel
theorem dX3_init_38 : decode cX3_init 38 = .ok (.aload_n 0, 1) := by decide +kernel
theorem dX3_init_39 : decode cX3_init 39 = .ok (.bipush 20, 2) := by decide +kernel
theorem dX3_init_41 : decode cX3_init 41 = .ok (.anewarray 18, 3) := by decide +kernel
theorem dX3_init_44 : decode cX3_init 44 = .ok (.putfield 20, 3) := by decide +kernel
theorem dX3_init_47 : decode cX3_init 47 = .ok (.iconst 0, 1) := by decide +kernel
theorem dX3_init_48 : decode cX3_init 48 = .ok (.istore_n 1, 1) := by decide +kernel
theorem dX3_init_49 : decode cX3_init 49 = .ok (.iload_n 1, 1) := by decide +kernel
theorem dX3_init_50 : decode cX3_init 50 = .ok (.bipush 20, 2) := by decide +kernel
theorem dX3_init_52 : decode cX3_init 52 = .ok (.if_icmp .ge 22, 3) := by decide +kernel
theorem dX3_init_55 : decode cX3_init 55 = .ok (.aload_n 0, 1) := by decide +kernel
theorem dX3_init_56 : decode cX3_init 56 = .ok (.getfield 20, 3) := by decide +kernel
theorem dX3_init_59 : decode cX3_init 59 = .ok (.iload_n 1, 1) := by decide +kernel
theorem dX3_init_60 : decode cX3_init 60 = .ok (.new 18, 3) := by decide +kernel
theorem dX3_init_63 : decode cX3_init 63 = .ok (.dup, 1) := by decide +kernel
theorem dX3_init_64 : decode cX3_init 64 = .ok (.invokespecial 24, 3) := by decide +kernel
theorem dX3_init_67 : decode cX3_init 67 = .ok (.aastore, 1) := by decide +kernel
theorem dX3_init_68 : decode cX3_init 68 = .ok (.iinc 1 1, 3) := by decide +kernel
theorem dX3_init_71 : decode cX3_init 71 = .ok (.goto (-22), 3) := by decide +kernel
theorem dX3_init_74 : decode cX3_init 74 = .ok (.aload_n 0, 1) := by decide +kernel
theorem dX3_init_75 : decode cX3_init 75 = .ok (.bipush 25, 2) := by decide +kernel
theorem dX3_init_77 : decode cX3_init 77 = .ok (.newarray .int, 2) := by decide +kernel
theorem dX3_init_79 : decode cX3_init 79 = .ok (.putfield 25, 3) := by decide +kernel
theorem dX3_init_82 : decode cX3_init 82 = .ok (.iconst 0, 1) := by decide +kernel
theorem dX3_init_83 : decode cX3_init 83 = .ok (.istore_n 1, 1) := by decide +kernel
theorem dX3_init_84 : decode cX3_init 84 = .ok (.iload_n 1, 1) := by decide +kernel
theorem dX3_init_85 : decode cX3_init 85 = .ok (.bipush 25, 2) := by decide +kernel
theorem dX3_init_87 : decode cX3_init 87 = .ok (.if_icmp .ge 16, 3) := by decide +kernel
theorem dX3_init_90 : decode cX3_init 90 = .ok (.aload_n 0, 1) := by decide +kernel
theorem dX3_init_91 : decode cX3_init 91 = .ok (.getfield 25, 3) := by decide +kernel
theorem dX3_init_94 : decode cX3_init 94 = .ok (.iload_n 1, 1) := by decide +kernel
theorem dX3_init_95 : decode cX3_init 95 = .ok (.iconst 2, 1) := by decide +kernel
theorem dX3_init_96 : decode cX3_init 96 = .ok (.iastore, 1) := by decide +kernel
theorem dX3_init_97 : decode cX3_init 97 = .ok (.iinc 1 1, 3) := by decide +kernel
theorem dX3_init_100 : decode cX3_init 100 = .ok (.goto (-16), 3) := by decide +kernel
theorem dX3_init_103 : decode cX3_init 103 = .ok (.aload_n 0, 1) := by decide +kernel
theorem dX3_init_104 : decode cX3_init 104 = .ok (.bipush 7, 2) := by decide +kernel
theorem dX3_init_106 : decode cX3_init 106 = .ok (.newarray .int, 2) := by decide +kernel
theorem dX3_init_108 : decode cX3_init 108 = .ok (.putfield 29, 3) := by decide +kernel
theorem dX3_init_111 : decode cX3_init 111 = .ok (.iconst 0, 1) := by decide +kernel
theorem dX3_init_112 : decode cX3_init 112 = .ok (.istore_n 1, 1) := by decide +kernel
theorem dX3_init_113 : decode cX3_init 113 = .ok (.iload_n 1, 1) := by decide +kernel
theorem dX3_init_114 : decode cX3_init 114 = .ok (.bipush 7, 2) := by decide +kernel
theorem dX3_init_116 : decode cX3_init 116 = .ok (.if_icmp .ge 20, 3) := by decide +kernel
theorem dX3_init_119 : decode cX3_init 119 = .ok (.aload_n 0, 1) := by decide +kernel
theorem dX3_init_120 : decode cX3_init 120 = .ok (.getfield 29, 3) := by decide +kernel
theorem dX3_init_123 : decode cX3_init 123 = .ok (.iload_n 1, 1) := by decide +kernel
theorem dX3_init_124 : decode cX3_init 124 = .ok (.getstatic 32, 3) := by decide +kernel
theorem dX3_init_127 : decode cX3_init 127 = .ok (.iload_n 1, 1) := by decide +kernel
theorem dX3_init_128 : decode cX3_init 128 = .ok (.iaload, 1) := by decide +kernel
theorem dX3_init_129 : decode cX3_init 129 = .ok (.iastore, 1) := by decide +kernel
theorem dX3_init_130 : decode cX3_init 130 = .ok (.iinc 1 1, 3) := by decide +kernel
theorem dX3_init_133 : decode cX3_init 133 = .ok (.goto (-20), 3) := by decide +kernel
theorem dX3_init_136 : decode cX3_init 136 = .ok (.aload_n 0, 1) := by decide +kernel
theorem dX3_init_137 : decode cX3_init 137 = .ok (.new 35, 3) := by decide +kernel
theorem dX3_init_140 : decode cX3_init 140 = .ok (.dup, 1) := by decide +kernel
theorem dX3_init_141 : decode cX3_init 141 = .ok (.invokespecial 37, 3) := by decide +kernel
theorem dX3_init_144 : decode cX3_init 144 = .ok (.putfield 38, 3) := by decide +kernel
theorem dX3_init_147 : decode cX3_init 147 = .ok (.return_, 1) := by decide +kernel
theorem dX3_copyFrom_0 : decode cX3_copyFrom 0 = .ok (.iconst 0, 1) := by decide +kernel
theorem dX3_copyFrom_1 : decode cX3_copyFrom 1 = .ok (.istore_n 2, 1) := by decide +kernel
theorem dX3_copyFrom_2 : decode cX3_copyFrom 2 = .ok (.iload_n 2, 1) := by decide +kernel
theorem dX3_copyFrom_3 : decode cX3_copyFrom 3 = .ok (.iconst 5, 1) := by decide +kernel
theorem dX3_copyFrom_4 : decode cX3_copyFrom 4 = .ok (.if_icmp .ge 24, 3) := by decide +kernel
theorem dX3_copyFrom_7 : decode cX3_copyFrom 7 = .ok (.aload_n 0, 1) := by decide +kernel
theorem dX3_copyFrom_8 : decode cX3_copyFrom 8 = .ok (.getfield 11, 3) := by decide +kernel
theorem dX3_copyFrom_11 : decode cX3_copyFrom 11 = .ok (.iload_n 2, 1) := by decide +kernel
theorem dX3_copyFrom_12 : decode cX3_copyFrom 12 = .ok (.aaload, 1) := by decide +kernel
theorem dX3_copyFrom_13 : decode cX3_copyFrom 13 = .ok (.aload_n 1, 1) := by decide +kernel
theorem dX3_copyFrom_14 : decode cX3_copyFrom 14 = .ok (.getfield 11, 3) := by decide +kernel
theorem dX3_copyFrom_17 : decode cX3_copyFrom 17 = .ok (.iload_n 2, 1) := by decide +kernel
theorem dX3_copyFrom_18 : decode cX3_copyFrom 18 = .ok (.aaload, 1) := by decide +kernel
theorem dX3_copyFrom_19 : decode cX3_copyFrom 19 = .ok (.invokevirtual 42, 3) := by decide +kernel
theorem dX3_copyFrom_22 : decode cX3_copyFrom 22 = .ok (.iinc 2 1, 3) := by decide +kernel
theorem dX3_copyFrom_25 : decode cX3_copyFrom 25 = .ok (.goto (-23), 3) := by decide +kernel
theorem dX3_copyFrom_28 : decode cX3_copyFrom 28 = .ok (.iconst 0, 1) := by decide +kernel
theorem dX3_copyFrom_29 : decode cX3_copyFrom 29 = .ok (.istore_n 2, 1) := by decide +kernel
theorem dX3_copyFrom_30 : decode cX3_copyFrom 30 = .ok (.iload_n 2, 1) := by decide +kernel
theorem dX3_copyFrom_31 : decode cX3_copyFrom 31 = .ok (.bipush 20, 2) := by decide +kernel
theorem dX3_copyFrom_33 : decode cX3_copyFrom 33 = .ok (.if_icmp .ge 24, 3) := by decide +kernel
theorem dX3_copyFrom_36 : decode cX3_copyFrom 36 = .ok (.aload_n 0, 1) := by decide +kernel
theorem dX3_copyFrom_37 : decode cX3_copyFrom 37 = .ok (.getfield 20, 3) := by decide +kernel
theorem dX3_copyFrom_40 : decode cX3_copyFrom 40 = .ok (.iload_n 2, 1) := by decide +kernel
theorem dX3_copyFrom_41 : decode cX3_copyFrom 41 = .ok (.aaload, 1) := by decide +kernel
theorem dX3_copyFrom_42 : decode cX3_copyFrom 42 = .ok (.aload_n 1, 1) := by decide +kernel
theorem dX3_copyFrom_43 : decode cX3_copyFrom 43 = .ok (.getfield 20, 3) := by decide +kernel
theorem dX3_copyFrom_46 : decode cX3_copyFrom 46 = .ok (.iload_n 2, 1) := by decide +kernel
theorem dX3_copyFrom_47 : decode cX3_copyFrom 47 = .ok (.aaload, 1) := by decide +kernel
theorem dX3_copyFrom_48 : decode cX3_copyFrom 48 = .ok (.invokevirtual 46, 3) := by decide +kernel
theorem dX3_copyFrom_51 : decode cX3_copyFrom 51 = .ok (.iinc 2 1, 3) := by decide +kernel
theorem dX3_copyFrom_54 : decode cX3_copyFrom 54 = .ok (.goto (-24), 3) := by decide +kernel
theorem dX3_copyFrom_57 : decode cX3_copyFrom 57 = .ok (.aload_n 1, 1) := by decide +kernel
theorem dX3_copyFrom_58 : decode cX3_copyFrom 58 = .ok (.getfield 25, 3) := by decide +kernel
theorem dX3_copyFrom_61 : decode cX3_copyFrom 61 = .ok (.iconst 0, 1) := by decide +kernel
theorem dX3_copyFrom_62 : decode cX3_copyFrom 62 = .ok (.aload_n 0, 1) := by decide +kernel
theorem dX3_copyFrom_63 : decode cX3_copyFrom 63 = .ok (.getfield 25, 3) := by decide +kernel
theorem dX3_copyFrom_66 : decode cX3_copyFrom 66 = .ok (.iconst 0, 1) := by decide +kernel
theorem dX3_copyFrom_67 : decode cX3_copyFrom 67 = .ok (.bipush 25, 2) := by decide +kernel
theorem dX3_copyFrom_69 : decode cX3_copyFrom 69 = .ok (.invokestatic 49, 3) := by decide +kernel
theorem dX3_copyFrom_72 : decode cX3_copyFrom 72 = .ok (.aload_n 1, 1) := by decide +kernel
theorem dX3_copyFrom_73 : decode cX3_copyFrom 73 = .ok (.getfield 29, 3) := by decide +kernel
theorem dX3_copyFrom_76 : decode cX3_copyFrom 76 = .ok (.iconst 0, 1) := by decide +kernel
theorem dX3_copyFrom_77 : decode cX3_copyFrom 77 = .ok (.aload_n 0, 1) := by decide +kernel
theorem dX3_copyFrom_78 : decode cX3_copyFrom 78 = .ok (.getfield 29, 3) := by decide +kernel
theorem dX3_copyFrom_81 : decode cX3_copyFrom 81 = .ok (.iconst 0, 1) := by decide +kernel
theorem dX3_copyFrom_82 : decode cX3_copyFrom 82 = .ok (.bipush 7, 2) := by decide +kernel
theorem dX3_copyFrom_84 : decode cX3_copyFrom 84 = .ok (.invokestatic 49, 3) := by decide +kernel
theorem dX3_copyFrom_87 : decode cX3_copyFrom 87 = .ok (.aload_n 0, 1) := by decide +kernel
theorem dX3_copyFrom_88 : decode cX3_copyFrom 88 = .ok (.getfield 38, 3) := by decide +kernel
theorem dX3_copyFrom_91 : decode cX3_copyFrom 91 = .ok (.aload_n 1, 1) := by decide +kernel
theorem dX3_copyFrom_92 : decode cX3_copyFrom 92 = .ok (.getfield 38, 3) := by decide +kernel
theorem dX3_copyFrom_95 : decode cX3_copyFrom 95 = .ok (.invokevirtual 55, 3) := by decide +kernel
theorem dX3_copyFrom_98 : decode cX3_copyFrom 98 = .ok (.aload_n 0, 1) := by decide +kernel
theorem dX3_copyFrom_99 : decode cX3_copyFrom 99 = .ok (.aload_n 1, 1) := by decide +kernel
theorem dX3_copyFrom_100 : decode cX3_copyFrom 100 = .ok (.getfield 58, 3) := by decide +kernel
theorem dX3_copyFrom_103 : decode cX3_copyFrom 103 = .ok (.putfield 58, 3) := by decide +kernel
theorem dX3_copyFrom_106 : decode cX3_copyFrom 106 = .ok (.aload_n 0, 1) := by decide +kernel
theorem dX3_copyFrom_107 : decode cX3_copyFrom 107 = .ok (.aload_n 1, 1) := by decide +kernel
theorem dX3_copyFrom_108 : decode cX3_copyFrom 108 = .ok (.getfield 62, 3) := by decide +kernel
theorem dX3_copyFrom_111 : decode cX3_copyFrom 111 = .ok (.putfield 62, 3) := by decide +kernel
theorem dX3_copyFrom_114 : decode cX3_copyFrom 114 = .ok (.aload_n 0, 1) := by decide +kernel
theorem dX3_copyFrom_115 : decode cX3_copyFrom 115 = .ok (.aload_n 1, 1) := by decide +kernel
theorem dX3_copyFrom_116 : decode cX3_copyFrom 116 = .ok (.getfield 65, 3) := by decide +kernel
theorem dX3_copyFrom_119 : decode cX3_copyFrom 119 = .ok (.putfield 65, 3) := by decide +kernel
theorem dX3_copyFrom_122 : decode cX3_copyFrom 122 = .ok (.aload_n 0, 1) := by decide +kernel
theorem dX3_copyFrom_123 : decode cX3_copyFrom 123 = .ok (.aload_n 1, 1) := by decide +kernel
theorem dX3_copyFrom_124 : decode cX3_copyFrom 124 = .ok (.getfield 68, 3) := by decide +kernel
theorem dX3_copyFrom_127 : decode cX3_copyFrom 127 = .ok (.putfield 68, 3) := by decide +kernel
theorem dX3_copyFrom_130 : decode cX3_copyFrom 130 = .ok (.aload_n 0, 1) := by decide +kernel
theorem dX3_copyFrom_131 : decode cX3_copyFrom 131 = .ok (.aload_n 1, 1) := by decide +kernel
theorem dX3_copyFrom_132 : decode cX3_copyFrom 132 = .ok (.getfield 71, 3) := by decide +kernel
theorem dX3_copyFrom_135 : decode cX3_copyFrom 135 = .ok (.putfield 71, 3) := by decide +kernel
theorem dX3_copyFrom_138 : decode cX3_copyFrom 138 = .ok (.aload_n 0, 1) := by decide +kernel
theorem dX3_copyFrom_139 : decode cX3_copyFrom 139 = .ok (.aload_n 1, 1) := by decide +kernel
theorem dX3_copyFrom_140 : decode cX3_copyFrom 140 = .ok (.getfield 74, 3) := by decide +kernel
theorem dX3_copyFrom_143 : decode cX3_copyFrom 143 = .ok (.putfield 74, 3) := by decide +kernel
theorem dX3_copyFrom_146 : decode cX3_copyFrom 146 = .ok (.return_, 1) := by decide +kernel
theorem dX3_isPlace_0 : decode cX3_isPlace 0 = .ok (.iload_n 1, 1) := by decide +kernel
theorem dX3_isPlace_1 : decode cX3_isPlace 1 = .ok (.iconst 0, 1) := by decide +kernel
theorem dX3_isPlace_2 : decode cX3_isPlace 2 = .ok (.aload_n 0, 1) := by decide +kernel
theorem dX3_isPlace_3 : decode cX3_isPlace 3 = .ok (.getfield 58, 3) := by decide +kernel
theorem dX3_isPlace_6 : decode cX3_isPlace 6 = .ok (.invokestatic 77, 3) := by decide +kernel
theorem dX3_isPlace_9 : decode cX3_isPlace 9 = .ok (.ireturn, 1) := by decide +kernel
theorem dX3_isMine_0 : decode cX3_isMine 0 = .ok (.iload_n 1, 1) := by decide +kernel
theorem dX3_isMine_1 : decode cX3_isMine 1 = .ok (.iconst 1, 1) := by decide +kernel
theorem dX3_isMine_2 : decode cX3_isMine 2 = .ok (.aload_n 0, 1) := by decide +kernel
theorem dX3_isMine_3 : decode cX3_isMine 3 = .ok (.getfield 58, 3) := by decide +kernel
theorem dX3_isMine_6 : decode cX3_isMine 6 = .ok (.invokestatic 77, 3) := by decide +kernel
theorem dX3_isMine_9 : decode cX3_isMine 9 = .ok (.ireturn, 1) := by decide +kernel
theorem dX3_isLeg_0 : decode cX3_isLeg 0 = .ok (.aload_n 0, 1) := by decide +kernel
theorem dX3_isLeg_1 : decode cX3_isLeg 1 = .ok (.iload_n 1, 1) := by decide +kernel
theorem dX3_isLeg_2 : decode cX3_isLeg 2 = .ok (.invokevirtual 81, 3) := by decide +kernel
theorem dX3_isLeg_5 : decode cX3_isLeg 5 = .ok (.ifCond .eq 20, 3) := by decide +kernel
theorem dX3_isLeg_8 : decode cX3_isLeg 8 = .ok (.aload_n 0, 1) := by decide +kernel
theorem dX3_isLeg_9 : decode cX3_isLeg 9 = .ok (.iload_n 2, 1) := by decide +kernel
theorem dX3_isLeg_10 : decode cX3_isLeg 10 = .ok (.invokevirtual 81, 3) := by decide +kernel
theorem dX3_isLeg_13 : decode cX3_isLeg 13 = .ok (.ifCond .eq 12, 3) := by decide +kernel
theorem dX3_isLeg_16 : decode cX3_isLeg 16 = .ok (.iload_n 1, 1) := by decide +kernel
theorem dX3_isLeg_17 : decode cX3_isLeg 17 = .ok (.iload_n 2, 1) := by decide +kernel
theorem dX3_isLeg_18 : decode cX3_isLeg 18 = .ok (.if_icmp .eq 7, 3) := by decide +kernel
theorem dX3_isLeg_21 : decode cX3_isLeg 21 = .ok (.iconst 1, 1) := by decide +kernel
theorem dX3_isLeg_22 : decode cX3_isLeg 22 = .ok (.goto 4, 3) := by decide +kernel
theorem dX3_isLeg_25 : decode cX3_isLeg 25 = .ok (.iconst 0, 1) := by decide +kernel
theorem dX3_isLeg_26 : decode cX3_isLeg 26 = .ok (.ireturn, 1) := by decide +kernel
theorem dX3_isWagon_0 : decode cX3_isWagon 0 = .ok (.iload_n 1, 1) := by decide +kernel
theorem dX3_isWagon_1 : decode cX3_isWagon 1 = .ok (.iconst 0, 1) := by decide +kernel
theorem dX3_isWagon_2 : decode cX3_isWagon 2 = .ok (.aload_n 0, 1) := by decide +kernel
theorem dX3_isWagon_3 : decode cX3_isWagon 3 = .ok (.getfield 62, 3) := by decide +kernel
theorem dX3_isWagon_6 : decode cX3_isWagon 6 = .ok (.iconst 1, 1) := by decide +kernel
theorem dX3_isWagon_7 : decode cX3_isWagon 7 = .ok (.isub, 1) := by decide +kernel
theorem dX3_isWagon_8 : decode cX3_isWagon 8 = .ok (.invokestatic 77, 3) := by decide +kernel
theorem dX3_isWagon_11 : decode cX3_isWagon 11 = .ok (.ireturn, 1) := by decide +kernel
theorem dX3_placeAt_0 : decode cX3_placeAt 0 = .ok (.iload_n 1, 1) := by decide +kernel
theorem dX3_placeAt_1 : decode cX3_placeAt 1 = .ok (.ifCond .lt 21, 3) := by decide +kernel
theorem dX3_placeAt_4 : decode cX3_placeAt 4 = .ok (.iload_n 1, 1) := by decide +kernel
theorem dX3_placeAt_5 : decode cX3_placeAt 5 = .ok (.aload_n 0, 1) := by decide +kernel
theorem dX3_placeAt_6 : decode cX3_placeAt 6 = .ok (.getfield 11, 3) := by decide +kernel
theorem dX3_placeAt_9 : decode cX3_placeAt 9 = .ok (.arraylength, 1) := by decide +kernel
theorem dX3_placeAt_10 : decode cX3_placeAt 10 = .ok (.if_icmp .ge 12, 3) := by decide +kernel
theorem dX3_placeAt_13 : decode cX3_placeAt 13 = .ok (.aload_n 0, 1) := by decide +kernel
theorem dX3_placeAt_14 : decode cX3_placeAt 14 = .ok (.getfield 11, 3) := by decide +kernel
theorem dX3_placeAt_17 : decode cX3_placeAt 17 = .ok (.iload_n 1, 1) := by decide +kernel
theorem dX3_placeAt_18 : decode cX3_placeAt 18 = .ok (.aaload, 1) := by decide +kernel
theorem dX3_placeAt_19 : decode cX3_placeAt 19 = .ok (.goto 9, 3) := by decide +kernel
theorem dX3_placeAt_22 : decode cX3_placeAt 22 = .ok (.aload_n 0, 1) := by decide +kernel
theorem dX3_placeAt_23 : decode cX3_placeAt 23 = .ok (.getfield 11, 3) := by decide +kernel
theorem dX3_placeAt_26 : decode cX3_placeAt 26 = .ok (.iconst 0, 1) := by decide +kernel
theorem dX3_placeAt_27 : decode cX3_placeAt 27 = .ok (.aaload, 1) := by decide +kernel
theorem dX3_placeAt_28 : decode cX3_placeAt 28 = .ok (.areturn, 1) := by decide +kernel
theorem dX3_wagonAt_0 : decode cX3_wagonAt 0 = .ok (.iload_n 1, 1) := by decide +kernel
theorem dX3_wagonAt_1 : decode cX3_wagonAt 1 = .ok (.ifCond .lt 21, 3) := by decide +kernel
theorem dX3_wagonAt_4 : decode cX3_wagonAt 4 = .ok (.iload_n 1, 1) := by decide +kernel
theorem dX3_wagonAt_5 : decode cX3_wagonAt 5 = .ok (.aload_n 0, 1) := by decide +kernel
theorem dX3_wagonAt_6 : decode cX3_wagonAt 6 = .ok (.getfield 20, 3) := by decide +kernel
theorem dX3_wagonAt_9 : decode cX3_wagonAt 9 = .ok (.arraylength, 1) := by decide +kernel
theorem dX3_wagonAt_10 : decode cX3_wagonAt 10 = .ok (.if_icmp .ge 12, 3) := by decide +kernel
theorem dX3_wagonAt_13 : decode cX3_wagonAt 13 = .ok (.aload_n 0, 1) := by decide +kernel
theorem dX3_wagonAt_14 : decode cX3_wagonAt 14 = .ok (.getfield 20, 3) := by decide +kernel
theorem dX3_wagonAt_17 : decode cX3_wagonAt 17 = .ok (.iload_n 1, 1) := by decide +kernel
theorem dX3_wagonAt_18 : decode cX3_wagonAt 18 = .ok (.aaload, 1) := by decide +kernel
theorem dX3_wagonAt_19 : decode cX3_wagonAt 19 = .ok (.goto 9, 3) := by decide +kernel
theorem dX3_wagonAt_22 : decode cX3_wagonAt 22 = .ok (.aload_n 0, 1) := by decide +kernel
theorem dX3_wagonAt_23 : decode cX3_wagonAt 23 = .ok (.getfield 20, 3) := by decide +kernel
theorem dX3_wagonAt_26 : decode cX3_wagonAt 26 = .ok (.iconst 0, 1) := by decide +kernel
theorem dX3_wagonAt_27 : decode cX3_wagonAt 27 = .ok (.aaload, 1) := by decide +kernel
theorem dX3_wagonAt_28 : decode cX3_wagonAt 28 = .ok (.areturn, 1) := by decide +kernel
theorem dX3_setting_0 : decode cX3_setting 0 = .ok (.iload_n 1, 1) := by decide +kernel
theorem dX3_setting_1 : decode cX3_setting 1 = .ok (.ifCond .lt 21, 3) := by decide +kernel
theorem dX3_setting_4 : decode cX3_setting 4 = .ok (.iload_n 1, 1) := by decide +kernel
theorem dX3_setting_5 : decode cX3_setting 5 = .ok (.aload_n 0, 1) := by decide +kernel
theorem dX3_setting_6 : decode cX3_setting 6 = .ok (.getfield 29, 3) := by decide +kernel
theorem dX3_setting_9 : decode cX3_setting 9 = .ok (.arraylength, 1) := by decide +kernel
theorem dX3_setting_10 : decode cX3_setting 10 = .ok (.if_icmp .ge 12, 3) := by decide +kernel
theorem dX3_setting_13 : decode cX3_setting 13 = .ok (.aload_n 0, 1) := by decide +kernel
theorem dX3_setting_14 : decode cX3_setting 14 = .ok (.getfield 29, 3) := by decide +kernel
theorem dX3_setting_17 : decode cX3_setting 17 = .ok (.iload_n 1, 1) := by decide +kernel
theorem dX3_setting_18 : decode cX3_setting 18 = .ok (.iaload, 1) := by decide +kernel
theorem dX3_setting_19 : decode cX3_setting 19 = .ok (.goto 4, 3) := by decide +kernel
theorem dX3_setting_22 : decode cX3_setting 22 = .ok (.iconst 0, 1) := by decide +kernel
theorem dX3_setting_23 : decode cX3_setting 23 = .ok (.ireturn, 1) := by decide +kernel
theorem dX3_legDays_0 : decode cX3_legDays 0 = .ok (.iload_n 1, 1) := by decide +kernel
theorem dX3_legDays_1 : decode cX3_legDays 1 = .ok (.iconst 5, 1) := by decide +kernel
theorem dX3_legDays_2 : decode cX3_legDays 2 = .ok (.imul, 1) := by decide +kernel
theorem dX3_legDays_3 : decode cX3_legDays 3 = .ok (.iload_n 2, 1) := by decide +kernel
theorem dX3_legDays_4 : decode cX3_legDays 4 = .ok (.iadd, 1) := by decide +kernel
theorem dX3_legDays_5 : decode cX3_legDays 5 = .ok (.istore_n 3, 1) := by decide +kernel
theorem dX3_legDays_6 : decode cX3_legDays 6 = .ok (.iload_n 3, 1) := by decide +kernel
theorem dX3_legDays_7 : decode cX3_legDays 7 = .ok (.ifCond .lt 21, 3) := by decide +kernel
theorem dX3_legDays_10 : decode cX3_legDays 10 = .ok (.iload_n 3, 1) := by decide +kernel
theorem dX3_legDays_11 : decode cX3_legDays 11 = .ok (.aload_n 0, 1) := by decide +kernel
theorem dX3_legDays_12 : decode cX3_legDays 12 = .ok (.getfield 25, 3) := by decide +kernel
theorem dX3_legDays_15 : decode cX3_legDays 15 = .ok (.arraylength, 1) := by decide +kernel
theorem dX3_legDays_16 : decode cX3_legDays 16 = .ok (.if_icmp .ge 12, 3) := by decide +kernel
theorem dX3_legDays_19 : decode cX3_legDays 19 = .ok (.aload_n 0, 1) := by decide +kernel
theorem dX3_legDays_20 : decode cX3_legDays 20 = .ok (.getfield 25, 3) := by decide +kernel
theorem dX3_legDays_23 : decode cX3_legDays 23 = .ok (.iload_n 3, 1) := by decide +kernel
theorem dX3_legDays_24 : decode cX3_legDays 24 = .ok (.iaload, 1) := by decide +kernel
theorem dX3_legDays_25 : decode cX3_legDays 25 = .ok (.goto 4, 3) := by decide +kernel
theorem dX3_legDays_28 : decode cX3_legDays 28 = .ok (.iconst 2, 1) := by decide +kernel
theorem dX3_legDays_29 : decode cX3_legDays 29 = .ok (.ireturn, 1) := by decide +kernel
theorem dX3_keepLeg_0 : decode cX3_keepLeg 0 = .ok (.iload_n 1, 1) := by decide +kernel
theorem dX3_keepLeg_1 : decode cX3_keepLeg 1 = .ok (.iconst 5, 1) := by decide +kernel
theorem dX3_keepLeg_2 : decode cX3_keepLeg 2 = .ok (.imul, 1) := by decide +kernel
theorem dX3_keepLeg_3 : decode cX3_keepLeg 3 = .ok (.iload_n 2, 1) := by decide +kernel
theorem dX3_keepLeg_4 : decode cX3_keepLeg 4 = .ok (.iadd, 1) := by decide +kernel
theorem dX3_keepLeg_5 : decode cX3_keepLeg 5 = .ok (.istore 4, 2) := by decide +kernel
theorem dX3_keepLeg_7 : decode cX3_keepLeg 7 = .ok (.iload 4, 2) := by decide +kernel
theorem dX3_keepLeg_9 : decode cX3_keepLeg 9 = .ok (.ifCond .lt 21, 3) := by decide +kernel
theorem dX3_keepLeg_12 : decode cX3_keepLeg 12 = .ok (.iload 4, 2) := by decide +kernel
theorem dX3_keepLeg_14 : decode cX3_keepLeg 14 = .ok (.aload_n 0, 1) := by decide +kernel
theorem dX3_keepLeg_15 : decode cX3_keepLeg 15 = .ok (.getfield 25, 3) := by decide +kernel
theorem dX3_keepLeg_18 : decode cX3_keepLeg 18 = .ok (.arraylength, 1) := by decide +kernel
theorem dX3_keepLeg_19 : decode cX3_keepLeg 19 = .ok (.if_icmp .ge 11, 3) := by decide +kernel
theorem dX3_keepLeg_22 : decode cX3_keepLeg 22 = .ok (.aload_n 0, 1) := by decide +kernel
theorem dX3_keepLeg_23 : decode cX3_keepLeg 23 = .ok (.getfield 25, 3) := by decide +kernel
theorem dX3_keepLeg_26 : decode cX3_keepLeg 26 = .ok (.iload 4, 2) := by decide +kernel
theorem dX3_keepLeg_28 : decode cX3_keepLeg 28 = .ok (.iload_n 3, 1) := by decide +kernel
theorem dX3_keepLeg_29 : decode cX3_keepLeg 29 = .ok (.iastore, 1) := by decide +kernel
theorem dX3_keepLeg_30 : decode cX3_keepLeg 30 = .ok (.return_, 1) := by decide +kernel
theorem dX3_accountOf_0 : decode cX3_accountOf 0 = .ok (.aload_n 0, 1) := by decide +kernel
theorem dX3_accountOf_1 : decode cX3_accountOf 1 = .ok (.iload_n 1, 1) := by decide +kernel
theorem dX3_accountOf_2 : decode cX3_accountOf 2 = .ok (.invokevirtual 85, 3) := by decide +kernel
theorem dX3_accountOf_5 : decode cX3_accountOf 5 = .ok (.getfield 89, 3) := by decide +kernel
theorem dX3_accountOf_8 : decode cX3_accountOf 8 = .ok (.ireturn, 1) := by decide +kernel
theorem dX3_isDue_0 : decode cX3_isDue 0 = .ok (.aload_n 1, 1) := by decide +kernel
theorem dX3_isDue_1 : decode cX3_isDue 1 = .ok (.getfield 92, 3) := by decide +kernel
theorem dX3_isDue_4 : decode cX3_isDue 4 = .ok (.aload_n 0, 1) := by decide +kernel
theorem dX3_isDue_5 : decode cX3_isDue 5 = .ok (.iconst 3, 1) := by decide +kernel
theorem dX3_isDue_6 : decode cX3_isDue 6 = .ok (.invokevirtual 95, 3) := by decide +kernel
theorem dX3_isDue_9 : decode cX3_isDue 9 = .ok (.if_icmp .lt 7, 3) := by decide +kernel
theorem dX3_isDue_12 : decode cX3_isDue 12 = .ok (.iconst 1, 1) := by decide +kernel
theorem dX3_isDue_13 : decode cX3_isDue 13 = .ok (.goto 4, 3) := by decide +kernel
theorem dX3_isDue_16 : decode cX3_isDue 16 = .ok (.iconst 0, 1) := by decide +kernel
theorem dX3_isDue_17 : decode cX3_isDue 17 = .ok (.ireturn, 1) := by decide +kernel
theorem dX3_addMine_0 : decode cX3_addMine 0 = .ok (.iload_n 1, 1) := by decide +kernel
theorem dX3_addMine_1 : decode cX3_addMine 1 = .ok (.iconst 0, 1) := by decide +kernel
theorem dX3_addMine_2 : decode cX3_addMine 2 = .ok (.bipush 90, 2) := by decide +kernel
theorem dX3_addMine_4 : decode cX3_addMine 4 = .ok (.invokestatic 77, 3) := by decide +kernel
theorem dX3_addMine_7 : decode cX3_addMine 7 = .ok (.ifCond .ne 6, 3) := by decide +kernel
theorem dX3_addMine_10 : decode cX3_addMine 10 = .ok (.ldc 99, 2) := by decide +kernel
theorem dX3_addMine_12 : decode cX3_addMine 12 = .ok (.ireturn, 1) := by decide +kernel
theorem dX3_addMine_13 : decode cX3_addMine 13 = .ok (.aload_n 0, 1) := by decide +kernel
theorem dX3_addMine_14 : decode cX3_addMine 14 = .ok (.getfield 58, 3) := by decide +kernel
theorem dX3_addMine_17 : decode cX3_addMine 17 = .ok (.iconst 4, 1) := by decide +kernel
theorem dX3_addMine_18 : decode cX3_addMine 18 = .ok (.if_icmp .lt 6, 3) := by decide +kernel
theorem dX3_addMine_21 : decode cX3_addMine 21 = .ok (.ldc 100, 2) := by decide +kernel
theorem dX3_addMine_23 : decode cX3_addMine 23 = .ok (.ireturn, 1) := by decide +kernel
theorem dX3_addMine_24 : decode cX3_addMine 24 = .ok (.aload_n 0, 1) := by decide +kernel
theorem dX3_addMine_25 : decode cX3_addMine 25 = .ok (.dup, 1) := by decide +kernel
theorem dX3_addMine_26 : decode cX3_addMine 26 = .ok (.getfield 58, 3) := by decide +kernel
theorem dX3_addMine_29 : decode cX3_addMine 29 = .ok (.iconst 1, 1) := by decide +kernel
theorem dX3_addMine_30 : decode cX3_addMine 30 = .ok (.iadd, 1) := by decide +kernel
theorem dX3_addMine_31 : decode cX3_addMine 31 = .ok (.putfield 58, 3) := by decide +kernel
theorem dX3_addMine_34 : decode cX3_addMine 34 = .ok (.aload_n 0, 1) := by decide +kernel
theorem dX3_addMine_35 : decode cX3_addMine 35 = .ok (.aload_n 0, 1) := by decide +kernel
theorem dX3_addMine_36 : decode cX3_addMine 36 = .ok (.getfield 58, 3) := by decide +kernel
theorem dX3_addMine_39 : decode cX3_addMine 39 = .ok (.invokevirtual 85, 3) := by decide +kernel
theorem dX3_addMine_42 : decode cX3_addMine 42 = .ok (.iload_n 1, 1) := by decide +kernel
theorem dX3_addMine_43 : decode cX3_addMine 43 = .ok (.putfield 101, 3) := by decide +kernel
theorem dX3_addMine_46 : decode cX3_addMine 46 = .ok (.aload_n 0, 1) := by decide +kernel
theorem dX3_addMine_47 : decode cX3_addMine 47 = .ok (.getfield 58, 3) := by decide +kernel
theorem dX3_addMine_50 : decode cX3_addMine 50 = .ok (.ireturn, 1) := by decide +kernel
theorem dX3_changeLeg_0 : decode cX3_changeLeg 0 = .ok (.aload_n 0, 1) := by decide +kernel
theorem dX3_changeLeg_1 : decode cX3_changeLeg 1 = .ok (.iload_n 1, 1) := by decide +kernel
theorem dX3_changeLeg_2 : decode cX3_changeLeg 2 = .ok (.iload_n 2, 1) := by decide +kernel
theorem dX3_changeLeg_3 : decode cX3_changeLeg 3 = .ok (.invokevirtual 104, 3) := by decide +kernel
theorem dX3_changeLeg_6 : decode cX3_changeLeg 6 = .ok (.ifCond .eq 13, 3) := by decide +kernel
theorem dX3_changeLeg_9 : decode cX3_changeLeg 9 = .ok (.iload_n 3, 1) := by decide +kernel
theorem dX3_changeLeg_10 : decode cX3_changeLeg 10 = .ok (.iconst 1, 1) := by decide +kernel
theorem dX3_changeLeg_11 : decode cX3_changeLeg 11 = .ok (.bipush 9, 2) := by decide +kernel
theorem dX3_changeLeg_13 : decode cX3_changeLeg 13 = .ok (.invokestatic 77, 3) := by decide +kernel
theorem dX3_changeLeg_16 : decode cX3_changeLeg 16 = .ok (.ifCond .ne 6, 3) := by decide +kernel
theorem dX3_changeLeg_19 : decode cX3_changeLeg 19 = .ok (.ldc 99, 2) := by decide +kernel
theorem dX3_changeLeg_21 : decode cX3_changeLeg 21 = .ok (.ireturn, 1) := by decide +kernel
theorem dX3_changeLeg_22 : decode cX3_changeLeg 22 = .ok (.aload_n 0, 1) := by decide +kernel
theorem dX3_changeLeg_23 : decode cX3_changeLeg 23 = .ok (.iload_n 1, 1) := by decide +kernel
theorem dX3_changeLeg_24 : decode cX3_changeLeg 24 = .ok (.iload_n 2, 1) := by decide +kernel
theorem dX3_changeLeg_25 : decode cX3_changeLeg 25 = .ok (.invokevirtual 108, 3) := by decide +kernel
theorem dX3_changeLeg_28 : decode cX3_changeLeg 28 = .ok (.istore 4, 2) := by decide +kernel
theorem dX3_changeLeg_30 : decode cX3_changeLeg 30 = .ok (.aload_n 0, 1) := by decide +kernel
theorem dX3_changeLeg_31 : decode cX3_changeLeg 31 = .ok (.iload_n 1, 1) := by decide +kernel
theorem dX3_changeLeg_32 : decode cX3_changeLeg 32 = .ok (.iload_n 2, 1) := by decide +kernel
theorem dX3_changeLeg_33 : decode cX3_changeLeg 33 = .ok (.iload_n 3, 1) := by decide +kernel
theorem dX3_changeLeg_34 : decode cX3_changeLeg 34 = .ok (.invokevirtual 112, 3) := by decide +kernel
theorem dX3_changeLeg_37 : decode cX3_changeLeg 37 = .ok (.aload_n 0, 1) := by decide +kernel
theorem dX3_changeLeg_38 : decode cX3_changeLeg 38 = .ok (.iload_n 2, 1) := by decide +kernel
theorem dX3_changeLeg_39 : decode cX3_changeLeg 39 = .ok (.iload_n 1, 1) := by decide +kernel
theorem dX3_changeLeg_40 : decode cX3_changeLeg 40 = .ok (.iload_n 3, 1) := by decide +kernel
theorem dX3_changeLeg_41 : decode cX3_changeLeg 41 = .ok (.invokevirtual 112, 3) := by decide +kernel
theorem dX3_changeLeg_44 : decode cX3_changeLeg 44 = .ok (.iload 4, 2) := by decide +kernel
theorem dX3_changeLeg_46 : decode cX3_changeLeg 46 = .ok (.ireturn, 1) := by decide +kernel
theorem dX3_addWagon_0 : decode cX3_addWagon 0 = .ok (.aload_n 0, 1) := by decide +kernel
theorem dX3_addWagon_1 : decode cX3_addWagon 1 = .ok (.iload_n 1, 1) := by decide +kernel
theorem dX3_addWagon_2 : decode cX3_addWagon 2 = .ok (.invokevirtual 116, 3) := by decide +kernel
theorem dX3_addWagon_5 : decode cX3_addWagon 5 = .ok (.ifCond .ne 6, 3) := by decide +kernel
theorem dX3_addWagon_8 : decode cX3_addWagon 8 = .ok (.ldc 99, 2) := by decide +kernel
theorem dX3_addWagon_10 : decode cX3_addWagon 10 = .ok (.ireturn, 1) := by decide +kernel
theorem dX3_addWagon_11 : decode cX3_addWagon 11 = .ok (.aload_n 0, 1) := by decide +kernel
theorem dX3_addWagon_12 : decode cX3_addWagon 12 = .ok (.getfield 62, 3) := by decide +kernel
theorem dX3_addWagon_15 : decode cX3_addWagon 15 = .ok (.bipush 20, 2) := by decide +kernel
theorem dX3_addWagon_17 : decode cX3_addWagon 17 = .ok (.if_icmp .lt 6, 3) := by decide +kernel
theorem dX3_addWagon_20 : decode cX3_addWagon 20 = .ok (.ldc 100, 2) := by decide +kernel
theorem dX3_addWagon_22 : decode cX3_addWagon 22 = .ok (.ireturn, 1) := by decide +kernel
theorem dX3_addWagon_23 : decode cX3_addWagon 23 = .ok (.aload_n 0, 1) := by decide +kernel
theorem dX3_addWagon_24 : decode cX3_addWagon 24 = .ok (.getfield 62, 3) := by decide +kernel
theorem dX3_addWagon_27 : decode cX3_addWagon 27 = .ok (.istore_n 2, 1) := by decide +kernel
theorem dX3_addWagon_28 : decode cX3_addWagon 28 = .ok (.aload_n 0, 1) := by decide +kernel
theorem dX3_addWagon_29 : decode cX3_addWagon 29 = .ok (.dup, 1) := by decide +kernel
theorem dX3_addWagon_30 : decode cX3_addWagon 30 = .ok (.getfield 62, 3) := by decide +kernel
theorem dX3_addWagon_33 : decode cX3_addWagon 33 = .ok (.iconst 1, 1) := by decide +kernel
theorem dX3_addWagon_34 : decode cX3_addWagon 34 = .ok (.iadd, 1) := by decide +kernel
theorem dX3_addWagon_35 : decode cX3_addWagon 35 = .ok (.putfield 62, 3) := by decide +kernel
theorem dX3_addWagon_38 : decode cX3_addWagon 38 = .ok (.aload_n 0, 1) := by decide +kernel
theorem dX3_addWagon_39 : decode cX3_addWagon 39 = .ok (.iload_n 2, 1) := by decide +kernel
theorem dX3_addWagon_40 : decode cX3_addWagon 40 = .ok (.invokevirtual 119, 3) := by decide +kernel
theorem dX3_addWagon_43 : decode cX3_addWagon 43 = .ok (.astore_n 3, 1) := by decide +kernel
theorem dX3_addWagon_44 : decode cX3_addWagon 44 = .ok (.aload_n 3, 1) := by decide +kernel
theorem dX3_addWagon_45 : decode cX3_addWagon 45 = .ok (.iload_n 1, 1) := by decide +kernel
theorem dX3_addWagon_46 : decode cX3_addWagon 46 = .ok (.putfield 123, 3) := by decide +kernel
theorem dX3_addWagon_49 : decode cX3_addWagon 49 = .ok (.aload_n 3, 1) := by decide +kernel
theorem dX3_addWagon_50 : decode cX3_addWagon 50 = .ok (.iload_n 1, 1) := by decide +kernel
theorem dX3_addWagon_51 : decode cX3_addWagon 51 = .ok (.putfield 126, 3) := by decide +kernel
theorem dX3_addWagon_54 : decode cX3_addWagon 54 = .ok (.aload_n 3, 1) := by decide +kernel
theorem dX3_addWagon_55 : decode cX3_addWagon 55 = .ok (.aload_n 0, 1) := by decide +kernel
theorem dX3_addWagon_56 : decode cX3_addWagon 56 = .ok (.getfield 65, 3) := by decide +kernel
theorem dX3_addWagon_59 : decode cX3_addWagon 59 = .ok (.invokevirtual 129, 3) := by decide +kernel
theorem dX3_addWagon_62 : decode cX3_addWagon 62 = .ok (.iload_n 2, 1) := by decide +kernel
theorem dX3_addWagon_63 : decode cX3_addWagon 63 = .ok (.ireturn, 1) := by decide +kernel
theorem dX3_loadWagon_0 : decode cX3_loadWagon 0 = .ok (.aload_n 0, 1) := by decide +kernel
theorem dX3_loadWagon_1 : decode cX3_loadWagon 1 = .ok (.iload_n 1, 1) := by decide +kernel
theorem dX3_loadWagon_2 : decode cX3_loadWagon 2 = .ok (.invokevirtual 133, 3) := by decide +kernel
theorem dX3_loadWagon_5 : decode cX3_loadWagon 5 = .ok (.ifCond .ne 6, 3) := by decide +kernel
theorem dX3_loadWagon_8 : decode cX3_loadWagon 8 = .ok (.ldc 99, 2) := by decide +kernel
theorem dX3_loadWagon_10 : decode cX3_loadWagon 10 = .ok (.ireturn, 1) := by decide +kernel
theorem dX3_loadWagon_11 : decode cX3_loadWagon 11 = .ok (.aload_n 0, 1) := by decide +kernel
theorem dX3_loadWagon_12 : decode cX3_loadWagon 12 = .ok (.iload_n 1, 1) := by decide +kernel
theorem dX3_loadWagon_13 : decode cX3_loadWagon 13 = .ok (.invokevirtual 119, 3) := by decide +kernel
theorem dX3_loadWagon_16 : decode cX3_loadWagon 16 = .ok (.astore_n 2, 1) := by decide +kernel
theorem dX3_loadWagon_17 : decode cX3_loadWagon 17 = .ok (.aload_n 0, 1) := by decide +kernel
theorem dX3_loadWagon_18 : decode cX3_loadWagon 18 = .ok (.aload_n 2, 1) := by decide +kernel
theorem dX3_loadWagon_19 : decode cX3_loadWagon 19 = .ok (.invokevirtual 136, 3) := by decide +kernel
theorem dX3_loadWagon_22 : decode cX3_loadWagon 22 = .ok (.ifCond .eq 6, 3) := by decide +kernel
theorem dX3_loadWagon_25 : decode cX3_loadWagon 25 = .ok (.ldc 140, 2) := by decide +kernel
theorem dX3_loadWagon_27 : decode cX3_loadWagon 27 = .ok (.ireturn, 1) := by decide +kernel
theorem dX3_loadWagon_28 : decode cX3_loadWagon 28 = .ok (.aload_n 0, 1) := by decide +kernel
theorem dX3_loadWagon_29 : decode cX3_loadWagon 29 = .ok (.aload_n 2, 1) := by decide +kernel
theorem dX3_loadWagon_30 : decode cX3_loadWagon 30 = .ok (.getfield 126, 3) := by decide +kernel
theorem dX3_loadWagon_33 : decode cX3_loadWagon 33 = .ok (.invokevirtual 85, 3) := by decide +kernel
theorem dX3_loadWagon_36 : decode cX3_loadWagon 36 = .ok (.astore_n 3, 1) := by decide +kernel
theorem dX3_loadWagon_37 : decode cX3_loadWagon 37 = .ok (.aload_n 3, 1) := by decide +kernel
theorem dX3_loadWagon_38 : decode cX3_loadWagon 38 = .ok (.dup, 1) := by decide +kernel
theorem dX3_loadWagon_39 : decode cX3_loadWagon 39 = .ok (.getfield 141, 3) := by decide +kernel
theorem dX3_loadWagon_42 : decode cX3_loadWagon 42 = .ok (.bipush 30, 2) := by decide +kernel
theorem dX3_loadWagon_44 : decode cX3_loadWagon 44 = .ok (.isub, 1) := by decide +kernel
theorem dX3_loadWagon_45 : decode cX3_loadWagon 45 = .ok (.putfield 141, 3) := by decide +kernel
theorem dX3_loadWagon_48 : decode cX3_loadWagon 48 = .ok (.aload_n 3, 1) := by decide +kernel
theorem dX3_loadWagon_49 : decode cX3_loadWagon 49 = .ok (.dup, 1) := by decide +kernel
theorem dX3_loadWagon_50 : decode cX3_loadWagon 50 = .ok (.getfield 144, 3) := by decide +kernel
theorem dX3_loadWagon_53 : decode cX3_loadWagon 53 = .ok (.bipush 30, 2) := by decide +kernel
theorem dX3_loadWagon_55 : decode cX3_loadWagon 55 = .ok (.iadd, 1) := by decide +kernel
theorem dX3_loadWagon_56 : decode cX3_loadWagon 56 = .ok (.putfield 144, 3) := by decide +kernel
theorem dX3_loadWagon_59 : decode cX3_loadWagon 59 = .ok (.aload_n 2, 1) := by decide +kernel
theorem dX3_loadWagon_60 : decode cX3_loadWagon 60 = .ok (.iconst 1, 1) := by decide +kernel
theorem dX3_loadWagon_61 : decode cX3_loadWagon 61 = .ok (.putfield 147, 3) := by decide +kernel
theorem dX3_loadWagon_64 : decode cX3_loadWagon 64 = .ok (.aload_n 2, 1) := by decide +kernel
theorem dX3_loadWagon_65 : decode cX3_loadWagon 65 = .ok (.dup, 1) := by decide +kernel
theorem dX3_loadWagon_66 : decode cX3_loadWagon 66 = .ok (.getfield 151, 3) := by decide +kernel
theorem dX3_loadWagon_69 : decode cX3_loadWagon 69 = .ok (.iconst 1, 1) := by decide +kernel
theorem dX3_loadWagon_70 : decode cX3_loadWagon 70 = .ok (.iadd, 1) := by decide +kernel
theorem dX3_loadWagon_71 : decode cX3_loadWagon 71 = .ok (.putfield 151, 3) := by decide +kernel
theorem dX3_loadWagon_74 : decode cX3_loadWagon 74 = .ok (.aload_n 2, 1) := by decide +kernel
theorem dX3_loadWagon_75 : decode cX3_loadWagon 75 = .ok (.aload_n 0, 1) := by decide +kernel
theorem dX3_loadWagon_76 : decode cX3_loadWagon 76 = .ok (.getfield 65, 3) := by decide +kernel
theorem dX3_loadWagon_79 : decode cX3_loadWagon 79 = .ok (.invokevirtual 129, 3) := by decide +kernel
theorem dX3_loadWagon_82 : decode cX3_loadWagon 82 = .ok (.aload_n 3, 1) := by decide +kernel
theorem dX3_loadWagon_83 : decode cX3_loadWagon 83 = .ok (.getfield 141, 3) := by decide +kernel
theorem dX3_loadWagon_86 : decode cX3_loadWagon 86 = .ok (.ireturn, 1) := by decide +kernel
