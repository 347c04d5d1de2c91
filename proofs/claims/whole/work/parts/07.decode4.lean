theorem dX7_set_0 : decode cX7_set 0 = .ok (.aload_n 0, 1) := by decide +kernel
theorem dX7_set_1 : decode cX7_set 1 = .ok (.invokevirtual 104, 3) := by decide +kernel
theorem dX7_set_4 : decode cX7_set 4 = .ok (.iload_n 1, 1) := by decide +kernel
theorem dX7_set_5 : decode cX7_set 5 = .ok (.iload_n 2, 1) := by decide +kernel
theorem dX7_set_6 : decode cX7_set 6 = .ok (.invokestatic 129, 3) := by decide +kernel
theorem dX7_set_9 : decode cX7_set 9 = .ok (.ifCond .ne 6, 3) := by decide +kernel
theorem dX7_set_12 : decode cX7_set 12 = .ok (.ldc 28, 2) := by decide +kernel
theorem dX7_set_14 : decode cX7_set 14 = .ok (.ireturn, 1) := by decide +kernel
theorem dX7_set_15 : decode cX7_set 15 = .ok (.aload_n 0, 1) := by decide +kernel
theorem dX7_set_16 : decode cX7_set 16 = .ok (.getfield 7, 3) := by decide +kernel
theorem dX7_set_19 : decode cX7_set 19 = .ok (.bipush 7, 2) := by decide +kernel
theorem dX7_set_21 : decode cX7_set 21 = .ok (.iload_n 1, 1) := by decide +kernel
theorem dX7_set_22 : decode cX7_set 22 = .ok (.iadd, 1) := by decide +kernel
theorem dX7_set_23 : decode cX7_set 23 = .ok (.iaload, 1) := by decide +kernel
theorem dX7_set_24 : decode cX7_set 24 = .ok (.istore_n 3, 1) := by decide +kernel
theorem dX7_set_25 : decode cX7_set 25 = .ok (.aload_n 0, 1) := by decide +kernel
theorem dX7_set_26 : decode cX7_set 26 = .ok (.getfield 7, 3) := by decide +kernel
theorem dX7_set_29 : decode cX7_set 29 = .ok (.bipush 7, 2) := by decide +kernel
theorem dX7_set_31 : decode cX7_set 31 = .ok (.iload_n 1, 1) := by decide +kernel
theorem dX7_set_32 : decode cX7_set 32 = .ok (.iadd, 1) := by decide +kernel
theorem dX7_set_33 : decode cX7_set 33 = .ok (.iload_n 2, 1) := by decide +kernel
theorem dX7_set_34 : decode cX7_set 34 = .ok (.iastore, 1) := by decide +kernel
theorem dX7_set_35 : decode cX7_set 35 = .ok (.aload_n 0, 1) := by decide +kernel
theorem dX7_set_36 : decode cX7_set 36 = .ok (.iload_n 3, 1) := by decide +kernel
theorem dX7_set_37 : decode cX7_set 37 = .ok (.invokevirtual 107, 3) := by decide +kernel
theorem dX7_set_40 : decode cX7_set 40 = .ok (.ireturn, 1) := by decide +kernel
theorem dX7_daysOf_0 : decode cX7_daysOf 0 = .ok (.aload_n 0, 1) := by decide +kernel
theorem dX7_daysOf_1 : decode cX7_daysOf 1 = .ok (.iload_n 1, 1) := by decide +kernel
theorem dX7_daysOf_2 : decode cX7_daysOf 2 = .ok (.iconst 3, 1) := by decide +kernel
theorem dX7_daysOf_3 : decode cX7_daysOf 3 = .ok (.invokevirtual 40, 3) := by decide +kernel
theorem dX7_daysOf_6 : decode cX7_daysOf 6 = .ok (.ifCond .eq 13, 3) := by decide +kernel
theorem dX7_daysOf_9 : decode cX7_daysOf 9 = .ok (.aload_n 0, 1) := by decide +kernel
theorem dX7_daysOf_10 : decode cX7_daysOf 10 = .ok (.iload_n 1, 1) := by decide +kernel
theorem dX7_daysOf_11 : decode cX7_daysOf 11 = .ok (.bipush 6, 2) := by decide +kernel
theorem dX7_daysOf_13 : decode cX7_daysOf 13 = .ok (.invokevirtual 40, 3) := by decide +kernel
theorem dX7_daysOf_16 : decode cX7_daysOf 16 = .ok (.ifCond .ge 8, 3) := by decide +kernel
theorem dX7_daysOf_19 : decode cX7_daysOf 19 = .ok (.ldc 132, 2) := by decide +kernel
theorem dX7_daysOf_21 : decode cX7_daysOf 21 = .ok (.goto 17, 3) := by decide +kernel
theorem dX7_daysOf_24 : decode cX7_daysOf 24 = .ok (.aload_n 0, 1) := by decide +kernel
theorem dX7_daysOf_25 : decode cX7_daysOf 25 = .ok (.iload_n 1, 1) := by decide +kernel
theorem dX7_daysOf_26 : decode cX7_daysOf 26 = .ok (.bipush 6, 2) := by decide +kernel
theorem dX7_daysOf_28 : decode cX7_daysOf 28 = .ok (.invokevirtual 40, 3) := by decide +kernel
theorem dX7_daysOf_31 : decode cX7_daysOf 31 = .ok (.aload_n 0, 1) := by decide +kernel
theorem dX7_daysOf_32 : decode cX7_daysOf 32 = .ok (.getfield 7, 3) := by decide +kernel
theorem dX7_daysOf_35 : decode cX7_daysOf 35 = .ok (.iconst 2, 1) := by decide +kernel
theorem dX7_daysOf_36 : decode cX7_daysOf 36 = .ok (.iaload, 1) := by decide +kernel
theorem dX7_daysOf_37 : decode cX7_daysOf 37 = .ok (.isub, 1) := by decide +kernel
theorem dX7_daysOf_38 : decode cX7_daysOf 38 = .ok (.ireturn, 1) := by decide +kernel
theorem dX7_wagonOf_0 : decode cX7_wagonOf 0 = .ok (.aload_n 0, 1) := by decide +kernel
theorem dX7_wagonOf_1 : decode cX7_wagonOf 1 = .ok (.iload_n 1, 1) := by decide +kernel
theorem dX7_wagonOf_2 : decode cX7_wagonOf 2 = .ok (.invokevirtual 86, 3) := by decide +kernel
theorem dX7_wagonOf_5 : decode cX7_wagonOf 5 = .ok (.ifCond .eq 13, 3) := by decide +kernel
theorem dX7_wagonOf_8 : decode cX7_wagonOf 8 = .ok (.iload_n 2, 1) := by decide +kernel
theorem dX7_wagonOf_9 : decode cX7_wagonOf 9 = .ok (.iconst 0, 1) := by decide +kernel
theorem dX7_wagonOf_10 : decode cX7_wagonOf 10 = .ok (.bipush 8, 2) := by decide +kernel
theorem dX7_wagonOf_12 : decode cX7_wagonOf 12 = .ok (.invokestatic 36, 3) := by decide +kernel
theorem dX7_wagonOf_15 : decode cX7_wagonOf 15 = .ok (.ifCond .ne 6, 3) := by decide +kernel
theorem dX7_wagonOf_18 : decode cX7_wagonOf 18 = .ok (.ldc 28, 2) := by decide +kernel
theorem dX7_wagonOf_20 : decode cX7_wagonOf 20 = .ok (.ireturn, 1) := by decide +kernel
theorem dX7_wagonOf_21 : decode cX7_wagonOf 21 = .ok (.iload_n 2, 1) := by decide +kernel
theorem dX7_wagonOf_22 : decode cX7_wagonOf 22 = .ok (.tableswitch 71 5 8 #[30, 51, 57, 63], 30) := by decide +kernel
theorem dX7_wagonOf_52 : decode cX7_wagonOf 52 = .ok (.aload_n 0, 1) := by decide +kernel
theorem dX7_wagonOf_53 : decode cX7_wagonOf 53 = .ok (.iload_n 1, 1) := by decide +kernel
theorem dX7_wagonOf_54 : decode cX7_wagonOf 54 = .ok (.iconst 3, 1) := by decide +kernel
theorem dX7_wagonOf_55 : decode cX7_wagonOf 55 = .ok (.invokevirtual 40, 3) := by decide +kernel
theorem dX7_wagonOf_58 : decode cX7_wagonOf 58 = .ok (.ifCond .ne 12, 3) := by decide +kernel
theorem dX7_wagonOf_61 : decode cX7_wagonOf 61 = .ok (.aload_n 0, 1) := by decide +kernel
theorem dX7_wagonOf_62 : decode cX7_wagonOf 62 = .ok (.iload_n 1, 1) := by decide +kernel
theorem dX7_wagonOf_63 : decode cX7_wagonOf 63 = .ok (.iconst 5, 1) := by decide +kernel
theorem dX7_wagonOf_64 : decode cX7_wagonOf 64 = .ok (.invokevirtual 40, 3) := by decide +kernel
theorem dX7_wagonOf_67 : decode cX7_wagonOf 67 = .ok (.goto 5, 3) := by decide +kernel
theorem dX7_wagonOf_70 : decode cX7_wagonOf 70 = .ok (.ldc 132, 2) := by decide +kernel
theorem dX7_wagonOf_72 : decode cX7_wagonOf 72 = .ok (.ireturn, 1) := by decide +kernel
theorem dX7_wagonOf_73 : decode cX7_wagonOf 73 = .ok (.aload_n 0, 1) := by decide +kernel
theorem dX7_wagonOf_74 : decode cX7_wagonOf 74 = .ok (.iload_n 1, 1) := by decide +kernel
theorem dX7_wagonOf_75 : decode cX7_wagonOf 75 = .ok (.invokevirtual 133, 3) := by decide +kernel
theorem dX7_wagonOf_78 : decode cX7_wagonOf 78 = .ok (.ireturn, 1) := by decide +kernel
theorem dX7_wagonOf_79 : decode cX7_wagonOf 79 = .ok (.aload_n 0, 1) := by decide +kernel
theorem dX7_wagonOf_80 : decode cX7_wagonOf 80 = .ok (.iload_n 1, 1) := by decide +kernel
theorem dX7_wagonOf_81 : decode cX7_wagonOf 81 = .ok (.invokevirtual 89, 3) := by decide +kernel
theorem dX7_wagonOf_84 : decode cX7_wagonOf 84 = .ok (.ireturn, 1) := by decide +kernel
theorem dX7_wagonOf_85 : decode cX7_wagonOf 85 = .ok (.aload_n 0, 1) := by decide +kernel
theorem dX7_wagonOf_86 : decode cX7_wagonOf 86 = .ok (.iload_n 1, 1) := by decide +kernel
theorem dX7_wagonOf_87 : decode cX7_wagonOf 87 = .ok (.bipush 7, 2) := by decide +kernel
theorem dX7_wagonOf_89 : decode cX7_wagonOf 89 = .ok (.invokevirtual 40, 3) := by decide +kernel
theorem dX7_wagonOf_92 : decode cX7_wagonOf 92 = .ok (.ireturn, 1) := by decide +kernel
theorem dX7_wagonOf_93 : decode cX7_wagonOf 93 = .ok (.aload_n 0, 1) := by decide +kernel
theorem dX7_wagonOf_94 : decode cX7_wagonOf 94 = .ok (.iload_n 1, 1) := by decide +kernel
theorem dX7_wagonOf_95 : decode cX7_wagonOf 95 = .ok (.iload_n 2, 1) := by decide +kernel
theorem dX7_wagonOf_96 : decode cX7_wagonOf 96 = .ok (.invokevirtual 40, 3) := by decide +kernel
theorem dX7_wagonOf_99 : decode cX7_wagonOf 99 = .ok (.ireturn, 1) := by decide +kernel
theorem dX7_standing_0 : decode cX7_standing 0 = .ok (.iconst 0, 1) := by decide +kernel
theorem dX7_standing_1 : decode cX7_standing 1 = .ok (.istore_n 3, 1) := by decide +kernel
theorem dX7_standing_2 : decode cX7_standing 2 = .ok (.iconst 0, 1) := by decide +kernel
theorem dX7_standing_3 : decode cX7_standing 3 = .ok (.istore 4, 2) := by decide +kernel
theorem dX7_standing_5 : decode cX7_standing 5 = .ok (.iload 4, 2) := by decide +kernel
theorem dX7_standing_7 : decode cX7_standing 7 = .ok (.aload_n 0, 1) := by decide +kernel
theorem dX7_standing_8 : decode cX7_standing 8 = .ok (.getfield 7, 3) := by decide +kernel
theorem dX7_standing_11 : decode cX7_standing 11 = .ok (.iconst 1, 1) := by decide +kernel
theorem dX7_standing_12 : decode cX7_standing 12 = .ok (.iaload, 1) := by decide +kernel
theorem dX7_standing_13 : decode cX7_standing 13 = .ok (.if_icmp .ge 41, 3) := by decide +kernel
theorem dX7_standing_16 : decode cX7_standing 16 = .ok (.iload_n 3, 1) := by decide +kernel
theorem dX7_standing_17 : decode cX7_standing 17 = .ok (.aload_n 0, 1) := by decide +kernel
theorem dX7_standing_18 : decode cX7_standing 18 = .ok (.iload 4, 2) := by decide +kernel
theorem dX7_standing_20 : decode cX7_standing 20 = .ok (.iload_n 1, 1) := by decide +kernel
theorem dX7_standing_21 : decode cX7_standing 21 = .ok (.invokevirtual 94, 3) := by decide +kernel
theorem dX7_standing_24 : decode cX7_standing 24 = .ok (.ifCond .eq 21, 3) := by decide +kernel
theorem dX7_standing_27 : decode cX7_standing 27 = .ok (.aload_n 0, 1) := by decide +kernel
theorem dX7_standing_28 : decode cX7_standing 28 = .ok (.iload 4, 2) := by decide +kernel
theorem dX7_standing_30 : decode cX7_standing 30 = .ok (.iconst 2, 1) := by decide +kernel
theorem dX7_standing_31 : decode cX7_standing 31 = .ok (.invokevirtual 40, 3) := by decide +kernel
theorem dX7_standing_34 : decode cX7_standing 34 = .ok (.iload_n 2, 1) := by decide +kernel
theorem dX7_standing_35 : decode cX7_standing 35 = .ok (.if_icmp .ne 10, 3) := by decide +kernel
theorem dX7_standing_38 : decode cX7_standing 38 = .ok (.iconst 1, 1) := by decide +kernel
theorem dX7_standing_39 : decode cX7_standing 39 = .ok (.iload 4, 2) := by decide +kernel
theorem dX7_standing_41 : decode cX7_standing 41 = .ok (.ishl, 1) := by decide +kernel
theorem dX7_standing_42 : decode cX7_standing 42 = .ok (.goto 4, 3) := by decide +kernel
theorem dX7_standing_45 : decode cX7_standing 45 = .ok (.iconst 0, 1) := by decide +kernel
theorem dX7_standing_46 : decode cX7_standing 46 = .ok (.ior, 1) := by decide +kernel
theorem dX7_standing_47 : decode cX7_standing 47 = .ok (.istore_n 3, 1) := by decide +kernel
theorem dX7_standing_48 : decode cX7_standing 48 = .ok (.iinc 4 1, 3) := by decide +kernel
theorem dX7_standing_51 : decode cX7_standing 51 = .ok (.goto (-46), 3) := by decide +kernel
theorem dX7_standing_54 : decode cX7_standing 54 = .ok (.iload_n 3, 1) := by decide +kernel
theorem dX7_standing_55 : decode cX7_standing 55 = .ok (.ireturn, 1) := by decide +kernel
theorem dX7_going_0 : decode cX7_going 0 = .ok (.iconst 0, 1) := by decide +kernel
theorem dX7_going_1 : decode cX7_going 1 = .ok (.istore_n 2, 1) := by decide +kernel
theorem dX7_going_2 : decode cX7_going 2 = .ok (.iconst 0, 1) := by decide +kernel
theorem dX7_going_3 : decode cX7_going 3 = .ok (.istore_n 3, 1) := by decide +kernel
theorem dX7_going_4 : decode cX7_going 4 = .ok (.iload_n 3, 1) := by decide +kernel
theorem dX7_going_5 : decode cX7_going 5 = .ok (.aload_n 0, 1) := by decide +kernel
theorem dX7_going_6 : decode cX7_going 6 = .ok (.getfield 7, 3) := by decide +kernel
theorem dX7_going_9 : decode cX7_going 9 = .ok (.iconst 1, 1) := by decide +kernel
theorem dX7_going_10 : decode cX7_going 10 = .ok (.iaload, 1) := by decide +kernel
theorem dX7_going_11 : decode cX7_going 11 = .ok (.if_icmp .ge 39, 3) := by decide +kernel
theorem dX7_going_14 : decode cX7_going 14 = .ok (.iload_n 2, 1) := by decide +kernel
theorem dX7_going_15 : decode cX7_going 15 = .ok (.aload_n 0, 1) := by decide +kernel
theorem dX7_going_16 : decode cX7_going 16 = .ok (.iload_n 3, 1) := by decide +kernel
theorem dX7_going_17 : decode cX7_going 17 = .ok (.iconst 3, 1) := by decide +kernel
theorem dX7_going_18 : decode cX7_going 18 = .ok (.invokevirtual 40, 3) := by decide +kernel
theorem dX7_going_21 : decode cX7_going 21 = .ok (.iconst 1, 1) := by decide +kernel
theorem dX7_going_22 : decode cX7_going 22 = .ok (.if_icmp .ne 19, 3) := by decide +kernel
theorem dX7_going_25 : decode cX7_going 25 = .ok (.aload_n 0, 1) := by decide +kernel
theorem dX7_going_26 : decode cX7_going 26 = .ok (.iload_n 3, 1) := by decide +kernel
theorem dX7_going_27 : decode cX7_going 27 = .ok (.iconst 1, 1) := by decide +kernel
theorem dX7_going_28 : decode cX7_going 28 = .ok (.invokevirtual 40, 3) := by decide +kernel
theorem dX7_going_31 : decode cX7_going 31 = .ok (.iload_n 1, 1) := by decide +kernel
theorem dX7_going_32 : decode cX7_going 32 = .ok (.if_icmp .ne 9, 3) := by decide +kernel
theorem dX7_going_35 : decode cX7_going 35 = .ok (.iconst 1, 1) := by decide +kernel
theorem dX7_going_36 : decode cX7_going 36 = .ok (.iload_n 3, 1) := by decide +kernel
theorem dX7_going_37 : decode cX7_going 37 = .ok (.ishl, 1) := by decide +kernel
theorem dX7_going_38 : decode cX7_going 38 = .ok (.goto 4, 3) := by decide +kernel
theorem dX7_going_41 : decode cX7_going 41 = .ok (.iconst 0, 1) := by decide +kernel
theorem dX7_going_42 : decode cX7_going 42 = .ok (.ior, 1) := by decide +kernel
theorem dX7_going_43 : decode cX7_going 43 = .ok (.istore_n 2, 1) := by decide +kernel
theorem dX7_going_44 : decode cX7_going 44 = .ok (.iinc 3 1, 3) := by decide +kernel
theorem dX7_going_47 : decode cX7_going 47 = .ok (.goto (-43), 3) := by decide +kernel
theorem dX7_going_50 : decode cX7_going 50 = .ok (.iload_n 2, 1) := by decide +kernel
theorem dX7_going_51 : decode cX7_going 51 = .ok (.ireturn, 1) := by decide +kernel
theorem dX7_owned_0 : decode cX7_owned 0 = .ok (.iconst 0, 1) := by decide +kernel
theorem dX7_owned_1 : decode cX7_owned 1 = .ok (.istore_n 2, 1) := by decide +kernel
theorem dX7_owned_2 : decode cX7_owned 2 = .ok (.iconst 0, 1) := by decide +kernel
theorem dX7_owned_3 : decode cX7_owned 3 = .ok (.istore_n 3, 1) := by decide +kernel
theorem dX7_owned_4 : decode cX7_owned 4 = .ok (.iload_n 3, 1) := by decide +kernel
theorem dX7_owned_5 : decode cX7_owned 5 = .ok (.aload_n 0, 1) := by decide +kernel
theorem dX7_owned_6 : decode cX7_owned 6 = .ok (.getfield 7, 3) := by decide +kernel
theorem dX7_owned_9 : decode cX7_owned 9 = .ok (.iconst 1, 1) := by decide +kernel
theorem dX7_owned_10 : decode cX7_owned 10 = .ok (.iaload, 1) := by decide +kernel
theorem dX7_owned_11 : decode cX7_owned 11 = .ok (.if_icmp .ge 29, 3) := by decide +kernel
theorem dX7_owned_14 : decode cX7_owned 14 = .ok (.iload_n 2, 1) := by decide +kernel
theorem dX7_owned_15 : decode cX7_owned 15 = .ok (.aload_n 0, 1) := by decide +kernel
theorem dX7_owned_16 : decode cX7_owned 16 = .ok (.iload_n 3, 1) := by decide +kernel
theorem dX7_owned_17 : decode cX7_owned 17 = .ok (.iconst 0, 1) := by decide +kernel
theorem dX7_owned_18 : decode cX7_owned 18 = .ok (.invokevirtual 40, 3) := by decide +kernel
theorem dX7_owned_21 : decode cX7_owned 21 = .ok (.iload_n 1, 1) := by decide +kernel
theorem dX7_owned_22 : decode cX7_owned 22 = .ok (.if_icmp .ne 9, 3) := by decide +kernel
theorem dX7_owned_25 : decode cX7_owned 25 = .ok (.iconst 1, 1) := by decide +kernel
theorem dX7_owned_26 : decode cX7_owned 26 = .ok (.iload_n 3, 1) := by decide +kernel
theorem dX7_owned_27 : decode cX7_owned 27 = .ok (.ishl, 1) := by decide +kernel
theorem dX7_owned_28 : decode cX7_owned 28 = .ok (.goto 4, 3) := by decide +kernel
theorem dX7_owned_31 : decode cX7_owned 31 = .ok (.iconst 0, 1) := by decide +kernel
theorem dX7_owned_32 : decode cX7_owned 32 = .ok (.ior, 1) := by decide +kernel
theorem dX7_owned_33 : decode cX7_owned 33 = .ok (.istore_n 2, 1) := by decide +kernel
theorem dX7_owned_34 : decode cX7_owned 34 = .ok (.iinc 3 1, 3) := by decide +kernel
theorem dX7_owned_37 : decode cX7_owned 37 = .ok (.goto (-33), 3) := by decide +kernel
theorem dX7_owned_40 : decode cX7_owned 40 = .ok (.iload_n 2, 1) := by decide +kernel
theorem dX7_owned_41 : decode cX7_owned 41 = .ok (.ireturn, 1) := by decide +kernel
theorem dX7_placeOf_0 : decode cX7_placeOf 0 = .ok (.aload_n 0, 1) := by decide +kernel
theorem dX7_placeOf_1 : decode cX7_placeOf 1 = .ok (.iload_n 1, 1) := by decide +kernel
theorem dX7_placeOf_2 : decode cX7_placeOf 2 = .ok (.invokevirtual 98, 3) := by decide +kernel
theorem dX7_placeOf_5 : decode cX7_placeOf 5 = .ok (.ifCond .eq 13, 3) := by decide +kernel
theorem dX7_placeOf_8 : decode cX7_placeOf 8 = .ok (.iload_n 2, 1) := by decide +kernel
theorem dX7_placeOf_9 : decode cX7_placeOf 9 = .ok (.iconst 0, 1) := by decide +kernel
theorem dX7_placeOf_10 : decode cX7_placeOf 10 = .ok (.bipush 9, 2) := by decide +kernel
theorem dX7_placeOf_12 : decode cX7_placeOf 12 = .ok (.invokestatic 36, 3) := by decide +kernel
theorem dX7_placeOf_15 : decode cX7_placeOf 15 = .ok (.ifCond .ne 6, 3) := by decide +kernel
theorem dX7_placeOf_18 : decode cX7_placeOf 18 = .ok (.ldc 28, 2) := by decide +kernel
theorem dX7_placeOf_20 : decode cX7_placeOf 20 = .ok (.ireturn, 1) := by decide +kernel
theorem dX7_placeOf_21 : decode cX7_placeOf 21 = .ok (.iload_n 1, 1) := by decide +kernel
theorem dX7_placeOf_22 : decode cX7_placeOf 22 = .ok (.ifCond .ne 22, 3) := by decide +kernel
theorem dX7_placeOf_25 : decode cX7_placeOf 25 = .ok (.iload_n 2, 1) := by decide +kernel
theorem dX7_placeOf_26 : decode cX7_placeOf 26 = .ok (.iconst 2, 1) := by decide +kernel
theorem dX7_placeOf_27 : decode cX7_placeOf 27 = .ok (.if_icmp .lt 14, 3) := by decide +kernel
theorem dX7_placeOf_30 : decode cX7_placeOf 30 = .ok (.iload_n 2, 1) := by decide +kernel
theorem dX7_placeOf_31 : decode cX7_placeOf 31 = .ok (.iconst 5, 1) := by decide +kernel
theorem dX7_placeOf_32 : decode cX7_placeOf 32 = .ok (.if_icmp .eq 9, 3) := by decide +kernel
theorem dX7_placeOf_35 : decode cX7_placeOf 35 = .ok (.iload_n 2, 1) := by decide +kernel
theorem dX7_placeOf_36 : decode cX7_placeOf 36 = .ok (.bipush 8, 2) := by decide +kernel
theorem dX7_placeOf_38 : decode cX7_placeOf 38 = .ok (.if_icmp .ne 6, 3) := by decide +kernel
theorem dX7_placeOf_41 : decode cX7_placeOf 41 = .ok (.ldc 132, 2) := by decide +kernel
theorem dX7_placeOf_43 : decode cX7_placeOf 43 = .ok (.ireturn, 1) := by decide +kernel
theorem dX7_placeOf_44 : decode cX7_placeOf 44 = .ok (.iload_n 2, 1) := by decide +kernel
theorem dX7_placeOf_45 : decode cX7_placeOf 45 = .ok (.tableswitch 67 0 5 #[60, 60, 39, 39, 48, 54], 39) := by decide +kernel
theorem dX7_placeOf_84 : decode cX7_placeOf 84 = .ok (.aload_n 0, 1) := by decide +kernel
theorem dX7_placeOf_85 : decode cX7_placeOf 85 = .ok (.iload_n 1, 1) := by decide +kernel
theorem dX7_placeOf_86 : decode cX7_placeOf 86 = .ok (.iload_n 2, 1) := by decide +kernel
theorem dX7_placeOf_87 : decode cX7_placeOf 87 = .ok (.iconst 2, 1) := by decide +kernel
theorem dX7_placeOf_88 : decode cX7_placeOf 88 = .ok (.isub, 1) := by decide +kernel
theorem dX7_placeOf_89 : decode cX7_placeOf 89 = .ok (.invokevirtual 136, 3) := by decide +kernel
theorem dX7_placeOf_92 : decode cX7_placeOf 92 = .ok (.ireturn, 1) := by decide +kernel
theorem dX7_placeOf_93 : decode cX7_placeOf 93 = .ok (.aload_n 0, 1) := by decide +kernel
theorem dX7_placeOf_94 : decode cX7_placeOf 94 = .ok (.iload_n 1, 1) := by decide +kernel
theorem dX7_placeOf_95 : decode cX7_placeOf 95 = .ok (.invokevirtual 139, 3) := by decide +kernel
theorem dX7_placeOf_98 : decode cX7_placeOf 98 = .ok (.ireturn, 1) := by decide +kernel
theorem dX7_placeOf_99 : decode cX7_placeOf 99 = .ok (.aload_n 0, 1) := by decide +kernel
theorem dX7_placeOf_100 : decode cX7_placeOf 100 = .ok (.iload_n 1, 1) := by decide +kernel
theorem dX7_placeOf_101 : decode cX7_placeOf 101 = .ok (.invokevirtual 142, 3) := by decide +kernel
theorem dX7_placeOf_104 : decode cX7_placeOf 104 = .ok (.ireturn, 1) := by decide +kernel
theorem dX7_placeOf_105 : decode cX7_placeOf 105 = .ok (.aload_n 0, 1) := by decide +kernel
theorem dX7_placeOf_106 : decode cX7_placeOf 106 = .ok (.iload_n 1, 1) := by decide +kernel
theorem dX7_placeOf_107 : decode cX7_placeOf 107 = .ok (.iload_n 2, 1) := by decide +kernel
theorem dX7_placeOf_108 : decode cX7_placeOf 108 = .ok (.invokevirtual 48, 3) := by decide +kernel
theorem dX7_placeOf_111 : decode cX7_placeOf 111 = .ok (.ireturn, 1) := by decide +kernel
theorem dX7_placeOf_112 : decode cX7_placeOf 112 = .ok (.aload_n 0, 1) := by decide +kernel
theorem dX7_placeOf_113 : decode cX7_placeOf 113 = .ok (.iload_n 1, 1) := by decide +kernel
theorem dX7_placeOf_114 : decode cX7_placeOf 114 = .ok (.iload_n 2, 1) := by decide +kernel
theorem dX7_placeOf_115 : decode cX7_placeOf 115 = .ok (.iconst 4, 1) := by decide +kernel
theorem dX7_placeOf_116 : decode cX7_placeOf 116 = .ok (.isub, 1) := by decide +kernel
theorem dX7_placeOf_117 : decode cX7_placeOf 117 = .ok (.invokevirtual 48, 3) := by decide +kernel
theorem dX7_placeOf_120 : decode cX7_placeOf 120 = .ok (.ireturn, 1) := by decide +kernel
theorem dX7_days_0 : decode cX7_days 0 = .ok (.aload_n 0, 1) := by decide +kernel
theorem dX7_days_1 : decode cX7_days 1 = .ok (.iload_n 1, 1) := by decide +kernel
theorem dX7_days_2 : decode cX7_days 2 = .ok (.invokevirtual 98, 3) := by decide +kernel
theorem dX7_days_5 : decode cX7_days 5 = .ok (.ifCond .eq 32, 3) := by decide +kernel
theorem dX7_days_8 : decode cX7_days 8 = .ok (.aload_n 0, 1) := by decide +kernel
theorem dX7_days_9 : decode cX7_days 9 = .ok (.iload_n 2, 1) := by decide +kernel
theorem dX7_days_10 : decode cX7_days 10 = .ok (.invokevirtual 98, 3) := by decide +kernel
theorem dX7_days_13 : decode cX7_days 13 = .ok (.ifCond .eq 24, 3) := by decide +kernel
theorem dX7_days_16 : decode cX7_days 16 = .ok (.iload_n 1, 1) := by decide +kernel
theorem dX7_days_17 : decode cX7_days 17 = .ok (.iload_n 2, 1) := by decide +kernel
theorem dX7_days_18 : decode cX7_days 18 = .ok (.if_icmp .eq 19, 3) := by decide +kernel
theorem dX7_days_21 : decode cX7_days 21 = .ok (.aload_n 0, 1) := by decide +kernel
theorem dX7_days_22 : decode cX7_days 22 = .ok (.getfield 7, 3) := by decide +kernel
theorem dX7_days_25 : decode cX7_days 25 = .ok (.bipush 14, 2) := by decide +kernel
theorem dX7_days_27 : decode cX7_days 27 = .ok (.iconst 5, 1) := by decide +kernel
theorem dX7_days_28 : decode cX7_days 28 = .ok (.iload_n 1, 1) := by decide +kernel
theorem dX7_days_29 : decode cX7_days 29 = .ok (.imul, 1) := by decide +kernel
theorem dX7_days_30 : decode cX7_days 30 = .ok (.iadd, 1) := by decide +kernel
theorem dX7_days_31 : decode cX7_days 31 = .ok (.iload_n 2, 1) := by decide +kernel
theorem dX7_days_32 : decode cX7_days 32 = .ok (.iadd, 1) := by decide +kernel
theorem dX7_days_33 : decode cX7_days 33 = .ok (.iaload, 1) := by decide +kernel
theorem dX7_days_34 : decode cX7_days 34 = .ok (.goto 5, 3) := by decide +kernel
theorem dX7_days_37 : decode cX7_days 37 = .ok (.ldc 28, 2) := by decide +kernel
theorem dX7_days_39 : decode cX7_days 39 = .ok (.ireturn, 1) := by decide +kernel
theorem dX7_would_0 : decode cX7_would 0 = .ok (.aload_n 0, 1) := by decide +kernel
theorem dX7_would_1 : decode cX7_would 1 = .ok (.iload_n 1, 1) := by decide +kernel
theorem dX7_would_2 : decode cX7_would 2 = .ok (.invokevirtual 98, 3) := by decide +kernel
theorem dX7_would_5 : decode cX7_would 5 = .ok (.ifCond .eq 13, 3) := by decide +kernel
theorem dX7_would_8 : decode cX7_would 8 = .ok (.iload_n 2, 1) := by decide +kernel
theorem dX7_would_9 : decode cX7_would 9 = .ok (.iconst 0, 1) := by decide +kernel
theorem dX7_would_10 : decode cX7_would 10 = .ok (.bipush 99, 2) := by decide +kernel
theorem dX7_would_12 : decode cX7_would 12 = .ok (.invokestatic 36, 3) := by decide +kernel
theorem dX7_would_15 : decode cX7_would 15 = .ok (.ifCond .ne 6, 3) := by decide +kernel
theorem dX7_would_18 : decode cX7_would 18 = .ok (.ldc 28, 2) := by decide +kernel
theorem dX7_would_20 : decode cX7_would 20 = .ok (.ireturn, 1) := by decide +kernel
theorem dX7_would_21 : decode cX7_would 21 = .ok (.iconst 0, 1) := by decide +kernel
theorem dX7_would_22 : decode cX7_would 22 = .ok (.istore_n 3, 1) := by decide +kernel
theorem dX7_would_23 : decode cX7_would 23 = .ok (.iload_n 3, 1) := by decide +kernel
theorem dX7_would_24 : decode cX7_would 24 = .ok (.sipush 269, 3) := by decide +kernel
theorem dX7_would_27 : decode cX7_would 27 = .ok (.if_icmp .ge 21, 3) := by decide +kernel
theorem dX7_would_30 : decode cX7_would 30 = .ok (.aload_n 0, 1) := by decide +kernel
theorem dX7_would_31 : decode cX7_would 31 = .ok (.getfield 16, 3) := by decide +kernel
theorem dX7_would_34 : decode cX7_would 34 = .ok (.iload_n 3, 1) := by decide +kernel
theorem dX7_would_35 : decode cX7_would 35 = .ok (.aload_n 0, 1) := by decide +kernel
theorem dX7_would_36 : decode cX7_would 36 = .ok (.getfield 7, 3) := by decide +kernel
theorem dX7_would_39 : decode cX7_would 39 = .ok (.iload_n 3, 1) := by decide +kernel
theorem dX7_would_40 : decode cX7_would 40 = .ok (.iaload, 1) := by decide +kernel
theorem dX7_would_41 : decode cX7_would 41 = .ok (.iastore, 1) := by decide +kernel
theorem dX7_would_42 : decode cX7_would 42 = .ok (.iinc 3 1, 3) := by decide +kernel
theorem dX7_would_45 : decode cX7_would 45 = .ok (.goto (-22), 3) := by decide +kernel
theorem dX7_would_48 : decode cX7_would 48 = .ok (.iconst 0, 1) := by decide +kernel
theorem dX7_would_49 : decode cX7_would 49 = .ok (.istore_n 3, 1) := by decide +kernel
theorem dX7_would_50 : decode cX7_would 50 = .ok (.iload_n 3, 1) := by decide +kernel
theorem dX7_would_51 : decode cX7_would 51 = .ok (.iload_n 2, 1) := by decide +kernel
theorem dX7_would_52 : decode cX7_would 52 = .ok (.if_icmp .ge 15, 3) := by decide +kernel
theorem dX7_would_55 : decode cX7_would 55 = .ok (.aload_n 0, 1) := by decide +kernel
theorem dX7_would_56 : decode cX7_would 56 = .ok (.invokevirtual 101, 3) := by decide +kernel
theorem dX7_would_59 : decode cX7_would 59 = .ok (.istore 4, 2) := by decide +kernel
theorem dX7_would_61 : decode cX7_would 61 = .ok (.iinc 3 1, 3) := by decide +kernel
theorem dX7_would_64 : decode cX7_would 64 = .ok (.goto (-14), 3) := by decide +kernel
theorem dX7_would_67 : decode cX7_would 67 = .ok (.aload_n 0, 1) := by decide +kernel
theorem dX7_would_68 : decode cX7_would 68 = .ok (.iload_n 1, 1) := by decide +kernel
theorem dX7_would_69 : decode cX7_would 69 = .ok (.iconst 2, 1) := by decide +kernel
theorem dX7_would_70 : decode cX7_would 70 = .ok (.invokevirtual 48, 3) := by decide +kernel
theorem dX7_would_73 : decode cX7_would 73 = .ok (.istore_n 3, 1) := by decide +kernel
theorem dX7_would_74 : decode cX7_would 74 = .ok (.iconst 0, 1) := by decide +kernel
theorem dX7_would_75 : decode cX7_would 75 = .ok (.istore 4, 2) := by decide +kernel
theorem dX7_would_77 : decode cX7_would 77 = .ok (.iload 4, 2) := by decide +kernel
theorem dX7_would_79 : decode cX7_would 79 = .ok (.sipush 269, 3) := by decide +kernel
theorem dX7_would_82 : decode cX7_would 82 = .ok (.if_icmp .ge 23, 3) := by decide +kernel
theorem dX7_would_85 : decode cX7_would 85 = .ok (.aload_n 0, 1) := by decide +kernel
theorem dX7_would_86 : decode cX7_would 86 = .ok (.getfield 7, 3) := by decide +kernel
theorem dX7_would_89 : decode cX7_would 89 = .ok (.iload 4, 2) := by decide +kernel
theorem dX7_would_91 : decode cX7_would 91 = .ok (.aload_n 0, 1) := by decide +kernel
theorem dX7_would_92 : decode cX7_would 92 = .ok (.getfield 16, 3) := by decide +kernel
theorem dX7_would_95 : decode cX7_would 95 = .ok (.iload 4, 2) := by decide +kernel
theorem dX7_would_97 : decode cX7_would 97 = .ok (.iaload, 1) := by decide +kernel
theorem dX7_would_98 : decode cX7_would 98 = .ok (.iastore, 1) := by decide +kernel
theorem dX7_would_99 : decode cX7_would 99 = .ok (.iinc 4 1, 3) := by decide +kernel
theorem dX7_would_102 : decode cX7_would 102 = .ok (.goto (-25), 3) := by decide +kernel
theorem dX7_would_105 : decode cX7_would 105 = .ok (.iload_n 3, 1) := by decide +kernel
theorem dX7_would_106 : decode cX7_would 106 = .ok (.ireturn, 1) := by decide +kernel
theorem dX7_ready_0 : decode cX7_ready 0 = .ok (.iconst 0, 1) := by decide +kernel
theorem dX7_ready_1 : decode cX7_ready 1 = .ok (.istore_n 2, 1) := by decide +kernel
theorem dX7_ready_2 : decode cX7_ready 2 = .ok (.iconst 0, 1) := by decide +kernel
theorem dX7_ready_3 : decode cX7_ready 3 = .ok (.istore_n 3, 1) := by decide +kernel
theorem dX7_ready_4 : decode cX7_ready 4 = .ok (.iload_n 3, 1) := by decide +kernel
theorem dX7_ready_5 : decode cX7_ready 5 = .ok (.aload_n 0, 1) := by decide +kernel
theorem dX7_ready_6 : decode cX7_ready 6 = .ok (.getfield 7, 3) := by decide +kernel
theorem dX7_ready_9 : decode cX7_ready 9 = .ok (.iconst 1, 1) := by decide +kernel
theorem dX7_ready_10 : decode cX7_ready 10 = .ok (.iaload, 1) := by decide +kernel
theorem dX7_ready_11 : decode cX7_ready 11 = .ok (.if_icmp .ge 43, 3) := by decide +kernel
theorem dX7_ready_14 : decode cX7_ready 14 = .ok (.iload_n 2, 1) := by decide +kernel
theorem dX7_ready_15 : decode cX7_ready 15 = .ok (.aload_n 0, 1) := by decide +kernel
theorem dX7_ready_16 : decode cX7_ready 16 = .ok (.iload_n 3, 1) := by decide +kernel
theorem dX7_ready_17 : decode cX7_ready 17 = .ok (.iload_n 1, 1) := by decide +kernel
theorem dX7_ready_18 : decode cX7_ready 18 = .ok (.invokevirtual 94, 3) := by decide +kernel
theorem dX7_ready_21 : decode cX7_ready 21 = .ok (.ifCond .eq 24, 3) := by decide +kernel
theorem dX7_ready_24 : decode cX7_ready 24 = .ok (.aload_n 0, 1) := by decide +kernel
theorem dX7_ready_25 : decode cX7_ready 25 = .ok (.iload_n 3, 1) := by decide +kernel
theorem dX7_ready_26 : decode cX7_ready 26 = .ok (.iconst 2, 1) := by decide +kernel
theorem dX7_ready_27 : decode cX7_ready 27 = .ok (.invokevirtual 40, 3) := by decide +kernel
theorem dX7_ready_30 : decode cX7_ready 30 = .ok (.ifCond .ne 15, 3) := by decide +kernel
theorem dX7_ready_33 : decode cX7_ready 33 = .ok (.aload_n 0, 1) := by decide +kernel
theorem dX7_ready_34 : decode cX7_ready 34 = .ok (.iload_n 3, 1) := by decide +kernel
theorem dX7_ready_35 : decode cX7_ready 35 = .ok (.invokevirtual 44, 3) := by decide +kernel
theorem dX7_ready_38 : decode cX7_ready 38 = .ok (.ifCond .ne 7, 3) := by decide +kernel
theorem dX7_ready_41 : decode cX7_ready 41 = .ok (.iconst 1, 1) := by decide +kernel
theorem dX7_ready_42 : decode cX7_ready 42 = .ok (.goto 4, 3) := by decide +kernel
theorem dX7_ready_45 : decode cX7_ready 45 = .ok (.iconst 0, 1) := by decide +kernel
theorem dX7_ready_46 : decode cX7_ready 46 = .ok (.iadd, 1) := by decide +kernel
theorem dX7_ready_47 : decode cX7_ready 47 = .ok (.istore_n 2, 1) := by decide +kernel
theorem dX7_ready_48 : decode cX7_ready 48 = .ok (.iinc 3 1, 3) := by decide +kernel
theorem dX7_ready_51 : decode cX7_ready 51 = .ok (.goto (-47), 3) := by decide +kernel
theorem dX7_ready_54 : decode cX7_ready 54 = .ok (.iload_n 2, 1) := by decide +kernel
theorem dX7_ready_55 : decode cX7_ready 55 = .ok (.ireturn, 1) := by decide +kernel
theorem dX7_lacking_0 : decode cX7_lacking 0 = .ok (.aload_n 0, 1) := by decide +kernel
theorem dX7_lacking_1 : decode cX7_lacking 1 = .ok (.iload_n 1, 1) := by decide +kernel
theorem dX7_lacking_2 : decode cX7_lacking 2 = .ok (.iconst 0, 1) := by decide +kernel
theorem dX7_lacking_3 : decode cX7_lacking 3 = .ok (.invokevirtual 48, 3) := by decide +kernel
theorem dX7_lacking_6 : decode cX7_lacking 6 = .ok (.bipush 30, 2) := by decide +kernel
theorem dX7_lacking_8 : decode cX7_lacking 8 = .ok (.idiv, 1) := by decide +kernel
theorem dX7_lacking_9 : decode cX7_lacking 9 = .ok (.aload_n 0, 1) := by decide +kernel
theorem dX7_lacking_10 : decode cX7_lacking 10 = .ok (.iload_n 1, 1) := by decide +kernel
theorem dX7_lacking_11 : decode cX7_lacking 11 = .ok (.invokevirtual 145, 3) := by decide +kernel
theorem dX7_lacking_14 : decode cX7_lacking 14 = .ok (.isub, 1) := by decide +kernel
theorem dX7_lacking_15 : decode cX7_lacking 15 = .ok (.istore_n 2, 1) := by decide +kernel
theorem dX7_lacking_16 : decode cX7_lacking 16 = .ok (.iconst 0, 1) := by decide +kernel
theorem dX7_lacking_17 : decode cX7_lacking 17 = .ok (.istore_n 3, 1) := by decide +kernel
theorem dX7_lacking_18 : decode cX7_lacking 18 = .ok (.iload_n 3, 1) := by decide +kernel
theorem dX7_lacking_19 : decode cX7_lacking 19 = .ok (.aload_n 0, 1) := by decide +kernel
theorem dX7_lacking_20 : decode cX7_lacking 20 = .ok (.getfield 7, 3) := by decide +kernel
theorem dX7_lacking_23 : decode cX7_lacking 23 = .ok (.iconst 1, 1) := by decide +kernel
theorem dX7_lacking_24 : decode cX7_lacking 24 = .ok (.iaload, 1) := by decide +kernel
theorem dX7_lacking_25 : decode cX7_lacking 25 = .ok (.if_icmp .ge 46, 3) := by decide +kernel
theorem dX7_lacking_28 : decode cX7_lacking 28 = .ok (.iload_n 2, 1) := by decide +kernel
theorem dX7_lacking_29 : decode cX7_lacking 29 = .ok (.aload_n 0, 1) := by decide +kernel
theorem dX7_lacking_30 : decode cX7_lacking 30 = .ok (.iload_n 3, 1) := by decide +kernel
theorem dX7_lacking_31 : decode cX7_lacking 31 = .ok (.iconst 3, 1) := by decide +kernel
theorem dX7_lacking_32 : decode cX7_lacking 32 = .ok (.invokevirtual 40, 3) := by decide +kernel
theorem dX7_lacking_35 : decode cX7_lacking 35 = .ok (.iconst 1, 1) := by decide +kernel
theorem dX7_lacking_36 : decode cX7_lacking 36 = .ok (.if_icmp .ne 26, 3) := by decide +kernel
theorem dX7_lacking_39 : decode cX7_lacking 39 = .ok (.aload_n 0, 1) := by decide +kernel
theorem dX7_lacking_40 : decode cX7_lacking 40 = .ok (.iload_n 3, 1) := by decide +kernel
theorem dX7_lacking_41 : decode cX7_lacking 41 = .ok (.iconst 1, 1) := by decide +kernel
theorem dX7_lacking_42 : decode cX7_lacking 42 = .ok (.invokevirtual 40, 3) := by decide +kernel
theorem dX7_lacking_45 : decode cX7_lacking 45 = .ok (.iload_n 1, 1) := by decide +kernel
theorem dX7_lacking_46 : decode cX7_lacking 46 = .ok (.if_icmp .ne 16, 3) := by decide +kernel
theorem dX7_lacking_49 : decode cX7_lacking 49 = .ok (.aload_n 0, 1) := by decide +kernel
theorem dX7_lacking_50 : decode cX7_lacking 50 = .ok (.iload_n 3, 1) := by decide +kernel
theorem dX7_lacking_51 : decode cX7_lacking 51 = .ok (.iconst 2, 1) := by decide +kernel
theorem dX7_lacking_52 : decode cX7_lacking 52 = .ok (.invokevirtual 40, 3) := by decide +kernel
theorem dX7_lacking_55 : decode cX7_lacking 55 = .ok (.ifCond .ne 7, 3) := by decide +kernel
theorem dX7_lacking_58 : decode cX7_lacking 58 = .ok (.iconst 1, 1) := by decide +kernel
theorem dX7_lacking_59 : decode cX7_lacking 59 = .ok (.goto 4, 3) := by decide +kernel
theorem dX7_lacking_62 : decode cX7_lacking 62 = .ok (.iconst 0, 1) := by decide +kernel
theorem dX7_lacking_63 : decode cX7_lacking 63 = .ok (.isub, 1) := by decide +kernel
theorem dX7_lacking_64 : decode cX7_lacking 64 = .ok (.istore_n 2, 1) := by decide +kernel
theorem dX7_lacking_65 : decode cX7_lacking 65 = .ok (.iinc 3 1, 3) := by decide +kernel
theorem dX7_lacking_68 : decode cX7_lacking 68 = .ok (.goto (-50), 3) := by decide +kernel
theorem dX7_lacking_71 : decode cX7_lacking 71 = .ok (.iload_n 2, 1) := by decide +kernel
theorem dX7_lacking_72 : decode cX7_lacking 72 = .ok (.ifCond .ge 7, 3) := by decide +kernel
theorem dX7_lacking_75 : decode cX7_lacking 75 = .ok (.iconst 0, 1) := by decide +kernel
theorem dX7_lacking_76 : decode cX7_lacking 76 = .ok (.goto 4, 3) := by decide +kernel
theorem dX7_lacking_79 : decode cX7_lacking 79 = .ok (.iload_n 2, 1) := by decide +kernel
theorem dX7_lacking_80 : decode cX7_lacking 80 = .ok (.ireturn, 1) := by decide +kernel
theorem dX7_spare_0 : decode cX7_spare 0 = .ok (.aload_n 0, 1) := by decide +kernel
theorem dX7_spare_1 : decode cX7_spare 1 = .ok (.iload_n 1, 1) := by decide +kernel
theorem dX7_spare_2 : decode cX7_spare 2 = .ok (.invokevirtual 145, 3) := by decide +kernel
theorem dX7_spare_5 : decode cX7_spare 5 = .ok (.iload_n 1, 1) := by decide +kernel
theorem dX7_spare_6 : decode cX7_spare 6 = .ok (.ifCond .ne 7, 3) := by decide +kernel
theorem dX7_spare_9 : decode cX7_spare 9 = .ok (.iconst 0, 1) := by decide +kernel
theorem dX7_spare_10 : decode cX7_spare 10 = .ok (.goto 12, 3) := by decide +kernel
theorem dX7_spare_13 : decode cX7_spare 13 = .ok (.aload_n 0, 1) := by decide +kernel
theorem dX7_spare_14 : decode cX7_spare 14 = .ok (.iload_n 1, 1) := by decide +kernel
theorem dX7_spare_15 : decode cX7_spare 15 = .ok (.iconst 0, 1) := by decide +kernel
theorem dX7_spare_16 : decode cX7_spare 16 = .ok (.invokevirtual 48, 3) := by decide +kernel
theorem dX7_spare_19 : decode cX7_spare 19 = .ok (.bipush 30, 2) := by decide +kernel
theorem dX7_spare_21 : decode cX7_spare 21 = .ok (.idiv, 1) := by decide +kernel
theorem dX7_spare_22 : decode cX7_spare 22 = .ok (.isub, 1) := by decide +kernel
theorem dX7_spare_23 : decode cX7_spare 23 = .ok (.ireturn, 1) := by decide +kernel
theorem dX7_lacks_0 : decode cX7_lacks 0 = .ok (.aload_n 0, 1) := by decide +kernel
theorem dX7_lacks_1 : decode cX7_lacks 1 = .ok (.iload_n 1, 1) := by decide +kernel
theorem dX7_lacks_2 : decode cX7_lacks 2 = .ok (.invokevirtual 82, 3) := by decide +kernel
theorem dX7_lacks_5 : decode cX7_lacks 5 = .ok (.ifCond .eq 11, 3) := by decide +kernel
theorem dX7_lacks_8 : decode cX7_lacks 8 = .ok (.aload_n 0, 1) := by decide +kernel
theorem dX7_lacks_9 : decode cX7_lacks 9 = .ok (.iload_n 1, 1) := by decide +kernel
theorem dX7_lacks_10 : decode cX7_lacks 10 = .ok (.invokevirtual 148, 3) := by decide +kernel
theorem dX7_lacks_13 : decode cX7_lacks 13 = .ok (.goto 5, 3) := by decide +kernel
theorem dX7_lacks_16 : decode cX7_lacks 16 = .ok (.ldc 28, 2) := by decide +kernel
theorem dX7_lacks_18 : decode cX7_lacks 18 = .ok (.ireturn, 1) := by decide +kernel
theorem dX7_bestTrain_0 : decode cX7_bestTrain 0 = .ok (.iload_n 1, 1) := by decide +kernel
theorem dX7_bestTrain_1 : decode cX7_bestTrain 1 = .ok (.iconst 0, 1) := by decide +kernel
theorem dX7_bestTrain_2 : decode cX7_bestTrain 2 = .ok (.iconst 2, 1) := by decide +kernel
theorem dX7_bestTrain_3 : decode cX7_bestTrain 3 = .ok (.invokestatic 36, 3) := by decide +kernel
theorem dX7_bestTrain_6 : decode cX7_bestTrain 6 = .ok (.ifCond .ne 6, 3) := by decide +kernel
theorem dX7_bestTrain_9 : decode cX7_bestTrain 9 = .ok (.ldc 28, 2) := by decide +kernel
theorem dX7_bestTrain_11 : decode cX7_bestTrain 11 = .ok (.ireturn, 1) := by decide +kernel
theorem dX7_bestTrain_12 : decode cX7_bestTrain 12 = .ok (.iconst (-1), 1) := by decide +kernel
theorem dX7_bestTrain_13 : decode cX7_bestTrain 13 = .ok (.istore_n 2, 1) := by decide +kernel
theorem dX7_bestTrain_14 : decode cX7_bestTrain 14 = .ok (.iconst 1, 1) := by decide +kernel
theorem dX7_bestTrain_15 : decode cX7_bestTrain 15 = .ok (.istore_n 3, 1) := by decide +kernel
theorem dX7_bestTrain_16 : decode cX7_bestTrain 16 = .ok (.iload_n 3, 1) := by decide +kernel
theorem dX7_bestTrain_17 : decode cX7_bestTrain 17 = .ok (.aload_n 0, 1) := by decide +kernel
theorem dX7_bestTrain_18 : decode cX7_bestTrain 18 = .ok (.getfield 7, 3) := by decide +kernel
theorem dX7_bestTrain_21 : decode cX7_bestTrain 21 = .ok (.iconst 0, 1) := by decide +kernel
theorem dX7_bestTrain_22 : decode cX7_bestTrain 22 = .ok (.iaload, 1) := by decide +kernel
theorem dX7_bestTrain_23 : decode cX7_bestTrain 23 = .ok (.if_icmp .gt 36, 3) := by decide +kernel
theorem dX7_bestTrain_26 : decode cX7_bestTrain 26 = .ok (.aload_n 0, 1) := by decide +kernel
theorem dX7_bestTrain_27 : decode cX7_bestTrain 27 = .ok (.iload_n 3, 1) := by decide +kernel
theorem dX7_bestTrain_28 : decode cX7_bestTrain 28 = .ok (.invokevirtual 148, 3) := by decide +kernel
theorem dX7_bestTrain_31 : decode cX7_bestTrain 31 = .ok (.iload_n 2, 1) := by decide +kernel
theorem dX7_bestTrain_32 : decode cX7_bestTrain 32 = .ok (.ifCond .ge 7, 3) := by decide +kernel
theorem dX7_bestTrain_35 : decode cX7_bestTrain 35 = .ok (.iconst 0, 1) := by decide +kernel
theorem dX7_bestTrain_36 : decode cX7_bestTrain 36 = .ok (.goto 8, 3) := by decide +kernel
theorem dX7_bestTrain_39 : decode cX7_bestTrain 39 = .ok (.aload_n 0, 1) := by decide +kernel
theorem dX7_bestTrain_40 : decode cX7_bestTrain 40 = .ok (.iload_n 2, 1) := by decide +kernel
theorem dX7_bestTrain_41 : decode cX7_bestTrain 41 = .ok (.invokevirtual 148, 3) := by decide +kernel
theorem dX7_bestTrain_44 : decode cX7_bestTrain 44 = .ok (.if_icmp .le 7, 3) := by decide +kernel
theorem dX7_bestTrain_47 : decode cX7_bestTrain 47 = .ok (.iload_n 3, 1) := by decide +kernel
theorem dX7_bestTrain_48 : decode cX7_bestTrain 48 = .ok (.goto 4, 3) := by decide +kernel
theorem dX7_bestTrain_51 : decode cX7_bestTrain 51 = .ok (.iload_n 2, 1) := by decide +kernel
theorem dX7_bestTrain_52 : decode cX7_bestTrain 52 = .ok (.istore_n 2, 1) := by decide +kernel
theorem dX7_bestTrain_53 : decode cX7_bestTrain 53 = .ok (.iinc 3 1, 3) := by decide +kernel
theorem dX7_bestTrain_56 : decode cX7_bestTrain 56 = .ok (.goto (-40), 3) := by decide +kernel
theorem dX7_bestTrain_59 : decode cX7_bestTrain 59 = .ok (.iconst (-1), 1) := by decide +kernel
theorem dX7_bestTrain_60 : decode cX7_bestTrain 60 = .ok (.istore_n 3, 1) := by decide +kernel
theorem dX7_bestTrain_61 : decode cX7_bestTrain 61 = .ok (.iconst 0, 1) := by decide +kernel
theorem dX7_bestTrain_62 : decode cX7_bestTrain 62 = .ok (.istore 4, 2) := by decide +kernel
theorem dX7_bestTrain_64 : decode cX7_bestTrain 64 = .ok (.iload 4, 2) := by decide +kernel
theorem dX7_bestTrain_66 : decode cX7_bestTrain 66 = .ok (.aload_n 0, 1) := by decide +kernel
theorem dX7_bestTrain_67 : decode cX7_bestTrain 67 = .ok (.getfield 7, 3) := by decide +kernel
theorem dX7_bestTrain_70 : decode cX7_bestTrain 70 = .ok (.iconst 0, 1) := by decide +kernel
theorem dX7_bestTrain_71 : decode cX7_bestTrain 71 = .ok (.iaload, 1) := by decide +kernel
theorem dX7_bestTrain_72 : decode cX7_bestTrain 72 = .ok (.if_icmp .gt 81, 3) := by decide +kernel
theorem dX7_bestTrain_75 : decode cX7_bestTrain 75 = .ok (.iload_n 2, 1) := by decide +kernel
theorem dX7_bestTrain_76 : decode cX7_bestTrain 76 = .ok (.ifCond .lt 77, 3) := by decide +kernel
theorem dX7_bestTrain_79 : decode cX7_bestTrain 79 = .ok (.iload 4, 2) := by decide +kernel
theorem dX7_bestTrain_81 : decode cX7_bestTrain 81 = .ok (.iload_n 2, 1) := by decide +kernel
theorem dX7_bestTrain_82 : decode cX7_bestTrain 82 = .ok (.if_icmp .eq 16, 3) := by decide +kernel
theorem dX7_bestTrain_85 : decode cX7_bestTrain 85 = .ok (.aload_n 0, 1) := by decide +kernel
theorem dX7_bestTrain_86 : decode cX7_bestTrain 86 = .ok (.iload 4, 2) := by decide +kernel
theorem dX7_bestTrain_88 : decode cX7_bestTrain 88 = .ok (.invokevirtual 151, 3) := by decide +kernel
theorem dX7_bestTrain_91 : decode cX7_bestTrain 91 = .ok (.ifCond .le 7, 3) := by decide +kernel
theorem dX7_bestTrain_94 : decode cX7_bestTrain 94 = .ok (.iconst 1, 1) := by decide +kernel
theorem dX7_bestTrain_95 : decode cX7_bestTrain 95 = .ok (.goto 4, 3) := by decide +kernel
theorem dX7_bestTrain_98 : decode cX7_bestTrain 98 = .ok (.iconst 0, 1) := by decide +kernel
theorem dX7_bestTrain_99 : decode cX7_bestTrain 99 = .ok (.istore 5, 2) := by decide +kernel
theorem dX7_bestTrain_101 : decode cX7_bestTrain 101 = .ok (.iload 5, 2) := by decide +kernel
theorem dX7_bestTrain_103 : decode cX7_bestTrain 103 = .ok (.ifCond .eq 42, 3) := by decide +kernel
theorem dX7_bestTrain_106 : decode cX7_bestTrain 106 = .ok (.iload_n 3, 1) := by decide +kernel
theorem dX7_bestTrain_107 : decode cX7_bestTrain 107 = .ok (.ifCond .lt 33, 3) := by decide +kernel
theorem dX7_bestTrain_110 : decode cX7_bestTrain 110 = .ok (.aload_n 0, 1) := by decide +kernel
theorem dX7_bestTrain_111 : decode cX7_bestTrain 111 = .ok (.getfield 7, 3) := by decide +kernel
theorem dX7_bestTrain_114 : decode cX7_bestTrain 114 = .ok (.bipush 14, 2) := by decide +kernel
theorem dX7_bestTrain_116 : decode cX7_bestTrain 116 = .ok (.iconst 5, 1) := by decide +kernel
theorem dX7_bestTrain_117 : decode cX7_bestTrain 117 = .ok (.iload 4, 2) := by decide +kernel
theorem dX7_bestTrain_119 : decode cX7_bestTrain 119 = .ok (.imul, 1) := by decide +kernel
theorem dX7_bestTrain_120 : decode cX7_bestTrain 120 = .ok (.iadd, 1) := by decide +kernel
theorem dX7_bestTrain_121 : decode cX7_bestTrain 121 = .ok (.iload_n 2, 1) := by decide +kernel
theorem dX7_bestTrain_122 : decode cX7_bestTrain 122 = .ok (.iadd, 1) := by decide +kernel
theorem dX7_bestTrain_123 : decode cX7_bestTrain 123 = .ok (.iaload, 1) := by decide +kernel
theorem dX7_bestTrain_124 : decode cX7_bestTrain 124 = .ok (.aload_n 0, 1) := by decide +kernel
theorem dX7_bestTrain_125 : decode cX7_bestTrain 125 = .ok (.getfield 7, 3) := by decide +kernel
theorem dX7_bestTrain_128 : decode cX7_bestTrain 128 = .ok (.bipush 14, 2) := by decide +kernel
theorem dX7_bestTrain_130 : decode cX7_bestTrain 130 = .ok (.iconst 5, 1) := by decide +kernel
theorem dX7_bestTrain_131 : decode cX7_bestTrain 131 = .ok (.iload_n 3, 1) := by decide +kernel
theorem dX7_bestTrain_132 : decode cX7_bestTrain 132 = .ok (.imul, 1) := by decide +kernel
theorem dX7_bestTrain_133 : decode cX7_bestTrain 133 = .ok (.iadd, 1) := by decide +kernel
theorem dX7_bestTrain_134 : decode cX7_bestTrain 134 = .ok (.iload_n 2, 1) := by decide +kernel
theorem dX7_bestTrain_135 : decode cX7_bestTrain 135 = .ok (.iadd, 1) := by decide +kernel
theorem dX7_bestTrain_136 : decode cX7_bestTrain 136 = .ok (.iaload, 1) := by decide +kernel
theorem dX7_bestTrain_137 : decode cX7_bestTrain 137 = .ok (.if_icmp .ge 8, 3) := by decide +kernel
theorem dX7_bestTrain_140 : decode cX7_bestTrain 140 = .ok (.iload 4, 2) := by decide +kernel
theorem dX7_bestTrain_142 : decode cX7_bestTrain 142 = .ok (.goto 4, 3) := by decide +kernel
theorem dX7_bestTrain_145 : decode cX7_bestTrain 145 = .ok (.iload_n 3, 1) := by decide +kernel
theorem dX7_bestTrain_146 : decode cX7_bestTrain 146 = .ok (.istore_n 3, 1) := by decide +kernel
theorem dX7_bestTrain_147 : decode cX7_bestTrain 147 = .ok (.iinc 4 1, 3) := by decide +kernel
theorem dX7_bestTrain_150 : decode cX7_bestTrain 150 = .ok (.goto (-86), 3) := by decide +kernel
theorem dX7_bestTrain_153 : decode cX7_bestTrain 153 = .ok (.iload_n 3, 1) := by decide +kernel
theorem dX7_bestTrain_154 : decode cX7_bestTrain 154 = .ok (.ifCond .ge 6, 3) := by decide +kernel
theorem dX7_bestTrain_157 : decode cX7_bestTrain 157 = .ok (.ldc 132, 2) := by decide +kernel
theorem dX7_bestTrain_159 : decode cX7_bestTrain 159 = .ok (.ireturn, 1) := by decide +kernel
theorem dX7_bestTrain_160 : decode cX7_bestTrain 160 = .ok (.aload_n 0, 1) := by decide +kernel
theorem dX7_bestTrain_161 : decode cX7_bestTrain 161 = .ok (.iload_n 2, 1) := by decide +kernel
theorem dX7_bestTrain_162 : decode cX7_bestTrain 162 = .ok (.invokevirtual 148, 3) := by decide +kernel
theorem dX7_bestTrain_165 : decode cX7_bestTrain 165 = .ok (.aload_n 0, 1) := by decide +kernel
theorem dX7_bestTrain_166 : decode cX7_bestTrain 166 = .ok (.iload_n 3, 1) := by decide +kernel
theorem dX7_bestTrain_167 : decode cX7_bestTrain 167 = .ok (.invokevirtual 151, 3) := by decide +kernel
theorem dX7_bestTrain_170 : decode cX7_bestTrain 170 = .ok (.if_icmp .ge 11, 3) := by decide +kernel
theorem dX7_bestTrain_173 : decode cX7_bestTrain 173 = .ok (.aload_n 0, 1) := by decide +kernel
theorem dX7_bestTrain_174 : decode cX7_bestTrain 174 = .ok (.iload_n 2, 1) := by decide +kernel
theorem dX7_bestTrain_175 : decode cX7_bestTrain 175 = .ok (.invokevirtual 148, 3) := by decide +kernel
theorem dX7_bestTrain_178 : decode cX7_bestTrain 178 = .ok (.goto 8, 3) := by decide +kernel
theorem dX7_bestTrain_181 : decode cX7_bestTrain 181 = .ok (.aload_n 0, 1) := by decide +kernel
theorem dX7_bestTrain_182 : decode cX7_bestTrain 182 = .ok (.iload_n 3, 1) := by decide +kernel
theorem dX7_bestTrain_183 : decode cX7_bestTrain 183 = .ok (.invokevirtual 151, 3) := by decide +kernel
theorem dX7_bestTrain_186 : decode cX7_bestTrain 186 = .ok (.istore 4, 2) := by decide +kernel
theorem dX7_bestTrain_188 : decode cX7_bestTrain 188 = .ok (.iload_n 1, 1) := by decide +kernel
theorem dX7_bestTrain_189 : decode cX7_bestTrain 189 = .ok (.ifCond .ne 7, 3) := by decide +kernel
theorem dX7_bestTrain_192 : decode cX7_bestTrain 192 = .ok (.iload_n 3, 1) := by decide +kernel
theorem dX7_bestTrain_193 : decode cX7_bestTrain 193 = .ok (.goto 26, 3) := by decide +kernel
theorem dX7_bestTrain_196 : decode cX7_bestTrain 196 = .ok (.iload_n 1, 1) := by decide +kernel
theorem dX7_bestTrain_197 : decode cX7_bestTrain 197 = .ok (.iconst 1, 1) := by decide +kernel
theorem dX7_bestTrain_198 : decode cX7_bestTrain 198 = .ok (.if_icmp .ne 7, 3) := by decide +kernel
theorem dX7_bestTrain_201 : decode cX7_bestTrain 201 = .ok (.iload_n 2, 1) := by decide +kernel
theorem dX7_bestTrain_202 : decode cX7_bestTrain 202 = .ok (.goto 17, 3) := by decide +kernel
theorem dX7_bestTrain_205 : decode cX7_bestTrain 205 = .ok (.iload 4, 2) := by decide +kernel
theorem dX7_bestTrain_207 : decode cX7_bestTrain 207 = .ok (.bipush 8, 2) := by decide +kernel
theorem dX7_bestTrain_209 : decode cX7_bestTrain 209 = .ok (.if_icmp .le 8, 3) := by decide +kernel
theorem dX7_bestTrain_212 : decode cX7_bestTrain 212 = .ok (.bipush 8, 2) := by decide +kernel
theorem dX7_bestTrain_214 : decode cX7_bestTrain 214 = .ok (.goto 5, 3) := by decide +kernel
theorem dX7_bestTrain_217 : decode cX7_bestTrain 217 = .ok (.iload 4, 2) := by decide +kernel
theorem dX7_bestTrain_219 : decode cX7_bestTrain 219 = .ok (.ireturn, 1) := by decide +kernel
theorem dX7_share_0 : decode cX7_share 0 = .ok (.aload_n 0, 1) := by decide +kernel
theorem dX7_share_1 : decode cX7_share 1 = .ok (.iload_n 1, 1) := by decide +kernel
theorem dX7_share_2 : decode cX7_share 2 = .ok (.invokevirtual 82, 3) := by decide +kernel
theorem dX7_share_5 : decode cX7_share 5 = .ok (.ifCond .ne 6, 3) := by decide +kernel
theorem dX7_share_8 : decode cX7_share 8 = .ok (.ldc 28, 2) := by decide +kernel
theorem dX7_share_10 : decode cX7_share 10 = .ok (.ireturn, 1) := by decide +kernel
theorem dX7_share_11 : decode cX7_share 11 = .ok (.iconst 0, 1) := by decide +kernel
theorem dX7_share_12 : decode cX7_share 12 = .ok (.istore_n 2, 1) := by decide +kernel
theorem dX7_share_13 : decode cX7_share 13 = .ok (.iconst 0, 1) := by decide +kernel
theorem dX7_share_14 : decode cX7_share 14 = .ok (.istore_n 3, 1) := by decide +kernel
theorem dX7_share_15 : decode cX7_share 15 = .ok (.iconst 0, 1) := by decide +kernel
theorem dX7_share_16 : decode cX7_share 16 = .ok (.istore 4, 2) := by decide +kernel
theorem dX7_share_18 : decode cX7_share 18 = .ok (.iload 4, 2) := by decide +kernel
theorem dX7_share_20 : decode cX7_share 20 = .ok (.aload_n 0, 1) := by decide +kernel
theorem dX7_share_21 : decode cX7_share 21 = .ok (.getfield 7, 3) := by decide +kernel
theorem dX7_share_24 : decode cX7_share 24 = .ok (.iconst 1, 1) := by decide +kernel
theorem dX7_share_25 : decode cX7_share 25 = .ok (.iaload, 1) := by decide +kernel
theorem dX7_share_26 : decode cX7_share 26 = .ok (.if_icmp .ge 59, 3) := by decide +kernel
theorem dX7_share_29 : decode cX7_share 29 = .ok (.aload_n 0, 1) := by decide +kernel
theorem dX7_share_30 : decode cX7_share 30 = .ok (.iload 4, 2) := by decide +kernel
theorem dX7_share_32 : decode cX7_share 32 = .ok (.iconst 0, 1) := by decide +kernel
theorem dX7_share_33 : decode cX7_share 33 = .ok (.invokevirtual 40, 3) := by decide +kernel
theorem dX7_share_36 : decode cX7_share 36 = .ok (.iload_n 1, 1) := by decide +kernel
theorem dX7_share_37 : decode cX7_share 37 = .ok (.if_icmp .ne 7, 3) := by decide +kernel
theorem dX7_share_40 : decode cX7_share 40 = .ok (.iconst 1, 1) := by decide +kernel
theorem dX7_share_41 : decode cX7_share 41 = .ok (.goto 4, 3) := by decide +kernel
theorem dX7_share_44 : decode cX7_share 44 = .ok (.iconst 0, 1) := by decide +kernel
theorem dX7_share_45 : decode cX7_share 45 = .ok (.istore 5, 2) := by decide +kernel
theorem dX7_share_47 : decode cX7_share 47 = .ok (.iload_n 2, 1) := by decide +kernel
theorem dX7_share_48 : decode cX7_share 48 = .ok (.iload 5, 2) := by decide +kernel
theorem dX7_share_50 : decode cX7_share 50 = .ok (.ifCond .eq 7, 3) := by decide +kernel
theorem dX7_share_53 : decode cX7_share 53 = .ok (.iconst 1, 1) := by decide +kernel
theorem dX7_share_54 : decode cX7_share 54 = .ok (.goto 4, 3) := by decide +kernel
theorem dX7_share_57 : decode cX7_share 57 = .ok (.iconst 0, 1) := by decide +kernel
theorem dX7_share_58 : decode cX7_share 58 = .ok (.iadd, 1) := by decide +kernel
theorem dX7_share_59 : decode cX7_share 59 = .ok (.istore_n 2, 1) := by decide +kernel
theorem dX7_share_60 : decode cX7_share 60 = .ok (.iload_n 3, 1) := by decide +kernel
theorem dX7_share_61 : decode cX7_share 61 = .ok (.iload 5, 2) := by decide +kernel
theorem dX7_share_63 : decode cX7_share 63 = .ok (.ifCond .eq 13, 3) := by decide +kernel
theorem dX7_share_66 : decode cX7_share 66 = .ok (.aload_n 0, 1) := by decide +kernel
theorem dX7_share_67 : decode cX7_share 67 = .ok (.iload 4, 2) := by decide +kernel
theorem dX7_share_69 : decode cX7_share 69 = .ok (.iconst 2, 1) := by decide +kernel
theorem dX7_share_70 : decode cX7_share 70 = .ok (.invokevirtual 40, 3) := by decide +kernel
theorem dX7_share_73 : decode cX7_share 73 = .ok (.goto 4, 3) := by decide +kernel
theorem dX7_share_76 : decode cX7_share 76 = .ok (.iconst 0, 1) := by decide +kernel
theorem dX7_share_77 : decode cX7_share 77 = .ok (.iadd, 1) := by decide +kernel
theorem dX7_share_78 : decode cX7_share 78 = .ok (.istore_n 3, 1) := by decide +kernel
theorem dX7_share_79 : decode cX7_share 79 = .ok (.iinc 4 1, 3) := by decide +kernel
theorem dX7_share_82 : decode cX7_share 82 = .ok (.goto (-64), 3) := by decide +kernel
theorem dX7_share_85 : decode cX7_share 85 = .ok (.iload_n 2, 1) := by decide +kernel
theorem dX7_share_86 : decode cX7_share 86 = .ok (.ifCond .ne 6, 3) := by decide +kernel
theorem dX7_share_89 : decode cX7_share 89 = .ok (.ldc 132, 2) := by decide +kernel
theorem dX7_share_91 : decode cX7_share 91 = .ok (.ireturn, 1) := by decide +kernel
theorem dX7_share_92 : decode cX7_share 92 = .ok (.iload_n 3, 1) := by decide +kernel
theorem dX7_share_93 : decode cX7_share 93 = .ok (.i2f, 1) := by decide +kernel
theorem dX7_share_94 : decode cX7_share 94 = .ok (.fstore 4, 2) := by decide +kernel
theorem dX7_share_96 : decode cX7_share 96 = .ok (.iload_n 2, 1) := by decide +kernel
theorem dX7_share_97 : decode cX7_share 97 = .ok (.i2f, 1) := by decide +kernel
theorem dX7_share_98 : decode cX7_share 98 = .ok (.fstore 5, 2) := by decide +kernel
theorem dX7_share_100 : decode cX7_share 100 = .ok (.fload 4, 2) := by decide +kernel
theorem dX7_share_102 : decode cX7_share 102 = .ok (.fload 5, 2) := by decide +kernel
theorem dX7_share_104 : decode cX7_share 104 = .ok (.fdiv, 1) := by decide +kernel
theorem dX7_share_105 : decode cX7_share 105 = .ok (.invokestatic 154, 3) := by decide +kernel
theorem dX7_share_108 : decode cX7_share 108 = .ok (.ireturn, 1) := by decide +kernel
theorem dX7_wagons_0 : decode cX7_wagons 0 = .ok (.iconst 0, 1) := by decide +kernel
theorem dX7_wagons_1 : decode cX7_wagons 1 = .ok (.istore_n 2, 1) := by decide +kernel
theorem dX7_wagons_2 : decode cX7_wagons 2 = .ok (.iconst 0, 1) := by decide +kernel
theorem dX7_wagons_3 : decode cX7_wagons 3 = .ok (.istore_n 3, 1) := by decide +kernel
theorem dX7_wagons_4 : decode cX7_wagons 4 = .ok (.iload_n 3, 1) := by decide +kernel
theorem dX7_wagons_5 : decode cX7_wagons 5 = .ok (.aload_n 0, 1) := by decide +kernel
theorem dX7_wagons_6 : decode cX7_wagons 6 = .ok (.getfield 7, 3) := by decide +kernel
theorem dX7_wagons_9 : decode cX7_wagons 9 = .ok (.iconst 1, 1) := by decide +kernel
theorem dX7_wagons_10 : decode cX7_wagons 10 = .ok (.iaload, 1) := by decide +kernel
theorem dX7_wagons_11 : decode cX7_wagons 11 = .ok (.if_icmp .ge 51, 3) := by decide +kernel
theorem dX7_wagons_14 : decode cX7_wagons 14 = .ok (.aload_n 0, 1) := by decide +kernel
theorem dX7_wagons_15 : decode cX7_wagons 15 = .ok (.iload_n 3, 1) := by decide +kernel
theorem dX7_wagons_16 : decode cX7_wagons 16 = .ok (.iconst 3, 1) := by decide +kernel
theorem dX7_wagons_17 : decode cX7_wagons 17 = .ok (.invokevirtual 40, 3) := by decide +kernel
theorem dX7_wagons_20 : decode cX7_wagons 20 = .ok (.ifCond .ne 12, 3) := by decide +kernel
theorem dX7_wagons_23 : decode cX7_wagons 23 = .ok (.aload_n 0, 1) := by decide +kernel
theorem dX7_wagons_24 : decode cX7_wagons 24 = .ok (.iload_n 3, 1) := by decide +kernel
theorem dX7_wagons_25 : decode cX7_wagons 25 = .ok (.iconst 2, 1) := by decide +kernel
theorem dX7_wagons_26 : decode cX7_wagons 26 = .ok (.invokevirtual 40, 3) := by decide +kernel
theorem dX7_wagons_29 : decode cX7_wagons 29 = .ok (.goto 11, 3) := by decide +kernel
theorem dX7_wagons_32 : decode cX7_wagons 32 = .ok (.iconst 1, 1) := by decide +kernel
theorem dX7_wagons_33 : decode cX7_wagons 33 = .ok (.aload_n 0, 1) := by decide +kernel
theorem dX7_wagons_34 : decode cX7_wagons 34 = .ok (.iload_n 3, 1) := by decide +kernel
theorem dX7_wagons_35 : decode cX7_wagons 35 = .ok (.iconst 3, 1) := by decide +kernel
theorem dX7_wagons_36 : decode cX7_wagons 36 = .ok (.invokevirtual 40, 3) := by decide +kernel
theorem dX7_wagons_39 : decode cX7_wagons 39 = .ok (.iadd, 1) := by decide +kernel
theorem dX7_wagons_40 : decode cX7_wagons 40 = .ok (.istore 4, 2) := by decide +kernel
theorem dX7_wagons_42 : decode cX7_wagons 42 = .ok (.iload_n 2, 1) := by decide +kernel
theorem dX7_wagons_43 : decode cX7_wagons 43 = .ok (.iload 4, 2) := by decide +kernel
theorem dX7_wagons_45 : decode cX7_wagons 45 = .ok (.iload_n 1, 1) := by decide +kernel
theorem dX7_wagons_46 : decode cX7_wagons 46 = .ok (.if_icmp .ne 7, 3) := by decide +kernel
theorem dX7_wagons_49 : decode cX7_wagons 49 = .ok (.iconst 1, 1) := by decide +kernel
theorem dX7_wagons_50 : decode cX7_wagons 50 = .ok (.goto 4, 3) := by decide +kernel
theorem dX7_wagons_53 : decode cX7_wagons 53 = .ok (.iconst 0, 1) := by decide +kernel
theorem dX7_wagons_54 : decode cX7_wagons 54 = .ok (.iadd, 1) := by decide +kernel
theorem dX7_wagons_55 : decode cX7_wagons 55 = .ok (.istore_n 2, 1) := by decide +kernel
theorem dX7_wagons_56 : decode cX7_wagons 56 = .ok (.iinc 3 1, 3) := by decide +kernel
theorem dX7_wagons_59 : decode cX7_wagons 59 = .ok (.goto (-55), 3) := by decide +kernel
theorem dX7_wagons_62 : decode cX7_wagons 62 = .ok (.iload_n 2, 1) := by decide +kernel
theorem dX7_wagons_63 : decode cX7_wagons 63 = .ok (.ireturn, 1) := by decide +kernel
theorem dX7_sum_0 : decode cX7_sum 0 = .ok (.iconst 0, 1) := by decide +kernel
theorem dX7_sum_1 : decode cX7_sum 1 = .ok (.istore_n 2, 1) := by decide +kernel
theorem dX7_sum_2 : decode cX7_sum 2 = .ok (.iconst 0, 1) := by decide +kernel
theorem dX7_sum_3 : decode cX7_sum 3 = .ok (.istore_n 3, 1) := by decide +kernel
theorem dX7_sum_4 : decode cX7_sum 4 = .ok (.iload_n 3, 1) := by decide +kernel
theorem dX7_sum_5 : decode cX7_sum 5 = .ok (.aload_n 0, 1) := by decide +kernel
theorem dX7_sum_6 : decode cX7_sum 6 = .ok (.getfield 7, 3) := by decide +kernel
theorem dX7_sum_9 : decode cX7_sum 9 = .ok (.iconst 0, 1) := by decide +kernel
theorem dX7_sum_10 : decode cX7_sum 10 = .ok (.iaload, 1) := by decide +kernel
theorem dX7_sum_11 : decode cX7_sum 11 = .ok (.if_icmp .gt 18, 3) := by decide +kernel
theorem dX7_sum_14 : decode cX7_sum 14 = .ok (.iload_n 2, 1) := by decide +kernel
theorem dX7_sum_15 : decode cX7_sum 15 = .ok (.aload_n 0, 1) := by decide +kernel
theorem dX7_sum_16 : decode cX7_sum 16 = .ok (.iload_n 3, 1) := by decide +kernel
theorem dX7_sum_17 : decode cX7_sum 17 = .ok (.iload_n 1, 1) := by decide +kernel
theorem dX7_sum_18 : decode cX7_sum 18 = .ok (.invokevirtual 48, 3) := by decide +kernel
theorem dX7_sum_21 : decode cX7_sum 21 = .ok (.iadd, 1) := by decide +kernel
theorem dX7_sum_22 : decode cX7_sum 22 = .ok (.istore_n 2, 1) := by decide +kernel
theorem dX7_sum_23 : decode cX7_sum 23 = .ok (.iinc 3 1, 3) := by decide +kernel
theorem dX7_sum_26 : decode cX7_sum 26 = .ok (.goto (-22), 3) := by decide +kernel
theorem dX7_sum_29 : decode cX7_sum 29 = .ok (.iload_n 2, 1) := by decide +kernel
theorem dX7_sum_30 : decode cX7_sum 30 = .ok (.ireturn, 1) := by decide +kernel
theorem dX7_due_0 : decode cX7_due 0 = .ok (.iconst 0, 1) := by decide +kernel
theorem dX7_due_1 : decode cX7_due 1 = .ok (.istore_n 1, 1) := by decide +kernel
theorem dX7_due_2 : decode cX7_due 2 = .ok (.iconst 0, 1) := by decide +kernel
theorem dX7_due_3 : decode cX7_due 3 = .ok (.istore_n 2, 1) := by decide +kernel
theorem dX7_due_4 : decode cX7_due 4 = .ok (.iload_n 2, 1) := by decide +kernel
theorem dX7_due_5 : decode cX7_due 5 = .ok (.aload_n 0, 1) := by decide +kernel
theorem dX7_due_6 : decode cX7_due 6 = .ok (.getfield 7, 3) := by decide +kernel
theorem dX7_due_9 : decode cX7_due 9 = .ok (.iconst 1, 1) := by decide +kernel
theorem dX7_due_10 : decode cX7_due 10 = .ok (.iaload, 1) := by decide +kernel
theorem dX7_due_11 : decode cX7_due 11 = .ok (.if_icmp .ge 25, 3) := by decide +kernel
theorem dX7_due_14 : decode cX7_due 14 = .ok (.iload_n 1, 1) := by decide +kernel
theorem dX7_due_15 : decode cX7_due 15 = .ok (.aload_n 0, 1) := by decide +kernel
theorem dX7_due_16 : decode cX7_due 16 = .ok (.iload_n 2, 1) := by decide +kernel
theorem dX7_due_17 : decode cX7_due 17 = .ok (.invokevirtual 44, 3) := by decide +kernel
theorem dX7_due_20 : decode cX7_due 20 = .ok (.ifCond .eq 7, 3) := by decide +kernel
theorem dX7_due_23 : decode cX7_due 23 = .ok (.iconst 1, 1) := by decide +kernel
theorem dX7_due_24 : decode cX7_due 24 = .ok (.goto 4, 3) := by decide +kernel
theorem dX7_due_27 : decode cX7_due 27 = .ok (.iconst 0, 1) := by decide +kernel
theorem dX7_due_28 : decode cX7_due 28 = .ok (.iadd, 1) := by decide +kernel
theorem dX7_due_29 : decode cX7_due 29 = .ok (.istore_n 1, 1) := by decide +kernel
theorem dX7_due_30 : decode cX7_due 30 = .ok (.iinc 2 1, 3) := by decide +kernel
theorem dX7_due_33 : decode cX7_due 33 = .ok (.goto (-29), 3) := by decide +kernel
theorem dX7_due_36 : decode cX7_due 36 = .ok (.iload_n 1, 1) := by decide +kernel
theorem dX7_due_37 : decode cX7_due 37 = .ok (.ireturn, 1) := by decide +kernel
theorem dX7_tonnes_0 : decode cX7_tonnes 0 = .ok (.aload_n 0, 1) := by decide +kernel
theorem dX7_tonnes_1 : decode cX7_tonnes 1 = .ok (.iconst 0, 1) := by decide +kernel
theorem dX7_tonnes_2 : decode cX7_tonnes 2 = .ok (.invokevirtual 160, 3) := by decide +kernel
theorem dX7_tonnes_5 : decode cX7_tonnes 5 = .ok (.istore_n 1, 1) := by decide +kernel
theorem dX7_tonnes_6 : decode cX7_tonnes 6 = .ok (.iconst 0, 1) := by decide +kernel
theorem dX7_tonnes_7 : decode cX7_tonnes 7 = .ok (.istore_n 2, 1) := by decide +kernel
theorem dX7_tonnes_8 : decode cX7_tonnes 8 = .ok (.iload_n 2, 1) := by decide +kernel
theorem dX7_tonnes_9 : decode cX7_tonnes 9 = .ok (.aload_n 0, 1) := by decide +kernel
theorem dX7_tonnes_10 : decode cX7_tonnes 10 = .ok (.getfield 7, 3) := by decide +kernel
theorem dX7_tonnes_13 : decode cX7_tonnes 13 = .ok (.iconst 1, 1) := by decide +kernel
theorem dX7_tonnes_14 : decode cX7_tonnes 14 = .ok (.iaload, 1) := by decide +kernel
theorem dX7_tonnes_15 : decode cX7_tonnes 15 = .ok (.if_icmp .ge 21, 3) := by decide +kernel
theorem dX7_tonnes_18 : decode cX7_tonnes 18 = .ok (.iload_n 1, 1) := by decide +kernel
theorem dX7_tonnes_19 : decode cX7_tonnes 19 = .ok (.bipush 30, 2) := by decide +kernel
theorem dX7_tonnes_21 : decode cX7_tonnes 21 = .ok (.aload_n 0, 1) := by decide +kernel
theorem dX7_tonnes_22 : decode cX7_tonnes 22 = .ok (.iload_n 2, 1) := by decide +kernel
theorem dX7_tonnes_23 : decode cX7_tonnes 23 = .ok (.iconst 2, 1) := by decide +kernel
theorem dX7_tonnes_24 : decode cX7_tonnes 24 = .ok (.invokevirtual 40, 3) := by decide +kernel
theorem dX7_tonnes_27 : decode cX7_tonnes 27 = .ok (.imul, 1) := by decide +kernel
theorem dX7_tonnes_28 : decode cX7_tonnes 28 = .ok (.iadd, 1) := by decide +kernel
theorem dX7_tonnes_29 : decode cX7_tonnes 29 = .ok (.istore_n 1, 1) := by decide +kernel
theorem dX7_tonnes_30 : decode cX7_tonnes 30 = .ok (.iinc 2 1, 3) := by decide +kernel
theorem dX7_tonnes_33 : decode cX7_tonnes 33 = .ok (.goto (-25), 3) := by decide +kernel
theorem dX7_tonnes_36 : decode cX7_tonnes 36 = .ok (.iload_n 1, 1) := by decide +kernel
theorem dX7_tonnes_37 : decode cX7_tonnes 37 = .ok (.ireturn, 1) := by decide +kernel
theorem dX7_count_0 : decode cX7_count 0 = .ok (.iload_n 1, 1) := by decide +kernel
theorem dX7_count_1 : decode cX7_count 1 = .ok (.tableswitch 128 0 14 #[75, 75, 75, 82, 82, 82, 82, 90, 96, 101, 101, 101, 113, 118, 123], 75) := by decide +kernel
theorem dX7_count_76 : decode cX7_count 76 = .ok (.aload_n 0, 1) := by decide +kernel
theorem dX7_count_77 : decode cX7_count 77 = .ok (.getfield 7, 3) := by decide +kernel
theorem dX7_count_80 : decode cX7_count 80 = .ok (.iload_n 1, 1) := by decide +kernel
theorem dX7_count_81 : decode cX7_count 81 = .ok (.iaload, 1) := by decide +kernel
theorem dX7_count_82 : decode cX7_count 82 = .ok (.ireturn, 1) := by decide +kernel
theorem dX7_count_83 : decode cX7_count 83 = .ok (.aload_n 0, 1) := by decide +kernel
theorem dX7_count_84 : decode cX7_count 84 = .ok (.iload_n 1, 1) := by decide +kernel
theorem dX7_count_85 : decode cX7_count 85 = .ok (.iconst 3, 1) := by decide +kernel
theorem dX7_count_86 : decode cX7_count 86 = .ok (.isub, 1) := by decide +kernel
theorem dX7_count_87 : decode cX7_count 87 = .ok (.invokevirtual 163, 3) := by decide +kernel
theorem dX7_count_90 : decode cX7_count 90 = .ok (.ireturn, 1) := by decide +kernel
theorem dX7_count_91 : decode cX7_count 91 = .ok (.aload_n 0, 1) := by decide +kernel
theorem dX7_count_92 : decode cX7_count 92 = .ok (.iconst 2, 1) := by decide +kernel
theorem dX7_count_93 : decode cX7_count 93 = .ok (.invokevirtual 160, 3) := by decide +kernel
theorem dX7_count_96 : decode cX7_count 96 = .ok (.ireturn, 1) := by decide +kernel
theorem dX7_count_97 : decode cX7_count 97 = .ok (.aload_n 0, 1) := by decide +kernel
theorem dX7_count_98 : decode cX7_count 98 = .ok (.invokevirtual 166, 3) := by decide +kernel
theorem dX7_count_101 : decode cX7_count 101 = .ok (.ireturn, 1) := by decide +kernel
theorem dX7_count_102 : decode cX7_count 102 = .ok (.aload_n 0, 1) := by decide +kernel
theorem dX7_count_103 : decode cX7_count 103 = .ok (.getfield 7, 3) := by decide +kernel
theorem dX7_count_106 : decode cX7_count 106 = .ok (.iconst 3, 1) := by decide +kernel
theorem dX7_count_107 : decode cX7_count 107 = .ok (.iload_n 1, 1) := by decide +kernel
theorem dX7_count_108 : decode cX7_count 108 = .ok (.iadd, 1) := by decide +kernel
theorem dX7_count_109 : decode cX7_count 109 = .ok (.bipush 9, 2) := by decide +kernel
theorem dX7_count_111 : decode cX7_count 111 = .ok (.isub, 1) := by decide +kernel
theorem dX7_count_112 : decode cX7_count 112 = .ok (.iaload, 1) := by decide +kernel
theorem dX7_count_113 : decode cX7_count 113 = .ok (.ireturn, 1) := by decide +kernel
theorem dX7_count_114 : decode cX7_count 114 = .ok (.aload_n 0, 1) := by decide +kernel
theorem dX7_count_115 : decode cX7_count 115 = .ok (.invokevirtual 169, 3) := by decide +kernel
theorem dX7_count_118 : decode cX7_count 118 = .ok (.ireturn, 1) := by decide +kernel
theorem dX7_count_119 : decode cX7_count 119 = .ok (.aload_n 0, 1) := by decide +kernel
theorem dX7_count_120 : decode cX7_count 120 = .ok (.getfield 32, 3) := by decide +kernel
theorem dX7_count_123 : decode cX7_count 123 = .ok (.ireturn, 1) := by decide +kernel
theorem dX7_count_124 : decode cX7_count 124 = .ok (.aload_n 0, 1) := by decide +kernel
theorem dX7_count_125 : decode cX7_count 125 = .ok (.getfield 172, 3) := by decide +kernel
theorem dX7_count_128 : decode cX7_count 128 = .ok (.ireturn, 1) := by decide +kernel
theorem dX7_count_129 : decode cX7_count 129 = .ok (.iload_n 1, 1) := by decide +kernel
theorem dX7_count_130 : decode cX7_count 130 = .ok (.bipush 20, 2) := by decide +kernel
theorem dX7_count_132 : decode cX7_count 132 = .ok (.bipush 26, 2) := by decide +kernel
theorem dX7_count_134 : decode cX7_count 134 = .ok (.invokestatic 36, 3) := by decide +kernel
theorem dX7_count_137 : decode cX7_count 137 = .ok (.ifCond .eq 18, 3) := by decide +kernel
theorem dX7_count_140 : decode cX7_count 140 = .ok (.aload_n 0, 1) := by decide +kernel
theorem dX7_count_141 : decode cX7_count 141 = .ok (.getfield 7, 3) := by decide +kernel
theorem dX7_count_144 : decode cX7_count 144 = .ok (.bipush 7, 2) := by decide +kernel
theorem dX7_count_146 : decode cX7_count 146 = .ok (.iload_n 1, 1) := by decide +kernel
theorem dX7_count_147 : decode cX7_count 147 = .ok (.iadd, 1) := by decide +kernel
theorem dX7_count_148 : decode cX7_count 148 = .ok (.bipush 20, 2) := by decide +kernel
theorem dX7_count_150 : decode cX7_count 150 = .ok (.isub, 1) := by decide +kernel
theorem dX7_count_151 : decode cX7_count 151 = .ok (.iaload, 1) := by decide +kernel
theorem dX7_count_152 : decode cX7_count 152 = .ok (.goto 5, 3) := by decide +kernel
theorem dX7_count_155 : decode cX7_count 155 = .ok (.ldc 28, 2) := by decide +kernel
theorem dX7_count_157 : decode cX7_count 157 = .ok (.ireturn, 1) := by decide +kernel
theorem dX7_undo_0 : decode cX7_undo 0 = .ok (.aload_n 0, 1) := by decide +kernel
theorem dX7_undo_1 : decode cX7_undo 1 = .ok (.getfield 32, 3) := by decide +kernel
theorem dX7_undo_4 : decode cX7_undo 4 = .ok (.ifCond .ne 6, 3) := by decide +kernel
theorem dX7_undo_7 : decode cX7_undo 7 = .ok (.ldc 93, 2) := by decide +kernel
theorem dX7_undo_9 : decode cX7_undo 9 = .ok (.ireturn, 1) := by decide +kernel
theorem dX7_undo_10 : decode cX7_undo 10 = .ok (.aload_n 0, 1) := by decide +kernel
theorem dX7_undo_11 : decode cX7_undo 11 = .ok (.dup, 1) := by decide +kernel
theorem dX7_undo_12 : decode cX7_undo 12 = .ok (.getfield 32, 3) := by decide +kernel
theorem dX7_undo_15 : decode cX7_undo 15 = .ok (.iconst 1, 1) := by decide +kernel
theorem dX7_undo_16 : decode cX7_undo 16 = .ok (.isub, 1) := by decide +kernel
theorem dX7_undo_17 : decode cX7_undo 17 = .ok (.putfield 32, 3) := by decide +kernel
theorem dX7_undo_20 : decode cX7_undo 20 = .ok (.iconst 0, 1) := by decide +kernel
theorem dX7_undo_21 : decode cX7_undo 21 = .ok (.istore_n 1, 1) := by decide +kernel
theorem dX7_undo_22 : decode cX7_undo 22 = .ok (.iload_n 1, 1) := by decide +kernel
theorem dX7_undo_23 : decode cX7_undo 23 = .ok (.sipush 269, 3) := by decide +kernel
theorem dX7_undo_26 : decode cX7_undo 26 = .ok (.if_icmp .ge 30, 3) := by decide +kernel
theorem dX7_undo_29 : decode cX7_undo 29 = .ok (.aload_n 0, 1) := by decide +kernel
theorem dX7_undo_30 : decode cX7_undo 30 = .ok (.getfield 7, 3) := by decide +kernel
theorem dX7_undo_33 : decode cX7_undo 33 = .ok (.iload_n 1, 1) := by decide +kernel
theorem dX7_undo_34 : decode cX7_undo 34 = .ok (.aload_n 0, 1) := by decide +kernel
theorem dX7_undo_35 : decode cX7_undo 35 = .ok (.getfield 19, 3) := by decide +kernel
theorem dX7_undo_38 : decode cX7_undo 38 = .ok (.sipush 269, 3) := by decide +kernel
theorem dX7_undo_41 : decode cX7_undo 41 = .ok (.aload_n 0, 1) := by decide +kernel
theorem dX7_undo_42 : decode cX7_undo 42 = .ok (.getfield 32, 3) := by decide +kernel
theorem dX7_undo_45 : decode cX7_undo 45 = .ok (.imul, 1) := by decide +kernel
theorem dX7_undo_46 : decode cX7_undo 46 = .ok (.iload_n 1, 1) := by decide +kernel
theorem dX7_undo_47 : decode cX7_undo 47 = .ok (.iadd, 1) := by decide +kernel
theorem dX7_undo_48 : decode cX7_undo 48 = .ok (.iaload, 1) := by decide +kernel
theorem dX7_undo_49 : decode cX7_undo 49 = .ok (.iastore, 1) := by decide +kernel
theorem dX7_undo_50 : decode cX7_undo 50 = .ok (.iinc 1 1, 3) := by decide +kernel
theorem dX7_undo_53 : decode cX7_undo 53 = .ok (.goto (-31), 3) := by decide +kernel
theorem dX7_undo_56 : decode cX7_undo 56 = .ok (.aload_n 0, 1) := by decide +kernel
theorem dX7_undo_57 : decode cX7_undo 57 = .ok (.getfield 32, 3) := by decide +kernel
theorem dX7_undo_60 : decode cX7_undo 60 = .ok (.ireturn, 1) := by decide +kernel
theorem dX7_type_0 : decode cX7_type 0 = .ok (.iload_n 1, 1) := by decide +kernel
theorem dX7_type_1 : decode cX7_type 1 = .ok (.bipush 32, 2) := by decide +kernel
theorem dX7_type_3 : decode cX7_type 3 = .ok (.bipush 126, 2) := by decide +kernel
theorem dX7_type_5 : decode cX7_type 5 = .ok (.invokestatic 36, 3) := by decide +kernel
theorem dX7_type_8 : decode cX7_type 8 = .ok (.ifCond .ne 6, 3) := by decide +kernel
theorem dX7_type_11 : decode cX7_type 11 = .ok (.ldc 28, 2) := by decide +kernel
theorem dX7_type_13 : decode cX7_type 13 = .ok (.ireturn, 1) := by decide +kernel
theorem dX7_type_14 : decode cX7_type 14 = .ok (.aload_n 0, 1) := by decide +kernel
theorem dX7_type_15 : decode cX7_type 15 = .ok (.getfield 172, 3) := by decide +kernel
theorem dX7_type_18 : decode cX7_type 18 = .ok (.bipush 60, 2) := by decide +kernel
theorem dX7_type_20 : decode cX7_type 20 = .ok (.if_icmp .ne 6, 3) := by decide +kernel
theorem dX7_type_23 : decode cX7_type 23 = .ok (.ldc 85, 2) := by decide +kernel
theorem dX7_type_25 : decode cX7_type 25 = .ok (.ireturn, 1) := by decide +kernel
theorem dX7_type_26 : decode cX7_type 26 = .ok (.aload_n 0, 1) := by decide +kernel
theorem dX7_type_27 : decode cX7_type 27 = .ok (.getfield 22, 3) := by decide +kernel
theorem dX7_type_30 : decode cX7_type 30 = .ok (.aload_n 0, 1) := by decide +kernel
theorem dX7_type_31 : decode cX7_type 31 = .ok (.getfield 172, 3) := by decide +kernel
theorem dX7_type_34 : decode cX7_type 34 = .ok (.iload_n 1, 1) := by decide +kernel
theorem dX7_type_35 : decode cX7_type 35 = .ok (.iastore, 1) := by decide +kernel
theorem dX7_type_36 : decode cX7_type 36 = .ok (.aload_n 0, 1) := by decide +kernel
theorem dX7_type_37 : decode cX7_type 37 = .ok (.dup, 1) := by decide +kernel
theorem dX7_type_38 : decode cX7_type 38 = .ok (.getfield 172, 3) := by decide +kernel
theorem dX7_type_41 : decode cX7_type 41 = .ok (.iconst 1, 1) := by decide +kernel
theorem dX7_type_42 : decode cX7_type 42 = .ok (.iadd, 1) := by decide +kernel
theorem dX7_type_43 : decode cX7_type 43 = .ok (.putfield 172, 3) := by decide +kernel
theorem dX7_type_46 : decode cX7_type 46 = .ok (.aload_n 0, 1) := by decide +kernel
theorem dX7_type_47 : decode cX7_type 47 = .ok (.getfield 172, 3) := by decide +kernel
theorem dX7_type_50 : decode cX7_type 50 = .ok (.ireturn, 1) := by decide +kernel
theorem dX7_clearText_0 : decode cX7_clearText 0 = .ok (.aload_n 0, 1) := by decide +kernel
theorem dX7_clearText_1 : decode cX7_clearText 1 = .ok (.getfield 172, 3) := by decide +kernel
theorem dX7_clearText_4 : decode cX7_clearText 4 = .ok (.istore_n 1, 1) := by decide +kernel
theorem dX7_clearText_5 : decode cX7_clearText 5 = .ok (.aload_n 0, 1) := by decide +kernel
theorem dX7_clearText_6 : decode cX7_clearText 6 = .ok (.iconst 0, 1) := by decide +kernel
theorem dX7_clearText_7 : decode cX7_clearText 7 = .ok (.putfield 172, 3) := by decide +kernel
theorem dX7_clearText_10 : decode cX7_clearText 10 = .ok (.iload_n 1, 1) := by decide +kernel
theorem dX7_clearText_11 : decode cX7_clearText 11 = .ok (.ireturn, 1) := by decide +kernel
theorem dX7_here_0 : decode cX7_here 0 = .ok (.aload_n 0, 1) := by decide +kernel
theorem dX7_here_1 : decode cX7_here 1 = .ok (.getfield 175, 3) := by decide +kernel
theorem dX7_here_4 : decode cX7_here 4 = .ok (.aload_n 0, 1) := by decide +kernel
theorem dX7_here_5 : decode cX7_here 5 = .ok (.getfield 172, 3) := by decide +kernel
theorem dX7_here_8 : decode cX7_here 8 = .ok (.if_icmp .ge 15, 3) := by decide +kernel
theorem dX7_here_11 : decode cX7_here 11 = .ok (.aload_n 0, 1) := by decide +kernel
theorem dX7_here_12 : decode cX7_here 12 = .ok (.getfield 22, 3) := by decide +kernel
theorem dX7_here_15 : decode cX7_here 15 = .ok (.aload_n 0, 1) := by decide +kernel
theorem dX7_here_16 : decode cX7_here 16 = .ok (.getfield 175, 3) := by decide +kernel
theorem dX7_here_19 : decode cX7_here 19 = .ok (.iaload, 1) := by decide +kernel
theorem dX7_here_20 : decode cX7_here 20 = .ok (.goto 4, 3) := by decide +kernel
theorem dX7_here_23 : decode cX7_here 23 = .ok (.iconst (-1), 1) := by decide +kernel
theorem dX7_here_24 : decode cX7_here 24 = .ok (.ireturn, 1) := by decide +kernel
theorem dX7_isDigit_0 : decode cX7_isDigit 0 = .ok (.aload_n 0, 1) := by decide +kernel
theorem dX7_isDigit_1 : decode cX7_isDigit 1 = .ok (.invokevirtual 178, 3) := by decide +kernel
theorem dX7_isDigit_4 : decode cX7_isDigit 4 = .ok (.bipush 48, 2) := by decide +kernel
theorem dX7_isDigit_6 : decode cX7_isDigit 6 = .ok (.bipush 57, 2) := by decide +kernel
theorem dX7_isDigit_8 : decode cX7_isDigit 8 = .ok (.invokestatic 36, 3) := by decide +kernel
theorem dX7_isDigit_11 : decode cX7_isDigit 11 = .ok (.ireturn, 1) := by decide +kernel
theorem dX7_takesSign_0 : decode cX7_takesSign 0 = .ok (.aload_n 0, 1) := by decide +kernel
theorem dX7_takesSign_1 : decode cX7_takesSign 1 = .ok (.aload_n 0, 1) := by decide +kernel
theorem dX7_takesSign_2 : decode cX7_takesSign 2 = .ok (.getfield 181, 3) := by decide +kernel
theorem dX7_takesSign_5 : decode cX7_takesSign 5 = .ok (.ifCond .eq 15, 3) := by decide +kernel
theorem dX7_takesSign_8 : decode cX7_takesSign 8 = .ok (.aload_n 0, 1) := by decide +kernel
theorem dX7_takesSign_9 : decode cX7_takesSign 9 = .ok (.invokevirtual 178, 3) := by decide +kernel
theorem dX7_takesSign_12 : decode cX7_takesSign 12 = .ok (.iload_n 1, 1) := by decide +kernel
theorem dX7_takesSign_13 : decode cX7_takesSign 13 = .ok (.if_icmp .ne 7, 3) := by decide +kernel
theorem dX7_takesSign_16 : decode cX7_takesSign 16 = .ok (.iconst 1, 1) := by decide +kernel
theorem dX7_takesSign_17 : decode cX7_takesSign 17 = .ok (.goto 4, 3) := by decide +kernel
theorem dX7_takesSign_20 : decode cX7_takesSign 20 = .ok (.iconst 0, 1) := by decide +kernel
theorem dX7_takesSign_21 : decode cX7_takesSign 21 = .ok (.putfield 181, 3) := by decide +kernel
theorem dX7_takesSign_24 : decode cX7_takesSign 24 = .ok (.aload_n 0, 1) := by decide +kernel
theorem dX7_takesSign_25 : decode cX7_takesSign 25 = .ok (.dup, 1) := by decide +kernel
theorem dX7_takesSign_26 : decode cX7_takesSign 26 = .ok (.getfield 175, 3) := by decide +kernel
theorem dX7_takesSign_29 : decode cX7_takesSign 29 = .ok (.aload_n 0, 1) := by decide +kernel
theorem dX7_takesSign_30 : decode cX7_takesSign 30 = .ok (.getfield 181, 3) := by decide +kernel
theorem dX7_takesSign_33 : decode cX7_takesSign 33 = .ok (.ifCond .eq 7, 3) := by decide +kernel
theorem dX7_takesSign_36 : decode cX7_takesSign 36 = .ok (.iconst 1, 1) := by decide +kernel
theorem dX7_takesSign_37 : decode cX7_takesSign 37 = .ok (.goto 4, 3) := by decide +kernel
theorem dX7_takesSign_40 : decode cX7_takesSign 40 = .ok (.iconst 0, 1) := by decide +kernel
theorem dX7_takesSign_41 : decode cX7_takesSign 41 = .ok (.iadd, 1) := by decide +kernel
theorem dX7_takesSign_42 : decode cX7_takesSign 42 = .ok (.putfield 175, 3) := by decide +kernel
theorem dX7_takesSign_45 : decode cX7_takesSign 45 = .ok (.return_, 1) := by decide +kernel
theorem dX7_number_0 : decode cX7_number 0 = .ok (.aload_n 0, 1) := by decide +kernel
theorem dX7_number_1 : decode cX7_number 1 = .ok (.aload_n 0, 1) := by decide +kernel
theorem dX7_number_2 : decode cX7_number 2 = .ok (.getfield 181, 3) := by decide +kernel
theorem dX7_number_5 : decode cX7_number 5 = .ok (.ifCond .eq 14, 3) := by decide +kernel
theorem dX7_number_8 : decode cX7_number 8 = .ok (.aload_n 0, 1) := by decide +kernel
theorem dX7_number_9 : decode cX7_number 9 = .ok (.invokevirtual 185, 3) := by decide +kernel
theorem dX7_number_12 : decode cX7_number 12 = .ok (.ifCond .eq 7, 3) := by decide +kernel
theorem dX7_number_15 : decode cX7_number 15 = .ok (.iconst 1, 1) := by decide +kernel
theorem dX7_number_16 : decode cX7_number 16 = .ok (.goto 4, 3) := by decide +kernel
theorem dX7_number_19 : decode cX7_number 19 = .ok (.iconst 0, 1) := by decide +kernel
theorem dX7_number_20 : decode cX7_number 20 = .ok (.putfield 181, 3) := by decide +kernel
theorem dX7_number_23 : decode cX7_number 23 = .ok (.iconst 0, 1) := by decide +kernel
theorem dX7_number_24 : decode cX7_number 24 = .ok (.istore_n 1, 1) := by decide +kernel
theorem dX7_number_25 : decode cX7_number 25 = .ok (.iconst 0, 1) := by decide +kernel
theorem dX7_number_26 : decode cX7_number 26 = .ok (.istore_n 2, 1) := by decide +kernel
theorem dX7_number_27 : decode cX7_number 27 = .ok (.iload_n 2, 1) := by decide +kernel
theorem dX7_number_28 : decode cX7_number 28 = .ok (.iconst 2, 1) := by decide +kernel
theorem dX7_number_29 : decode cX7_number 29 = .ok (.if_icmp .ge 46, 3) := by decide +kernel
theorem dX7_number_32 : decode cX7_number 32 = .ok (.aload_n 0, 1) := by decide +kernel
theorem dX7_number_33 : decode cX7_number 33 = .ok (.getfield 181, 3) := by decide +kernel
theorem dX7_number_36 : decode cX7_number 36 = .ok (.ifCond .eq 39, 3) := by decide +kernel
theorem dX7_number_39 : decode cX7_number 39 = .ok (.aload_n 0, 1) := by decide +kernel
theorem dX7_number_40 : decode cX7_number 40 = .ok (.invokevirtual 185, 3) := by decide +kernel
theorem dX7_number_43 : decode cX7_number 43 = .ok (.ifCond .eq 32, 3) := by decide +kernel
theorem dX7_number_46 : decode cX7_number 46 = .ok (.bipush 10, 2) := by decide +kernel
theorem dX7_number_48 : decode cX7_number 48 = .ok (.iload_n 1, 1) := by decide +kernel
theorem dX7_number_49 : decode cX7_number 49 = .ok (.imul, 1) := by decide +kernel
theorem dX7_number_50 : decode cX7_number 50 = .ok (.aload_n 0, 1) := by decide +kernel
theorem dX7_number_51 : decode cX7_number 51 = .ok (.invokevirtual 178, 3) := by decide +kernel
theorem dX7_number_54 : decode cX7_number 54 = .ok (.iadd, 1) := by decide +kernel
theorem dX7_number_55 : decode cX7_number 55 = .ok (.bipush 48, 2) := by decide +kernel
theorem dX7_number_57 : decode cX7_number 57 = .ok (.isub, 1) := by decide +kernel
theorem dX7_number_58 : decode cX7_number 58 = .ok (.istore_n 1, 1) := by decide +kernel
theorem dX7_number_59 : decode cX7_number 59 = .ok (.aload_n 0, 1) := by decide +kernel
theorem dX7_number_60 : decode cX7_number 60 = .ok (.dup, 1) := by decide +kernel
theorem dX7_number_61 : decode cX7_number 61 = .ok (.getfield 175, 3) := by decide +kernel
theorem dX7_number_64 : decode cX7_number 64 = .ok (.iconst 1, 1) := by decide +kernel
theorem dX7_number_65 : decode cX7_number 65 = .ok (.iadd, 1) := by decide +kernel
theorem dX7_number_66 : decode cX7_number 66 = .ok (.putfield 175, 3) := by decide +kernel
theorem dX7_number_69 : decode cX7_number 69 = .ok (.iinc 2 1, 3) := by decide +kernel
theorem dX7_number_72 : decode cX7_number 72 = .ok (.goto (-45), 3) := by decide +kernel
theorem dX7_number_75 : decode cX7_number 75 = .ok (.iload_n 1, 1) := by decide +kernel
theorem dX7_number_76 : decode cX7_number 76 = .ok (.ireturn, 1) := by decide +kernel
theorem dX7_manyOf_0 : decode cX7_manyOf 0 = .ok (.iload_n 0, 1) := by decide +kernel
theorem dX7_manyOf_1 : decode cX7_manyOf 1 = .ok (.bipush 116, 2) := by decide +kernel
theorem dX7_manyOf_3 : decode cX7_manyOf 3 = .ok (.if_icmp .ne 7, 3) := by decide +kernel
theorem dX7_manyOf_6 : decode cX7_manyOf 6 = .ok (.iconst 4, 1) := by decide +kernel
theorem dX7_manyOf_7 : decode cX7_manyOf 7 = .ok (.goto 38, 3) := by decide +kernel
theorem dX7_manyOf_10 : decode cX7_manyOf 10 = .ok (.iload_n 0, 1) := by decide +kernel
theorem dX7_manyOf_11 : decode cX7_manyOf 11 = .ok (.bipush 119, 2) := by decide +kernel
theorem dX7_manyOf_13 : decode cX7_manyOf 13 = .ok (.if_icmp .eq 27, 3) := by decide +kernel
theorem dX7_manyOf_16 : decode cX7_manyOf 16 = .ok (.iload_n 0, 1) := by decide +kernel
theorem dX7_manyOf_17 : decode cX7_manyOf 17 = .ok (.bipush 108, 2) := by decide +kernel
theorem dX7_manyOf_19 : decode cX7_manyOf 19 = .ok (.if_icmp .eq 21, 3) := by decide +kernel
theorem dX7_manyOf_22 : decode cX7_manyOf 22 = .ok (.iload_n 0, 1) := by decide +kernel
theorem dX7_manyOf_23 : decode cX7_manyOf 23 = .ok (.bipush 117, 2) := by decide +kernel
theorem dX7_manyOf_25 : decode cX7_manyOf 25 = .ok (.if_icmp .eq 15, 3) := by decide +kernel
theorem dX7_manyOf_28 : decode cX7_manyOf 28 = .ok (.iload_n 0, 1) := by decide +kernel
theorem dX7_manyOf_29 : decode cX7_manyOf 29 = .ok (.bipush 114, 2) := by decide +kernel
theorem dX7_manyOf_31 : decode cX7_manyOf 31 = .ok (.if_icmp .eq 9, 3) := by decide +kernel
theorem dX7_manyOf_34 : decode cX7_manyOf 34 = .ok (.iload_n 0, 1) := by decide +kernel
theorem dX7_manyOf_35 : decode cX7_manyOf 35 = .ok (.bipush 100, 2) := by decide +kernel
theorem dX7_manyOf_37 : decode cX7_manyOf 37 = .ok (.if_icmp .ne 7, 3) := by decide +kernel
theorem dX7_manyOf_40 : decode cX7_manyOf 40 = .ok (.iconst 1, 1) := by decide +kernel
theorem dX7_manyOf_41 : decode cX7_manyOf 41 = .ok (.goto 4, 3) := by decide +kernel
theorem dX7_manyOf_44 : decode cX7_manyOf 44 = .ok (.iconst 0, 1) := by decide +kernel
theorem dX7_manyOf_45 : decode cX7_manyOf 45 = .ok (.ireturn, 1) := by decide +kernel
