theorem dX3_ownedBy_0 : decode cX3_ownedBy 0 = .ok (.aload_n 0, 1) := by decide +kernel
theorem dX3_ownedBy_1 : decode cX3_ownedBy 1 = .ok (.iload_n 1, 1) := by decide +kernel
theorem dX3_ownedBy_2 : decode cX3_ownedBy 2 = .ok (.invokevirtual 246, 3) := by decide +kernel
theorem dX3_ownedBy_5 : decode cX3_ownedBy 5 = .ok (.invokestatic 293, 3) := by decide +kernel
theorem dX3_ownedBy_8 : decode cX3_ownedBy 8 = .ok (.ireturn, 1) := by decide +kernel
theorem dX3_loadedOf_0 : decode cX3_loadedOf 0 = .ok (.iconst 0, 1) := by decide +kernel
theorem dX3_loadedOf_1 : decode cX3_loadedOf 1 = .ok (.istore_n 2, 1) := by decide +kernel
theorem dX3_loadedOf_2 : decode cX3_loadedOf 2 = .ok (.iconst 0, 1) := by decide +kernel
theorem dX3_loadedOf_3 : decode cX3_loadedOf 3 = .ok (.istore_n 3, 1) := by decide +kernel
theorem dX3_loadedOf_4 : decode cX3_loadedOf 4 = .ok (.iload_n 3, 1) := by decide +kernel
theorem dX3_loadedOf_5 : decode cX3_loadedOf 5 = .ok (.aload_n 0, 1) := by decide +kernel
theorem dX3_loadedOf_6 : decode cX3_loadedOf 6 = .ok (.getfield 62, 3) := by decide +kernel
theorem dX3_loadedOf_9 : decode cX3_loadedOf 9 = .ok (.if_icmp .ge 36, 3) := by decide +kernel
theorem dX3_loadedOf_12 : decode cX3_loadedOf 12 = .ok (.aload_n 0, 1) := by decide +kernel
theorem dX3_loadedOf_13 : decode cX3_loadedOf 13 = .ok (.iload_n 3, 1) := by decide +kernel
theorem dX3_loadedOf_14 : decode cX3_loadedOf 14 = .ok (.invokevirtual 119, 3) := by decide +kernel
theorem dX3_loadedOf_17 : decode cX3_loadedOf 17 = .ok (.astore 4, 2) := by decide +kernel
theorem dX3_loadedOf_19 : decode cX3_loadedOf 19 = .ok (.aload 4, 2) := by decide +kernel
theorem dX3_loadedOf_21 : decode cX3_loadedOf 21 = .ok (.getfield 123, 3) := by decide +kernel
theorem dX3_loadedOf_24 : decode cX3_loadedOf 24 = .ok (.iload_n 1, 1) := by decide +kernel
theorem dX3_loadedOf_25 : decode cX3_loadedOf 25 = .ok (.if_icmp .ne 14, 3) := by decide +kernel
theorem dX3_loadedOf_28 : decode cX3_loadedOf 28 = .ok (.aload 4, 2) := by decide +kernel
theorem dX3_loadedOf_30 : decode cX3_loadedOf 30 = .ok (.getfield 147, 3) := by decide +kernel
theorem dX3_loadedOf_33 : decode cX3_loadedOf 33 = .ok (.ifCond .eq 6, 3) := by decide +kernel
theorem dX3_loadedOf_36 : decode cX3_loadedOf 36 = .ok (.iinc 2 1, 3) := by decide +kernel
theorem dX3_loadedOf_39 : decode cX3_loadedOf 39 = .ok (.iinc 3 1, 3) := by decide +kernel
theorem dX3_loadedOf_42 : decode cX3_loadedOf 42 = .ok (.goto (-38), 3) := by decide +kernel
theorem dX3_loadedOf_45 : decode cX3_loadedOf 45 = .ok (.iload_n 2, 1) := by decide +kernel
theorem dX3_loadedOf_46 : decode cX3_loadedOf 46 = .ok (.ireturn, 1) := by decide +kernel
theorem dX4_init_0 : decode cX4_init 0 = .ok (.aload_n 0, 1) := by decide +kernel
theorem dX4_init_1 : decode cX4_init 1 = .ok (.invokespecial 3, 3) := by decide +kernel
theorem dX4_init_4 : decode cX4_init 4 = .ok (.aload_n 0, 1) := by decide +kernel
theorem dX4_init_5 : decode cX4_init 5 = .ok (.bipush 20, 2) := by decide +kernel
theorem dX4_init_7 : decode cX4_init 7 = .ok (.newarray .int, 2) := by decide +kernel
theorem dX4_init_9 : decode cX4_init 9 = .ok (.putfield 9, 3) := by decide +kernel
theorem dX4_init_12 : decode cX4_init 12 = .ok (.return_, 1) := by decide +kernel
theorem dX4_copyFrom_0 : decode cX4_copyFrom 0 = .ok (.aload_n 1, 1) := by decide +kernel
theorem dX4_copyFrom_1 : decode cX4_copyFrom 1 = .ok (.getfield 9, 3) := by decide +kernel
theorem dX4_copyFrom_4 : decode cX4_copyFrom 4 = .ok (.iconst 0, 1) := by decide +kernel
theorem dX4_copyFrom_5 : decode cX4_copyFrom 5 = .ok (.aload_n 0, 1) := by decide +kernel
theorem dX4_copyFrom_6 : decode cX4_copyFrom 6 = .ok (.getfield 9, 3) := by decide +kernel
theorem dX4_copyFrom_9 : decode cX4_copyFrom 9 = .ok (.iconst 0, 1) := by decide +kernel
theorem dX4_copyFrom_10 : decode cX4_copyFrom 10 = .ok (.bipush 20, 2) := by decide +kernel
theorem dX4_copyFrom_12 : decode cX4_copyFrom 12 = .ok (.invokestatic 15, 3) := by decide +kernel
theorem dX4_copyFrom_15 : decode cX4_copyFrom 15 = .ok (.aload_n 0, 1) := by decide +kernel
theorem dX4_copyFrom_16 : decode cX4_copyFrom 16 = .ok (.aload_n 1, 1) := by decide +kernel
theorem dX4_copyFrom_17 : decode cX4_copyFrom 17 = .ok (.getfield 21, 3) := by decide +kernel
theorem dX4_copyFrom_20 : decode cX4_copyFrom 20 = .ok (.putfield 21, 3) := by decide +kernel
theorem dX4_copyFrom_23 : decode cX4_copyFrom 23 = .ok (.return_, 1) := by decide +kernel
theorem dX4_size_0 : decode cX4_size 0 = .ok (.aload_n 0, 1) := by decide +kernel
theorem dX4_size_1 : decode cX4_size 1 = .ok (.getfield 21, 3) := by decide +kernel
theorem dX4_size_4 : decode cX4_size 4 = .ok (.ireturn, 1) := by decide +kernel
theorem dX4_atWork_0 : decode cX4_atWork 0 = .ok (.aload_n 0, 1) := by decide +kernel
theorem dX4_atWork_1 : decode cX4_atWork 1 = .ok (.getfield 21, 3) := by decide +kernel
theorem dX4_atWork_4 : decode cX4_atWork 4 = .ok (.iconst 2, 1) := by decide +kernel
theorem dX4_atWork_5 : decode cX4_atWork 5 = .ok (.if_icmp .ge 10, 3) := by decide +kernel
theorem dX4_atWork_8 : decode cX4_atWork 8 = .ok (.aload_n 0, 1) := by decide +kernel
theorem dX4_atWork_9 : decode cX4_atWork 9 = .ok (.getfield 21, 3) := by decide +kernel
theorem dX4_atWork_12 : decode cX4_atWork 12 = .ok (.goto 4, 3) := by decide +kernel
theorem dX4_atWork_15 : decode cX4_atWork 15 = .ok (.iconst 2, 1) := by decide +kernel
theorem dX4_atWork_16 : decode cX4_atWork 16 = .ok (.ireturn, 1) := by decide +kernel
theorem dX4_numberAt_0 : decode cX4_numberAt 0 = .ok (.iload_n 1, 1) := by decide +kernel
theorem dX4_numberAt_1 : decode cX4_numberAt 1 = .ok (.ifCond .lt 21, 3) := by decide +kernel
theorem dX4_numberAt_4 : decode cX4_numberAt 4 = .ok (.iload_n 1, 1) := by decide +kernel
theorem dX4_numberAt_5 : decode cX4_numberAt 5 = .ok (.aload_n 0, 1) := by decide +kernel
theorem dX4_numberAt_6 : decode cX4_numberAt 6 = .ok (.getfield 9, 3) := by decide +kernel
theorem dX4_numberAt_9 : decode cX4_numberAt 9 = .ok (.arraylength, 1) := by decide +kernel
theorem dX4_numberAt_10 : decode cX4_numberAt 10 = .ok (.if_icmp .ge 12, 3) := by decide +kernel
theorem dX4_numberAt_13 : decode cX4_numberAt 13 = .ok (.aload_n 0, 1) := by decide +kernel
theorem dX4_numberAt_14 : decode cX4_numberAt 14 = .ok (.getfield 9, 3) := by decide +kernel
theorem dX4_numberAt_17 : decode cX4_numberAt 17 = .ok (.iload_n 1, 1) := by decide +kernel
theorem dX4_numberAt_18 : decode cX4_numberAt 18 = .ok (.iaload, 1) := by decide +kernel
theorem dX4_numberAt_19 : decode cX4_numberAt 19 = .ok (.goto 4, 3) := by decide +kernel
theorem dX4_numberAt_22 : decode cX4_numberAt 22 = .ok (.iconst 0, 1) := by decide +kernel
theorem dX4_numberAt_23 : decode cX4_numberAt 23 = .ok (.ireturn, 1) := by decide +kernel
theorem dX4_enter_0 : decode cX4_enter 0 = .ok (.aload_n 0, 1) := by decide +kernel
theorem dX4_enter_1 : decode cX4_enter 1 = .ok (.getfield 21, 3) := by decide +kernel
theorem dX4_enter_4 : decode cX4_enter 4 = .ok (.ifCond .lt 35, 3) := by decide +kernel
theorem dX4_enter_7 : decode cX4_enter 7 = .ok (.aload_n 0, 1) := by decide +kernel
theorem dX4_enter_8 : decode cX4_enter 8 = .ok (.getfield 21, 3) := by decide +kernel
theorem dX4_enter_11 : decode cX4_enter 11 = .ok (.aload_n 0, 1) := by decide +kernel
theorem dX4_enter_12 : decode cX4_enter 12 = .ok (.getfield 9, 3) := by decide +kernel
theorem dX4_enter_15 : decode cX4_enter 15 = .ok (.arraylength, 1) := by decide +kernel
theorem dX4_enter_16 : decode cX4_enter 16 = .ok (.if_icmp .ge 23, 3) := by decide +kernel
theorem dX4_enter_19 : decode cX4_enter 19 = .ok (.aload_n 0, 1) := by decide +kernel
theorem dX4_enter_20 : decode cX4_enter 20 = .ok (.getfield 9, 3) := by decide +kernel
theorem dX4_enter_23 : decode cX4_enter 23 = .ok (.aload_n 0, 1) := by decide +kernel
theorem dX4_enter_24 : decode cX4_enter 24 = .ok (.getfield 21, 3) := by decide +kernel
theorem dX4_enter_27 : decode cX4_enter 27 = .ok (.iload_n 1, 1) := by decide +kernel
theorem dX4_enter_28 : decode cX4_enter 28 = .ok (.iastore, 1) := by decide +kernel
theorem dX4_enter_29 : decode cX4_enter 29 = .ok (.aload_n 0, 1) := by decide +kernel
theorem dX4_enter_30 : decode cX4_enter 30 = .ok (.dup, 1) := by decide +kernel
theorem dX4_enter_31 : decode cX4_enter 31 = .ok (.getfield 21, 3) := by decide +kernel
theorem dX4_enter_34 : decode cX4_enter 34 = .ok (.iconst 1, 1) := by decide +kernel
theorem dX4_enter_35 : decode cX4_enter 35 = .ok (.iadd, 1) := by decide +kernel
theorem dX4_enter_36 : decode cX4_enter 36 = .ok (.putfield 21, 3) := by decide +kernel
theorem dX4_enter_39 : decode cX4_enter 39 = .ok (.return_, 1) := by decide +kernel
theorem dX4_leave_0 : decode cX4_leave 0 = .ok (.iload_n 1, 1) := by decide +kernel
theorem dX4_leave_1 : decode cX4_leave 1 = .ok (.istore_n 2, 1) := by decide +kernel
theorem dX4_leave_2 : decode cX4_leave 2 = .ok (.iload_n 2, 1) := by decide +kernel
theorem dX4_leave_3 : decode cX4_leave 3 = .ok (.ifCond .lt 44, 3) := by decide +kernel
theorem dX4_leave_6 : decode cX4_leave 6 = .ok (.iload_n 2, 1) := by decide +kernel
theorem dX4_leave_7 : decode cX4_leave 7 = .ok (.iconst 1, 1) := by decide +kernel
theorem dX4_leave_8 : decode cX4_leave 8 = .ok (.iadd, 1) := by decide +kernel
theorem dX4_leave_9 : decode cX4_leave 9 = .ok (.aload_n 0, 1) := by decide +kernel
theorem dX4_leave_10 : decode cX4_leave 10 = .ok (.getfield 21, 3) := by decide +kernel
theorem dX4_leave_13 : decode cX4_leave 13 = .ok (.if_icmp .ge 34, 3) := by decide +kernel
theorem dX4_leave_16 : decode cX4_leave 16 = .ok (.iload_n 2, 1) := by decide +kernel
theorem dX4_leave_17 : decode cX4_leave 17 = .ok (.iconst 1, 1) := by decide +kernel
theorem dX4_leave_18 : decode cX4_leave 18 = .ok (.iadd, 1) := by decide +kernel
theorem dX4_leave_19 : decode cX4_leave 19 = .ok (.aload_n 0, 1) := by decide +kernel
theorem dX4_leave_20 : decode cX4_leave 20 = .ok (.getfield 9, 3) := by decide +kernel
theorem dX4_leave_23 : decode cX4_leave 23 = .ok (.arraylength, 1) := by decide +kernel
theorem dX4_leave_24 : decode cX4_leave 24 = .ok (.if_icmp .ge 23, 3) := by decide +kernel
theorem dX4_leave_27 : decode cX4_leave 27 = .ok (.aload_n 0, 1) := by decide +kernel
theorem dX4_leave_28 : decode cX4_leave 28 = .ok (.getfield 9, 3) := by decide +kernel
theorem dX4_leave_31 : decode cX4_leave 31 = .ok (.iload_n 2, 1) := by decide +kernel
theorem dX4_leave_32 : decode cX4_leave 32 = .ok (.aload_n 0, 1) := by decide +kernel
theorem dX4_leave_33 : decode cX4_leave 33 = .ok (.getfield 9, 3) := by decide +kernel
theorem dX4_leave_36 : decode cX4_leave 36 = .ok (.iload_n 2, 1) := by decide +kernel
theorem dX4_leave_37 : decode cX4_leave 37 = .ok (.iconst 1, 1) := by decide +kernel
theorem dX4_leave_38 : decode cX4_leave 38 = .ok (.iadd, 1) := by decide +kernel
theorem dX4_leave_39 : decode cX4_leave 39 = .ok (.iaload, 1) := by decide +kernel
theorem dX4_leave_40 : decode cX4_leave 40 = .ok (.iastore, 1) := by decide +kernel
theorem dX4_leave_41 : decode cX4_leave 41 = .ok (.iinc 2 1, 3) := by decide +kernel
theorem dX4_leave_44 : decode cX4_leave 44 = .ok (.goto (-42), 3) := by decide +kernel
theorem dX4_leave_47 : decode cX4_leave 47 = .ok (.aload_n 0, 1) := by decide +kernel
theorem dX4_leave_48 : decode cX4_leave 48 = .ok (.dup, 1) := by decide +kernel
theorem dX4_leave_49 : decode cX4_leave 49 = .ok (.getfield 21, 3) := by decide +kernel
theorem dX4_leave_52 : decode cX4_leave 52 = .ok (.iconst 1, 1) := by decide +kernel
theorem dX4_leave_53 : decode cX4_leave 53 = .ok (.isub, 1) := by decide +kernel
theorem dX4_leave_54 : decode cX4_leave 54 = .ok (.putfield 21, 3) := by decide +kernel
theorem dX4_leave_57 : decode cX4_leave 57 = .ok (.return_, 1) := by decide +kernel
theorem dX5_init_0 : decode cX5_init 0 = .ok (.aload_n 0, 1) := by decide +kernel
theorem dX5_init_1 : decode cX5_init 1 = .ok (.invokespecial 3, 3) := by decide +kernel
theorem dX5_init_4 : decode cX5_init 4 = .ok (.return_, 1) := by decide +kernel
theorem dX5_copyFrom_0 : decode cX5_copyFrom 0 = .ok (.aload_n 0, 1) := by decide +kernel
theorem dX5_copyFrom_1 : decode cX5_copyFrom 1 = .ok (.aload_n 1, 1) := by decide +kernel
theorem dX5_copyFrom_2 : decode cX5_copyFrom 2 = .ok (.getfield 9, 3) := by decide +kernel
theorem dX5_copyFrom_5 : decode cX5_copyFrom 5 = .ok (.putfield 9, 3) := by decide +kernel
theorem dX5_copyFrom_8 : decode cX5_copyFrom 8 = .ok (.aload_n 0, 1) := by decide +kernel
theorem dX5_copyFrom_9 : decode cX5_copyFrom 9 = .ok (.aload_n 1, 1) := by decide +kernel
theorem dX5_copyFrom_10 : decode cX5_copyFrom 10 = .ok (.getfield 15, 3) := by decide +kernel
theorem dX5_copyFrom_13 : decode cX5_copyFrom 13 = .ok (.putfield 15, 3) := by decide +kernel
theorem dX5_copyFrom_16 : decode cX5_copyFrom 16 = .ok (.aload_n 0, 1) := by decide +kernel
theorem dX5_copyFrom_17 : decode cX5_copyFrom 17 = .ok (.aload_n 1, 1) := by decide +kernel
theorem dX5_copyFrom_18 : decode cX5_copyFrom 18 = .ok (.getfield 18, 3) := by decide +kernel
theorem dX5_copyFrom_21 : decode cX5_copyFrom 21 = .ok (.putfield 18, 3) := by decide +kernel
theorem dX5_copyFrom_24 : decode cX5_copyFrom 24 = .ok (.aload_n 0, 1) := by decide +kernel
theorem dX5_copyFrom_25 : decode cX5_copyFrom 25 = .ok (.aload_n 1, 1) := by decide +kernel
theorem dX5_copyFrom_26 : decode cX5_copyFrom 26 = .ok (.getfield 21, 3) := by decide +kernel
theorem dX5_copyFrom_29 : decode cX5_copyFrom 29 = .ok (.putfield 21, 3) := by decide +kernel
theorem dX5_copyFrom_32 : decode cX5_copyFrom 32 = .ok (.aload_n 0, 1) := by decide +kernel
theorem dX5_copyFrom_33 : decode cX5_copyFrom 33 = .ok (.aload_n 1, 1) := by decide +kernel
theorem dX5_copyFrom_34 : decode cX5_copyFrom 34 = .ok (.getfield 25, 3) := by decide +kernel
theorem dX5_copyFrom_37 : decode cX5_copyFrom 37 = .ok (.putfield 25, 3) := by decide +kernel
theorem dX5_copyFrom_40 : decode cX5_copyFrom 40 = .ok (.aload_n 0, 1) := by decide +kernel
theorem dX5_copyFrom_41 : decode cX5_copyFrom 41 = .ok (.aload_n 1, 1) := by decide +kernel
theorem dX5_copyFrom_42 : decode cX5_copyFrom 42 = .ok (.getfield 28, 3) := by decide +kernel
theorem dX5_copyFrom_45 : decode cX5_copyFrom 45 = .ok (.putfield 28, 3) := by decide +kernel
theorem dX5_copyFrom_48 : decode cX5_copyFrom 48 = .ok (.aload_n 0, 1) := by decide +kernel
theorem dX5_copyFrom_49 : decode cX5_copyFrom 49 = .ok (.aload_n 1, 1) := by decide +kernel
theorem dX5_copyFrom_50 : decode cX5_copyFrom 50 = .ok (.getfield 31, 3) := by decide +kernel
theorem dX5_copyFrom_53 : decode cX5_copyFrom 53 = .ok (.putfield 31, 3) := by decide +kernel
theorem dX5_copyFrom_56 : decode cX5_copyFrom 56 = .ok (.aload_n 0, 1) := by decide +kernel
theorem dX5_copyFrom_57 : decode cX5_copyFrom 57 = .ok (.aload_n 1, 1) := by decide +kernel
theorem dX5_copyFrom_58 : decode cX5_copyFrom 58 = .ok (.getfield 34, 3) := by decide +kernel
theorem dX5_copyFrom_61 : decode cX5_copyFrom 61 = .ok (.putfield 34, 3) := by decide +kernel
theorem dX5_copyFrom_64 : decode cX5_copyFrom 64 = .ok (.aload_n 0, 1) := by decide +kernel
theorem dX5_copyFrom_65 : decode cX5_copyFrom 65 = .ok (.aload_n 1, 1) := by decide +kernel
theorem dX5_copyFrom_66 : decode cX5_copyFrom 66 = .ok (.getfield 37, 3) := by decide +kernel
theorem dX5_copyFrom_69 : decode cX5_copyFrom 69 = .ok (.putfield 37, 3) := by decide +kernel
theorem dX5_copyFrom_72 : decode cX5_copyFrom 72 = .ok (.return_, 1) := by decide +kernel
theorem dX5_standFrom_0 : decode cX5_standFrom 0 = .ok (.aload_n 0, 1) := by decide +kernel
theorem dX5_standFrom_1 : decode cX5_standFrom 1 = .ok (.iconst 0, 1) := by decide +kernel
theorem dX5_standFrom_2 : decode cX5_standFrom 2 = .ok (.putfield 18, 3) := by decide +kernel
theorem dX5_standFrom_5 : decode cX5_standFrom 5 = .ok (.aload_n 0, 1) := by decide +kernel
theorem dX5_standFrom_6 : decode cX5_standFrom 6 = .ok (.iload_n 1, 1) := by decide +kernel
theorem dX5_standFrom_7 : decode cX5_standFrom 7 = .ok (.putfield 28, 3) := by decide +kernel
theorem dX5_standFrom_10 : decode cX5_standFrom 10 = .ok (.return_, 1) := by decide +kernel
theorem dX5_leaveFor_0 : decode cX5_leaveFor 0 = .ok (.aload_n 0, 1) := by decide +kernel
theorem dX5_leaveFor_1 : decode cX5_leaveFor 1 = .ok (.iconst 1, 1) := by decide +kernel
theorem dX5_leaveFor_2 : decode cX5_leaveFor 2 = .ok (.putfield 18, 3) := by decide +kernel
theorem dX5_leaveFor_5 : decode cX5_leaveFor 5 = .ok (.aload_n 0, 1) := by decide +kernel
theorem dX5_leaveFor_6 : decode cX5_leaveFor 6 = .ok (.iload_n 1, 1) := by decide +kernel
theorem dX5_leaveFor_7 : decode cX5_leaveFor 7 = .ok (.putfield 15, 3) := by decide +kernel
theorem dX5_leaveFor_10 : decode cX5_leaveFor 10 = .ok (.aload_n 0, 1) := by decide +kernel
theorem dX5_leaveFor_11 : decode cX5_leaveFor 11 = .ok (.iload_n 3, 1) := by decide +kernel
theorem dX5_leaveFor_12 : decode cX5_leaveFor 12 = .ok (.putfield 34, 3) := by decide +kernel
theorem dX5_leaveFor_15 : decode cX5_leaveFor 15 = .ok (.aload_n 0, 1) := by decide +kernel
theorem dX5_leaveFor_16 : decode cX5_leaveFor 16 = .ok (.iload_n 2, 1) := by decide +kernel
theorem dX5_leaveFor_17 : decode cX5_leaveFor 17 = .ok (.iload_n 3, 1) := by decide +kernel
theorem dX5_leaveFor_18 : decode cX5_leaveFor 18 = .ok (.iadd, 1) := by decide +kernel
theorem dX5_leaveFor_19 : decode cX5_leaveFor 19 = .ok (.putfield 31, 3) := by decide +kernel
theorem dX5_leaveFor_22 : decode cX5_leaveFor 22 = .ok (.return_, 1) := by decide +kernel
theorem dX5_standsAt_0 : decode cX5_standsAt 0 = .ok (.aload_n 0, 1) := by decide +kernel
theorem dX5_standsAt_1 : decode cX5_standsAt 1 = .ok (.getfield 18, 3) := by decide +kernel
theorem dX5_standsAt_4 : decode cX5_standsAt 4 = .ok (.ifCond .ne 15, 3) := by decide +kernel
theorem dX5_standsAt_7 : decode cX5_standsAt 7 = .ok (.aload_n 0, 1) := by decide +kernel
theorem dX5_standsAt_8 : decode cX5_standsAt 8 = .ok (.getfield 15, 3) := by decide +kernel
theorem dX5_standsAt_11 : decode cX5_standsAt 11 = .ok (.iload_n 1, 1) := by decide +kernel
theorem dX5_standsAt_12 : decode cX5_standsAt 12 = .ok (.if_icmp .ne 7, 3) := by decide +kernel
theorem dX5_standsAt_15 : decode cX5_standsAt 15 = .ok (.iconst 1, 1) := by decide +kernel
theorem dX5_standsAt_16 : decode cX5_standsAt 16 = .ok (.goto 4, 3) := by decide +kernel
theorem dX5_standsAt_19 : decode cX5_standsAt 19 = .ok (.iconst 0, 1) := by decide +kernel
theorem dX5_standsAt_20 : decode cX5_standsAt 20 = .ok (.ireturn, 1) := by decide +kernel
theorem dX5_isOnItsWayTo_0 : decode cX5_isOnItsWayTo 0 = .ok (.aload_n 0, 1) := by decide +kernel
theorem dX5_isOnItsWayTo_1 : decode cX5_isOnItsWayTo 1 = .ok (.getfield 18, 3) := by decide +kernel
theorem dX5_isOnItsWayTo_4 : decode cX5_isOnItsWayTo 4 = .ok (.iconst 1, 1) := by decide +kernel
theorem dX5_isOnItsWayTo_5 : decode cX5_isOnItsWayTo 5 = .ok (.if_icmp .ne 15, 3) := by decide +kernel
theorem dX5_isOnItsWayTo_8 : decode cX5_isOnItsWayTo 8 = .ok (.aload_n 0, 1) := by decide +kernel
theorem dX5_isOnItsWayTo_9 : decode cX5_isOnItsWayTo 9 = .ok (.getfield 15, 3) := by decide +kernel
theorem dX5_isOnItsWayTo_12 : decode cX5_isOnItsWayTo 12 = .ok (.iload_n 1, 1) := by decide +kernel
theorem dX5_isOnItsWayTo_13 : decode cX5_isOnItsWayTo 13 = .ok (.if_icmp .ne 7, 3) := by decide +kernel
theorem dX5_isOnItsWayTo_16 : decode cX5_isOnItsWayTo 16 = .ok (.iconst 1, 1) := by decide +kernel
theorem dX5_isOnItsWayTo_17 : decode cX5_isOnItsWayTo 17 = .ok (.goto 4, 3) := by decide +kernel
theorem dX5_isOnItsWayTo_20 : decode cX5_isOnItsWayTo 20 = .ok (.iconst 0, 1) := by decide +kernel
theorem dX5_isOnItsWayTo_21 : decode cX5_isOnItsWayTo 21 = .ok (.ireturn, 1) := by decide +kernel
theorem dX5_isHired_0 : decode cX5_isHired 0 = .ok (.aload_n 0, 1) := by decide +kernel
theorem dX5_isHired_1 : decode cX5_isHired 1 = .ok (.getfield 18, 3) := by decide +kernel
theorem dX5_isHired_4 : decode cX5_isHired 4 = .ok (.ifCond .ne 25, 3) := by decide +kernel
theorem dX5_isHired_7 : decode cX5_isHired 7 = .ok (.aload_n 0, 1) := by decide +kernel
theorem dX5_isHired_8 : decode cX5_isHired 8 = .ok (.getfield 15, 3) := by decide +kernel
theorem dX5_isHired_11 : decode cX5_isHired 11 = .ok (.ifCond .eq 18, 3) := by decide +kernel
theorem dX5_isHired_14 : decode cX5_isHired 14 = .ok (.aload_n 0, 1) := by decide +kernel
theorem dX5_isHired_15 : decode cX5_isHired 15 = .ok (.getfield 15, 3) := by decide +kernel
theorem dX5_isHired_18 : decode cX5_isHired 18 = .ok (.aload_n 0, 1) := by decide +kernel
theorem dX5_isHired_19 : decode cX5_isHired 19 = .ok (.getfield 9, 3) := by decide +kernel
theorem dX5_isHired_22 : decode cX5_isHired 22 = .ok (.if_icmp .eq 7, 3) := by decide +kernel
theorem dX5_isHired_25 : decode cX5_isHired 25 = .ok (.iconst 1, 1) := by decide +kernel
theorem dX5_isHired_26 : decode cX5_isHired 26 = .ok (.goto 4, 3) := by decide +kernel
theorem dX5_isHired_29 : decode cX5_isHired 29 = .ok (.iconst 0, 1) := by decide +kernel
theorem dX5_isHired_30 : decode cX5_isHired 30 = .ok (.ireturn, 1) := by decide +kernel
theorem dX5_isLoadedAtPort_0 : decode cX5_isLoadedAtPort 0 = .ok (.aload_n 0, 1) := by decide +kernel
theorem dX5_isLoadedAtPort_1 : decode cX5_isLoadedAtPort 1 = .ok (.getfield 21, 3) := by decide +kernel
theorem dX5_isLoadedAtPort_4 : decode cX5_isLoadedAtPort 4 = .ok (.ifCond .eq 21, 3) := by decide +kernel
theorem dX5_isLoadedAtPort_7 : decode cX5_isLoadedAtPort 7 = .ok (.aload_n 0, 1) := by decide +kernel
theorem dX5_isLoadedAtPort_8 : decode cX5_isLoadedAtPort 8 = .ok (.getfield 18, 3) := by decide +kernel
theorem dX5_isLoadedAtPort_11 : decode cX5_isLoadedAtPort 11 = .ok (.ifCond .ne 14, 3) := by decide +kernel
theorem dX5_isLoadedAtPort_14 : decode cX5_isLoadedAtPort 14 = .ok (.aload_n 0, 1) := by decide +kernel
theorem dX5_isLoadedAtPort_15 : decode cX5_isLoadedAtPort 15 = .ok (.getfield 15, 3) := by decide +kernel
theorem dX5_isLoadedAtPort_18 : decode cX5_isLoadedAtPort 18 = .ok (.ifCond .ne 7, 3) := by decide +kernel
theorem dX5_isLoadedAtPort_21 : decode cX5_isLoadedAtPort 21 = .ok (.iconst 1, 1) := by decide +kernel
theorem dX5_isLoadedAtPort_22 : decode cX5_isLoadedAtPort 22 = .ok (.goto 4, 3) := by decide +kernel
theorem dX5_isLoadedAtPort_25 : decode cX5_isLoadedAtPort 25 = .ok (.iconst 0, 1) := by decide +kernel
theorem dX5_isLoadedAtPort_26 : decode cX5_isLoadedAtPort 26 = .ok (.ireturn, 1) := by decide +kernel
theorem dX5_isOfKind_0 : decode cX5_isOfKind 0 = .ok (.iload_n 1, 1) := by decide +kernel
theorem dX5_isOfKind_1 : decode cX5_isOfKind 1 = .ok (.iconst 2, 1) := by decide +kernel
theorem dX5_isOfKind_2 : decode cX5_isOfKind 2 = .ok (.if_icmp .eq 20, 3) := by decide +kernel
theorem dX5_isOfKind_5 : decode cX5_isOfKind 5 = .ok (.aload_n 0, 1) := by decide +kernel
theorem dX5_isOfKind_6 : decode cX5_isOfKind 6 = .ok (.getfield 21, 3) := by decide +kernel
theorem dX5_isOfKind_9 : decode cX5_isOfKind 9 = .ok (.iload_n 1, 1) := by decide +kernel
theorem dX5_isOfKind_10 : decode cX5_isOfKind 10 = .ok (.iconst 1, 1) := by decide +kernel
theorem dX5_isOfKind_11 : decode cX5_isOfKind 11 = .ok (.if_icmp .ne 7, 3) := by decide +kernel
theorem dX5_isOfKind_14 : decode cX5_isOfKind 14 = .ok (.iconst 1, 1) := by decide +kernel
theorem dX5_isOfKind_15 : decode cX5_isOfKind 15 = .ok (.goto 4, 3) := by decide +kernel
theorem dX5_isOfKind_18 : decode cX5_isOfKind 18 = .ok (.iconst 0, 1) := by decide +kernel
theorem dX5_isOfKind_19 : decode cX5_isOfKind 19 = .ok (.if_icmp .ne 7, 3) := by decide +kernel
theorem dX5_isOfKind_22 : decode cX5_isOfKind 22 = .ok (.iconst 1, 1) := by decide +kernel
theorem dX5_isOfKind_23 : decode cX5_isOfKind 23 = .ok (.goto 4, 3) := by decide +kernel
theorem dX5_isOfKind_26 : decode cX5_isOfKind 26 = .ok (.iconst 0, 1) := by decide +kernel
theorem dX5_isOfKind_27 : decode cX5_isOfKind 27 = .ok (.ireturn, 1) := by decide +kernel
theorem dX6_init_0 : decode cX6_init 0 = .ok (.aload_n 0, 1) := by decide +kernel
theorem dX6_init_1 : decode cX6_init 1 = .ok (.invokespecial 1, 3) := by decide +kernel
theorem dX6_init_4 : decode cX6_init 4 = .ok (.aload_n 0, 1) := by decide +kernel
theorem dX6_init_5 : decode cX6_init 5 = .ok (.new 7, 3) := by decide +kernel
theorem dX6_init_8 : decode cX6_init 8 = .ok (.dup, 1) := by decide +kernel
theorem dX6_init_9 : decode cX6_init 9 = .ok (.invokespecial 9, 3) := by decide +kernel
theorem dX6_init_12 : decode cX6_init 12 = .ok (.putfield 10, 3) := by decide +kernel
theorem dX6_init_15 : decode cX6_init 15 = .ok (.aload_n 0, 1) := by decide +kernel
theorem dX6_init_16 : decode cX6_init 16 = .ok (.new 7, 3) := by decide +kernel
theorem dX6_init_19 : decode cX6_init 19 = .ok (.dup, 1) := by decide +kernel
theorem dX6_init_20 : decode cX6_init 20 = .ok (.invokespecial 9, 3) := by decide +kernel
theorem dX6_init_23 : decode cX6_init 23 = .ok (.putfield 16, 3) := by decide +kernel
theorem dX6_init_26 : decode cX6_init 26 = .ok (.aload_n 0, 1) := by decide +kernel
theorem dX6_init_27 : decode cX6_init 27 = .ok (.new 19, 3) := by decide +kernel
theorem dX6_init_30 : decode cX6_init 30 = .ok (.dup, 1) := by decide +kernel
theorem dX6_init_31 : decode cX6_init 31 = .ok (.invokespecial 21, 3) := by decide +kernel
theorem dX6_init_34 : decode cX6_init 34 = .ok (.putfield 22, 3) := by decide +kernel
theorem dX6_init_37 : decode cX6_init 37 = .ok (.aload_n 0, 1) := by decide +kernel
theorem dX6_init_38 : decode cX6_init 38 = .ok (.new 26, 3) := by decide +kernel
theorem dX6_init_41 : decode cX6_init 41 = .ok (.dup, 1) := by decide +kernel
theorem dX6_init_42 : decode cX6_init 42 = .ok (.invokespecial 28, 3) := by decide +kernel
theorem dX6_init_45 : decode cX6_init 45 = .ok (.putfield 29, 3) := by decide +kernel
theorem dX6_init_48 : decode cX6_init 48 = .ok (.return_, 1) := by decide +kernel
theorem dX6_mine_0 : decode cX6_mine 0 = .ok (.aload_n 0, 1) := by decide +kernel
theorem dX6_mine_1 : decode cX6_mine 1 = .ok (.getfield 16, 3) := by decide +kernel
theorem dX6_mine_4 : decode cX6_mine 4 = .ok (.aload_n 0, 1) := by decide +kernel
theorem dX6_mine_5 : decode cX6_mine 5 = .ok (.getfield 10, 3) := by decide +kernel
theorem dX6_mine_8 : decode cX6_mine 8 = .ok (.invokevirtual 33, 3) := by decide +kernel
theorem dX6_mine_11 : decode cX6_mine 11 = .ok (.aload_n 0, 1) := by decide +kernel
theorem dX6_mine_12 : decode cX6_mine 12 = .ok (.aload_n 0, 1) := by decide +kernel
theorem dX6_mine_13 : decode cX6_mine 13 = .ok (.getfield 16, 3) := by decide +kernel
theorem dX6_mine_16 : decode cX6_mine 16 = .ok (.iload_n 1, 1) := by decide +kernel
theorem dX6_mine_17 : decode cX6_mine 17 = .ok (.invokevirtual 37, 3) := by decide +kernel
theorem dX6_mine_20 : decode cX6_mine 20 = .ok (.invokevirtual 41, 3) := by decide +kernel
theorem dX6_mine_23 : decode cX6_mine 23 = .ok (.ireturn, 1) := by decide +kernel
theorem dX6_leg_0 : decode cX6_leg 0 = .ok (.aload_n 0, 1) := by decide +kernel
theorem dX6_leg_1 : decode cX6_leg 1 = .ok (.getfield 16, 3) := by decide +kernel
theorem dX6_leg_4 : decode cX6_leg 4 = .ok (.aload_n 0, 1) := by decide +kernel
theorem dX6_leg_5 : decode cX6_leg 5 = .ok (.getfield 10, 3) := by decide +kernel
theorem dX6_leg_8 : decode cX6_leg 8 = .ok (.invokevirtual 33, 3) := by decide +kernel
theorem dX6_leg_11 : decode cX6_leg 11 = .ok (.aload_n 0, 1) := by decide +kernel
theorem dX6_leg_12 : decode cX6_leg 12 = .ok (.aload_n 0, 1) := by decide +kernel
theorem dX6_leg_13 : decode cX6_leg 13 = .ok (.getfield 16, 3) := by decide +kernel
theorem dX6_leg_16 : decode cX6_leg 16 = .ok (.iload_n 1, 1) := by decide +kernel
theorem dX6_leg_17 : decode cX6_leg 17 = .ok (.iload_n 2, 1) := by decide +kernel
theorem dX6_leg_18 : decode cX6_leg 18 = .ok (.iload_n 3, 1) := by decide +kernel
theorem dX6_leg_19 : decode cX6_leg 19 = .ok (.invokevirtual 44, 3) := by decide +kernel
theorem dX6_leg_22 : decode cX6_leg 22 = .ok (.invokevirtual 41, 3) := by decide +kernel
theorem dX6_leg_25 : decode cX6_leg 25 = .ok (.ireturn, 1) := by decide +kernel
theorem dX6_wagon_0 : decode cX6_wagon 0 = .ok (.aload_n 0, 1) := by decide +kernel
theorem dX6_wagon_1 : decode cX6_wagon 1 = .ok (.getfield 16, 3) := by decide +kernel
theorem dX6_wagon_4 : decode cX6_wagon 4 = .ok (.aload_n 0, 1) := by decide +kernel
theorem dX6_wagon_5 : decode cX6_wagon 5 = .ok (.getfield 10, 3) := by decide +kernel
theorem dX6_wagon_8 : decode cX6_wagon 8 = .ok (.invokevirtual 33, 3) := by decide +kernel
theorem dX6_wagon_11 : decode cX6_wagon 11 = .ok (.aload_n 0, 1) := by decide +kernel
theorem dX6_wagon_12 : decode cX6_wagon 12 = .ok (.aload_n 0, 1) := by decide +kernel
theorem dX6_wagon_13 : decode cX6_wagon 13 = .ok (.getfield 16, 3) := by decide +kernel
theorem dX6_wagon_16 : decode cX6_wagon 16 = .ok (.iload_n 1, 1) := by decide +kernel
theorem dX6_wagon_17 : decode cX6_wagon 17 = .ok (.invokevirtual 48, 3) := by decide +kernel
theorem dX6_wagon_20 : decode cX6_wagon 20 = .ok (.invokevirtual 41, 3) := by decide +kernel
theorem dX6_wagon_23 : decode cX6_wagon 23 = .ok (.ireturn, 1) := by decide +kernel
theorem dX6_load_0 : decode cX6_load 0 = .ok (.aload_n 0, 1) := by decide +kernel
theorem dX6_load_1 : decode cX6_load 1 = .ok (.getfield 16, 3) := by decide +kernel
theorem dX6_load_4 : decode cX6_load 4 = .ok (.aload_n 0, 1) := by decide +kernel
theorem dX6_load_5 : decode cX6_load 5 = .ok (.getfield 10, 3) := by decide +kernel
theorem dX6_load_8 : decode cX6_load 8 = .ok (.invokevirtual 33, 3) := by decide +kernel
theorem dX6_load_11 : decode cX6_load 11 = .ok (.aload_n 0, 1) := by decide +kernel
theorem dX6_load_12 : decode cX6_load 12 = .ok (.aload_n 0, 1) := by decide +kernel
theorem dX6_load_13 : decode cX6_load 13 = .ok (.getfield 16, 3) := by decide +kernel
theorem dX6_load_16 : decode cX6_load 16 = .ok (.iload_n 1, 1) := by decide +kernel
theorem dX6_load_17 : decode cX6_load 17 = .ok (.invokevirtual 51, 3) := by decide +kernel
theorem dX6_load_20 : decode cX6_load 20 = .ok (.invokevirtual 41, 3) := by decide +kernel
theorem dX6_load_23 : decode cX6_load 23 = .ok (.ireturn, 1) := by decide +kernel
theorem dX6_unload_0 : decode cX6_unload 0 = .ok (.aload_n 0, 1) := by decide +kernel
theorem dX6_unload_1 : decode cX6_unload 1 = .ok (.getfield 16, 3) := by decide +kernel
theorem dX6_unload_4 : decode cX6_unload 4 = .ok (.aload_n 0, 1) := by decide +kernel
theorem dX6_unload_5 : decode cX6_unload 5 = .ok (.getfield 10, 3) := by decide +kernel
theorem dX6_unload_8 : decode cX6_unload 8 = .ok (.invokevirtual 33, 3) := by decide +kernel
theorem dX6_unload_11 : decode cX6_unload 11 = .ok (.aload_n 0, 1) := by decide +kernel
theorem dX6_unload_12 : decode cX6_unload 12 = .ok (.aload_n 0, 1) := by decide +kernel
theorem dX6_unload_13 : decode cX6_unload 13 = .ok (.getfield 16, 3) := by decide +kernel
theorem dX6_unload_16 : decode cX6_unload 16 = .ok (.iload_n 1, 1) := by decide +kernel
theorem dX6_unload_17 : decode cX6_unload 17 = .ok (.invokevirtual 54, 3) := by decide +kernel
theorem dX6_unload_20 : decode cX6_unload 20 = .ok (.invokevirtual 41, 3) := by decide +kernel
theorem dX6_unload_23 : decode cX6_unload 23 = .ok (.ireturn, 1) := by decide +kernel
theorem dX6_repair_0 : decode cX6_repair 0 = .ok (.aload_n 0, 1) := by decide +kernel
theorem dX6_repair_1 : decode cX6_repair 1 = .ok (.getfield 16, 3) := by decide +kernel
theorem dX6_repair_4 : decode cX6_repair 4 = .ok (.aload_n 0, 1) := by decide +kernel
theorem dX6_repair_5 : decode cX6_repair 5 = .ok (.getfield 10, 3) := by decide +kernel
theorem dX6_repair_8 : decode cX6_repair 8 = .ok (.invokevirtual 33, 3) := by decide +kernel
theorem dX6_repair_11 : decode cX6_repair 11 = .ok (.aload_n 0, 1) := by decide +kernel
theorem dX6_repair_12 : decode cX6_repair 12 = .ok (.aload_n 0, 1) := by decide +kernel
theorem dX6_repair_13 : decode cX6_repair 13 = .ok (.getfield 16, 3) := by decide +kernel
theorem dX6_repair_16 : decode cX6_repair 16 = .ok (.iload_n 1, 1) := by decide +kernel
theorem dX6_repair_17 : decode cX6_repair 17 = .ok (.invokevirtual 57, 3) := by decide +kernel
theorem dX6_repair_20 : decode cX6_repair 20 = .ok (.invokevirtual 41, 3) := by decide +kernel
theorem dX6_repair_23 : decode cX6_repair 23 = .ok (.ireturn, 1) := by decide +kernel
theorem dX6_train_0 : decode cX6_train 0 = .ok (.aload_n 0, 1) := by decide +kernel
theorem dX6_train_1 : decode cX6_train 1 = .ok (.getfield 16, 3) := by decide +kernel
theorem dX6_train_4 : decode cX6_train 4 = .ok (.aload_n 0, 1) := by decide +kernel
theorem dX6_train_5 : decode cX6_train 5 = .ok (.getfield 10, 3) := by decide +kernel
theorem dX6_train_8 : decode cX6_train 8 = .ok (.invokevirtual 33, 3) := by decide +kernel
theorem dX6_train_11 : decode cX6_train 11 = .ok (.aload_n 0, 1) := by decide +kernel
theorem dX6_train_12 : decode cX6_train 12 = .ok (.aload_n 0, 1) := by decide +kernel
theorem dX6_train_13 : decode cX6_train 13 = .ok (.getfield 16, 3) := by decide +kernel
theorem dX6_train_16 : decode cX6_train 16 = .ok (.iload_n 1, 1) := by decide +kernel
theorem dX6_train_17 : decode cX6_train 17 = .ok (.iload_n 2, 1) := by decide +kernel
theorem dX6_train_18 : decode cX6_train 18 = .ok (.iload_n 3, 1) := by decide +kernel
theorem dX6_train_19 : decode cX6_train 19 = .ok (.iload 4, 2) := by decide +kernel
theorem dX6_train_21 : decode cX6_train 21 = .ok (.invokevirtual 60, 3) := by decide +kernel
theorem dX6_train_24 : decode cX6_train 24 = .ok (.invokevirtual 41, 3) := by decide +kernel
theorem dX6_train_27 : decode cX6_train 27 = .ok (.ireturn, 1) := by decide +kernel
theorem dX6_pass_0 : decode cX6_pass 0 = .ok (.aload_n 0, 1) := by decide +kernel
theorem dX6_pass_1 : decode cX6_pass 1 = .ok (.getfield 16, 3) := by decide +kernel
theorem dX6_pass_4 : decode cX6_pass 4 = .ok (.aload_n 0, 1) := by decide +kernel
theorem dX6_pass_5 : decode cX6_pass 5 = .ok (.getfield 10, 3) := by decide +kernel
theorem dX6_pass_8 : decode cX6_pass 8 = .ok (.invokevirtual 33, 3) := by decide +kernel
theorem dX6_pass_11 : decode cX6_pass 11 = .ok (.aload_n 0, 1) := by decide +kernel
theorem dX6_pass_12 : decode cX6_pass 12 = .ok (.aload_n 0, 1) := by decide +kernel
theorem dX6_pass_13 : decode cX6_pass 13 = .ok (.getfield 16, 3) := by decide +kernel
theorem dX6_pass_16 : decode cX6_pass 16 = .ok (.iload_n 1, 1) := by decide +kernel
theorem dX6_pass_17 : decode cX6_pass 17 = .ok (.invokevirtual 64, 3) := by decide +kernel
theorem dX6_pass_20 : decode cX6_pass 20 = .ok (.invokevirtual 41, 3) := by decide +kernel
theorem dX6_pass_23 : decode cX6_pass 23 = .ok (.ireturn, 1) := by decide +kernel
theorem dX6_set_0 : decode cX6_set 0 = .ok (.aload_n 0, 1) := by decide +kernel
theorem dX6_set_1 : decode cX6_set 1 = .ok (.getfield 16, 3) := by decide +kernel
theorem dX6_set_4 : decode cX6_set 4 = .ok (.aload_n 0, 1) := by decide +kernel
theorem dX6_set_5 : decode cX6_set 5 = .ok (.getfield 10, 3) := by decide +kernel
theorem dX6_set_8 : decode cX6_set 8 = .ok (.invokevirtual 33, 3) := by decide +kernel
theorem dX6_set_11 : decode cX6_set 11 = .ok (.aload_n 0, 1) := by decide +kernel
theorem dX6_set_12 : decode cX6_set 12 = .ok (.aload_n 0, 1) := by decide +kernel
theorem dX6_set_13 : decode cX6_set 13 = .ok (.getfield 16, 3) := by decide +kernel
theorem dX6_set_16 : decode cX6_set 16 = .ok (.iload_n 1, 1) := by decide +kernel
theorem dX6_set_17 : decode cX6_set 17 = .ok (.iload_n 2, 1) := by decide +kernel
theorem dX6_set_18 : decode cX6_set 18 = .ok (.invokevirtual 67, 3) := by decide +kernel
theorem dX6_set_21 : decode cX6_set 21 = .ok (.invokevirtual 41, 3) := by decide +kernel
theorem dX6_set_24 : decode cX6_set 24 = .ok (.ireturn, 1) := by decide +kernel
theorem dX6_wagonOf_0 : decode cX6_wagonOf 0 = .ok (.aload_n 0, 1) := by decide +kernel
theorem dX6_wagonOf_1 : decode cX6_wagonOf 1 = .ok (.getfield 10, 3) := by decide +kernel
theorem dX6_wagonOf_4 : decode cX6_wagonOf 4 = .ok (.iload_n 1, 1) := by decide +kernel
theorem dX6_wagonOf_5 : decode cX6_wagonOf 5 = .ok (.iload_n 2, 1) := by decide +kernel
theorem dX6_wagonOf_6 : decode cX6_wagonOf 6 = .ok (.invokevirtual 71, 3) := by decide +kernel
theorem dX6_wagonOf_9 : decode cX6_wagonOf 9 = .ok (.ireturn, 1) := by decide +kernel
theorem dX6_placeOf_0 : decode cX6_placeOf 0 = .ok (.aload_n 0, 1) := by decide +kernel
theorem dX6_placeOf_1 : decode cX6_placeOf 1 = .ok (.getfield 10, 3) := by decide +kernel
theorem dX6_placeOf_4 : decode cX6_placeOf 4 = .ok (.iload_n 1, 1) := by decide +kernel
theorem dX6_placeOf_5 : decode cX6_placeOf 5 = .ok (.iload_n 2, 1) := by decide +kernel
theorem dX6_placeOf_6 : decode cX6_placeOf 6 = .ok (.invokevirtual 74, 3) := by decide +kernel
theorem dX6_placeOf_9 : decode cX6_placeOf 9 = .ok (.ireturn, 1) := by decide +kernel
theorem dX6_days_0 : decode cX6_days 0 = .ok (.aload_n 0, 1) := by decide +kernel
theorem dX6_days_1 : decode cX6_days 1 = .ok (.getfield 10, 3) := by decide +kernel
theorem dX6_days_4 : decode cX6_days 4 = .ok (.iload_n 1, 1) := by decide +kernel
theorem dX6_days_5 : decode cX6_days 5 = .ok (.iload_n 2, 1) := by decide +kernel
theorem dX6_days_6 : decode cX6_days 6 = .ok (.invokevirtual 77, 3) := by decide +kernel
theorem dX6_days_9 : decode cX6_days 9 = .ok (.ifCond .eq 15, 3) := by decide +kernel
theorem dX6_days_12 : decode cX6_days 12 = .ok (.aload_n 0, 1) := by decide +kernel
theorem dX6_days_13 : decode cX6_days 13 = .ok (.getfield 10, 3) := by decide +kernel
theorem dX6_days_16 : decode cX6_days 16 = .ok (.iload_n 1, 1) := by decide +kernel
theorem dX6_days_17 : decode cX6_days 17 = .ok (.iload_n 2, 1) := by decide +kernel
theorem dX6_days_18 : decode cX6_days 18 = .ok (.invokevirtual 81, 3) := by decide +kernel
theorem dX6_days_21 : decode cX6_days 21 = .ok (.goto 5, 3) := by decide +kernel
theorem dX6_days_24 : decode cX6_days 24 = .ok (.ldc 84, 2) := by decide +kernel
theorem dX6_days_26 : decode cX6_days 26 = .ok (.ireturn, 1) := by decide +kernel
theorem dX6_would_0 : decode cX6_would 0 = .ok (.aload_n 0, 1) := by decide +kernel
theorem dX6_would_1 : decode cX6_would 1 = .ok (.getfield 10, 3) := by decide +kernel
theorem dX6_would_4 : decode cX6_would 4 = .ok (.iload_n 1, 1) := by decide +kernel
theorem dX6_would_5 : decode cX6_would 5 = .ok (.invokevirtual 85, 3) := by decide +kernel
theorem dX6_would_8 : decode cX6_would 8 = .ok (.ifCond .eq 13, 3) := by decide +kernel
theorem dX6_would_11 : decode cX6_would 11 = .ok (.iload_n 2, 1) := by decide +kernel
theorem dX6_would_12 : decode cX6_would 12 = .ok (.iconst 0, 1) := by decide +kernel
theorem dX6_would_13 : decode cX6_would 13 = .ok (.bipush 99, 2) := by decide +kernel
theorem dX6_would_15 : decode cX6_would 15 = .ok (.invokestatic 89, 3) := by decide +kernel
theorem dX6_would_18 : decode cX6_would 18 = .ok (.ifCond .ne 6, 3) := by decide +kernel
theorem dX6_would_21 : decode cX6_would 21 = .ok (.ldc 84, 2) := by decide +kernel
theorem dX6_would_23 : decode cX6_would 23 = .ok (.ireturn, 1) := by decide +kernel
theorem dX6_would_24 : decode cX6_would 24 = .ok (.aload_n 0, 1) := by decide +kernel
theorem dX6_would_25 : decode cX6_would 25 = .ok (.getfield 16, 3) := by decide +kernel
theorem dX6_would_28 : decode cX6_would 28 = .ok (.aload_n 0, 1) := by decide +kernel
theorem dX6_would_29 : decode cX6_would 29 = .ok (.getfield 10, 3) := by decide +kernel
theorem dX6_would_32 : decode cX6_would 32 = .ok (.invokevirtual 33, 3) := by decide +kernel
theorem dX6_would_35 : decode cX6_would 35 = .ok (.aload_n 0, 1) := by decide +kernel
theorem dX6_would_36 : decode cX6_would 36 = .ok (.getfield 16, 3) := by decide +kernel
theorem dX6_would_39 : decode cX6_would 39 = .ok (.iload_n 2, 1) := by decide +kernel
theorem dX6_would_40 : decode cX6_would 40 = .ok (.invokevirtual 93, 3) := by decide +kernel
theorem dX6_would_43 : decode cX6_would 43 = .ok (.pop, 1) := by decide +kernel
theorem dX6_would_44 : decode cX6_would 44 = .ok (.aload_n 0, 1) := by decide +kernel
theorem dX6_would_45 : decode cX6_would 45 = .ok (.getfield 16, 3) := by decide +kernel
theorem dX6_would_48 : decode cX6_would 48 = .ok (.iload_n 1, 1) := by decide +kernel
theorem dX6_would_49 : decode cX6_would 49 = .ok (.invokevirtual 96, 3) := by decide +kernel
theorem dX6_would_52 : decode cX6_would 52 = .ok (.ireturn, 1) := by decide +kernel
theorem dX6_lacks_0 : decode cX6_lacks 0 = .ok (.aload_n 0, 1) := by decide +kernel
theorem dX6_lacks_1 : decode cX6_lacks 1 = .ok (.getfield 10, 3) := by decide +kernel
theorem dX6_lacks_4 : decode cX6_lacks 4 = .ok (.iload_n 1, 1) := by decide +kernel
theorem dX6_lacks_5 : decode cX6_lacks 5 = .ok (.invokevirtual 99, 3) := by decide +kernel
theorem dX6_lacks_8 : decode cX6_lacks 8 = .ok (.ifCond .eq 14, 3) := by decide +kernel
theorem dX6_lacks_11 : decode cX6_lacks 11 = .ok (.aload_n 0, 1) := by decide +kernel
theorem dX6_lacks_12 : decode cX6_lacks 12 = .ok (.getfield 10, 3) := by decide +kernel
theorem dX6_lacks_15 : decode cX6_lacks 15 = .ok (.iload_n 1, 1) := by decide +kernel
theorem dX6_lacks_16 : decode cX6_lacks 16 = .ok (.invokevirtual 102, 3) := by decide +kernel
theorem dX6_lacks_19 : decode cX6_lacks 19 = .ok (.goto 5, 3) := by decide +kernel
theorem dX6_lacks_22 : decode cX6_lacks 22 = .ok (.ldc 84, 2) := by decide +kernel
theorem dX6_lacks_24 : decode cX6_lacks 24 = .ok (.ireturn, 1) := by decide +kernel
theorem dX6_bestTrain_0 : decode cX6_bestTrain 0 = .ok (.iload_n 1, 1) := by decide +kernel
theorem dX6_bestTrain_1 : decode cX6_bestTrain 1 = .ok (.iconst 0, 1) := by decide +kernel
theorem dX6_bestTrain_2 : decode cX6_bestTrain 2 = .ok (.iconst 2, 1) := by decide +kernel
theorem dX6_bestTrain_3 : decode cX6_bestTrain 3 = .ok (.invokestatic 89, 3) := by decide +kernel
theorem dX6_bestTrain_6 : decode cX6_bestTrain 6 = .ok (.ifCond .ne 6, 3) := by decide +kernel
theorem dX6_bestTrain_9 : decode cX6_bestTrain 9 = .ok (.ldc 84, 2) := by decide +kernel
theorem dX6_bestTrain_11 : decode cX6_bestTrain 11 = .ok (.ireturn, 1) := by decide +kernel
theorem dX6_bestTrain_12 : decode cX6_bestTrain 12 = .ok (.aload_n 0, 1) := by decide +kernel
theorem dX6_bestTrain_13 : decode cX6_bestTrain 13 = .ok (.getfield 10, 3) := by decide +kernel
theorem dX6_bestTrain_16 : decode cX6_bestTrain 16 = .ok (.invokevirtual 105, 3) := by decide +kernel
theorem dX6_bestTrain_19 : decode cX6_bestTrain 19 = .ok (.istore_n 2, 1) := by decide +kernel
theorem dX6_bestTrain_20 : decode cX6_bestTrain 20 = .ok (.iload_n 2, 1) := by decide +kernel
theorem dX6_bestTrain_21 : decode cX6_bestTrain 21 = .ok (.iconst (-1), 1) := by decide +kernel
theorem dX6_bestTrain_22 : decode cX6_bestTrain 22 = .ok (.if_icmp .ne 7, 3) := by decide +kernel
theorem dX6_bestTrain_25 : decode cX6_bestTrain 25 = .ok (.iconst (-1), 1) := by decide +kernel
theorem dX6_bestTrain_26 : decode cX6_bestTrain 26 = .ok (.goto 11, 3) := by decide +kernel
theorem dX6_bestTrain_29 : decode cX6_bestTrain 29 = .ok (.aload_n 0, 1) := by decide +kernel
theorem dX6_bestTrain_30 : decode cX6_bestTrain 30 = .ok (.getfield 10, 3) := by decide +kernel
theorem dX6_bestTrain_33 : decode cX6_bestTrain 33 = .ok (.iload_n 2, 1) := by decide +kernel
theorem dX6_bestTrain_34 : decode cX6_bestTrain 34 = .ok (.invokevirtual 109, 3) := by decide +kernel
theorem dX6_bestTrain_37 : decode cX6_bestTrain 37 = .ok (.istore_n 3, 1) := by decide +kernel
theorem dX6_bestTrain_38 : decode cX6_bestTrain 38 = .ok (.iload_n 3, 1) := by decide +kernel
theorem dX6_bestTrain_39 : decode cX6_bestTrain 39 = .ok (.iconst (-1), 1) := by decide +kernel
theorem dX6_bestTrain_40 : decode cX6_bestTrain 40 = .ok (.if_icmp .ne 6, 3) := by decide +kernel
theorem dX6_bestTrain_43 : decode cX6_bestTrain 43 = .ok (.ldc 112, 2) := by decide +kernel
theorem dX6_bestTrain_45 : decode cX6_bestTrain 45 = .ok (.ireturn, 1) := by decide +kernel
theorem dX6_bestTrain_46 : decode cX6_bestTrain 46 = .ok (.iload_n 1, 1) := by decide +kernel
theorem dX6_bestTrain_47 : decode cX6_bestTrain 47 = .ok (.ifCond .ne 5, 3) := by decide +kernel
theorem dX6_bestTrain_50 : decode cX6_bestTrain 50 = .ok (.iload_n 3, 1) := by decide +kernel
theorem dX6_bestTrain_51 : decode cX6_bestTrain 51 = .ok (.ireturn, 1) := by decide +kernel
theorem dX6_bestTrain_52 : decode cX6_bestTrain 52 = .ok (.iload_n 1, 1) := by decide +kernel
theorem dX6_bestTrain_53 : decode cX6_bestTrain 53 = .ok (.iconst 1, 1) := by decide +kernel
theorem dX6_bestTrain_54 : decode cX6_bestTrain 54 = .ok (.if_icmp .ne 5, 3) := by decide +kernel
theorem dX6_bestTrain_57 : decode cX6_bestTrain 57 = .ok (.iload_n 2, 1) := by decide +kernel
theorem dX6_bestTrain_58 : decode cX6_bestTrain 58 = .ok (.ireturn, 1) := by decide +kernel
theorem dX6_bestTrain_59 : decode cX6_bestTrain 59 = .ok (.bipush 8, 2) := by decide +kernel
theorem dX6_bestTrain_61 : decode cX6_bestTrain 61 = .ok (.aload_n 0, 1) := by decide +kernel
theorem dX6_bestTrain_62 : decode cX6_bestTrain 62 = .ok (.getfield 10, 3) := by decide +kernel
theorem dX6_bestTrain_65 : decode cX6_bestTrain 65 = .ok (.iload_n 2, 1) := by decide +kernel
theorem dX6_bestTrain_66 : decode cX6_bestTrain 66 = .ok (.invokevirtual 102, 3) := by decide +kernel
theorem dX6_bestTrain_69 : decode cX6_bestTrain 69 = .ok (.aload_n 0, 1) := by decide +kernel
theorem dX6_bestTrain_70 : decode cX6_bestTrain 70 = .ok (.getfield 10, 3) := by decide +kernel
theorem dX6_bestTrain_73 : decode cX6_bestTrain 73 = .ok (.iload_n 3, 1) := by decide +kernel
theorem dX6_bestTrain_74 : decode cX6_bestTrain 74 = .ok (.invokevirtual 113, 3) := by decide +kernel
theorem dX6_bestTrain_77 : decode cX6_bestTrain 77 = .ok (.invokestatic 116, 3) := by decide +kernel
theorem dX6_bestTrain_80 : decode cX6_bestTrain 80 = .ok (.invokestatic 116, 3) := by decide +kernel
theorem dX6_bestTrain_83 : decode cX6_bestTrain 83 = .ok (.ireturn, 1) := by decide +kernel
theorem dX6_share_0 : decode cX6_share 0 = .ok (.aload_n 0, 1) := by decide +kernel
theorem dX6_share_1 : decode cX6_share 1 = .ok (.getfield 10, 3) := by decide +kernel
theorem dX6_share_4 : decode cX6_share 4 = .ok (.iload_n 1, 1) := by decide +kernel
theorem dX6_share_5 : decode cX6_share 5 = .ok (.invokevirtual 99, 3) := by decide +kernel
theorem dX6_share_8 : decode cX6_share 8 = .ok (.ifCond .ne 6, 3) := by decide +kernel
theorem dX6_share_11 : decode cX6_share 11 = .ok (.ldc 84, 2) := by decide +kernel
theorem dX6_share_13 : decode cX6_share 13 = .ok (.ireturn, 1) := by decide +kernel
theorem dX6_share_14 : decode cX6_share 14 = .ok (.aload_n 0, 1) := by decide +kernel
theorem dX6_share_15 : decode cX6_share 15 = .ok (.getfield 10, 3) := by decide +kernel
theorem dX6_share_18 : decode cX6_share 18 = .ok (.iload_n 1, 1) := by decide +kernel
theorem dX6_share_19 : decode cX6_share 19 = .ok (.invokevirtual 121, 3) := by decide +kernel
theorem dX6_share_22 : decode cX6_share 22 = .ok (.istore_n 2, 1) := by decide +kernel
theorem dX6_share_23 : decode cX6_share 23 = .ok (.iload_n 2, 1) := by decide +kernel
theorem dX6_share_24 : decode cX6_share 24 = .ok (.ifCond .ne 6, 3) := by decide +kernel
theorem dX6_share_27 : decode cX6_share 27 = .ok (.ldc 112, 2) := by decide +kernel
theorem dX6_share_29 : decode cX6_share 29 = .ok (.ireturn, 1) := by decide +kernel
theorem dX6_share_30 : decode cX6_share 30 = .ok (.aload_n 0, 1) := by decide +kernel
theorem dX6_share_31 : decode cX6_share 31 = .ok (.getfield 10, 3) := by decide +kernel
theorem dX6_share_34 : decode cX6_share 34 = .ok (.iload_n 1, 1) := by decide +kernel
theorem dX6_share_35 : decode cX6_share 35 = .ok (.invokevirtual 124, 3) := by decide +kernel
theorem dX6_share_38 : decode cX6_share 38 = .ok (.i2f, 1) := by decide +kernel
theorem dX6_share_39 : decode cX6_share 39 = .ok (.iload_n 2, 1) := by decide +kernel
theorem dX6_share_40 : decode cX6_share 40 = .ok (.i2f, 1) := by decide +kernel
theorem dX6_share_41 : decode cX6_share 41 = .ok (.fdiv, 1) := by decide +kernel
theorem dX6_share_42 : decode cX6_share 42 = .ok (.invokestatic 127, 3) := by decide +kernel
theorem dX6_share_45 : decode cX6_share 45 = .ok (.ireturn, 1) := by decide +kernel
theorem dX6_count_0 : decode cX6_count 0 = .ok (.iload_n 1, 1) := by decide +kernel
theorem dX6_count_1 : decode cX6_count 1 = .ok (.bipush 13, 2) := by decide +kernel
theorem dX6_count_3 : decode cX6_count 3 = .ok (.if_icmp .ne 11, 3) := by decide +kernel
theorem dX6_count_6 : decode cX6_count 6 = .ok (.aload_n 0, 1) := by decide +kernel
theorem dX6_count_7 : decode cX6_count 7 = .ok (.getfield 22, 3) := by decide +kernel
theorem dX6_count_10 : decode cX6_count 10 = .ok (.invokevirtual 131, 3) := by decide +kernel
theorem dX6_count_13 : decode cX6_count 13 = .ok (.ireturn, 1) := by decide +kernel
theorem dX6_count_14 : decode cX6_count 14 = .ok (.iload_n 1, 1) := by decide +kernel
theorem dX6_count_15 : decode cX6_count 15 = .ok (.bipush 14, 2) := by decide +kernel
theorem dX6_count_17 : decode cX6_count 17 = .ok (.if_icmp .ne 11, 3) := by decide +kernel
theorem dX6_count_20 : decode cX6_count 20 = .ok (.aload_n 0, 1) := by decide +kernel
theorem dX6_count_21 : decode cX6_count 21 = .ok (.getfield 29, 3) := by decide +kernel
theorem dX6_count_24 : decode cX6_count 24 = .ok (.invokevirtual 134, 3) := by decide +kernel
theorem dX6_count_27 : decode cX6_count 27 = .ok (.ireturn, 1) := by decide +kernel
theorem dX6_count_28 : decode cX6_count 28 = .ok (.aload_n 0, 1) := by decide +kernel
theorem dX6_count_29 : decode cX6_count 29 = .ok (.getfield 10, 3) := by decide +kernel
theorem dX6_count_32 : decode cX6_count 32 = .ok (.iload_n 1, 1) := by decide +kernel
theorem dX6_count_33 : decode cX6_count 33 = .ok (.invokevirtual 137, 3) := by decide +kernel
theorem dX6_count_36 : decode cX6_count 36 = .ok (.ireturn, 1) := by decide +kernel
theorem dX6_undo_0 : decode cX6_undo 0 = .ok (.aload_n 0, 1) := by decide +kernel
theorem dX6_undo_1 : decode cX6_undo 1 = .ok (.getfield 22, 3) := by decide +kernel
theorem dX6_undo_4 : decode cX6_undo 4 = .ok (.invokevirtual 131, 3) := by decide +kernel
theorem dX6_undo_7 : decode cX6_undo 7 = .ok (.ifCond .ne 6, 3) := by decide +kernel
theorem dX6_undo_10 : decode cX6_undo 10 = .ok (.ldc 140, 2) := by decide +kernel
theorem dX6_undo_12 : decode cX6_undo 12 = .ok (.ireturn, 1) := by decide +kernel
theorem dX6_undo_13 : decode cX6_undo 13 = .ok (.aload_n 0, 1) := by decide +kernel
theorem dX6_undo_14 : decode cX6_undo 14 = .ok (.getfield 22, 3) := by decide +kernel
theorem dX6_undo_17 : decode cX6_undo 17 = .ok (.aload_n 0, 1) := by decide +kernel
theorem dX6_undo_18 : decode cX6_undo 18 = .ok (.getfield 10, 3) := by decide +kernel
theorem dX6_undo_21 : decode cX6_undo 21 = .ok (.invokevirtual 141, 3) := by decide +kernel
theorem dX6_undo_24 : decode cX6_undo 24 = .ok (.aload_n 0, 1) := by decide +kernel
theorem dX6_undo_25 : decode cX6_undo 25 = .ok (.getfield 22, 3) := by decide +kernel
theorem dX6_undo_28 : decode cX6_undo 28 = .ok (.invokevirtual 131, 3) := by decide +kernel
theorem dX6_undo_31 : decode cX6_undo 31 = .ok (.ireturn, 1) := by decide +kernel
theorem dX6_type_0 : decode cX6_type 0 = .ok (.aload_n 0, 1) := by decide +kernel
theorem dX6_type_1 : decode cX6_type 1 = .ok (.getfield 29, 3) := by decide +kernel
theorem dX6_type_4 : decode cX6_type 4 = .ok (.iload_n 1, 1) := by decide +kernel
theorem dX6_type_5 : decode cX6_type 5 = .ok (.invokevirtual 144, 3) := by decide +kernel
theorem dX6_type_8 : decode cX6_type 8 = .ok (.ireturn, 1) := by decide +kernel
theorem dX6_clearText_0 : decode cX6_clearText 0 = .ok (.aload_n 0, 1) := by decide +kernel
theorem dX6_clearText_1 : decode cX6_clearText 1 = .ok (.getfield 29, 3) := by decide +kernel
theorem dX6_clearText_4 : decode cX6_clearText 4 = .ok (.invokevirtual 147, 3) := by decide +kernel
theorem dX6_clearText_7 : decode cX6_clearText 7 = .ok (.ireturn, 1) := by decide +kernel
theorem dX6_fault_0 : decode cX6_fault 0 = .ok (.iload_n 1, 1) := by decide +kernel
theorem dX6_fault_1 : decode cX6_fault 1 = .ok (.iconst 0, 1) := by decide +kernel
theorem dX6_fault_2 : decode cX6_fault 2 = .ok (.iconst 2, 1) := by decide +kernel
theorem dX6_fault_3 : decode cX6_fault 3 = .ok (.invokestatic 89, 3) := by decide +kernel
theorem dX6_fault_6 : decode cX6_fault 6 = .ok (.ifCond .ne 6, 3) := by decide +kernel
theorem dX6_fault_9 : decode cX6_fault 9 = .ok (.ldc 84, 2) := by decide +kernel
theorem dX6_fault_11 : decode cX6_fault 11 = .ok (.ireturn, 1) := by decide +kernel
theorem dX6_fault_12 : decode cX6_fault 12 = .ok (.aload_n 0, 1) := by decide +kernel
theorem dX6_fault_13 : decode cX6_fault 13 = .ok (.getfield 16, 3) := by decide +kernel
theorem dX6_fault_16 : decode cX6_fault 16 = .ok (.aload_n 0, 1) := by decide +kernel
theorem dX6_fault_17 : decode cX6_fault 17 = .ok (.getfield 10, 3) := by decide +kernel
theorem dX6_fault_20 : decode cX6_fault 20 = .ok (.invokevirtual 33, 3) := by decide +kernel
theorem dX6_fault_23 : decode cX6_fault 23 = .ok (.aload_n 0, 1) := by decide +kernel
theorem dX6_fault_24 : decode cX6_fault 24 = .ok (.getfield 29, 3) := by decide +kernel
theorem dX6_fault_27 : decode cX6_fault 27 = .ok (.aload_n 0, 1) := by decide +kernel
theorem dX6_fault_28 : decode cX6_fault 28 = .ok (.getfield 16, 3) := by decide +kernel
theorem dX6_fault_31 : decode cX6_fault 31 = .ok (.invokevirtual 150, 3) := by decide +kernel
theorem dX6_fault_34 : decode cX6_fault 34 = .ok (.aload_n 0, 1) := by decide +kernel
theorem dX6_fault_35 : decode cX6_fault 35 = .ok (.getfield 29, 3) := by decide +kernel
theorem dX6_fault_38 : decode cX6_fault 38 = .ok (.invokevirtual 153, 3) := by decide +kernel
theorem dX6_fault_41 : decode cX6_fault 41 = .ok (.ifCond .ne 6, 3) := by decide +kernel
theorem dX6_fault_44 : decode cX6_fault 44 = .ok (.ldc 112, 2) := by decide +kernel
theorem dX6_fault_46 : decode cX6_fault 46 = .ok (.ireturn, 1) := by decide +kernel
theorem dX6_fault_47 : decode cX6_fault 47 = .ok (.iload_n 1, 1) := by decide +kernel
theorem dX6_fault_48 : decode cX6_fault 48 = .ok (.ifCond .ne 11, 3) := by decide +kernel
theorem dX6_fault_51 : decode cX6_fault 51 = .ok (.aload_n 0, 1) := by decide +kernel
theorem dX6_fault_52 : decode cX6_fault 52 = .ok (.getfield 29, 3) := by decide +kernel
theorem dX6_fault_55 : decode cX6_fault 55 = .ok (.invokevirtual 157, 3) := by decide +kernel
theorem dX6_fault_58 : decode cX6_fault 58 = .ok (.ireturn, 1) := by decide +kernel
theorem dX6_fault_59 : decode cX6_fault 59 = .ok (.iload_n 1, 1) := by decide +kernel
theorem dX6_fault_60 : decode cX6_fault 60 = .ok (.iconst 1, 1) := by decide +kernel
theorem dX6_fault_61 : decode cX6_fault 61 = .ok (.if_icmp .ne 13, 3) := by decide +kernel
theorem dX6_fault_64 : decode cX6_fault 64 = .ok (.aload_n 0, 1) := by decide +kernel
theorem dX6_fault_65 : decode cX6_fault 65 = .ok (.getfield 29, 3) := by decide +kernel
theorem dX6_fault_68 : decode cX6_fault 68 = .ok (.invokevirtual 160, 3) := by decide +kernel
theorem dX6_fault_71 : decode cX6_fault 71 = .ok (.goto 10, 3) := by decide +kernel
theorem dX6_fault_74 : decode cX6_fault 74 = .ok (.aload_n 0, 1) := by decide +kernel
theorem dX6_fault_75 : decode cX6_fault 75 = .ok (.getfield 29, 3) := by decide +kernel
theorem dX6_fault_78 : decode cX6_fault 78 = .ok (.invokevirtual 163, 3) := by decide +kernel
theorem dX6_fault_81 : decode cX6_fault 81 = .ok (.ireturn, 1) := by decide +kernel
theorem dX6_play_0 : decode cX6_play 0 = .ok (.aload_n 0, 1) := by decide +kernel
theorem dX6_play_1 : decode cX6_play 1 = .ok (.getfield 16, 3) := by decide +kernel
theorem dX6_play_4 : decode cX6_play 4 = .ok (.aload_n 0, 1) := by decide +kernel
theorem dX6_play_5 : decode cX6_play 5 = .ok (.getfield 10, 3) := by decide +kernel
theorem dX6_play_8 : decode cX6_play 8 = .ok (.invokevirtual 33, 3) := by decide +kernel
theorem dX6_play_11 : decode cX6_play 11 = .ok (.aload_n 0, 1) := by decide +kernel
theorem dX6_play_12 : decode cX6_play 12 = .ok (.getfield 29, 3) := by decide +kernel
theorem dX6_play_15 : decode cX6_play 15 = .ok (.aload_n 0, 1) := by decide +kernel
theorem dX6_play_16 : decode cX6_play 16 = .ok (.getfield 16, 3) := by decide +kernel
theorem dX6_play_19 : decode cX6_play 19 = .ok (.invokevirtual 150, 3) := by decide +kernel
theorem dX6_play_22 : decode cX6_play 22 = .ok (.aload_n 0, 1) := by decide +kernel
theorem dX6_play_23 : decode cX6_play 23 = .ok (.aload_n 0, 1) := by decide +kernel
theorem dX6_play_24 : decode cX6_play 24 = .ok (.getfield 29, 3) := by decide +kernel
theorem dX6_play_27 : decode cX6_play 27 = .ok (.invokevirtual 153, 3) := by decide +kernel
theorem dX6_play_30 : decode cX6_play 30 = .ok (.ifCond .eq 8, 3) := by decide +kernel
theorem dX6_play_33 : decode cX6_play 33 = .ok (.ldc 140, 2) := by decide +kernel
theorem dX6_play_35 : decode cX6_play 35 = .ok (.goto 10, 3) := by decide +kernel
theorem dX6_play_38 : decode cX6_play 38 = .ok (.aload_n 0, 1) := by decide +kernel
theorem dX6_play_39 : decode cX6_play 39 = .ok (.getfield 29, 3) := by decide +kernel
theorem dX6_play_42 : decode cX6_play 42 = .ok (.invokevirtual 166, 3) := by decide +kernel
theorem dX6_play_45 : decode cX6_play 45 = .ok (.invokevirtual 41, 3) := by decide +kernel
theorem dX6_play_48 : decode cX6_play 48 = .ok (.ireturn, 1) := by decide +kernel
theorem dX6_settle_0 : decode cX6_settle 0 = .ok (.iload_n 1, 1) := by decide +kernel
theorem dX6_settle_1 : decode cX6_settle 1 = .ok (.invokestatic 169, 3) := by decide +kernel
theorem dX6_settle_4 : decode cX6_settle 4 = .ok (.ifCond .ne 25, 3) := by decide +kernel
theorem dX6_settle_7 : decode cX6_settle 7 = .ok (.aload_n 0, 1) := by decide +kernel
theorem dX6_settle_8 : decode cX6_settle 8 = .ok (.getfield 22, 3) := by decide +kernel
theorem dX6_settle_11 : decode cX6_settle 11 = .ok (.aload_n 0, 1) := by decide +kernel
theorem dX6_settle_12 : decode cX6_settle 12 = .ok (.getfield 10, 3) := by decide +kernel
theorem dX6_settle_15 : decode cX6_settle 15 = .ok (.invokevirtual 172, 3) := by decide +kernel
theorem dX6_settle_18 : decode cX6_settle 18 = .ok (.aload_n 0, 1) := by decide +kernel
theorem dX6_settle_19 : decode cX6_settle 19 = .ok (.getfield 10, 3) := by decide +kernel
theorem dX6_settle_22 : decode cX6_settle 22 = .ok (.aload_n 0, 1) := by decide +kernel
theorem dX6_settle_23 : decode cX6_settle 23 = .ok (.getfield 16, 3) := by decide +kernel
theorem dX6_settle_26 : decode cX6_settle 26 = .ok (.invokevirtual 33, 3) := by decide +kernel
theorem dX6_settle_29 : decode cX6_settle 29 = .ok (.iload_n 1, 1) := by decide +kernel
theorem dX6_settle_30 : decode cX6_settle 30 = .ok (.ireturn, 1) := by decide +kernel
theorem dX6_isError_0 : decode cX6_isError 0 = .ok (.iload_n 0, 1) := by decide +kernel
theorem dX6_isError_1 : decode cX6_isError 1 = .ok (.ldc 112, 2) := by decide +kernel
theorem dX6_isError_3 : decode cX6_isError 3 = .ok (.ldc 84, 2) := by decide +kernel
theorem dX6_isError_5 : decode cX6_isError 5 = .ok (.invokestatic 89, 3) := by decide +kernel
theorem dX6_isError_8 : decode cX6_isError 8 = .ok (.ireturn, 1) := by decide +kernel
theorem dX6_within_0 : decode cX6_within 0 = .ok (.iload_n 0, 1) := by decide +kernel
theorem dX6_within_1 : decode cX6_within 1 = .ok (.iload_n 1, 1) := by decide +kernel
theorem dX6_within_2 : decode cX6_within 2 = .ok (.if_icmp .lt 12, 3) := by decide +kernel
theorem dX6_within_5 : decode cX6_within 5 = .ok (.iload_n 0, 1) := by decide +kernel
theorem dX6_within_6 : decode cX6_within 6 = .ok (.iload_n 2, 1) := by decide +kernel
theorem dX6_within_7 : decode cX6_within 7 = .ok (.if_icmp .gt 7, 3) := by decide +kernel
theorem dX6_within_10 : decode cX6_within 10 = .ok (.iconst 1, 1) := by decide +kernel
theorem dX6_within_11 : decode cX6_within 11 = .ok (.goto 4, 3) := by decide +kernel
theorem dX6_within_14 : decode cX6_within 14 = .ok (.iconst 0, 1) := by decide +kernel
theorem dX6_within_15 : decode cX6_within 15 = .ok (.ireturn, 1) := by decide +kernel
theorem dX6_bitsOfShare_0 : decode cX6_bitsOfShare 0 = .ok (.fload_n 0, 1) := by decide +kernel
theorem dX6_bitsOfShare_1 : decode cX6_bitsOfShare 1 = .ok (.fconst 0, 1) := by decide +kernel
theorem dX6_bitsOfShare_2 : decode cX6_bitsOfShare 2 = .ok (.fcmp .l, 1) := by decide +kernel
theorem dX6_bitsOfShare_3 : decode cX6_bitsOfShare 3 = .ok (.ifCond .gt 5, 3) := by decide +kernel
theorem dX6_bitsOfShare_6 : decode cX6_bitsOfShare 6 = .ok (.iconst 0, 1) := by decide +kernel
theorem dX6_bitsOfShare_7 : decode cX6_bitsOfShare 7 = .ok (.ireturn, 1) := by decide +kernel
theorem dX6_bitsOfShare_8 : decode cX6_bitsOfShare 8 = .ok (.fload_n 0, 1) := by decide +kernel
theorem dX6_bitsOfShare_9 : decode cX6_bitsOfShare 9 = .ok (.fstore_n 1, 1) := by decide +kernel
theorem dX6_bitsOfShare_10 : decode cX6_bitsOfShare 10 = .ok (.bipush 127, 2) := by decide +kernel
theorem dX6_bitsOfShare_12 : decode cX6_bitsOfShare 12 = .ok (.istore_n 2, 1) := by decide +kernel
theorem dX6_bitsOfShare_13 : decode cX6_bitsOfShare 13 = .ok (.fload_n 1, 1) := by decide +kernel
theorem dX6_bitsOfShare_14 : decode cX6_bitsOfShare 14 = .ok (.fconst 1, 1) := by decide +kernel
theorem dX6_bitsOfShare_15 : decode cX6_bitsOfShare 15 = .ok (.fcmp .g, 1) := by decide +kernel
theorem dX6_bitsOfShare_16 : decode cX6_bitsOfShare 16 = .ok (.ifCond .ge 18, 3) := by decide +kernel
theorem dX6_bitsOfShare_19 : decode cX6_bitsOfShare 19 = .ok (.iload_n 2, 1) := by decide +kernel
theorem dX6_bitsOfShare_20 : decode cX6_bitsOfShare 20 = .ok (.iconst 1, 1) := by decide +kernel
theorem dX6_bitsOfShare_21 : decode cX6_bitsOfShare 21 = .ok (.if_icmp .le 13, 3) := by decide +kernel
theorem dX6_bitsOfShare_24 : decode cX6_bitsOfShare 24 = .ok (.fload_n 1, 1) := by decide +kernel
theorem dX6_bitsOfShare_25 : decode cX6_bitsOfShare 25 = .ok (.fconst 2, 1) := by decide +kernel
theorem dX6_bitsOfShare_26 : decode cX6_bitsOfShare 26 = .ok (.fmul, 1) := by decide +kernel
theorem dX6_bitsOfShare_27 : decode cX6_bitsOfShare 27 = .ok (.fstore_n 1, 1) := by decide +kernel
theorem dX6_bitsOfShare_28 : decode cX6_bitsOfShare 28 = .ok (.iinc 2 (-1), 3) := by decide +kernel
theorem dX6_bitsOfShare_31 : decode cX6_bitsOfShare 31 = .ok (.goto (-18), 3) := by decide +kernel
theorem dX6_bitsOfShare_34 : decode cX6_bitsOfShare 34 = .ok (.fload_n 1, 1) := by decide +kernel
theorem dX6_bitsOfShare_35 : decode cX6_bitsOfShare 35 = .ok (.ldc 175, 2) := by decide +kernel
theorem dX6_bitsOfShare_37 : decode cX6_bitsOfShare 37 = .ok (.fmul, 1) := by decide +kernel
theorem dX6_bitsOfShare_38 : decode cX6_bitsOfShare 38 = .ok (.f2i, 1) := by decide +kernel
theorem dX6_bitsOfShare_39 : decode cX6_bitsOfShare 39 = .ok (.ldc 176, 2) := by decide +kernel
theorem dX6_bitsOfShare_41 : decode cX6_bitsOfShare 41 = .ok (.isub, 1) := by decide +kernel
theorem dX6_bitsOfShare_42 : decode cX6_bitsOfShare 42 = .ok (.istore_n 3, 1) := by decide +kernel
theorem dX6_bitsOfShare_43 : decode cX6_bitsOfShare 43 = .ok (.iload_n 2, 1) := by decide +kernel
theorem dX6_bitsOfShare_44 : decode cX6_bitsOfShare 44 = .ok (.bipush 23, 2) := by decide +kernel
theorem dX6_bitsOfShare_46 : decode cX6_bitsOfShare 46 = .ok (.ishl, 1) := by decide +kernel
theorem dX6_bitsOfShare_47 : decode cX6_bitsOfShare 47 = .ok (.iload_n 3, 1) := by decide +kernel
theorem dX6_bitsOfShare_48 : decode cX6_bitsOfShare 48 = .ok (.iadd, 1) := by decide +kernel
theorem dX6_bitsOfShare_49 : decode cX6_bitsOfShare 49 = .ok (.ireturn, 1) := by decide +kernel
theorem dX7_init_0 : decode cX7_init 0 = .ok (.aload_n 0, 1) := by decide +kernel
theorem dX7_init_1 : decode cX7_init 1 = .ok (.invokespecial 1, 3) := by decide +kernel
theorem dX7_init_4 : decode cX7_init 4 = .ok (.aload_n 0, 1) := by decide +kernel
theorem dX7_init_5 : decode cX7_init 5 = .ok (.sipush 269, 3) := by decide +kernel
theorem dX7_init_8 : decode cX7_init 8 = .ok (.newarray .int, 2) := by decide +kernel
theorem dX7_init_10 : decode cX7_init 10 = .ok (.putfield 7, 3) := by decide +kernel
theorem dX7_init_13 : decode cX7_init 13 = .ok (.aload_n 0, 1) := by decide +kernel
theorem dX7_init_14 : decode cX7_init 14 = .ok (.sipush 269, 3) := by decide +kernel
theorem dX7_init_17 : decode cX7_init 17 = .ok (.newarray .int, 2) := by decide +kernel
theorem dX7_init_19 : decode cX7_init 19 = .ok (.putfield 13, 3) := by decide +kernel
theorem dX7_init_22 : decode cX7_init 22 = .ok (.aload_n 0, 1) := by decide +kernel
theorem dX7_init_23 : decode cX7_init 23 = .ok (.sipush 269, 3) := by decide +kernel
theorem dX7_init_26 : decode cX7_init 26 = .ok (.newarray .int, 2) := by decide +kernel
theorem dX7_init_28 : decode cX7_init 28 = .ok (.putfield 16, 3) := by decide +kernel
theorem dX7_init_31 : decode cX7_init 31 = .ok (.aload_n 0, 1) := by decide +kernel
theorem dX7_init_32 : decode cX7_init 32 = .ok (.sipush 1076, 3) := by decide +kernel
theorem dX7_init_35 : decode cX7_init 35 = .ok (.newarray .int, 2) := by decide +kernel
theorem dX7_init_37 : decode cX7_init 37 = .ok (.putfield 19, 3) := by decide +kernel
theorem dX7_init_40 : decode cX7_init 40 = .ok (.aload_n 0, 1) := by decide +kernel
theorem dX7_init_41 : decode cX7_init 41 = .ok (.bipush 60, 2) := by decide +kernel
theorem dX7_init_43 : decode cX7_init 43 = .ok (.newarray .int, 2) := by decide +kernel
theorem dX7_init_45 : decode cX7_init 45 = .ok (.putfield 22, 3) := by decide +kernel
theorem dX7_init_48 : decode cX7_init 48 = .ok (.aload_n 0, 1) := by decide +kernel
theorem dX7_init_49 : decode cX7_init 49 = .ok (.iconst 4, 1) := by decide +kernel
theorem dX7_init_50 : decode cX7_init 50 = .ok (.newarray .int, 2) := by decide +kernel
theorem dX7_init_52 : decode cX7_init 52 = .ok (.putfield 25, 3) := by decide +kernel
theorem dX7_init_55 : decode cX7_init 55 = .ok (.aload_n 0, 1) := by decide +kernel
theorem dX7_init_56 : decode cX7_init 56 = .ok (.getfield 7, 3) := by decide +kernel
theorem dX7_init_59 : decode cX7_init 59 = .ok (.bipush 7, 2) := by decide +kernel
theorem dX7_init_61 : decode cX7_init 61 = .ok (.iconst 3, 1) := by decide +kernel
theorem dX7_init_62 : decode cX7_init 62 = .ok (.iastore, 1) := by decide +kernel
theorem dX7_init_63 : decode cX7_init 63 = .ok (.aload_n 0, 1) := by decide +kernel
theorem dX7_init_64 : decode cX7_init 64 = .ok (.getfield 7, 3) := by decide +kernel
theorem dX7_init_67 : decode cX7_init 67 = .ok (.bipush 8, 2) := by decide +kernel
theorem dX7_init_69 : decode cX7_init 69 = .ok (.bipush 10, 2) := by decide +kernel
theorem dX7_init_71 : decode cX7_init 71 = .ok (.iastore, 1) := by decide +kernel
theorem dX7_init_72 : decode cX7_init 72 = .ok (.aload_n 0, 1) := by decide +kernel
theorem dX7_init_73 : decode cX7_init 73 = .ok (.getfield 7, 3) := by decide +kernel
theorem dX7_init_76 : decode cX7_init 76 = .ok (.bipush 9, 2) := by decide +kernel
theorem dX7_init_78 : decode cX7_init 78 = .ok (.iconst 4, 1) := by decide +kernel
theorem dX7_init_79 : decode cX7_init 79 = .ok (.iastore, 1) := by decide +kernel
theorem dX7_init_80 : decode cX7_init 80 = .ok (.aload_n 0, 1) := by decide +kernel
theorem dX7_init_81 : decode cX7_init 81 = .ok (.getfield 7, 3) := by decide +kernel
theorem dX7_init_84 : decode cX7_init 84 = .ok (.bipush 10, 2) := by decide +kernel
theorem dX7_init_86 : decode cX7_init 86 = .ok (.bipush 20, 2) := by decide +kernel
theorem dX7_init_88 : decode cX7_init 88 = .ok (.iastore, 1) := by decide +kernel
theorem dX7_init_89 : decode cX7_init 89 = .ok (.aload_n 0, 1) := by decide +kernel
theorem dX7_init_90 : decode cX7_init 90 = .ok (.getfield 7, 3) := by decide +kernel
theorem dX7_init_93 : decode cX7_init 93 = .ok (.bipush 11, 2) := by decide +kernel
theorem dX7_init_95 : decode cX7_init 95 = .ok (.iconst 2, 1) := by decide +kernel
theorem dX7_init_96 : decode cX7_init 96 = .ok (.iastore, 1) := by decide +kernel
theorem dX7_init_97 : decode cX7_init 97 = .ok (.aload_n 0, 1) := by decide +kernel
theorem dX7_init_98 : decode cX7_init 98 = .ok (.getfield 7, 3) := by decide +kernel
theorem dX7_init_101 : decode cX7_init 101 = .ok (.bipush 12, 2) := by decide +kernel
theorem dX7_init_103 : decode cX7_init 103 = .ok (.bipush 25, 2) := by decide +kernel
theorem dX7_init_105 : decode cX7_init 105 = .ok (.iastore, 1) := by decide +kernel
theorem dX7_init_106 : decode cX7_init 106 = .ok (.aload_n 0, 1) := by decide +kernel
theorem dX7_init_107 : decode cX7_init 107 = .ok (.getfield 7, 3) := by decide +kernel
theorem dX7_init_110 : decode cX7_init 110 = .ok (.bipush 13, 2) := by decide +kernel
theorem dX7_init_112 : decode cX7_init 112 = .ok (.iconst 3, 1) := by decide +kernel
theorem dX7_init_113 : decode cX7_init 113 = .ok (.iastore, 1) := by decide +kernel
theorem dX7_init_114 : decode cX7_init 114 = .ok (.iconst 0, 1) := by decide +kernel
theorem dX7_init_115 : decode cX7_init 115 = .ok (.istore_n 1, 1) := by decide +kernel
theorem dX7_init_116 : decode cX7_init 116 = .ok (.iload_n 1, 1) := by decide +kernel
theorem dX7_init_117 : decode cX7_init 117 = .ok (.bipush 25, 2) := by decide +kernel
theorem dX7_init_119 : decode cX7_init 119 = .ok (.if_icmp .ge 19, 3) := by decide +kernel
theorem dX7_init_122 : decode cX7_init 122 = .ok (.aload_n 0, 1) := by decide +kernel
theorem dX7_init_123 : decode cX7_init 123 = .ok (.getfield 7, 3) := by decide +kernel
theorem dX7_init_126 : decode cX7_init 126 = .ok (.bipush 14, 2) := by decide +kernel
theorem dX7_init_128 : decode cX7_init 128 = .ok (.iload_n 1, 1) := by decide +kernel
theorem dX7_init_129 : decode cX7_init 129 = .ok (.iadd, 1) := by decide +kernel
theorem dX7_init_130 : decode cX7_init 130 = .ok (.iconst 2, 1) := by decide +kernel
theorem dX7_init_131 : decode cX7_init 131 = .ok (.iastore, 1) := by decide +kernel
theorem dX7_init_132 : decode cX7_init 132 = .ok (.iinc 1 1, 3) := by decide +kernel
theorem dX7_init_135 : decode cX7_init 135 = .ok (.goto (-19), 3) := by decide +kernel
theorem dX7_init_138 : decode cX7_init 138 = .ok (.return_, 1) := by decide +kernel
theorem dX7_in_0 : decode cX7_in 0 = .ok (.iload_n 0, 1) := by decide +kernel
theorem dX7_in_1 : decode cX7_in 1 = .ok (.iload_n 1, 1) := by decide +kernel
theorem dX7_in_2 : decode cX7_in 2 = .ok (.if_icmp .lt 12, 3) := by decide +kernel
theorem dX7_in_5 : decode cX7_in 5 = .ok (.iload_n 0, 1) := by decide +kernel
theorem dX7_in_6 : decode cX7_in 6 = .ok (.iload_n 2, 1) := by decide +kernel
theorem dX7_in_7 : decode cX7_in 7 = .ok (.if_icmp .gt 7, 3) := by decide +kernel
theorem dX7_in_10 : decode cX7_in 10 = .ok (.iconst 1, 1) := by decide +kernel
theorem dX7_in_11 : decode cX7_in 11 = .ok (.goto 4, 3) := by decide +kernel
theorem dX7_in_14 : decode cX7_in 14 = .ok (.iconst 0, 1) := by decide +kernel
theorem dX7_in_15 : decode cX7_in 15 = .ok (.ireturn, 1) := by decide +kernel
theorem dX7_begins_0 : decode cX7_begins 0 = .ok (.iconst 0, 1) := by decide +kernel
theorem dX7_begins_1 : decode cX7_begins 1 = .ok (.istore_n 1, 1) := by decide +kernel
theorem dX7_begins_2 : decode cX7_begins 2 = .ok (.iload_n 1, 1) := by decide +kernel
theorem dX7_begins_3 : decode cX7_begins 3 = .ok (.sipush 269, 3) := by decide +kernel
theorem dX7_begins_6 : decode cX7_begins 6 = .ok (.if_icmp .ge 21, 3) := by decide +kernel
theorem dX7_begins_9 : decode cX7_begins 9 = .ok (.aload_n 0, 1) := by decide +kernel
theorem dX7_begins_10 : decode cX7_begins 10 = .ok (.getfield 13, 3) := by decide +kernel
theorem dX7_begins_13 : decode cX7_begins 13 = .ok (.iload_n 1, 1) := by decide +kernel
theorem dX7_begins_14 : decode cX7_begins 14 = .ok (.aload_n 0, 1) := by decide +kernel
theorem dX7_begins_15 : decode cX7_begins 15 = .ok (.getfield 7, 3) := by decide +kernel
theorem dX7_begins_18 : decode cX7_begins 18 = .ok (.iload_n 1, 1) := by decide +kernel
theorem dX7_begins_19 : decode cX7_begins 19 = .ok (.iaload, 1) := by decide +kernel
theorem dX7_begins_20 : decode cX7_begins 20 = .ok (.iastore, 1) := by decide +kernel
theorem dX7_begins_21 : decode cX7_begins 21 = .ok (.iinc 1 1, 3) := by decide +kernel
theorem dX7_begins_24 : decode cX7_begins 24 = .ok (.goto (-22), 3) := by decide +kernel
theorem dX7_begins_27 : decode cX7_begins 27 = .ok (.return_, 1) := by decide +kernel
theorem dX7_returns_0 : decode cX7_returns 0 = .ok (.iconst 0, 1) := by decide +kernel
theorem dX7_returns_1 : decode cX7_returns 1 = .ok (.istore_n 1, 1) := by decide +kernel
theorem dX7_returns_2 : decode cX7_returns 2 = .ok (.iload_n 1, 1) := by decide +kernel
theorem dX7_returns_3 : decode cX7_returns 3 = .ok (.sipush 269, 3) := by decide +kernel
theorem dX7_returns_6 : decode cX7_returns 6 = .ok (.if_icmp .ge 21, 3) := by decide +kernel
theorem dX7_returns_9 : decode cX7_returns 9 = .ok (.aload_n 0, 1) := by decide +kernel
theorem dX7_returns_10 : decode cX7_returns 10 = .ok (.getfield 7, 3) := by decide +kernel
theorem dX7_returns_13 : decode cX7_returns 13 = .ok (.iload_n 1, 1) := by decide +kernel
theorem dX7_returns_14 : decode cX7_returns 14 = .ok (.aload_n 0, 1) := by decide +kernel
theorem dX7_returns_15 : decode cX7_returns 15 = .ok (.getfield 13, 3) := by decide +kernel
theorem dX7_returns_18 : decode cX7_returns 18 = .ok (.iload_n 1, 1) := by decide +kernel
theorem dX7_returns_19 : decode cX7_returns 19 = .ok (.iaload, 1) := by decide +kernel
theorem dX7_returns_20 : decode cX7_returns 20 = .ok (.iastore, 1) := by decide +kernel
theorem dX7_returns_21 : decode cX7_returns 21 = .ok (.iinc 1 1, 3) := by decide +kernel
theorem dX7_returns_24 : decode cX7_returns 24 = .ok (.goto (-22), 3) := by decide +kernel
theorem dX7_returns_27 : decode cX7_returns 27 = .ok (.return_, 1) := by decide +kernel
theorem dX7_acted_0 : decode cX7_acted 0 = .ok (.iload_n 1, 1) := by decide +kernel
theorem dX7_acted_1 : decode cX7_acted 1 = .ok (.ldc 28, 2) := by decide +kernel
theorem dX7_acted_3 : decode cX7_acted 3 = .ok (.if_icmp .gt 9, 3) := by decide +kernel
theorem dX7_acted_6 : decode cX7_acted 6 = .ok (.aload_n 0, 1) := by decide +kernel
theorem dX7_acted_7 : decode cX7_acted 7 = .ok (.invokevirtual 29, 3) := by decide +kernel
theorem dX7_acted_10 : decode cX7_acted 10 = .ok (.iload_n 1, 1) := by decide +kernel
theorem dX7_acted_11 : decode cX7_acted 11 = .ok (.ireturn, 1) := by decide +kernel
theorem dX7_acted_12 : decode cX7_acted 12 = .ok (.aload_n 0, 1) := by decide +kernel
theorem dX7_acted_13 : decode cX7_acted 13 = .ok (.getfield 32, 3) := by decide +kernel
theorem dX7_acted_16 : decode cX7_acted 16 = .ok (.iconst 4, 1) := by decide +kernel
theorem dX7_acted_17 : decode cX7_acted 17 = .ok (.if_icmp .ne 44, 3) := by decide +kernel
theorem dX7_acted_20 : decode cX7_acted 20 = .ok (.iconst 0, 1) := by decide +kernel
theorem dX7_acted_21 : decode cX7_acted 21 = .ok (.istore_n 2, 1) := by decide +kernel
theorem dX7_acted_22 : decode cX7_acted 22 = .ok (.iload_n 2, 1) := by decide +kernel
theorem dX7_acted_23 : decode cX7_acted 23 = .ok (.sipush 807, 3) := by decide +kernel
theorem dX7_acted_26 : decode cX7_acted 26 = .ok (.if_icmp .ge 25, 3) := by decide +kernel
theorem dX7_acted_29 : decode cX7_acted 29 = .ok (.aload_n 0, 1) := by decide +kernel
theorem dX7_acted_30 : decode cX7_acted 30 = .ok (.getfield 19, 3) := by decide +kernel
theorem dX7_acted_33 : decode cX7_acted 33 = .ok (.iload_n 2, 1) := by decide +kernel
theorem dX7_acted_34 : decode cX7_acted 34 = .ok (.aload_n 0, 1) := by decide +kernel
theorem dX7_acted_35 : decode cX7_acted 35 = .ok (.getfield 19, 3) := by decide +kernel
theorem dX7_acted_38 : decode cX7_acted 38 = .ok (.iload_n 2, 1) := by decide +kernel
theorem dX7_acted_39 : decode cX7_acted 39 = .ok (.sipush 269, 3) := by decide +kernel
theorem dX7_acted_42 : decode cX7_acted 42 = .ok (.iadd, 1) := by decide +kernel
theorem dX7_acted_43 : decode cX7_acted 43 = .ok (.iaload, 1) := by decide +kernel
theorem dX7_acted_44 : decode cX7_acted 44 = .ok (.iastore, 1) := by decide +kernel
theorem dX7_acted_45 : decode cX7_acted 45 = .ok (.iinc 2 1, 3) := by decide +kernel
theorem dX7_acted_48 : decode cX7_acted 48 = .ok (.goto (-26), 3) := by decide +kernel
theorem dX7_acted_51 : decode cX7_acted 51 = .ok (.aload_n 0, 1) := by decide +kernel
theorem dX7_acted_52 : decode cX7_acted 52 = .ok (.dup, 1) := by decide +kernel
theorem dX7_acted_53 : decode cX7_acted 53 = .ok (.getfield 32, 3) := by decide +kernel
theorem dX7_acted_56 : decode cX7_acted 56 = .ok (.iconst 1, 1) := by decide +kernel
theorem dX7_acted_57 : decode cX7_acted 57 = .ok (.isub, 1) := by decide +kernel
theorem dX7_acted_58 : decode cX7_acted 58 = .ok (.putfield 32, 3) := by decide +kernel
theorem dX7_acted_61 : decode cX7_acted 61 = .ok (.iconst 0, 1) := by decide +kernel
theorem dX7_acted_62 : decode cX7_acted 62 = .ok (.istore_n 2, 1) := by decide +kernel
theorem dX7_acted_63 : decode cX7_acted 63 = .ok (.iload_n 2, 1) := by decide +kernel
theorem dX7_acted_64 : decode cX7_acted 64 = .ok (.sipush 269, 3) := by decide +kernel
theorem dX7_acted_67 : decode cX7_acted 67 = .ok (.if_icmp .ge 30, 3) := by decide +kernel
theorem dX7_acted_70 : decode cX7_acted 70 = .ok (.aload_n 0, 1) := by decide +kernel
theorem dX7_acted_71 : decode cX7_acted 71 = .ok (.getfield 19, 3) := by decide +kernel
theorem dX7_acted_74 : decode cX7_acted 74 = .ok (.sipush 269, 3) := by decide +kernel
theorem dX7_acted_77 : decode cX7_acted 77 = .ok (.aload_n 0, 1) := by decide +kernel
theorem dX7_acted_78 : decode cX7_acted 78 = .ok (.getfield 32, 3) := by decide +kernel
theorem dX7_acted_81 : decode cX7_acted 81 = .ok (.imul, 1) := by decide +kernel
theorem dX7_acted_82 : decode cX7_acted 82 = .ok (.iload_n 2, 1) := by decide +kernel
theorem dX7_acted_83 : decode cX7_acted 83 = .ok (.iadd, 1) := by decide +kernel
theorem dX7_acted_84 : decode cX7_acted 84 = .ok (.aload_n 0, 1) := by decide +kernel
theorem dX7_acted_85 : decode cX7_acted 85 = .ok (.getfield 13, 3) := by decide +kernel
theorem dX7_acted_88 : decode cX7_acted 88 = .ok (.iload_n 2, 1) := by decide +kernel
theorem dX7_acted_89 : decode cX7_acted 89 = .ok (.iaload, 1) := by decide +kernel
theorem dX7_acted_90 : decode cX7_acted 90 = .ok (.iastore, 1) := by decide +kernel
theorem dX7_acted_91 : decode cX7_acted 91 = .ok (.iinc 2 1, 3) := by decide +kernel
theorem dX7_acted_94 : decode cX7_acted 94 = .ok (.goto (-31), 3) := by decide +kernel
theorem dX7_acted_97 : decode cX7_acted 97 = .ok (.aload_n 0, 1) := by decide +kernel
theorem dX7_acted_98 : decode cX7_acted 98 = .ok (.dup, 1) := by decide +kernel
theorem dX7_acted_99 : decode cX7_acted 99 = .ok (.getfield 32, 3) := by decide +kernel
theorem dX7_acted_102 : decode cX7_acted 102 = .ok (.iconst 1, 1) := by decide +kernel
theorem dX7_acted_103 : decode cX7_acted 103 = .ok (.iadd, 1) := by decide +kernel
theorem dX7_acted_104 : decode cX7_acted 104 = .ok (.putfield 32, 3) := by decide +kernel
theorem dX7_acted_107 : decode cX7_acted 107 = .ok (.iload_n 1, 1) := by decide +kernel
theorem dX7_acted_108 : decode cX7_acted 108 = .ok (.ireturn, 1) := by decide +kernel
theorem dX7_isPlace_0 : decode cX7_isPlace 0 = .ok (.iload_n 1, 1) := by decide +kernel
theorem dX7_isPlace_1 : decode cX7_isPlace 1 = .ok (.iconst 0, 1) := by decide +kernel
theorem dX7_isPlace_2 : decode cX7_isPlace 2 = .ok (.aload_n 0, 1) := by decide +kernel
theorem dX7_isPlace_3 : decode cX7_isPlace 3 = .ok (.getfield 7, 3) := by decide +kernel
theorem dX7_isPlace_6 : decode cX7_isPlace 6 = .ok (.iconst 0, 1) := by decide +kernel
theorem dX7_isPlace_7 : decode cX7_isPlace 7 = .ok (.iaload, 1) := by decide +kernel
theorem dX7_isPlace_8 : decode cX7_isPlace 8 = .ok (.invokestatic 36, 3) := by decide +kernel
theorem dX7_isPlace_11 : decode cX7_isPlace 11 = .ok (.ireturn, 1) := by decide +kernel
theorem dX7_isMine_0 : decode cX7_isMine 0 = .ok (.iload_n 1, 1) := by decide +kernel
theorem dX7_isMine_1 : decode cX7_isMine 1 = .ok (.iconst 1, 1) := by decide +kernel
theorem dX7_isMine_2 : decode cX7_isMine 2 = .ok (.aload_n 0, 1) := by decide +kernel
theorem dX7_isMine_3 : decode cX7_isMine 3 = .ok (.getfield 7, 3) := by decide +kernel
theorem dX7_isMine_6 : decode cX7_isMine 6 = .ok (.iconst 0, 1) := by decide +kernel
theorem dX7_isMine_7 : decode cX7_isMine 7 = .ok (.iaload, 1) := by decide +kernel
theorem dX7_isMine_8 : decode cX7_isMine 8 = .ok (.invokestatic 36, 3) := by decide +kernel
theorem dX7_isMine_11 : decode cX7_isMine 11 = .ok (.ireturn, 1) := by decide +kernel
theorem dX7_isWagon_0 : decode cX7_isWagon 0 = .ok (.iload_n 1, 1) := by decide +kernel
theorem dX7_isWagon_1 : decode cX7_isWagon 1 = .ok (.iconst 0, 1) := by decide +kernel
theorem dX7_isWagon_2 : decode cX7_isWagon 2 = .ok (.aload_n 0, 1) := by decide +kernel
theorem dX7_isWagon_3 : decode cX7_isWagon 3 = .ok (.getfield 7, 3) := by decide +kernel
theorem dX7_isWagon_6 : decode cX7_isWagon 6 = .ok (.iconst 1, 1) := by decide +kernel
theorem dX7_isWagon_7 : decode cX7_isWagon 7 = .ok (.iaload, 1) := by decide +kernel
theorem dX7_isWagon_8 : decode cX7_isWagon 8 = .ok (.iconst 1, 1) := by decide +kernel
theorem dX7_isWagon_9 : decode cX7_isWagon 9 = .ok (.isub, 1) := by decide +kernel
theorem dX7_isWagon_10 : decode cX7_isWagon 10 = .ok (.invokestatic 36, 3) := by decide +kernel
theorem dX7_isWagon_13 : decode cX7_isWagon 13 = .ok (.ireturn, 1) := by decide +kernel
theorem dX7_has_0 : decode cX7_has 0 = .ok (.aload_n 0, 1) := by decide +kernel
theorem dX7_has_1 : decode cX7_has 1 = .ok (.getfield 7, 3) := by decide +kernel
theorem dX7_has_4 : decode cX7_has 4 = .ok (.bipush 39, 2) := by decide +kernel
theorem dX7_has_6 : decode cX7_has 6 = .ok (.bipush 6, 2) := by decide +kernel
theorem dX7_has_8 : decode cX7_has 8 = .ok (.iload_n 1, 1) := by decide +kernel
theorem dX7_has_9 : decode cX7_has 9 = .ok (.imul, 1) := by decide +kernel
theorem dX7_has_10 : decode cX7_has 10 = .ok (.iadd, 1) := by decide +kernel
theorem dX7_has_11 : decode cX7_has 11 = .ok (.iload_n 2, 1) := by decide +kernel
theorem dX7_has_12 : decode cX7_has 12 = .ok (.iadd, 1) := by decide +kernel
theorem dX7_has_13 : decode cX7_has 13 = .ok (.iaload, 1) := by decide +kernel
theorem dX7_has_14 : decode cX7_has 14 = .ok (.ireturn, 1) := by decide +kernel
theorem dX7_adds_0 : decode cX7_adds 0 = .ok (.aload_n 0, 1) := by decide +kernel
theorem dX7_adds_1 : decode cX7_adds 1 = .ok (.getfield 7, 3) := by decide +kernel
theorem dX7_adds_4 : decode cX7_adds 4 = .ok (.bipush 39, 2) := by decide +kernel
theorem dX7_adds_6 : decode cX7_adds 6 = .ok (.bipush 6, 2) := by decide +kernel
theorem dX7_adds_8 : decode cX7_adds 8 = .ok (.iload_n 1, 1) := by decide +kernel
theorem dX7_adds_9 : decode cX7_adds 9 = .ok (.imul, 1) := by decide +kernel
theorem dX7_adds_10 : decode cX7_adds 10 = .ok (.iadd, 1) := by decide +kernel
theorem dX7_adds_11 : decode cX7_adds 11 = .ok (.iload_n 2, 1) := by decide +kernel
theorem dX7_adds_12 : decode cX7_adds 12 = .ok (.iadd, 1) := by decide +kernel
theorem dX7_adds_13 : decode cX7_adds 13 = .ok (.dup2, 1) := by decide +kernel
theorem dX7_adds_14 : decode cX7_adds 14 = .ok (.iaload, 1) := by decide +kernel
theorem dX7_adds_15 : decode cX7_adds 15 = .ok (.iload_n 3, 1) := by decide +kernel
theorem dX7_adds_16 : decode cX7_adds 16 = .ok (.iadd, 1) := by decide +kernel
theorem dX7_adds_17 : decode cX7_adds 17 = .ok (.iastore, 1) := by decide +kernel
theorem dX7_adds_18 : decode cX7_adds 18 = .ok (.return_, 1) := by decide +kernel
theorem dX7_of_0 : decode cX7_of 0 = .ok (.aload_n 0, 1) := by decide +kernel
theorem dX7_of_1 : decode cX7_of 1 = .ok (.getfield 7, 3) := by decide +kernel
theorem dX7_of_4 : decode cX7_of 4 = .ok (.bipush 69, 2) := by decide +kernel
theorem dX7_of_6 : decode cX7_of 6 = .ok (.bipush 10, 2) := by decide +kernel
theorem dX7_of_8 : decode cX7_of 8 = .ok (.iload_n 1, 1) := by decide +kernel
theorem dX7_of_9 : decode cX7_of 9 = .ok (.imul, 1) := by decide +kernel
theorem dX7_of_10 : decode cX7_of 10 = .ok (.iadd, 1) := by decide +kernel
theorem dX7_of_11 : decode cX7_of 11 = .ok (.iload_n 2, 1) := by decide +kernel
theorem dX7_of_12 : decode cX7_of 12 = .ok (.iadd, 1) := by decide +kernel
theorem dX7_of_13 : decode cX7_of 13 = .ok (.iaload, 1) := by decide +kernel
theorem dX7_of_14 : decode cX7_of 14 = .ok (.ireturn, 1) := by decide +kernel
theorem dX7_lays_0 : decode cX7_lays 0 = .ok (.aload_n 0, 1) := by decide +kernel
theorem dX7_lays_1 : decode cX7_lays 1 = .ok (.getfield 7, 3) := by decide +kernel
theorem dX7_lays_4 : decode cX7_lays 4 = .ok (.bipush 69, 2) := by decide +kernel
theorem dX7_lays_6 : decode cX7_lays 6 = .ok (.bipush 10, 2) := by decide +kernel
theorem dX7_lays_8 : decode cX7_lays 8 = .ok (.iload_n 1, 1) := by decide +kernel
theorem dX7_lays_9 : decode cX7_lays 9 = .ok (.imul, 1) := by decide +kernel
theorem dX7_lays_10 : decode cX7_lays 10 = .ok (.iadd, 1) := by decide +kernel
theorem dX7_lays_11 : decode cX7_lays 11 = .ok (.iload_n 2, 1) := by decide +kernel
theorem dX7_lays_12 : decode cX7_lays 12 = .ok (.iadd, 1) := by decide +kernel
theorem dX7_lays_13 : decode cX7_lays 13 = .ok (.iload_n 3, 1) := by decide +kernel
theorem dX7_lays_14 : decode cX7_lays 14 = .ok (.iastore, 1) := by decide +kernel
theorem dX7_lays_15 : decode cX7_lays 15 = .ok (.return_, 1) := by decide +kernel
theorem dX7_stands_0 : decode cX7_stands 0 = .ok (.aload_n 0, 1) := by decide +kernel
theorem dX7_stands_1 : decode cX7_stands 1 = .ok (.iload_n 1, 1) := by decide +kernel
theorem dX7_stands_2 : decode cX7_stands 2 = .ok (.iconst 3, 1) := by decide +kernel
theorem dX7_stands_3 : decode cX7_stands 3 = .ok (.invokevirtual 40, 3) := by decide +kernel
theorem dX7_stands_6 : decode cX7_stands 6 = .ok (.ifCond .ne 17, 3) := by decide +kernel
theorem dX7_stands_9 : decode cX7_stands 9 = .ok (.aload_n 0, 1) := by decide +kernel
theorem dX7_stands_10 : decode cX7_stands 10 = .ok (.iload_n 1, 1) := by decide +kernel
theorem dX7_stands_11 : decode cX7_stands 11 = .ok (.iconst 1, 1) := by decide +kernel
theorem dX7_stands_12 : decode cX7_stands 12 = .ok (.invokevirtual 40, 3) := by decide +kernel
theorem dX7_stands_15 : decode cX7_stands 15 = .ok (.iload_n 2, 1) := by decide +kernel
theorem dX7_stands_16 : decode cX7_stands 16 = .ok (.if_icmp .ne 7, 3) := by decide +kernel
theorem dX7_stands_19 : decode cX7_stands 19 = .ok (.iconst 1, 1) := by decide +kernel
theorem dX7_stands_20 : decode cX7_stands 20 = .ok (.goto 4, 3) := by decide +kernel
theorem dX7_stands_23 : decode cX7_stands 23 = .ok (.iconst 0, 1) := by decide +kernel
theorem dX7_stands_24 : decode cX7_stands 24 = .ok (.ireturn, 1) := by decide +kernel
theorem dX7_isDue_0 : decode cX7_isDue 0 = .ok (.aload_n 0, 1) := by decide +kernel
theorem dX7_isDue_1 : decode cX7_isDue 1 = .ok (.iload_n 1, 1) := by decide +kernel
theorem dX7_isDue_2 : decode cX7_isDue 2 = .ok (.iconst 4, 1) := by decide +kernel
theorem dX7_isDue_3 : decode cX7_isDue 3 = .ok (.invokevirtual 40, 3) := by decide +kernel
theorem dX7_isDue_6 : decode cX7_isDue 6 = .ok (.aload_n 0, 1) := by decide +kernel
theorem dX7_isDue_7 : decode cX7_isDue 7 = .ok (.getfield 7, 3) := by decide +kernel
theorem dX7_isDue_10 : decode cX7_isDue 10 = .ok (.bipush 10, 2) := by decide +kernel
theorem dX7_isDue_12 : decode cX7_isDue 12 = .ok (.iaload, 1) := by decide +kernel
theorem dX7_isDue_13 : decode cX7_isDue 13 = .ok (.if_icmp .lt 7, 3) := by decide +kernel
theorem dX7_isDue_16 : decode cX7_isDue 16 = .ok (.iconst 1, 1) := by decide +kernel
theorem dX7_isDue_17 : decode cX7_isDue 17 = .ok (.goto 4, 3) := by decide +kernel
theorem dX7_isDue_20 : decode cX7_isDue 20 = .ok (.iconst 0, 1) := by decide +kernel
theorem dX7_isDue_21 : decode cX7_isDue 21 = .ok (.ireturn, 1) := by decide +kernel
