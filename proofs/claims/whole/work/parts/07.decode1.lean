theorem dX3_whyNotLoaded_0 : decode cX3_whyNotLoaded 0 = .ok (.aload_n 1, 1) := by decide +kernel
theorem dX3_whyNotLoaded_1 : decode cX3_whyNotLoaded 1 = .ok (.getfield 154, 3) := by decide +kernel
theorem dX3_whyNotLoaded_4 : decode cX3_whyNotLoaded 4 = .ok (.iconst 1, 1) := by decide +kernel
theorem dX3_whyNotLoaded_5 : decode cX3_whyNotLoaded 5 = .ok (.if_icmp .ne 5, 3) := by decide +kernel
theorem dX3_whyNotLoaded_8 : decode cX3_whyNotLoaded 8 = .ok (.iconst 1, 1) := by decide +kernel
theorem dX3_whyNotLoaded_9 : decode cX3_whyNotLoaded 9 = .ok (.ireturn, 1) := by decide +kernel
theorem dX3_whyNotLoaded_10 : decode cX3_whyNotLoaded 10 = .ok (.aload_n 1, 1) := by decide +kernel
theorem dX3_whyNotLoaded_11 : decode cX3_whyNotLoaded 11 = .ok (.getfield 154, 3) := by decide +kernel
theorem dX3_whyNotLoaded_14 : decode cX3_whyNotLoaded 14 = .ok (.iconst 2, 1) := by decide +kernel
theorem dX3_whyNotLoaded_15 : decode cX3_whyNotLoaded 15 = .ok (.if_icmp .ne 5, 3) := by decide +kernel
theorem dX3_whyNotLoaded_18 : decode cX3_whyNotLoaded 18 = .ok (.iconst 2, 1) := by decide +kernel
theorem dX3_whyNotLoaded_19 : decode cX3_whyNotLoaded 19 = .ok (.ireturn, 1) := by decide +kernel
theorem dX3_whyNotLoaded_20 : decode cX3_whyNotLoaded 20 = .ok (.aload_n 1, 1) := by decide +kernel
theorem dX3_whyNotLoaded_21 : decode cX3_whyNotLoaded 21 = .ok (.getfield 147, 3) := by decide +kernel
theorem dX3_whyNotLoaded_24 : decode cX3_whyNotLoaded 24 = .ok (.ifCond .eq 5, 3) := by decide +kernel
theorem dX3_whyNotLoaded_27 : decode cX3_whyNotLoaded 27 = .ok (.iconst 3, 1) := by decide +kernel
theorem dX3_whyNotLoaded_28 : decode cX3_whyNotLoaded 28 = .ok (.ireturn, 1) := by decide +kernel
theorem dX3_whyNotLoaded_29 : decode cX3_whyNotLoaded 29 = .ok (.aload_n 1, 1) := by decide +kernel
theorem dX3_whyNotLoaded_30 : decode cX3_whyNotLoaded 30 = .ok (.getfield 126, 3) := by decide +kernel
theorem dX3_whyNotLoaded_33 : decode cX3_whyNotLoaded 33 = .ok (.ifCond .ne 5, 3) := by decide +kernel
theorem dX3_whyNotLoaded_36 : decode cX3_whyNotLoaded 36 = .ok (.iconst 4, 1) := by decide +kernel
theorem dX3_whyNotLoaded_37 : decode cX3_whyNotLoaded 37 = .ok (.ireturn, 1) := by decide +kernel
theorem dX3_whyNotLoaded_38 : decode cX3_whyNotLoaded 38 = .ok (.aload_n 0, 1) := by decide +kernel
theorem dX3_whyNotLoaded_39 : decode cX3_whyNotLoaded 39 = .ok (.aload_n 1, 1) := by decide +kernel
theorem dX3_whyNotLoaded_40 : decode cX3_whyNotLoaded 40 = .ok (.invokevirtual 157, 3) := by decide +kernel
theorem dX3_whyNotLoaded_43 : decode cX3_whyNotLoaded 43 = .ok (.ifCond .eq 5, 3) := by decide +kernel
theorem dX3_whyNotLoaded_46 : decode cX3_whyNotLoaded 46 = .ok (.iconst 5, 1) := by decide +kernel
theorem dX3_whyNotLoaded_47 : decode cX3_whyNotLoaded 47 = .ok (.ireturn, 1) := by decide +kernel
theorem dX3_whyNotLoaded_48 : decode cX3_whyNotLoaded 48 = .ok (.aload_n 0, 1) := by decide +kernel
theorem dX3_whyNotLoaded_49 : decode cX3_whyNotLoaded 49 = .ok (.aload_n 1, 1) := by decide +kernel
theorem dX3_whyNotLoaded_50 : decode cX3_whyNotLoaded 50 = .ok (.getfield 126, 3) := by decide +kernel
theorem dX3_whyNotLoaded_53 : decode cX3_whyNotLoaded 53 = .ok (.invokevirtual 85, 3) := by decide +kernel
theorem dX3_whyNotLoaded_56 : decode cX3_whyNotLoaded 56 = .ok (.getfield 141, 3) := by decide +kernel
theorem dX3_whyNotLoaded_59 : decode cX3_whyNotLoaded 59 = .ok (.bipush 30, 2) := by decide +kernel
theorem dX3_whyNotLoaded_61 : decode cX3_whyNotLoaded 61 = .ok (.if_icmp .ge 8, 3) := by decide +kernel
theorem dX3_whyNotLoaded_64 : decode cX3_whyNotLoaded 64 = .ok (.bipush 6, 2) := by decide +kernel
theorem dX3_whyNotLoaded_66 : decode cX3_whyNotLoaded 66 = .ok (.goto 4, 3) := by decide +kernel
theorem dX3_whyNotLoaded_69 : decode cX3_whyNotLoaded 69 = .ok (.iconst 0, 1) := by decide +kernel
theorem dX3_whyNotLoaded_70 : decode cX3_whyNotLoaded 70 = .ok (.ireturn, 1) := by decide +kernel
theorem dX3_unloadWagon_0 : decode cX3_unloadWagon 0 = .ok (.aload_n 0, 1) := by decide +kernel
theorem dX3_unloadWagon_1 : decode cX3_unloadWagon 1 = .ok (.iload_n 1, 1) := by decide +kernel
theorem dX3_unloadWagon_2 : decode cX3_unloadWagon 2 = .ok (.invokevirtual 133, 3) := by decide +kernel
theorem dX3_unloadWagon_5 : decode cX3_unloadWagon 5 = .ok (.ifCond .ne 6, 3) := by decide +kernel
theorem dX3_unloadWagon_8 : decode cX3_unloadWagon 8 = .ok (.ldc 99, 2) := by decide +kernel
theorem dX3_unloadWagon_10 : decode cX3_unloadWagon 10 = .ok (.ireturn, 1) := by decide +kernel
theorem dX3_unloadWagon_11 : decode cX3_unloadWagon 11 = .ok (.aload_n 0, 1) := by decide +kernel
theorem dX3_unloadWagon_12 : decode cX3_unloadWagon 12 = .ok (.iload_n 1, 1) := by decide +kernel
theorem dX3_unloadWagon_13 : decode cX3_unloadWagon 13 = .ok (.invokevirtual 119, 3) := by decide +kernel
theorem dX3_unloadWagon_16 : decode cX3_unloadWagon 16 = .ok (.astore_n 2, 1) := by decide +kernel
theorem dX3_unloadWagon_17 : decode cX3_unloadWagon 17 = .ok (.aload_n 2, 1) := by decide +kernel
theorem dX3_unloadWagon_18 : decode cX3_unloadWagon 18 = .ok (.invokevirtual 161, 3) := by decide +kernel
theorem dX3_unloadWagon_21 : decode cX3_unloadWagon 21 = .ok (.ifCond .ne 6, 3) := by decide +kernel
theorem dX3_unloadWagon_24 : decode cX3_unloadWagon 24 = .ok (.ldc 140, 2) := by decide +kernel
theorem dX3_unloadWagon_26 : decode cX3_unloadWagon 26 = .ok (.ireturn, 1) := by decide +kernel
theorem dX3_unloadWagon_27 : decode cX3_unloadWagon 27 = .ok (.aload_n 2, 1) := by decide +kernel
theorem dX3_unloadWagon_28 : decode cX3_unloadWagon 28 = .ok (.iconst 0, 1) := by decide +kernel
theorem dX3_unloadWagon_29 : decode cX3_unloadWagon 29 = .ok (.putfield 147, 3) := by decide +kernel
theorem dX3_unloadWagon_32 : decode cX3_unloadWagon 32 = .ok (.aload_n 2, 1) := by decide +kernel
theorem dX3_unloadWagon_33 : decode cX3_unloadWagon 33 = .ok (.aload_n 0, 1) := by decide +kernel
theorem dX3_unloadWagon_34 : decode cX3_unloadWagon 34 = .ok (.getfield 65, 3) := by decide +kernel
theorem dX3_unloadWagon_37 : decode cX3_unloadWagon 37 = .ok (.invokevirtual 129, 3) := by decide +kernel
theorem dX3_unloadWagon_40 : decode cX3_unloadWagon 40 = .ok (.aload_n 0, 1) := by decide +kernel
theorem dX3_unloadWagon_41 : decode cX3_unloadWagon 41 = .ok (.iconst 0, 1) := by decide +kernel
theorem dX3_unloadWagon_42 : decode cX3_unloadWagon 42 = .ok (.invokevirtual 85, 3) := by decide +kernel
theorem dX3_unloadWagon_45 : decode cX3_unloadWagon 45 = .ok (.astore_n 3, 1) := by decide +kernel
theorem dX3_unloadWagon_46 : decode cX3_unloadWagon 46 = .ok (.aload_n 0, 1) := by decide +kernel
theorem dX3_unloadWagon_47 : decode cX3_unloadWagon 47 = .ok (.aload_n 2, 1) := by decide +kernel
theorem dX3_unloadWagon_48 : decode cX3_unloadWagon 48 = .ok (.getfield 123, 3) := by decide +kernel
theorem dX3_unloadWagon_51 : decode cX3_unloadWagon 51 = .ok (.invokevirtual 85, 3) := by decide +kernel
theorem dX3_unloadWagon_54 : decode cX3_unloadWagon 54 = .ok (.astore 4, 2) := by decide +kernel
theorem dX3_unloadWagon_56 : decode cX3_unloadWagon 56 = .ok (.aload_n 3, 1) := by decide +kernel
theorem dX3_unloadWagon_57 : decode cX3_unloadWagon 57 = .ok (.dup, 1) := by decide +kernel
theorem dX3_unloadWagon_58 : decode cX3_unloadWagon 58 = .ok (.getfield 144, 3) := by decide +kernel
theorem dX3_unloadWagon_61 : decode cX3_unloadWagon 61 = .ok (.bipush 30, 2) := by decide +kernel
theorem dX3_unloadWagon_63 : decode cX3_unloadWagon 63 = .ok (.iadd, 1) := by decide +kernel
theorem dX3_unloadWagon_64 : decode cX3_unloadWagon 64 = .ok (.putfield 144, 3) := by decide +kernel
theorem dX3_unloadWagon_67 : decode cX3_unloadWagon 67 = .ok (.aload_n 3, 1) := by decide +kernel
theorem dX3_unloadWagon_68 : decode cX3_unloadWagon 68 = .ok (.aload 4, 2) := by decide +kernel
theorem dX3_unloadWagon_70 : decode cX3_unloadWagon 70 = .ok (.bipush 30, 2) := by decide +kernel
theorem dX3_unloadWagon_72 : decode cX3_unloadWagon 72 = .ok (.aload_n 0, 1) := by decide +kernel
theorem dX3_unloadWagon_73 : decode cX3_unloadWagon 73 = .ok (.iconst 4, 1) := by decide +kernel
theorem dX3_unloadWagon_74 : decode cX3_unloadWagon 74 = .ok (.invokevirtual 95, 3) := by decide +kernel
theorem dX3_unloadWagon_77 : decode cX3_unloadWagon 77 = .ok (.imul, 1) := by decide +kernel
theorem dX3_unloadWagon_78 : decode cX3_unloadWagon 78 = .ok (.invokevirtual 165, 3) := by decide +kernel
theorem dX3_unloadWagon_81 : decode cX3_unloadWagon 81 = .ok (.aload 4, 2) := by decide +kernel
theorem dX3_unloadWagon_83 : decode cX3_unloadWagon 83 = .ok (.getfield 89, 3) := by decide +kernel
theorem dX3_unloadWagon_86 : decode cX3_unloadWagon 86 = .ok (.ireturn, 1) := by decide +kernel
theorem dX3_repairWagon_0 : decode cX3_repairWagon 0 = .ok (.aload_n 0, 1) := by decide +kernel
theorem dX3_repairWagon_1 : decode cX3_repairWagon 1 = .ok (.iload_n 1, 1) := by decide +kernel
theorem dX3_repairWagon_2 : decode cX3_repairWagon 2 = .ok (.invokevirtual 133, 3) := by decide +kernel
theorem dX3_repairWagon_5 : decode cX3_repairWagon 5 = .ok (.ifCond .ne 6, 3) := by decide +kernel
theorem dX3_repairWagon_8 : decode cX3_repairWagon 8 = .ok (.ldc 99, 2) := by decide +kernel
theorem dX3_repairWagon_10 : decode cX3_repairWagon 10 = .ok (.ireturn, 1) := by decide +kernel
theorem dX3_repairWagon_11 : decode cX3_repairWagon 11 = .ok (.aload_n 0, 1) := by decide +kernel
theorem dX3_repairWagon_12 : decode cX3_repairWagon 12 = .ok (.iload_n 1, 1) := by decide +kernel
theorem dX3_repairWagon_13 : decode cX3_repairWagon 13 = .ok (.invokevirtual 119, 3) := by decide +kernel
theorem dX3_repairWagon_16 : decode cX3_repairWagon 16 = .ok (.astore_n 2, 1) := by decide +kernel
theorem dX3_repairWagon_17 : decode cX3_repairWagon 17 = .ok (.aload_n 2, 1) := by decide +kernel
theorem dX3_repairWagon_18 : decode cX3_repairWagon 18 = .ok (.getfield 147, 3) := by decide +kernel
theorem dX3_repairWagon_21 : decode cX3_repairWagon 21 = .ok (.ifCond .ne 11, 3) := by decide +kernel
theorem dX3_repairWagon_24 : decode cX3_repairWagon 24 = .ok (.aload_n 2, 1) := by decide +kernel
theorem dX3_repairWagon_25 : decode cX3_repairWagon 25 = .ok (.iconst 0, 1) := by decide +kernel
theorem dX3_repairWagon_26 : decode cX3_repairWagon 26 = .ok (.invokevirtual 169, 3) := by decide +kernel
theorem dX3_repairWagon_29 : decode cX3_repairWagon 29 = .ok (.ifCond .ne 6, 3) := by decide +kernel
theorem dX3_repairWagon_32 : decode cX3_repairWagon 32 = .ok (.ldc 140, 2) := by decide +kernel
theorem dX3_repairWagon_34 : decode cX3_repairWagon 34 = .ok (.ireturn, 1) := by decide +kernel
theorem dX3_repairWagon_35 : decode cX3_repairWagon 35 = .ok (.aload_n 0, 1) := by decide +kernel
theorem dX3_repairWagon_36 : decode cX3_repairWagon 36 = .ok (.aload_n 2, 1) := by decide +kernel
theorem dX3_repairWagon_37 : decode cX3_repairWagon 37 = .ok (.getfield 123, 3) := by decide +kernel
theorem dX3_repairWagon_40 : decode cX3_repairWagon 40 = .ok (.invokevirtual 85, 3) := by decide +kernel
theorem dX3_repairWagon_43 : decode cX3_repairWagon 43 = .ok (.aload_n 0, 1) := by decide +kernel
theorem dX3_repairWagon_44 : decode cX3_repairWagon 44 = .ok (.iconst 0, 1) := by decide +kernel
theorem dX3_repairWagon_45 : decode cX3_repairWagon 45 = .ok (.invokevirtual 85, 3) := by decide +kernel
theorem dX3_repairWagon_48 : decode cX3_repairWagon 48 = .ok (.aload_n 0, 1) := by decide +kernel
theorem dX3_repairWagon_49 : decode cX3_repairWagon 49 = .ok (.iconst 5, 1) := by decide +kernel
theorem dX3_repairWagon_50 : decode cX3_repairWagon 50 = .ok (.invokevirtual 95, 3) := by decide +kernel
theorem dX3_repairWagon_53 : decode cX3_repairWagon 53 = .ok (.invokevirtual 165, 3) := by decide +kernel
theorem dX3_repairWagon_56 : decode cX3_repairWagon 56 = .ok (.aload_n 0, 1) := by decide +kernel
theorem dX3_repairWagon_57 : decode cX3_repairWagon 57 = .ok (.getfield 38, 3) := by decide +kernel
theorem dX3_repairWagon_60 : decode cX3_repairWagon 60 = .ok (.invokevirtual 172, 3) := by decide +kernel
theorem dX3_repairWagon_63 : decode cX3_repairWagon 63 = .ok (.istore_n 3, 1) := by decide +kernel
theorem dX3_repairWagon_64 : decode cX3_repairWagon 64 = .ok (.aload_n 2, 1) := by decide +kernel
theorem dX3_repairWagon_65 : decode cX3_repairWagon 65 = .ok (.iconst 2, 1) := by decide +kernel
theorem dX3_repairWagon_66 : decode cX3_repairWagon 66 = .ok (.putfield 154, 3) := by decide +kernel
theorem dX3_repairWagon_69 : decode cX3_repairWagon 69 = .ok (.aload_n 2, 1) := by decide +kernel
theorem dX3_repairWagon_70 : decode cX3_repairWagon 70 = .ok (.iconst (-1), 1) := by decide +kernel
theorem dX3_repairWagon_71 : decode cX3_repairWagon 71 = .ok (.putfield 176, 3) := by decide +kernel
theorem dX3_repairWagon_74 : decode cX3_repairWagon 74 = .ok (.aload_n 0, 1) := by decide +kernel
theorem dX3_repairWagon_75 : decode cX3_repairWagon 75 = .ok (.getfield 38, 3) := by decide +kernel
theorem dX3_repairWagon_78 : decode cX3_repairWagon 78 = .ok (.iload_n 1, 1) := by decide +kernel
theorem dX3_repairWagon_79 : decode cX3_repairWagon 79 = .ok (.invokevirtual 179, 3) := by decide +kernel
theorem dX3_repairWagon_82 : decode cX3_repairWagon 82 = .ok (.aload_n 0, 1) := by decide +kernel
theorem dX3_repairWagon_83 : decode cX3_repairWagon 83 = .ok (.invokevirtual 182, 3) := by decide +kernel
theorem dX3_repairWagon_86 : decode cX3_repairWagon 86 = .ok (.iload_n 3, 1) := by decide +kernel
theorem dX3_repairWagon_87 : decode cX3_repairWagon 87 = .ok (.ireturn, 1) := by decide +kernel
theorem dX3_sendTrain_0 : decode cX3_sendTrain 0 = .ok (.aload_n 0, 1) := by decide +kernel
theorem dX3_sendTrain_1 : decode cX3_sendTrain 1 = .ok (.iload_n 1, 1) := by decide +kernel
theorem dX3_sendTrain_2 : decode cX3_sendTrain 2 = .ok (.iload_n 2, 1) := by decide +kernel
theorem dX3_sendTrain_3 : decode cX3_sendTrain 3 = .ok (.invokevirtual 104, 3) := by decide +kernel
theorem dX3_sendTrain_6 : decode cX3_sendTrain 6 = .ok (.ifCond .eq 23, 3) := by decide +kernel
theorem dX3_sendTrain_9 : decode cX3_sendTrain 9 = .ok (.iload_n 3, 1) := by decide +kernel
theorem dX3_sendTrain_10 : decode cX3_sendTrain 10 = .ok (.iconst 0, 1) := by decide +kernel
theorem dX3_sendTrain_11 : decode cX3_sendTrain 11 = .ok (.iconst 2, 1) := by decide +kernel
theorem dX3_sendTrain_12 : decode cX3_sendTrain 12 = .ok (.invokestatic 77, 3) := by decide +kernel
theorem dX3_sendTrain_15 : decode cX3_sendTrain 15 = .ok (.ifCond .eq 14, 3) := by decide +kernel
theorem dX3_sendTrain_18 : decode cX3_sendTrain 18 = .ok (.iload 4, 2) := by decide +kernel
theorem dX3_sendTrain_20 : decode cX3_sendTrain 20 = .ok (.iconst 1, 1) := by decide +kernel
theorem dX3_sendTrain_21 : decode cX3_sendTrain 21 = .ok (.bipush 8, 2) := by decide +kernel
theorem dX3_sendTrain_23 : decode cX3_sendTrain 23 = .ok (.invokestatic 77, 3) := by decide +kernel
theorem dX3_sendTrain_26 : decode cX3_sendTrain 26 = .ok (.ifCond .ne 6, 3) := by decide +kernel
theorem dX3_sendTrain_29 : decode cX3_sendTrain 29 = .ok (.ldc 99, 2) := by decide +kernel
theorem dX3_sendTrain_31 : decode cX3_sendTrain 31 = .ok (.ireturn, 1) := by decide +kernel
theorem dX3_sendTrain_32 : decode cX3_sendTrain 32 = .ok (.aload_n 0, 1) := by decide +kernel
theorem dX3_sendTrain_33 : decode cX3_sendTrain 33 = .ok (.iload_n 1, 1) := by decide +kernel
theorem dX3_sendTrain_34 : decode cX3_sendTrain 34 = .ok (.iload_n 2, 1) := by decide +kernel
theorem dX3_sendTrain_35 : decode cX3_sendTrain 35 = .ok (.invokevirtual 108, 3) := by decide +kernel
theorem dX3_sendTrain_38 : decode cX3_sendTrain 38 = .ok (.istore 5, 2) := by decide +kernel
theorem dX3_sendTrain_40 : decode cX3_sendTrain 40 = .ok (.iconst 0, 1) := by decide +kernel
theorem dX3_sendTrain_41 : decode cX3_sendTrain 41 = .ok (.istore 6, 2) := by decide +kernel
theorem dX3_sendTrain_43 : decode cX3_sendTrain 43 = .ok (.iconst 0, 1) := by decide +kernel
theorem dX3_sendTrain_44 : decode cX3_sendTrain 44 = .ok (.istore 7, 2) := by decide +kernel
theorem dX3_sendTrain_46 : decode cX3_sendTrain 46 = .ok (.iconst 1, 1) := by decide +kernel
theorem dX3_sendTrain_47 : decode cX3_sendTrain 47 = .ok (.istore 8, 2) := by decide +kernel
theorem dX3_sendTrain_49 : decode cX3_sendTrain 49 = .ok (.iconst 0, 1) := by decide +kernel
theorem dX3_sendTrain_50 : decode cX3_sendTrain 50 = .ok (.istore 9, 2) := by decide +kernel
theorem dX3_sendTrain_52 : decode cX3_sendTrain 52 = .ok (.iload 9, 2) := by decide +kernel
theorem dX3_sendTrain_54 : decode cX3_sendTrain 54 = .ok (.aload_n 0, 1) := by decide +kernel
theorem dX3_sendTrain_55 : decode cX3_sendTrain 55 = .ok (.getfield 62, 3) := by decide +kernel
theorem dX3_sendTrain_58 : decode cX3_sendTrain 58 = .ok (.if_icmp .ge 86, 3) := by decide +kernel
theorem dX3_sendTrain_61 : decode cX3_sendTrain 61 = .ok (.iload 7, 2) := by decide +kernel
theorem dX3_sendTrain_63 : decode cX3_sendTrain 63 = .ok (.iload 4, 2) := by decide +kernel
theorem dX3_sendTrain_65 : decode cX3_sendTrain 65 = .ok (.if_icmp .ge 79, 3) := by decide +kernel
theorem dX3_sendTrain_68 : decode cX3_sendTrain 68 = .ok (.aload_n 0, 1) := by decide +kernel
theorem dX3_sendTrain_69 : decode cX3_sendTrain 69 = .ok (.iload 9, 2) := by decide +kernel
theorem dX3_sendTrain_71 : decode cX3_sendTrain 71 = .ok (.invokevirtual 119, 3) := by decide +kernel
theorem dX3_sendTrain_74 : decode cX3_sendTrain 74 = .ok (.astore 10, 2) := by decide +kernel
theorem dX3_sendTrain_76 : decode cX3_sendTrain 76 = .ok (.aload 10, 2) := by decide +kernel
theorem dX3_sendTrain_78 : decode cX3_sendTrain 78 = .ok (.iload_n 1, 1) := by decide +kernel
theorem dX3_sendTrain_79 : decode cX3_sendTrain 79 = .ok (.invokevirtual 169, 3) := by decide +kernel
theorem dX3_sendTrain_82 : decode cX3_sendTrain 82 = .ok (.ifCond .eq 56, 3) := by decide +kernel
theorem dX3_sendTrain_85 : decode cX3_sendTrain 85 = .ok (.aload 10, 2) := by decide +kernel
theorem dX3_sendTrain_87 : decode cX3_sendTrain 87 = .ok (.iload_n 3, 1) := by decide +kernel
theorem dX3_sendTrain_88 : decode cX3_sendTrain 88 = .ok (.invokevirtual 185, 3) := by decide +kernel
theorem dX3_sendTrain_91 : decode cX3_sendTrain 91 = .ok (.ifCond .eq 47, 3) := by decide +kernel
theorem dX3_sendTrain_94 : decode cX3_sendTrain 94 = .ok (.aload 10, 2) := by decide +kernel
theorem dX3_sendTrain_96 : decode cX3_sendTrain 96 = .ok (.iload_n 2, 1) := by decide +kernel
theorem dX3_sendTrain_97 : decode cX3_sendTrain 97 = .ok (.aload_n 0, 1) := by decide +kernel
theorem dX3_sendTrain_98 : decode cX3_sendTrain 98 = .ok (.getfield 65, 3) := by decide +kernel
theorem dX3_sendTrain_101 : decode cX3_sendTrain 101 = .ok (.iload 5, 2) := by decide +kernel
theorem dX3_sendTrain_103 : decode cX3_sendTrain 103 = .ok (.invokevirtual 188, 3) := by decide +kernel
theorem dX3_sendTrain_106 : decode cX3_sendTrain 106 = .ok (.iload 6, 2) := by decide +kernel
theorem dX3_sendTrain_108 : decode cX3_sendTrain 108 = .ok (.iconst 1, 1) := by decide +kernel
theorem dX3_sendTrain_109 : decode cX3_sendTrain 109 = .ok (.iload 9, 2) := by decide +kernel
theorem dX3_sendTrain_111 : decode cX3_sendTrain 111 = .ok (.ishl, 1) := by decide +kernel
theorem dX3_sendTrain_112 : decode cX3_sendTrain 112 = .ok (.ior, 1) := by decide +kernel
theorem dX3_sendTrain_113 : decode cX3_sendTrain 113 = .ok (.istore 6, 2) := by decide +kernel
theorem dX3_sendTrain_115 : decode cX3_sendTrain 115 = .ok (.iinc 7 1, 3) := by decide +kernel
theorem dX3_sendTrain_118 : decode cX3_sendTrain 118 = .ok (.iload 8, 2) := by decide +kernel
theorem dX3_sendTrain_120 : decode cX3_sendTrain 120 = .ok (.ifCond .eq 15, 3) := by decide +kernel
theorem dX3_sendTrain_123 : decode cX3_sendTrain 123 = .ok (.aload 10, 2) := by decide +kernel
theorem dX3_sendTrain_125 : decode cX3_sendTrain 125 = .ok (.getfield 147, 3) := by decide +kernel
theorem dX3_sendTrain_128 : decode cX3_sendTrain 128 = .ok (.ifCond .ne 7, 3) := by decide +kernel
theorem dX3_sendTrain_131 : decode cX3_sendTrain 131 = .ok (.iconst 1, 1) := by decide +kernel
theorem dX3_sendTrain_132 : decode cX3_sendTrain 132 = .ok (.goto 4, 3) := by decide +kernel
theorem dX3_sendTrain_135 : decode cX3_sendTrain 135 = .ok (.iconst 0, 1) := by decide +kernel
theorem dX3_sendTrain_136 : decode cX3_sendTrain 136 = .ok (.istore 8, 2) := by decide +kernel
theorem dX3_sendTrain_138 : decode cX3_sendTrain 138 = .ok (.iinc 9 1, 3) := by decide +kernel
theorem dX3_sendTrain_141 : decode cX3_sendTrain 141 = .ok (.goto (-89), 3) := by decide +kernel
theorem dX3_sendTrain_144 : decode cX3_sendTrain 144 = .ok (.iload 7, 2) := by decide +kernel
theorem dX3_sendTrain_146 : decode cX3_sendTrain 146 = .ok (.ifCond .ne 6, 3) := by decide +kernel
theorem dX3_sendTrain_149 : decode cX3_sendTrain 149 = .ok (.ldc 140, 2) := by decide +kernel
theorem dX3_sendTrain_151 : decode cX3_sendTrain 151 = .ok (.ireturn, 1) := by decide +kernel
theorem dX3_sendTrain_152 : decode cX3_sendTrain 152 = .ok (.aload_n 0, 1) := by decide +kernel
theorem dX3_sendTrain_153 : decode cX3_sendTrain 153 = .ok (.dup, 1) := by decide +kernel
theorem dX3_sendTrain_154 : decode cX3_sendTrain 154 = .ok (.getfield 71, 3) := by decide +kernel
theorem dX3_sendTrain_157 : decode cX3_sendTrain 157 = .ok (.iconst 1, 1) := by decide +kernel
theorem dX3_sendTrain_158 : decode cX3_sendTrain 158 = .ok (.iadd, 1) := by decide +kernel
theorem dX3_sendTrain_159 : decode cX3_sendTrain 159 = .ok (.putfield 71, 3) := by decide +kernel
theorem dX3_sendTrain_162 : decode cX3_sendTrain 162 = .ok (.iload 8, 2) := by decide +kernel
theorem dX3_sendTrain_164 : decode cX3_sendTrain 164 = .ok (.ifCond .eq 13, 3) := by decide +kernel
theorem dX3_sendTrain_167 : decode cX3_sendTrain 167 = .ok (.aload_n 0, 1) := by decide +kernel
theorem dX3_sendTrain_168 : decode cX3_sendTrain 168 = .ok (.dup, 1) := by decide +kernel
theorem dX3_sendTrain_169 : decode cX3_sendTrain 169 = .ok (.getfield 74, 3) := by decide +kernel
theorem dX3_sendTrain_172 : decode cX3_sendTrain 172 = .ok (.iconst 1, 1) := by decide +kernel
theorem dX3_sendTrain_173 : decode cX3_sendTrain 173 = .ok (.iadd, 1) := by decide +kernel
theorem dX3_sendTrain_174 : decode cX3_sendTrain 174 = .ok (.putfield 74, 3) := by decide +kernel
theorem dX3_sendTrain_177 : decode cX3_sendTrain 177 = .ok (.iload 6, 2) := by decide +kernel
theorem dX3_sendTrain_179 : decode cX3_sendTrain 179 = .ok (.ireturn, 1) := by decide +kernel
theorem dX3_passDays_0 : decode cX3_passDays 0 = .ok (.iload_n 1, 1) := by decide +kernel
theorem dX3_passDays_1 : decode cX3_passDays 1 = .ok (.iconst 1, 1) := by decide +kernel
theorem dX3_passDays_2 : decode cX3_passDays 2 = .ok (.bipush 99, 2) := by decide +kernel
theorem dX3_passDays_4 : decode cX3_passDays 4 = .ok (.invokestatic 77, 3) := by decide +kernel
theorem dX3_passDays_7 : decode cX3_passDays 7 = .ok (.ifCond .ne 6, 3) := by decide +kernel
theorem dX3_passDays_10 : decode cX3_passDays 10 = .ok (.ldc 99, 2) := by decide +kernel
theorem dX3_passDays_12 : decode cX3_passDays 12 = .ok (.ireturn, 1) := by decide +kernel
theorem dX3_passDays_13 : decode cX3_passDays 13 = .ok (.aload_n 0, 1) := by decide +kernel
theorem dX3_passDays_14 : decode cX3_passDays 14 = .ok (.getfield 65, 3) := by decide +kernel
theorem dX3_passDays_17 : decode cX3_passDays 17 = .ok (.iload_n 1, 1) := by decide +kernel
theorem dX3_passDays_18 : decode cX3_passDays 18 = .ok (.iadd, 1) := by decide +kernel
theorem dX3_passDays_19 : decode cX3_passDays 19 = .ok (.sipush 1999, 3) := by decide +kernel
theorem dX3_passDays_22 : decode cX3_passDays 22 = .ok (.if_icmp .le 6, 3) := by decide +kernel
theorem dX3_passDays_25 : decode cX3_passDays 25 = .ok (.ldc 100, 2) := by decide +kernel
theorem dX3_passDays_27 : decode cX3_passDays 27 = .ok (.ireturn, 1) := by decide +kernel
theorem dX3_passDays_28 : decode cX3_passDays 28 = .ok (.aload_n 0, 1) := by decide +kernel
theorem dX3_passDays_29 : decode cX3_passDays 29 = .ok (.iload_n 1, 1) := by decide +kernel
theorem dX3_passDays_30 : decode cX3_passDays 30 = .ok (.invokevirtual 191, 3) := by decide +kernel
theorem dX3_passDays_33 : decode cX3_passDays 33 = .ok (.ireturn, 1) := by decide +kernel
theorem dX3_changeSetting_0 : decode cX3_changeSetting 0 = .ok (.iload_n 1, 1) := by decide +kernel
theorem dX3_changeSetting_1 : decode cX3_changeSetting 1 = .ok (.iconst 0, 1) := by decide +kernel
theorem dX3_changeSetting_2 : decode cX3_changeSetting 2 = .ok (.bipush 6, 2) := by decide +kernel
theorem dX3_changeSetting_4 : decode cX3_changeSetting 4 = .ok (.invokestatic 77, 3) := by decide +kernel
theorem dX3_changeSetting_7 : decode cX3_changeSetting 7 = .ok (.ifCond .eq 20, 3) := by decide +kernel
theorem dX3_changeSetting_10 : decode cX3_changeSetting 10 = .ok (.iload_n 2, 1) := by decide +kernel
theorem dX3_changeSetting_11 : decode cX3_changeSetting 11 = .ok (.getstatic 194, 3) := by decide +kernel
theorem dX3_changeSetting_14 : decode cX3_changeSetting 14 = .ok (.iload_n 1, 1) := by decide +kernel
theorem dX3_changeSetting_15 : decode cX3_changeSetting 15 = .ok (.iaload, 1) := by decide +kernel
theorem dX3_changeSetting_16 : decode cX3_changeSetting 16 = .ok (.getstatic 197, 3) := by decide +kernel
theorem dX3_changeSetting_19 : decode cX3_changeSetting 19 = .ok (.iload_n 1, 1) := by decide +kernel
theorem dX3_changeSetting_20 : decode cX3_changeSetting 20 = .ok (.iaload, 1) := by decide +kernel
theorem dX3_changeSetting_21 : decode cX3_changeSetting 21 = .ok (.invokestatic 77, 3) := by decide +kernel
theorem dX3_changeSetting_24 : decode cX3_changeSetting 24 = .ok (.ifCond .ne 6, 3) := by decide +kernel
theorem dX3_changeSetting_27 : decode cX3_changeSetting 27 = .ok (.ldc 99, 2) := by decide +kernel
theorem dX3_changeSetting_29 : decode cX3_changeSetting 29 = .ok (.ireturn, 1) := by decide +kernel
theorem dX3_changeSetting_30 : decode cX3_changeSetting 30 = .ok (.aload_n 0, 1) := by decide +kernel
theorem dX3_changeSetting_31 : decode cX3_changeSetting 31 = .ok (.getfield 29, 3) := by decide +kernel
theorem dX3_changeSetting_34 : decode cX3_changeSetting 34 = .ok (.iload_n 1, 1) := by decide +kernel
theorem dX3_changeSetting_35 : decode cX3_changeSetting 35 = .ok (.iaload, 1) := by decide +kernel
theorem dX3_changeSetting_36 : decode cX3_changeSetting 36 = .ok (.istore_n 3, 1) := by decide +kernel
theorem dX3_changeSetting_37 : decode cX3_changeSetting 37 = .ok (.aload_n 0, 1) := by decide +kernel
theorem dX3_changeSetting_38 : decode cX3_changeSetting 38 = .ok (.getfield 29, 3) := by decide +kernel
theorem dX3_changeSetting_41 : decode cX3_changeSetting 41 = .ok (.iload_n 1, 1) := by decide +kernel
theorem dX3_changeSetting_42 : decode cX3_changeSetting 42 = .ok (.iload_n 2, 1) := by decide +kernel
theorem dX3_changeSetting_43 : decode cX3_changeSetting 43 = .ok (.iastore, 1) := by decide +kernel
theorem dX3_changeSetting_44 : decode cX3_changeSetting 44 = .ok (.iload_n 3, 1) := by decide +kernel
theorem dX3_changeSetting_45 : decode cX3_changeSetting 45 = .ok (.ireturn, 1) := by decide +kernel
theorem dX3_letDaysPass_0 : decode cX3_letDaysPass 0 = .ok (.iconst 0, 1) := by decide +kernel
theorem dX3_letDaysPass_1 : decode cX3_letDaysPass 1 = .ok (.istore_n 2, 1) := by decide +kernel
theorem dX3_letDaysPass_2 : decode cX3_letDaysPass 2 = .ok (.iconst 0, 1) := by decide +kernel
theorem dX3_letDaysPass_3 : decode cX3_letDaysPass 3 = .ok (.istore_n 3, 1) := by decide +kernel
theorem dX3_letDaysPass_4 : decode cX3_letDaysPass 4 = .ok (.iload_n 3, 1) := by decide +kernel
theorem dX3_letDaysPass_5 : decode cX3_letDaysPass 5 = .ok (.iload_n 1, 1) := by decide +kernel
theorem dX3_letDaysPass_6 : decode cX3_letDaysPass 6 = .ok (.if_icmp .ge 42, 3) := by decide +kernel
theorem dX3_letDaysPass_9 : decode cX3_letDaysPass 9 = .ok (.aload_n 0, 1) := by decide +kernel
theorem dX3_letDaysPass_10 : decode cX3_letDaysPass 10 = .ok (.dup, 1) := by decide +kernel
theorem dX3_letDaysPass_11 : decode cX3_letDaysPass 11 = .ok (.getfield 65, 3) := by decide +kernel
theorem dX3_letDaysPass_14 : decode cX3_letDaysPass 14 = .ok (.iconst 1, 1) := by decide +kernel
theorem dX3_letDaysPass_15 : decode cX3_letDaysPass 15 = .ok (.iadd, 1) := by decide +kernel
theorem dX3_letDaysPass_16 : decode cX3_letDaysPass 16 = .ok (.putfield 65, 3) := by decide +kernel
theorem dX3_letDaysPass_19 : decode cX3_letDaysPass 19 = .ok (.aload_n 0, 1) := by decide +kernel
theorem dX3_letDaysPass_20 : decode cX3_letDaysPass 20 = .ok (.invokevirtual 200, 3) := by decide +kernel
theorem dX3_letDaysPass_23 : decode cX3_letDaysPass 23 = .ok (.iload_n 2, 1) := by decide +kernel
theorem dX3_letDaysPass_24 : decode cX3_letDaysPass 24 = .ok (.aload_n 0, 1) := by decide +kernel
theorem dX3_letDaysPass_25 : decode cX3_letDaysPass 25 = .ok (.invokevirtual 203, 3) := by decide +kernel
theorem dX3_letDaysPass_28 : decode cX3_letDaysPass 28 = .ok (.iadd, 1) := by decide +kernel
theorem dX3_letDaysPass_29 : decode cX3_letDaysPass 29 = .ok (.istore_n 2, 1) := by decide +kernel
theorem dX3_letDaysPass_30 : decode cX3_letDaysPass 30 = .ok (.aload_n 0, 1) := by decide +kernel
theorem dX3_letDaysPass_31 : decode cX3_letDaysPass 31 = .ok (.invokevirtual 206, 3) := by decide +kernel
theorem dX3_letDaysPass_34 : decode cX3_letDaysPass 34 = .ok (.aload_n 0, 1) := by decide +kernel
theorem dX3_letDaysPass_35 : decode cX3_letDaysPass 35 = .ok (.invokevirtual 182, 3) := by decide +kernel
theorem dX3_letDaysPass_38 : decode cX3_letDaysPass 38 = .ok (.aload_n 0, 1) := by decide +kernel
theorem dX3_letDaysPass_39 : decode cX3_letDaysPass 39 = .ok (.invokevirtual 209, 3) := by decide +kernel
theorem dX3_letDaysPass_42 : decode cX3_letDaysPass 42 = .ok (.iinc 3 1, 3) := by decide +kernel
theorem dX3_letDaysPass_45 : decode cX3_letDaysPass 45 = .ok (.goto (-41), 3) := by decide +kernel
theorem dX3_letDaysPass_48 : decode cX3_letDaysPass 48 = .ok (.iload_n 2, 1) := by decide +kernel
theorem dX3_letDaysPass_49 : decode cX3_letDaysPass 49 = .ok (.ireturn, 1) := by decide +kernel
theorem dX3_growHeaps_0 : decode cX3_growHeaps 0 = .ok (.iconst 1, 1) := by decide +kernel
theorem dX3_growHeaps_1 : decode cX3_growHeaps 1 = .ok (.istore_n 1, 1) := by decide +kernel
theorem dX3_growHeaps_2 : decode cX3_growHeaps 2 = .ok (.iload_n 1, 1) := by decide +kernel
theorem dX3_growHeaps_3 : decode cX3_growHeaps 3 = .ok (.aload_n 0, 1) := by decide +kernel
theorem dX3_growHeaps_4 : decode cX3_growHeaps 4 = .ok (.getfield 58, 3) := by decide +kernel
theorem dX3_growHeaps_7 : decode cX3_growHeaps 7 = .ok (.if_icmp .gt 17, 3) := by decide +kernel
theorem dX3_growHeaps_10 : decode cX3_growHeaps 10 = .ok (.aload_n 0, 1) := by decide +kernel
theorem dX3_growHeaps_11 : decode cX3_growHeaps 11 = .ok (.iload_n 1, 1) := by decide +kernel
theorem dX3_growHeaps_12 : decode cX3_growHeaps 12 = .ok (.invokevirtual 85, 3) := by decide +kernel
theorem dX3_growHeaps_15 : decode cX3_growHeaps 15 = .ok (.invokevirtual 212, 3) := by decide +kernel
theorem dX3_growHeaps_18 : decode cX3_growHeaps 18 = .ok (.iinc 1 1, 3) := by decide +kernel
theorem dX3_growHeaps_21 : decode cX3_growHeaps 21 = .ok (.goto (-19), 3) := by decide +kernel
theorem dX3_growHeaps_24 : decode cX3_growHeaps 24 = .ok (.return_, 1) := by decide +kernel
theorem dX3_arrive_0 : decode cX3_arrive 0 = .ok (.iconst 0, 1) := by decide +kernel
theorem dX3_arrive_1 : decode cX3_arrive 1 = .ok (.istore_n 1, 1) := by decide +kernel
theorem dX3_arrive_2 : decode cX3_arrive 2 = .ok (.iconst 0, 1) := by decide +kernel
theorem dX3_arrive_3 : decode cX3_arrive 3 = .ok (.istore_n 2, 1) := by decide +kernel
theorem dX3_arrive_4 : decode cX3_arrive 4 = .ok (.iload_n 2, 1) := by decide +kernel
theorem dX3_arrive_5 : decode cX3_arrive 5 = .ok (.aload_n 0, 1) := by decide +kernel
theorem dX3_arrive_6 : decode cX3_arrive 6 = .ok (.getfield 62, 3) := by decide +kernel
theorem dX3_arrive_9 : decode cX3_arrive 9 = .ok (.if_icmp .ge 58, 3) := by decide +kernel
theorem dX3_arrive_12 : decode cX3_arrive 12 = .ok (.aload_n 0, 1) := by decide +kernel
theorem dX3_arrive_13 : decode cX3_arrive 13 = .ok (.iload_n 2, 1) := by decide +kernel
theorem dX3_arrive_14 : decode cX3_arrive 14 = .ok (.invokevirtual 119, 3) := by decide +kernel
theorem dX3_arrive_17 : decode cX3_arrive 17 = .ok (.astore_n 3, 1) := by decide +kernel
theorem dX3_arrive_18 : decode cX3_arrive 18 = .ok (.aload_n 3, 1) := by decide +kernel
theorem dX3_arrive_19 : decode cX3_arrive 19 = .ok (.getfield 154, 3) := by decide +kernel
theorem dX3_arrive_22 : decode cX3_arrive 22 = .ok (.iconst 1, 1) := by decide +kernel
theorem dX3_arrive_23 : decode cX3_arrive 23 = .ok (.if_icmp .ne 38, 3) := by decide +kernel
theorem dX3_arrive_26 : decode cX3_arrive 26 = .ok (.aload_n 3, 1) := by decide +kernel
theorem dX3_arrive_27 : decode cX3_arrive 27 = .ok (.getfield 176, 3) := by decide +kernel
theorem dX3_arrive_30 : decode cX3_arrive 30 = .ok (.aload_n 0, 1) := by decide +kernel
theorem dX3_arrive_31 : decode cX3_arrive 31 = .ok (.getfield 65, 3) := by decide +kernel
theorem dX3_arrive_34 : decode cX3_arrive 34 = .ok (.if_icmp .ne 27, 3) := by decide +kernel
theorem dX3_arrive_37 : decode cX3_arrive 37 = .ok (.aload_n 3, 1) := by decide +kernel
theorem dX3_arrive_38 : decode cX3_arrive 38 = .ok (.dup, 1) := by decide +kernel
theorem dX3_arrive_39 : decode cX3_arrive 39 = .ok (.getfield 92, 3) := by decide +kernel
theorem dX3_arrive_42 : decode cX3_arrive 42 = .ok (.aload_n 3, 1) := by decide +kernel
theorem dX3_arrive_43 : decode cX3_arrive 43 = .ok (.getfield 215, 3) := by decide +kernel
theorem dX3_arrive_46 : decode cX3_arrive 46 = .ok (.iadd, 1) := by decide +kernel
theorem dX3_arrive_47 : decode cX3_arrive 47 = .ok (.putfield 92, 3) := by decide +kernel
theorem dX3_arrive_50 : decode cX3_arrive 50 = .ok (.aload_n 3, 1) := by decide +kernel
theorem dX3_arrive_51 : decode cX3_arrive 51 = .ok (.aload_n 0, 1) := by decide +kernel
theorem dX3_arrive_52 : decode cX3_arrive 52 = .ok (.getfield 65, 3) := by decide +kernel
theorem dX3_arrive_55 : decode cX3_arrive 55 = .ok (.invokevirtual 129, 3) := by decide +kernel
theorem dX3_arrive_58 : decode cX3_arrive 58 = .ok (.iinc 1 1, 3) := by decide +kernel
theorem dX3_arrive_61 : decode cX3_arrive 61 = .ok (.iinc 2 1, 3) := by decide +kernel
theorem dX3_arrive_64 : decode cX3_arrive 64 = .ok (.goto (-60), 3) := by decide +kernel
theorem dX3_arrive_67 : decode cX3_arrive 67 = .ok (.iload_n 1, 1) := by decide +kernel
theorem dX3_arrive_68 : decode cX3_arrive 68 = .ok (.ireturn, 1) := by decide +kernel
theorem dX3_endRepairs_0 : decode cX3_endRepairs 0 = .ok (.aload_n 0, 1) := by decide +kernel
theorem dX3_endRepairs_1 : decode cX3_endRepairs 1 = .ok (.getfield 38, 3) := by decide +kernel
theorem dX3_endRepairs_4 : decode cX3_endRepairs 4 = .ok (.invokevirtual 218, 3) := by decide +kernel
theorem dX3_endRepairs_7 : decode cX3_endRepairs 7 = .ok (.iconst 1, 1) := by decide +kernel
theorem dX3_endRepairs_8 : decode cX3_endRepairs 8 = .ok (.isub, 1) := by decide +kernel
theorem dX3_endRepairs_9 : decode cX3_endRepairs 9 = .ok (.istore_n 1, 1) := by decide +kernel
theorem dX3_endRepairs_10 : decode cX3_endRepairs 10 = .ok (.iload_n 1, 1) := by decide +kernel
theorem dX3_endRepairs_11 : decode cX3_endRepairs 11 = .ok (.ifCond .lt 64, 3) := by decide +kernel
theorem dX3_endRepairs_14 : decode cX3_endRepairs 14 = .ok (.aload_n 0, 1) := by decide +kernel
theorem dX3_endRepairs_15 : decode cX3_endRepairs 15 = .ok (.aload_n 0, 1) := by decide +kernel
theorem dX3_endRepairs_16 : decode cX3_endRepairs 16 = .ok (.getfield 38, 3) := by decide +kernel
theorem dX3_endRepairs_19 : decode cX3_endRepairs 19 = .ok (.iload_n 1, 1) := by decide +kernel
theorem dX3_endRepairs_20 : decode cX3_endRepairs 20 = .ok (.invokevirtual 221, 3) := by decide +kernel
theorem dX3_endRepairs_23 : decode cX3_endRepairs 23 = .ok (.invokevirtual 119, 3) := by decide +kernel
theorem dX3_endRepairs_26 : decode cX3_endRepairs 26 = .ok (.astore_n 2, 1) := by decide +kernel
theorem dX3_endRepairs_27 : decode cX3_endRepairs 27 = .ok (.aload_n 2, 1) := by decide +kernel
theorem dX3_endRepairs_28 : decode cX3_endRepairs 28 = .ok (.getfield 176, 3) := by decide +kernel
theorem dX3_endRepairs_31 : decode cX3_endRepairs 31 = .ok (.aload_n 0, 1) := by decide +kernel
theorem dX3_endRepairs_32 : decode cX3_endRepairs 32 = .ok (.getfield 65, 3) := by decide +kernel
theorem dX3_endRepairs_35 : decode cX3_endRepairs 35 = .ok (.if_icmp .ne 34, 3) := by decide +kernel
theorem dX3_endRepairs_38 : decode cX3_endRepairs 38 = .ok (.aload_n 0, 1) := by decide +kernel
theorem dX3_endRepairs_39 : decode cX3_endRepairs 39 = .ok (.getfield 38, 3) := by decide +kernel
theorem dX3_endRepairs_42 : decode cX3_endRepairs 42 = .ok (.iload_n 1, 1) := by decide +kernel
theorem dX3_endRepairs_43 : decode cX3_endRepairs 43 = .ok (.invokevirtual 224, 3) := by decide +kernel
theorem dX3_endRepairs_46 : decode cX3_endRepairs 46 = .ok (.aload_n 2, 1) := by decide +kernel
theorem dX3_endRepairs_47 : decode cX3_endRepairs 47 = .ok (.iconst 0, 1) := by decide +kernel
theorem dX3_endRepairs_48 : decode cX3_endRepairs 48 = .ok (.putfield 92, 3) := by decide +kernel
theorem dX3_endRepairs_51 : decode cX3_endRepairs 51 = .ok (.aload_n 2, 1) := by decide +kernel
theorem dX3_endRepairs_52 : decode cX3_endRepairs 52 = .ok (.aload_n 0, 1) := by decide +kernel
theorem dX3_endRepairs_53 : decode cX3_endRepairs 53 = .ok (.getfield 65, 3) := by decide +kernel
theorem dX3_endRepairs_56 : decode cX3_endRepairs 56 = .ok (.invokevirtual 129, 3) := by decide +kernel
theorem dX3_endRepairs_59 : decode cX3_endRepairs 59 = .ok (.aload_n 0, 1) := by decide +kernel
theorem dX3_endRepairs_60 : decode cX3_endRepairs 60 = .ok (.dup, 1) := by decide +kernel
theorem dX3_endRepairs_61 : decode cX3_endRepairs 61 = .ok (.getfield 68, 3) := by decide +kernel
theorem dX3_endRepairs_64 : decode cX3_endRepairs 64 = .ok (.iconst 1, 1) := by decide +kernel
theorem dX3_endRepairs_65 : decode cX3_endRepairs 65 = .ok (.iadd, 1) := by decide +kernel
theorem dX3_endRepairs_66 : decode cX3_endRepairs 66 = .ok (.putfield 68, 3) := by decide +kernel
theorem dX3_endRepairs_69 : decode cX3_endRepairs 69 = .ok (.iinc 1 (-1), 3) := by decide +kernel
theorem dX3_endRepairs_72 : decode cX3_endRepairs 72 = .ok (.goto (-62), 3) := by decide +kernel
theorem dX3_endRepairs_75 : decode cX3_endRepairs 75 = .ok (.return_, 1) := by decide +kernel
theorem dX3_beginRepairs_0 : decode cX3_beginRepairs 0 = .ok (.iconst 0, 1) := by decide +kernel
theorem dX3_beginRepairs_1 : decode cX3_beginRepairs 1 = .ok (.istore_n 1, 1) := by decide +kernel
theorem dX3_beginRepairs_2 : decode cX3_beginRepairs 2 = .ok (.iload_n 1, 1) := by decide +kernel
theorem dX3_beginRepairs_3 : decode cX3_beginRepairs 3 = .ok (.aload_n 0, 1) := by decide +kernel
theorem dX3_beginRepairs_4 : decode cX3_beginRepairs 4 = .ok (.getfield 38, 3) := by decide +kernel
theorem dX3_beginRepairs_7 : decode cX3_beginRepairs 7 = .ok (.invokevirtual 218, 3) := by decide +kernel
theorem dX3_beginRepairs_10 : decode cX3_beginRepairs 10 = .ok (.if_icmp .ge 45, 3) := by decide +kernel
theorem dX3_beginRepairs_13 : decode cX3_beginRepairs 13 = .ok (.aload_n 0, 1) := by decide +kernel
theorem dX3_beginRepairs_14 : decode cX3_beginRepairs 14 = .ok (.aload_n 0, 1) := by decide +kernel
theorem dX3_beginRepairs_15 : decode cX3_beginRepairs 15 = .ok (.getfield 38, 3) := by decide +kernel
theorem dX3_beginRepairs_18 : decode cX3_beginRepairs 18 = .ok (.iload_n 1, 1) := by decide +kernel
theorem dX3_beginRepairs_19 : decode cX3_beginRepairs 19 = .ok (.invokevirtual 221, 3) := by decide +kernel
theorem dX3_beginRepairs_22 : decode cX3_beginRepairs 22 = .ok (.invokevirtual 119, 3) := by decide +kernel
theorem dX3_beginRepairs_25 : decode cX3_beginRepairs 25 = .ok (.astore_n 2, 1) := by decide +kernel
theorem dX3_beginRepairs_26 : decode cX3_beginRepairs 26 = .ok (.aload_n 2, 1) := by decide +kernel
theorem dX3_beginRepairs_27 : decode cX3_beginRepairs 27 = .ok (.getfield 176, 3) := by decide +kernel
theorem dX3_beginRepairs_30 : decode cX3_beginRepairs 30 = .ok (.iconst (-1), 1) := by decide +kernel
theorem dX3_beginRepairs_31 : decode cX3_beginRepairs 31 = .ok (.if_icmp .ne 18, 3) := by decide +kernel
theorem dX3_beginRepairs_34 : decode cX3_beginRepairs 34 = .ok (.aload_n 2, 1) := by decide +kernel
theorem dX3_beginRepairs_35 : decode cX3_beginRepairs 35 = .ok (.aload_n 0, 1) := by decide +kernel
theorem dX3_beginRepairs_36 : decode cX3_beginRepairs 36 = .ok (.getfield 65, 3) := by decide +kernel
theorem dX3_beginRepairs_39 : decode cX3_beginRepairs 39 = .ok (.aload_n 0, 1) := by decide +kernel
theorem dX3_beginRepairs_40 : decode cX3_beginRepairs 40 = .ok (.bipush 6, 2) := by decide +kernel
theorem dX3_beginRepairs_42 : decode cX3_beginRepairs 42 = .ok (.invokevirtual 95, 3) := by decide +kernel
theorem dX3_beginRepairs_45 : decode cX3_beginRepairs 45 = .ok (.iadd, 1) := by decide +kernel
theorem dX3_beginRepairs_46 : decode cX3_beginRepairs 46 = .ok (.putfield 176, 3) := by decide +kernel
theorem dX3_beginRepairs_49 : decode cX3_beginRepairs 49 = .ok (.iinc 1 1, 3) := by decide +kernel
theorem dX3_beginRepairs_52 : decode cX3_beginRepairs 52 = .ok (.goto (-50), 3) := by decide +kernel
theorem dX3_beginRepairs_55 : decode cX3_beginRepairs 55 = .ok (.return_, 1) := by decide +kernel
theorem dX3_payForTheDay_0 : decode cX3_payForTheDay 0 = .ok (.aload_n 0, 1) := by decide +kernel
theorem dX3_payForTheDay_1 : decode cX3_payForTheDay 1 = .ok (.iconst 0, 1) := by decide +kernel
theorem dX3_payForTheDay_2 : decode cX3_payForTheDay 2 = .ok (.invokevirtual 85, 3) := by decide +kernel
theorem dX3_payForTheDay_5 : decode cX3_payForTheDay 5 = .ok (.astore_n 1, 1) := by decide +kernel
theorem dX3_payForTheDay_6 : decode cX3_payForTheDay 6 = .ok (.aload_n 0, 1) := by decide +kernel
theorem dX3_payForTheDay_7 : decode cX3_payForTheDay 7 = .ok (.iconst 2, 1) := by decide +kernel
theorem dX3_payForTheDay_8 : decode cX3_payForTheDay 8 = .ok (.invokevirtual 95, 3) := by decide +kernel
theorem dX3_payForTheDay_11 : decode cX3_payForTheDay 11 = .ok (.istore_n 2, 1) := by decide +kernel
theorem dX3_payForTheDay_12 : decode cX3_payForTheDay 12 = .ok (.aload_n 0, 1) := by decide +kernel
theorem dX3_payForTheDay_13 : decode cX3_payForTheDay 13 = .ok (.iconst 1, 1) := by decide +kernel
theorem dX3_payForTheDay_14 : decode cX3_payForTheDay 14 = .ok (.invokevirtual 95, 3) := by decide +kernel
theorem dX3_payForTheDay_17 : decode cX3_payForTheDay 17 = .ok (.istore_n 3, 1) := by decide +kernel
theorem dX3_payForTheDay_18 : decode cX3_payForTheDay 18 = .ok (.aload_n 0, 1) := by decide +kernel
theorem dX3_payForTheDay_19 : decode cX3_payForTheDay 19 = .ok (.iconst 0, 1) := by decide +kernel
theorem dX3_payForTheDay_20 : decode cX3_payForTheDay 20 = .ok (.invokevirtual 95, 3) := by decide +kernel
theorem dX3_payForTheDay_23 : decode cX3_payForTheDay 23 = .ok (.istore 4, 2) := by decide +kernel
theorem dX3_payForTheDay_25 : decode cX3_payForTheDay 25 = .ok (.iconst 0, 1) := by decide +kernel
theorem dX3_payForTheDay_26 : decode cX3_payForTheDay 26 = .ok (.istore 5, 2) := by decide +kernel
theorem dX3_payForTheDay_28 : decode cX3_payForTheDay 28 = .ok (.iload 5, 2) := by decide +kernel
theorem dX3_payForTheDay_30 : decode cX3_payForTheDay 30 = .ok (.aload_n 0, 1) := by decide +kernel
theorem dX3_payForTheDay_31 : decode cX3_payForTheDay 31 = .ok (.getfield 62, 3) := by decide +kernel
theorem dX3_payForTheDay_34 : decode cX3_payForTheDay 34 = .ok (.if_icmp .ge 81, 3) := by decide +kernel
theorem dX3_payForTheDay_37 : decode cX3_payForTheDay 37 = .ok (.aload_n 0, 1) := by decide +kernel
theorem dX3_payForTheDay_38 : decode cX3_payForTheDay 38 = .ok (.iload 5, 2) := by decide +kernel
theorem dX3_payForTheDay_40 : decode cX3_payForTheDay 40 = .ok (.invokevirtual 119, 3) := by decide +kernel
theorem dX3_payForTheDay_43 : decode cX3_payForTheDay 43 = .ok (.astore 6, 2) := by decide +kernel
theorem dX3_payForTheDay_45 : decode cX3_payForTheDay 45 = .ok (.aload_n 0, 1) := by decide +kernel
theorem dX3_payForTheDay_46 : decode cX3_payForTheDay 46 = .ok (.aload 6, 2) := by decide +kernel
theorem dX3_payForTheDay_48 : decode cX3_payForTheDay 48 = .ok (.getfield 123, 3) := by decide +kernel
theorem dX3_payForTheDay_51 : decode cX3_payForTheDay 51 = .ok (.invokevirtual 85, 3) := by decide +kernel
theorem dX3_payForTheDay_54 : decode cX3_payForTheDay 54 = .ok (.astore 7, 2) := by decide +kernel
theorem dX3_payForTheDay_56 : decode cX3_payForTheDay 56 = .ok (.aload 6, 2) := by decide +kernel
theorem dX3_payForTheDay_58 : decode cX3_payForTheDay 58 = .ok (.invokevirtual 227, 3) := by decide +kernel
theorem dX3_payForTheDay_61 : decode cX3_payForTheDay 61 = .ok (.ifCond .eq 18, 3) := by decide +kernel
theorem dX3_payForTheDay_64 : decode cX3_payForTheDay 64 = .ok (.aload_n 0, 1) := by decide +kernel
theorem dX3_payForTheDay_65 : decode cX3_payForTheDay 65 = .ok (.aload 6, 2) := by decide +kernel
theorem dX3_payForTheDay_67 : decode cX3_payForTheDay 67 = .ok (.getfield 126, 3) := by decide +kernel
theorem dX3_payForTheDay_70 : decode cX3_payForTheDay 70 = .ok (.invokevirtual 85, 3) := by decide +kernel
theorem dX3_payForTheDay_73 : decode cX3_payForTheDay 73 = .ok (.aload 7, 2) := by decide +kernel
theorem dX3_payForTheDay_75 : decode cX3_payForTheDay 75 = .ok (.iload_n 2, 1) := by decide +kernel
theorem dX3_payForTheDay_76 : decode cX3_payForTheDay 76 = .ok (.invokevirtual 230, 3) := by decide +kernel
theorem dX3_payForTheDay_79 : decode cX3_payForTheDay 79 = .ok (.aload 6, 2) := by decide +kernel
theorem dX3_payForTheDay_81 : decode cX3_payForTheDay 81 = .ok (.invokevirtual 161, 3) := by decide +kernel
theorem dX3_payForTheDay_84 : decode cX3_payForTheDay 84 = .ok (.ifCond .eq 25, 3) := by decide +kernel
theorem dX3_payForTheDay_87 : decode cX3_payForTheDay 87 = .ok (.aload_n 0, 1) := by decide +kernel
theorem dX3_payForTheDay_88 : decode cX3_payForTheDay 88 = .ok (.getfield 65, 3) := by decide +kernel
theorem dX3_payForTheDay_91 : decode cX3_payForTheDay 91 = .ok (.aload 6, 2) := by decide +kernel
theorem dX3_payForTheDay_93 : decode cX3_payForTheDay 93 = .ok (.getfield 233, 3) := by decide +kernel
theorem dX3_payForTheDay_96 : decode cX3_payForTheDay 96 = .ok (.isub, 1) := by decide +kernel
theorem dX3_payForTheDay_97 : decode cX3_payForTheDay 97 = .ok (.iload 4, 2) := by decide +kernel
theorem dX3_payForTheDay_99 : decode cX3_payForTheDay 99 = .ok (.if_icmp .le 10, 3) := by decide +kernel
theorem dX3_payForTheDay_102 : decode cX3_payForTheDay 102 = .ok (.aload 7, 2) := by decide +kernel
theorem dX3_payForTheDay_104 : decode cX3_payForTheDay 104 = .ok (.aload_n 1, 1) := by decide +kernel
theorem dX3_payForTheDay_105 : decode cX3_payForTheDay 105 = .ok (.iload_n 3, 1) := by decide +kernel
theorem dX3_payForTheDay_106 : decode cX3_payForTheDay 106 = .ok (.invokevirtual 236, 3) := by decide +kernel
theorem dX3_payForTheDay_109 : decode cX3_payForTheDay 109 = .ok (.iinc 5 1, 3) := by decide +kernel
theorem dX3_payForTheDay_112 : decode cX3_payForTheDay 112 = .ok (.goto (-84), 3) := by decide +kernel
theorem dX3_payForTheDay_115 : decode cX3_payForTheDay 115 = .ok (.return_, 1) := by decide +kernel
theorem dX3_tellOfWagon_0 : decode cX3_tellOfWagon 0 = .ok (.aload_n 0, 1) := by decide +kernel
theorem dX3_tellOfWagon_1 : decode cX3_tellOfWagon 1 = .ok (.iload_n 1, 1) := by decide +kernel
theorem dX3_tellOfWagon_2 : decode cX3_tellOfWagon 2 = .ok (.invokevirtual 133, 3) := by decide +kernel
theorem dX3_tellOfWagon_5 : decode cX3_tellOfWagon 5 = .ok (.ifCond .eq 13, 3) := by decide +kernel
theorem dX3_tellOfWagon_8 : decode cX3_tellOfWagon 8 = .ok (.iload_n 2, 1) := by decide +kernel
theorem dX3_tellOfWagon_9 : decode cX3_tellOfWagon 9 = .ok (.iconst 0, 1) := by decide +kernel
theorem dX3_tellOfWagon_10 : decode cX3_tellOfWagon 10 = .ok (.bipush 8, 2) := by decide +kernel
theorem dX3_tellOfWagon_12 : decode cX3_tellOfWagon 12 = .ok (.invokestatic 77, 3) := by decide +kernel
theorem dX3_tellOfWagon_15 : decode cX3_tellOfWagon 15 = .ok (.ifCond .ne 6, 3) := by decide +kernel
theorem dX3_tellOfWagon_18 : decode cX3_tellOfWagon 18 = .ok (.ldc 99, 2) := by decide +kernel
theorem dX3_tellOfWagon_20 : decode cX3_tellOfWagon 20 = .ok (.ireturn, 1) := by decide +kernel
theorem dX3_tellOfWagon_21 : decode cX3_tellOfWagon 21 = .ok (.aload_n 0, 1) := by decide +kernel
theorem dX3_tellOfWagon_22 : decode cX3_tellOfWagon 22 = .ok (.iload_n 1, 1) := by decide +kernel
theorem dX3_tellOfWagon_23 : decode cX3_tellOfWagon 23 = .ok (.invokevirtual 119, 3) := by decide +kernel
theorem dX3_tellOfWagon_26 : decode cX3_tellOfWagon 26 = .ok (.astore_n 3, 1) := by decide +kernel
theorem dX3_tellOfWagon_27 : decode cX3_tellOfWagon 27 = .ok (.iload_n 2, 1) := by decide +kernel
theorem dX3_tellOfWagon_28 : decode cX3_tellOfWagon 28 = .ok (.tableswitch 139 0 7 #[48, 53, 58, 71, 76, 81, 103, 133], 48) := by decide +kernel
theorem dX3_tellOfWagon_76 : decode cX3_tellOfWagon 76 = .ok (.aload_n 3, 1) := by decide +kernel
theorem dX3_tellOfWagon_77 : decode cX3_tellOfWagon 77 = .ok (.getfield 123, 3) := by decide +kernel
theorem dX3_tellOfWagon_80 : decode cX3_tellOfWagon 80 = .ok (.ireturn, 1) := by decide +kernel
theorem dX3_tellOfWagon_81 : decode cX3_tellOfWagon 81 = .ok (.aload_n 3, 1) := by decide +kernel
theorem dX3_tellOfWagon_82 : decode cX3_tellOfWagon 82 = .ok (.getfield 126, 3) := by decide +kernel
theorem dX3_tellOfWagon_85 : decode cX3_tellOfWagon 85 = .ok (.ireturn, 1) := by decide +kernel
theorem dX3_tellOfWagon_86 : decode cX3_tellOfWagon 86 = .ok (.aload_n 3, 1) := by decide +kernel
theorem dX3_tellOfWagon_87 : decode cX3_tellOfWagon 87 = .ok (.getfield 147, 3) := by decide +kernel
theorem dX3_tellOfWagon_90 : decode cX3_tellOfWagon 90 = .ok (.ifCond .eq 7, 3) := by decide +kernel
theorem dX3_tellOfWagon_93 : decode cX3_tellOfWagon 93 = .ok (.iconst 1, 1) := by decide +kernel
theorem dX3_tellOfWagon_94 : decode cX3_tellOfWagon 94 = .ok (.goto 4, 3) := by decide +kernel
theorem dX3_tellOfWagon_97 : decode cX3_tellOfWagon 97 = .ok (.iconst 0, 1) := by decide +kernel
theorem dX3_tellOfWagon_98 : decode cX3_tellOfWagon 98 = .ok (.ireturn, 1) := by decide +kernel
theorem dX3_tellOfWagon_99 : decode cX3_tellOfWagon 99 = .ok (.aload_n 3, 1) := by decide +kernel
theorem dX3_tellOfWagon_100 : decode cX3_tellOfWagon 100 = .ok (.getfield 154, 3) := by decide +kernel
theorem dX3_tellOfWagon_103 : decode cX3_tellOfWagon 103 = .ok (.ireturn, 1) := by decide +kernel
theorem dX3_tellOfWagon_104 : decode cX3_tellOfWagon 104 = .ok (.aload_n 3, 1) := by decide +kernel
theorem dX3_tellOfWagon_105 : decode cX3_tellOfWagon 105 = .ok (.getfield 92, 3) := by decide +kernel
theorem dX3_tellOfWagon_108 : decode cX3_tellOfWagon 108 = .ok (.ireturn, 1) := by decide +kernel
theorem dX3_tellOfWagon_109 : decode cX3_tellOfWagon 109 = .ok (.aload_n 3, 1) := by decide +kernel
theorem dX3_tellOfWagon_110 : decode cX3_tellOfWagon 110 = .ok (.getfield 154, 3) := by decide +kernel
theorem dX3_tellOfWagon_113 : decode cX3_tellOfWagon 113 = .ok (.ifCond .ne 15, 3) := by decide +kernel
theorem dX3_tellOfWagon_116 : decode cX3_tellOfWagon 116 = .ok (.aload_n 0, 1) := by decide +kernel
theorem dX3_tellOfWagon_117 : decode cX3_tellOfWagon 117 = .ok (.getfield 65, 3) := by decide +kernel
theorem dX3_tellOfWagon_120 : decode cX3_tellOfWagon 120 = .ok (.aload_n 3, 1) := by decide +kernel
theorem dX3_tellOfWagon_121 : decode cX3_tellOfWagon 121 = .ok (.getfield 233, 3) := by decide +kernel
theorem dX3_tellOfWagon_124 : decode cX3_tellOfWagon 124 = .ok (.isub, 1) := by decide +kernel
theorem dX3_tellOfWagon_125 : decode cX3_tellOfWagon 125 = .ok (.goto 5, 3) := by decide +kernel
theorem dX3_tellOfWagon_128 : decode cX3_tellOfWagon 128 = .ok (.ldc 239, 2) := by decide +kernel
theorem dX3_tellOfWagon_130 : decode cX3_tellOfWagon 130 = .ok (.ireturn, 1) := by decide +kernel
theorem dX3_tellOfWagon_131 : decode cX3_tellOfWagon 131 = .ok (.aload_n 3, 1) := by decide +kernel
theorem dX3_tellOfWagon_132 : decode cX3_tellOfWagon 132 = .ok (.getfield 154, 3) := by decide +kernel
theorem dX3_tellOfWagon_135 : decode cX3_tellOfWagon 135 = .ok (.ifCond .eq 11, 3) := by decide +kernel
theorem dX3_tellOfWagon_138 : decode cX3_tellOfWagon 138 = .ok (.aload_n 3, 1) := by decide +kernel
theorem dX3_tellOfWagon_139 : decode cX3_tellOfWagon 139 = .ok (.getfield 176, 3) := by decide +kernel
theorem dX3_tellOfWagon_142 : decode cX3_tellOfWagon 142 = .ok (.iconst (-1), 1) := by decide +kernel
theorem dX3_tellOfWagon_143 : decode cX3_tellOfWagon 143 = .ok (.if_icmp .ne 8, 3) := by decide +kernel
theorem dX3_tellOfWagon_146 : decode cX3_tellOfWagon 146 = .ok (.ldc 239, 2) := by decide +kernel
theorem dX3_tellOfWagon_148 : decode cX3_tellOfWagon 148 = .ok (.goto 12, 3) := by decide +kernel
theorem dX3_tellOfWagon_151 : decode cX3_tellOfWagon 151 = .ok (.aload_n 3, 1) := by decide +kernel
theorem dX3_tellOfWagon_152 : decode cX3_tellOfWagon 152 = .ok (.getfield 176, 3) := by decide +kernel
theorem dX3_tellOfWagon_155 : decode cX3_tellOfWagon 155 = .ok (.aload_n 0, 1) := by decide +kernel
theorem dX3_tellOfWagon_156 : decode cX3_tellOfWagon 156 = .ok (.getfield 65, 3) := by decide +kernel
theorem dX3_tellOfWagon_159 : decode cX3_tellOfWagon 159 = .ok (.isub, 1) := by decide +kernel
theorem dX3_tellOfWagon_160 : decode cX3_tellOfWagon 160 = .ok (.ireturn, 1) := by decide +kernel
theorem dX3_tellOfWagon_161 : decode cX3_tellOfWagon 161 = .ok (.aload_n 0, 1) := by decide +kernel
theorem dX3_tellOfWagon_162 : decode cX3_tellOfWagon 162 = .ok (.aload_n 3, 1) := by decide +kernel
theorem dX3_tellOfWagon_163 : decode cX3_tellOfWagon 163 = .ok (.invokevirtual 136, 3) := by decide +kernel
theorem dX3_tellOfWagon_166 : decode cX3_tellOfWagon 166 = .ok (.ireturn, 1) := by decide +kernel
theorem dX3_tellOfWagon_167 : decode cX3_tellOfWagon 167 = .ok (.aload_n 3, 1) := by decide +kernel
theorem dX3_tellOfWagon_168 : decode cX3_tellOfWagon 168 = .ok (.getfield 151, 3) := by decide +kernel
theorem dX3_tellOfWagon_171 : decode cX3_tellOfWagon 171 = .ok (.ireturn, 1) := by decide +kernel
theorem dX3_tellOfPlace_0 : decode cX3_tellOfPlace 0 = .ok (.aload_n 0, 1) := by decide +kernel
theorem dX3_tellOfPlace_1 : decode cX3_tellOfPlace 1 = .ok (.iload_n 1, 1) := by decide +kernel
theorem dX3_tellOfPlace_2 : decode cX3_tellOfPlace 2 = .ok (.invokevirtual 81, 3) := by decide +kernel
theorem dX3_tellOfPlace_5 : decode cX3_tellOfPlace 5 = .ok (.ifCond .eq 13, 3) := by decide +kernel
theorem dX3_tellOfPlace_8 : decode cX3_tellOfPlace 8 = .ok (.iload_n 2, 1) := by decide +kernel
theorem dX3_tellOfPlace_9 : decode cX3_tellOfPlace 9 = .ok (.iconst 0, 1) := by decide +kernel
theorem dX3_tellOfPlace_10 : decode cX3_tellOfPlace 10 = .ok (.bipush 9, 2) := by decide +kernel
theorem dX3_tellOfPlace_12 : decode cX3_tellOfPlace 12 = .ok (.invokestatic 77, 3) := by decide +kernel
theorem dX3_tellOfPlace_15 : decode cX3_tellOfPlace 15 = .ok (.ifCond .ne 6, 3) := by decide +kernel
theorem dX3_tellOfPlace_18 : decode cX3_tellOfPlace 18 = .ok (.ldc 99, 2) := by decide +kernel
theorem dX3_tellOfPlace_20 : decode cX3_tellOfPlace 20 = .ok (.ireturn, 1) := by decide +kernel
theorem dX3_tellOfPlace_21 : decode cX3_tellOfPlace 21 = .ok (.iload_n 1, 1) := by decide +kernel
theorem dX3_tellOfPlace_22 : decode cX3_tellOfPlace 22 = .ok (.ifCond .ne 26, 3) := by decide +kernel
theorem dX3_tellOfPlace_25 : decode cX3_tellOfPlace 25 = .ok (.iload_n 2, 1) := by decide +kernel
theorem dX3_tellOfPlace_26 : decode cX3_tellOfPlace 26 = .ok (.ifCond .eq 19, 3) := by decide +kernel
theorem dX3_tellOfPlace_29 : decode cX3_tellOfPlace 29 = .ok (.iload_n 2, 1) := by decide +kernel
theorem dX3_tellOfPlace_30 : decode cX3_tellOfPlace 30 = .ok (.iconst 1, 1) := by decide +kernel
theorem dX3_tellOfPlace_31 : decode cX3_tellOfPlace 31 = .ok (.if_icmp .eq 14, 3) := by decide +kernel
theorem dX3_tellOfPlace_34 : decode cX3_tellOfPlace 34 = .ok (.iload_n 2, 1) := by decide +kernel
theorem dX3_tellOfPlace_35 : decode cX3_tellOfPlace 35 = .ok (.iconst 5, 1) := by decide +kernel
theorem dX3_tellOfPlace_36 : decode cX3_tellOfPlace 36 = .ok (.if_icmp .eq 9, 3) := by decide +kernel
theorem dX3_tellOfPlace_39 : decode cX3_tellOfPlace 39 = .ok (.iload_n 2, 1) := by decide +kernel
theorem dX3_tellOfPlace_40 : decode cX3_tellOfPlace 40 = .ok (.bipush 8, 2) := by decide +kernel
theorem dX3_tellOfPlace_42 : decode cX3_tellOfPlace 42 = .ok (.if_icmp .ne 6, 3) := by decide +kernel
theorem dX3_tellOfPlace_45 : decode cX3_tellOfPlace 45 = .ok (.ldc 239, 2) := by decide +kernel
theorem dX3_tellOfPlace_47 : decode cX3_tellOfPlace 47 = .ok (.ireturn, 1) := by decide +kernel
theorem dX3_tellOfPlace_48 : decode cX3_tellOfPlace 48 = .ok (.aload_n 0, 1) := by decide +kernel
theorem dX3_tellOfPlace_49 : decode cX3_tellOfPlace 49 = .ok (.iload_n 1, 1) := by decide +kernel
theorem dX3_tellOfPlace_50 : decode cX3_tellOfPlace 50 = .ok (.invokevirtual 85, 3) := by decide +kernel
theorem dX3_tellOfPlace_53 : decode cX3_tellOfPlace 53 = .ok (.astore_n 3, 1) := by decide +kernel
theorem dX3_tellOfPlace_54 : decode cX3_tellOfPlace 54 = .ok (.iload_n 2, 1) := by decide +kernel
theorem dX3_tellOfPlace_55 : decode cX3_tellOfPlace 55 = .ok (.tableswitch 100 0 8 #[49, 54, 59, 66, 73, 79, 85, 90, 95], 49) := by decide +kernel
theorem dX3_tellOfPlace_104 : decode cX3_tellOfPlace 104 = .ok (.aload_n 3, 1) := by decide +kernel
theorem dX3_tellOfPlace_105 : decode cX3_tellOfPlace 105 = .ok (.getfield 141, 3) := by decide +kernel
theorem dX3_tellOfPlace_108 : decode cX3_tellOfPlace 108 = .ok (.ireturn, 1) := by decide +kernel
theorem dX3_tellOfPlace_109 : decode cX3_tellOfPlace 109 = .ok (.aload_n 3, 1) := by decide +kernel
theorem dX3_tellOfPlace_110 : decode cX3_tellOfPlace 110 = .ok (.getfield 101, 3) := by decide +kernel
theorem dX3_tellOfPlace_113 : decode cX3_tellOfPlace 113 = .ok (.ireturn, 1) := by decide +kernel
theorem dX3_tellOfPlace_114 : decode cX3_tellOfPlace 114 = .ok (.aload_n 0, 1) := by decide +kernel
theorem dX3_tellOfPlace_115 : decode cX3_tellOfPlace 115 = .ok (.iload_n 1, 1) := by decide +kernel
theorem dX3_tellOfPlace_116 : decode cX3_tellOfPlace 116 = .ok (.iconst 0, 1) := by decide +kernel
theorem dX3_tellOfPlace_117 : decode cX3_tellOfPlace 117 = .ok (.invokevirtual 240, 3) := by decide +kernel
theorem dX3_tellOfPlace_120 : decode cX3_tellOfPlace 120 = .ok (.ireturn, 1) := by decide +kernel
theorem dX3_tellOfPlace_121 : decode cX3_tellOfPlace 121 = .ok (.aload_n 0, 1) := by decide +kernel
theorem dX3_tellOfPlace_122 : decode cX3_tellOfPlace 122 = .ok (.iload_n 1, 1) := by decide +kernel
theorem dX3_tellOfPlace_123 : decode cX3_tellOfPlace 123 = .ok (.iconst 1, 1) := by decide +kernel
theorem dX3_tellOfPlace_124 : decode cX3_tellOfPlace 124 = .ok (.invokevirtual 240, 3) := by decide +kernel
theorem dX3_tellOfPlace_127 : decode cX3_tellOfPlace 127 = .ok (.ireturn, 1) := by decide +kernel
theorem dX3_tellOfPlace_128 : decode cX3_tellOfPlace 128 = .ok (.aload_n 0, 1) := by decide +kernel
theorem dX3_tellOfPlace_129 : decode cX3_tellOfPlace 129 = .ok (.iload_n 1, 1) := by decide +kernel
theorem dX3_tellOfPlace_130 : decode cX3_tellOfPlace 130 = .ok (.invokevirtual 243, 3) := by decide +kernel
theorem dX3_tellOfPlace_133 : decode cX3_tellOfPlace 133 = .ok (.ireturn, 1) := by decide +kernel
theorem dX3_tellOfPlace_134 : decode cX3_tellOfPlace 134 = .ok (.aload_n 0, 1) := by decide +kernel
theorem dX3_tellOfPlace_135 : decode cX3_tellOfPlace 135 = .ok (.iload_n 1, 1) := by decide +kernel
theorem dX3_tellOfPlace_136 : decode cX3_tellOfPlace 136 = .ok (.invokevirtual 246, 3) := by decide +kernel
theorem dX3_tellOfPlace_139 : decode cX3_tellOfPlace 139 = .ok (.ireturn, 1) := by decide +kernel
theorem dX3_tellOfPlace_140 : decode cX3_tellOfPlace 140 = .ok (.aload_n 3, 1) := by decide +kernel
theorem dX3_tellOfPlace_141 : decode cX3_tellOfPlace 141 = .ok (.getfield 89, 3) := by decide +kernel
theorem dX3_tellOfPlace_144 : decode cX3_tellOfPlace 144 = .ok (.ireturn, 1) := by decide +kernel
theorem dX3_tellOfPlace_145 : decode cX3_tellOfPlace 145 = .ok (.aload_n 3, 1) := by decide +kernel
theorem dX3_tellOfPlace_146 : decode cX3_tellOfPlace 146 = .ok (.getfield 249, 3) := by decide +kernel
theorem dX3_tellOfPlace_149 : decode cX3_tellOfPlace 149 = .ok (.ireturn, 1) := by decide +kernel
theorem dX3_tellOfPlace_150 : decode cX3_tellOfPlace 150 = .ok (.aload_n 3, 1) := by decide +kernel
theorem dX3_tellOfPlace_151 : decode cX3_tellOfPlace 151 = .ok (.getfield 252, 3) := by decide +kernel
theorem dX3_tellOfPlace_154 : decode cX3_tellOfPlace 154 = .ok (.ireturn, 1) := by decide +kernel
theorem dX3_tellOfPlace_155 : decode cX3_tellOfPlace 155 = .ok (.aload_n 3, 1) := by decide +kernel
theorem dX3_tellOfPlace_156 : decode cX3_tellOfPlace 156 = .ok (.getfield 144, 3) := by decide +kernel
theorem dX3_tellOfPlace_159 : decode cX3_tellOfPlace 159 = .ok (.ireturn, 1) := by decide +kernel
theorem dX3_setStanding_0 : decode cX3_setStanding 0 = .ok (.iconst 0, 1) := by decide +kernel
theorem dX3_setStanding_1 : decode cX3_setStanding 1 = .ok (.istore_n 3, 1) := by decide +kernel
theorem dX3_setStanding_2 : decode cX3_setStanding 2 = .ok (.iconst 0, 1) := by decide +kernel
theorem dX3_setStanding_3 : decode cX3_setStanding 3 = .ok (.istore 4, 2) := by decide +kernel
theorem dX3_setStanding_5 : decode cX3_setStanding 5 = .ok (.iload 4, 2) := by decide +kernel
theorem dX3_setStanding_7 : decode cX3_setStanding 7 = .ok (.aload_n 0, 1) := by decide +kernel
theorem dX3_setStanding_8 : decode cX3_setStanding 8 = .ok (.getfield 62, 3) := by decide +kernel
theorem dX3_setStanding_11 : decode cX3_setStanding 11 = .ok (.if_icmp .ge 42, 3) := by decide +kernel
theorem dX3_setStanding_14 : decode cX3_setStanding 14 = .ok (.aload_n 0, 1) := by decide +kernel
theorem dX3_setStanding_15 : decode cX3_setStanding 15 = .ok (.iload 4, 2) := by decide +kernel
theorem dX3_setStanding_17 : decode cX3_setStanding 17 = .ok (.invokevirtual 119, 3) := by decide +kernel
theorem dX3_setStanding_20 : decode cX3_setStanding 20 = .ok (.astore 5, 2) := by decide +kernel
theorem dX3_setStanding_22 : decode cX3_setStanding 22 = .ok (.aload 5, 2) := by decide +kernel
theorem dX3_setStanding_24 : decode cX3_setStanding 24 = .ok (.iload_n 1, 1) := by decide +kernel
theorem dX3_setStanding_25 : decode cX3_setStanding 25 = .ok (.invokevirtual 169, 3) := by decide +kernel
theorem dX3_setStanding_28 : decode cX3_setStanding 28 = .ok (.ifCond .eq 19, 3) := by decide +kernel
theorem dX3_setStanding_31 : decode cX3_setStanding 31 = .ok (.aload 5, 2) := by decide +kernel
theorem dX3_setStanding_33 : decode cX3_setStanding 33 = .ok (.iload_n 2, 1) := by decide +kernel
theorem dX3_setStanding_34 : decode cX3_setStanding 34 = .ok (.invokevirtual 185, 3) := by decide +kernel
theorem dX3_setStanding_37 : decode cX3_setStanding 37 = .ok (.ifCond .eq 10, 3) := by decide +kernel
theorem dX3_setStanding_40 : decode cX3_setStanding 40 = .ok (.iload_n 3, 1) := by decide +kernel
theorem dX3_setStanding_41 : decode cX3_setStanding 41 = .ok (.iconst 1, 1) := by decide +kernel
theorem dX3_setStanding_42 : decode cX3_setStanding 42 = .ok (.iload 4, 2) := by decide +kernel
theorem dX3_setStanding_44 : decode cX3_setStanding 44 = .ok (.ishl, 1) := by decide +kernel
theorem dX3_setStanding_45 : decode cX3_setStanding 45 = .ok (.ior, 1) := by decide +kernel
theorem dX3_setStanding_46 : decode cX3_setStanding 46 = .ok (.istore_n 3, 1) := by decide +kernel
theorem dX3_setStanding_47 : decode cX3_setStanding 47 = .ok (.iinc 4 1, 3) := by decide +kernel
theorem dX3_setStanding_50 : decode cX3_setStanding 50 = .ok (.goto (-45), 3) := by decide +kernel
theorem dX3_setStanding_53 : decode cX3_setStanding 53 = .ok (.iload_n 3, 1) := by decide +kernel
theorem dX3_setStanding_54 : decode cX3_setStanding 54 = .ok (.ireturn, 1) := by decide +kernel
theorem dX3_setOnTheWayTo_0 : decode cX3_setOnTheWayTo 0 = .ok (.iconst 0, 1) := by decide +kernel
theorem dX3_setOnTheWayTo_1 : decode cX3_setOnTheWayTo 1 = .ok (.istore_n 2, 1) := by decide +kernel
theorem dX3_setOnTheWayTo_2 : decode cX3_setOnTheWayTo 2 = .ok (.iconst 0, 1) := by decide +kernel
theorem dX3_setOnTheWayTo_3 : decode cX3_setOnTheWayTo 3 = .ok (.istore_n 3, 1) := by decide +kernel
theorem dX3_setOnTheWayTo_4 : decode cX3_setOnTheWayTo 4 = .ok (.iload_n 3, 1) := by decide +kernel
theorem dX3_setOnTheWayTo_5 : decode cX3_setOnTheWayTo 5 = .ok (.aload_n 0, 1) := by decide +kernel
theorem dX3_setOnTheWayTo_6 : decode cX3_setOnTheWayTo 6 = .ok (.getfield 62, 3) := by decide +kernel
theorem dX3_setOnTheWayTo_9 : decode cX3_setOnTheWayTo 9 = .ok (.if_icmp .ge 27, 3) := by decide +kernel
theorem dX3_setOnTheWayTo_12 : decode cX3_setOnTheWayTo 12 = .ok (.aload_n 0, 1) := by decide +kernel
theorem dX3_setOnTheWayTo_13 : decode cX3_setOnTheWayTo 13 = .ok (.iload_n 3, 1) := by decide +kernel
theorem dX3_setOnTheWayTo_14 : decode cX3_setOnTheWayTo 14 = .ok (.invokevirtual 119, 3) := by decide +kernel
theorem dX3_setOnTheWayTo_17 : decode cX3_setOnTheWayTo 17 = .ok (.iload_n 1, 1) := by decide +kernel
theorem dX3_setOnTheWayTo_18 : decode cX3_setOnTheWayTo 18 = .ok (.invokevirtual 255, 3) := by decide +kernel
theorem dX3_setOnTheWayTo_21 : decode cX3_setOnTheWayTo 21 = .ok (.ifCond .eq 9, 3) := by decide +kernel
theorem dX3_setOnTheWayTo_24 : decode cX3_setOnTheWayTo 24 = .ok (.iload_n 2, 1) := by decide +kernel
theorem dX3_setOnTheWayTo_25 : decode cX3_setOnTheWayTo 25 = .ok (.iconst 1, 1) := by decide +kernel
theorem dX3_setOnTheWayTo_26 : decode cX3_setOnTheWayTo 26 = .ok (.iload_n 3, 1) := by decide +kernel
theorem dX3_setOnTheWayTo_27 : decode cX3_setOnTheWayTo 27 = .ok (.ishl, 1) := by decide +kernel
theorem dX3_setOnTheWayTo_28 : decode cX3_setOnTheWayTo 28 = .ok (.ior, 1) := by decide +kernel
theorem dX3_setOnTheWayTo_29 : decode cX3_setOnTheWayTo 29 = .ok (.istore_n 2, 1) := by decide +kernel
theorem dX3_setOnTheWayTo_30 : decode cX3_setOnTheWayTo 30 = .ok (.iinc 3 1, 3) := by decide +kernel
theorem dX3_setOnTheWayTo_33 : decode cX3_setOnTheWayTo 33 = .ok (.goto (-29), 3) := by decide +kernel
theorem dX3_setOnTheWayTo_36 : decode cX3_setOnTheWayTo 36 = .ok (.iload_n 2, 1) := by decide +kernel
theorem dX3_setOnTheWayTo_37 : decode cX3_setOnTheWayTo 37 = .ok (.ireturn, 1) := by decide +kernel
theorem dX3_setOwnedBy_0 : decode cX3_setOwnedBy 0 = .ok (.iconst 0, 1) := by decide +kernel
theorem dX3_setOwnedBy_1 : decode cX3_setOwnedBy 1 = .ok (.istore_n 2, 1) := by decide +kernel
theorem dX3_setOwnedBy_2 : decode cX3_setOwnedBy 2 = .ok (.iconst 0, 1) := by decide +kernel
theorem dX3_setOwnedBy_3 : decode cX3_setOwnedBy 3 = .ok (.istore_n 3, 1) := by decide +kernel
theorem dX3_setOwnedBy_4 : decode cX3_setOwnedBy 4 = .ok (.iload_n 3, 1) := by decide +kernel
theorem dX3_setOwnedBy_5 : decode cX3_setOwnedBy 5 = .ok (.aload_n 0, 1) := by decide +kernel
theorem dX3_setOwnedBy_6 : decode cX3_setOwnedBy 6 = .ok (.getfield 62, 3) := by decide +kernel
theorem dX3_setOwnedBy_9 : decode cX3_setOwnedBy 9 = .ok (.if_icmp .ge 27, 3) := by decide +kernel
theorem dX3_setOwnedBy_12 : decode cX3_setOwnedBy 12 = .ok (.aload_n 0, 1) := by decide +kernel
theorem dX3_setOwnedBy_13 : decode cX3_setOwnedBy 13 = .ok (.iload_n 3, 1) := by decide +kernel
theorem dX3_setOwnedBy_14 : decode cX3_setOwnedBy 14 = .ok (.invokevirtual 119, 3) := by decide +kernel
theorem dX3_setOwnedBy_17 : decode cX3_setOwnedBy 17 = .ok (.getfield 123, 3) := by decide +kernel
theorem dX3_setOwnedBy_20 : decode cX3_setOwnedBy 20 = .ok (.iload_n 1, 1) := by decide +kernel
theorem dX3_setOwnedBy_21 : decode cX3_setOwnedBy 21 = .ok (.if_icmp .ne 9, 3) := by decide +kernel
theorem dX3_setOwnedBy_24 : decode cX3_setOwnedBy 24 = .ok (.iload_n 2, 1) := by decide +kernel
theorem dX3_setOwnedBy_25 : decode cX3_setOwnedBy 25 = .ok (.iconst 1, 1) := by decide +kernel
theorem dX3_setOwnedBy_26 : decode cX3_setOwnedBy 26 = .ok (.iload_n 3, 1) := by decide +kernel
theorem dX3_setOwnedBy_27 : decode cX3_setOwnedBy 27 = .ok (.ishl, 1) := by decide +kernel
theorem dX3_setOwnedBy_28 : decode cX3_setOwnedBy 28 = .ok (.ior, 1) := by decide +kernel
theorem dX3_setOwnedBy_29 : decode cX3_setOwnedBy 29 = .ok (.istore_n 2, 1) := by decide +kernel
theorem dX3_setOwnedBy_30 : decode cX3_setOwnedBy 30 = .ok (.iinc 3 1, 3) := by decide +kernel
theorem dX3_setOwnedBy_33 : decode cX3_setOwnedBy 33 = .ok (.goto (-29), 3) := by decide +kernel
theorem dX3_setOwnedBy_36 : decode cX3_setOwnedBy 36 = .ok (.iload_n 2, 1) := by decide +kernel
theorem dX3_setOwnedBy_37 : decode cX3_setOwnedBy 37 = .ok (.ireturn, 1) := by decide +kernel
theorem dX3_tellNumber_0 : decode cX3_tellNumber 0 = .ok (.iload_n 1, 1) := by decide +kernel
theorem dX3_tellNumber_1 : decode cX3_tellNumber 1 = .ok (.bipush 20, 2) := by decide +kernel
theorem dX3_tellNumber_3 : decode cX3_tellNumber 3 = .ok (.bipush 26, 2) := by decide +kernel
theorem dX3_tellNumber_5 : decode cX3_tellNumber 5 = .ok (.invokestatic 77, 3) := by decide +kernel
theorem dX3_tellNumber_8 : decode cX3_tellNumber 8 = .ok (.ifCond .eq 12, 3) := by decide +kernel
theorem dX3_tellNumber_11 : decode cX3_tellNumber 11 = .ok (.aload_n 0, 1) := by decide +kernel
theorem dX3_tellNumber_12 : decode cX3_tellNumber 12 = .ok (.iload_n 1, 1) := by decide +kernel
theorem dX3_tellNumber_13 : decode cX3_tellNumber 13 = .ok (.bipush 20, 2) := by decide +kernel
theorem dX3_tellNumber_15 : decode cX3_tellNumber 15 = .ok (.isub, 1) := by decide +kernel
theorem dX3_tellNumber_16 : decode cX3_tellNumber 16 = .ok (.invokevirtual 95, 3) := by decide +kernel
theorem dX3_tellNumber_19 : decode cX3_tellNumber 19 = .ok (.ireturn, 1) := by decide +kernel
theorem dX3_tellNumber_20 : decode cX3_tellNumber 20 = .ok (.iload_n 1, 1) := by decide +kernel
theorem dX3_tellNumber_21 : decode cX3_tellNumber 21 = .ok (.tableswitch 137 0 12 #[67, 72, 77, 82, 88, 94, 99, 107, 112, 117, 122, 127, 132], 67) := by decide +kernel
theorem dX3_tellNumber_88 : decode cX3_tellNumber 88 = .ok (.aload_n 0, 1) := by decide +kernel
theorem dX3_tellNumber_89 : decode cX3_tellNumber 89 = .ok (.getfield 58, 3) := by decide +kernel
theorem dX3_tellNumber_92 : decode cX3_tellNumber 92 = .ok (.ireturn, 1) := by decide +kernel
theorem dX3_tellNumber_93 : decode cX3_tellNumber 93 = .ok (.aload_n 0, 1) := by decide +kernel
theorem dX3_tellNumber_94 : decode cX3_tellNumber 94 = .ok (.getfield 62, 3) := by decide +kernel
theorem dX3_tellNumber_97 : decode cX3_tellNumber 97 = .ok (.ireturn, 1) := by decide +kernel
theorem dX3_tellNumber_98 : decode cX3_tellNumber 98 = .ok (.aload_n 0, 1) := by decide +kernel
theorem dX3_tellNumber_99 : decode cX3_tellNumber 99 = .ok (.getfield 65, 3) := by decide +kernel
theorem dX3_tellNumber_102 : decode cX3_tellNumber 102 = .ok (.ireturn, 1) := by decide +kernel
theorem dX3_tellNumber_103 : decode cX3_tellNumber 103 = .ok (.aload_n 0, 1) := by decide +kernel
theorem dX3_tellNumber_104 : decode cX3_tellNumber 104 = .ok (.iconst 0, 1) := by decide +kernel
theorem dX3_tellNumber_105 : decode cX3_tellNumber 105 = .ok (.invokevirtual 258, 3) := by decide +kernel
theorem dX3_tellNumber_108 : decode cX3_tellNumber 108 = .ok (.ireturn, 1) := by decide +kernel
theorem dX3_tellNumber_109 : decode cX3_tellNumber 109 = .ok (.aload_n 0, 1) := by decide +kernel
theorem dX3_tellNumber_110 : decode cX3_tellNumber 110 = .ok (.iconst 1, 1) := by decide +kernel
theorem dX3_tellNumber_111 : decode cX3_tellNumber 111 = .ok (.invokevirtual 258, 3) := by decide +kernel
theorem dX3_tellNumber_114 : decode cX3_tellNumber 114 = .ok (.ireturn, 1) := by decide +kernel
theorem dX3_tellNumber_115 : decode cX3_tellNumber 115 = .ok (.aload_n 0, 1) := by decide +kernel
theorem dX3_tellNumber_116 : decode cX3_tellNumber 116 = .ok (.invokevirtual 261, 3) := by decide +kernel
theorem dX3_tellNumber_119 : decode cX3_tellNumber 119 = .ok (.ireturn, 1) := by decide +kernel
theorem dX3_tellNumber_120 : decode cX3_tellNumber 120 = .ok (.aload_n 0, 1) := by decide +kernel
theorem dX3_tellNumber_121 : decode cX3_tellNumber 121 = .ok (.getfield 38, 3) := by decide +kernel
theorem dX3_tellNumber_124 : decode cX3_tellNumber 124 = .ok (.invokevirtual 172, 3) := by decide +kernel
theorem dX3_tellNumber_127 : decode cX3_tellNumber 127 = .ok (.ireturn, 1) := by decide +kernel
theorem dX3_tellNumber_128 : decode cX3_tellNumber 128 = .ok (.aload_n 0, 1) := by decide +kernel
theorem dX3_tellNumber_129 : decode cX3_tellNumber 129 = .ok (.invokevirtual 264, 3) := by decide +kernel
theorem dX3_tellNumber_132 : decode cX3_tellNumber 132 = .ok (.ireturn, 1) := by decide +kernel
theorem dX3_tellNumber_133 : decode cX3_tellNumber 133 = .ok (.aload_n 0, 1) := by decide +kernel
theorem dX3_tellNumber_134 : decode cX3_tellNumber 134 = .ok (.invokevirtual 267, 3) := by decide +kernel
theorem dX3_tellNumber_137 : decode cX3_tellNumber 137 = .ok (.ireturn, 1) := by decide +kernel
theorem dX3_tellNumber_138 : decode cX3_tellNumber 138 = .ok (.aload_n 0, 1) := by decide +kernel
theorem dX3_tellNumber_139 : decode cX3_tellNumber 139 = .ok (.getfield 68, 3) := by decide +kernel
theorem dX3_tellNumber_142 : decode cX3_tellNumber 142 = .ok (.ireturn, 1) := by decide +kernel
theorem dX3_tellNumber_143 : decode cX3_tellNumber 143 = .ok (.aload_n 0, 1) := by decide +kernel
theorem dX3_tellNumber_144 : decode cX3_tellNumber 144 = .ok (.getfield 71, 3) := by decide +kernel
theorem dX3_tellNumber_147 : decode cX3_tellNumber 147 = .ok (.ireturn, 1) := by decide +kernel
theorem dX3_tellNumber_148 : decode cX3_tellNumber 148 = .ok (.aload_n 0, 1) := by decide +kernel
theorem dX3_tellNumber_149 : decode cX3_tellNumber 149 = .ok (.getfield 74, 3) := by decide +kernel
theorem dX3_tellNumber_152 : decode cX3_tellNumber 152 = .ok (.ireturn, 1) := by decide +kernel
theorem dX3_tellNumber_153 : decode cX3_tellNumber 153 = .ok (.aload_n 0, 1) := by decide +kernel
theorem dX3_tellNumber_154 : decode cX3_tellNumber 154 = .ok (.invokevirtual 270, 3) := by decide +kernel
theorem dX3_tellNumber_157 : decode cX3_tellNumber 157 = .ok (.ireturn, 1) := by decide +kernel
theorem dX3_tellNumber_158 : decode cX3_tellNumber 158 = .ok (.ldc 99, 2) := by decide +kernel
theorem dX3_tellNumber_160 : decode cX3_tellNumber 160 = .ok (.ireturn, 1) := by decide +kernel
theorem dX3_countStanding_0 : decode cX3_countStanding 0 = .ok (.iconst 0, 1) := by decide +kernel
theorem dX3_countStanding_1 : decode cX3_countStanding 1 = .ok (.istore_n 2, 1) := by decide +kernel
theorem dX3_countStanding_2 : decode cX3_countStanding 2 = .ok (.iconst 0, 1) := by decide +kernel
theorem dX3_countStanding_3 : decode cX3_countStanding 3 = .ok (.istore_n 3, 1) := by decide +kernel
theorem dX3_countStanding_4 : decode cX3_countStanding 4 = .ok (.iload_n 3, 1) := by decide +kernel
theorem dX3_countStanding_5 : decode cX3_countStanding 5 = .ok (.aload_n 0, 1) := by decide +kernel
theorem dX3_countStanding_6 : decode cX3_countStanding 6 = .ok (.getfield 62, 3) := by decide +kernel
theorem dX3_countStanding_9 : decode cX3_countStanding 9 = .ok (.if_icmp .ge 36, 3) := by decide +kernel
theorem dX3_countStanding_12 : decode cX3_countStanding 12 = .ok (.aload_n 0, 1) := by decide +kernel
theorem dX3_countStanding_13 : decode cX3_countStanding 13 = .ok (.iload_n 3, 1) := by decide +kernel
theorem dX3_countStanding_14 : decode cX3_countStanding 14 = .ok (.invokevirtual 119, 3) := by decide +kernel
theorem dX3_countStanding_17 : decode cX3_countStanding 17 = .ok (.astore 4, 2) := by decide +kernel
theorem dX3_countStanding_19 : decode cX3_countStanding 19 = .ok (.aload 4, 2) := by decide +kernel
theorem dX3_countStanding_21 : decode cX3_countStanding 21 = .ok (.getfield 154, 3) := by decide +kernel
theorem dX3_countStanding_24 : decode cX3_countStanding 24 = .ok (.ifCond .ne 15, 3) := by decide +kernel
theorem dX3_countStanding_27 : decode cX3_countStanding 27 = .ok (.aload 4, 2) := by decide +kernel
theorem dX3_countStanding_29 : decode cX3_countStanding 29 = .ok (.iload_n 1, 1) := by decide +kernel
theorem dX3_countStanding_30 : decode cX3_countStanding 30 = .ok (.invokevirtual 185, 3) := by decide +kernel
theorem dX3_countStanding_33 : decode cX3_countStanding 33 = .ok (.ifCond .eq 6, 3) := by decide +kernel
theorem dX3_countStanding_36 : decode cX3_countStanding 36 = .ok (.iinc 2 1, 3) := by decide +kernel
theorem dX3_countStanding_39 : decode cX3_countStanding 39 = .ok (.iinc 3 1, 3) := by decide +kernel
theorem dX3_countStanding_42 : decode cX3_countStanding 42 = .ok (.goto (-38), 3) := by decide +kernel
theorem dX3_countStanding_45 : decode cX3_countStanding 45 = .ok (.iload_n 2, 1) := by decide +kernel
theorem dX3_countStanding_46 : decode cX3_countStanding 46 = .ok (.ireturn, 1) := by decide +kernel
theorem dX3_countOnTheWay_0 : decode cX3_countOnTheWay 0 = .ok (.iconst 0, 1) := by decide +kernel
theorem dX3_countOnTheWay_1 : decode cX3_countOnTheWay 1 = .ok (.istore_n 1, 1) := by decide +kernel
theorem dX3_countOnTheWay_2 : decode cX3_countOnTheWay 2 = .ok (.iconst 0, 1) := by decide +kernel
theorem dX3_countOnTheWay_3 : decode cX3_countOnTheWay 3 = .ok (.istore_n 2, 1) := by decide +kernel
theorem dX3_countOnTheWay_4 : decode cX3_countOnTheWay 4 = .ok (.iload_n 2, 1) := by decide +kernel
theorem dX3_countOnTheWay_5 : decode cX3_countOnTheWay 5 = .ok (.aload_n 0, 1) := by decide +kernel
theorem dX3_countOnTheWay_6 : decode cX3_countOnTheWay 6 = .ok (.getfield 62, 3) := by decide +kernel
theorem dX3_countOnTheWay_9 : decode cX3_countOnTheWay 9 = .ok (.if_icmp .ge 24, 3) := by decide +kernel
theorem dX3_countOnTheWay_12 : decode cX3_countOnTheWay 12 = .ok (.aload_n 0, 1) := by decide +kernel
theorem dX3_countOnTheWay_13 : decode cX3_countOnTheWay 13 = .ok (.iload_n 2, 1) := by decide +kernel
theorem dX3_countOnTheWay_14 : decode cX3_countOnTheWay 14 = .ok (.invokevirtual 119, 3) := by decide +kernel
theorem dX3_countOnTheWay_17 : decode cX3_countOnTheWay 17 = .ok (.getfield 154, 3) := by decide +kernel
theorem dX3_countOnTheWay_20 : decode cX3_countOnTheWay 20 = .ok (.iconst 1, 1) := by decide +kernel
theorem dX3_countOnTheWay_21 : decode cX3_countOnTheWay 21 = .ok (.if_icmp .ne 6, 3) := by decide +kernel
theorem dX3_countOnTheWay_24 : decode cX3_countOnTheWay 24 = .ok (.iinc 1 1, 3) := by decide +kernel
theorem dX3_countOnTheWay_27 : decode cX3_countOnTheWay 27 = .ok (.iinc 2 1, 3) := by decide +kernel
theorem dX3_countOnTheWay_30 : decode cX3_countOnTheWay 30 = .ok (.goto (-26), 3) := by decide +kernel
theorem dX3_countOnTheWay_33 : decode cX3_countOnTheWay 33 = .ok (.iload_n 1, 1) := by decide +kernel
theorem dX3_countOnTheWay_34 : decode cX3_countOnTheWay 34 = .ok (.ireturn, 1) := by decide +kernel
theorem dX3_countDue_0 : decode cX3_countDue 0 = .ok (.iconst 0, 1) := by decide +kernel
theorem dX3_countDue_1 : decode cX3_countDue 1 = .ok (.istore_n 1, 1) := by decide +kernel
theorem dX3_countDue_2 : decode cX3_countDue 2 = .ok (.iconst 0, 1) := by decide +kernel
theorem dX3_countDue_3 : decode cX3_countDue 3 = .ok (.istore_n 2, 1) := by decide +kernel
theorem dX3_countDue_4 : decode cX3_countDue 4 = .ok (.iload_n 2, 1) := by decide +kernel
theorem dX3_countDue_5 : decode cX3_countDue 5 = .ok (.aload_n 0, 1) := by decide +kernel
theorem dX3_countDue_6 : decode cX3_countDue 6 = .ok (.getfield 62, 3) := by decide +kernel
theorem dX3_countDue_9 : decode cX3_countDue 9 = .ok (.if_icmp .ge 24, 3) := by decide +kernel
theorem dX3_countDue_12 : decode cX3_countDue 12 = .ok (.aload_n 0, 1) := by decide +kernel
theorem dX3_countDue_13 : decode cX3_countDue 13 = .ok (.aload_n 0, 1) := by decide +kernel
theorem dX3_countDue_14 : decode cX3_countDue 14 = .ok (.iload_n 2, 1) := by decide +kernel
theorem dX3_countDue_15 : decode cX3_countDue 15 = .ok (.invokevirtual 119, 3) := by decide +kernel
theorem dX3_countDue_18 : decode cX3_countDue 18 = .ok (.invokevirtual 157, 3) := by decide +kernel
theorem dX3_countDue_21 : decode cX3_countDue 21 = .ok (.ifCond .eq 6, 3) := by decide +kernel
theorem dX3_countDue_24 : decode cX3_countDue 24 = .ok (.iinc 1 1, 3) := by decide +kernel
theorem dX3_countDue_27 : decode cX3_countDue 27 = .ok (.iinc 2 1, 3) := by decide +kernel
theorem dX3_countDue_30 : decode cX3_countDue 30 = .ok (.goto (-26), 3) := by decide +kernel
theorem dX3_countDue_33 : decode cX3_countDue 33 = .ok (.iload_n 1, 1) := by decide +kernel
theorem dX3_countDue_34 : decode cX3_countDue 34 = .ok (.ireturn, 1) := by decide +kernel
theorem dX3_allAccounts_0 : decode cX3_allAccounts 0 = .ok (.iconst 0, 1) := by decide +kernel
theorem dX3_allAccounts_1 : decode cX3_allAccounts 1 = .ok (.istore_n 1, 1) := by decide +kernel
theorem dX3_allAccounts_2 : decode cX3_allAccounts 2 = .ok (.iconst 0, 1) := by decide +kernel
theorem dX3_allAccounts_3 : decode cX3_allAccounts 3 = .ok (.istore_n 2, 1) := by decide +kernel
theorem dX3_allAccounts_4 : decode cX3_allAccounts 4 = .ok (.iload_n 2, 1) := by decide +kernel
theorem dX3_allAccounts_5 : decode cX3_allAccounts 5 = .ok (.aload_n 0, 1) := by decide +kernel
theorem dX3_allAccounts_6 : decode cX3_allAccounts 6 = .ok (.getfield 58, 3) := by decide +kernel
theorem dX3_allAccounts_9 : decode cX3_allAccounts 9 = .ok (.if_icmp .gt 17, 3) := by decide +kernel
theorem dX3_allAccounts_12 : decode cX3_allAccounts 12 = .ok (.iload_n 1, 1) := by decide +kernel
theorem dX3_allAccounts_13 : decode cX3_allAccounts 13 = .ok (.aload_n 0, 1) := by decide +kernel
theorem dX3_allAccounts_14 : decode cX3_allAccounts 14 = .ok (.iload_n 2, 1) := by decide +kernel
theorem dX3_allAccounts_15 : decode cX3_allAccounts 15 = .ok (.invokevirtual 273, 3) := by decide +kernel
theorem dX3_allAccounts_18 : decode cX3_allAccounts 18 = .ok (.iadd, 1) := by decide +kernel
theorem dX3_allAccounts_19 : decode cX3_allAccounts 19 = .ok (.istore_n 1, 1) := by decide +kernel
theorem dX3_allAccounts_20 : decode cX3_allAccounts 20 = .ok (.iinc 2 1, 3) := by decide +kernel
theorem dX3_allAccounts_23 : decode cX3_allAccounts 23 = .ok (.goto (-19), 3) := by decide +kernel
theorem dX3_allAccounts_26 : decode cX3_allAccounts 26 = .ok (.iload_n 1, 1) := by decide +kernel
theorem dX3_allAccounts_27 : decode cX3_allAccounts 27 = .ok (.ireturn, 1) := by decide +kernel
theorem dX3_allTonnes_0 : decode cX3_allTonnes 0 = .ok (.iconst 0, 1) := by decide +kernel
theorem dX3_allTonnes_1 : decode cX3_allTonnes 1 = .ok (.istore_n 1, 1) := by decide +kernel
theorem dX3_allTonnes_2 : decode cX3_allTonnes 2 = .ok (.iconst 1, 1) := by decide +kernel
theorem dX3_allTonnes_3 : decode cX3_allTonnes 3 = .ok (.istore_n 2, 1) := by decide +kernel
theorem dX3_allTonnes_4 : decode cX3_allTonnes 4 = .ok (.iload_n 2, 1) := by decide +kernel
theorem dX3_allTonnes_5 : decode cX3_allTonnes 5 = .ok (.aload_n 0, 1) := by decide +kernel
theorem dX3_allTonnes_6 : decode cX3_allTonnes 6 = .ok (.getfield 58, 3) := by decide +kernel
theorem dX3_allTonnes_9 : decode cX3_allTonnes 9 = .ok (.if_icmp .gt 20, 3) := by decide +kernel
theorem dX3_allTonnes_12 : decode cX3_allTonnes 12 = .ok (.iload_n 1, 1) := by decide +kernel
theorem dX3_allTonnes_13 : decode cX3_allTonnes 13 = .ok (.aload_n 0, 1) := by decide +kernel
theorem dX3_allTonnes_14 : decode cX3_allTonnes 14 = .ok (.iload_n 2, 1) := by decide +kernel
theorem dX3_allTonnes_15 : decode cX3_allTonnes 15 = .ok (.invokevirtual 85, 3) := by decide +kernel
theorem dX3_allTonnes_18 : decode cX3_allTonnes 18 = .ok (.getfield 141, 3) := by decide +kernel
theorem dX3_allTonnes_21 : decode cX3_allTonnes 21 = .ok (.iadd, 1) := by decide +kernel
theorem dX3_allTonnes_22 : decode cX3_allTonnes 22 = .ok (.istore_n 1, 1) := by decide +kernel
theorem dX3_allTonnes_23 : decode cX3_allTonnes 23 = .ok (.iinc 2 1, 3) := by decide +kernel
theorem dX3_allTonnes_26 : decode cX3_allTonnes 26 = .ok (.goto (-22), 3) := by decide +kernel
theorem dX3_allTonnes_29 : decode cX3_allTonnes 29 = .ok (.iconst 0, 1) := by decide +kernel
theorem dX3_allTonnes_30 : decode cX3_allTonnes 30 = .ok (.istore_n 2, 1) := by decide +kernel
theorem dX3_allTonnes_31 : decode cX3_allTonnes 31 = .ok (.iload_n 2, 1) := by decide +kernel
theorem dX3_allTonnes_32 : decode cX3_allTonnes 32 = .ok (.aload_n 0, 1) := by decide +kernel
theorem dX3_allTonnes_33 : decode cX3_allTonnes 33 = .ok (.getfield 62, 3) := by decide +kernel
theorem dX3_allTonnes_36 : decode cX3_allTonnes 36 = .ok (.if_icmp .ge 23, 3) := by decide +kernel
theorem dX3_allTonnes_39 : decode cX3_allTonnes 39 = .ok (.aload_n 0, 1) := by decide +kernel
theorem dX3_allTonnes_40 : decode cX3_allTonnes 40 = .ok (.iload_n 2, 1) := by decide +kernel
theorem dX3_allTonnes_41 : decode cX3_allTonnes 41 = .ok (.invokevirtual 119, 3) := by decide +kernel
theorem dX3_allTonnes_44 : decode cX3_allTonnes 44 = .ok (.getfield 147, 3) := by decide +kernel
theorem dX3_allTonnes_47 : decode cX3_allTonnes 47 = .ok (.ifCond .eq 6, 3) := by decide +kernel
theorem dX3_allTonnes_50 : decode cX3_allTonnes 50 = .ok (.iinc 1 30, 3) := by decide +kernel
theorem dX3_allTonnes_53 : decode cX3_allTonnes 53 = .ok (.iinc 2 1, 3) := by decide +kernel
theorem dX3_allTonnes_56 : decode cX3_allTonnes 56 = .ok (.goto (-25), 3) := by decide +kernel
theorem dX3_allTonnes_59 : decode cX3_allTonnes 59 = .ok (.iload_n 1, 1) := by decide +kernel
theorem dX3_allTonnes_60 : decode cX3_allTonnes 60 = .ok (.ireturn, 1) := by decide +kernel
theorem dX3_lackOf_0 : decode cX3_lackOf 0 = .ok (.iconst 0, 1) := by decide +kernel
theorem dX3_lackOf_1 : decode cX3_lackOf 1 = .ok (.istore_n 2, 1) := by decide +kernel
theorem dX3_lackOf_2 : decode cX3_lackOf 2 = .ok (.iconst 0, 1) := by decide +kernel
theorem dX3_lackOf_3 : decode cX3_lackOf 3 = .ok (.istore_n 3, 1) := by decide +kernel
theorem dX3_lackOf_4 : decode cX3_lackOf 4 = .ok (.iload_n 3, 1) := by decide +kernel
theorem dX3_lackOf_5 : decode cX3_lackOf 5 = .ok (.aload_n 0, 1) := by decide +kernel
theorem dX3_lackOf_6 : decode cX3_lackOf 6 = .ok (.getfield 62, 3) := by decide +kernel
theorem dX3_lackOf_9 : decode cX3_lackOf 9 = .ok (.if_icmp .ge 36, 3) := by decide +kernel
theorem dX3_lackOf_12 : decode cX3_lackOf 12 = .ok (.aload_n 0, 1) := by decide +kernel
theorem dX3_lackOf_13 : decode cX3_lackOf 13 = .ok (.iload_n 3, 1) := by decide +kernel
theorem dX3_lackOf_14 : decode cX3_lackOf 14 = .ok (.invokevirtual 119, 3) := by decide +kernel
theorem dX3_lackOf_17 : decode cX3_lackOf 17 = .ok (.astore 4, 2) := by decide +kernel
theorem dX3_lackOf_19 : decode cX3_lackOf 19 = .ok (.aload 4, 2) := by decide +kernel
theorem dX3_lackOf_21 : decode cX3_lackOf 21 = .ok (.iload_n 1, 1) := by decide +kernel
theorem dX3_lackOf_22 : decode cX3_lackOf 22 = .ok (.invokevirtual 255, 3) := by decide +kernel
theorem dX3_lackOf_25 : decode cX3_lackOf 25 = .ok (.ifCond .eq 14, 3) := by decide +kernel
theorem dX3_lackOf_28 : decode cX3_lackOf 28 = .ok (.aload 4, 2) := by decide +kernel
theorem dX3_lackOf_30 : decode cX3_lackOf 30 = .ok (.getfield 147, 3) := by decide +kernel
theorem dX3_lackOf_33 : decode cX3_lackOf 33 = .ok (.ifCond .ne 6, 3) := by decide +kernel
theorem dX3_lackOf_36 : decode cX3_lackOf 36 = .ok (.iinc 2 1, 3) := by decide +kernel
theorem dX3_lackOf_39 : decode cX3_lackOf 39 = .ok (.iinc 3 1, 3) := by decide +kernel
theorem dX3_lackOf_42 : decode cX3_lackOf 42 = .ok (.goto (-38), 3) := by decide +kernel
theorem dX3_lackOf_45 : decode cX3_lackOf 45 = .ok (.iconst 0, 1) := by decide +kernel
theorem dX3_lackOf_46 : decode cX3_lackOf 46 = .ok (.aload_n 0, 1) := by decide +kernel
theorem dX3_lackOf_47 : decode cX3_lackOf 47 = .ok (.iload_n 1, 1) := by decide +kernel
theorem dX3_lackOf_48 : decode cX3_lackOf 48 = .ok (.invokevirtual 85, 3) := by decide +kernel
theorem dX3_lackOf_51 : decode cX3_lackOf 51 = .ok (.invokevirtual 276, 3) := by decide +kernel
theorem dX3_lackOf_54 : decode cX3_lackOf 54 = .ok (.aload_n 0, 1) := by decide +kernel
theorem dX3_lackOf_55 : decode cX3_lackOf 55 = .ok (.iload_n 1, 1) := by decide +kernel
theorem dX3_lackOf_56 : decode cX3_lackOf 56 = .ok (.invokevirtual 279, 3) := by decide +kernel
theorem dX3_lackOf_59 : decode cX3_lackOf 59 = .ok (.isub, 1) := by decide +kernel
theorem dX3_lackOf_60 : decode cX3_lackOf 60 = .ok (.iload_n 2, 1) := by decide +kernel
theorem dX3_lackOf_61 : decode cX3_lackOf 61 = .ok (.isub, 1) := by decide +kernel
theorem dX3_lackOf_62 : decode cX3_lackOf 62 = .ok (.invokestatic 282, 3) := by decide +kernel
theorem dX3_lackOf_65 : decode cX3_lackOf 65 = .ok (.ireturn, 1) := by decide +kernel
theorem dX3_spareOf_0 : decode cX3_spareOf 0 = .ok (.aload_n 0, 1) := by decide +kernel
theorem dX3_spareOf_1 : decode cX3_spareOf 1 = .ok (.iload_n 1, 1) := by decide +kernel
theorem dX3_spareOf_2 : decode cX3_spareOf 2 = .ok (.invokevirtual 279, 3) := by decide +kernel
theorem dX3_spareOf_5 : decode cX3_spareOf 5 = .ok (.aload_n 0, 1) := by decide +kernel
theorem dX3_spareOf_6 : decode cX3_spareOf 6 = .ok (.iload_n 1, 1) := by decide +kernel
theorem dX3_spareOf_7 : decode cX3_spareOf 7 = .ok (.invokevirtual 85, 3) := by decide +kernel
theorem dX3_spareOf_10 : decode cX3_spareOf 10 = .ok (.invokevirtual 276, 3) := by decide +kernel
theorem dX3_spareOf_13 : decode cX3_spareOf 13 = .ok (.isub, 1) := by decide +kernel
theorem dX3_spareOf_14 : decode cX3_spareOf 14 = .ok (.ireturn, 1) := by decide +kernel
theorem dX3_readyAt_0 : decode cX3_readyAt 0 = .ok (.iconst 0, 1) := by decide +kernel
theorem dX3_readyAt_1 : decode cX3_readyAt 1 = .ok (.istore_n 2, 1) := by decide +kernel
theorem dX3_readyAt_2 : decode cX3_readyAt 2 = .ok (.iconst 0, 1) := by decide +kernel
theorem dX3_readyAt_3 : decode cX3_readyAt 3 = .ok (.istore_n 3, 1) := by decide +kernel
theorem dX3_readyAt_4 : decode cX3_readyAt 4 = .ok (.iload_n 3, 1) := by decide +kernel
theorem dX3_readyAt_5 : decode cX3_readyAt 5 = .ok (.aload_n 0, 1) := by decide +kernel
theorem dX3_readyAt_6 : decode cX3_readyAt 6 = .ok (.getfield 62, 3) := by decide +kernel
theorem dX3_readyAt_9 : decode cX3_readyAt 9 = .ok (.if_icmp .ge 45, 3) := by decide +kernel
theorem dX3_readyAt_12 : decode cX3_readyAt 12 = .ok (.aload_n 0, 1) := by decide +kernel
theorem dX3_readyAt_13 : decode cX3_readyAt 13 = .ok (.iload_n 3, 1) := by decide +kernel
theorem dX3_readyAt_14 : decode cX3_readyAt 14 = .ok (.invokevirtual 119, 3) := by decide +kernel
theorem dX3_readyAt_17 : decode cX3_readyAt 17 = .ok (.astore 4, 2) := by decide +kernel
theorem dX3_readyAt_19 : decode cX3_readyAt 19 = .ok (.aload 4, 2) := by decide +kernel
theorem dX3_readyAt_21 : decode cX3_readyAt 21 = .ok (.iload_n 1, 1) := by decide +kernel
theorem dX3_readyAt_22 : decode cX3_readyAt 22 = .ok (.invokevirtual 169, 3) := by decide +kernel
theorem dX3_readyAt_25 : decode cX3_readyAt 25 = .ok (.ifCond .eq 23, 3) := by decide +kernel
theorem dX3_readyAt_28 : decode cX3_readyAt 28 = .ok (.aload 4, 2) := by decide +kernel
theorem dX3_readyAt_30 : decode cX3_readyAt 30 = .ok (.getfield 147, 3) := by decide +kernel
theorem dX3_readyAt_33 : decode cX3_readyAt 33 = .ok (.ifCond .ne 15, 3) := by decide +kernel
theorem dX3_readyAt_36 : decode cX3_readyAt 36 = .ok (.aload_n 0, 1) := by decide +kernel
theorem dX3_readyAt_37 : decode cX3_readyAt 37 = .ok (.aload 4, 2) := by decide +kernel
theorem dX3_readyAt_39 : decode cX3_readyAt 39 = .ok (.invokevirtual 157, 3) := by decide +kernel
theorem dX3_readyAt_42 : decode cX3_readyAt 42 = .ok (.ifCond .ne 6, 3) := by decide +kernel
theorem dX3_readyAt_45 : decode cX3_readyAt 45 = .ok (.iinc 2 1, 3) := by decide +kernel
theorem dX3_readyAt_48 : decode cX3_readyAt 48 = .ok (.iinc 3 1, 3) := by decide +kernel
theorem dX3_readyAt_51 : decode cX3_readyAt 51 = .ok (.goto (-47), 3) := by decide +kernel
theorem dX3_readyAt_54 : decode cX3_readyAt 54 = .ok (.iload_n 2, 1) := by decide +kernel
theorem dX3_readyAt_55 : decode cX3_readyAt 55 = .ok (.ireturn, 1) := by decide +kernel
theorem dX3_neediestMine_0 : decode cX3_neediestMine 0 = .ok (.iconst (-1), 1) := by decide +kernel
theorem dX3_neediestMine_1 : decode cX3_neediestMine 1 = .ok (.istore_n 1, 1) := by decide +kernel
theorem dX3_neediestMine_2 : decode cX3_neediestMine 2 = .ok (.iconst 0, 1) := by decide +kernel
theorem dX3_neediestMine_3 : decode cX3_neediestMine 3 = .ok (.istore_n 2, 1) := by decide +kernel
theorem dX3_neediestMine_4 : decode cX3_neediestMine 4 = .ok (.iconst 1, 1) := by decide +kernel
theorem dX3_neediestMine_5 : decode cX3_neediestMine 5 = .ok (.istore_n 3, 1) := by decide +kernel
theorem dX3_neediestMine_6 : decode cX3_neediestMine 6 = .ok (.iload_n 3, 1) := by decide +kernel
theorem dX3_neediestMine_7 : decode cX3_neediestMine 7 = .ok (.aload_n 0, 1) := by decide +kernel
theorem dX3_neediestMine_8 : decode cX3_neediestMine 8 = .ok (.getfield 58, 3) := by decide +kernel
theorem dX3_neediestMine_11 : decode cX3_neediestMine 11 = .ok (.if_icmp .gt 27, 3) := by decide +kernel
theorem dX3_neediestMine_14 : decode cX3_neediestMine 14 = .ok (.aload_n 0, 1) := by decide +kernel
theorem dX3_neediestMine_15 : decode cX3_neediestMine 15 = .ok (.iload_n 3, 1) := by decide +kernel
theorem dX3_neediestMine_16 : decode cX3_neediestMine 16 = .ok (.invokevirtual 287, 3) := by decide +kernel
theorem dX3_neediestMine_19 : decode cX3_neediestMine 19 = .ok (.istore 4, 2) := by decide +kernel
theorem dX3_neediestMine_21 : decode cX3_neediestMine 21 = .ok (.iload 4, 2) := by decide +kernel
theorem dX3_neediestMine_23 : decode cX3_neediestMine 23 = .ok (.iload_n 2, 1) := by decide +kernel
theorem dX3_neediestMine_24 : decode cX3_neediestMine 24 = .ok (.if_icmp .le 8, 3) := by decide +kernel
theorem dX3_neediestMine_27 : decode cX3_neediestMine 27 = .ok (.iload_n 3, 1) := by decide +kernel
theorem dX3_neediestMine_28 : decode cX3_neediestMine 28 = .ok (.istore_n 1, 1) := by decide +kernel
theorem dX3_neediestMine_29 : decode cX3_neediestMine 29 = .ok (.iload 4, 2) := by decide +kernel
theorem dX3_neediestMine_31 : decode cX3_neediestMine 31 = .ok (.istore_n 2, 1) := by decide +kernel
theorem dX3_neediestMine_32 : decode cX3_neediestMine 32 = .ok (.iinc 3 1, 3) := by decide +kernel
theorem dX3_neediestMine_35 : decode cX3_neediestMine 35 = .ok (.goto (-29), 3) := by decide +kernel
theorem dX3_neediestMine_38 : decode cX3_neediestMine 38 = .ok (.iload_n 1, 1) := by decide +kernel
theorem dX3_neediestMine_39 : decode cX3_neediestMine 39 = .ok (.ireturn, 1) := by decide +kernel
theorem dX3_nearestToSpare_0 : decode cX3_nearestToSpare 0 = .ok (.iconst (-1), 1) := by decide +kernel
theorem dX3_nearestToSpare_1 : decode cX3_nearestToSpare 1 = .ok (.istore_n 2, 1) := by decide +kernel
theorem dX3_nearestToSpare_2 : decode cX3_nearestToSpare 2 = .ok (.bipush 10, 2) := by decide +kernel
theorem dX3_nearestToSpare_4 : decode cX3_nearestToSpare 4 = .ok (.istore_n 3, 1) := by decide +kernel
theorem dX3_nearestToSpare_5 : decode cX3_nearestToSpare 5 = .ok (.iconst 0, 1) := by decide +kernel
theorem dX3_nearestToSpare_6 : decode cX3_nearestToSpare 6 = .ok (.istore 4, 2) := by decide +kernel
theorem dX3_nearestToSpare_8 : decode cX3_nearestToSpare 8 = .ok (.iload 4, 2) := by decide +kernel
theorem dX3_nearestToSpare_10 : decode cX3_nearestToSpare 10 = .ok (.aload_n 0, 1) := by decide +kernel
theorem dX3_nearestToSpare_11 : decode cX3_nearestToSpare 11 = .ok (.getfield 58, 3) := by decide +kernel
theorem dX3_nearestToSpare_14 : decode cX3_nearestToSpare 14 = .ok (.if_icmp .gt 46, 3) := by decide +kernel
theorem dX3_nearestToSpare_17 : decode cX3_nearestToSpare 17 = .ok (.iload 4, 2) := by decide +kernel
theorem dX3_nearestToSpare_19 : decode cX3_nearestToSpare 19 = .ok (.iload_n 1, 1) := by decide +kernel
theorem dX3_nearestToSpare_20 : decode cX3_nearestToSpare 20 = .ok (.if_icmp .eq 34, 3) := by decide +kernel
theorem dX3_nearestToSpare_23 : decode cX3_nearestToSpare 23 = .ok (.aload_n 0, 1) := by decide +kernel
theorem dX3_nearestToSpare_24 : decode cX3_nearestToSpare 24 = .ok (.iload 4, 2) := by decide +kernel
theorem dX3_nearestToSpare_26 : decode cX3_nearestToSpare 26 = .ok (.invokevirtual 290, 3) := by decide +kernel
theorem dX3_nearestToSpare_29 : decode cX3_nearestToSpare 29 = .ok (.ifCond .le 25, 3) := by decide +kernel
theorem dX3_nearestToSpare_32 : decode cX3_nearestToSpare 32 = .ok (.aload_n 0, 1) := by decide +kernel
theorem dX3_nearestToSpare_33 : decode cX3_nearestToSpare 33 = .ok (.iload 4, 2) := by decide +kernel
theorem dX3_nearestToSpare_35 : decode cX3_nearestToSpare 35 = .ok (.iload_n 1, 1) := by decide +kernel
theorem dX3_nearestToSpare_36 : decode cX3_nearestToSpare 36 = .ok (.invokevirtual 108, 3) := by decide +kernel
theorem dX3_nearestToSpare_39 : decode cX3_nearestToSpare 39 = .ok (.iload_n 3, 1) := by decide +kernel
theorem dX3_nearestToSpare_40 : decode cX3_nearestToSpare 40 = .ok (.if_icmp .ge 14, 3) := by decide +kernel
theorem dX3_nearestToSpare_43 : decode cX3_nearestToSpare 43 = .ok (.iload 4, 2) := by decide +kernel
theorem dX3_nearestToSpare_45 : decode cX3_nearestToSpare 45 = .ok (.istore_n 2, 1) := by decide +kernel
theorem dX3_nearestToSpare_46 : decode cX3_nearestToSpare 46 = .ok (.aload_n 0, 1) := by decide +kernel
theorem dX3_nearestToSpare_47 : decode cX3_nearestToSpare 47 = .ok (.iload 4, 2) := by decide +kernel
theorem dX3_nearestToSpare_49 : decode cX3_nearestToSpare 49 = .ok (.iload_n 1, 1) := by decide +kernel
theorem dX3_nearestToSpare_50 : decode cX3_nearestToSpare 50 = .ok (.invokevirtual 108, 3) := by decide +kernel
theorem dX3_nearestToSpare_53 : decode cX3_nearestToSpare 53 = .ok (.istore_n 3, 1) := by decide +kernel
theorem dX3_nearestToSpare_54 : decode cX3_nearestToSpare 54 = .ok (.iinc 4 1, 3) := by decide +kernel
theorem dX3_nearestToSpare_57 : decode cX3_nearestToSpare 57 = .ok (.goto (-49), 3) := by decide +kernel
theorem dX3_nearestToSpare_60 : decode cX3_nearestToSpare 60 = .ok (.iload_n 2, 1) := by decide +kernel
theorem dX3_nearestToSpare_61 : decode cX3_nearestToSpare 61 = .ok (.ireturn, 1) := by decide +kernel
