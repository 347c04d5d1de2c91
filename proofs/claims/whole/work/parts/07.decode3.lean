theorem dX7_whyNot_0 : decode cX7_whyNot 0 = .ok (.aload_n 0, 1) := by decide +kernel
theorem dX7_whyNot_1 : decode cX7_whyNot 1 = .ok (.iload_n 1, 1) := by decide +kernel
theorem dX7_whyNot_2 : decode cX7_whyNot 2 = .ok (.iconst 1, 1) := by decide +kernel
theorem dX7_whyNot_3 : decode cX7_whyNot 3 = .ok (.invokevirtual 40, 3) := by decide +kernel
theorem dX7_whyNot_6 : decode cX7_whyNot 6 = .ok (.istore_n 2, 1) := by decide +kernel
theorem dX7_whyNot_7 : decode cX7_whyNot 7 = .ok (.aload_n 0, 1) := by decide +kernel
theorem dX7_whyNot_8 : decode cX7_whyNot 8 = .ok (.iload_n 1, 1) := by decide +kernel
theorem dX7_whyNot_9 : decode cX7_whyNot 9 = .ok (.iconst 3, 1) := by decide +kernel
theorem dX7_whyNot_10 : decode cX7_whyNot 10 = .ok (.invokevirtual 40, 3) := by decide +kernel
theorem dX7_whyNot_13 : decode cX7_whyNot 13 = .ok (.ifCond .eq 10, 3) := by decide +kernel
theorem dX7_whyNot_16 : decode cX7_whyNot 16 = .ok (.aload_n 0, 1) := by decide +kernel
theorem dX7_whyNot_17 : decode cX7_whyNot 17 = .ok (.iload_n 1, 1) := by decide +kernel
theorem dX7_whyNot_18 : decode cX7_whyNot 18 = .ok (.iconst 3, 1) := by decide +kernel
theorem dX7_whyNot_19 : decode cX7_whyNot 19 = .ok (.invokevirtual 40, 3) := by decide +kernel
theorem dX7_whyNot_22 : decode cX7_whyNot 22 = .ok (.ireturn, 1) := by decide +kernel
theorem dX7_whyNot_23 : decode cX7_whyNot 23 = .ok (.aload_n 0, 1) := by decide +kernel
theorem dX7_whyNot_24 : decode cX7_whyNot 24 = .ok (.iload_n 1, 1) := by decide +kernel
theorem dX7_whyNot_25 : decode cX7_whyNot 25 = .ok (.iconst 2, 1) := by decide +kernel
theorem dX7_whyNot_26 : decode cX7_whyNot 26 = .ok (.invokevirtual 40, 3) := by decide +kernel
theorem dX7_whyNot_29 : decode cX7_whyNot 29 = .ok (.iconst 1, 1) := by decide +kernel
theorem dX7_whyNot_30 : decode cX7_whyNot 30 = .ok (.if_icmp .ne 5, 3) := by decide +kernel
theorem dX7_whyNot_33 : decode cX7_whyNot 33 = .ok (.iconst 3, 1) := by decide +kernel
theorem dX7_whyNot_34 : decode cX7_whyNot 34 = .ok (.ireturn, 1) := by decide +kernel
theorem dX7_whyNot_35 : decode cX7_whyNot 35 = .ok (.iload_n 2, 1) := by decide +kernel
theorem dX7_whyNot_36 : decode cX7_whyNot 36 = .ok (.ifCond .ne 7, 3) := by decide +kernel
theorem dX7_whyNot_39 : decode cX7_whyNot 39 = .ok (.iconst 4, 1) := by decide +kernel
theorem dX7_whyNot_40 : decode cX7_whyNot 40 = .ok (.goto 32, 3) := by decide +kernel
theorem dX7_whyNot_43 : decode cX7_whyNot 43 = .ok (.aload_n 0, 1) := by decide +kernel
theorem dX7_whyNot_44 : decode cX7_whyNot 44 = .ok (.iload_n 1, 1) := by decide +kernel
theorem dX7_whyNot_45 : decode cX7_whyNot 45 = .ok (.invokevirtual 44, 3) := by decide +kernel
theorem dX7_whyNot_48 : decode cX7_whyNot 48 = .ok (.ifCond .eq 7, 3) := by decide +kernel
theorem dX7_whyNot_51 : decode cX7_whyNot 51 = .ok (.iconst 5, 1) := by decide +kernel
theorem dX7_whyNot_52 : decode cX7_whyNot 52 = .ok (.goto 20, 3) := by decide +kernel
theorem dX7_whyNot_55 : decode cX7_whyNot 55 = .ok (.aload_n 0, 1) := by decide +kernel
theorem dX7_whyNot_56 : decode cX7_whyNot 56 = .ok (.iload_n 2, 1) := by decide +kernel
theorem dX7_whyNot_57 : decode cX7_whyNot 57 = .ok (.iconst 0, 1) := by decide +kernel
theorem dX7_whyNot_58 : decode cX7_whyNot 58 = .ok (.invokevirtual 48, 3) := by decide +kernel
theorem dX7_whyNot_61 : decode cX7_whyNot 61 = .ok (.bipush 30, 2) := by decide +kernel
theorem dX7_whyNot_63 : decode cX7_whyNot 63 = .ok (.if_icmp .ge 8, 3) := by decide +kernel
theorem dX7_whyNot_66 : decode cX7_whyNot 66 = .ok (.bipush 6, 2) := by decide +kernel
theorem dX7_whyNot_68 : decode cX7_whyNot 68 = .ok (.goto 4, 3) := by decide +kernel
theorem dX7_whyNot_71 : decode cX7_whyNot 71 = .ok (.iconst 0, 1) := by decide +kernel
theorem dX7_whyNot_72 : decode cX7_whyNot 72 = .ok (.ireturn, 1) := by decide +kernel
theorem dX7_pays_0 : decode cX7_pays 0 = .ok (.aload_n 0, 1) := by decide +kernel
theorem dX7_pays_1 : decode cX7_pays 1 = .ok (.iload_n 1, 1) := by decide +kernel
theorem dX7_pays_2 : decode cX7_pays 2 = .ok (.iconst 2, 1) := by decide +kernel
theorem dX7_pays_3 : decode cX7_pays 3 = .ok (.iload_n 3, 1) := by decide +kernel
theorem dX7_pays_4 : decode cX7_pays 4 = .ok (.ineg, 1) := by decide +kernel
theorem dX7_pays_5 : decode cX7_pays 5 = .ok (.invokevirtual 51, 3) := by decide +kernel
theorem dX7_pays_8 : decode cX7_pays 8 = .ok (.aload_n 0, 1) := by decide +kernel
theorem dX7_pays_9 : decode cX7_pays 9 = .ok (.iload_n 2, 1) := by decide +kernel
theorem dX7_pays_10 : decode cX7_pays 10 = .ok (.iconst 2, 1) := by decide +kernel
theorem dX7_pays_11 : decode cX7_pays 11 = .ok (.iload_n 3, 1) := by decide +kernel
theorem dX7_pays_12 : decode cX7_pays 12 = .ok (.invokevirtual 51, 3) := by decide +kernel
theorem dX7_pays_15 : decode cX7_pays 15 = .ok (.return_, 1) := by decide +kernel
theorem dX7_inRepair_0 : decode cX7_inRepair 0 = .ok (.iconst 0, 1) := by decide +kernel
theorem dX7_inRepair_1 : decode cX7_inRepair 1 = .ok (.istore_n 2, 1) := by decide +kernel
theorem dX7_inRepair_2 : decode cX7_inRepair 2 = .ok (.iconst 0, 1) := by decide +kernel
theorem dX7_inRepair_3 : decode cX7_inRepair 3 = .ok (.istore_n 3, 1) := by decide +kernel
theorem dX7_inRepair_4 : decode cX7_inRepair 4 = .ok (.iload_n 3, 1) := by decide +kernel
theorem dX7_inRepair_5 : decode cX7_inRepair 5 = .ok (.aload_n 0, 1) := by decide +kernel
theorem dX7_inRepair_6 : decode cX7_inRepair 6 = .ok (.getfield 7, 3) := by decide +kernel
theorem dX7_inRepair_9 : decode cX7_inRepair 9 = .ok (.iconst 1, 1) := by decide +kernel
theorem dX7_inRepair_10 : decode cX7_inRepair 10 = .ok (.iaload, 1) := by decide +kernel
theorem dX7_inRepair_11 : decode cX7_inRepair 11 = .ok (.if_icmp .ge 41, 3) := by decide +kernel
theorem dX7_inRepair_14 : decode cX7_inRepair 14 = .ok (.iload_n 2, 1) := by decide +kernel
theorem dX7_inRepair_15 : decode cX7_inRepair 15 = .ok (.aload_n 0, 1) := by decide +kernel
theorem dX7_inRepair_16 : decode cX7_inRepair 16 = .ok (.iload_n 3, 1) := by decide +kernel
theorem dX7_inRepair_17 : decode cX7_inRepair 17 = .ok (.iconst 3, 1) := by decide +kernel
theorem dX7_inRepair_18 : decode cX7_inRepair 18 = .ok (.invokevirtual 40, 3) := by decide +kernel
theorem dX7_inRepair_21 : decode cX7_inRepair 21 = .ok (.iconst 2, 1) := by decide +kernel
theorem dX7_inRepair_22 : decode cX7_inRepair 22 = .ok (.if_icmp .ne 21, 3) := by decide +kernel
theorem dX7_inRepair_25 : decode cX7_inRepair 25 = .ok (.iload_n 1, 1) := by decide +kernel
theorem dX7_inRepair_26 : decode cX7_inRepair 26 = .ok (.ifCond .ne 13, 3) := by decide +kernel
theorem dX7_inRepair_29 : decode cX7_inRepair 29 = .ok (.aload_n 0, 1) := by decide +kernel
theorem dX7_inRepair_30 : decode cX7_inRepair 30 = .ok (.iload_n 3, 1) := by decide +kernel
theorem dX7_inRepair_31 : decode cX7_inRepair 31 = .ok (.bipush 6, 2) := by decide +kernel
theorem dX7_inRepair_33 : decode cX7_inRepair 33 = .ok (.invokevirtual 40, 3) := by decide +kernel
theorem dX7_inRepair_36 : decode cX7_inRepair 36 = .ok (.ifCond .lt 7, 3) := by decide +kernel
theorem dX7_inRepair_39 : decode cX7_inRepair 39 = .ok (.iconst 1, 1) := by decide +kernel
theorem dX7_inRepair_40 : decode cX7_inRepair 40 = .ok (.goto 4, 3) := by decide +kernel
theorem dX7_inRepair_43 : decode cX7_inRepair 43 = .ok (.iconst 0, 1) := by decide +kernel
theorem dX7_inRepair_44 : decode cX7_inRepair 44 = .ok (.iadd, 1) := by decide +kernel
theorem dX7_inRepair_45 : decode cX7_inRepair 45 = .ok (.istore_n 2, 1) := by decide +kernel
theorem dX7_inRepair_46 : decode cX7_inRepair 46 = .ok (.iinc 3 1, 3) := by decide +kernel
theorem dX7_inRepair_49 : decode cX7_inRepair 49 = .ok (.goto (-45), 3) := by decide +kernel
theorem dX7_inRepair_52 : decode cX7_inRepair 52 = .ok (.iload_n 2, 1) := by decide +kernel
theorem dX7_inRepair_53 : decode cX7_inRepair 53 = .ok (.ireturn, 1) := by decide +kernel
theorem dX7_firstWaiting_0 : decode cX7_firstWaiting 0 = .ok (.iconst (-1), 1) := by decide +kernel
theorem dX7_firstWaiting_1 : decode cX7_firstWaiting 1 = .ok (.istore_n 1, 1) := by decide +kernel
theorem dX7_firstWaiting_2 : decode cX7_firstWaiting 2 = .ok (.iconst 0, 1) := by decide +kernel
theorem dX7_firstWaiting_3 : decode cX7_firstWaiting 3 = .ok (.istore_n 2, 1) := by decide +kernel
theorem dX7_firstWaiting_4 : decode cX7_firstWaiting 4 = .ok (.iload_n 2, 1) := by decide +kernel
theorem dX7_firstWaiting_5 : decode cX7_firstWaiting 5 = .ok (.aload_n 0, 1) := by decide +kernel
theorem dX7_firstWaiting_6 : decode cX7_firstWaiting 6 = .ok (.getfield 7, 3) := by decide +kernel
theorem dX7_firstWaiting_9 : decode cX7_firstWaiting 9 = .ok (.iconst 1, 1) := by decide +kernel
theorem dX7_firstWaiting_10 : decode cX7_firstWaiting 10 = .ok (.iaload, 1) := by decide +kernel
theorem dX7_firstWaiting_11 : decode cX7_firstWaiting 11 = .ok (.if_icmp .ge 66, 3) := by decide +kernel
theorem dX7_firstWaiting_14 : decode cX7_firstWaiting 14 = .ok (.aload_n 0, 1) := by decide +kernel
theorem dX7_firstWaiting_15 : decode cX7_firstWaiting 15 = .ok (.iload_n 2, 1) := by decide +kernel
theorem dX7_firstWaiting_16 : decode cX7_firstWaiting 16 = .ok (.iconst 3, 1) := by decide +kernel
theorem dX7_firstWaiting_17 : decode cX7_firstWaiting 17 = .ok (.invokevirtual 40, 3) := by decide +kernel
theorem dX7_firstWaiting_20 : decode cX7_firstWaiting 20 = .ok (.iconst 2, 1) := by decide +kernel
theorem dX7_firstWaiting_21 : decode cX7_firstWaiting 21 = .ok (.if_icmp .ne 17, 3) := by decide +kernel
theorem dX7_firstWaiting_24 : decode cX7_firstWaiting 24 = .ok (.aload_n 0, 1) := by decide +kernel
theorem dX7_firstWaiting_25 : decode cX7_firstWaiting 25 = .ok (.iload_n 2, 1) := by decide +kernel
theorem dX7_firstWaiting_26 : decode cX7_firstWaiting 26 = .ok (.bipush 6, 2) := by decide +kernel
theorem dX7_firstWaiting_28 : decode cX7_firstWaiting 28 = .ok (.invokevirtual 40, 3) := by decide +kernel
theorem dX7_firstWaiting_31 : decode cX7_firstWaiting 31 = .ok (.ifCond .ge 7, 3) := by decide +kernel
theorem dX7_firstWaiting_34 : decode cX7_firstWaiting 34 = .ok (.iconst 1, 1) := by decide +kernel
theorem dX7_firstWaiting_35 : decode cX7_firstWaiting 35 = .ok (.goto 4, 3) := by decide +kernel
theorem dX7_firstWaiting_38 : decode cX7_firstWaiting 38 = .ok (.iconst 0, 1) := by decide +kernel
theorem dX7_firstWaiting_39 : decode cX7_firstWaiting 39 = .ok (.istore_n 3, 1) := by decide +kernel
theorem dX7_firstWaiting_40 : decode cX7_firstWaiting 40 = .ok (.iload_n 3, 1) := by decide +kernel
theorem dX7_firstWaiting_41 : decode cX7_firstWaiting 41 = .ok (.ifCond .eq 28, 3) := by decide +kernel
theorem dX7_firstWaiting_44 : decode cX7_firstWaiting 44 = .ok (.iload_n 1, 1) := by decide +kernel
theorem dX7_firstWaiting_45 : decode cX7_firstWaiting 45 = .ok (.ifCond .lt 20, 3) := by decide +kernel
theorem dX7_firstWaiting_48 : decode cX7_firstWaiting 48 = .ok (.aload_n 0, 1) := by decide +kernel
theorem dX7_firstWaiting_49 : decode cX7_firstWaiting 49 = .ok (.iload_n 2, 1) := by decide +kernel
theorem dX7_firstWaiting_50 : decode cX7_firstWaiting 50 = .ok (.bipush 9, 2) := by decide +kernel
theorem dX7_firstWaiting_52 : decode cX7_firstWaiting 52 = .ok (.invokevirtual 40, 3) := by decide +kernel
theorem dX7_firstWaiting_55 : decode cX7_firstWaiting 55 = .ok (.aload_n 0, 1) := by decide +kernel
theorem dX7_firstWaiting_56 : decode cX7_firstWaiting 56 = .ok (.iload_n 1, 1) := by decide +kernel
theorem dX7_firstWaiting_57 : decode cX7_firstWaiting 57 = .ok (.bipush 9, 2) := by decide +kernel
theorem dX7_firstWaiting_59 : decode cX7_firstWaiting 59 = .ok (.invokevirtual 40, 3) := by decide +kernel
theorem dX7_firstWaiting_62 : decode cX7_firstWaiting 62 = .ok (.if_icmp .ge 7, 3) := by decide +kernel
theorem dX7_firstWaiting_65 : decode cX7_firstWaiting 65 = .ok (.iload_n 2, 1) := by decide +kernel
theorem dX7_firstWaiting_66 : decode cX7_firstWaiting 66 = .ok (.goto 4, 3) := by decide +kernel
theorem dX7_firstWaiting_69 : decode cX7_firstWaiting 69 = .ok (.iload_n 1, 1) := by decide +kernel
theorem dX7_firstWaiting_70 : decode cX7_firstWaiting 70 = .ok (.istore_n 1, 1) := by decide +kernel
theorem dX7_firstWaiting_71 : decode cX7_firstWaiting 71 = .ok (.iinc 2 1, 3) := by decide +kernel
theorem dX7_firstWaiting_74 : decode cX7_firstWaiting 74 = .ok (.goto (-70), 3) := by decide +kernel
theorem dX7_firstWaiting_77 : decode cX7_firstWaiting 77 = .ok (.iload_n 1, 1) := by decide +kernel
theorem dX7_firstWaiting_78 : decode cX7_firstWaiting 78 = .ok (.ireturn, 1) := by decide +kernel
theorem dX7_fillsShop_0 : decode cX7_fillsShop 0 = .ok (.aload_n 0, 1) := by decide +kernel
theorem dX7_fillsShop_1 : decode cX7_fillsShop 1 = .ok (.invokevirtual 55, 3) := by decide +kernel
theorem dX7_fillsShop_4 : decode cX7_fillsShop 4 = .ok (.istore_n 1, 1) := by decide +kernel
theorem dX7_fillsShop_5 : decode cX7_fillsShop 5 = .ok (.iload_n 1, 1) := by decide +kernel
theorem dX7_fillsShop_6 : decode cX7_fillsShop 6 = .ok (.ifCond .lt 41, 3) := by decide +kernel
theorem dX7_fillsShop_9 : decode cX7_fillsShop 9 = .ok (.aload_n 0, 1) := by decide +kernel
theorem dX7_fillsShop_10 : decode cX7_fillsShop 10 = .ok (.iconst 0, 1) := by decide +kernel
theorem dX7_fillsShop_11 : decode cX7_fillsShop 11 = .ok (.invokevirtual 59, 3) := by decide +kernel
theorem dX7_fillsShop_14 : decode cX7_fillsShop 14 = .ok (.iconst 2, 1) := by decide +kernel
theorem dX7_fillsShop_15 : decode cX7_fillsShop 15 = .ok (.if_icmp .ge 32, 3) := by decide +kernel
theorem dX7_fillsShop_18 : decode cX7_fillsShop 18 = .ok (.aload_n 0, 1) := by decide +kernel
theorem dX7_fillsShop_19 : decode cX7_fillsShop 19 = .ok (.iload_n 1, 1) := by decide +kernel
theorem dX7_fillsShop_20 : decode cX7_fillsShop 20 = .ok (.bipush 6, 2) := by decide +kernel
theorem dX7_fillsShop_22 : decode cX7_fillsShop 22 = .ok (.aload_n 0, 1) := by decide +kernel
theorem dX7_fillsShop_23 : decode cX7_fillsShop 23 = .ok (.getfield 7, 3) := by decide +kernel
theorem dX7_fillsShop_26 : decode cX7_fillsShop 26 = .ok (.iconst 2, 1) := by decide +kernel
theorem dX7_fillsShop_27 : decode cX7_fillsShop 27 = .ok (.iaload, 1) := by decide +kernel
theorem dX7_fillsShop_28 : decode cX7_fillsShop 28 = .ok (.aload_n 0, 1) := by decide +kernel
theorem dX7_fillsShop_29 : decode cX7_fillsShop 29 = .ok (.getfield 7, 3) := by decide +kernel
theorem dX7_fillsShop_32 : decode cX7_fillsShop 32 = .ok (.bipush 13, 2) := by decide +kernel
theorem dX7_fillsShop_34 : decode cX7_fillsShop 34 = .ok (.iaload, 1) := by decide +kernel
theorem dX7_fillsShop_35 : decode cX7_fillsShop 35 = .ok (.iadd, 1) := by decide +kernel
theorem dX7_fillsShop_36 : decode cX7_fillsShop 36 = .ok (.invokevirtual 63, 3) := by decide +kernel
theorem dX7_fillsShop_39 : decode cX7_fillsShop 39 = .ok (.aload_n 0, 1) := by decide +kernel
theorem dX7_fillsShop_40 : decode cX7_fillsShop 40 = .ok (.invokevirtual 55, 3) := by decide +kernel
theorem dX7_fillsShop_43 : decode cX7_fillsShop 43 = .ok (.istore_n 1, 1) := by decide +kernel
theorem dX7_fillsShop_44 : decode cX7_fillsShop 44 = .ok (.goto (-39), 3) := by decide +kernel
theorem dX7_fillsShop_47 : decode cX7_fillsShop 47 = .ok (.return_, 1) := by decide +kernel
theorem dX7_arrives_0 : decode cX7_arrives 0 = .ok (.iconst 0, 1) := by decide +kernel
theorem dX7_arrives_1 : decode cX7_arrives 1 = .ok (.istore_n 1, 1) := by decide +kernel
theorem dX7_arrives_2 : decode cX7_arrives 2 = .ok (.iconst 0, 1) := by decide +kernel
theorem dX7_arrives_3 : decode cX7_arrives 3 = .ok (.istore_n 2, 1) := by decide +kernel
theorem dX7_arrives_4 : decode cX7_arrives 4 = .ok (.iload_n 2, 1) := by decide +kernel
theorem dX7_arrives_5 : decode cX7_arrives 5 = .ok (.aload_n 0, 1) := by decide +kernel
theorem dX7_arrives_6 : decode cX7_arrives 6 = .ok (.getfield 7, 3) := by decide +kernel
theorem dX7_arrives_9 : decode cX7_arrives 9 = .ok (.iconst 1, 1) := by decide +kernel
theorem dX7_arrives_10 : decode cX7_arrives 10 = .ok (.iaload, 1) := by decide +kernel
theorem dX7_arrives_11 : decode cX7_arrives 11 = .ok (.if_icmp .ge 72, 3) := by decide +kernel
theorem dX7_arrives_14 : decode cX7_arrives 14 = .ok (.aload_n 0, 1) := by decide +kernel
theorem dX7_arrives_15 : decode cX7_arrives 15 = .ok (.iload_n 2, 1) := by decide +kernel
theorem dX7_arrives_16 : decode cX7_arrives 16 = .ok (.iconst 3, 1) := by decide +kernel
theorem dX7_arrives_17 : decode cX7_arrives 17 = .ok (.invokevirtual 40, 3) := by decide +kernel
theorem dX7_arrives_20 : decode cX7_arrives 20 = .ok (.iconst 1, 1) := by decide +kernel
theorem dX7_arrives_21 : decode cX7_arrives 21 = .ok (.if_icmp .ne 56, 3) := by decide +kernel
theorem dX7_arrives_24 : decode cX7_arrives 24 = .ok (.aload_n 0, 1) := by decide +kernel
theorem dX7_arrives_25 : decode cX7_arrives 25 = .ok (.iload_n 2, 1) := by decide +kernel
theorem dX7_arrives_26 : decode cX7_arrives 26 = .ok (.bipush 6, 2) := by decide +kernel
theorem dX7_arrives_28 : decode cX7_arrives 28 = .ok (.invokevirtual 40, 3) := by decide +kernel
theorem dX7_arrives_31 : decode cX7_arrives 31 = .ok (.aload_n 0, 1) := by decide +kernel
theorem dX7_arrives_32 : decode cX7_arrives 32 = .ok (.getfield 7, 3) := by decide +kernel
theorem dX7_arrives_35 : decode cX7_arrives 35 = .ok (.iconst 2, 1) := by decide +kernel
theorem dX7_arrives_36 : decode cX7_arrives 36 = .ok (.iaload, 1) := by decide +kernel
theorem dX7_arrives_37 : decode cX7_arrives 37 = .ok (.if_icmp .ne 40, 3) := by decide +kernel
theorem dX7_arrives_40 : decode cX7_arrives 40 = .ok (.aload_n 0, 1) := by decide +kernel
theorem dX7_arrives_41 : decode cX7_arrives 41 = .ok (.iload_n 2, 1) := by decide +kernel
theorem dX7_arrives_42 : decode cX7_arrives 42 = .ok (.iconst 3, 1) := by decide +kernel
theorem dX7_arrives_43 : decode cX7_arrives 43 = .ok (.iconst 0, 1) := by decide +kernel
theorem dX7_arrives_44 : decode cX7_arrives 44 = .ok (.invokevirtual 63, 3) := by decide +kernel
theorem dX7_arrives_47 : decode cX7_arrives 47 = .ok (.aload_n 0, 1) := by decide +kernel
theorem dX7_arrives_48 : decode cX7_arrives 48 = .ok (.iload_n 2, 1) := by decide +kernel
theorem dX7_arrives_49 : decode cX7_arrives 49 = .ok (.iconst 4, 1) := by decide +kernel
theorem dX7_arrives_50 : decode cX7_arrives 50 = .ok (.aload_n 0, 1) := by decide +kernel
theorem dX7_arrives_51 : decode cX7_arrives 51 = .ok (.iload_n 2, 1) := by decide +kernel
theorem dX7_arrives_52 : decode cX7_arrives 52 = .ok (.iconst 4, 1) := by decide +kernel
theorem dX7_arrives_53 : decode cX7_arrives 53 = .ok (.invokevirtual 40, 3) := by decide +kernel
theorem dX7_arrives_56 : decode cX7_arrives 56 = .ok (.aload_n 0, 1) := by decide +kernel
theorem dX7_arrives_57 : decode cX7_arrives 57 = .ok (.iload_n 2, 1) := by decide +kernel
theorem dX7_arrives_58 : decode cX7_arrives 58 = .ok (.bipush 8, 2) := by decide +kernel
theorem dX7_arrives_60 : decode cX7_arrives 60 = .ok (.invokevirtual 40, 3) := by decide +kernel
theorem dX7_arrives_63 : decode cX7_arrives 63 = .ok (.iadd, 1) := by decide +kernel
theorem dX7_arrives_64 : decode cX7_arrives 64 = .ok (.invokevirtual 63, 3) := by decide +kernel
theorem dX7_arrives_67 : decode cX7_arrives 67 = .ok (.aload_n 0, 1) := by decide +kernel
theorem dX7_arrives_68 : decode cX7_arrives 68 = .ok (.iload_n 2, 1) := by decide +kernel
theorem dX7_arrives_69 : decode cX7_arrives 69 = .ok (.iconst 5, 1) := by decide +kernel
theorem dX7_arrives_70 : decode cX7_arrives 70 = .ok (.iconst (-1), 1) := by decide +kernel
theorem dX7_arrives_71 : decode cX7_arrives 71 = .ok (.invokevirtual 63, 3) := by decide +kernel
theorem dX7_arrives_74 : decode cX7_arrives 74 = .ok (.iinc 1 1, 3) := by decide +kernel
theorem dX7_arrives_77 : decode cX7_arrives 77 = .ok (.iinc 2 1, 3) := by decide +kernel
theorem dX7_arrives_80 : decode cX7_arrives 80 = .ok (.goto (-76), 3) := by decide +kernel
theorem dX7_arrives_83 : decode cX7_arrives 83 = .ok (.iload_n 1, 1) := by decide +kernel
theorem dX7_arrives_84 : decode cX7_arrives 84 = .ok (.ireturn, 1) := by decide +kernel
theorem dX7_repairs_0 : decode cX7_repairs 0 = .ok (.iconst 0, 1) := by decide +kernel
theorem dX7_repairs_1 : decode cX7_repairs 1 = .ok (.istore_n 1, 1) := by decide +kernel
theorem dX7_repairs_2 : decode cX7_repairs 2 = .ok (.iload_n 1, 1) := by decide +kernel
theorem dX7_repairs_3 : decode cX7_repairs 3 = .ok (.aload_n 0, 1) := by decide +kernel
theorem dX7_repairs_4 : decode cX7_repairs 4 = .ok (.getfield 7, 3) := by decide +kernel
theorem dX7_repairs_7 : decode cX7_repairs 7 = .ok (.iconst 1, 1) := by decide +kernel
theorem dX7_repairs_8 : decode cX7_repairs 8 = .ok (.iaload, 1) := by decide +kernel
theorem dX7_repairs_9 : decode cX7_repairs 9 = .ok (.if_icmp .ge 66, 3) := by decide +kernel
theorem dX7_repairs_12 : decode cX7_repairs 12 = .ok (.aload_n 0, 1) := by decide +kernel
theorem dX7_repairs_13 : decode cX7_repairs 13 = .ok (.iload_n 1, 1) := by decide +kernel
theorem dX7_repairs_14 : decode cX7_repairs 14 = .ok (.iconst 3, 1) := by decide +kernel
theorem dX7_repairs_15 : decode cX7_repairs 15 = .ok (.invokevirtual 40, 3) := by decide +kernel
theorem dX7_repairs_18 : decode cX7_repairs 18 = .ok (.iconst 2, 1) := by decide +kernel
theorem dX7_repairs_19 : decode cX7_repairs 19 = .ok (.if_icmp .ne 50, 3) := by decide +kernel
theorem dX7_repairs_22 : decode cX7_repairs 22 = .ok (.aload_n 0, 1) := by decide +kernel
theorem dX7_repairs_23 : decode cX7_repairs 23 = .ok (.iload_n 1, 1) := by decide +kernel
theorem dX7_repairs_24 : decode cX7_repairs 24 = .ok (.bipush 6, 2) := by decide +kernel
theorem dX7_repairs_26 : decode cX7_repairs 26 = .ok (.invokevirtual 40, 3) := by decide +kernel
theorem dX7_repairs_29 : decode cX7_repairs 29 = .ok (.aload_n 0, 1) := by decide +kernel
theorem dX7_repairs_30 : decode cX7_repairs 30 = .ok (.getfield 7, 3) := by decide +kernel
theorem dX7_repairs_33 : decode cX7_repairs 33 = .ok (.iconst 2, 1) := by decide +kernel
theorem dX7_repairs_34 : decode cX7_repairs 34 = .ok (.iaload, 1) := by decide +kernel
theorem dX7_repairs_35 : decode cX7_repairs 35 = .ok (.if_icmp .ne 34, 3) := by decide +kernel
theorem dX7_repairs_38 : decode cX7_repairs 38 = .ok (.aload_n 0, 1) := by decide +kernel
theorem dX7_repairs_39 : decode cX7_repairs 39 = .ok (.iload_n 1, 1) := by decide +kernel
theorem dX7_repairs_40 : decode cX7_repairs 40 = .ok (.iconst 3, 1) := by decide +kernel
theorem dX7_repairs_41 : decode cX7_repairs 41 = .ok (.iconst 0, 1) := by decide +kernel
theorem dX7_repairs_42 : decode cX7_repairs 42 = .ok (.invokevirtual 63, 3) := by decide +kernel
theorem dX7_repairs_45 : decode cX7_repairs 45 = .ok (.aload_n 0, 1) := by decide +kernel
theorem dX7_repairs_46 : decode cX7_repairs 46 = .ok (.iload_n 1, 1) := by decide +kernel
theorem dX7_repairs_47 : decode cX7_repairs 47 = .ok (.iconst 4, 1) := by decide +kernel
theorem dX7_repairs_48 : decode cX7_repairs 48 = .ok (.iconst 0, 1) := by decide +kernel
theorem dX7_repairs_49 : decode cX7_repairs 49 = .ok (.invokevirtual 63, 3) := by decide +kernel
theorem dX7_repairs_52 : decode cX7_repairs 52 = .ok (.aload_n 0, 1) := by decide +kernel
theorem dX7_repairs_53 : decode cX7_repairs 53 = .ok (.iload_n 1, 1) := by decide +kernel
theorem dX7_repairs_54 : decode cX7_repairs 54 = .ok (.iconst 5, 1) := by decide +kernel
theorem dX7_repairs_55 : decode cX7_repairs 55 = .ok (.iconst (-1), 1) := by decide +kernel
theorem dX7_repairs_56 : decode cX7_repairs 56 = .ok (.invokevirtual 63, 3) := by decide +kernel
theorem dX7_repairs_59 : decode cX7_repairs 59 = .ok (.aload_n 0, 1) := by decide +kernel
theorem dX7_repairs_60 : decode cX7_repairs 60 = .ok (.getfield 7, 3) := by decide +kernel
theorem dX7_repairs_63 : decode cX7_repairs 63 = .ok (.iconst 3, 1) := by decide +kernel
theorem dX7_repairs_64 : decode cX7_repairs 64 = .ok (.dup2, 1) := by decide +kernel
theorem dX7_repairs_65 : decode cX7_repairs 65 = .ok (.iaload, 1) := by decide +kernel
theorem dX7_repairs_66 : decode cX7_repairs 66 = .ok (.iconst 1, 1) := by decide +kernel
theorem dX7_repairs_67 : decode cX7_repairs 67 = .ok (.iadd, 1) := by decide +kernel
theorem dX7_repairs_68 : decode cX7_repairs 68 = .ok (.iastore, 1) := by decide +kernel
theorem dX7_repairs_69 : decode cX7_repairs 69 = .ok (.iinc 1 1, 3) := by decide +kernel
theorem dX7_repairs_72 : decode cX7_repairs 72 = .ok (.goto (-70), 3) := by decide +kernel
theorem dX7_repairs_75 : decode cX7_repairs 75 = .ok (.aload_n 0, 1) := by decide +kernel
theorem dX7_repairs_76 : decode cX7_repairs 76 = .ok (.invokevirtual 66, 3) := by decide +kernel
theorem dX7_repairs_79 : decode cX7_repairs 79 = .ok (.return_, 1) := by decide +kernel
theorem dX7_charges_0 : decode cX7_charges 0 = .ok (.aload_n 0, 1) := by decide +kernel
theorem dX7_charges_1 : decode cX7_charges 1 = .ok (.iload_n 1, 1) := by decide +kernel
theorem dX7_charges_2 : decode cX7_charges 2 = .ok (.iconst 1, 1) := by decide +kernel
theorem dX7_charges_3 : decode cX7_charges 3 = .ok (.invokevirtual 40, 3) := by decide +kernel
theorem dX7_charges_6 : decode cX7_charges 6 = .ok (.istore_n 2, 1) := by decide +kernel
theorem dX7_charges_7 : decode cX7_charges 7 = .ok (.aload_n 0, 1) := by decide +kernel
theorem dX7_charges_8 : decode cX7_charges 8 = .ok (.iload_n 1, 1) := by decide +kernel
theorem dX7_charges_9 : decode cX7_charges 9 = .ok (.iconst 0, 1) := by decide +kernel
theorem dX7_charges_10 : decode cX7_charges 10 = .ok (.invokevirtual 40, 3) := by decide +kernel
theorem dX7_charges_13 : decode cX7_charges 13 = .ok (.istore_n 3, 1) := by decide +kernel
theorem dX7_charges_14 : decode cX7_charges 14 = .ok (.iload_n 2, 1) := by decide +kernel
theorem dX7_charges_15 : decode cX7_charges 15 = .ok (.ifCond .ne 62, 3) := by decide +kernel
theorem dX7_charges_18 : decode cX7_charges 18 = .ok (.aload_n 0, 1) := by decide +kernel
theorem dX7_charges_19 : decode cX7_charges 19 = .ok (.iload_n 1, 1) := by decide +kernel
theorem dX7_charges_20 : decode cX7_charges 20 = .ok (.iconst 2, 1) := by decide +kernel
theorem dX7_charges_21 : decode cX7_charges 21 = .ok (.invokevirtual 40, 3) := by decide +kernel
theorem dX7_charges_24 : decode cX7_charges 24 = .ok (.iconst 1, 1) := by decide +kernel
theorem dX7_charges_25 : decode cX7_charges 25 = .ok (.if_icmp .ne 52, 3) := by decide +kernel
theorem dX7_charges_28 : decode cX7_charges 28 = .ok (.aload_n 0, 1) := by decide +kernel
theorem dX7_charges_29 : decode cX7_charges 29 = .ok (.iload_n 1, 1) := by decide +kernel
theorem dX7_charges_30 : decode cX7_charges 30 = .ok (.iconst 5, 1) := by decide +kernel
theorem dX7_charges_31 : decode cX7_charges 31 = .ok (.invokevirtual 40, 3) := by decide +kernel
theorem dX7_charges_34 : decode cX7_charges 34 = .ok (.aload_n 0, 1) := by decide +kernel
theorem dX7_charges_35 : decode cX7_charges 35 = .ok (.getfield 7, 3) := by decide +kernel
theorem dX7_charges_38 : decode cX7_charges 38 = .ok (.bipush 7, 2) := by decide +kernel
theorem dX7_charges_40 : decode cX7_charges 40 = .ok (.iaload, 1) := by decide +kernel
theorem dX7_charges_41 : decode cX7_charges 41 = .ok (.if_icmp .le 36, 3) := by decide +kernel
theorem dX7_charges_44 : decode cX7_charges 44 = .ok (.aload_n 0, 1) := by decide +kernel
theorem dX7_charges_45 : decode cX7_charges 45 = .ok (.getfield 7, 3) := by decide +kernel
theorem dX7_charges_48 : decode cX7_charges 48 = .ok (.bipush 8, 2) := by decide +kernel
theorem dX7_charges_50 : decode cX7_charges 50 = .ok (.iaload, 1) := by decide +kernel
theorem dX7_charges_51 : decode cX7_charges 51 = .ok (.istore 4, 2) := by decide +kernel
theorem dX7_charges_53 : decode cX7_charges 53 = .ok (.aload_n 0, 1) := by decide +kernel
theorem dX7_charges_54 : decode cX7_charges 54 = .ok (.iload_n 3, 1) := by decide +kernel
theorem dX7_charges_55 : decode cX7_charges 55 = .ok (.iconst 0, 1) := by decide +kernel
theorem dX7_charges_56 : decode cX7_charges 56 = .ok (.iload 4, 2) := by decide +kernel
theorem dX7_charges_58 : decode cX7_charges 58 = .ok (.invokevirtual 69, 3) := by decide +kernel
theorem dX7_charges_61 : decode cX7_charges 61 = .ok (.aload_n 0, 1) := by decide +kernel
theorem dX7_charges_62 : decode cX7_charges 62 = .ok (.iload_n 3, 1) := by decide +kernel
theorem dX7_charges_63 : decode cX7_charges 63 = .ok (.iconst 3, 1) := by decide +kernel
theorem dX7_charges_64 : decode cX7_charges 64 = .ok (.iload 4, 2) := by decide +kernel
theorem dX7_charges_66 : decode cX7_charges 66 = .ok (.invokevirtual 51, 3) := by decide +kernel
theorem dX7_charges_69 : decode cX7_charges 69 = .ok (.aload_n 0, 1) := by decide +kernel
theorem dX7_charges_70 : decode cX7_charges 70 = .ok (.iconst 0, 1) := by decide +kernel
theorem dX7_charges_71 : decode cX7_charges 71 = .ok (.iconst 3, 1) := by decide +kernel
theorem dX7_charges_72 : decode cX7_charges 72 = .ok (.iload 4, 2) := by decide +kernel
theorem dX7_charges_74 : decode cX7_charges 74 = .ok (.invokevirtual 51, 3) := by decide +kernel
theorem dX7_charges_77 : decode cX7_charges 77 = .ok (.iload_n 2, 1) := by decide +kernel
theorem dX7_charges_78 : decode cX7_charges 78 = .ok (.ifCond .le 42, 3) := by decide +kernel
theorem dX7_charges_81 : decode cX7_charges 81 = .ok (.iload_n 2, 1) := by decide +kernel
theorem dX7_charges_82 : decode cX7_charges 82 = .ok (.iload_n 3, 1) := by decide +kernel
theorem dX7_charges_83 : decode cX7_charges 83 = .ok (.if_icmp .eq 37, 3) := by decide +kernel
theorem dX7_charges_86 : decode cX7_charges 86 = .ok (.aload_n 0, 1) := by decide +kernel
theorem dX7_charges_87 : decode cX7_charges 87 = .ok (.getfield 7, 3) := by decide +kernel
theorem dX7_charges_90 : decode cX7_charges 90 = .ok (.bipush 9, 2) := by decide +kernel
theorem dX7_charges_92 : decode cX7_charges 92 = .ok (.iaload, 1) := by decide +kernel
theorem dX7_charges_93 : decode cX7_charges 93 = .ok (.istore 4, 2) := by decide +kernel
theorem dX7_charges_95 : decode cX7_charges 95 = .ok (.aload_n 0, 1) := by decide +kernel
theorem dX7_charges_96 : decode cX7_charges 96 = .ok (.iload_n 2, 1) := by decide +kernel
theorem dX7_charges_97 : decode cX7_charges 97 = .ok (.iload_n 3, 1) := by decide +kernel
theorem dX7_charges_98 : decode cX7_charges 98 = .ok (.iload 4, 2) := by decide +kernel
theorem dX7_charges_100 : decode cX7_charges 100 = .ok (.invokevirtual 69, 3) := by decide +kernel
theorem dX7_charges_103 : decode cX7_charges 103 = .ok (.aload_n 0, 1) := by decide +kernel
theorem dX7_charges_104 : decode cX7_charges 104 = .ok (.iload_n 2, 1) := by decide +kernel
theorem dX7_charges_105 : decode cX7_charges 105 = .ok (.iconst 4, 1) := by decide +kernel
theorem dX7_charges_106 : decode cX7_charges 106 = .ok (.iload 4, 2) := by decide +kernel
theorem dX7_charges_108 : decode cX7_charges 108 = .ok (.ineg, 1) := by decide +kernel
theorem dX7_charges_109 : decode cX7_charges 109 = .ok (.invokevirtual 51, 3) := by decide +kernel
theorem dX7_charges_112 : decode cX7_charges 112 = .ok (.aload_n 0, 1) := by decide +kernel
theorem dX7_charges_113 : decode cX7_charges 113 = .ok (.iload_n 3, 1) := by decide +kernel
theorem dX7_charges_114 : decode cX7_charges 114 = .ok (.iconst 4, 1) := by decide +kernel
theorem dX7_charges_115 : decode cX7_charges 115 = .ok (.iload 4, 2) := by decide +kernel
theorem dX7_charges_117 : decode cX7_charges 117 = .ok (.invokevirtual 51, 3) := by decide +kernel
theorem dX7_charges_120 : decode cX7_charges 120 = .ok (.return_, 1) := by decide +kernel
theorem dX7_day_0 : decode cX7_day 0 = .ok (.aload_n 0, 1) := by decide +kernel
theorem dX7_day_1 : decode cX7_day 1 = .ok (.getfield 7, 3) := by decide +kernel
theorem dX7_day_4 : decode cX7_day 4 = .ok (.iconst 2, 1) := by decide +kernel
theorem dX7_day_5 : decode cX7_day 5 = .ok (.dup2, 1) := by decide +kernel
theorem dX7_day_6 : decode cX7_day 6 = .ok (.iaload, 1) := by decide +kernel
theorem dX7_day_7 : decode cX7_day 7 = .ok (.iconst 1, 1) := by decide +kernel
theorem dX7_day_8 : decode cX7_day 8 = .ok (.iadd, 1) := by decide +kernel
theorem dX7_day_9 : decode cX7_day 9 = .ok (.iastore, 1) := by decide +kernel
theorem dX7_day_10 : decode cX7_day 10 = .ok (.iconst 1, 1) := by decide +kernel
theorem dX7_day_11 : decode cX7_day 11 = .ok (.istore_n 1, 1) := by decide +kernel
theorem dX7_day_12 : decode cX7_day 12 = .ok (.iload_n 1, 1) := by decide +kernel
theorem dX7_day_13 : decode cX7_day 13 = .ok (.aload_n 0, 1) := by decide +kernel
theorem dX7_day_14 : decode cX7_day 14 = .ok (.getfield 7, 3) := by decide +kernel
theorem dX7_day_17 : decode cX7_day 17 = .ok (.iconst 0, 1) := by decide +kernel
theorem dX7_day_18 : decode cX7_day 18 = .ok (.iaload, 1) := by decide +kernel
theorem dX7_day_19 : decode cX7_day 19 = .ok (.if_icmp .gt 51, 3) := by decide +kernel
theorem dX7_day_22 : decode cX7_day 22 = .ok (.aload_n 0, 1) := by decide +kernel
theorem dX7_day_23 : decode cX7_day 23 = .ok (.iload_n 1, 1) := by decide +kernel
theorem dX7_day_24 : decode cX7_day 24 = .ok (.iconst 0, 1) := by decide +kernel
theorem dX7_day_25 : decode cX7_day 25 = .ok (.invokevirtual 48, 3) := by decide +kernel
theorem dX7_day_28 : decode cX7_day 28 = .ok (.aload_n 0, 1) := by decide +kernel
theorem dX7_day_29 : decode cX7_day 29 = .ok (.iload_n 1, 1) := by decide +kernel
theorem dX7_day_30 : decode cX7_day 30 = .ok (.iconst 1, 1) := by decide +kernel
theorem dX7_day_31 : decode cX7_day 31 = .ok (.invokevirtual 48, 3) := by decide +kernel
theorem dX7_day_34 : decode cX7_day 34 = .ok (.iadd, 1) := by decide +kernel
theorem dX7_day_35 : decode cX7_day 35 = .ok (.istore_n 2, 1) := by decide +kernel
theorem dX7_day_36 : decode cX7_day 36 = .ok (.aload_n 0, 1) := by decide +kernel
theorem dX7_day_37 : decode cX7_day 37 = .ok (.getfield 7, 3) := by decide +kernel
theorem dX7_day_40 : decode cX7_day 40 = .ok (.bipush 39, 2) := by decide +kernel
theorem dX7_day_42 : decode cX7_day 42 = .ok (.bipush 6, 2) := by decide +kernel
theorem dX7_day_44 : decode cX7_day 44 = .ok (.iload_n 1, 1) := by decide +kernel
theorem dX7_day_45 : decode cX7_day 45 = .ok (.imul, 1) := by decide +kernel
theorem dX7_day_46 : decode cX7_day 46 = .ok (.iadd, 1) := by decide +kernel
theorem dX7_day_47 : decode cX7_day 47 = .ok (.iconst 0, 1) := by decide +kernel
theorem dX7_day_48 : decode cX7_day 48 = .ok (.iadd, 1) := by decide +kernel
theorem dX7_day_49 : decode cX7_day 49 = .ok (.iload_n 2, 1) := by decide +kernel
theorem dX7_day_50 : decode cX7_day 50 = .ok (.sipush 999, 3) := by decide +kernel
theorem dX7_day_53 : decode cX7_day 53 = .ok (.if_icmp .le 9, 3) := by decide +kernel
theorem dX7_day_56 : decode cX7_day 56 = .ok (.sipush 999, 3) := by decide +kernel
theorem dX7_day_59 : decode cX7_day 59 = .ok (.goto 4, 3) := by decide +kernel
theorem dX7_day_62 : decode cX7_day 62 = .ok (.iload_n 2, 1) := by decide +kernel
theorem dX7_day_63 : decode cX7_day 63 = .ok (.iastore, 1) := by decide +kernel
theorem dX7_day_64 : decode cX7_day 64 = .ok (.iinc 1 1, 3) := by decide +kernel
theorem dX7_day_67 : decode cX7_day 67 = .ok (.goto (-55), 3) := by decide +kernel
theorem dX7_day_70 : decode cX7_day 70 = .ok (.aload_n 0, 1) := by decide +kernel
theorem dX7_day_71 : decode cX7_day 71 = .ok (.invokevirtual 72, 3) := by decide +kernel
theorem dX7_day_74 : decode cX7_day 74 = .ok (.istore_n 1, 1) := by decide +kernel
theorem dX7_day_75 : decode cX7_day 75 = .ok (.aload_n 0, 1) := by decide +kernel
theorem dX7_day_76 : decode cX7_day 76 = .ok (.invokevirtual 75, 3) := by decide +kernel
theorem dX7_day_79 : decode cX7_day 79 = .ok (.iconst 0, 1) := by decide +kernel
theorem dX7_day_80 : decode cX7_day 80 = .ok (.istore_n 2, 1) := by decide +kernel
theorem dX7_day_81 : decode cX7_day 81 = .ok (.iload_n 2, 1) := by decide +kernel
theorem dX7_day_82 : decode cX7_day 82 = .ok (.aload_n 0, 1) := by decide +kernel
theorem dX7_day_83 : decode cX7_day 83 = .ok (.getfield 7, 3) := by decide +kernel
theorem dX7_day_86 : decode cX7_day 86 = .ok (.iconst 1, 1) := by decide +kernel
theorem dX7_day_87 : decode cX7_day 87 = .ok (.iaload, 1) := by decide +kernel
theorem dX7_day_88 : decode cX7_day 88 = .ok (.if_icmp .ge 37, 3) := by decide +kernel
theorem dX7_day_91 : decode cX7_day 91 = .ok (.aload_n 0, 1) := by decide +kernel
theorem dX7_day_92 : decode cX7_day 92 = .ok (.iload_n 2, 1) := by decide +kernel
theorem dX7_day_93 : decode cX7_day 93 = .ok (.iconst 3, 1) := by decide +kernel
theorem dX7_day_94 : decode cX7_day 94 = .ok (.invokevirtual 40, 3) := by decide +kernel
theorem dX7_day_97 : decode cX7_day 97 = .ok (.ifCond .ne 22, 3) := by decide +kernel
theorem dX7_day_100 : decode cX7_day 100 = .ok (.aload_n 0, 1) := by decide +kernel
theorem dX7_day_101 : decode cX7_day 101 = .ok (.iload_n 2, 1) := by decide +kernel
theorem dX7_day_102 : decode cX7_day 102 = .ok (.iconst 5, 1) := by decide +kernel
theorem dX7_day_103 : decode cX7_day 103 = .ok (.aload_n 0, 1) := by decide +kernel
theorem dX7_day_104 : decode cX7_day 104 = .ok (.iload_n 2, 1) := by decide +kernel
theorem dX7_day_105 : decode cX7_day 105 = .ok (.iconst 5, 1) := by decide +kernel
theorem dX7_day_106 : decode cX7_day 106 = .ok (.invokevirtual 40, 3) := by decide +kernel
theorem dX7_day_109 : decode cX7_day 109 = .ok (.iconst 1, 1) := by decide +kernel
theorem dX7_day_110 : decode cX7_day 110 = .ok (.iadd, 1) := by decide +kernel
theorem dX7_day_111 : decode cX7_day 111 = .ok (.invokevirtual 63, 3) := by decide +kernel
theorem dX7_day_114 : decode cX7_day 114 = .ok (.aload_n 0, 1) := by decide +kernel
theorem dX7_day_115 : decode cX7_day 115 = .ok (.iload_n 2, 1) := by decide +kernel
theorem dX7_day_116 : decode cX7_day 116 = .ok (.invokevirtual 78, 3) := by decide +kernel
theorem dX7_day_119 : decode cX7_day 119 = .ok (.iinc 2 1, 3) := by decide +kernel
theorem dX7_day_122 : decode cX7_day 122 = .ok (.goto (-41), 3) := by decide +kernel
theorem dX7_day_125 : decode cX7_day 125 = .ok (.iload_n 1, 1) := by decide +kernel
theorem dX7_day_126 : decode cX7_day 126 = .ok (.ireturn, 1) := by decide +kernel
theorem dX7_joins_0 : decode cX7_joins 0 = .ok (.aload_n 0, 1) := by decide +kernel
theorem dX7_joins_1 : decode cX7_joins 1 = .ok (.iload_n 1, 1) := by decide +kernel
theorem dX7_joins_2 : decode cX7_joins 2 = .ok (.invokevirtual 82, 3) := by decide +kernel
theorem dX7_joins_5 : decode cX7_joins 5 = .ok (.ifCond .ne 6, 3) := by decide +kernel
theorem dX7_joins_8 : decode cX7_joins 8 = .ok (.ldc 28, 2) := by decide +kernel
theorem dX7_joins_10 : decode cX7_joins 10 = .ok (.ireturn, 1) := by decide +kernel
theorem dX7_joins_11 : decode cX7_joins 11 = .ok (.aload_n 0, 1) := by decide +kernel
theorem dX7_joins_12 : decode cX7_joins 12 = .ok (.getfield 7, 3) := by decide +kernel
theorem dX7_joins_15 : decode cX7_joins 15 = .ok (.iconst 1, 1) := by decide +kernel
theorem dX7_joins_16 : decode cX7_joins 16 = .ok (.iaload, 1) := by decide +kernel
theorem dX7_joins_17 : decode cX7_joins 17 = .ok (.bipush 20, 2) := by decide +kernel
theorem dX7_joins_19 : decode cX7_joins 19 = .ok (.if_icmp .ne 6, 3) := by decide +kernel
theorem dX7_joins_22 : decode cX7_joins 22 = .ok (.ldc 85, 2) := by decide +kernel
theorem dX7_joins_24 : decode cX7_joins 24 = .ok (.ireturn, 1) := by decide +kernel
theorem dX7_joins_25 : decode cX7_joins 25 = .ok (.aload_n 0, 1) := by decide +kernel
theorem dX7_joins_26 : decode cX7_joins 26 = .ok (.getfield 7, 3) := by decide +kernel
theorem dX7_joins_29 : decode cX7_joins 29 = .ok (.iconst 1, 1) := by decide +kernel
theorem dX7_joins_30 : decode cX7_joins 30 = .ok (.iaload, 1) := by decide +kernel
theorem dX7_joins_31 : decode cX7_joins 31 = .ok (.istore_n 2, 1) := by decide +kernel
theorem dX7_joins_32 : decode cX7_joins 32 = .ok (.aload_n 0, 1) := by decide +kernel
theorem dX7_joins_33 : decode cX7_joins 33 = .ok (.getfield 7, 3) := by decide +kernel
theorem dX7_joins_36 : decode cX7_joins 36 = .ok (.iconst 1, 1) := by decide +kernel
theorem dX7_joins_37 : decode cX7_joins 37 = .ok (.dup2, 1) := by decide +kernel
theorem dX7_joins_38 : decode cX7_joins 38 = .ok (.iaload, 1) := by decide +kernel
theorem dX7_joins_39 : decode cX7_joins 39 = .ok (.iconst 1, 1) := by decide +kernel
theorem dX7_joins_40 : decode cX7_joins 40 = .ok (.iadd, 1) := by decide +kernel
theorem dX7_joins_41 : decode cX7_joins 41 = .ok (.iastore, 1) := by decide +kernel
theorem dX7_joins_42 : decode cX7_joins 42 = .ok (.iconst 0, 1) := by decide +kernel
theorem dX7_joins_43 : decode cX7_joins 43 = .ok (.istore_n 3, 1) := by decide +kernel
theorem dX7_joins_44 : decode cX7_joins 44 = .ok (.iload_n 3, 1) := by decide +kernel
theorem dX7_joins_45 : decode cX7_joins 45 = .ok (.bipush 10, 2) := by decide +kernel
theorem dX7_joins_47 : decode cX7_joins 47 = .ok (.if_icmp .ge 16, 3) := by decide +kernel
theorem dX7_joins_50 : decode cX7_joins 50 = .ok (.aload_n 0, 1) := by decide +kernel
theorem dX7_joins_51 : decode cX7_joins 51 = .ok (.iload_n 2, 1) := by decide +kernel
theorem dX7_joins_52 : decode cX7_joins 52 = .ok (.iload_n 3, 1) := by decide +kernel
theorem dX7_joins_53 : decode cX7_joins 53 = .ok (.iconst 0, 1) := by decide +kernel
theorem dX7_joins_54 : decode cX7_joins 54 = .ok (.invokevirtual 63, 3) := by decide +kernel
theorem dX7_joins_57 : decode cX7_joins 57 = .ok (.iinc 3 1, 3) := by decide +kernel
theorem dX7_joins_60 : decode cX7_joins 60 = .ok (.goto (-16), 3) := by decide +kernel
theorem dX7_joins_63 : decode cX7_joins 63 = .ok (.aload_n 0, 1) := by decide +kernel
theorem dX7_joins_64 : decode cX7_joins 64 = .ok (.iload_n 2, 1) := by decide +kernel
theorem dX7_joins_65 : decode cX7_joins 65 = .ok (.iconst 0, 1) := by decide +kernel
theorem dX7_joins_66 : decode cX7_joins 66 = .ok (.iload_n 1, 1) := by decide +kernel
theorem dX7_joins_67 : decode cX7_joins 67 = .ok (.invokevirtual 63, 3) := by decide +kernel
theorem dX7_joins_70 : decode cX7_joins 70 = .ok (.aload_n 0, 1) := by decide +kernel
theorem dX7_joins_71 : decode cX7_joins 71 = .ok (.iload_n 2, 1) := by decide +kernel
theorem dX7_joins_72 : decode cX7_joins 72 = .ok (.iconst 1, 1) := by decide +kernel
theorem dX7_joins_73 : decode cX7_joins 73 = .ok (.iload_n 1, 1) := by decide +kernel
theorem dX7_joins_74 : decode cX7_joins 74 = .ok (.invokevirtual 63, 3) := by decide +kernel
theorem dX7_joins_77 : decode cX7_joins 77 = .ok (.aload_n 0, 1) := by decide +kernel
theorem dX7_joins_78 : decode cX7_joins 78 = .ok (.iload_n 2, 1) := by decide +kernel
theorem dX7_joins_79 : decode cX7_joins 79 = .ok (.bipush 6, 2) := by decide +kernel
theorem dX7_joins_81 : decode cX7_joins 81 = .ok (.iconst (-1), 1) := by decide +kernel
theorem dX7_joins_82 : decode cX7_joins 82 = .ok (.invokevirtual 63, 3) := by decide +kernel
theorem dX7_joins_85 : decode cX7_joins 85 = .ok (.iload_n 2, 1) := by decide +kernel
theorem dX7_joins_86 : decode cX7_joins 86 = .ok (.ireturn, 1) := by decide +kernel
theorem dX7_loads_0 : decode cX7_loads 0 = .ok (.aload_n 0, 1) := by decide +kernel
theorem dX7_loads_1 : decode cX7_loads 1 = .ok (.iload_n 1, 1) := by decide +kernel
theorem dX7_loads_2 : decode cX7_loads 2 = .ok (.invokevirtual 86, 3) := by decide +kernel
theorem dX7_loads_5 : decode cX7_loads 5 = .ok (.ifCond .ne 6, 3) := by decide +kernel
theorem dX7_loads_8 : decode cX7_loads 8 = .ok (.ldc 28, 2) := by decide +kernel
theorem dX7_loads_10 : decode cX7_loads 10 = .ok (.ireturn, 1) := by decide +kernel
theorem dX7_loads_11 : decode cX7_loads 11 = .ok (.aload_n 0, 1) := by decide +kernel
theorem dX7_loads_12 : decode cX7_loads 12 = .ok (.iload_n 1, 1) := by decide +kernel
theorem dX7_loads_13 : decode cX7_loads 13 = .ok (.invokevirtual 89, 3) := by decide +kernel
theorem dX7_loads_16 : decode cX7_loads 16 = .ok (.ifCond .le 6, 3) := by decide +kernel
theorem dX7_loads_19 : decode cX7_loads 19 = .ok (.ldc 93, 2) := by decide +kernel
theorem dX7_loads_21 : decode cX7_loads 21 = .ok (.ireturn, 1) := by decide +kernel
theorem dX7_loads_22 : decode cX7_loads 22 = .ok (.aload_n 0, 1) := by decide +kernel
theorem dX7_loads_23 : decode cX7_loads 23 = .ok (.iload_n 1, 1) := by decide +kernel
theorem dX7_loads_24 : decode cX7_loads 24 = .ok (.iconst 1, 1) := by decide +kernel
theorem dX7_loads_25 : decode cX7_loads 25 = .ok (.invokevirtual 40, 3) := by decide +kernel
theorem dX7_loads_28 : decode cX7_loads 28 = .ok (.istore_n 2, 1) := by decide +kernel
theorem dX7_loads_29 : decode cX7_loads 29 = .ok (.aload_n 0, 1) := by decide +kernel
theorem dX7_loads_30 : decode cX7_loads 30 = .ok (.iload_n 2, 1) := by decide +kernel
theorem dX7_loads_31 : decode cX7_loads 31 = .ok (.iconst 0, 1) := by decide +kernel
theorem dX7_loads_32 : decode cX7_loads 32 = .ok (.bipush (-30), 2) := by decide +kernel
theorem dX7_loads_34 : decode cX7_loads 34 = .ok (.invokevirtual 51, 3) := by decide +kernel
theorem dX7_loads_37 : decode cX7_loads 37 = .ok (.aload_n 0, 1) := by decide +kernel
theorem dX7_loads_38 : decode cX7_loads 38 = .ok (.iload_n 2, 1) := by decide +kernel
theorem dX7_loads_39 : decode cX7_loads 39 = .ok (.iconst 5, 1) := by decide +kernel
theorem dX7_loads_40 : decode cX7_loads 40 = .ok (.bipush 30, 2) := by decide +kernel
theorem dX7_loads_42 : decode cX7_loads 42 = .ok (.invokevirtual 51, 3) := by decide +kernel
theorem dX7_loads_45 : decode cX7_loads 45 = .ok (.aload_n 0, 1) := by decide +kernel
theorem dX7_loads_46 : decode cX7_loads 46 = .ok (.iload_n 1, 1) := by decide +kernel
theorem dX7_loads_47 : decode cX7_loads 47 = .ok (.iconst 2, 1) := by decide +kernel
theorem dX7_loads_48 : decode cX7_loads 48 = .ok (.iconst 1, 1) := by decide +kernel
theorem dX7_loads_49 : decode cX7_loads 49 = .ok (.invokevirtual 63, 3) := by decide +kernel
theorem dX7_loads_52 : decode cX7_loads 52 = .ok (.aload_n 0, 1) := by decide +kernel
theorem dX7_loads_53 : decode cX7_loads 53 = .ok (.iload_n 1, 1) := by decide +kernel
theorem dX7_loads_54 : decode cX7_loads 54 = .ok (.iconst 5, 1) := by decide +kernel
theorem dX7_loads_55 : decode cX7_loads 55 = .ok (.iconst 0, 1) := by decide +kernel
theorem dX7_loads_56 : decode cX7_loads 56 = .ok (.invokevirtual 63, 3) := by decide +kernel
theorem dX7_loads_59 : decode cX7_loads 59 = .ok (.aload_n 0, 1) := by decide +kernel
theorem dX7_loads_60 : decode cX7_loads 60 = .ok (.iload_n 1, 1) := by decide +kernel
theorem dX7_loads_61 : decode cX7_loads 61 = .ok (.bipush 7, 2) := by decide +kernel
theorem dX7_loads_63 : decode cX7_loads 63 = .ok (.aload_n 0, 1) := by decide +kernel
theorem dX7_loads_64 : decode cX7_loads 64 = .ok (.iload_n 1, 1) := by decide +kernel
theorem dX7_loads_65 : decode cX7_loads 65 = .ok (.bipush 7, 2) := by decide +kernel
theorem dX7_loads_67 : decode cX7_loads 67 = .ok (.invokevirtual 40, 3) := by decide +kernel
theorem dX7_loads_70 : decode cX7_loads 70 = .ok (.iconst 1, 1) := by decide +kernel
theorem dX7_loads_71 : decode cX7_loads 71 = .ok (.iadd, 1) := by decide +kernel
theorem dX7_loads_72 : decode cX7_loads 72 = .ok (.invokevirtual 63, 3) := by decide +kernel
theorem dX7_loads_75 : decode cX7_loads 75 = .ok (.aload_n 0, 1) := by decide +kernel
theorem dX7_loads_76 : decode cX7_loads 76 = .ok (.iload_n 2, 1) := by decide +kernel
theorem dX7_loads_77 : decode cX7_loads 77 = .ok (.iconst 0, 1) := by decide +kernel
theorem dX7_loads_78 : decode cX7_loads 78 = .ok (.invokevirtual 48, 3) := by decide +kernel
theorem dX7_loads_81 : decode cX7_loads 81 = .ok (.ireturn, 1) := by decide +kernel
theorem dX7_unloads_0 : decode cX7_unloads 0 = .ok (.aload_n 0, 1) := by decide +kernel
theorem dX7_unloads_1 : decode cX7_unloads 1 = .ok (.iload_n 1, 1) := by decide +kernel
theorem dX7_unloads_2 : decode cX7_unloads 2 = .ok (.invokevirtual 86, 3) := by decide +kernel
theorem dX7_unloads_5 : decode cX7_unloads 5 = .ok (.ifCond .ne 6, 3) := by decide +kernel
theorem dX7_unloads_8 : decode cX7_unloads 8 = .ok (.ldc 28, 2) := by decide +kernel
theorem dX7_unloads_10 : decode cX7_unloads 10 = .ok (.ireturn, 1) := by decide +kernel
theorem dX7_unloads_11 : decode cX7_unloads 11 = .ok (.aload_n 0, 1) := by decide +kernel
theorem dX7_unloads_12 : decode cX7_unloads 12 = .ok (.iload_n 1, 1) := by decide +kernel
theorem dX7_unloads_13 : decode cX7_unloads 13 = .ok (.iconst 2, 1) := by decide +kernel
theorem dX7_unloads_14 : decode cX7_unloads 14 = .ok (.invokevirtual 40, 3) := by decide +kernel
theorem dX7_unloads_17 : decode cX7_unloads 17 = .ok (.ifCond .eq 12, 3) := by decide +kernel
theorem dX7_unloads_20 : decode cX7_unloads 20 = .ok (.aload_n 0, 1) := by decide +kernel
theorem dX7_unloads_21 : decode cX7_unloads 21 = .ok (.iload_n 1, 1) := by decide +kernel
theorem dX7_unloads_22 : decode cX7_unloads 22 = .ok (.iconst 0, 1) := by decide +kernel
theorem dX7_unloads_23 : decode cX7_unloads 23 = .ok (.invokevirtual 94, 3) := by decide +kernel
theorem dX7_unloads_26 : decode cX7_unloads 26 = .ok (.ifCond .ne 6, 3) := by decide +kernel
theorem dX7_unloads_29 : decode cX7_unloads 29 = .ok (.ldc 93, 2) := by decide +kernel
theorem dX7_unloads_31 : decode cX7_unloads 31 = .ok (.ireturn, 1) := by decide +kernel
theorem dX7_unloads_32 : decode cX7_unloads 32 = .ok (.aload_n 0, 1) := by decide +kernel
theorem dX7_unloads_33 : decode cX7_unloads 33 = .ok (.iconst 0, 1) := by decide +kernel
theorem dX7_unloads_34 : decode cX7_unloads 34 = .ok (.aload_n 0, 1) := by decide +kernel
theorem dX7_unloads_35 : decode cX7_unloads 35 = .ok (.iload_n 1, 1) := by decide +kernel
theorem dX7_unloads_36 : decode cX7_unloads 36 = .ok (.iconst 0, 1) := by decide +kernel
theorem dX7_unloads_37 : decode cX7_unloads 37 = .ok (.invokevirtual 40, 3) := by decide +kernel
theorem dX7_unloads_40 : decode cX7_unloads 40 = .ok (.bipush 30, 2) := by decide +kernel
theorem dX7_unloads_42 : decode cX7_unloads 42 = .ok (.aload_n 0, 1) := by decide +kernel
theorem dX7_unloads_43 : decode cX7_unloads 43 = .ok (.getfield 7, 3) := by decide +kernel
theorem dX7_unloads_46 : decode cX7_unloads 46 = .ok (.bipush 11, 2) := by decide +kernel
theorem dX7_unloads_48 : decode cX7_unloads 48 = .ok (.iaload, 1) := by decide +kernel
theorem dX7_unloads_49 : decode cX7_unloads 49 = .ok (.imul, 1) := by decide +kernel
theorem dX7_unloads_50 : decode cX7_unloads 50 = .ok (.invokevirtual 69, 3) := by decide +kernel
theorem dX7_unloads_53 : decode cX7_unloads 53 = .ok (.aload_n 0, 1) := by decide +kernel
theorem dX7_unloads_54 : decode cX7_unloads 54 = .ok (.iconst 0, 1) := by decide +kernel
theorem dX7_unloads_55 : decode cX7_unloads 55 = .ok (.iconst 5, 1) := by decide +kernel
theorem dX7_unloads_56 : decode cX7_unloads 56 = .ok (.bipush 30, 2) := by decide +kernel
theorem dX7_unloads_58 : decode cX7_unloads 58 = .ok (.invokevirtual 51, 3) := by decide +kernel
theorem dX7_unloads_61 : decode cX7_unloads 61 = .ok (.aload_n 0, 1) := by decide +kernel
theorem dX7_unloads_62 : decode cX7_unloads 62 = .ok (.iload_n 1, 1) := by decide +kernel
theorem dX7_unloads_63 : decode cX7_unloads 63 = .ok (.iconst 2, 1) := by decide +kernel
theorem dX7_unloads_64 : decode cX7_unloads 64 = .ok (.iconst 0, 1) := by decide +kernel
theorem dX7_unloads_65 : decode cX7_unloads 65 = .ok (.invokevirtual 63, 3) := by decide +kernel
theorem dX7_unloads_68 : decode cX7_unloads 68 = .ok (.aload_n 0, 1) := by decide +kernel
theorem dX7_unloads_69 : decode cX7_unloads 69 = .ok (.iload_n 1, 1) := by decide +kernel
theorem dX7_unloads_70 : decode cX7_unloads 70 = .ok (.iconst 5, 1) := by decide +kernel
theorem dX7_unloads_71 : decode cX7_unloads 71 = .ok (.iconst 0, 1) := by decide +kernel
theorem dX7_unloads_72 : decode cX7_unloads 72 = .ok (.invokevirtual 63, 3) := by decide +kernel
theorem dX7_unloads_75 : decode cX7_unloads 75 = .ok (.aload_n 0, 1) := by decide +kernel
theorem dX7_unloads_76 : decode cX7_unloads 76 = .ok (.aload_n 0, 1) := by decide +kernel
theorem dX7_unloads_77 : decode cX7_unloads 77 = .ok (.iload_n 1, 1) := by decide +kernel
theorem dX7_unloads_78 : decode cX7_unloads 78 = .ok (.iconst 0, 1) := by decide +kernel
theorem dX7_unloads_79 : decode cX7_unloads 79 = .ok (.invokevirtual 40, 3) := by decide +kernel
theorem dX7_unloads_82 : decode cX7_unloads 82 = .ok (.iconst 2, 1) := by decide +kernel
theorem dX7_unloads_83 : decode cX7_unloads 83 = .ok (.invokevirtual 48, 3) := by decide +kernel
theorem dX7_unloads_86 : decode cX7_unloads 86 = .ok (.ireturn, 1) := by decide +kernel
theorem dX7_sends_0 : decode cX7_sends 0 = .ok (.aload_n 0, 1) := by decide +kernel
theorem dX7_sends_1 : decode cX7_sends 1 = .ok (.iload_n 1, 1) := by decide +kernel
theorem dX7_sends_2 : decode cX7_sends 2 = .ok (.invokevirtual 86, 3) := by decide +kernel
theorem dX7_sends_5 : decode cX7_sends 5 = .ok (.ifCond .ne 6, 3) := by decide +kernel
theorem dX7_sends_8 : decode cX7_sends 8 = .ok (.ldc 28, 2) := by decide +kernel
theorem dX7_sends_10 : decode cX7_sends 10 = .ok (.ireturn, 1) := by decide +kernel
theorem dX7_sends_11 : decode cX7_sends 11 = .ok (.aload_n 0, 1) := by decide +kernel
theorem dX7_sends_12 : decode cX7_sends 12 = .ok (.iload_n 1, 1) := by decide +kernel
theorem dX7_sends_13 : decode cX7_sends 13 = .ok (.iconst 2, 1) := by decide +kernel
theorem dX7_sends_14 : decode cX7_sends 14 = .ok (.invokevirtual 40, 3) := by decide +kernel
theorem dX7_sends_17 : decode cX7_sends 17 = .ok (.iconst 1, 1) := by decide +kernel
theorem dX7_sends_18 : decode cX7_sends 18 = .ok (.if_icmp .eq 12, 3) := by decide +kernel
theorem dX7_sends_21 : decode cX7_sends 21 = .ok (.aload_n 0, 1) := by decide +kernel
theorem dX7_sends_22 : decode cX7_sends 22 = .ok (.iload_n 1, 1) := by decide +kernel
theorem dX7_sends_23 : decode cX7_sends 23 = .ok (.iconst 0, 1) := by decide +kernel
theorem dX7_sends_24 : decode cX7_sends 24 = .ok (.invokevirtual 94, 3) := by decide +kernel
theorem dX7_sends_27 : decode cX7_sends 27 = .ok (.ifCond .ne 6, 3) := by decide +kernel
theorem dX7_sends_30 : decode cX7_sends 30 = .ok (.ldc 93, 2) := by decide +kernel
theorem dX7_sends_32 : decode cX7_sends 32 = .ok (.ireturn, 1) := by decide +kernel
theorem dX7_sends_33 : decode cX7_sends 33 = .ok (.aload_n 0, 1) := by decide +kernel
theorem dX7_sends_34 : decode cX7_sends 34 = .ok (.iconst 1, 1) := by decide +kernel
theorem dX7_sends_35 : decode cX7_sends 35 = .ok (.invokevirtual 59, 3) := by decide +kernel
theorem dX7_sends_38 : decode cX7_sends 38 = .ok (.istore_n 2, 1) := by decide +kernel
theorem dX7_sends_39 : decode cX7_sends 39 = .ok (.aload_n 0, 1) := by decide +kernel
theorem dX7_sends_40 : decode cX7_sends 40 = .ok (.aload_n 0, 1) := by decide +kernel
theorem dX7_sends_41 : decode cX7_sends 41 = .ok (.iload_n 1, 1) := by decide +kernel
theorem dX7_sends_42 : decode cX7_sends 42 = .ok (.iconst 0, 1) := by decide +kernel
theorem dX7_sends_43 : decode cX7_sends 43 = .ok (.invokevirtual 40, 3) := by decide +kernel
theorem dX7_sends_46 : decode cX7_sends 46 = .ok (.iconst 0, 1) := by decide +kernel
theorem dX7_sends_47 : decode cX7_sends 47 = .ok (.aload_n 0, 1) := by decide +kernel
theorem dX7_sends_48 : decode cX7_sends 48 = .ok (.getfield 7, 3) := by decide +kernel
theorem dX7_sends_51 : decode cX7_sends 51 = .ok (.bipush 12, 2) := by decide +kernel
theorem dX7_sends_53 : decode cX7_sends 53 = .ok (.iaload, 1) := by decide +kernel
theorem dX7_sends_54 : decode cX7_sends 54 = .ok (.invokevirtual 69, 3) := by decide +kernel
theorem dX7_sends_57 : decode cX7_sends 57 = .ok (.aload_n 0, 1) := by decide +kernel
theorem dX7_sends_58 : decode cX7_sends 58 = .ok (.iload_n 1, 1) := by decide +kernel
theorem dX7_sends_59 : decode cX7_sends 59 = .ok (.iconst 3, 1) := by decide +kernel
theorem dX7_sends_60 : decode cX7_sends 60 = .ok (.iconst 2, 1) := by decide +kernel
theorem dX7_sends_61 : decode cX7_sends 61 = .ok (.invokevirtual 63, 3) := by decide +kernel
theorem dX7_sends_64 : decode cX7_sends 64 = .ok (.aload_n 0, 1) := by decide +kernel
theorem dX7_sends_65 : decode cX7_sends 65 = .ok (.iload_n 1, 1) := by decide +kernel
theorem dX7_sends_66 : decode cX7_sends 66 = .ok (.bipush 6, 2) := by decide +kernel
theorem dX7_sends_68 : decode cX7_sends 68 = .ok (.iconst (-1), 1) := by decide +kernel
theorem dX7_sends_69 : decode cX7_sends 69 = .ok (.invokevirtual 63, 3) := by decide +kernel
theorem dX7_sends_72 : decode cX7_sends 72 = .ok (.aload_n 0, 1) := by decide +kernel
theorem dX7_sends_73 : decode cX7_sends 73 = .ok (.iload_n 1, 1) := by decide +kernel
theorem dX7_sends_74 : decode cX7_sends 74 = .ok (.bipush 9, 2) := by decide +kernel
theorem dX7_sends_76 : decode cX7_sends 76 = .ok (.aload_n 0, 1) := by decide +kernel
theorem dX7_sends_77 : decode cX7_sends 77 = .ok (.getfield 7, 3) := by decide +kernel
theorem dX7_sends_80 : decode cX7_sends 80 = .ok (.bipush 6, 2) := by decide +kernel
theorem dX7_sends_82 : decode cX7_sends 82 = .ok (.iaload, 1) := by decide +kernel
theorem dX7_sends_83 : decode cX7_sends 83 = .ok (.invokevirtual 63, 3) := by decide +kernel
theorem dX7_sends_86 : decode cX7_sends 86 = .ok (.aload_n 0, 1) := by decide +kernel
theorem dX7_sends_87 : decode cX7_sends 87 = .ok (.getfield 7, 3) := by decide +kernel
theorem dX7_sends_90 : decode cX7_sends 90 = .ok (.bipush 6, 2) := by decide +kernel
theorem dX7_sends_92 : decode cX7_sends 92 = .ok (.dup2, 1) := by decide +kernel
theorem dX7_sends_93 : decode cX7_sends 93 = .ok (.iaload, 1) := by decide +kernel
theorem dX7_sends_94 : decode cX7_sends 94 = .ok (.iconst 1, 1) := by decide +kernel
theorem dX7_sends_95 : decode cX7_sends 95 = .ok (.iadd, 1) := by decide +kernel
theorem dX7_sends_96 : decode cX7_sends 96 = .ok (.iastore, 1) := by decide +kernel
theorem dX7_sends_97 : decode cX7_sends 97 = .ok (.aload_n 0, 1) := by decide +kernel
theorem dX7_sends_98 : decode cX7_sends 98 = .ok (.invokevirtual 66, 3) := by decide +kernel
theorem dX7_sends_101 : decode cX7_sends 101 = .ok (.iload_n 2, 1) := by decide +kernel
theorem dX7_sends_102 : decode cX7_sends 102 = .ok (.ireturn, 1) := by decide +kernel
theorem dX7_trains_0 : decode cX7_trains 0 = .ok (.aload_n 0, 1) := by decide +kernel
theorem dX7_trains_1 : decode cX7_trains 1 = .ok (.iload_n 1, 1) := by decide +kernel
theorem dX7_trains_2 : decode cX7_trains 2 = .ok (.invokevirtual 98, 3) := by decide +kernel
theorem dX7_trains_5 : decode cX7_trains 5 = .ok (.ifCond .eq 36, 3) := by decide +kernel
theorem dX7_trains_8 : decode cX7_trains 8 = .ok (.aload_n 0, 1) := by decide +kernel
theorem dX7_trains_9 : decode cX7_trains 9 = .ok (.iload_n 2, 1) := by decide +kernel
theorem dX7_trains_10 : decode cX7_trains 10 = .ok (.invokevirtual 98, 3) := by decide +kernel
theorem dX7_trains_13 : decode cX7_trains 13 = .ok (.ifCond .eq 28, 3) := by decide +kernel
theorem dX7_trains_16 : decode cX7_trains 16 = .ok (.iload_n 1, 1) := by decide +kernel
theorem dX7_trains_17 : decode cX7_trains 17 = .ok (.iload_n 2, 1) := by decide +kernel
theorem dX7_trains_18 : decode cX7_trains 18 = .ok (.if_icmp .eq 23, 3) := by decide +kernel
theorem dX7_trains_21 : decode cX7_trains 21 = .ok (.iload_n 3, 1) := by decide +kernel
theorem dX7_trains_22 : decode cX7_trains 22 = .ok (.iconst 0, 1) := by decide +kernel
theorem dX7_trains_23 : decode cX7_trains 23 = .ok (.iconst 2, 1) := by decide +kernel
theorem dX7_trains_24 : decode cX7_trains 24 = .ok (.invokestatic 36, 3) := by decide +kernel
theorem dX7_trains_27 : decode cX7_trains 27 = .ok (.ifCond .eq 14, 3) := by decide +kernel
theorem dX7_trains_30 : decode cX7_trains 30 = .ok (.iload 4, 2) := by decide +kernel
theorem dX7_trains_32 : decode cX7_trains 32 = .ok (.iconst 1, 1) := by decide +kernel
theorem dX7_trains_33 : decode cX7_trains 33 = .ok (.bipush 8, 2) := by decide +kernel
theorem dX7_trains_35 : decode cX7_trains 35 = .ok (.invokestatic 36, 3) := by decide +kernel
theorem dX7_trains_38 : decode cX7_trains 38 = .ok (.ifCond .ne 6, 3) := by decide +kernel
theorem dX7_trains_41 : decode cX7_trains 41 = .ok (.ldc 28, 2) := by decide +kernel
theorem dX7_trains_43 : decode cX7_trains 43 = .ok (.ireturn, 1) := by decide +kernel
theorem dX7_trains_44 : decode cX7_trains 44 = .ok (.iconst 0, 1) := by decide +kernel
theorem dX7_trains_45 : decode cX7_trains 45 = .ok (.istore 5, 2) := by decide +kernel
theorem dX7_trains_47 : decode cX7_trains 47 = .ok (.iconst 0, 1) := by decide +kernel
theorem dX7_trains_48 : decode cX7_trains 48 = .ok (.istore 6, 2) := by decide +kernel
theorem dX7_trains_50 : decode cX7_trains 50 = .ok (.iconst 0, 1) := by decide +kernel
theorem dX7_trains_51 : decode cX7_trains 51 = .ok (.istore 7, 2) := by decide +kernel
theorem dX7_trains_53 : decode cX7_trains 53 = .ok (.aload_n 0, 1) := by decide +kernel
theorem dX7_trains_54 : decode cX7_trains 54 = .ok (.getfield 7, 3) := by decide +kernel
theorem dX7_trains_57 : decode cX7_trains 57 = .ok (.bipush 14, 2) := by decide +kernel
theorem dX7_trains_59 : decode cX7_trains 59 = .ok (.iconst 5, 1) := by decide +kernel
theorem dX7_trains_60 : decode cX7_trains 60 = .ok (.iload_n 1, 1) := by decide +kernel
theorem dX7_trains_61 : decode cX7_trains 61 = .ok (.imul, 1) := by decide +kernel
theorem dX7_trains_62 : decode cX7_trains 62 = .ok (.iadd, 1) := by decide +kernel
theorem dX7_trains_63 : decode cX7_trains 63 = .ok (.iload_n 2, 1) := by decide +kernel
theorem dX7_trains_64 : decode cX7_trains 64 = .ok (.iadd, 1) := by decide +kernel
theorem dX7_trains_65 : decode cX7_trains 65 = .ok (.iaload, 1) := by decide +kernel
theorem dX7_trains_66 : decode cX7_trains 66 = .ok (.istore 8, 2) := by decide +kernel
theorem dX7_trains_68 : decode cX7_trains 68 = .ok (.iconst 0, 1) := by decide +kernel
theorem dX7_trains_69 : decode cX7_trains 69 = .ok (.istore 9, 2) := by decide +kernel
theorem dX7_trains_71 : decode cX7_trains 71 = .ok (.iload 9, 2) := by decide +kernel
theorem dX7_trains_73 : decode cX7_trains 73 = .ok (.aload_n 0, 1) := by decide +kernel
theorem dX7_trains_74 : decode cX7_trains 74 = .ok (.getfield 7, 3) := by decide +kernel
theorem dX7_trains_77 : decode cX7_trains 77 = .ok (.iconst 1, 1) := by decide +kernel
theorem dX7_trains_78 : decode cX7_trains 78 = .ok (.iaload, 1) := by decide +kernel
theorem dX7_trains_79 : decode cX7_trains 79 = .ok (.if_icmp .ge 109, 3) := by decide +kernel
theorem dX7_trains_82 : decode cX7_trains 82 = .ok (.iload 6, 2) := by decide +kernel
theorem dX7_trains_84 : decode cX7_trains 84 = .ok (.iload 4, 2) := by decide +kernel
theorem dX7_trains_86 : decode cX7_trains 86 = .ok (.if_icmp .ge 102, 3) := by decide +kernel
theorem dX7_trains_89 : decode cX7_trains 89 = .ok (.aload_n 0, 1) := by decide +kernel
theorem dX7_trains_90 : decode cX7_trains 90 = .ok (.iload 9, 2) := by decide +kernel
theorem dX7_trains_92 : decode cX7_trains 92 = .ok (.iload_n 1, 1) := by decide +kernel
theorem dX7_trains_93 : decode cX7_trains 93 = .ok (.invokevirtual 94, 3) := by decide +kernel
theorem dX7_trains_96 : decode cX7_trains 96 = .ok (.ifCond .eq 86, 3) := by decide +kernel
theorem dX7_trains_99 : decode cX7_trains 99 = .ok (.iload_n 3, 1) := by decide +kernel
theorem dX7_trains_100 : decode cX7_trains 100 = .ok (.iconst 2, 1) := by decide +kernel
theorem dX7_trains_101 : decode cX7_trains 101 = .ok (.if_icmp .eq 14, 3) := by decide +kernel
theorem dX7_trains_104 : decode cX7_trains 104 = .ok (.aload_n 0, 1) := by decide +kernel
theorem dX7_trains_105 : decode cX7_trains 105 = .ok (.iload 9, 2) := by decide +kernel
theorem dX7_trains_107 : decode cX7_trains 107 = .ok (.iconst 2, 1) := by decide +kernel
theorem dX7_trains_108 : decode cX7_trains 108 = .ok (.invokevirtual 40, 3) := by decide +kernel
theorem dX7_trains_111 : decode cX7_trains 111 = .ok (.iload_n 3, 1) := by decide +kernel
theorem dX7_trains_112 : decode cX7_trains 112 = .ok (.if_icmp .ne 70, 3) := by decide +kernel
theorem dX7_trains_115 : decode cX7_trains 115 = .ok (.iload 5, 2) := by decide +kernel
theorem dX7_trains_117 : decode cX7_trains 117 = .ok (.iconst 1, 1) := by decide +kernel
theorem dX7_trains_118 : decode cX7_trains 118 = .ok (.iload 9, 2) := by decide +kernel
theorem dX7_trains_120 : decode cX7_trains 120 = .ok (.ishl, 1) := by decide +kernel
theorem dX7_trains_121 : decode cX7_trains 121 = .ok (.ior, 1) := by decide +kernel
theorem dX7_trains_122 : decode cX7_trains 122 = .ok (.istore 5, 2) := by decide +kernel
theorem dX7_trains_124 : decode cX7_trains 124 = .ok (.iinc 6 1, 3) := by decide +kernel
theorem dX7_trains_127 : decode cX7_trains 127 = .ok (.iload 7, 2) := by decide +kernel
theorem dX7_trains_129 : decode cX7_trains 129 = .ok (.aload_n 0, 1) := by decide +kernel
theorem dX7_trains_130 : decode cX7_trains 130 = .ok (.iload 9, 2) := by decide +kernel
theorem dX7_trains_132 : decode cX7_trains 132 = .ok (.iconst 2, 1) := by decide +kernel
theorem dX7_trains_133 : decode cX7_trains 133 = .ok (.invokevirtual 40, 3) := by decide +kernel
theorem dX7_trains_136 : decode cX7_trains 136 = .ok (.iadd, 1) := by decide +kernel
theorem dX7_trains_137 : decode cX7_trains 137 = .ok (.istore 7, 2) := by decide +kernel
theorem dX7_trains_139 : decode cX7_trains 139 = .ok (.aload_n 0, 1) := by decide +kernel
theorem dX7_trains_140 : decode cX7_trains 140 = .ok (.iload 9, 2) := by decide +kernel
theorem dX7_trains_142 : decode cX7_trains 142 = .ok (.iconst 3, 1) := by decide +kernel
theorem dX7_trains_143 : decode cX7_trains 143 = .ok (.iconst 1, 1) := by decide +kernel
theorem dX7_trains_144 : decode cX7_trains 144 = .ok (.invokevirtual 63, 3) := by decide +kernel
theorem dX7_trains_147 : decode cX7_trains 147 = .ok (.aload_n 0, 1) := by decide +kernel
theorem dX7_trains_148 : decode cX7_trains 148 = .ok (.iload 9, 2) := by decide +kernel
theorem dX7_trains_150 : decode cX7_trains 150 = .ok (.iconst 1, 1) := by decide +kernel
theorem dX7_trains_151 : decode cX7_trains 151 = .ok (.iload_n 2, 1) := by decide +kernel
theorem dX7_trains_152 : decode cX7_trains 152 = .ok (.invokevirtual 63, 3) := by decide +kernel
theorem dX7_trains_155 : decode cX7_trains 155 = .ok (.aload_n 0, 1) := by decide +kernel
theorem dX7_trains_156 : decode cX7_trains 156 = .ok (.iload 9, 2) := by decide +kernel
theorem dX7_trains_158 : decode cX7_trains 158 = .ok (.bipush 6, 2) := by decide +kernel
theorem dX7_trains_160 : decode cX7_trains 160 = .ok (.aload_n 0, 1) := by decide +kernel
theorem dX7_trains_161 : decode cX7_trains 161 = .ok (.getfield 7, 3) := by decide +kernel
theorem dX7_trains_164 : decode cX7_trains 164 = .ok (.iconst 2, 1) := by decide +kernel
theorem dX7_trains_165 : decode cX7_trains 165 = .ok (.iaload, 1) := by decide +kernel
theorem dX7_trains_166 : decode cX7_trains 166 = .ok (.iload 8, 2) := by decide +kernel
theorem dX7_trains_168 : decode cX7_trains 168 = .ok (.iadd, 1) := by decide +kernel
theorem dX7_trains_169 : decode cX7_trains 169 = .ok (.invokevirtual 63, 3) := by decide +kernel
theorem dX7_trains_172 : decode cX7_trains 172 = .ok (.aload_n 0, 1) := by decide +kernel
theorem dX7_trains_173 : decode cX7_trains 173 = .ok (.iload 9, 2) := by decide +kernel
theorem dX7_trains_175 : decode cX7_trains 175 = .ok (.bipush 8, 2) := by decide +kernel
theorem dX7_trains_177 : decode cX7_trains 177 = .ok (.iload 8, 2) := by decide +kernel
theorem dX7_trains_179 : decode cX7_trains 179 = .ok (.invokevirtual 63, 3) := by decide +kernel
theorem dX7_trains_182 : decode cX7_trains 182 = .ok (.iinc 9 1, 3) := by decide +kernel
theorem dX7_trains_185 : decode cX7_trains 185 = .ok (.goto (-114), 3) := by decide +kernel
theorem dX7_trains_188 : decode cX7_trains 188 = .ok (.iload 6, 2) := by decide +kernel
theorem dX7_trains_190 : decode cX7_trains 190 = .ok (.ifCond .ne 6, 3) := by decide +kernel
theorem dX7_trains_193 : decode cX7_trains 193 = .ok (.ldc 93, 2) := by decide +kernel
theorem dX7_trains_195 : decode cX7_trains 195 = .ok (.ireturn, 1) := by decide +kernel
theorem dX7_trains_196 : decode cX7_trains 196 = .ok (.aload_n 0, 1) := by decide +kernel
theorem dX7_trains_197 : decode cX7_trains 197 = .ok (.getfield 7, 3) := by decide +kernel
theorem dX7_trains_200 : decode cX7_trains 200 = .ok (.iconst 4, 1) := by decide +kernel
theorem dX7_trains_201 : decode cX7_trains 201 = .ok (.dup2, 1) := by decide +kernel
theorem dX7_trains_202 : decode cX7_trains 202 = .ok (.iaload, 1) := by decide +kernel
theorem dX7_trains_203 : decode cX7_trains 203 = .ok (.iconst 1, 1) := by decide +kernel
theorem dX7_trains_204 : decode cX7_trains 204 = .ok (.iadd, 1) := by decide +kernel
theorem dX7_trains_205 : decode cX7_trains 205 = .ok (.iastore, 1) := by decide +kernel
theorem dX7_trains_206 : decode cX7_trains 206 = .ok (.aload_n 0, 1) := by decide +kernel
theorem dX7_trains_207 : decode cX7_trains 207 = .ok (.getfield 7, 3) := by decide +kernel
theorem dX7_trains_210 : decode cX7_trains 210 = .ok (.iconst 5, 1) := by decide +kernel
theorem dX7_trains_211 : decode cX7_trains 211 = .ok (.dup2, 1) := by decide +kernel
theorem dX7_trains_212 : decode cX7_trains 212 = .ok (.iaload, 1) := by decide +kernel
theorem dX7_trains_213 : decode cX7_trains 213 = .ok (.iload 7, 2) := by decide +kernel
theorem dX7_trains_215 : decode cX7_trains 215 = .ok (.ifCond .ne 7, 3) := by decide +kernel
theorem dX7_trains_218 : decode cX7_trains 218 = .ok (.iconst 1, 1) := by decide +kernel
theorem dX7_trains_219 : decode cX7_trains 219 = .ok (.goto 4, 3) := by decide +kernel
theorem dX7_trains_222 : decode cX7_trains 222 = .ok (.iconst 0, 1) := by decide +kernel
theorem dX7_trains_223 : decode cX7_trains 223 = .ok (.iadd, 1) := by decide +kernel
theorem dX7_trains_224 : decode cX7_trains 224 = .ok (.iastore, 1) := by decide +kernel
theorem dX7_trains_225 : decode cX7_trains 225 = .ok (.iload 5, 2) := by decide +kernel
theorem dX7_trains_227 : decode cX7_trains 227 = .ok (.ireturn, 1) := by decide +kernel
theorem dX7_passes_0 : decode cX7_passes 0 = .ok (.iload_n 1, 1) := by decide +kernel
theorem dX7_passes_1 : decode cX7_passes 1 = .ok (.iconst 1, 1) := by decide +kernel
theorem dX7_passes_2 : decode cX7_passes 2 = .ok (.bipush 99, 2) := by decide +kernel
theorem dX7_passes_4 : decode cX7_passes 4 = .ok (.invokestatic 36, 3) := by decide +kernel
theorem dX7_passes_7 : decode cX7_passes 7 = .ok (.ifCond .ne 6, 3) := by decide +kernel
theorem dX7_passes_10 : decode cX7_passes 10 = .ok (.ldc 28, 2) := by decide +kernel
theorem dX7_passes_12 : decode cX7_passes 12 = .ok (.ireturn, 1) := by decide +kernel
theorem dX7_passes_13 : decode cX7_passes 13 = .ok (.aload_n 0, 1) := by decide +kernel
theorem dX7_passes_14 : decode cX7_passes 14 = .ok (.getfield 7, 3) := by decide +kernel
theorem dX7_passes_17 : decode cX7_passes 17 = .ok (.iconst 2, 1) := by decide +kernel
theorem dX7_passes_18 : decode cX7_passes 18 = .ok (.iaload, 1) := by decide +kernel
theorem dX7_passes_19 : decode cX7_passes 19 = .ok (.iload_n 1, 1) := by decide +kernel
theorem dX7_passes_20 : decode cX7_passes 20 = .ok (.iadd, 1) := by decide +kernel
theorem dX7_passes_21 : decode cX7_passes 21 = .ok (.sipush 1999, 3) := by decide +kernel
theorem dX7_passes_24 : decode cX7_passes 24 = .ok (.if_icmp .le 6, 3) := by decide +kernel
theorem dX7_passes_27 : decode cX7_passes 27 = .ok (.ldc 85, 2) := by decide +kernel
theorem dX7_passes_29 : decode cX7_passes 29 = .ok (.ireturn, 1) := by decide +kernel
theorem dX7_passes_30 : decode cX7_passes 30 = .ok (.iconst 0, 1) := by decide +kernel
theorem dX7_passes_31 : decode cX7_passes 31 = .ok (.istore_n 2, 1) := by decide +kernel
theorem dX7_passes_32 : decode cX7_passes 32 = .ok (.iconst 0, 1) := by decide +kernel
theorem dX7_passes_33 : decode cX7_passes 33 = .ok (.istore_n 3, 1) := by decide +kernel
theorem dX7_passes_34 : decode cX7_passes 34 = .ok (.iload_n 3, 1) := by decide +kernel
theorem dX7_passes_35 : decode cX7_passes 35 = .ok (.iload_n 1, 1) := by decide +kernel
theorem dX7_passes_36 : decode cX7_passes 36 = .ok (.if_icmp .ge 16, 3) := by decide +kernel
theorem dX7_passes_39 : decode cX7_passes 39 = .ok (.iload_n 2, 1) := by decide +kernel
theorem dX7_passes_40 : decode cX7_passes 40 = .ok (.aload_n 0, 1) := by decide +kernel
theorem dX7_passes_41 : decode cX7_passes 41 = .ok (.invokevirtual 101, 3) := by decide +kernel
theorem dX7_passes_44 : decode cX7_passes 44 = .ok (.iadd, 1) := by decide +kernel
theorem dX7_passes_45 : decode cX7_passes 45 = .ok (.istore_n 2, 1) := by decide +kernel
theorem dX7_passes_46 : decode cX7_passes 46 = .ok (.iinc 3 1, 3) := by decide +kernel
theorem dX7_passes_49 : decode cX7_passes 49 = .ok (.goto (-15), 3) := by decide +kernel
theorem dX7_passes_52 : decode cX7_passes 52 = .ok (.iload_n 2, 1) := by decide +kernel
theorem dX7_passes_53 : decode cX7_passes 53 = .ok (.ireturn, 1) := by decide +kernel
theorem dX7_mine_0 : decode cX7_mine 0 = .ok (.aload_n 0, 1) := by decide +kernel
theorem dX7_mine_1 : decode cX7_mine 1 = .ok (.invokevirtual 104, 3) := by decide +kernel
theorem dX7_mine_4 : decode cX7_mine 4 = .ok (.iload_n 1, 1) := by decide +kernel
theorem dX7_mine_5 : decode cX7_mine 5 = .ok (.iconst 0, 1) := by decide +kernel
theorem dX7_mine_6 : decode cX7_mine 6 = .ok (.bipush 90, 2) := by decide +kernel
theorem dX7_mine_8 : decode cX7_mine 8 = .ok (.invokestatic 36, 3) := by decide +kernel
theorem dX7_mine_11 : decode cX7_mine 11 = .ok (.ifCond .ne 6, 3) := by decide +kernel
theorem dX7_mine_14 : decode cX7_mine 14 = .ok (.ldc 28, 2) := by decide +kernel
theorem dX7_mine_16 : decode cX7_mine 16 = .ok (.ireturn, 1) := by decide +kernel
theorem dX7_mine_17 : decode cX7_mine 17 = .ok (.aload_n 0, 1) := by decide +kernel
theorem dX7_mine_18 : decode cX7_mine 18 = .ok (.getfield 7, 3) := by decide +kernel
theorem dX7_mine_21 : decode cX7_mine 21 = .ok (.iconst 0, 1) := by decide +kernel
theorem dX7_mine_22 : decode cX7_mine 22 = .ok (.iaload, 1) := by decide +kernel
theorem dX7_mine_23 : decode cX7_mine 23 = .ok (.iconst 4, 1) := by decide +kernel
theorem dX7_mine_24 : decode cX7_mine 24 = .ok (.if_icmp .ne 6, 3) := by decide +kernel
theorem dX7_mine_27 : decode cX7_mine 27 = .ok (.ldc 85, 2) := by decide +kernel
theorem dX7_mine_29 : decode cX7_mine 29 = .ok (.ireturn, 1) := by decide +kernel
theorem dX7_mine_30 : decode cX7_mine 30 = .ok (.aload_n 0, 1) := by decide +kernel
theorem dX7_mine_31 : decode cX7_mine 31 = .ok (.getfield 7, 3) := by decide +kernel
theorem dX7_mine_34 : decode cX7_mine 34 = .ok (.iconst 0, 1) := by decide +kernel
theorem dX7_mine_35 : decode cX7_mine 35 = .ok (.dup2, 1) := by decide +kernel
theorem dX7_mine_36 : decode cX7_mine 36 = .ok (.iaload, 1) := by decide +kernel
theorem dX7_mine_37 : decode cX7_mine 37 = .ok (.iconst 1, 1) := by decide +kernel
theorem dX7_mine_38 : decode cX7_mine 38 = .ok (.iadd, 1) := by decide +kernel
theorem dX7_mine_39 : decode cX7_mine 39 = .ok (.iastore, 1) := by decide +kernel
theorem dX7_mine_40 : decode cX7_mine 40 = .ok (.aload_n 0, 1) := by decide +kernel
theorem dX7_mine_41 : decode cX7_mine 41 = .ok (.getfield 7, 3) := by decide +kernel
theorem dX7_mine_44 : decode cX7_mine 44 = .ok (.bipush 39, 2) := by decide +kernel
theorem dX7_mine_46 : decode cX7_mine 46 = .ok (.bipush 6, 2) := by decide +kernel
theorem dX7_mine_48 : decode cX7_mine 48 = .ok (.aload_n 0, 1) := by decide +kernel
theorem dX7_mine_49 : decode cX7_mine 49 = .ok (.getfield 7, 3) := by decide +kernel
theorem dX7_mine_52 : decode cX7_mine 52 = .ok (.iconst 0, 1) := by decide +kernel
theorem dX7_mine_53 : decode cX7_mine 53 = .ok (.iaload, 1) := by decide +kernel
theorem dX7_mine_54 : decode cX7_mine 54 = .ok (.imul, 1) := by decide +kernel
theorem dX7_mine_55 : decode cX7_mine 55 = .ok (.iadd, 1) := by decide +kernel
theorem dX7_mine_56 : decode cX7_mine 56 = .ok (.iconst 1, 1) := by decide +kernel
theorem dX7_mine_57 : decode cX7_mine 57 = .ok (.iadd, 1) := by decide +kernel
theorem dX7_mine_58 : decode cX7_mine 58 = .ok (.iload_n 1, 1) := by decide +kernel
theorem dX7_mine_59 : decode cX7_mine 59 = .ok (.iastore, 1) := by decide +kernel
theorem dX7_mine_60 : decode cX7_mine 60 = .ok (.aload_n 0, 1) := by decide +kernel
theorem dX7_mine_61 : decode cX7_mine 61 = .ok (.aload_n 0, 1) := by decide +kernel
theorem dX7_mine_62 : decode cX7_mine 62 = .ok (.getfield 7, 3) := by decide +kernel
theorem dX7_mine_65 : decode cX7_mine 65 = .ok (.iconst 0, 1) := by decide +kernel
theorem dX7_mine_66 : decode cX7_mine 66 = .ok (.iaload, 1) := by decide +kernel
theorem dX7_mine_67 : decode cX7_mine 67 = .ok (.invokevirtual 107, 3) := by decide +kernel
theorem dX7_mine_70 : decode cX7_mine 70 = .ok (.ireturn, 1) := by decide +kernel
theorem dX7_leg_0 : decode cX7_leg 0 = .ok (.aload_n 0, 1) := by decide +kernel
theorem dX7_leg_1 : decode cX7_leg 1 = .ok (.invokevirtual 104, 3) := by decide +kernel
theorem dX7_leg_4 : decode cX7_leg 4 = .ok (.aload_n 0, 1) := by decide +kernel
theorem dX7_leg_5 : decode cX7_leg 5 = .ok (.iload_n 1, 1) := by decide +kernel
theorem dX7_leg_6 : decode cX7_leg 6 = .ok (.invokevirtual 98, 3) := by decide +kernel
theorem dX7_leg_9 : decode cX7_leg 9 = .ok (.ifCond .eq 26, 3) := by decide +kernel
theorem dX7_leg_12 : decode cX7_leg 12 = .ok (.aload_n 0, 1) := by decide +kernel
theorem dX7_leg_13 : decode cX7_leg 13 = .ok (.iload_n 2, 1) := by decide +kernel
theorem dX7_leg_14 : decode cX7_leg 14 = .ok (.invokevirtual 98, 3) := by decide +kernel
theorem dX7_leg_17 : decode cX7_leg 17 = .ok (.ifCond .eq 18, 3) := by decide +kernel
theorem dX7_leg_20 : decode cX7_leg 20 = .ok (.iload_n 1, 1) := by decide +kernel
theorem dX7_leg_21 : decode cX7_leg 21 = .ok (.iload_n 2, 1) := by decide +kernel
theorem dX7_leg_22 : decode cX7_leg 22 = .ok (.if_icmp .eq 13, 3) := by decide +kernel
theorem dX7_leg_25 : decode cX7_leg 25 = .ok (.iload_n 3, 1) := by decide +kernel
theorem dX7_leg_26 : decode cX7_leg 26 = .ok (.iconst 1, 1) := by decide +kernel
theorem dX7_leg_27 : decode cX7_leg 27 = .ok (.bipush 9, 2) := by decide +kernel
theorem dX7_leg_29 : decode cX7_leg 29 = .ok (.invokestatic 36, 3) := by decide +kernel
theorem dX7_leg_32 : decode cX7_leg 32 = .ok (.ifCond .ne 6, 3) := by decide +kernel
theorem dX7_leg_35 : decode cX7_leg 35 = .ok (.ldc 28, 2) := by decide +kernel
theorem dX7_leg_37 : decode cX7_leg 37 = .ok (.ireturn, 1) := by decide +kernel
theorem dX7_leg_38 : decode cX7_leg 38 = .ok (.aload_n 0, 1) := by decide +kernel
theorem dX7_leg_39 : decode cX7_leg 39 = .ok (.getfield 7, 3) := by decide +kernel
theorem dX7_leg_42 : decode cX7_leg 42 = .ok (.bipush 14, 2) := by decide +kernel
theorem dX7_leg_44 : decode cX7_leg 44 = .ok (.iconst 5, 1) := by decide +kernel
theorem dX7_leg_45 : decode cX7_leg 45 = .ok (.iload_n 1, 1) := by decide +kernel
theorem dX7_leg_46 : decode cX7_leg 46 = .ok (.imul, 1) := by decide +kernel
theorem dX7_leg_47 : decode cX7_leg 47 = .ok (.iadd, 1) := by decide +kernel
theorem dX7_leg_48 : decode cX7_leg 48 = .ok (.iload_n 2, 1) := by decide +kernel
theorem dX7_leg_49 : decode cX7_leg 49 = .ok (.iadd, 1) := by decide +kernel
theorem dX7_leg_50 : decode cX7_leg 50 = .ok (.iaload, 1) := by decide +kernel
theorem dX7_leg_51 : decode cX7_leg 51 = .ok (.istore 4, 2) := by decide +kernel
theorem dX7_leg_53 : decode cX7_leg 53 = .ok (.aload_n 0, 1) := by decide +kernel
theorem dX7_leg_54 : decode cX7_leg 54 = .ok (.getfield 7, 3) := by decide +kernel
theorem dX7_leg_57 : decode cX7_leg 57 = .ok (.bipush 14, 2) := by decide +kernel
theorem dX7_leg_59 : decode cX7_leg 59 = .ok (.iconst 5, 1) := by decide +kernel
theorem dX7_leg_60 : decode cX7_leg 60 = .ok (.iload_n 1, 1) := by decide +kernel
theorem dX7_leg_61 : decode cX7_leg 61 = .ok (.imul, 1) := by decide +kernel
theorem dX7_leg_62 : decode cX7_leg 62 = .ok (.iadd, 1) := by decide +kernel
theorem dX7_leg_63 : decode cX7_leg 63 = .ok (.iload_n 2, 1) := by decide +kernel
theorem dX7_leg_64 : decode cX7_leg 64 = .ok (.iadd, 1) := by decide +kernel
theorem dX7_leg_65 : decode cX7_leg 65 = .ok (.iload_n 3, 1) := by decide +kernel
theorem dX7_leg_66 : decode cX7_leg 66 = .ok (.iastore, 1) := by decide +kernel
theorem dX7_leg_67 : decode cX7_leg 67 = .ok (.aload_n 0, 1) := by decide +kernel
theorem dX7_leg_68 : decode cX7_leg 68 = .ok (.getfield 7, 3) := by decide +kernel
theorem dX7_leg_71 : decode cX7_leg 71 = .ok (.bipush 14, 2) := by decide +kernel
theorem dX7_leg_73 : decode cX7_leg 73 = .ok (.iconst 5, 1) := by decide +kernel
theorem dX7_leg_74 : decode cX7_leg 74 = .ok (.iload_n 2, 1) := by decide +kernel
theorem dX7_leg_75 : decode cX7_leg 75 = .ok (.imul, 1) := by decide +kernel
theorem dX7_leg_76 : decode cX7_leg 76 = .ok (.iadd, 1) := by decide +kernel
theorem dX7_leg_77 : decode cX7_leg 77 = .ok (.iload_n 1, 1) := by decide +kernel
theorem dX7_leg_78 : decode cX7_leg 78 = .ok (.iadd, 1) := by decide +kernel
theorem dX7_leg_79 : decode cX7_leg 79 = .ok (.iload_n 3, 1) := by decide +kernel
theorem dX7_leg_80 : decode cX7_leg 80 = .ok (.iastore, 1) := by decide +kernel
theorem dX7_leg_81 : decode cX7_leg 81 = .ok (.aload_n 0, 1) := by decide +kernel
theorem dX7_leg_82 : decode cX7_leg 82 = .ok (.iload 4, 2) := by decide +kernel
theorem dX7_leg_84 : decode cX7_leg 84 = .ok (.invokevirtual 107, 3) := by decide +kernel
theorem dX7_leg_87 : decode cX7_leg 87 = .ok (.ireturn, 1) := by decide +kernel
theorem dX7_wagon_0 : decode cX7_wagon 0 = .ok (.aload_n 0, 1) := by decide +kernel
theorem dX7_wagon_1 : decode cX7_wagon 1 = .ok (.invokevirtual 104, 3) := by decide +kernel
theorem dX7_wagon_4 : decode cX7_wagon 4 = .ok (.aload_n 0, 1) := by decide +kernel
theorem dX7_wagon_5 : decode cX7_wagon 5 = .ok (.aload_n 0, 1) := by decide +kernel
theorem dX7_wagon_6 : decode cX7_wagon 6 = .ok (.iload_n 1, 1) := by decide +kernel
theorem dX7_wagon_7 : decode cX7_wagon 7 = .ok (.invokevirtual 110, 3) := by decide +kernel
theorem dX7_wagon_10 : decode cX7_wagon 10 = .ok (.invokevirtual 107, 3) := by decide +kernel
theorem dX7_wagon_13 : decode cX7_wagon 13 = .ok (.ireturn, 1) := by decide +kernel
theorem dX7_load_0 : decode cX7_load 0 = .ok (.aload_n 0, 1) := by decide +kernel
theorem dX7_load_1 : decode cX7_load 1 = .ok (.invokevirtual 104, 3) := by decide +kernel
theorem dX7_load_4 : decode cX7_load 4 = .ok (.aload_n 0, 1) := by decide +kernel
theorem dX7_load_5 : decode cX7_load 5 = .ok (.aload_n 0, 1) := by decide +kernel
theorem dX7_load_6 : decode cX7_load 6 = .ok (.iload_n 1, 1) := by decide +kernel
theorem dX7_load_7 : decode cX7_load 7 = .ok (.invokevirtual 113, 3) := by decide +kernel
theorem dX7_load_10 : decode cX7_load 10 = .ok (.invokevirtual 107, 3) := by decide +kernel
theorem dX7_load_13 : decode cX7_load 13 = .ok (.ireturn, 1) := by decide +kernel
theorem dX7_unload_0 : decode cX7_unload 0 = .ok (.aload_n 0, 1) := by decide +kernel
theorem dX7_unload_1 : decode cX7_unload 1 = .ok (.invokevirtual 104, 3) := by decide +kernel
theorem dX7_unload_4 : decode cX7_unload 4 = .ok (.aload_n 0, 1) := by decide +kernel
theorem dX7_unload_5 : decode cX7_unload 5 = .ok (.aload_n 0, 1) := by decide +kernel
theorem dX7_unload_6 : decode cX7_unload 6 = .ok (.iload_n 1, 1) := by decide +kernel
theorem dX7_unload_7 : decode cX7_unload 7 = .ok (.invokevirtual 116, 3) := by decide +kernel
theorem dX7_unload_10 : decode cX7_unload 10 = .ok (.invokevirtual 107, 3) := by decide +kernel
theorem dX7_unload_13 : decode cX7_unload 13 = .ok (.ireturn, 1) := by decide +kernel
theorem dX7_repair_0 : decode cX7_repair 0 = .ok (.aload_n 0, 1) := by decide +kernel
theorem dX7_repair_1 : decode cX7_repair 1 = .ok (.invokevirtual 104, 3) := by decide +kernel
theorem dX7_repair_4 : decode cX7_repair 4 = .ok (.aload_n 0, 1) := by decide +kernel
theorem dX7_repair_5 : decode cX7_repair 5 = .ok (.aload_n 0, 1) := by decide +kernel
theorem dX7_repair_6 : decode cX7_repair 6 = .ok (.iload_n 1, 1) := by decide +kernel
theorem dX7_repair_7 : decode cX7_repair 7 = .ok (.invokevirtual 119, 3) := by decide +kernel
theorem dX7_repair_10 : decode cX7_repair 10 = .ok (.invokevirtual 107, 3) := by decide +kernel
theorem dX7_repair_13 : decode cX7_repair 13 = .ok (.ireturn, 1) := by decide +kernel
theorem dX7_train_0 : decode cX7_train 0 = .ok (.aload_n 0, 1) := by decide +kernel
theorem dX7_train_1 : decode cX7_train 1 = .ok (.invokevirtual 104, 3) := by decide +kernel
theorem dX7_train_4 : decode cX7_train 4 = .ok (.aload_n 0, 1) := by decide +kernel
theorem dX7_train_5 : decode cX7_train 5 = .ok (.aload_n 0, 1) := by decide +kernel
theorem dX7_train_6 : decode cX7_train 6 = .ok (.iload_n 1, 1) := by decide +kernel
theorem dX7_train_7 : decode cX7_train 7 = .ok (.iload_n 2, 1) := by decide +kernel
theorem dX7_train_8 : decode cX7_train 8 = .ok (.iload_n 3, 1) := by decide +kernel
theorem dX7_train_9 : decode cX7_train 9 = .ok (.iload 4, 2) := by decide +kernel
theorem dX7_train_11 : decode cX7_train 11 = .ok (.invokevirtual 122, 3) := by decide +kernel
theorem dX7_train_14 : decode cX7_train 14 = .ok (.invokevirtual 107, 3) := by decide +kernel
theorem dX7_train_17 : decode cX7_train 17 = .ok (.ireturn, 1) := by decide +kernel
theorem dX7_pass_0 : decode cX7_pass 0 = .ok (.aload_n 0, 1) := by decide +kernel
theorem dX7_pass_1 : decode cX7_pass 1 = .ok (.invokevirtual 104, 3) := by decide +kernel
theorem dX7_pass_4 : decode cX7_pass 4 = .ok (.aload_n 0, 1) := by decide +kernel
theorem dX7_pass_5 : decode cX7_pass 5 = .ok (.aload_n 0, 1) := by decide +kernel
theorem dX7_pass_6 : decode cX7_pass 6 = .ok (.iload_n 1, 1) := by decide +kernel
theorem dX7_pass_7 : decode cX7_pass 7 = .ok (.invokevirtual 126, 3) := by decide +kernel
theorem dX7_pass_10 : decode cX7_pass 10 = .ok (.invokevirtual 107, 3) := by decide +kernel
theorem dX7_pass_13 : decode cX7_pass 13 = .ok (.ireturn, 1) := by decide +kernel
theorem dX7_isSetting_0 : decode cX7_isSetting 0 = .ok (.iload_n 0, 1) := by decide +kernel
theorem dX7_isSetting_1 : decode cX7_isSetting 1 = .ok (.lookupswitch 59 #[(0, 35), (3, 43), (6, 51)], 35) := by decide +kernel
theorem dX7_isSetting_36 : decode cX7_isSetting 36 = .ok (.iload_n 1, 1) := by decide +kernel
theorem dX7_isSetting_37 : decode cX7_isSetting 37 = .ok (.iconst 0, 1) := by decide +kernel
theorem dX7_isSetting_38 : decode cX7_isSetting 38 = .ok (.bipush 30, 2) := by decide +kernel
theorem dX7_isSetting_40 : decode cX7_isSetting 40 = .ok (.invokestatic 36, 3) := by decide +kernel
theorem dX7_isSetting_43 : decode cX7_isSetting 43 = .ok (.ireturn, 1) := by decide +kernel
theorem dX7_isSetting_44 : decode cX7_isSetting 44 = .ok (.iload_n 1, 1) := by decide +kernel
theorem dX7_isSetting_45 : decode cX7_isSetting 45 = .ok (.iconst 1, 1) := by decide +kernel
theorem dX7_isSetting_46 : decode cX7_isSetting 46 = .ok (.bipush 99, 2) := by decide +kernel
theorem dX7_isSetting_48 : decode cX7_isSetting 48 = .ok (.invokestatic 36, 3) := by decide +kernel
theorem dX7_isSetting_51 : decode cX7_isSetting 51 = .ok (.ireturn, 1) := by decide +kernel
theorem dX7_isSetting_52 : decode cX7_isSetting 52 = .ok (.iload_n 1, 1) := by decide +kernel
theorem dX7_isSetting_53 : decode cX7_isSetting 53 = .ok (.iconst 1, 1) := by decide +kernel
theorem dX7_isSetting_54 : decode cX7_isSetting 54 = .ok (.bipush 30, 2) := by decide +kernel
theorem dX7_isSetting_56 : decode cX7_isSetting 56 = .ok (.invokestatic 36, 3) := by decide +kernel
theorem dX7_isSetting_59 : decode cX7_isSetting 59 = .ok (.ireturn, 1) := by decide +kernel
theorem dX7_isSetting_60 : decode cX7_isSetting 60 = .ok (.iload_n 0, 1) := by decide +kernel
theorem dX7_isSetting_61 : decode cX7_isSetting 61 = .ok (.iconst 0, 1) := by decide +kernel
theorem dX7_isSetting_62 : decode cX7_isSetting 62 = .ok (.bipush 6, 2) := by decide +kernel
theorem dX7_isSetting_64 : decode cX7_isSetting 64 = .ok (.invokestatic 36, 3) := by decide +kernel
theorem dX7_isSetting_67 : decode cX7_isSetting 67 = .ok (.ifCond .eq 17, 3) := by decide +kernel
theorem dX7_isSetting_70 : decode cX7_isSetting 70 = .ok (.iload_n 1, 1) := by decide +kernel
theorem dX7_isSetting_71 : decode cX7_isSetting 71 = .ok (.iconst 0, 1) := by decide +kernel
theorem dX7_isSetting_72 : decode cX7_isSetting 72 = .ok (.bipush 99, 2) := by decide +kernel
theorem dX7_isSetting_74 : decode cX7_isSetting 74 = .ok (.invokestatic 36, 3) := by decide +kernel
theorem dX7_isSetting_77 : decode cX7_isSetting 77 = .ok (.ifCond .eq 7, 3) := by decide +kernel
theorem dX7_isSetting_80 : decode cX7_isSetting 80 = .ok (.iconst 1, 1) := by decide +kernel
theorem dX7_isSetting_81 : decode cX7_isSetting 81 = .ok (.goto 4, 3) := by decide +kernel
theorem dX7_isSetting_84 : decode cX7_isSetting 84 = .ok (.iconst 0, 1) := by decide +kernel
theorem dX7_isSetting_85 : decode cX7_isSetting 85 = .ok (.ireturn, 1) := by decide +kernel
