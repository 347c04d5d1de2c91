theorem ka_q_co_X6_would : Cond.code yX6_would prog_1_method_14_code 3 (some FieldType.int) ∈ ka_T := List.mem_filter.mpr ⟨List.mem_of_getElem? (i := 586) (by decide +kernel), by decide +kernel⟩
theorem ka_q_ml_X6_85 : Cond.methodLink RX6 85 yX3_isPlace ∈ ka_T := List.mem_filter.mpr ⟨List.mem_of_getElem? (i := 587) (by decide +kernel), by decide +kernel⟩
theorem ka_q_ml_X6_93 : Cond.methodLink RX6 93 yX3_letDaysPass ∈ ka_T := List.mem_filter.mpr ⟨List.mem_of_getElem? (i := 588) (by decide +kernel), by decide +kernel⟩
theorem ka_q_ml_X6_96 : Cond.methodLink RX6 96 yX3_accountOf ∈ ka_T := List.mem_filter.mpr ⟨List.mem_of_getElem? (i := 589) (by decide +kernel), by decide +kernel⟩
theorem ka_q_im_X3_accountOf : Cond.instanceMethod yX3_accountOf ∈ ka_T := List.mem_filter.mpr ⟨List.mem_of_getElem? (i := 590) (by decide +kernel), by decide +kernel⟩
theorem ka_q_se_X3_accountOf : Cond.selects RX3 yX3_accountOf yX3_accountOf ∈ ka_T := List.mem_filter.mpr ⟨List.mem_of_getElem? (i := 591) (by decide +kernel), by decide +kernel⟩
theorem ka_q_co_X3_accountOf : Cond.code yX3_accountOf prog_5_method_12_code 2 (some FieldType.int) ∈ ka_T := List.mem_filter.mpr ⟨List.mem_of_getElem? (i := 592) (by decide +kernel), by decide +kernel⟩
theorem ka_q_ml_L_69 : Cond.methodLink RL 69 yX6_lacks ∈ ka_T := List.mem_filter.mpr ⟨List.mem_of_getElem? (i := 593) (by decide +kernel), by decide +kernel⟩
theorem ka_q_im_X6_lacks : Cond.instanceMethod yX6_lacks ∈ ka_T := List.mem_filter.mpr ⟨List.mem_of_getElem? (i := 594) (by decide +kernel), by decide +kernel⟩
theorem ka_q_se_X6_lacks : Cond.selects RX6 yX6_lacks yX6_lacks ∈ ka_T := List.mem_filter.mpr ⟨List.mem_of_getElem? (i := 595) (by decide +kernel), by decide +kernel⟩
theorem ka_q_co_X6_lacks : Cond.code yX6_lacks prog_1_method_15_code 2 (some FieldType.int) ∈ ka_T := List.mem_filter.mpr ⟨List.mem_of_getElem? (i := 596) (by decide +kernel), by decide +kernel⟩
theorem ka_q_ml_X6_99 : Cond.methodLink RX6 99 yX3_isMine ∈ ka_T := List.mem_filter.mpr ⟨List.mem_of_getElem? (i := 597) (by decide +kernel), by decide +kernel⟩
theorem ka_q_ml_X6_102 : Cond.methodLink RX6 102 yX3_lackOf ∈ ka_T := List.mem_filter.mpr ⟨List.mem_of_getElem? (i := 598) (by decide +kernel), by decide +kernel⟩
theorem ka_q_im_X3_lackOf : Cond.instanceMethod yX3_lackOf ∈ ka_T := List.mem_filter.mpr ⟨List.mem_of_getElem? (i := 599) (by decide +kernel), by decide +kernel⟩
theorem ka_q_se_X3_lackOf : Cond.selects RX3 yX3_lackOf yX3_lackOf ∈ ka_T := List.mem_filter.mpr ⟨List.mem_of_getElem? (i := 600) (by decide +kernel), by decide +kernel⟩
theorem ka_q_co_X3_lackOf : Cond.code yX3_lackOf prog_5_method_41_code 5 (some FieldType.int) ∈ ka_T := List.mem_filter.mpr ⟨List.mem_of_getElem? (i := 601) (by decide +kernel), by decide +kernel⟩
theorem ka_q_ml_X3_276 : Cond.methodLink RX3 276 yX2_loadsOfHeap ∈ ka_T := List.mem_filter.mpr ⟨List.mem_of_getElem? (i := 602) (by decide +kernel), by decide +kernel⟩
theorem ka_q_im_X2_loadsOfHeap : Cond.instanceMethod yX2_loadsOfHeap ∈ ka_T := List.mem_filter.mpr ⟨List.mem_of_getElem? (i := 603) (by decide +kernel), by decide +kernel⟩
theorem ka_q_se_X2_loadsOfHeap : Cond.selects RX2 yX2_loadsOfHeap yX2_loadsOfHeap ∈ ka_T := List.mem_filter.mpr ⟨List.mem_of_getElem? (i := 604) (by decide +kernel), by decide +kernel⟩
theorem ka_q_co_X2_loadsOfHeap : Cond.code yX2_loadsOfHeap prog_4_method_7_code 1 (some FieldType.int) ∈ ka_T := List.mem_filter.mpr ⟨List.mem_of_getElem? (i := 605) (by decide +kernel), by decide +kernel⟩
theorem ka_q_ml_X3_279 : Cond.methodLink RX3 279 yX3_readyAt ∈ ka_T := List.mem_filter.mpr ⟨List.mem_of_getElem? (i := 606) (by decide +kernel), by decide +kernel⟩
theorem ka_q_im_X3_readyAt : Cond.instanceMethod yX3_readyAt ∈ ka_T := List.mem_filter.mpr ⟨List.mem_of_getElem? (i := 608) (by decide +kernel), by decide +kernel⟩
theorem ka_q_co_X3_readyAt : Cond.code yX3_readyAt prog_5_method_43_code 5 (some FieldType.int) ∈ ka_T := List.mem_filter.mpr ⟨List.mem_of_getElem? (i := 609) (by decide +kernel), by decide +kernel⟩
theorem ka_q_ml_X3_282 : Cond.methodLink RX3 282 Lib.Math.max.name ∈ ka_T := List.mem_filter.mpr ⟨List.mem_of_getElem? (i := 610) (by decide +kernel), by decide +kernel⟩
theorem ka_q_st_max : Cond.static Lib.Math.max.name ∈ ka_T := List.mem_filter.mpr ⟨List.mem_of_getElem? (i := 611) (by decide +kernel), by decide +kernel⟩
theorem ka_q_co_max : Cond.code Lib.Math.max.name Lib.Math.max.code 2 (some .int) ∈ ka_T := List.mem_filter.mpr ⟨List.mem_of_getElem? (i := 612) (by decide +kernel), by decide +kernel⟩
theorem ka_q_ml_L_73 : Cond.methodLink RL 73 yX6_bestTrain ∈ ka_T := List.mem_filter.mpr ⟨List.mem_of_getElem? (i := 613) (by decide +kernel), by decide +kernel⟩
theorem ka_q_im_X6_bestTrain : Cond.instanceMethod yX6_bestTrain ∈ ka_T := List.mem_filter.mpr ⟨List.mem_of_getElem? (i := 614) (by decide +kernel), by decide +kernel⟩
theorem ka_q_se_X6_bestTrain : Cond.selects RX6 yX6_bestTrain yX6_bestTrain ∈ ka_T := List.mem_filter.mpr ⟨List.mem_of_getElem? (i := 615) (by decide +kernel), by decide +kernel⟩
theorem ka_q_co_X6_bestTrain : Cond.code yX6_bestTrain prog_1_method_16_code 4 (some FieldType.int) ∈ ka_T := List.mem_filter.mpr ⟨List.mem_of_getElem? (i := 616) (by decide +kernel), by decide +kernel⟩
theorem ka_q_ml_X6_105 : Cond.methodLink RX6 105 yX3_neediestMine ∈ ka_T := List.mem_filter.mpr ⟨List.mem_of_getElem? (i := 617) (by decide +kernel), by decide +kernel⟩
theorem ka_q_im_X3_neediestMine : Cond.instanceMethod yX3_neediestMine ∈ ka_T := List.mem_filter.mpr ⟨List.mem_of_getElem? (i := 618) (by decide +kernel), by decide +kernel⟩
theorem ka_q_se_X3_neediestMine : Cond.selects RX3 yX3_neediestMine yX3_neediestMine ∈ ka_T := List.mem_filter.mpr ⟨List.mem_of_getElem? (i := 619) (by decide +kernel), by decide +kernel⟩
theorem ka_q_co_X3_neediestMine : Cond.code yX3_neediestMine prog_5_method_44_code 5 (some FieldType.int) ∈ ka_T := List.mem_filter.mpr ⟨List.mem_of_getElem? (i := 620) (by decide +kernel), by decide +kernel⟩
theorem ka_q_ml_X3_287 : Cond.methodLink RX3 287 yX3_lackOf ∈ ka_T := List.mem_filter.mpr ⟨List.mem_of_getElem? (i := 621) (by decide +kernel), by decide +kernel⟩
theorem ka_q_ml_X6_109 : Cond.methodLink RX6 109 yX3_nearestToSpare ∈ ka_T := List.mem_filter.mpr ⟨List.mem_of_getElem? (i := 622) (by decide +kernel), by decide +kernel⟩
theorem ka_q_im_X3_nearestToSpare : Cond.instanceMethod yX3_nearestToSpare ∈ ka_T := List.mem_filter.mpr ⟨List.mem_of_getElem? (i := 623) (by decide +kernel), by decide +kernel⟩
theorem ka_q_se_X3_nearestToSpare : Cond.selects RX3 yX3_nearestToSpare yX3_nearestToSpare ∈ ka_T := List.mem_filter.mpr ⟨List.mem_of_getElem? (i := 624) (by decide +kernel), by decide +kernel⟩
theorem ka_q_co_X3_nearestToSpare : Cond.code yX3_nearestToSpare prog_5_method_45_code 5 (some FieldType.int) ∈ ka_T := List.mem_filter.mpr ⟨List.mem_of_getElem? (i := 625) (by decide +kernel), by decide +kernel⟩
theorem ka_q_ml_X3_290 : Cond.methodLink RX3 290 yX3_spareOf ∈ ka_T := List.mem_filter.mpr ⟨List.mem_of_getElem? (i := 626) (by decide +kernel), by decide +kernel⟩
theorem ka_q_im_X3_spareOf : Cond.instanceMethod yX3_spareOf ∈ ka_T := List.mem_filter.mpr ⟨List.mem_of_getElem? (i := 627) (by decide +kernel), by decide +kernel⟩
theorem ka_q_se_X3_spareOf : Cond.selects RX3 yX3_spareOf yX3_spareOf ∈ ka_T := List.mem_filter.mpr ⟨List.mem_of_getElem? (i := 628) (by decide +kernel), by decide +kernel⟩
theorem ka_q_co_X3_spareOf : Cond.code yX3_spareOf prog_5_method_42_code 2 (some FieldType.int) ∈ ka_T := List.mem_filter.mpr ⟨List.mem_of_getElem? (i := 629) (by decide +kernel), by decide +kernel⟩
theorem ka_q_ml_X6_113 : Cond.methodLink RX6 113 yX3_spareOf ∈ ka_T := List.mem_filter.mpr ⟨List.mem_of_getElem? (i := 630) (by decide +kernel), by decide +kernel⟩
theorem ka_q_ml_X6_116 : Cond.methodLink RX6 116 Lib.Math.min.name ∈ ka_T := List.mem_filter.mpr ⟨List.mem_of_getElem? (i := 631) (by decide +kernel), by decide +kernel⟩
theorem ka_q_st_min : Cond.static Lib.Math.min.name ∈ ka_T := List.mem_filter.mpr ⟨List.mem_of_getElem? (i := 632) (by decide +kernel), by decide +kernel⟩
theorem ka_q_co_min : Cond.code Lib.Math.min.name Lib.Math.min.code 2 (some .int) ∈ ka_T := List.mem_filter.mpr ⟨List.mem_of_getElem? (i := 633) (by decide +kernel), by decide +kernel⟩
theorem ka_q_ml_L_77 : Cond.methodLink RL 77 yX6_share ∈ ka_T := List.mem_filter.mpr ⟨List.mem_of_getElem? (i := 634) (by decide +kernel), by decide +kernel⟩
theorem ka_q_im_X6_share : Cond.instanceMethod yX6_share ∈ ka_T := List.mem_filter.mpr ⟨List.mem_of_getElem? (i := 635) (by decide +kernel), by decide +kernel⟩
theorem ka_q_se_X6_share : Cond.selects RX6 yX6_share yX6_share ∈ ka_T := List.mem_filter.mpr ⟨List.mem_of_getElem? (i := 636) (by decide +kernel), by decide +kernel⟩
theorem ka_q_co_X6_share : Cond.code yX6_share prog_1_method_17_code 3 (some FieldType.int) ∈ ka_T := List.mem_filter.mpr ⟨List.mem_of_getElem? (i := 637) (by decide +kernel), by decide +kernel⟩
theorem ka_q_ml_X6_121 : Cond.methodLink RX6 121 yX3_ownedBy ∈ ka_T := List.mem_filter.mpr ⟨List.mem_of_getElem? (i := 638) (by decide +kernel), by decide +kernel⟩
theorem ka_q_im_X3_ownedBy : Cond.instanceMethod yX3_ownedBy ∈ ka_T := List.mem_filter.mpr ⟨List.mem_of_getElem? (i := 639) (by decide +kernel), by decide +kernel⟩
theorem ka_q_se_X3_ownedBy : Cond.selects RX3 yX3_ownedBy yX3_ownedBy ∈ ka_T := List.mem_filter.mpr ⟨List.mem_of_getElem? (i := 640) (by decide +kernel), by decide +kernel⟩
theorem ka_q_co_X3_ownedBy : Cond.code yX3_ownedBy prog_5_method_46_code 2 (some FieldType.int) ∈ ka_T := List.mem_filter.mpr ⟨List.mem_of_getElem? (i := 641) (by decide +kernel), by decide +kernel⟩
theorem ka_q_ml_X3_293 : Cond.methodLink RX3 293 yJ6_bitCount_0f7a4 ∈ ka_T := List.mem_filter.mpr ⟨List.mem_of_getElem? (i := 642) (by decide +kernel), by decide +kernel⟩
theorem ka_q_st_J6_bitCount_0f7a4 : Cond.static yJ6_bitCount_0f7a4 ∈ ka_T := List.mem_filter.mpr ⟨List.mem_of_getElem? (i := 643) (by decide +kernel), by decide +kernel⟩
theorem ka_q_co_J6_bitCount_0f7a4 : Cond.code yJ6_bitCount_0f7a4 prog_11_method_49_code 1 (some FieldType.int) ∈ ka_T := List.mem_filter.mpr ⟨List.mem_of_getElem? (i := 644) (by decide +kernel), by decide +kernel⟩
theorem ka_q_cn_J6_265 : Cond.constant RJ6 265 1431655765 ∈ ka_T := List.mem_filter.mpr ⟨List.mem_of_getElem? (i := 645) (by decide +kernel), by decide +kernel⟩
theorem ka_q_cn_J6_266 : Cond.constant RJ6 266 858993459 ∈ ka_T := List.mem_filter.mpr ⟨List.mem_of_getElem? (i := 646) (by decide +kernel), by decide +kernel⟩
theorem ka_q_cn_J6_267 : Cond.constant RJ6 267 252645135 ∈ ka_T := List.mem_filter.mpr ⟨List.mem_of_getElem? (i := 647) (by decide +kernel), by decide +kernel⟩
theorem ka_q_ml_X6_124 : Cond.methodLink RX6 124 yX3_loadedOf ∈ ka_T := List.mem_filter.mpr ⟨List.mem_of_getElem? (i := 648) (by decide +kernel), by decide +kernel⟩
theorem ka_q_im_X3_loadedOf : Cond.instanceMethod yX3_loadedOf ∈ ka_T := List.mem_filter.mpr ⟨List.mem_of_getElem? (i := 649) (by decide +kernel), by decide +kernel⟩
theorem ka_q_se_X3_loadedOf : Cond.selects RX3 yX3_loadedOf yX3_loadedOf ∈ ka_T := List.mem_filter.mpr ⟨List.mem_of_getElem? (i := 650) (by decide +kernel), by decide +kernel⟩
theorem ka_q_co_X3_loadedOf : Cond.code yX3_loadedOf prog_5_method_47_code 5 (some FieldType.int) ∈ ka_T := List.mem_filter.mpr ⟨List.mem_of_getElem? (i := 651) (by decide +kernel), by decide +kernel⟩
theorem ka_q_ml_X6_127 : Cond.methodLink RX6 127 yX6_bitsOfShare ∈ ka_T := List.mem_filter.mpr ⟨List.mem_of_getElem? (i := 652) (by decide +kernel), by decide +kernel⟩
theorem ka_q_st_X6_bitsOfShare : Cond.static yX6_bitsOfShare ∈ ka_T := List.mem_filter.mpr ⟨List.mem_of_getElem? (i := 653) (by decide +kernel), by decide +kernel⟩
theorem ka_q_co_X6_bitsOfShare : Cond.code yX6_bitsOfShare prog_1_method_27_code 4 (some FieldType.int) ∈ ka_T := List.mem_filter.mpr ⟨List.mem_of_getElem? (i := 654) (by decide +kernel), by decide +kernel⟩
theorem ka_q_cf_X6_175 : Cond.constantFloat RX6 175 1258291200 ∈ ka_T := List.mem_filter.mpr ⟨List.mem_of_getElem? (i := 655) (by decide +kernel), by decide +kernel⟩
theorem ka_q_cn_X6_176 : Cond.constant RX6 176 8388608 ∈ ka_T := List.mem_filter.mpr ⟨List.mem_of_getElem? (i := 656) (by decide +kernel), by decide +kernel⟩
theorem ka_q_ml_L_81 : Cond.methodLink RL 81 yX6_count ∈ ka_T := List.mem_filter.mpr ⟨List.mem_of_getElem? (i := 657) (by decide +kernel), by decide +kernel⟩
theorem ka_q_im_X6_count : Cond.instanceMethod yX6_count ∈ ka_T := List.mem_filter.mpr ⟨List.mem_of_getElem? (i := 658) (by decide +kernel), by decide +kernel⟩
theorem ka_q_se_X6_count : Cond.selects RX6 yX6_count yX6_count ∈ ka_T := List.mem_filter.mpr ⟨List.mem_of_getElem? (i := 659) (by decide +kernel), by decide +kernel⟩
theorem ka_q_co_X6_count : Cond.code yX6_count prog_1_method_18_code 2 (some FieldType.int) ∈ ka_T := List.mem_filter.mpr ⟨List.mem_of_getElem? (i := 660) (by decide +kernel), by decide +kernel⟩
theorem ka_q_ml_X6_131 : Cond.methodLink RX6 131 yX0_size ∈ ka_T := List.mem_filter.mpr ⟨List.mem_of_getElem? (i := 661) (by decide +kernel), by decide +kernel⟩
theorem ka_q_im_X0_size : Cond.instanceMethod yX0_size ∈ ka_T := List.mem_filter.mpr ⟨List.mem_of_getElem? (i := 662) (by decide +kernel), by decide +kernel⟩
theorem ka_q_se_X0_size : Cond.selects RX0 yX0_size yX0_size ∈ ka_T := List.mem_filter.mpr ⟨List.mem_of_getElem? (i := 663) (by decide +kernel), by decide +kernel⟩
theorem ka_q_co_X0_size : Cond.code yX0_size prog_2_method_2_code 1 (some FieldType.int) ∈ ka_T := List.mem_filter.mpr ⟨List.mem_of_getElem? (i := 664) (by decide +kernel), by decide +kernel⟩
theorem ka_q_ml_X6_134 : Cond.methodLink RX6 134 yX1_length ∈ ka_T := List.mem_filter.mpr ⟨List.mem_of_getElem? (i := 665) (by decide +kernel), by decide +kernel⟩
theorem ka_q_im_X1_length : Cond.instanceMethod yX1_length ∈ ka_T := List.mem_filter.mpr ⟨List.mem_of_getElem? (i := 666) (by decide +kernel), by decide +kernel⟩
theorem ka_q_se_X1_length : Cond.selects RX1 yX1_length yX1_length ∈ ka_T := List.mem_filter.mpr ⟨List.mem_of_getElem? (i := 667) (by decide +kernel), by decide +kernel⟩
theorem ka_q_co_X1_length : Cond.code yX1_length prog_3_method_2_code 1 (some FieldType.int) ∈ ka_T := List.mem_filter.mpr ⟨List.mem_of_getElem? (i := 668) (by decide +kernel), by decide +kernel⟩
theorem ka_q_ml_X6_137 : Cond.methodLink RX6 137 yX3_tellNumber ∈ ka_T := List.mem_filter.mpr ⟨List.mem_of_getElem? (i := 669) (by decide +kernel), by decide +kernel⟩
theorem ka_q_im_X3_tellNumber : Cond.instanceMethod yX3_tellNumber ∈ ka_T := List.mem_filter.mpr ⟨List.mem_of_getElem? (i := 670) (by decide +kernel), by decide +kernel⟩
theorem ka_q_se_X3_tellNumber : Cond.selects RX3 yX3_tellNumber yX3_tellNumber ∈ ka_T := List.mem_filter.mpr ⟨List.mem_of_getElem? (i := 671) (by decide +kernel), by decide +kernel⟩
theorem ka_q_co_X3_tellNumber : Cond.code yX3_tellNumber prog_5_method_35_code 2 (some FieldType.int) ∈ ka_T := List.mem_filter.mpr ⟨List.mem_of_getElem? (i := 672) (by decide +kernel), by decide +kernel⟩
theorem ka_q_ml_X3_258 : Cond.methodLink RX3 258 yX3_countStanding ∈ ka_T := List.mem_filter.mpr ⟨List.mem_of_getElem? (i := 673) (by decide +kernel), by decide +kernel⟩
theorem ka_q_im_X3_countStanding : Cond.instanceMethod yX3_countStanding ∈ ka_T := List.mem_filter.mpr ⟨List.mem_of_getElem? (i := 675) (by decide +kernel), by decide +kernel⟩
theorem ka_q_co_X3_countStanding : Cond.code yX3_countStanding prog_5_method_36_code 5 (some FieldType.int) ∈ ka_T := List.mem_filter.mpr ⟨List.mem_of_getElem? (i := 676) (by decide +kernel), by decide +kernel⟩
theorem ka_q_ml_X3_261 : Cond.methodLink RX3 261 yX3_countOnTheWay ∈ ka_T := List.mem_filter.mpr ⟨List.mem_of_getElem? (i := 677) (by decide +kernel), by decide +kernel⟩
theorem ka_q_im_X3_countOnTheWay : Cond.instanceMethod yX3_countOnTheWay ∈ ka_T := List.mem_filter.mpr ⟨List.mem_of_getElem? (i := 679) (by decide +kernel), by decide +kernel⟩
theorem ka_q_co_X3_countOnTheWay : Cond.code yX3_countOnTheWay prog_5_method_37_code 3 (some FieldType.int) ∈ ka_T := List.mem_filter.mpr ⟨List.mem_of_getElem? (i := 680) (by decide +kernel), by decide +kernel⟩
theorem ka_q_ml_X3_264 : Cond.methodLink RX3 264 yX3_allAccounts ∈ ka_T := List.mem_filter.mpr ⟨List.mem_of_getElem? (i := 681) (by decide +kernel), by decide +kernel⟩
theorem ka_q_im_X3_allAccounts : Cond.instanceMethod yX3_allAccounts ∈ ka_T := List.mem_filter.mpr ⟨List.mem_of_getElem? (i := 683) (by decide +kernel), by decide +kernel⟩
theorem ka_q_co_X3_allAccounts : Cond.code yX3_allAccounts prog_5_method_39_code 3 (some FieldType.int) ∈ ka_T := List.mem_filter.mpr ⟨List.mem_of_getElem? (i := 684) (by decide +kernel), by decide +kernel⟩
theorem ka_q_ml_X3_273 : Cond.methodLink RX3 273 yX3_accountOf ∈ ka_T := List.mem_filter.mpr ⟨List.mem_of_getElem? (i := 685) (by decide +kernel), by decide +kernel⟩
theorem ka_q_ml_X3_267 : Cond.methodLink RX3 267 yX3_allTonnes ∈ ka_T := List.mem_filter.mpr ⟨List.mem_of_getElem? (i := 686) (by decide +kernel), by decide +kernel⟩
theorem ka_q_im_X3_allTonnes : Cond.instanceMethod yX3_allTonnes ∈ ka_T := List.mem_filter.mpr ⟨List.mem_of_getElem? (i := 688) (by decide +kernel), by decide +kernel⟩
theorem ka_q_co_X3_allTonnes : Cond.code yX3_allTonnes prog_5_method_40_code 3 (some FieldType.int) ∈ ka_T := List.mem_filter.mpr ⟨List.mem_of_getElem? (i := 689) (by decide +kernel), by decide +kernel⟩
theorem ka_q_ml_X3_270 : Cond.methodLink RX3 270 yX3_countDue ∈ ka_T := List.mem_filter.mpr ⟨List.mem_of_getElem? (i := 690) (by decide +kernel), by decide +kernel⟩
theorem ka_q_im_X3_countDue : Cond.instanceMethod yX3_countDue ∈ ka_T := List.mem_filter.mpr ⟨List.mem_of_getElem? (i := 692) (by decide +kernel), by decide +kernel⟩
theorem ka_q_co_X3_countDue : Cond.code yX3_countDue prog_5_method_38_code 3 (some FieldType.int) ∈ ka_T := List.mem_filter.mpr ⟨List.mem_of_getElem? (i := 693) (by decide +kernel), by decide +kernel⟩
theorem ka_q_ml_L_85 : Cond.methodLink RL 85 yX6_undo ∈ ka_T := List.mem_filter.mpr ⟨List.mem_of_getElem? (i := 694) (by decide +kernel), by decide +kernel⟩
theorem ka_q_im_X6_undo : Cond.instanceMethod yX6_undo ∈ ka_T := List.mem_filter.mpr ⟨List.mem_of_getElem? (i := 695) (by decide +kernel), by decide +kernel⟩
theorem ka_q_se_X6_undo : Cond.selects RX6 yX6_undo yX6_undo ∈ ka_T := List.mem_filter.mpr ⟨List.mem_of_getElem? (i := 696) (by decide +kernel), by decide +kernel⟩
theorem ka_q_co_X6_undo : Cond.code yX6_undo prog_1_method_19_code 1 (some FieldType.int) ∈ ka_T := List.mem_filter.mpr ⟨List.mem_of_getElem? (i := 697) (by decide +kernel), by decide +kernel⟩
theorem ka_q_cn_X6_140 : Cond.constant RX6 140 (-2000000002) ∈ ka_T := List.mem_filter.mpr ⟨List.mem_of_getElem? (i := 698) (by decide +kernel), by decide +kernel⟩
theorem ka_q_ml_X6_141 : Cond.methodLink RX6 141 yX0_takeLatest ∈ ka_T := List.mem_filter.mpr ⟨List.mem_of_getElem? (i := 699) (by decide +kernel), by decide +kernel⟩
theorem ka_q_im_X0_takeLatest : Cond.instanceMethod yX0_takeLatest ∈ ka_T := List.mem_filter.mpr ⟨List.mem_of_getElem? (i := 700) (by decide +kernel), by decide +kernel⟩
theorem ka_q_se_X0_takeLatest : Cond.selects RX0 yX0_takeLatest yX0_takeLatest ∈ ka_T := List.mem_filter.mpr ⟨List.mem_of_getElem? (i := 701) (by decide +kernel), by decide +kernel⟩
theorem ka_q_co_X0_takeLatest : Cond.code yX0_takeLatest prog_2_method_5_code 2 none ∈ ka_T := List.mem_filter.mpr ⟨List.mem_of_getElem? (i := 702) (by decide +kernel), by decide +kernel⟩
theorem ka_q_ml_L_90 : Cond.methodLink RL 90 yX6_type ∈ ka_T := List.mem_filter.mpr ⟨List.mem_of_getElem? (i := 703) (by decide +kernel), by decide +kernel⟩
theorem ka_q_im_X6_type : Cond.instanceMethod yX6_type ∈ ka_T := List.mem_filter.mpr ⟨List.mem_of_getElem? (i := 704) (by decide +kernel), by decide +kernel⟩
theorem ka_q_se_X6_type : Cond.selects RX6 yX6_type yX6_type ∈ ka_T := List.mem_filter.mpr ⟨List.mem_of_getElem? (i := 705) (by decide +kernel), by decide +kernel⟩
theorem ka_q_co_X6_type : Cond.code yX6_type prog_1_method_20_code 2 (some FieldType.int) ∈ ka_T := List.mem_filter.mpr ⟨List.mem_of_getElem? (i := 706) (by decide +kernel), by decide +kernel⟩
theorem ka_q_ml_X6_144 : Cond.methodLink RX6 144 yX1_append ∈ ka_T := List.mem_filter.mpr ⟨List.mem_of_getElem? (i := 707) (by decide +kernel), by decide +kernel⟩
theorem ka_q_im_X1_append : Cond.instanceMethod yX1_append ∈ ka_T := List.mem_filter.mpr ⟨List.mem_of_getElem? (i := 708) (by decide +kernel), by decide +kernel⟩
theorem ka_q_se_X1_append : Cond.selects RX1 yX1_append yX1_append ∈ ka_T := List.mem_filter.mpr ⟨List.mem_of_getElem? (i := 709) (by decide +kernel), by decide +kernel⟩
theorem ka_q_co_X1_append : Cond.code yX1_append prog_3_method_8_code 2 (some FieldType.int) ∈ ka_T := List.mem_filter.mpr ⟨List.mem_of_getElem? (i := 710) (by decide +kernel), by decide +kernel⟩
theorem ka_q_cn_X1_38 : Cond.constant RX1 38 (-2000000001) ∈ ka_T := List.mem_filter.mpr ⟨List.mem_of_getElem? (i := 712) (by decide +kernel), by decide +kernel⟩
theorem ka_q_cn_X1_39 : Cond.constant RX1 39 (-2000000003) ∈ ka_T := List.mem_filter.mpr ⟨List.mem_of_getElem? (i := 713) (by decide +kernel), by decide +kernel⟩
theorem ka_q_ml_L_94 : Cond.methodLink RL 94 yX6_clearText ∈ ka_T := List.mem_filter.mpr ⟨List.mem_of_getElem? (i := 714) (by decide +kernel), by decide +kernel⟩
theorem ka_q_im_X6_clearText : Cond.instanceMethod yX6_clearText ∈ ka_T := List.mem_filter.mpr ⟨List.mem_of_getElem? (i := 715) (by decide +kernel), by decide +kernel⟩
theorem ka_q_se_X6_clearText : Cond.selects RX6 yX6_clearText yX6_clearText ∈ ka_T := List.mem_filter.mpr ⟨List.mem_of_getElem? (i := 716) (by decide +kernel), by decide +kernel⟩
theorem ka_q_co_X6_clearText : Cond.code yX6_clearText prog_1_method_21_code 1 (some FieldType.int) ∈ ka_T := List.mem_filter.mpr ⟨List.mem_of_getElem? (i := 717) (by decide +kernel), by decide +kernel⟩
theorem ka_q_ml_X6_147 : Cond.methodLink RX6 147 yX1_clear ∈ ka_T := List.mem_filter.mpr ⟨List.mem_of_getElem? (i := 718) (by decide +kernel), by decide +kernel⟩
theorem ka_q_im_X1_clear : Cond.instanceMethod yX1_clear ∈ ka_T := List.mem_filter.mpr ⟨List.mem_of_getElem? (i := 719) (by decide +kernel), by decide +kernel⟩
theorem ka_q_se_X1_clear : Cond.selects RX1 yX1_clear yX1_clear ∈ ka_T := List.mem_filter.mpr ⟨List.mem_of_getElem? (i := 720) (by decide +kernel), by decide +kernel⟩
theorem ka_q_co_X1_clear : Cond.code yX1_clear prog_3_method_9_code 2 (some FieldType.int) ∈ ka_T := List.mem_filter.mpr ⟨List.mem_of_getElem? (i := 721) (by decide +kernel), by decide +kernel⟩
theorem ka_q_ml_L_98 : Cond.methodLink RL 98 yX6_fault ∈ ka_T := List.mem_filter.mpr ⟨List.mem_of_getElem? (i := 722) (by decide +kernel), by decide +kernel⟩
theorem ka_q_im_X6_fault : Cond.instanceMethod yX6_fault ∈ ka_T := List.mem_filter.mpr ⟨List.mem_of_getElem? (i := 723) (by decide +kernel), by decide +kernel⟩
theorem ka_q_se_X6_fault : Cond.selects RX6 yX6_fault yX6_fault ∈ ka_T := List.mem_filter.mpr ⟨List.mem_of_getElem? (i := 724) (by decide +kernel), by decide +kernel⟩
theorem ka_q_co_X6_fault : Cond.code yX6_fault prog_1_method_22_code 2 (some FieldType.int) ∈ ka_T := List.mem_filter.mpr ⟨List.mem_of_getElem? (i := 725) (by decide +kernel), by decide +kernel⟩
theorem ka_q_ml_X6_150 : Cond.methodLink RX6 150 yX1_doAll ∈ ka_T := List.mem_filter.mpr ⟨List.mem_of_getElem? (i := 726) (by decide +kernel), by decide +kernel⟩
theorem ka_q_im_X1_doAll : Cond.instanceMethod yX1_doAll ∈ ka_T := List.mem_filter.mpr ⟨List.mem_of_getElem? (i := 727) (by decide +kernel), by decide +kernel⟩
theorem ka_q_se_X1_doAll : Cond.selects RX1 yX1_doAll yX1_doAll ∈ ka_T := List.mem_filter.mpr ⟨List.mem_of_getElem? (i := 728) (by decide +kernel), by decide +kernel⟩
theorem ka_q_co_X1_doAll : Cond.code yX1_doAll prog_3_method_10_code 5 none ∈ ka_T := List.mem_filter.mpr ⟨List.mem_of_getElem? (i := 729) (by decide +kernel), by decide +kernel⟩
theorem ka_q_ml_X1_43 : Cond.methodLink RX1 43 yX1_hasFault ∈ ka_T := List.mem_filter.mpr ⟨List.mem_of_getElem? (i := 730) (by decide +kernel), by decide +kernel⟩
theorem ka_q_im_X1_hasFault : Cond.instanceMethod yX1_hasFault ∈ ka_T := List.mem_filter.mpr ⟨List.mem_of_getElem? (i := 731) (by decide +kernel), by decide +kernel⟩
theorem ka_q_se_X1_hasFault : Cond.selects RX1 yX1_hasFault yX1_hasFault ∈ ka_T := List.mem_filter.mpr ⟨List.mem_of_getElem? (i := 732) (by decide +kernel), by decide +kernel⟩
theorem ka_q_co_X1_hasFault : Cond.code yX1_hasFault prog_3_method_4_code 1 (some FieldType.boolean) ∈ ka_T := List.mem_filter.mpr ⟨List.mem_of_getElem? (i := 733) (by decide +kernel), by decide +kernel⟩
theorem ka_q_ml_X1_47 : Cond.methodLink RX1 47 yX1_readOrder ∈ ka_T := List.mem_filter.mpr ⟨List.mem_of_getElem? (i := 734) (by decide +kernel), by decide +kernel⟩
theorem ka_q_im_X1_readOrder : Cond.instanceMethod yX1_readOrder ∈ ka_T := List.mem_filter.mpr ⟨List.mem_of_getElem? (i := 736) (by decide +kernel), by decide +kernel⟩
theorem ka_q_co_X1_readOrder : Cond.code yX1_readOrder prog_3_method_13_code 3 (some FieldType.boolean) ∈ ka_T := List.mem_filter.mpr ⟨List.mem_of_getElem? (i := 737) (by decide +kernel), by decide +kernel⟩
theorem ka_q_ml_X1_87 : Cond.methodLink RX1 87 yX1_signAt ∈ ka_T := List.mem_filter.mpr ⟨List.mem_of_getElem? (i := 738) (by decide +kernel), by decide +kernel⟩
theorem ka_q_im_X1_signAt : Cond.instanceMethod yX1_signAt ∈ ka_T := List.mem_filter.mpr ⟨List.mem_of_getElem? (i := 740) (by decide +kernel), by decide +kernel⟩
theorem ka_q_co_X1_signAt : Cond.code yX1_signAt prog_3_method_17_code 2 (some FieldType.int) ∈ ka_T := List.mem_filter.mpr ⟨List.mem_of_getElem? (i := 741) (by decide +kernel), by decide +kernel⟩
theorem ka_q_ml_X1_90 : Cond.methodLink RX1 90 yX1_numbersOf ∈ ka_T := List.mem_filter.mpr ⟨List.mem_of_getElem? (i := 742) (by decide +kernel), by decide +kernel⟩
theorem ka_q_st_X1_numbersOf : Cond.static yX1_numbersOf ∈ ka_T := List.mem_filter.mpr ⟨List.mem_of_getElem? (i := 743) (by decide +kernel), by decide +kernel⟩
theorem ka_q_co_X1_numbersOf : Cond.code yX1_numbersOf prog_3_method_14_code 1 (some FieldType.int) ∈ ka_T := List.mem_filter.mpr ⟨List.mem_of_getElem? (i := 744) (by decide +kernel), by decide +kernel⟩
theorem ka_q_ml_X1_93 : Cond.methodLink RX1 93 yX1_readSign ∈ ka_T := List.mem_filter.mpr ⟨List.mem_of_getElem? (i := 745) (by decide +kernel), by decide +kernel⟩
theorem ka_q_im_X1_readSign : Cond.instanceMethod yX1_readSign ∈ ka_T := List.mem_filter.mpr ⟨List.mem_of_getElem? (i := 747) (by decide +kernel), by decide +kernel⟩
theorem ka_q_co_X1_readSign : Cond.code yX1_readSign prog_3_method_15_code 2 (some FieldType.boolean) ∈ ka_T := List.mem_filter.mpr ⟨List.mem_of_getElem? (i := 748) (by decide +kernel), by decide +kernel⟩
theorem ka_q_ml_X1_96 : Cond.methodLink RX1 96 yX1_readNumber ∈ ka_T := List.mem_filter.mpr ⟨List.mem_of_getElem? (i := 749) (by decide +kernel), by decide +kernel⟩
theorem ka_q_im_X1_readNumber : Cond.instanceMethod yX1_readNumber ∈ ka_T := List.mem_filter.mpr ⟨List.mem_of_getElem? (i := 751) (by decide +kernel), by decide +kernel⟩
theorem ka_q_co_X1_readNumber : Cond.code yX1_readNumber prog_3_method_16_code 3 (some FieldType.boolean) ∈ ka_T := List.mem_filter.mpr ⟨List.mem_of_getElem? (i := 752) (by decide +kernel), by decide +kernel⟩
theorem ka_q_ml_X1_99 : Cond.methodLink RX1 99 yX1_isDigit ∈ ka_T := List.mem_filter.mpr ⟨List.mem_of_getElem? (i := 753) (by decide +kernel), by decide +kernel⟩
theorem ka_q_st_X1_isDigit : Cond.static yX1_isDigit ∈ ka_T := List.mem_filter.mpr ⟨List.mem_of_getElem? (i := 754) (by decide +kernel), by decide +kernel⟩
theorem ka_q_co_X1_isDigit : Cond.code yX1_isDigit prog_3_method_18_code 1 (some FieldType.boolean) ∈ ka_T := List.mem_filter.mpr ⟨List.mem_of_getElem? (i := 755) (by decide +kernel), by decide +kernel⟩
theorem ka_q_ml_X1_50 : Cond.methodLink RX1 50 yX1_blame ∈ ka_T := List.mem_filter.mpr ⟨List.mem_of_getElem? (i := 756) (by decide +kernel), by decide +kernel⟩
theorem ka_q_im_X1_blame : Cond.instanceMethod yX1_blame ∈ ka_T := List.mem_filter.mpr ⟨List.mem_of_getElem? (i := 758) (by decide +kernel), by decide +kernel⟩
theorem ka_q_co_X1_blame : Cond.code yX1_blame prog_3_method_11_code 4 none ∈ ka_T := List.mem_filter.mpr ⟨List.mem_of_getElem? (i := 759) (by decide +kernel), by decide +kernel⟩
theorem ka_q_ml_X1_54 : Cond.methodLink RX1 54 yX1_doOrder ∈ ka_T := List.mem_filter.mpr ⟨List.mem_of_getElem? (i := 760) (by decide +kernel), by decide +kernel⟩
theorem ka_q_im_X1_doOrder : Cond.instanceMethod yX1_doOrder ∈ ka_T := List.mem_filter.mpr ⟨List.mem_of_getElem? (i := 762) (by decide +kernel), by decide +kernel⟩
theorem ka_q_co_X1_doOrder : Cond.code yX1_doOrder prog_3_method_12_code 2 (some FieldType.int) ∈ ka_T := List.mem_filter.mpr ⟨List.mem_of_getElem? (i := 763) (by decide +kernel), by decide +kernel⟩
theorem ka_q_ml_X1_65 : Cond.methodLink RX1 65 yX3_addWagon ∈ ka_T := List.mem_filter.mpr ⟨List.mem_of_getElem? (i := 764) (by decide +kernel), by decide +kernel⟩
theorem ka_q_ml_X1_71 : Cond.methodLink RX1 71 yX3_loadWagon ∈ ka_T := List.mem_filter.mpr ⟨List.mem_of_getElem? (i := 765) (by decide +kernel), by decide +kernel⟩
theorem ka_q_ml_X1_74 : Cond.methodLink RX1 74 yX3_unloadWagon ∈ ka_T := List.mem_filter.mpr ⟨List.mem_of_getElem? (i := 766) (by decide +kernel), by decide +kernel⟩
theorem ka_q_ml_X1_77 : Cond.methodLink RX1 77 yX3_repairWagon ∈ ka_T := List.mem_filter.mpr ⟨List.mem_of_getElem? (i := 767) (by decide +kernel), by decide +kernel⟩
theorem ka_q_ml_X1_80 : Cond.methodLink RX1 80 yX3_sendTrain ∈ ka_T := List.mem_filter.mpr ⟨List.mem_of_getElem? (i := 768) (by decide +kernel), by decide +kernel⟩
theorem ka_q_ml_X1_84 : Cond.methodLink RX1 84 yX3_passDays ∈ ka_T := List.mem_filter.mpr ⟨List.mem_of_getElem? (i := 769) (by decide +kernel), by decide +kernel⟩
theorem ka_q_ml_X6_153 : Cond.methodLink RX6 153 yX1_hasFault ∈ ka_T := List.mem_filter.mpr ⟨List.mem_of_getElem? (i := 771) (by decide +kernel), by decide +kernel⟩
theorem ka_q_ml_X6_157 : Cond.methodLink RX6 157 yX1_position ∈ ka_T := List.mem_filter.mpr ⟨List.mem_of_getElem? (i := 772) (by decide +kernel), by decide +kernel⟩
theorem ka_q_im_X1_position : Cond.instanceMethod yX1_position ∈ ka_T := List.mem_filter.mpr ⟨List.mem_of_getElem? (i := 773) (by decide +kernel), by decide +kernel⟩
theorem ka_q_se_X1_position : Cond.selects RX1 yX1_position yX1_position ∈ ka_T := List.mem_filter.mpr ⟨List.mem_of_getElem? (i := 774) (by decide +kernel), by decide +kernel⟩
theorem ka_q_co_X1_position : Cond.code yX1_position prog_3_method_5_code 1 (some FieldType.int) ∈ ka_T := List.mem_filter.mpr ⟨List.mem_of_getElem? (i := 775) (by decide +kernel), by decide +kernel⟩
theorem ka_q_ml_X6_160 : Cond.methodLink RX6 160 yX1_reason ∈ ka_T := List.mem_filter.mpr ⟨List.mem_of_getElem? (i := 776) (by decide +kernel), by decide +kernel⟩
theorem ka_q_im_X1_reason : Cond.instanceMethod yX1_reason ∈ ka_T := List.mem_filter.mpr ⟨List.mem_of_getElem? (i := 777) (by decide +kernel), by decide +kernel⟩
theorem ka_q_se_X1_reason : Cond.selects RX1 yX1_reason yX1_reason ∈ ka_T := List.mem_filter.mpr ⟨List.mem_of_getElem? (i := 778) (by decide +kernel), by decide +kernel⟩
theorem ka_q_co_X1_reason : Cond.code yX1_reason prog_3_method_6_code 1 (some FieldType.int) ∈ ka_T := List.mem_filter.mpr ⟨List.mem_of_getElem? (i := 779) (by decide +kernel), by decide +kernel⟩
theorem ka_q_ml_X6_163 : Cond.methodLink RX6 163 yX1_cause ∈ ka_T := List.mem_filter.mpr ⟨List.mem_of_getElem? (i := 780) (by decide +kernel), by decide +kernel⟩
theorem ka_q_im_X1_cause : Cond.instanceMethod yX1_cause ∈ ka_T := List.mem_filter.mpr ⟨List.mem_of_getElem? (i := 781) (by decide +kernel), by decide +kernel⟩
theorem ka_q_se_X1_cause : Cond.selects RX1 yX1_cause yX1_cause ∈ ka_T := List.mem_filter.mpr ⟨List.mem_of_getElem? (i := 782) (by decide +kernel), by decide +kernel⟩
theorem ka_q_co_X1_cause : Cond.code yX1_cause prog_3_method_7_code 1 (some FieldType.int) ∈ ka_T := List.mem_filter.mpr ⟨List.mem_of_getElem? (i := 783) (by decide +kernel), by decide +kernel⟩
theorem ka_q_ml_L_102 : Cond.methodLink RL 102 yX6_play ∈ ka_T := List.mem_filter.mpr ⟨List.mem_of_getElem? (i := 784) (by decide +kernel), by decide +kernel⟩
theorem ka_q_im_X6_play : Cond.instanceMethod yX6_play ∈ ka_T := List.mem_filter.mpr ⟨List.mem_of_getElem? (i := 785) (by decide +kernel), by decide +kernel⟩
theorem ka_q_se_X6_play : Cond.selects RX6 yX6_play yX6_play ∈ ka_T := List.mem_filter.mpr ⟨List.mem_of_getElem? (i := 786) (by decide +kernel), by decide +kernel⟩
theorem ka_q_co_X6_play : Cond.code yX6_play prog_1_method_23_code 1 (some FieldType.int) ∈ ka_T := List.mem_filter.mpr ⟨List.mem_of_getElem? (i := 787) (by decide +kernel), by decide +kernel⟩
theorem ka_q_ml_X6_166 : Cond.methodLink RX6 166 yX1_orders ∈ ka_T := List.mem_filter.mpr ⟨List.mem_of_getElem? (i := 788) (by decide +kernel), by decide +kernel⟩
theorem ka_q_im_X1_orders : Cond.instanceMethod yX1_orders ∈ ka_T := List.mem_filter.mpr ⟨List.mem_of_getElem? (i := 789) (by decide +kernel), by decide +kernel⟩
theorem ka_q_se_X1_orders : Cond.selects RX1 yX1_orders yX1_orders ∈ ka_T := List.mem_filter.mpr ⟨List.mem_of_getElem? (i := 790) (by decide +kernel), by decide +kernel⟩
theorem ka_q_co_X1_orders : Cond.code yX1_orders prog_3_method_3_code 1 (some FieldType.int) ∈ ka_T := List.mem_filter.mpr ⟨List.mem_of_getElem? (i := 791) (by decide +kernel), by decide +kernel⟩
theorem ka_q_cl_L_10 : Cond.classLink RL 10 RX7 ∈ ka_T := List.mem_filter.mpr ⟨List.mem_of_getElem? (i := 792) (by decide +kernel), by decide +kernel⟩
theorem ka_q_it_X7 : Cond.instantiable RX7 13 ∈ ka_T := List.mem_filter.mpr ⟨List.mem_of_getElem? (i := 793) (by decide +kernel), by decide +kernel⟩
theorem ka_q_ml_L_12 : Cond.methodLink RL 12 yX7_init ∈ ka_T := List.mem_filter.mpr ⟨List.mem_of_getElem? (i := 794) (by decide +kernel), by decide +kernel⟩
theorem ka_q_im_X7_init : Cond.instanceMethod yX7_init ∈ ka_T := List.mem_filter.mpr ⟨List.mem_of_getElem? (i := 795) (by decide +kernel), by decide +kernel⟩
theorem ka_q_co_X7_init : Cond.code yX7_init prog_9_method_1_code 2 none ∈ ka_T := List.mem_filter.mpr ⟨List.mem_of_getElem? (i := 796) (by decide +kernel), by decide +kernel⟩
theorem ka_q_ml_X7_1 : Cond.methodLink RX7 1 objectInit ∈ ka_T := List.mem_filter.mpr ⟨List.mem_of_getElem? (i := 797) (by decide +kernel), by decide +kernel⟩
theorem ka_q_fl_X7_7 : Cond.fieldLink RX7 7 RX7 "s" "[I" ∈ ka_T := List.mem_filter.mpr ⟨List.mem_of_getElem? (i := 798) (by decide +kernel), by decide +kernel⟩
theorem ka_q_fl_X7_13 : Cond.fieldLink RX7 13 RX7 "begun" "[I" ∈ ka_T := List.mem_filter.mpr ⟨List.mem_of_getElem? (i := 799) (by decide +kernel), by decide +kernel⟩
theorem ka_q_fl_X7_16 : Cond.fieldLink RX7 16 RX7 "aside" "[I" ∈ ka_T := List.mem_filter.mpr ⟨List.mem_of_getElem? (i := 800) (by decide +kernel), by decide +kernel⟩
theorem ka_q_fl_X7_19 : Cond.fieldLink RX7 19 RX7 "past" "[I" ∈ ka_T := List.mem_filter.mpr ⟨List.mem_of_getElem? (i := 801) (by decide +kernel), by decide +kernel⟩
theorem ka_q_fl_X7_32 : Cond.fieldLink RX7 32 RX7 "states" "I" ∈ ka_T := List.mem_filter.mpr ⟨List.mem_of_getElem? (i := 802) (by decide +kernel), by decide +kernel⟩
theorem ka_q_fl_X7_22 : Cond.fieldLink RX7 22 RX7 "text" "[I" ∈ ka_T := List.mem_filter.mpr ⟨List.mem_of_getElem? (i := 803) (by decide +kernel), by decide +kernel⟩
theorem ka_q_fl_X7_172 : Cond.fieldLink RX7 172 RX7 "length" "I" ∈ ka_T := List.mem_filter.mpr ⟨List.mem_of_getElem? (i := 804) (by decide +kernel), by decide +kernel⟩
theorem ka_q_fl_X7_175 : Cond.fieldLink RX7 175 RX7 "at" "I" ∈ ka_T := List.mem_filter.mpr ⟨List.mem_of_getElem? (i := 805) (by decide +kernel), by decide +kernel⟩
theorem ka_q_fl_X7_192 : Cond.fieldLink RX7 192 RX7 "from" "I" ∈ ka_T := List.mem_filter.mpr ⟨List.mem_of_getElem? (i := 806) (by decide +kernel), by decide +kernel⟩
theorem ka_q_fl_X7_189 : Cond.fieldLink RX7 189 RX7 "done" "I" ∈ ka_T := List.mem_filter.mpr ⟨List.mem_of_getElem? (i := 807) (by decide +kernel), by decide +kernel⟩
theorem ka_q_fl_X7_207 : Cond.fieldLink RX7 207 RX7 "told" "I" ∈ ka_T := List.mem_filter.mpr ⟨List.mem_of_getElem? (i := 808) (by decide +kernel), by decide +kernel⟩
theorem ka_q_fl_X7_181 : Cond.fieldLink RX7 181 RX7 "isForm" "Z" ∈ ka_T := List.mem_filter.mpr ⟨List.mem_of_getElem? (i := 809) (by decide +kernel), by decide +kernel⟩
theorem ka_q_fl_X7_25 : Cond.fieldLink RX7 25 RX7 "numbers" "[I" ∈ ka_T := List.mem_filter.mpr ⟨List.mem_of_getElem? (i := 810) (by decide +kernel), by decide +kernel⟩
theorem ka_q_ml_L_17 : Cond.methodLink RL 17 yX7_mine ∈ ka_T := List.mem_filter.mpr ⟨List.mem_of_getElem? (i := 838) (by decide +kernel), by decide +kernel⟩
theorem ka_q_im_X7_mine : Cond.instanceMethod yX7_mine ∈ ka_T := List.mem_filter.mpr ⟨List.mem_of_getElem? (i := 839) (by decide +kernel), by decide +kernel⟩
theorem ka_q_se_X7_mine : Cond.selects RX7 yX7_mine yX7_mine ∈ ka_T := List.mem_filter.mpr ⟨List.mem_of_getElem? (i := 840) (by decide +kernel), by decide +kernel⟩
theorem ka_q_co_X7_mine : Cond.code yX7_mine prog_9_method_31_code 2 (some FieldType.int) ∈ ka_T := List.mem_filter.mpr ⟨List.mem_of_getElem? (i := 841) (by decide +kernel), by decide +kernel⟩
theorem ka_q_ml_X7_104 : Cond.methodLink RX7 104 yX7_begins ∈ ka_T := List.mem_filter.mpr ⟨List.mem_of_getElem? (i := 842) (by decide +kernel), by decide +kernel⟩
theorem ka_q_im_X7_begins : Cond.instanceMethod yX7_begins ∈ ka_T := List.mem_filter.mpr ⟨List.mem_of_getElem? (i := 844) (by decide +kernel), by decide +kernel⟩
theorem ka_q_co_X7_begins : Cond.code yX7_begins prog_9_method_4_code 2 none ∈ ka_T := List.mem_filter.mpr ⟨List.mem_of_getElem? (i := 845) (by decide +kernel), by decide +kernel⟩
theorem ka_q_ml_X7_36 : Cond.methodLink RX7 36 yX7_in ∈ ka_T := List.mem_filter.mpr ⟨List.mem_of_getElem? (i := 846) (by decide +kernel), by decide +kernel⟩
theorem ka_q_st_X7_in : Cond.static yX7_in ∈ ka_T := List.mem_filter.mpr ⟨List.mem_of_getElem? (i := 847) (by decide +kernel), by decide +kernel⟩
theorem ka_q_co_X7_in : Cond.code yX7_in prog_9_method_3_code 3 (some FieldType.boolean) ∈ ka_T := List.mem_filter.mpr ⟨List.mem_of_getElem? (i := 848) (by decide +kernel), by decide +kernel⟩
theorem ka_q_cn_X7_28 : Cond.constant RX7 28 (-2000000001) ∈ ka_T := List.mem_filter.mpr ⟨List.mem_of_getElem? (i := 849) (by decide +kernel), by decide +kernel⟩
theorem ka_q_cn_X7_85 : Cond.constant RX7 85 (-2000000003) ∈ ka_T := List.mem_filter.mpr ⟨List.mem_of_getElem? (i := 850) (by decide +kernel), by decide +kernel⟩
theorem ka_q_ml_X7_107 : Cond.methodLink RX7 107 yX7_acted ∈ ka_T := List.mem_filter.mpr ⟨List.mem_of_getElem? (i := 851) (by decide +kernel), by decide +kernel⟩
theorem ka_q_im_X7_acted : Cond.instanceMethod yX7_acted ∈ ka_T := List.mem_filter.mpr ⟨List.mem_of_getElem? (i := 853) (by decide +kernel), by decide +kernel⟩
theorem ka_q_co_X7_acted : Cond.code yX7_acted prog_9_method_6_code 3 (some FieldType.int) ∈ ka_T := List.mem_filter.mpr ⟨List.mem_of_getElem? (i := 854) (by decide +kernel), by decide +kernel⟩
theorem ka_q_ml_X7_29 : Cond.methodLink RX7 29 yX7_returns ∈ ka_T := List.mem_filter.mpr ⟨List.mem_of_getElem? (i := 855) (by decide +kernel), by decide +kernel⟩
theorem ka_q_im_X7_returns : Cond.instanceMethod yX7_returns ∈ ka_T := List.mem_filter.mpr ⟨List.mem_of_getElem? (i := 857) (by decide +kernel), by decide +kernel⟩
theorem ka_q_co_X7_returns : Cond.code yX7_returns prog_9_method_5_code 2 none ∈ ka_T := List.mem_filter.mpr ⟨List.mem_of_getElem? (i := 858) (by decide +kernel), by decide +kernel⟩
theorem ka_q_ml_L_22 : Cond.methodLink RL 22 yX7_leg ∈ ka_T := List.mem_filter.mpr ⟨List.mem_of_getElem? (i := 859) (by decide +kernel), by decide +kernel⟩
theorem ka_q_im_X7_leg : Cond.instanceMethod yX7_leg ∈ ka_T := List.mem_filter.mpr ⟨List.mem_of_getElem? (i := 860) (by decide +kernel), by decide +kernel⟩
theorem ka_q_se_X7_leg : Cond.selects RX7 yX7_leg yX7_leg ∈ ka_T := List.mem_filter.mpr ⟨List.mem_of_getElem? (i := 861) (by decide +kernel), by decide +kernel⟩
theorem ka_q_co_X7_leg : Cond.code yX7_leg prog_9_method_32_code 5 (some FieldType.int) ∈ ka_T := List.mem_filter.mpr ⟨List.mem_of_getElem? (i := 862) (by decide +kernel), by decide +kernel⟩
theorem ka_q_ml_X7_98 : Cond.methodLink RX7 98 yX7_isPlace ∈ ka_T := List.mem_filter.mpr ⟨List.mem_of_getElem? (i := 863) (by decide +kernel), by decide +kernel⟩
theorem ka_q_im_X7_isPlace : Cond.instanceMethod yX7_isPlace ∈ ka_T := List.mem_filter.mpr ⟨List.mem_of_getElem? (i := 865) (by decide +kernel), by decide +kernel⟩
theorem ka_q_co_X7_isPlace : Cond.code yX7_isPlace prog_9_method_7_code 2 (some FieldType.boolean) ∈ ka_T := List.mem_filter.mpr ⟨List.mem_of_getElem? (i := 866) (by decide +kernel), by decide +kernel⟩
theorem ka_q_ml_L_26 : Cond.methodLink RL 26 yX7_wagon ∈ ka_T := List.mem_filter.mpr ⟨List.mem_of_getElem? (i := 867) (by decide +kernel), by decide +kernel⟩
theorem ka_q_im_X7_wagon : Cond.instanceMethod yX7_wagon ∈ ka_T := List.mem_filter.mpr ⟨List.mem_of_getElem? (i := 868) (by decide +kernel), by decide +kernel⟩
theorem ka_q_se_X7_wagon : Cond.selects RX7 yX7_wagon yX7_wagon ∈ ka_T := List.mem_filter.mpr ⟨List.mem_of_getElem? (i := 869) (by decide +kernel), by decide +kernel⟩
theorem ka_q_co_X7_wagon : Cond.code yX7_wagon prog_9_method_33_code 2 (some FieldType.int) ∈ ka_T := List.mem_filter.mpr ⟨List.mem_of_getElem? (i := 870) (by decide +kernel), by decide +kernel⟩
theorem ka_q_ml_X7_110 : Cond.methodLink RX7 110 yX7_joins ∈ ka_T := List.mem_filter.mpr ⟨List.mem_of_getElem? (i := 871) (by decide +kernel), by decide +kernel⟩
theorem ka_q_im_X7_joins : Cond.instanceMethod yX7_joins ∈ ka_T := List.mem_filter.mpr ⟨List.mem_of_getElem? (i := 873) (by decide +kernel), by decide +kernel⟩
theorem ka_q_co_X7_joins : Cond.code yX7_joins prog_9_method_25_code 4 (some FieldType.int) ∈ ka_T := List.mem_filter.mpr ⟨List.mem_of_getElem? (i := 874) (by decide +kernel), by decide +kernel⟩
theorem ka_q_ml_X7_82 : Cond.methodLink RX7 82 yX7_isMine ∈ ka_T := List.mem_filter.mpr ⟨List.mem_of_getElem? (i := 875) (by decide +kernel), by decide +kernel⟩
theorem ka_q_im_X7_isMine : Cond.instanceMethod yX7_isMine ∈ ka_T := List.mem_filter.mpr ⟨List.mem_of_getElem? (i := 877) (by decide +kernel), by decide +kernel⟩
theorem ka_q_co_X7_isMine : Cond.code yX7_isMine prog_9_method_8_code 2 (some FieldType.boolean) ∈ ka_T := List.mem_filter.mpr ⟨List.mem_of_getElem? (i := 878) (by decide +kernel), by decide +kernel⟩
theorem ka_q_ml_X7_63 : Cond.methodLink RX7 63 yX7_lays ∈ ka_T := List.mem_filter.mpr ⟨List.mem_of_getElem? (i := 879) (by decide +kernel), by decide +kernel⟩
theorem ka_q_im_X7_lays : Cond.instanceMethod yX7_lays ∈ ka_T := List.mem_filter.mpr ⟨List.mem_of_getElem? (i := 881) (by decide +kernel), by decide +kernel⟩
theorem ka_q_co_X7_lays : Cond.code yX7_lays prog_9_method_13_code 4 none ∈ ka_T := List.mem_filter.mpr ⟨List.mem_of_getElem? (i := 882) (by decide +kernel), by decide +kernel⟩
theorem ka_q_ml_L_30 : Cond.methodLink RL 30 yX7_load ∈ ka_T := List.mem_filter.mpr ⟨List.mem_of_getElem? (i := 883) (by decide +kernel), by decide +kernel⟩
theorem ka_q_im_X7_load : Cond.instanceMethod yX7_load ∈ ka_T := List.mem_filter.mpr ⟨List.mem_of_getElem? (i := 884) (by decide +kernel), by decide +kernel⟩
theorem ka_q_se_X7_load : Cond.selects RX7 yX7_load yX7_load ∈ ka_T := List.mem_filter.mpr ⟨List.mem_of_getElem? (i := 885) (by decide +kernel), by decide +kernel⟩
theorem ka_q_co_X7_load : Cond.code yX7_load prog_9_method_34_code 2 (some FieldType.int) ∈ ka_T := List.mem_filter.mpr ⟨List.mem_of_getElem? (i := 886) (by decide +kernel), by decide +kernel⟩
theorem ka_q_ml_X7_113 : Cond.methodLink RX7 113 yX7_loads ∈ ka_T := List.mem_filter.mpr ⟨List.mem_of_getElem? (i := 887) (by decide +kernel), by decide +kernel⟩
theorem ka_q_im_X7_loads : Cond.instanceMethod yX7_loads ∈ ka_T := List.mem_filter.mpr ⟨List.mem_of_getElem? (i := 889) (by decide +kernel), by decide +kernel⟩
theorem ka_q_co_X7_loads : Cond.code yX7_loads prog_9_method_26_code 3 (some FieldType.int) ∈ ka_T := List.mem_filter.mpr ⟨List.mem_of_getElem? (i := 890) (by decide +kernel), by decide +kernel⟩
theorem ka_q_ml_X7_86 : Cond.methodLink RX7 86 yX7_isWagon ∈ ka_T := List.mem_filter.mpr ⟨List.mem_of_getElem? (i := 891) (by decide +kernel), by decide +kernel⟩
theorem ka_q_im_X7_isWagon : Cond.instanceMethod yX7_isWagon ∈ ka_T := List.mem_filter.mpr ⟨List.mem_of_getElem? (i := 893) (by decide +kernel), by decide +kernel⟩
theorem ka_q_co_X7_isWagon : Cond.code yX7_isWagon prog_9_method_9_code 2 (some FieldType.boolean) ∈ ka_T := List.mem_filter.mpr ⟨List.mem_of_getElem? (i := 894) (by decide +kernel), by decide +kernel⟩
theorem ka_q_ml_X7_89 : Cond.methodLink RX7 89 yX7_whyNot ∈ ka_T := List.mem_filter.mpr ⟨List.mem_of_getElem? (i := 895) (by decide +kernel), by decide +kernel⟩
theorem ka_q_im_X7_whyNot : Cond.instanceMethod yX7_whyNot ∈ ka_T := List.mem_filter.mpr ⟨List.mem_of_getElem? (i := 897) (by decide +kernel), by decide +kernel⟩
theorem ka_q_co_X7_whyNot : Cond.code yX7_whyNot prog_9_method_16_code 3 (some FieldType.int) ∈ ka_T := List.mem_filter.mpr ⟨List.mem_of_getElem? (i := 898) (by decide +kernel), by decide +kernel⟩
theorem ka_q_ml_X7_40 : Cond.methodLink RX7 40 yX7_of ∈ ka_T := List.mem_filter.mpr ⟨List.mem_of_getElem? (i := 899) (by decide +kernel), by decide +kernel⟩
theorem ka_q_im_X7_of : Cond.instanceMethod yX7_of ∈ ka_T := List.mem_filter.mpr ⟨List.mem_of_getElem? (i := 901) (by decide +kernel), by decide +kernel⟩
theorem ka_q_co_X7_of : Cond.code yX7_of prog_9_method_12_code 3 (some FieldType.int) ∈ ka_T := List.mem_filter.mpr ⟨List.mem_of_getElem? (i := 902) (by decide +kernel), by decide +kernel⟩
theorem ka_q_ml_X7_44 : Cond.methodLink RX7 44 yX7_isDue ∈ ka_T := List.mem_filter.mpr ⟨List.mem_of_getElem? (i := 903) (by decide +kernel), by decide +kernel⟩
theorem ka_q_im_X7_isDue : Cond.instanceMethod yX7_isDue ∈ ka_T := List.mem_filter.mpr ⟨List.mem_of_getElem? (i := 905) (by decide +kernel), by decide +kernel⟩
theorem ka_q_co_X7_isDue : Cond.code yX7_isDue prog_9_method_15_code 2 (some FieldType.boolean) ∈ ka_T := List.mem_filter.mpr ⟨List.mem_of_getElem? (i := 906) (by decide +kernel), by decide +kernel⟩
theorem ka_q_ml_X7_48 : Cond.methodLink RX7 48 yX7_has ∈ ka_T := List.mem_filter.mpr ⟨List.mem_of_getElem? (i := 907) (by decide +kernel), by decide +kernel⟩
theorem ka_q_im_X7_has : Cond.instanceMethod yX7_has ∈ ka_T := List.mem_filter.mpr ⟨List.mem_of_getElem? (i := 909) (by decide +kernel), by decide +kernel⟩
theorem ka_q_co_X7_has : Cond.code yX7_has prog_9_method_10_code 3 (some FieldType.int) ∈ ka_T := List.mem_filter.mpr ⟨List.mem_of_getElem? (i := 910) (by decide +kernel), by decide +kernel⟩
theorem ka_q_cn_X7_93 : Cond.constant RX7 93 (-2000000002) ∈ ka_T := List.mem_filter.mpr ⟨List.mem_of_getElem? (i := 911) (by decide +kernel), by decide +kernel⟩
theorem ka_q_ml_X7_51 : Cond.methodLink RX7 51 yX7_adds ∈ ka_T := List.mem_filter.mpr ⟨List.mem_of_getElem? (i := 912) (by decide +kernel), by decide +kernel⟩
theorem ka_q_im_X7_adds : Cond.instanceMethod yX7_adds ∈ ka_T := List.mem_filter.mpr ⟨List.mem_of_getElem? (i := 914) (by decide +kernel), by decide +kernel⟩
theorem ka_q_co_X7_adds : Cond.code yX7_adds prog_9_method_11_code 4 none ∈ ka_T := List.mem_filter.mpr ⟨List.mem_of_getElem? (i := 915) (by decide +kernel), by decide +kernel⟩
theorem ka_q_ml_L_34 : Cond.methodLink RL 34 yX7_unload ∈ ka_T := List.mem_filter.mpr ⟨List.mem_of_getElem? (i := 916) (by decide +kernel), by decide +kernel⟩
theorem ka_q_im_X7_unload : Cond.instanceMethod yX7_unload ∈ ka_T := List.mem_filter.mpr ⟨List.mem_of_getElem? (i := 917) (by decide +kernel), by decide +kernel⟩
theorem ka_q_se_X7_unload : Cond.selects RX7 yX7_unload yX7_unload ∈ ka_T := List.mem_filter.mpr ⟨List.mem_of_getElem? (i := 918) (by decide +kernel), by decide +kernel⟩
theorem ka_q_co_X7_unload : Cond.code yX7_unload prog_9_method_35_code 2 (some FieldType.int) ∈ ka_T := List.mem_filter.mpr ⟨List.mem_of_getElem? (i := 919) (by decide +kernel), by decide +kernel⟩
theorem ka_q_ml_X7_116 : Cond.methodLink RX7 116 yX7_unloads ∈ ka_T := List.mem_filter.mpr ⟨List.mem_of_getElem? (i := 920) (by decide +kernel), by decide +kernel⟩
theorem ka_q_im_X7_unloads : Cond.instanceMethod yX7_unloads ∈ ka_T := List.mem_filter.mpr ⟨List.mem_of_getElem? (i := 922) (by decide +kernel), by decide +kernel⟩
theorem ka_q_co_X7_unloads : Cond.code yX7_unloads prog_9_method_27_code 2 (some FieldType.int) ∈ ka_T := List.mem_filter.mpr ⟨List.mem_of_getElem? (i := 923) (by decide +kernel), by decide +kernel⟩
theorem ka_q_ml_X7_94 : Cond.methodLink RX7 94 yX7_stands ∈ ka_T := List.mem_filter.mpr ⟨List.mem_of_getElem? (i := 924) (by decide +kernel), by decide +kernel⟩
theorem ka_q_im_X7_stands : Cond.instanceMethod yX7_stands ∈ ka_T := List.mem_filter.mpr ⟨List.mem_of_getElem? (i := 926) (by decide +kernel), by decide +kernel⟩
theorem ka_q_co_X7_stands : Cond.code yX7_stands prog_9_method_14_code 3 (some FieldType.boolean) ∈ ka_T := List.mem_filter.mpr ⟨List.mem_of_getElem? (i := 927) (by decide +kernel), by decide +kernel⟩
theorem ka_q_ml_X7_69 : Cond.methodLink RX7 69 yX7_pays ∈ ka_T := List.mem_filter.mpr ⟨List.mem_of_getElem? (i := 928) (by decide +kernel), by decide +kernel⟩
theorem ka_q_im_X7_pays : Cond.instanceMethod yX7_pays ∈ ka_T := List.mem_filter.mpr ⟨List.mem_of_getElem? (i := 930) (by decide +kernel), by decide +kernel⟩
theorem ka_q_co_X7_pays : Cond.code yX7_pays prog_9_method_17_code 4 none ∈ ka_T := List.mem_filter.mpr ⟨List.mem_of_getElem? (i := 931) (by decide +kernel), by decide +kernel⟩
theorem ka_q_ml_L_38 : Cond.methodLink RL 38 yX7_repair ∈ ka_T := List.mem_filter.mpr ⟨List.mem_of_getElem? (i := 932) (by decide +kernel), by decide +kernel⟩
theorem ka_q_im_X7_repair : Cond.instanceMethod yX7_repair ∈ ka_T := List.mem_filter.mpr ⟨List.mem_of_getElem? (i := 933) (by decide +kernel), by decide +kernel⟩
theorem ka_q_se_X7_repair : Cond.selects RX7 yX7_repair yX7_repair ∈ ka_T := List.mem_filter.mpr ⟨List.mem_of_getElem? (i := 934) (by decide +kernel), by decide +kernel⟩
theorem ka_q_co_X7_repair : Cond.code yX7_repair prog_9_method_36_code 2 (some FieldType.int) ∈ ka_T := List.mem_filter.mpr ⟨List.mem_of_getElem? (i := 935) (by decide +kernel), by decide +kernel⟩
theorem ka_q_ml_X7_119 : Cond.methodLink RX7 119 yX7_sends ∈ ka_T := List.mem_filter.mpr ⟨List.mem_of_getElem? (i := 936) (by decide +kernel), by decide +kernel⟩
theorem ka_q_im_X7_sends : Cond.instanceMethod yX7_sends ∈ ka_T := List.mem_filter.mpr ⟨List.mem_of_getElem? (i := 938) (by decide +kernel), by decide +kernel⟩
theorem ka_q_co_X7_sends : Cond.code yX7_sends prog_9_method_28_code 3 (some FieldType.int) ∈ ka_T := List.mem_filter.mpr ⟨List.mem_of_getElem? (i := 939) (by decide +kernel), by decide +kernel⟩
theorem ka_q_ml_X7_59 : Cond.methodLink RX7 59 yX7_inRepair ∈ ka_T := List.mem_filter.mpr ⟨List.mem_of_getElem? (i := 940) (by decide +kernel), by decide +kernel⟩
theorem ka_q_im_X7_inRepair : Cond.instanceMethod yX7_inRepair ∈ ka_T := List.mem_filter.mpr ⟨List.mem_of_getElem? (i := 942) (by decide +kernel), by decide +kernel⟩
theorem ka_q_co_X7_inRepair : Cond.code yX7_inRepair prog_9_method_18_code 4 (some FieldType.int) ∈ ka_T := List.mem_filter.mpr ⟨List.mem_of_getElem? (i := 943) (by decide +kernel), by decide +kernel⟩
theorem ka_q_ml_X7_66 : Cond.methodLink RX7 66 yX7_fillsShop ∈ ka_T := List.mem_filter.mpr ⟨List.mem_of_getElem? (i := 944) (by decide +kernel), by decide +kernel⟩
theorem ka_q_im_X7_fillsShop : Cond.instanceMethod yX7_fillsShop ∈ ka_T := List.mem_filter.mpr ⟨List.mem_of_getElem? (i := 946) (by decide +kernel), by decide +kernel⟩
theorem ka_q_co_X7_fillsShop : Cond.code yX7_fillsShop prog_9_method_20_code 2 none ∈ ka_T := List.mem_filter.mpr ⟨List.mem_of_getElem? (i := 947) (by decide +kernel), by decide +kernel⟩
theorem ka_q_ml_X7_55 : Cond.methodLink RX7 55 yX7_firstWaiting ∈ ka_T := List.mem_filter.mpr ⟨List.mem_of_getElem? (i := 948) (by decide +kernel), by decide +kernel⟩
theorem ka_q_im_X7_firstWaiting : Cond.instanceMethod yX7_firstWaiting ∈ ka_T := List.mem_filter.mpr ⟨List.mem_of_getElem? (i := 950) (by decide +kernel), by decide +kernel⟩
theorem ka_q_co_X7_firstWaiting : Cond.code yX7_firstWaiting prog_9_method_19_code 4 (some FieldType.int) ∈ ka_T := List.mem_filter.mpr ⟨List.mem_of_getElem? (i := 951) (by decide +kernel), by decide +kernel⟩
theorem ka_q_ml_L_43 : Cond.methodLink RL 43 yX7_train ∈ ka_T := List.mem_filter.mpr ⟨List.mem_of_getElem? (i := 952) (by decide +kernel), by decide +kernel⟩
theorem ka_q_im_X7_train : Cond.instanceMethod yX7_train ∈ ka_T := List.mem_filter.mpr ⟨List.mem_of_getElem? (i := 953) (by decide +kernel), by decide +kernel⟩
theorem ka_q_se_X7_train : Cond.selects RX7 yX7_train yX7_train ∈ ka_T := List.mem_filter.mpr ⟨List.mem_of_getElem? (i := 954) (by decide +kernel), by decide +kernel⟩
theorem ka_q_co_X7_train : Cond.code yX7_train prog_9_method_37_code 5 (some FieldType.int) ∈ ka_T := List.mem_filter.mpr ⟨List.mem_of_getElem? (i := 955) (by decide +kernel), by decide +kernel⟩
theorem ka_q_ml_X7_122 : Cond.methodLink RX7 122 yX7_trains ∈ ka_T := List.mem_filter.mpr ⟨List.mem_of_getElem? (i := 956) (by decide +kernel), by decide +kernel⟩
theorem ka_q_im_X7_trains : Cond.instanceMethod yX7_trains ∈ ka_T := List.mem_filter.mpr ⟨List.mem_of_getElem? (i := 958) (by decide +kernel), by decide +kernel⟩
theorem ka_q_co_X7_trains : Cond.code yX7_trains prog_9_method_29_code 10 (some FieldType.int) ∈ ka_T := List.mem_filter.mpr ⟨List.mem_of_getElem? (i := 959) (by decide +kernel), by decide +kernel⟩
theorem ka_q_ml_L_47 : Cond.methodLink RL 47 yX7_pass ∈ ka_T := List.mem_filter.mpr ⟨List.mem_of_getElem? (i := 960) (by decide +kernel), by decide +kernel⟩
theorem ka_q_im_X7_pass : Cond.instanceMethod yX7_pass ∈ ka_T := List.mem_filter.mpr ⟨List.mem_of_getElem? (i := 961) (by decide +kernel), by decide +kernel⟩
theorem ka_q_se_X7_pass : Cond.selects RX7 yX7_pass yX7_pass ∈ ka_T := List.mem_filter.mpr ⟨List.mem_of_getElem? (i := 962) (by decide +kernel), by decide +kernel⟩
theorem ka_q_co_X7_pass : Cond.code yX7_pass prog_9_method_38_code 2 (some FieldType.int) ∈ ka_T := List.mem_filter.mpr ⟨List.mem_of_getElem? (i := 963) (by decide +kernel), by decide +kernel⟩
theorem ka_q_ml_X7_126 : Cond.methodLink RX7 126 yX7_passes ∈ ka_T := List.mem_filter.mpr ⟨List.mem_of_getElem? (i := 964) (by decide +kernel), by decide +kernel⟩
theorem ka_q_im_X7_passes : Cond.instanceMethod yX7_passes ∈ ka_T := List.mem_filter.mpr ⟨List.mem_of_getElem? (i := 966) (by decide +kernel), by decide +kernel⟩
theorem ka_q_co_X7_passes : Cond.code yX7_passes prog_9_method_30_code 4 (some FieldType.int) ∈ ka_T := List.mem_filter.mpr ⟨List.mem_of_getElem? (i := 967) (by decide +kernel), by decide +kernel⟩
theorem ka_q_ml_X7_101 : Cond.methodLink RX7 101 yX7_day ∈ ka_T := List.mem_filter.mpr ⟨List.mem_of_getElem? (i := 968) (by decide +kernel), by decide +kernel⟩
theorem ka_q_im_X7_day : Cond.instanceMethod yX7_day ∈ ka_T := List.mem_filter.mpr ⟨List.mem_of_getElem? (i := 970) (by decide +kernel), by decide +kernel⟩
theorem ka_q_co_X7_day : Cond.code yX7_day prog_9_method_24_code 3 (some FieldType.int) ∈ ka_T := List.mem_filter.mpr ⟨List.mem_of_getElem? (i := 971) (by decide +kernel), by decide +kernel⟩
theorem ka_q_ml_X7_72 : Cond.methodLink RX7 72 yX7_arrives ∈ ka_T := List.mem_filter.mpr ⟨List.mem_of_getElem? (i := 972) (by decide +kernel), by decide +kernel⟩
theorem ka_q_im_X7_arrives : Cond.instanceMethod yX7_arrives ∈ ka_T := List.mem_filter.mpr ⟨List.mem_of_getElem? (i := 974) (by decide +kernel), by decide +kernel⟩
theorem ka_q_co_X7_arrives : Cond.code yX7_arrives prog_9_method_21_code 3 (some FieldType.int) ∈ ka_T := List.mem_filter.mpr ⟨List.mem_of_getElem? (i := 975) (by decide +kernel), by decide +kernel⟩
theorem ka_q_ml_X7_75 : Cond.methodLink RX7 75 yX7_repairs ∈ ka_T := List.mem_filter.mpr ⟨List.mem_of_getElem? (i := 976) (by decide +kernel), by decide +kernel⟩
theorem ka_q_im_X7_repairs : Cond.instanceMethod yX7_repairs ∈ ka_T := List.mem_filter.mpr ⟨List.mem_of_getElem? (i := 978) (by decide +kernel), by decide +kernel⟩
theorem ka_q_co_X7_repairs : Cond.code yX7_repairs prog_9_method_22_code 2 none ∈ ka_T := List.mem_filter.mpr ⟨List.mem_of_getElem? (i := 979) (by decide +kernel), by decide +kernel⟩
theorem ka_q_ml_X7_78 : Cond.methodLink RX7 78 yX7_charges ∈ ka_T := List.mem_filter.mpr ⟨List.mem_of_getElem? (i := 980) (by decide +kernel), by decide +kernel⟩
theorem ka_q_im_X7_charges : Cond.instanceMethod yX7_charges ∈ ka_T := List.mem_filter.mpr ⟨List.mem_of_getElem? (i := 982) (by decide +kernel), by decide +kernel⟩
theorem ka_q_co_X7_charges : Cond.code yX7_charges prog_9_method_23_code 5 none ∈ ka_T := List.mem_filter.mpr ⟨List.mem_of_getElem? (i := 983) (by decide +kernel), by decide +kernel⟩
theorem ka_q_ml_L_52 : Cond.methodLink RL 52 yX7_set ∈ ka_T := List.mem_filter.mpr ⟨List.mem_of_getElem? (i := 984) (by decide +kernel), by decide +kernel⟩
theorem ka_q_im_X7_set : Cond.instanceMethod yX7_set ∈ ka_T := List.mem_filter.mpr ⟨List.mem_of_getElem? (i := 985) (by decide +kernel), by decide +kernel⟩
theorem ka_q_se_X7_set : Cond.selects RX7 yX7_set yX7_set ∈ ka_T := List.mem_filter.mpr ⟨List.mem_of_getElem? (i := 986) (by decide +kernel), by decide +kernel⟩
theorem ka_q_co_X7_set : Cond.code yX7_set prog_9_method_40_code 4 (some FieldType.int) ∈ ka_T := List.mem_filter.mpr ⟨List.mem_of_getElem? (i := 987) (by decide +kernel), by decide +kernel⟩
theorem ka_q_ml_X7_129 : Cond.methodLink RX7 129 yX7_isSetting ∈ ka_T := List.mem_filter.mpr ⟨List.mem_of_getElem? (i := 988) (by decide +kernel), by decide +kernel⟩
theorem ka_q_st_X7_isSetting : Cond.static yX7_isSetting ∈ ka_T := List.mem_filter.mpr ⟨List.mem_of_getElem? (i := 989) (by decide +kernel), by decide +kernel⟩
theorem ka_q_co_X7_isSetting : Cond.code yX7_isSetting prog_9_method_39_code 2 (some FieldType.boolean) ∈ ka_T := List.mem_filter.mpr ⟨List.mem_of_getElem? (i := 990) (by decide +kernel), by decide +kernel⟩
theorem ka_q_ml_L_56 : Cond.methodLink RL 56 yX7_wagonOf ∈ ka_T := List.mem_filter.mpr ⟨List.mem_of_getElem? (i := 991) (by decide +kernel), by decide +kernel⟩
theorem ka_q_im_X7_wagonOf : Cond.instanceMethod yX7_wagonOf ∈ ka_T := List.mem_filter.mpr ⟨List.mem_of_getElem? (i := 992) (by decide +kernel), by decide +kernel⟩
theorem ka_q_se_X7_wagonOf : Cond.selects RX7 yX7_wagonOf yX7_wagonOf ∈ ka_T := List.mem_filter.mpr ⟨List.mem_of_getElem? (i := 993) (by decide +kernel), by decide +kernel⟩
theorem ka_q_co_X7_wagonOf : Cond.code yX7_wagonOf prog_9_method_42_code 3 (some FieldType.int) ∈ ka_T := List.mem_filter.mpr ⟨List.mem_of_getElem? (i := 994) (by decide +kernel), by decide +kernel⟩
theorem ka_q_cn_X7_132 : Cond.constant RX7 132 (-2000000004) ∈ ka_T := List.mem_filter.mpr ⟨List.mem_of_getElem? (i := 995) (by decide +kernel), by decide +kernel⟩
theorem ka_q_ml_X7_133 : Cond.methodLink RX7 133 yX7_daysOf ∈ ka_T := List.mem_filter.mpr ⟨List.mem_of_getElem? (i := 996) (by decide +kernel), by decide +kernel⟩
theorem ka_q_im_X7_daysOf : Cond.instanceMethod yX7_daysOf ∈ ka_T := List.mem_filter.mpr ⟨List.mem_of_getElem? (i := 998) (by decide +kernel), by decide +kernel⟩
theorem ka_q_co_X7_daysOf : Cond.code yX7_daysOf prog_9_method_41_code 2 (some FieldType.int) ∈ ka_T := List.mem_filter.mpr ⟨List.mem_of_getElem? (i := 999) (by decide +kernel), by decide +kernel⟩
theorem ka_q_ml_L_60 : Cond.methodLink RL 60 yX7_placeOf ∈ ka_T := List.mem_filter.mpr ⟨List.mem_of_getElem? (i := 1000) (by decide +kernel), by decide +kernel⟩
theorem ka_q_im_X7_placeOf : Cond.instanceMethod yX7_placeOf ∈ ka_T := List.mem_filter.mpr ⟨List.mem_of_getElem? (i := 1001) (by decide +kernel), by decide +kernel⟩
theorem ka_q_se_X7_placeOf : Cond.selects RX7 yX7_placeOf yX7_placeOf ∈ ka_T := List.mem_filter.mpr ⟨List.mem_of_getElem? (i := 1002) (by decide +kernel), by decide +kernel⟩
theorem ka_q_co_X7_placeOf : Cond.code yX7_placeOf prog_9_method_46_code 3 (some FieldType.int) ∈ ka_T := List.mem_filter.mpr ⟨List.mem_of_getElem? (i := 1003) (by decide +kernel), by decide +kernel⟩
theorem ka_q_ml_X7_136 : Cond.methodLink RX7 136 yX7_standing ∈ ka_T := List.mem_filter.mpr ⟨List.mem_of_getElem? (i := 1004) (by decide +kernel), by decide +kernel⟩
theorem ka_q_im_X7_standing : Cond.instanceMethod yX7_standing ∈ ka_T := List.mem_filter.mpr ⟨List.mem_of_getElem? (i := 1006) (by decide +kernel), by decide +kernel⟩
theorem ka_q_co_X7_standing : Cond.code yX7_standing prog_9_method_43_code 5 (some FieldType.int) ∈ ka_T := List.mem_filter.mpr ⟨List.mem_of_getElem? (i := 1007) (by decide +kernel), by decide +kernel⟩
theorem ka_q_ml_X7_139 : Cond.methodLink RX7 139 yX7_going ∈ ka_T := List.mem_filter.mpr ⟨List.mem_of_getElem? (i := 1008) (by decide +kernel), by decide +kernel⟩
theorem ka_q_im_X7_going : Cond.instanceMethod yX7_going ∈ ka_T := List.mem_filter.mpr ⟨List.mem_of_getElem? (i := 1010) (by decide +kernel), by decide +kernel⟩
theorem ka_q_co_X7_going : Cond.code yX7_going prog_9_method_44_code 4 (some FieldType.int) ∈ ka_T := List.mem_filter.mpr ⟨List.mem_of_getElem? (i := 1011) (by decide +kernel), by decide +kernel⟩
theorem ka_q_ml_X7_142 : Cond.methodLink RX7 142 yX7_owned ∈ ka_T := List.mem_filter.mpr ⟨List.mem_of_getElem? (i := 1012) (by decide +kernel), by decide +kernel⟩
theorem ka_q_im_X7_owned : Cond.instanceMethod yX7_owned ∈ ka_T := List.mem_filter.mpr ⟨List.mem_of_getElem? (i := 1014) (by decide +kernel), by decide +kernel⟩
theorem ka_q_co_X7_owned : Cond.code yX7_owned prog_9_method_45_code 4 (some FieldType.int) ∈ ka_T := List.mem_filter.mpr ⟨List.mem_of_getElem? (i := 1015) (by decide +kernel), by decide +kernel⟩
theorem ka_q_ml_L_64 : Cond.methodLink RL 64 yX7_days ∈ ka_T := List.mem_filter.mpr ⟨List.mem_of_getElem? (i := 1016) (by decide +kernel), by decide +kernel⟩
theorem ka_q_im_X7_days : Cond.instanceMethod yX7_days ∈ ka_T := List.mem_filter.mpr ⟨List.mem_of_getElem? (i := 1017) (by decide +kernel), by decide +kernel⟩
theorem ka_q_se_X7_days : Cond.selects RX7 yX7_days yX7_days ∈ ka_T := List.mem_filter.mpr ⟨List.mem_of_getElem? (i := 1018) (by decide +kernel), by decide +kernel⟩
theorem ka_q_co_X7_days : Cond.code yX7_days prog_9_method_47_code 3 (some FieldType.int) ∈ ka_T := List.mem_filter.mpr ⟨List.mem_of_getElem? (i := 1019) (by decide +kernel), by decide +kernel⟩
theorem ka_q_ml_L_68 : Cond.methodLink RL 68 yX7_would ∈ ka_T := List.mem_filter.mpr ⟨List.mem_of_getElem? (i := 1020) (by decide +kernel), by decide +kernel⟩
theorem ka_q_im_X7_would : Cond.instanceMethod yX7_would ∈ ka_T := List.mem_filter.mpr ⟨List.mem_of_getElem? (i := 1021) (by decide +kernel), by decide +kernel⟩
theorem ka_q_se_X7_would : Cond.selects RX7 yX7_would yX7_would ∈ ka_T := List.mem_filter.mpr ⟨List.mem_of_getElem? (i := 1022) (by decide +kernel), by decide +kernel⟩
theorem ka_q_co_X7_would : Cond.code yX7_would prog_9_method_48_code 5 (some FieldType.int) ∈ ka_T := List.mem_filter.mpr ⟨List.mem_of_getElem? (i := 1023) (by decide +kernel), by decide +kernel⟩
theorem ka_q_ml_L_72 : Cond.methodLink RL 72 yX7_lacks ∈ ka_T := List.mem_filter.mpr ⟨List.mem_of_getElem? (i := 1024) (by decide +kernel), by decide +kernel⟩
theorem ka_q_im_X7_lacks : Cond.instanceMethod yX7_lacks ∈ ka_T := List.mem_filter.mpr ⟨List.mem_of_getElem? (i := 1025) (by decide +kernel), by decide +kernel⟩
theorem ka_q_se_X7_lacks : Cond.selects RX7 yX7_lacks yX7_lacks ∈ ka_T := List.mem_filter.mpr ⟨List.mem_of_getElem? (i := 1026) (by decide +kernel), by decide +kernel⟩
theorem ka_q_co_X7_lacks : Cond.code yX7_lacks prog_9_method_52_code 2 (some FieldType.int) ∈ ka_T := List.mem_filter.mpr ⟨List.mem_of_getElem? (i := 1027) (by decide +kernel), by decide +kernel⟩
theorem ka_q_ml_X7_148 : Cond.methodLink RX7 148 yX7_lacking ∈ ka_T := List.mem_filter.mpr ⟨List.mem_of_getElem? (i := 1028) (by decide +kernel), by decide +kernel⟩
theorem ka_q_im_X7_lacking : Cond.instanceMethod yX7_lacking ∈ ka_T := List.mem_filter.mpr ⟨List.mem_of_getElem? (i := 1030) (by decide +kernel), by decide +kernel⟩
theorem ka_q_co_X7_lacking : Cond.code yX7_lacking prog_9_method_50_code 4 (some FieldType.int) ∈ ka_T := List.mem_filter.mpr ⟨List.mem_of_getElem? (i := 1031) (by decide +kernel), by decide +kernel⟩
theorem ka_q_ml_X7_145 : Cond.methodLink RX7 145 yX7_ready ∈ ka_T := List.mem_filter.mpr ⟨List.mem_of_getElem? (i := 1032) (by decide +kernel), by decide +kernel⟩
theorem ka_q_im_X7_ready : Cond.instanceMethod yX7_ready ∈ ka_T := List.mem_filter.mpr ⟨List.mem_of_getElem? (i := 1034) (by decide +kernel), by decide +kernel⟩
theorem ka_q_co_X7_ready : Cond.code yX7_ready prog_9_method_49_code 4 (some FieldType.int) ∈ ka_T := List.mem_filter.mpr ⟨List.mem_of_getElem? (i := 1035) (by decide +kernel), by decide +kernel⟩
theorem ka_q_ml_L_76 : Cond.methodLink RL 76 yX7_bestTrain ∈ ka_T := List.mem_filter.mpr ⟨List.mem_of_getElem? (i := 1036) (by decide +kernel), by decide +kernel⟩
theorem ka_q_im_X7_bestTrain : Cond.instanceMethod yX7_bestTrain ∈ ka_T := List.mem_filter.mpr ⟨List.mem_of_getElem? (i := 1037) (by decide +kernel), by decide +kernel⟩
theorem ka_q_se_X7_bestTrain : Cond.selects RX7 yX7_bestTrain yX7_bestTrain ∈ ka_T := List.mem_filter.mpr ⟨List.mem_of_getElem? (i := 1038) (by decide +kernel), by decide +kernel⟩
theorem ka_q_co_X7_bestTrain : Cond.code yX7_bestTrain prog_9_method_53_code 6 (some FieldType.int) ∈ ka_T := List.mem_filter.mpr ⟨List.mem_of_getElem? (i := 1039) (by decide +kernel), by decide +kernel⟩
theorem ka_q_ml_X7_151 : Cond.methodLink RX7 151 yX7_spare ∈ ka_T := List.mem_filter.mpr ⟨List.mem_of_getElem? (i := 1040) (by decide +kernel), by decide +kernel⟩
theorem ka_q_im_X7_spare : Cond.instanceMethod yX7_spare ∈ ka_T := List.mem_filter.mpr ⟨List.mem_of_getElem? (i := 1042) (by decide +kernel), by decide +kernel⟩
theorem ka_q_co_X7_spare : Cond.code yX7_spare prog_9_method_51_code 2 (some FieldType.int) ∈ ka_T := List.mem_filter.mpr ⟨List.mem_of_getElem? (i := 1043) (by decide +kernel), by decide +kernel⟩
theorem ka_q_ml_L_80 : Cond.methodLink RL 80 yX7_share ∈ ka_T := List.mem_filter.mpr ⟨List.mem_of_getElem? (i := 1044) (by decide +kernel), by decide +kernel⟩
theorem ka_q_im_X7_share : Cond.instanceMethod yX7_share ∈ ka_T := List.mem_filter.mpr ⟨List.mem_of_getElem? (i := 1045) (by decide +kernel), by decide +kernel⟩
theorem ka_q_se_X7_share : Cond.selects RX7 yX7_share yX7_share ∈ ka_T := List.mem_filter.mpr ⟨List.mem_of_getElem? (i := 1046) (by decide +kernel), by decide +kernel⟩
theorem ka_q_co_X7_share : Cond.code yX7_share prog_9_method_54_code 6 (some FieldType.int) ∈ ka_T := List.mem_filter.mpr ⟨List.mem_of_getElem? (i := 1047) (by decide +kernel), by decide +kernel⟩
theorem ka_q_ml_X7_154 : Cond.methodLink RX7 154 yJxf58ca_floatToIntBits_5c35a ∈ ka_T := List.mem_filter.mpr ⟨List.mem_of_getElem? (i := 1048) (by decide +kernel), by decide +kernel⟩
theorem ka_q_st_Jxf58ca_floatToIntBits_5c35a : Cond.static yJxf58ca_floatToIntBits_5c35a ∈ ka_T := List.mem_filter.mpr ⟨List.mem_of_getElem? (i := 1049) (by decide +kernel), by decide +kernel⟩
theorem ka_q_co_Jxf58ca_floatToIntBits_5c35a : Cond.code yJxf58ca_floatToIntBits_5c35a prog_10_method_24_code 1 (some FieldType.int) ∈ ka_T := List.mem_filter.mpr ⟨List.mem_of_getElem? (i := 1050) (by decide +kernel), by decide +kernel⟩
theorem ka_q_ml_Jxf58ca_59 : Cond.methodLink RJxf58ca 59 yJxf58ca_isNaN_12338 ∈ ka_T := List.mem_filter.mpr ⟨List.mem_of_getElem? (i := 1051) (by decide +kernel), by decide +kernel⟩
theorem ka_q_st_Jxf58ca_isNaN_12338 : Cond.static yJxf58ca_isNaN_12338 ∈ ka_T := List.mem_filter.mpr ⟨List.mem_of_getElem? (i := 1052) (by decide +kernel), by decide +kernel⟩
theorem ka_q_co_Jxf58ca_isNaN_12338 : Cond.code yJxf58ca_isNaN_12338 prog_10_method_6_code 1 (some FieldType.boolean) ∈ ka_T := List.mem_filter.mpr ⟨List.mem_of_getElem? (i := 1053) (by decide +kernel), by decide +kernel⟩
theorem ka_q_ml_Jxf58ca_74 : Cond.methodLink RJxf58ca 74 ⟨"java/lang/Float", "floatToRawIntBits", "(F)I"⟩ ∈ ka_T := List.mem_filter.mpr ⟨List.mem_of_getElem? (i := 1054) (by decide +kernel), by decide +kernel⟩
theorem ka_q_st_java_lang_Float_floatToRawIntBits : Cond.static ⟨"java/lang/Float", "floatToRawIntBits", "(F)I"⟩ ∈ ka_T := List.mem_filter.mpr ⟨List.mem_of_getElem? (i := 1055) (by decide +kernel), by decide +kernel⟩
theorem ka_q_na_java_lang_Float_floatToRawIntBits : Cond.native ⟨"java/lang/Float", "floatToRawIntBits", "(F)I"⟩ ∈ ka_T := List.mem_filter.mpr ⟨List.mem_of_getElem? (i := 1056) (by decide +kernel), by decide +kernel⟩
theorem ka_q_cn_Jxf58ca_77 : Cond.constant RJxf58ca 77 2143289344 ∈ ka_T := List.mem_filter.mpr ⟨List.mem_of_getElem? (i := 1057) (by decide +kernel), by decide +kernel⟩
theorem ka_q_ml_L_84 : Cond.methodLink RL 84 yX7_count ∈ ka_T := List.mem_filter.mpr ⟨List.mem_of_getElem? (i := 1058) (by decide +kernel), by decide +kernel⟩
theorem ka_q_im_X7_count : Cond.instanceMethod yX7_count ∈ ka_T := List.mem_filter.mpr ⟨List.mem_of_getElem? (i := 1059) (by decide +kernel), by decide +kernel⟩
theorem ka_q_se_X7_count : Cond.selects RX7 yX7_count yX7_count ∈ ka_T := List.mem_filter.mpr ⟨List.mem_of_getElem? (i := 1060) (by decide +kernel), by decide +kernel⟩
theorem ka_q_co_X7_count : Cond.code yX7_count prog_9_method_59_code 2 (some FieldType.int) ∈ ka_T := List.mem_filter.mpr ⟨List.mem_of_getElem? (i := 1061) (by decide +kernel), by decide +kernel⟩
theorem ka_q_ml_X7_163 : Cond.methodLink RX7 163 yX7_wagons ∈ ka_T := List.mem_filter.mpr ⟨List.mem_of_getElem? (i := 1062) (by decide +kernel), by decide +kernel⟩
theorem ka_q_im_X7_wagons : Cond.instanceMethod yX7_wagons ∈ ka_T := List.mem_filter.mpr ⟨List.mem_of_getElem? (i := 1064) (by decide +kernel), by decide +kernel⟩
theorem ka_q_co_X7_wagons : Cond.code yX7_wagons prog_9_method_55_code 5 (some FieldType.int) ∈ ka_T := List.mem_filter.mpr ⟨List.mem_of_getElem? (i := 1065) (by decide +kernel), by decide +kernel⟩
theorem ka_q_ml_X7_160 : Cond.methodLink RX7 160 yX7_sum ∈ ka_T := List.mem_filter.mpr ⟨List.mem_of_getElem? (i := 1066) (by decide +kernel), by decide +kernel⟩
theorem ka_q_im_X7_sum : Cond.instanceMethod yX7_sum ∈ ka_T := List.mem_filter.mpr ⟨List.mem_of_getElem? (i := 1068) (by decide +kernel), by decide +kernel⟩
theorem ka_q_co_X7_sum : Cond.code yX7_sum prog_9_method_56_code 4 (some FieldType.int) ∈ ka_T := List.mem_filter.mpr ⟨List.mem_of_getElem? (i := 1069) (by decide +kernel), by decide +kernel⟩
theorem ka_q_ml_X7_166 : Cond.methodLink RX7 166 yX7_tonnes ∈ ka_T := List.mem_filter.mpr ⟨List.mem_of_getElem? (i := 1070) (by decide +kernel), by decide +kernel⟩
theorem ka_q_im_X7_tonnes : Cond.instanceMethod yX7_tonnes ∈ ka_T := List.mem_filter.mpr ⟨List.mem_of_getElem? (i := 1072) (by decide +kernel), by decide +kernel⟩
theorem ka_q_co_X7_tonnes : Cond.code yX7_tonnes prog_9_method_58_code 3 (some FieldType.int) ∈ ka_T := List.mem_filter.mpr ⟨List.mem_of_getElem? (i := 1073) (by decide +kernel), by decide +kernel⟩
theorem ka_q_ml_X7_169 : Cond.methodLink RX7 169 yX7_due ∈ ka_T := List.mem_filter.mpr ⟨List.mem_of_getElem? (i := 1074) (by decide +kernel), by decide +kernel⟩
theorem ka_q_im_X7_due : Cond.instanceMethod yX7_due ∈ ka_T := List.mem_filter.mpr ⟨List.mem_of_getElem? (i := 1076) (by decide +kernel), by decide +kernel⟩
theorem ka_q_co_X7_due : Cond.code yX7_due prog_9_method_57_code 3 (some FieldType.int) ∈ ka_T := List.mem_filter.mpr ⟨List.mem_of_getElem? (i := 1077) (by decide +kernel), by decide +kernel⟩
theorem ka_q_ml_L_89 : Cond.methodLink RL 89 yX7_undo ∈ ka_T := List.mem_filter.mpr ⟨List.mem_of_getElem? (i := 1078) (by decide +kernel), by decide +kernel⟩
theorem ka_q_im_X7_undo : Cond.instanceMethod yX7_undo ∈ ka_T := List.mem_filter.mpr ⟨List.mem_of_getElem? (i := 1079) (by decide +kernel), by decide +kernel⟩
theorem ka_q_se_X7_undo : Cond.selects RX7 yX7_undo yX7_undo ∈ ka_T := List.mem_filter.mpr ⟨List.mem_of_getElem? (i := 1080) (by decide +kernel), by decide +kernel⟩
theorem ka_q_co_X7_undo : Cond.code yX7_undo prog_9_method_60_code 2 (some FieldType.int) ∈ ka_T := List.mem_filter.mpr ⟨List.mem_of_getElem? (i := 1081) (by decide +kernel), by decide +kernel⟩
theorem ka_q_ml_L_93 : Cond.methodLink RL 93 yX7_type ∈ ka_T := List.mem_filter.mpr ⟨List.mem_of_getElem? (i := 1082) (by decide +kernel), by decide +kernel⟩
theorem ka_q_im_X7_type : Cond.instanceMethod yX7_type ∈ ka_T := List.mem_filter.mpr ⟨List.mem_of_getElem? (i := 1083) (by decide +kernel), by decide +kernel⟩
theorem ka_q_se_X7_type : Cond.selects RX7 yX7_type yX7_type ∈ ka_T := List.mem_filter.mpr ⟨List.mem_of_getElem? (i := 1084) (by decide +kernel), by decide +kernel⟩
theorem ka_q_co_X7_type : Cond.code yX7_type prog_9_method_61_code 2 (some FieldType.int) ∈ ka_T := List.mem_filter.mpr ⟨List.mem_of_getElem? (i := 1085) (by decide +kernel), by decide +kernel⟩
theorem ka_q_ml_L_97 : Cond.methodLink RL 97 yX7_clearText ∈ ka_T := List.mem_filter.mpr ⟨List.mem_of_getElem? (i := 1086) (by decide +kernel), by decide +kernel⟩
theorem ka_q_im_X7_clearText : Cond.instanceMethod yX7_clearText ∈ ka_T := List.mem_filter.mpr ⟨List.mem_of_getElem? (i := 1087) (by decide +kernel), by decide +kernel⟩
theorem ka_q_se_X7_clearText : Cond.selects RX7 yX7_clearText yX7_clearText ∈ ka_T := List.mem_filter.mpr ⟨List.mem_of_getElem? (i := 1088) (by decide +kernel), by decide +kernel⟩
theorem ka_q_co_X7_clearText : Cond.code yX7_clearText prog_9_method_62_code 2 (some FieldType.int) ∈ ka_T := List.mem_filter.mpr ⟨List.mem_of_getElem? (i := 1089) (by decide +kernel), by decide +kernel⟩
theorem ka_q_ml_L_101 : Cond.methodLink RL 101 yX7_fault ∈ ka_T := List.mem_filter.mpr ⟨List.mem_of_getElem? (i := 1090) (by decide +kernel), by decide +kernel⟩
theorem ka_q_im_X7_fault : Cond.instanceMethod yX7_fault ∈ ka_T := List.mem_filter.mpr ⟨List.mem_of_getElem? (i := 1091) (by decide +kernel), by decide +kernel⟩
theorem ka_q_se_X7_fault : Cond.selects RX7 yX7_fault yX7_fault ∈ ka_T := List.mem_filter.mpr ⟨List.mem_of_getElem? (i := 1092) (by decide +kernel), by decide +kernel⟩
theorem ka_q_co_X7_fault : Cond.code yX7_fault prog_9_method_70_code 3 (some FieldType.int) ∈ ka_T := List.mem_filter.mpr ⟨List.mem_of_getElem? (i := 1093) (by decide +kernel), by decide +kernel⟩
theorem ka_q_ml_X7_210 : Cond.methodLink RX7 210 yX7_doesAll ∈ ka_T := List.mem_filter.mpr ⟨List.mem_of_getElem? (i := 1094) (by decide +kernel), by decide +kernel⟩
theorem ka_q_im_X7_doesAll : Cond.instanceMethod yX7_doesAll ∈ ka_T := List.mem_filter.mpr ⟨List.mem_of_getElem? (i := 1096) (by decide +kernel), by decide +kernel⟩
theorem ka_q_co_X7_doesAll : Cond.code yX7_doesAll prog_9_method_69_code 3 (some FieldType.boolean) ∈ ka_T := List.mem_filter.mpr ⟨List.mem_of_getElem? (i := 1097) (by decide +kernel), by decide +kernel⟩
theorem ka_q_ml_X7_178 : Cond.methodLink RX7 178 yX7_here ∈ ka_T := List.mem_filter.mpr ⟨List.mem_of_getElem? (i := 1098) (by decide +kernel), by decide +kernel⟩
theorem ka_q_im_X7_here : Cond.instanceMethod yX7_here ∈ ka_T := List.mem_filter.mpr ⟨List.mem_of_getElem? (i := 1100) (by decide +kernel), by decide +kernel⟩
theorem ka_q_co_X7_here : Cond.code yX7_here prog_9_method_63_code 1 (some FieldType.int) ∈ ka_T := List.mem_filter.mpr ⟨List.mem_of_getElem? (i := 1101) (by decide +kernel), by decide +kernel⟩
theorem ka_q_ml_X7_195 : Cond.methodLink RX7 195 yX7_manyOf ∈ ka_T := List.mem_filter.mpr ⟨List.mem_of_getElem? (i := 1102) (by decide +kernel), by decide +kernel⟩
theorem ka_q_st_X7_manyOf : Cond.static yX7_manyOf ∈ ka_T := List.mem_filter.mpr ⟨List.mem_of_getElem? (i := 1103) (by decide +kernel), by decide +kernel⟩
theorem ka_q_co_X7_manyOf : Cond.code yX7_manyOf prog_9_method_67_code 1 (some FieldType.int) ∈ ka_T := List.mem_filter.mpr ⟨List.mem_of_getElem? (i := 1104) (by decide +kernel), by decide +kernel⟩
theorem ka_q_ml_X7_198 : Cond.methodLink RX7 198 yX7_takesSign ∈ ka_T := List.mem_filter.mpr ⟨List.mem_of_getElem? (i := 1105) (by decide +kernel), by decide +kernel⟩
theorem ka_q_im_X7_takesSign : Cond.instanceMethod yX7_takesSign ∈ ka_T := List.mem_filter.mpr ⟨List.mem_of_getElem? (i := 1107) (by decide +kernel), by decide +kernel⟩
theorem ka_q_co_X7_takesSign : Cond.code yX7_takesSign prog_9_method_65_code 2 none ∈ ka_T := List.mem_filter.mpr ⟨List.mem_of_getElem? (i := 1108) (by decide +kernel), by decide +kernel⟩
theorem ka_q_ml_X7_201 : Cond.methodLink RX7 201 yX7_number ∈ ka_T := List.mem_filter.mpr ⟨List.mem_of_getElem? (i := 1109) (by decide +kernel), by decide +kernel⟩
theorem ka_q_im_X7_number : Cond.instanceMethod yX7_number ∈ ka_T := List.mem_filter.mpr ⟨List.mem_of_getElem? (i := 1111) (by decide +kernel), by decide +kernel⟩
theorem ka_q_co_X7_number : Cond.code yX7_number prog_9_method_66_code 3 (some FieldType.int) ∈ ka_T := List.mem_filter.mpr ⟨List.mem_of_getElem? (i := 1112) (by decide +kernel), by decide +kernel⟩
theorem ka_q_ml_X7_185 : Cond.methodLink RX7 185 yX7_isDigit ∈ ka_T := List.mem_filter.mpr ⟨List.mem_of_getElem? (i := 1113) (by decide +kernel), by decide +kernel⟩
theorem ka_q_im_X7_isDigit : Cond.instanceMethod yX7_isDigit ∈ ka_T := List.mem_filter.mpr ⟨List.mem_of_getElem? (i := 1115) (by decide +kernel), by decide +kernel⟩
theorem ka_q_co_X7_isDigit : Cond.code yX7_isDigit prog_9_method_64_code 1 (some FieldType.boolean) ∈ ka_T := List.mem_filter.mpr ⟨List.mem_of_getElem? (i := 1116) (by decide +kernel), by decide +kernel⟩
theorem ka_q_ml_X7_204 : Cond.methodLink RX7 204 yX7_called ∈ ka_T := List.mem_filter.mpr ⟨List.mem_of_getElem? (i := 1117) (by decide +kernel), by decide +kernel⟩
theorem ka_q_im_X7_called : Cond.instanceMethod yX7_called ∈ ka_T := List.mem_filter.mpr ⟨List.mem_of_getElem? (i := 1119) (by decide +kernel), by decide +kernel⟩
theorem ka_q_co_X7_called : Cond.code yX7_called prog_9_method_68_code 2 (some FieldType.int) ∈ ka_T := List.mem_filter.mpr ⟨List.mem_of_getElem? (i := 1120) (by decide +kernel), by decide +kernel⟩
theorem ka_q_ml_L_105 : Cond.methodLink RL 105 yX7_play ∈ ka_T := List.mem_filter.mpr ⟨List.mem_of_getElem? (i := 1121) (by decide +kernel), by decide +kernel⟩
theorem ka_q_im_X7_play : Cond.instanceMethod yX7_play ∈ ka_T := List.mem_filter.mpr ⟨List.mem_of_getElem? (i := 1122) (by decide +kernel), by decide +kernel⟩
theorem ka_q_se_X7_play : Cond.selects RX7 yX7_play yX7_play ∈ ka_T := List.mem_filter.mpr ⟨List.mem_of_getElem? (i := 1123) (by decide +kernel), by decide +kernel⟩
theorem ka_q_co_X7_play : Cond.code yX7_play prog_9_method_71_code 1 (some FieldType.int) ∈ ka_T := List.mem_filter.mpr ⟨List.mem_of_getElem? (i := 1124) (by decide +kernel), by decide +kernel⟩
