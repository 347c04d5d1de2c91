theorem ka_q_se_X3_placeAt : Cond.selects RX3 yX3_placeAt yX3_placeAt ∈ ka_T := List.mem_filter.mpr ⟨List.mem_of_getElem? (i := 0) (by decide +kernel), by decide +kernel⟩
theorem ka_q_se_X6_settle : Cond.selects RX6 yX6_settle yX6_settle ∈ ka_T := List.mem_filter.mpr ⟨List.mem_of_getElem? (i := 1) (by decide +kernel), by decide +kernel⟩
theorem ka_q_se_X0_stateAt : Cond.selects RX0 yX0_stateAt yX0_stateAt ∈ ka_T := List.mem_filter.mpr ⟨List.mem_of_getElem? (i := 2) (by decide +kernel), by decide +kernel⟩
theorem ka_q_se_X3_keepLeg : Cond.selects RX3 yX3_keepLeg yX3_keepLeg ∈ ka_T := List.mem_filter.mpr ⟨List.mem_of_getElem? (i := 3) (by decide +kernel), by decide +kernel⟩
theorem ka_q_se_X3_wagonAt : Cond.selects RX3 yX3_wagonAt yX3_wagonAt ∈ ka_T := List.mem_filter.mpr ⟨List.mem_of_getElem? (i := 4) (by decide +kernel), by decide +kernel⟩
theorem ka_q_se_X3_isWagon : Cond.selects RX3 yX3_isWagon yX3_isWagon ∈ ka_T := List.mem_filter.mpr ⟨List.mem_of_getElem? (i := 5) (by decide +kernel), by decide +kernel⟩
theorem ka_q_se_X3_whyNotLoaded : Cond.selects RX3 yX3_whyNotLoaded yX3_whyNotLoaded ∈ ka_T := List.mem_filter.mpr ⟨List.mem_of_getElem? (i := 6) (by decide +kernel), by decide +kernel⟩
theorem ka_q_se_X3_isDue : Cond.selects RX3 yX3_isDue yX3_isDue ∈ ka_T := List.mem_filter.mpr ⟨List.mem_of_getElem? (i := 7) (by decide +kernel), by decide +kernel⟩
theorem ka_q_se_X3_setting : Cond.selects RX3 yX3_setting yX3_setting ∈ ka_T := List.mem_filter.mpr ⟨List.mem_of_getElem? (i := 8) (by decide +kernel), by decide +kernel⟩
theorem ka_q_se_X3_beginRepairs : Cond.selects RX3 yX3_beginRepairs yX3_beginRepairs ∈ ka_T := List.mem_filter.mpr ⟨List.mem_of_getElem? (i := 9) (by decide +kernel), by decide +kernel⟩
theorem ka_q_se_X3_growHeaps : Cond.selects RX3 yX3_growHeaps yX3_growHeaps ∈ ka_T := List.mem_filter.mpr ⟨List.mem_of_getElem? (i := 10) (by decide +kernel), by decide +kernel⟩
theorem ka_q_se_X3_arrive : Cond.selects RX3 yX3_arrive yX3_arrive ∈ ka_T := List.mem_filter.mpr ⟨List.mem_of_getElem? (i := 11) (by decide +kernel), by decide +kernel⟩
theorem ka_q_se_X3_endRepairs : Cond.selects RX3 yX3_endRepairs yX3_endRepairs ∈ ka_T := List.mem_filter.mpr ⟨List.mem_of_getElem? (i := 12) (by decide +kernel), by decide +kernel⟩
theorem ka_q_se_X3_payForTheDay : Cond.selects RX3 yX3_payForTheDay yX3_payForTheDay ∈ ka_T := List.mem_filter.mpr ⟨List.mem_of_getElem? (i := 13) (by decide +kernel), by decide +kernel⟩
theorem ka_q_se_X3_setStanding : Cond.selects RX3 yX3_setStanding yX3_setStanding ∈ ka_T := List.mem_filter.mpr ⟨List.mem_of_getElem? (i := 14) (by decide +kernel), by decide +kernel⟩
theorem ka_q_se_X3_setOnTheWayTo : Cond.selects RX3 yX3_setOnTheWayTo yX3_setOnTheWayTo ∈ ka_T := List.mem_filter.mpr ⟨List.mem_of_getElem? (i := 15) (by decide +kernel), by decide +kernel⟩
theorem ka_q_se_X3_setOwnedBy : Cond.selects RX3 yX3_setOwnedBy yX3_setOwnedBy ∈ ka_T := List.mem_filter.mpr ⟨List.mem_of_getElem? (i := 16) (by decide +kernel), by decide +kernel⟩
theorem ka_q_se_X3_readyAt : Cond.selects RX3 yX3_readyAt yX3_readyAt ∈ ka_T := List.mem_filter.mpr ⟨List.mem_of_getElem? (i := 17) (by decide +kernel), by decide +kernel⟩
theorem ka_q_se_X3_countStanding : Cond.selects RX3 yX3_countStanding yX3_countStanding ∈ ka_T := List.mem_filter.mpr ⟨List.mem_of_getElem? (i := 18) (by decide +kernel), by decide +kernel⟩
theorem ka_q_se_X3_countOnTheWay : Cond.selects RX3 yX3_countOnTheWay yX3_countOnTheWay ∈ ka_T := List.mem_filter.mpr ⟨List.mem_of_getElem? (i := 19) (by decide +kernel), by decide +kernel⟩
theorem ka_q_se_X3_allAccounts : Cond.selects RX3 yX3_allAccounts yX3_allAccounts ∈ ka_T := List.mem_filter.mpr ⟨List.mem_of_getElem? (i := 20) (by decide +kernel), by decide +kernel⟩
theorem ka_q_se_X3_allTonnes : Cond.selects RX3 yX3_allTonnes yX3_allTonnes ∈ ka_T := List.mem_filter.mpr ⟨List.mem_of_getElem? (i := 21) (by decide +kernel), by decide +kernel⟩
theorem ka_q_se_X3_countDue : Cond.selects RX3 yX3_countDue yX3_countDue ∈ ka_T := List.mem_filter.mpr ⟨List.mem_of_getElem? (i := 22) (by decide +kernel), by decide +kernel⟩
theorem ka_q_se_X1_readOrder : Cond.selects RX1 yX1_readOrder yX1_readOrder ∈ ka_T := List.mem_filter.mpr ⟨List.mem_of_getElem? (i := 23) (by decide +kernel), by decide +kernel⟩
theorem ka_q_se_X1_signAt : Cond.selects RX1 yX1_signAt yX1_signAt ∈ ka_T := List.mem_filter.mpr ⟨List.mem_of_getElem? (i := 24) (by decide +kernel), by decide +kernel⟩
theorem ka_q_se_X1_readSign : Cond.selects RX1 yX1_readSign yX1_readSign ∈ ka_T := List.mem_filter.mpr ⟨List.mem_of_getElem? (i := 25) (by decide +kernel), by decide +kernel⟩
theorem ka_q_se_X1_readNumber : Cond.selects RX1 yX1_readNumber yX1_readNumber ∈ ka_T := List.mem_filter.mpr ⟨List.mem_of_getElem? (i := 26) (by decide +kernel), by decide +kernel⟩
theorem ka_q_se_X1_blame : Cond.selects RX1 yX1_blame yX1_blame ∈ ka_T := List.mem_filter.mpr ⟨List.mem_of_getElem? (i := 27) (by decide +kernel), by decide +kernel⟩
theorem ka_q_se_X1_doOrder : Cond.selects RX1 yX1_doOrder yX1_doOrder ∈ ka_T := List.mem_filter.mpr ⟨List.mem_of_getElem? (i := 28) (by decide +kernel), by decide +kernel⟩
theorem ka_q_se_X7_begins : Cond.selects RX7 yX7_begins yX7_begins ∈ ka_T := List.mem_filter.mpr ⟨List.mem_of_getElem? (i := 29) (by decide +kernel), by decide +kernel⟩
theorem ka_q_se_X7_acted : Cond.selects RX7 yX7_acted yX7_acted ∈ ka_T := List.mem_filter.mpr ⟨List.mem_of_getElem? (i := 30) (by decide +kernel), by decide +kernel⟩
theorem ka_q_se_X7_returns : Cond.selects RX7 yX7_returns yX7_returns ∈ ka_T := List.mem_filter.mpr ⟨List.mem_of_getElem? (i := 31) (by decide +kernel), by decide +kernel⟩
theorem ka_q_se_X7_isPlace : Cond.selects RX7 yX7_isPlace yX7_isPlace ∈ ka_T := List.mem_filter.mpr ⟨List.mem_of_getElem? (i := 32) (by decide +kernel), by decide +kernel⟩
theorem ka_q_se_X7_joins : Cond.selects RX7 yX7_joins yX7_joins ∈ ka_T := List.mem_filter.mpr ⟨List.mem_of_getElem? (i := 33) (by decide +kernel), by decide +kernel⟩
theorem ka_q_se_X7_isMine : Cond.selects RX7 yX7_isMine yX7_isMine ∈ ka_T := List.mem_filter.mpr ⟨List.mem_of_getElem? (i := 34) (by decide +kernel), by decide +kernel⟩
theorem ka_q_se_X7_lays : Cond.selects RX7 yX7_lays yX7_lays ∈ ka_T := List.mem_filter.mpr ⟨List.mem_of_getElem? (i := 35) (by decide +kernel), by decide +kernel⟩
theorem ka_q_se_X7_loads : Cond.selects RX7 yX7_loads yX7_loads ∈ ka_T := List.mem_filter.mpr ⟨List.mem_of_getElem? (i := 36) (by decide +kernel), by decide +kernel⟩
theorem ka_q_se_X7_isWagon : Cond.selects RX7 yX7_isWagon yX7_isWagon ∈ ka_T := List.mem_filter.mpr ⟨List.mem_of_getElem? (i := 37) (by decide +kernel), by decide +kernel⟩
theorem ka_q_se_X7_whyNot : Cond.selects RX7 yX7_whyNot yX7_whyNot ∈ ka_T := List.mem_filter.mpr ⟨List.mem_of_getElem? (i := 38) (by decide +kernel), by decide +kernel⟩
theorem ka_q_se_X7_of : Cond.selects RX7 yX7_of yX7_of ∈ ka_T := List.mem_filter.mpr ⟨List.mem_of_getElem? (i := 39) (by decide +kernel), by decide +kernel⟩
theorem ka_q_se_X7_isDue : Cond.selects RX7 yX7_isDue yX7_isDue ∈ ka_T := List.mem_filter.mpr ⟨List.mem_of_getElem? (i := 40) (by decide +kernel), by decide +kernel⟩
theorem ka_q_se_X7_has : Cond.selects RX7 yX7_has yX7_has ∈ ka_T := List.mem_filter.mpr ⟨List.mem_of_getElem? (i := 41) (by decide +kernel), by decide +kernel⟩
theorem ka_q_se_X7_adds : Cond.selects RX7 yX7_adds yX7_adds ∈ ka_T := List.mem_filter.mpr ⟨List.mem_of_getElem? (i := 42) (by decide +kernel), by decide +kernel⟩
theorem ka_q_se_X7_unloads : Cond.selects RX7 yX7_unloads yX7_unloads ∈ ka_T := List.mem_filter.mpr ⟨List.mem_of_getElem? (i := 43) (by decide +kernel), by decide +kernel⟩
theorem ka_q_se_X7_stands : Cond.selects RX7 yX7_stands yX7_stands ∈ ka_T := List.mem_filter.mpr ⟨List.mem_of_getElem? (i := 44) (by decide +kernel), by decide +kernel⟩
theorem ka_q_se_X7_pays : Cond.selects RX7 yX7_pays yX7_pays ∈ ka_T := List.mem_filter.mpr ⟨List.mem_of_getElem? (i := 45) (by decide +kernel), by decide +kernel⟩
theorem ka_q_se_X7_sends : Cond.selects RX7 yX7_sends yX7_sends ∈ ka_T := List.mem_filter.mpr ⟨List.mem_of_getElem? (i := 46) (by decide +kernel), by decide +kernel⟩
theorem ka_q_se_X7_inRepair : Cond.selects RX7 yX7_inRepair yX7_inRepair ∈ ka_T := List.mem_filter.mpr ⟨List.mem_of_getElem? (i := 47) (by decide +kernel), by decide +kernel⟩
theorem ka_q_se_X7_fillsShop : Cond.selects RX7 yX7_fillsShop yX7_fillsShop ∈ ka_T := List.mem_filter.mpr ⟨List.mem_of_getElem? (i := 48) (by decide +kernel), by decide +kernel⟩
theorem ka_q_se_X7_firstWaiting : Cond.selects RX7 yX7_firstWaiting yX7_firstWaiting ∈ ka_T := List.mem_filter.mpr ⟨List.mem_of_getElem? (i := 49) (by decide +kernel), by decide +kernel⟩
theorem ka_q_se_X7_trains : Cond.selects RX7 yX7_trains yX7_trains ∈ ka_T := List.mem_filter.mpr ⟨List.mem_of_getElem? (i := 50) (by decide +kernel), by decide +kernel⟩
theorem ka_q_se_X7_passes : Cond.selects RX7 yX7_passes yX7_passes ∈ ka_T := List.mem_filter.mpr ⟨List.mem_of_getElem? (i := 51) (by decide +kernel), by decide +kernel⟩
theorem ka_q_se_X7_day : Cond.selects RX7 yX7_day yX7_day ∈ ka_T := List.mem_filter.mpr ⟨List.mem_of_getElem? (i := 52) (by decide +kernel), by decide +kernel⟩
theorem ka_q_se_X7_arrives : Cond.selects RX7 yX7_arrives yX7_arrives ∈ ka_T := List.mem_filter.mpr ⟨List.mem_of_getElem? (i := 53) (by decide +kernel), by decide +kernel⟩
theorem ka_q_se_X7_repairs : Cond.selects RX7 yX7_repairs yX7_repairs ∈ ka_T := List.mem_filter.mpr ⟨List.mem_of_getElem? (i := 54) (by decide +kernel), by decide +kernel⟩
theorem ka_q_se_X7_charges : Cond.selects RX7 yX7_charges yX7_charges ∈ ka_T := List.mem_filter.mpr ⟨List.mem_of_getElem? (i := 55) (by decide +kernel), by decide +kernel⟩
theorem ka_q_se_X7_daysOf : Cond.selects RX7 yX7_daysOf yX7_daysOf ∈ ka_T := List.mem_filter.mpr ⟨List.mem_of_getElem? (i := 56) (by decide +kernel), by decide +kernel⟩
theorem ka_q_se_X7_standing : Cond.selects RX7 yX7_standing yX7_standing ∈ ka_T := List.mem_filter.mpr ⟨List.mem_of_getElem? (i := 57) (by decide +kernel), by decide +kernel⟩
theorem ka_q_se_X7_going : Cond.selects RX7 yX7_going yX7_going ∈ ka_T := List.mem_filter.mpr ⟨List.mem_of_getElem? (i := 58) (by decide +kernel), by decide +kernel⟩
theorem ka_q_se_X7_owned : Cond.selects RX7 yX7_owned yX7_owned ∈ ka_T := List.mem_filter.mpr ⟨List.mem_of_getElem? (i := 59) (by decide +kernel), by decide +kernel⟩
theorem ka_q_se_X7_lacking : Cond.selects RX7 yX7_lacking yX7_lacking ∈ ka_T := List.mem_filter.mpr ⟨List.mem_of_getElem? (i := 60) (by decide +kernel), by decide +kernel⟩
theorem ka_q_se_X7_ready : Cond.selects RX7 yX7_ready yX7_ready ∈ ka_T := List.mem_filter.mpr ⟨List.mem_of_getElem? (i := 61) (by decide +kernel), by decide +kernel⟩
theorem ka_q_se_X7_spare : Cond.selects RX7 yX7_spare yX7_spare ∈ ka_T := List.mem_filter.mpr ⟨List.mem_of_getElem? (i := 62) (by decide +kernel), by decide +kernel⟩
theorem ka_q_se_X7_wagons : Cond.selects RX7 yX7_wagons yX7_wagons ∈ ka_T := List.mem_filter.mpr ⟨List.mem_of_getElem? (i := 63) (by decide +kernel), by decide +kernel⟩
theorem ka_q_se_X7_sum : Cond.selects RX7 yX7_sum yX7_sum ∈ ka_T := List.mem_filter.mpr ⟨List.mem_of_getElem? (i := 64) (by decide +kernel), by decide +kernel⟩
theorem ka_q_se_X7_tonnes : Cond.selects RX7 yX7_tonnes yX7_tonnes ∈ ka_T := List.mem_filter.mpr ⟨List.mem_of_getElem? (i := 65) (by decide +kernel), by decide +kernel⟩
theorem ka_q_se_X7_due : Cond.selects RX7 yX7_due yX7_due ∈ ka_T := List.mem_filter.mpr ⟨List.mem_of_getElem? (i := 66) (by decide +kernel), by decide +kernel⟩
theorem ka_q_se_X7_doesAll : Cond.selects RX7 yX7_doesAll yX7_doesAll ∈ ka_T := List.mem_filter.mpr ⟨List.mem_of_getElem? (i := 67) (by decide +kernel), by decide +kernel⟩
theorem ka_q_se_X7_here : Cond.selects RX7 yX7_here yX7_here ∈ ka_T := List.mem_filter.mpr ⟨List.mem_of_getElem? (i := 68) (by decide +kernel), by decide +kernel⟩
theorem ka_q_se_X7_takesSign : Cond.selects RX7 yX7_takesSign yX7_takesSign ∈ ka_T := List.mem_filter.mpr ⟨List.mem_of_getElem? (i := 69) (by decide +kernel), by decide +kernel⟩
theorem ka_q_se_X7_number : Cond.selects RX7 yX7_number yX7_number ∈ ka_T := List.mem_filter.mpr ⟨List.mem_of_getElem? (i := 70) (by decide +kernel), by decide +kernel⟩
theorem ka_q_se_X7_isDigit : Cond.selects RX7 yX7_isDigit yX7_isDigit ∈ ka_T := List.mem_filter.mpr ⟨List.mem_of_getElem? (i := 71) (by decide +kernel), by decide +kernel⟩
theorem ka_q_se_X7_called : Cond.selects RX7 yX7_called yX7_called ∈ ka_T := List.mem_filter.mpr ⟨List.mem_of_getElem? (i := 72) (by decide +kernel), by decide +kernel⟩
theorem ka_q_in_L : Cond.initialized RL ∈ ka_T := List.mem_filter.mpr ⟨List.mem_of_getElem? (i := 73) (by decide +kernel), by decide +kernel⟩
theorem ka_q_in_X6 : Cond.initialized RX6 ∈ ka_T := List.mem_filter.mpr ⟨List.mem_of_getElem? (i := 74) (by decide +kernel), by decide +kernel⟩
theorem ka_q_in_X3 : Cond.initialized RX3 ∈ ka_T := List.mem_filter.mpr ⟨List.mem_of_getElem? (i := 75) (by decide +kernel), by decide +kernel⟩
theorem ka_q_in_X2 : Cond.initialized RX2 ∈ ka_T := List.mem_filter.mpr ⟨List.mem_of_getElem? (i := 76) (by decide +kernel), by decide +kernel⟩
theorem ka_q_in_X5 : Cond.initialized RX5 ∈ ka_T := List.mem_filter.mpr ⟨List.mem_of_getElem? (i := 77) (by decide +kernel), by decide +kernel⟩
theorem ka_q_in_X4 : Cond.initialized RX4 ∈ ka_T := List.mem_filter.mpr ⟨List.mem_of_getElem? (i := 78) (by decide +kernel), by decide +kernel⟩
theorem ka_q_in_X0 : Cond.initialized RX0 ∈ ka_T := List.mem_filter.mpr ⟨List.mem_of_getElem? (i := 79) (by decide +kernel), by decide +kernel⟩
theorem ka_q_in_X1 : Cond.initialized RX1 ∈ ka_T := List.mem_filter.mpr ⟨List.mem_of_getElem? (i := 80) (by decide +kernel), by decide +kernel⟩
theorem ka_q_in_X7 : Cond.initialized RX7 ∈ ka_T := List.mem_filter.mpr ⟨List.mem_of_getElem? (i := 81) (by decide +kernel), by decide +kernel⟩
theorem ka_q_in_J10 : Cond.initialized RJ10 ∈ ka_T := List.mem_filter.mpr ⟨List.mem_of_getElem? (i := 82) (by decide +kernel), by decide +kernel⟩
theorem ka_q_in_J9 : Cond.initialized RJ9 ∈ ka_T := List.mem_filter.mpr ⟨List.mem_of_getElem? (i := 83) (by decide +kernel), by decide +kernel⟩
theorem ka_q_in_J6 : Cond.initialized RJ6 ∈ ka_T := List.mem_filter.mpr ⟨List.mem_of_getElem? (i := 84) (by decide +kernel), by decide +kernel⟩
theorem ka_q_in_Jxf58ca : Cond.initialized RJxf58ca ∈ ka_T := List.mem_filter.mpr ⟨List.mem_of_getElem? (i := 85) (by decide +kernel), by decide +kernel⟩
theorem ka_q_cl_L_7 : Cond.classLink RL 7 RX6 ∈ ka_T := List.mem_filter.mpr ⟨List.mem_of_getElem? (i := 86) (by decide +kernel), by decide +kernel⟩
theorem ka_q_it_X6 : Cond.instantiable RX6 4 ∈ ka_T := List.mem_filter.mpr ⟨List.mem_of_getElem? (i := 87) (by decide +kernel), by decide +kernel⟩
theorem ka_q_ml_L_9 : Cond.methodLink RL 9 yX6_init ∈ ka_T := List.mem_filter.mpr ⟨List.mem_of_getElem? (i := 88) (by decide +kernel), by decide +kernel⟩
theorem ka_q_im_X6_init : Cond.instanceMethod yX6_init ∈ ka_T := List.mem_filter.mpr ⟨List.mem_of_getElem? (i := 89) (by decide +kernel), by decide +kernel⟩
theorem ka_q_co_X6_init : Cond.code yX6_init prog_1_method_1_code 1 none ∈ ka_T := List.mem_filter.mpr ⟨List.mem_of_getElem? (i := 90) (by decide +kernel), by decide +kernel⟩
theorem ka_q_ml_X6_1 : Cond.methodLink RX6 1 objectInit ∈ ka_T := List.mem_filter.mpr ⟨List.mem_of_getElem? (i := 91) (by decide +kernel), by decide +kernel⟩
theorem ka_q_im_objectInit : Cond.instanceMethod objectInit ∈ ka_T := List.mem_filter.mpr ⟨List.mem_of_getElem? (i := 92) (by decide +kernel), by decide +kernel⟩
theorem ka_q_co_objectInit : Cond.code objectInit ⟨#[0xb1]⟩ 1 none ∈ ka_T := List.mem_filter.mpr ⟨List.mem_of_getElem? (i := 93) (by decide +kernel), by decide +kernel⟩
theorem ka_q_cl_X6_7 : Cond.classLink RX6 7 RX3 ∈ ka_T := List.mem_filter.mpr ⟨List.mem_of_getElem? (i := 94) (by decide +kernel), by decide +kernel⟩
theorem ka_q_it_X3 : Cond.instantiable RX3 11 ∈ ka_T := List.mem_filter.mpr ⟨List.mem_of_getElem? (i := 95) (by decide +kernel), by decide +kernel⟩
theorem ka_q_ml_X6_9 : Cond.methodLink RX6 9 yX3_init ∈ ka_T := List.mem_filter.mpr ⟨List.mem_of_getElem? (i := 96) (by decide +kernel), by decide +kernel⟩
theorem ka_q_im_X3_init : Cond.instanceMethod yX3_init ∈ ka_T := List.mem_filter.mpr ⟨List.mem_of_getElem? (i := 97) (by decide +kernel), by decide +kernel⟩
theorem ka_q_co_X3_init : Cond.code yX3_init prog_5_method_1_code 2 none ∈ ka_T := List.mem_filter.mpr ⟨List.mem_of_getElem? (i := 98) (by decide +kernel), by decide +kernel⟩
theorem ka_q_ml_X3_3 : Cond.methodLink RX3 3 objectInit ∈ ka_T := List.mem_filter.mpr ⟨List.mem_of_getElem? (i := 99) (by decide +kernel), by decide +kernel⟩
theorem ka_q_cl_X3_9 : Cond.classLink RX3 9 RX2 ∈ ka_T := List.mem_filter.mpr ⟨List.mem_of_getElem? (i := 100) (by decide +kernel), by decide +kernel⟩
theorem ka_q_ao_X2 : Cond.arrayOver (FieldType.object RX2) ∈ lw_tbl := List.mem_of_getElem? (i := 101) (by decide +kernel)
theorem ka_q_it_X2 : Cond.instantiable RX2 6 ∈ ka_T := List.mem_filter.mpr ⟨List.mem_of_getElem? (i := 102) (by decide +kernel), by decide +kernel⟩
theorem ka_q_im_X2_init : Cond.instanceMethod yX2_init ∈ ka_T := List.mem_filter.mpr ⟨List.mem_of_getElem? (i := 104) (by decide +kernel), by decide +kernel⟩
theorem ka_q_co_X2_init : Cond.code yX2_init prog_4_method_1_code 1 none ∈ ka_T := List.mem_filter.mpr ⟨List.mem_of_getElem? (i := 105) (by decide +kernel), by decide +kernel⟩
theorem ka_q_ml_X2_3 : Cond.methodLink RX2 3 objectInit ∈ ka_T := List.mem_filter.mpr ⟨List.mem_of_getElem? (i := 106) (by decide +kernel), by decide +kernel⟩
theorem ka_q_fl_X2_9 : Cond.fieldLink RX2 9 RX2 "rate" "I" ∈ ka_T := List.mem_filter.mpr ⟨List.mem_of_getElem? (i := 107) (by decide +kernel), by decide +kernel⟩
theorem ka_q_fl_X2_15 : Cond.fieldLink RX2 15 RX2 "heap" "I" ∈ ka_T := List.mem_filter.mpr ⟨List.mem_of_getElem? (i := 109) (by decide +kernel), by decide +kernel⟩
theorem ka_q_fl_X2_18 : Cond.fieldLink RX2 18 RX2 "account" "I" ∈ ka_T := List.mem_filter.mpr ⟨List.mem_of_getElem? (i := 111) (by decide +kernel), by decide +kernel⟩
theorem ka_q_fl_X2_21 : Cond.fieldLink RX2 21 RX2 "demurrage" "I" ∈ ka_T := List.mem_filter.mpr ⟨List.mem_of_getElem? (i := 113) (by decide +kernel), by decide +kernel⟩
theorem ka_q_fl_X2_24 : Cond.fieldLink RX2 24 RX2 "hire" "I" ∈ ka_T := List.mem_filter.mpr ⟨List.mem_of_getElem? (i := 115) (by decide +kernel), by decide +kernel⟩
theorem ka_q_fl_X2_27 : Cond.fieldLink RX2 27 RX2 "tonnes" "I" ∈ ka_T := List.mem_filter.mpr ⟨List.mem_of_getElem? (i := 117) (by decide +kernel), by decide +kernel⟩
theorem ka_q_cl_X3_18 : Cond.classLink RX3 18 RX5 ∈ ka_T := List.mem_filter.mpr ⟨List.mem_of_getElem? (i := 132) (by decide +kernel), by decide +kernel⟩
theorem ka_q_ao_X5 : Cond.arrayOver (FieldType.object RX5) ∈ lw_tbl := List.mem_of_getElem? (i := 133) (by decide +kernel)
theorem ka_q_it_X5 : Cond.instantiable RX5 9 ∈ ka_T := List.mem_filter.mpr ⟨List.mem_of_getElem? (i := 134) (by decide +kernel), by decide +kernel⟩
theorem ka_q_im_X5_init : Cond.instanceMethod yX5_init ∈ ka_T := List.mem_filter.mpr ⟨List.mem_of_getElem? (i := 136) (by decide +kernel), by decide +kernel⟩
theorem ka_q_co_X5_init : Cond.code yX5_init prog_7_method_1_code 1 none ∈ ka_T := List.mem_filter.mpr ⟨List.mem_of_getElem? (i := 137) (by decide +kernel), by decide +kernel⟩
theorem ka_q_ml_X5_3 : Cond.methodLink RX5 3 objectInit ∈ ka_T := List.mem_filter.mpr ⟨List.mem_of_getElem? (i := 138) (by decide +kernel), by decide +kernel⟩
theorem ka_q_fl_X5_9 : Cond.fieldLink RX5 9 RX5 "owner" "I" ∈ ka_T := List.mem_filter.mpr ⟨List.mem_of_getElem? (i := 139) (by decide +kernel), by decide +kernel⟩
theorem ka_q_fl_X5_15 : Cond.fieldLink RX5 15 RX5 "place" "I" ∈ ka_T := List.mem_filter.mpr ⟨List.mem_of_getElem? (i := 141) (by decide +kernel), by decide +kernel⟩
theorem ka_q_fl_X5_18 : Cond.fieldLink RX5 18 RX5 "state" "I" ∈ ka_T := List.mem_filter.mpr ⟨List.mem_of_getElem? (i := 143) (by decide +kernel), by decide +kernel⟩
theorem ka_q_fl_X5_21 : Cond.fieldLink RX5 21 RX5 "loaded" "Z" ∈ ka_T := List.mem_filter.mpr ⟨List.mem_of_getElem? (i := 145) (by decide +kernel), by decide +kernel⟩
theorem ka_q_fl_X5_25 : Cond.fieldLink RX5 25 RX5 "wear" "I" ∈ ka_T := List.mem_filter.mpr ⟨List.mem_of_getElem? (i := 147) (by decide +kernel), by decide +kernel⟩
theorem ka_q_fl_X5_28 : Cond.fieldLink RX5 28 RX5 "since" "I" ∈ ka_T := List.mem_filter.mpr ⟨List.mem_of_getElem? (i := 149) (by decide +kernel), by decide +kernel⟩
theorem ka_q_fl_X5_31 : Cond.fieldLink RX5 31 RX5 "until" "I" ∈ ka_T := List.mem_filter.mpr ⟨List.mem_of_getElem? (i := 151) (by decide +kernel), by decide +kernel⟩
theorem ka_q_fl_X5_34 : Cond.fieldLink RX5 34 RX5 "journey" "I" ∈ ka_T := List.mem_filter.mpr ⟨List.mem_of_getElem? (i := 153) (by decide +kernel), by decide +kernel⟩
theorem ka_q_fl_X5_37 : Cond.fieldLink RX5 37 RX5 "loads" "I" ∈ ka_T := List.mem_filter.mpr ⟨List.mem_of_getElem? (i := 155) (by decide +kernel), by decide +kernel⟩
theorem ka_q_ls_X6_FIRST_SETTING : Cond.laysStatic RX6 "FIRST_SETTING" "[I" ∈ lw_tbl := List.mem_of_getElem? (i := 177) (by decide +kernel)
theorem ka_q_cl_X3_35 : Cond.classLink RX3 35 RX4 ∈ ka_T := List.mem_filter.mpr ⟨List.mem_of_getElem? (i := 178) (by decide +kernel), by decide +kernel⟩
theorem ka_q_it_X4 : Cond.instantiable RX4 2 ∈ ka_T := List.mem_filter.mpr ⟨List.mem_of_getElem? (i := 179) (by decide +kernel), by decide +kernel⟩
theorem ka_q_ml_X3_37 : Cond.methodLink RX3 37 yX4_init ∈ ka_T := List.mem_filter.mpr ⟨List.mem_of_getElem? (i := 180) (by decide +kernel), by decide +kernel⟩
theorem ka_q_im_X4_init : Cond.instanceMethod yX4_init ∈ ka_T := List.mem_filter.mpr ⟨List.mem_of_getElem? (i := 181) (by decide +kernel), by decide +kernel⟩
theorem ka_q_co_X4_init : Cond.code yX4_init prog_6_method_1_code 1 none ∈ ka_T := List.mem_filter.mpr ⟨List.mem_of_getElem? (i := 182) (by decide +kernel), by decide +kernel⟩
theorem ka_q_ml_X4_3 : Cond.methodLink RX4 3 objectInit ∈ ka_T := List.mem_filter.mpr ⟨List.mem_of_getElem? (i := 183) (by decide +kernel), by decide +kernel⟩
theorem ka_q_fl_X4_9 : Cond.fieldLink RX4 9 RX4 "queue" "[I" ∈ ka_T := List.mem_filter.mpr ⟨List.mem_of_getElem? (i := 184) (by decide +kernel), by decide +kernel⟩
theorem ka_q_fl_X4_21 : Cond.fieldLink RX4 21 RX4 "size" "I" ∈ ka_T := List.mem_filter.mpr ⟨List.mem_of_getElem? (i := 185) (by decide +kernel), by decide +kernel⟩
theorem ka_q_ac_int : Cond.arrayClass FieldType.int ∈ ka_T := List.mem_filter.mpr ⟨List.mem_of_getElem? (i := 191) (by decide +kernel), by decide +kernel⟩
theorem ka_q_fl_X3_11 : Cond.fieldLink RX3 11 RX3 "places" "[LCoalWagons$Place;" ∈ ka_T := List.mem_filter.mpr ⟨List.mem_of_getElem? (i := 192) (by decide +kernel), by decide +kernel⟩
theorem ka_q_fl_X3_20 : Cond.fieldLink RX3 20 RX3 "wagons" "[LCoalWagons$Wagon;" ∈ ka_T := List.mem_filter.mpr ⟨List.mem_of_getElem? (i := 193) (by decide +kernel), by decide +kernel⟩
theorem ka_q_fl_X3_25 : Cond.fieldLink RX3 25 RX3 "legs" "[I" ∈ ka_T := List.mem_filter.mpr ⟨List.mem_of_getElem? (i := 194) (by decide +kernel), by decide +kernel⟩
theorem ka_q_fl_X3_29 : Cond.fieldLink RX3 29 RX3 "settings" "[I" ∈ ka_T := List.mem_filter.mpr ⟨List.mem_of_getElem? (i := 195) (by decide +kernel), by decide +kernel⟩
theorem ka_q_fl_X3_38 : Cond.fieldLink RX3 38 RX3 "shop" "LCoalWagons$Shop;" ∈ ka_T := List.mem_filter.mpr ⟨List.mem_of_getElem? (i := 196) (by decide +kernel), by decide +kernel⟩
theorem ka_q_fl_X3_58 : Cond.fieldLink RX3 58 RX3 "mines" "I" ∈ ka_T := List.mem_filter.mpr ⟨List.mem_of_getElem? (i := 197) (by decide +kernel), by decide +kernel⟩
theorem ka_q_fl_X3_62 : Cond.fieldLink RX3 62 RX3 "wagonCount" "I" ∈ ka_T := List.mem_filter.mpr ⟨List.mem_of_getElem? (i := 198) (by decide +kernel), by decide +kernel⟩
theorem ka_q_fl_X3_65 : Cond.fieldLink RX3 65 RX3 "day" "I" ∈ ka_T := List.mem_filter.mpr ⟨List.mem_of_getElem? (i := 199) (by decide +kernel), by decide +kernel⟩
theorem ka_q_fl_X3_68 : Cond.fieldLink RX3 68 RX3 "repairsEnded" "I" ∈ ka_T := List.mem_filter.mpr ⟨List.mem_of_getElem? (i := 200) (by decide +kernel), by decide +kernel⟩
theorem ka_q_fl_X3_71 : Cond.fieldLink RX3 71 RX3 "trains" "I" ∈ ka_T := List.mem_filter.mpr ⟨List.mem_of_getElem? (i := 201) (by decide +kernel), by decide +kernel⟩
theorem ka_q_fl_X3_74 : Cond.fieldLink RX3 74 RX3 "emptyTrains" "I" ∈ ka_T := List.mem_filter.mpr ⟨List.mem_of_getElem? (i := 202) (by decide +kernel), by decide +kernel⟩
theorem ka_q_cl_X6_19 : Cond.classLink RX6 19 RX0 ∈ ka_T := List.mem_filter.mpr ⟨List.mem_of_getElem? (i := 226) (by decide +kernel), by decide +kernel⟩
theorem ka_q_it_X0 : Cond.instantiable RX0 3 ∈ ka_T := List.mem_filter.mpr ⟨List.mem_of_getElem? (i := 227) (by decide +kernel), by decide +kernel⟩
theorem ka_q_ml_X6_21 : Cond.methodLink RX6 21 yX0_init ∈ ka_T := List.mem_filter.mpr ⟨List.mem_of_getElem? (i := 228) (by decide +kernel), by decide +kernel⟩
theorem ka_q_im_X0_init : Cond.instanceMethod yX0_init ∈ ka_T := List.mem_filter.mpr ⟨List.mem_of_getElem? (i := 229) (by decide +kernel), by decide +kernel⟩
theorem ka_q_co_X0_init : Cond.code yX0_init prog_2_method_1_code 2 none ∈ ka_T := List.mem_filter.mpr ⟨List.mem_of_getElem? (i := 230) (by decide +kernel), by decide +kernel⟩
theorem ka_q_ml_X0_3 : Cond.methodLink RX0 3 objectInit ∈ ka_T := List.mem_filter.mpr ⟨List.mem_of_getElem? (i := 231) (by decide +kernel), by decide +kernel⟩
theorem ka_q_cl_X0_9 : Cond.classLink RX0 9 RX3 ∈ ka_T := List.mem_filter.mpr ⟨List.mem_of_getElem? (i := 232) (by decide +kernel), by decide +kernel⟩
theorem ka_q_ao_X3 : Cond.arrayOver (FieldType.object RX3) ∈ lw_tbl := List.mem_of_getElem? (i := 233) (by decide +kernel)
theorem ka_q_ml_X0_17 : Cond.methodLink RX0 17 yX3_init ∈ ka_T := List.mem_filter.mpr ⟨List.mem_of_getElem? (i := 234) (by decide +kernel), by decide +kernel⟩
theorem ka_q_fl_X0_11 : Cond.fieldLink RX0 11 RX0 "states" "[LCoalWagons$Pool;" ∈ ka_T := List.mem_filter.mpr ⟨List.mem_of_getElem? (i := 235) (by decide +kernel), by decide +kernel⟩
theorem ka_q_fl_X0_22 : Cond.fieldLink RX0 22 RX0 "oldest" "I" ∈ ka_T := List.mem_filter.mpr ⟨List.mem_of_getElem? (i := 236) (by decide +kernel), by decide +kernel⟩
theorem ka_q_fl_X0_18 : Cond.fieldLink RX0 18 RX0 "size" "I" ∈ ka_T := List.mem_filter.mpr ⟨List.mem_of_getElem? (i := 237) (by decide +kernel), by decide +kernel⟩
theorem ka_q_cl_X6_26 : Cond.classLink RX6 26 RX1 ∈ ka_T := List.mem_filter.mpr ⟨List.mem_of_getElem? (i := 245) (by decide +kernel), by decide +kernel⟩
theorem ka_q_it_X1 : Cond.instantiable RX1 9 ∈ ka_T := List.mem_filter.mpr ⟨List.mem_of_getElem? (i := 246) (by decide +kernel), by decide +kernel⟩
theorem ka_q_ml_X6_28 : Cond.methodLink RX6 28 yX1_init ∈ ka_T := List.mem_filter.mpr ⟨List.mem_of_getElem? (i := 247) (by decide +kernel), by decide +kernel⟩
theorem ka_q_im_X1_init : Cond.instanceMethod yX1_init ∈ ka_T := List.mem_filter.mpr ⟨List.mem_of_getElem? (i := 248) (by decide +kernel), by decide +kernel⟩
theorem ka_q_co_X1_init : Cond.code yX1_init prog_3_method_1_code 1 none ∈ ka_T := List.mem_filter.mpr ⟨List.mem_of_getElem? (i := 249) (by decide +kernel), by decide +kernel⟩
theorem ka_q_ml_X1_3 : Cond.methodLink RX1 3 objectInit ∈ ka_T := List.mem_filter.mpr ⟨List.mem_of_getElem? (i := 250) (by decide +kernel), by decide +kernel⟩
theorem ka_q_fl_X1_9 : Cond.fieldLink RX1 9 RX1 "signs" "[I" ∈ ka_T := List.mem_filter.mpr ⟨List.mem_of_getElem? (i := 251) (by decide +kernel), by decide +kernel⟩
theorem ka_q_fl_X1_15 : Cond.fieldLink RX1 15 RX1 "numbers" "[I" ∈ ka_T := List.mem_filter.mpr ⟨List.mem_of_getElem? (i := 252) (by decide +kernel), by decide +kernel⟩
theorem ka_q_fl_X1_18 : Cond.fieldLink RX1 18 RX1 "length" "I" ∈ ka_T := List.mem_filter.mpr ⟨List.mem_of_getElem? (i := 253) (by decide +kernel), by decide +kernel⟩
theorem ka_q_fl_X1_62 : Cond.fieldLink RX1 62 RX1 "letter" "I" ∈ ka_T := List.mem_filter.mpr ⟨List.mem_of_getElem? (i := 254) (by decide +kernel), by decide +kernel⟩
theorem ka_q_fl_X1_40 : Cond.fieldLink RX1 40 RX1 "at" "I" ∈ ka_T := List.mem_filter.mpr ⟨List.mem_of_getElem? (i := 255) (by decide +kernel), by decide +kernel⟩
theorem ka_q_fl_X1_22 : Cond.fieldLink RX1 22 RX1 "orders" "I" ∈ ka_T := List.mem_filter.mpr ⟨List.mem_of_getElem? (i := 256) (by decide +kernel), by decide +kernel⟩
theorem ka_q_fl_X1_28 : Cond.fieldLink RX1 28 RX1 "position" "I" ∈ ka_T := List.mem_filter.mpr ⟨List.mem_of_getElem? (i := 257) (by decide +kernel), by decide +kernel⟩
theorem ka_q_fl_X1_25 : Cond.fieldLink RX1 25 RX1 "reason" "I" ∈ ka_T := List.mem_filter.mpr ⟨List.mem_of_getElem? (i := 258) (by decide +kernel), by decide +kernel⟩
theorem ka_q_fl_X1_31 : Cond.fieldLink RX1 31 RX1 "cause" "I" ∈ ka_T := List.mem_filter.mpr ⟨List.mem_of_getElem? (i := 259) (by decide +kernel), by decide +kernel⟩
theorem ka_q_fl_X6_10 : Cond.fieldLink RX6 10 RX6 "now" "LCoalWagons$Pool;" ∈ ka_T := List.mem_filter.mpr ⟨List.mem_of_getElem? (i := 279) (by decide +kernel), by decide +kernel⟩
theorem ka_q_fl_X6_16 : Cond.fieldLink RX6 16 RX6 "trial" "LCoalWagons$Pool;" ∈ ka_T := List.mem_filter.mpr ⟨List.mem_of_getElem? (i := 280) (by decide +kernel), by decide +kernel⟩
theorem ka_q_fl_X6_22 : Cond.fieldLink RX6 22 RX6 "history" "LCoalWagons$History;" ∈ ka_T := List.mem_filter.mpr ⟨List.mem_of_getElem? (i := 281) (by decide +kernel), by decide +kernel⟩
theorem ka_q_fl_X6_29 : Cond.fieldLink RX6 29 RX6 "text" "LCoalWagons$OrderText;" ∈ ka_T := List.mem_filter.mpr ⟨List.mem_of_getElem? (i := 282) (by decide +kernel), by decide +kernel⟩
theorem ka_q_ml_L_13 : Cond.methodLink RL 13 yX6_mine ∈ ka_T := List.mem_filter.mpr ⟨List.mem_of_getElem? (i := 292) (by decide +kernel), by decide +kernel⟩
theorem ka_q_im_X6_mine : Cond.instanceMethod yX6_mine ∈ ka_T := List.mem_filter.mpr ⟨List.mem_of_getElem? (i := 293) (by decide +kernel), by decide +kernel⟩
theorem ka_q_se_X6_mine : Cond.selects RX6 yX6_mine yX6_mine ∈ ka_T := List.mem_filter.mpr ⟨List.mem_of_getElem? (i := 294) (by decide +kernel), by decide +kernel⟩
theorem ka_q_co_X6_mine : Cond.code yX6_mine prog_1_method_2_code 2 (some FieldType.int) ∈ ka_T := List.mem_filter.mpr ⟨List.mem_of_getElem? (i := 295) (by decide +kernel), by decide +kernel⟩
theorem ka_q_ml_X6_33 : Cond.methodLink RX6 33 yX3_copyFrom ∈ ka_T := List.mem_filter.mpr ⟨List.mem_of_getElem? (i := 296) (by decide +kernel), by decide +kernel⟩
theorem ka_q_im_X3_copyFrom : Cond.instanceMethod yX3_copyFrom ∈ ka_T := List.mem_filter.mpr ⟨List.mem_of_getElem? (i := 297) (by decide +kernel), by decide +kernel⟩
theorem ka_q_se_X3_copyFrom : Cond.selects RX3 yX3_copyFrom yX3_copyFrom ∈ ka_T := List.mem_filter.mpr ⟨List.mem_of_getElem? (i := 298) (by decide +kernel), by decide +kernel⟩
theorem ka_q_co_X3_copyFrom : Cond.code yX3_copyFrom prog_5_method_2_code 3 none ∈ ka_T := List.mem_filter.mpr ⟨List.mem_of_getElem? (i := 299) (by decide +kernel), by decide +kernel⟩
theorem ka_q_ml_X3_42 : Cond.methodLink RX3 42 yX2_copyFrom ∈ ka_T := List.mem_filter.mpr ⟨List.mem_of_getElem? (i := 300) (by decide +kernel), by decide +kernel⟩
theorem ka_q_im_X2_copyFrom : Cond.instanceMethod yX2_copyFrom ∈ ka_T := List.mem_filter.mpr ⟨List.mem_of_getElem? (i := 301) (by decide +kernel), by decide +kernel⟩
theorem ka_q_se_X2_copyFrom : Cond.selects RX2 yX2_copyFrom yX2_copyFrom ∈ ka_T := List.mem_filter.mpr ⟨List.mem_of_getElem? (i := 302) (by decide +kernel), by decide +kernel⟩
theorem ka_q_co_X2_copyFrom : Cond.code yX2_copyFrom prog_4_method_2_code 2 none ∈ ka_T := List.mem_filter.mpr ⟨List.mem_of_getElem? (i := 303) (by decide +kernel), by decide +kernel⟩
theorem ka_q_ml_X3_46 : Cond.methodLink RX3 46 yX5_copyFrom ∈ ka_T := List.mem_filter.mpr ⟨List.mem_of_getElem? (i := 304) (by decide +kernel), by decide +kernel⟩
theorem ka_q_im_X5_copyFrom : Cond.instanceMethod yX5_copyFrom ∈ ka_T := List.mem_filter.mpr ⟨List.mem_of_getElem? (i := 305) (by decide +kernel), by decide +kernel⟩
theorem ka_q_se_X5_copyFrom : Cond.selects RX5 yX5_copyFrom yX5_copyFrom ∈ ka_T := List.mem_filter.mpr ⟨List.mem_of_getElem? (i := 306) (by decide +kernel), by decide +kernel⟩
theorem ka_q_co_X5_copyFrom : Cond.code yX5_copyFrom prog_7_method_2_code 2 none ∈ ka_T := List.mem_filter.mpr ⟨List.mem_of_getElem? (i := 307) (by decide +kernel), by decide +kernel⟩
theorem ka_q_ml_X3_49 : Cond.methodLink RX3 49 arraycopyName ∈ ka_T := List.mem_filter.mpr ⟨List.mem_of_getElem? (i := 308) (by decide +kernel), by decide +kernel⟩
theorem ka_q_st_arraycopy : Cond.static arraycopyName ∈ ka_T := List.mem_filter.mpr ⟨List.mem_of_getElem? (i := 309) (by decide +kernel), by decide +kernel⟩
theorem ka_q_na_arraycopy : Cond.native arraycopyName ∈ ka_T := List.mem_filter.mpr ⟨List.mem_of_getElem? (i := 310) (by decide +kernel), by decide +kernel⟩
theorem ka_q_ml_X3_55 : Cond.methodLink RX3 55 yX4_copyFrom ∈ ka_T := List.mem_filter.mpr ⟨List.mem_of_getElem? (i := 311) (by decide +kernel), by decide +kernel⟩
theorem ka_q_im_X4_copyFrom : Cond.instanceMethod yX4_copyFrom ∈ ka_T := List.mem_filter.mpr ⟨List.mem_of_getElem? (i := 312) (by decide +kernel), by decide +kernel⟩
theorem ka_q_se_X4_copyFrom : Cond.selects RX4 yX4_copyFrom yX4_copyFrom ∈ ka_T := List.mem_filter.mpr ⟨List.mem_of_getElem? (i := 313) (by decide +kernel), by decide +kernel⟩
theorem ka_q_co_X4_copyFrom : Cond.code yX4_copyFrom prog_6_method_2_code 2 none ∈ ka_T := List.mem_filter.mpr ⟨List.mem_of_getElem? (i := 314) (by decide +kernel), by decide +kernel⟩
theorem ka_q_ml_X4_15 : Cond.methodLink RX4 15 arraycopyName ∈ ka_T := List.mem_filter.mpr ⟨List.mem_of_getElem? (i := 315) (by decide +kernel), by decide +kernel⟩
theorem ka_q_ml_X6_37 : Cond.methodLink RX6 37 yX3_addMine ∈ ka_T := List.mem_filter.mpr ⟨List.mem_of_getElem? (i := 316) (by decide +kernel), by decide +kernel⟩
theorem ka_q_im_X3_addMine : Cond.instanceMethod yX3_addMine ∈ ka_T := List.mem_filter.mpr ⟨List.mem_of_getElem? (i := 317) (by decide +kernel), by decide +kernel⟩
theorem ka_q_se_X3_addMine : Cond.selects RX3 yX3_addMine yX3_addMine ∈ ka_T := List.mem_filter.mpr ⟨List.mem_of_getElem? (i := 318) (by decide +kernel), by decide +kernel⟩
theorem ka_q_co_X3_addMine : Cond.code yX3_addMine prog_5_method_14_code 2 (some FieldType.int) ∈ ka_T := List.mem_filter.mpr ⟨List.mem_of_getElem? (i := 319) (by decide +kernel), by decide +kernel⟩
theorem ka_q_st_X6_within : Cond.static yX6_within ∈ ka_T := List.mem_filter.mpr ⟨List.mem_of_getElem? (i := 321) (by decide +kernel), by decide +kernel⟩
theorem ka_q_co_X6_within : Cond.code yX6_within prog_1_method_26_code 3 (some FieldType.boolean) ∈ ka_T := List.mem_filter.mpr ⟨List.mem_of_getElem? (i := 322) (by decide +kernel), by decide +kernel⟩
theorem ka_q_cn_X3_99 : Cond.constant RX3 99 (-2000000001) ∈ ka_T := List.mem_filter.mpr ⟨List.mem_of_getElem? (i := 323) (by decide +kernel), by decide +kernel⟩
theorem ka_q_cn_X3_100 : Cond.constant RX3 100 (-2000000003) ∈ ka_T := List.mem_filter.mpr ⟨List.mem_of_getElem? (i := 324) (by decide +kernel), by decide +kernel⟩
theorem ka_q_ml_X3_85 : Cond.methodLink RX3 85 yX3_placeAt ∈ ka_T := List.mem_filter.mpr ⟨List.mem_of_getElem? (i := 325) (by decide +kernel), by decide +kernel⟩
theorem ka_q_im_X3_placeAt : Cond.instanceMethod yX3_placeAt ∈ ka_T := List.mem_filter.mpr ⟨List.mem_of_getElem? (i := 327) (by decide +kernel), by decide +kernel⟩
theorem ka_q_co_X3_placeAt : Cond.code yX3_placeAt prog_5_method_7_code 2 (some (FieldType.object RX2)) ∈ ka_T := List.mem_filter.mpr ⟨List.mem_of_getElem? (i := 328) (by decide +kernel), by decide +kernel⟩
theorem ka_q_ml_X6_41 : Cond.methodLink RX6 41 yX6_settle ∈ ka_T := List.mem_filter.mpr ⟨List.mem_of_getElem? (i := 329) (by decide +kernel), by decide +kernel⟩
theorem ka_q_im_X6_settle : Cond.instanceMethod yX6_settle ∈ ka_T := List.mem_filter.mpr ⟨List.mem_of_getElem? (i := 331) (by decide +kernel), by decide +kernel⟩
theorem ka_q_co_X6_settle : Cond.code yX6_settle prog_1_method_24_code 2 (some FieldType.int) ∈ ka_T := List.mem_filter.mpr ⟨List.mem_of_getElem? (i := 332) (by decide +kernel), by decide +kernel⟩
theorem ka_q_ml_X6_169 : Cond.methodLink RX6 169 yX6_isError ∈ ka_T := List.mem_filter.mpr ⟨List.mem_of_getElem? (i := 333) (by decide +kernel), by decide +kernel⟩
theorem ka_q_st_X6_isError : Cond.static yX6_isError ∈ ka_T := List.mem_filter.mpr ⟨List.mem_of_getElem? (i := 334) (by decide +kernel), by decide +kernel⟩
theorem ka_q_co_X6_isError : Cond.code yX6_isError prog_1_method_25_code 1 (some FieldType.boolean) ∈ ka_T := List.mem_filter.mpr ⟨List.mem_of_getElem? (i := 335) (by decide +kernel), by decide +kernel⟩
theorem ka_q_cn_X6_112 : Cond.constant RX6 112 (-2000000004) ∈ ka_T := List.mem_filter.mpr ⟨List.mem_of_getElem? (i := 336) (by decide +kernel), by decide +kernel⟩
theorem ka_q_cn_X6_84 : Cond.constant RX6 84 (-2000000001) ∈ ka_T := List.mem_filter.mpr ⟨List.mem_of_getElem? (i := 337) (by decide +kernel), by decide +kernel⟩
theorem ka_q_ml_X6_89 : Cond.methodLink RX6 89 yX6_within ∈ ka_T := List.mem_filter.mpr ⟨List.mem_of_getElem? (i := 338) (by decide +kernel), by decide +kernel⟩
theorem ka_q_ml_X6_172 : Cond.methodLink RX6 172 yX0_record ∈ ka_T := List.mem_filter.mpr ⟨List.mem_of_getElem? (i := 339) (by decide +kernel), by decide +kernel⟩
theorem ka_q_im_X0_record : Cond.instanceMethod yX0_record ∈ ka_T := List.mem_filter.mpr ⟨List.mem_of_getElem? (i := 340) (by decide +kernel), by decide +kernel⟩
theorem ka_q_se_X0_record : Cond.selects RX0 yX0_record yX0_record ∈ ka_T := List.mem_filter.mpr ⟨List.mem_of_getElem? (i := 341) (by decide +kernel), by decide +kernel⟩
theorem ka_q_co_X0_record : Cond.code yX0_record prog_2_method_4_code 2 none ∈ ka_T := List.mem_filter.mpr ⟨List.mem_of_getElem? (i := 342) (by decide +kernel), by decide +kernel⟩
theorem ka_q_ml_X0_25 : Cond.methodLink RX0 25 yJ9_floorMod_7cf53 ∈ ka_T := List.mem_filter.mpr ⟨List.mem_of_getElem? (i := 343) (by decide +kernel), by decide +kernel⟩
theorem ka_q_st_J9_floorMod_7cf53 : Cond.static yJ9_floorMod_7cf53 ∈ ka_T := List.mem_filter.mpr ⟨List.mem_of_getElem? (i := 344) (by decide +kernel), by decide +kernel⟩
theorem ka_q_co_J9_floorMod_7cf53 : Cond.code yJ9_floorMod_7cf53 prog_12_method_50_code 3 (some FieldType.int) ∈ ka_T := List.mem_filter.mpr ⟨List.mem_of_getElem? (i := 345) (by decide +kernel), by decide +kernel⟩
theorem ka_q_ml_X0_31 : Cond.methodLink RX0 31 yX0_stateAt ∈ ka_T := List.mem_filter.mpr ⟨List.mem_of_getElem? (i := 346) (by decide +kernel), by decide +kernel⟩
theorem ka_q_im_X0_stateAt : Cond.instanceMethod yX0_stateAt ∈ ka_T := List.mem_filter.mpr ⟨List.mem_of_getElem? (i := 348) (by decide +kernel), by decide +kernel⟩
theorem ka_q_co_X0_stateAt : Cond.code yX0_stateAt prog_2_method_3_code 2 (some (FieldType.object RX3)) ∈ ka_T := List.mem_filter.mpr ⟨List.mem_of_getElem? (i := 349) (by decide +kernel), by decide +kernel⟩
theorem ka_q_ml_X0_35 : Cond.methodLink RX0 35 yX3_copyFrom ∈ ka_T := List.mem_filter.mpr ⟨List.mem_of_getElem? (i := 350) (by decide +kernel), by decide +kernel⟩
theorem ka_q_ml_L_18 : Cond.methodLink RL 18 yX6_leg ∈ ka_T := List.mem_filter.mpr ⟨List.mem_of_getElem? (i := 351) (by decide +kernel), by decide +kernel⟩
theorem ka_q_im_X6_leg : Cond.instanceMethod yX6_leg ∈ ka_T := List.mem_filter.mpr ⟨List.mem_of_getElem? (i := 352) (by decide +kernel), by decide +kernel⟩
theorem ka_q_se_X6_leg : Cond.selects RX6 yX6_leg yX6_leg ∈ ka_T := List.mem_filter.mpr ⟨List.mem_of_getElem? (i := 353) (by decide +kernel), by decide +kernel⟩
theorem ka_q_co_X6_leg : Cond.code yX6_leg prog_1_method_3_code 4 (some FieldType.int) ∈ ka_T := List.mem_filter.mpr ⟨List.mem_of_getElem? (i := 354) (by decide +kernel), by decide +kernel⟩
theorem ka_q_ml_X6_44 : Cond.methodLink RX6 44 yX3_changeLeg ∈ ka_T := List.mem_filter.mpr ⟨List.mem_of_getElem? (i := 355) (by decide +kernel), by decide +kernel⟩
theorem ka_q_im_X3_changeLeg : Cond.instanceMethod yX3_changeLeg ∈ ka_T := List.mem_filter.mpr ⟨List.mem_of_getElem? (i := 356) (by decide +kernel), by decide +kernel⟩
theorem ka_q_se_X3_changeLeg : Cond.selects RX3 yX3_changeLeg yX3_changeLeg ∈ ka_T := List.mem_filter.mpr ⟨List.mem_of_getElem? (i := 357) (by decide +kernel), by decide +kernel⟩
theorem ka_q_co_X3_changeLeg : Cond.code yX3_changeLeg prog_5_method_15_code 5 (some FieldType.int) ∈ ka_T := List.mem_filter.mpr ⟨List.mem_of_getElem? (i := 358) (by decide +kernel), by decide +kernel⟩
theorem ka_q_ml_X3_104 : Cond.methodLink RX3 104 yX3_isLeg ∈ ka_T := List.mem_filter.mpr ⟨List.mem_of_getElem? (i := 359) (by decide +kernel), by decide +kernel⟩
theorem ka_q_im_X3_isLeg : Cond.instanceMethod yX3_isLeg ∈ ka_T := List.mem_filter.mpr ⟨List.mem_of_getElem? (i := 360) (by decide +kernel), by decide +kernel⟩
theorem ka_q_se_X3_isLeg : Cond.selects RX3 yX3_isLeg yX3_isLeg ∈ ka_T := List.mem_filter.mpr ⟨List.mem_of_getElem? (i := 361) (by decide +kernel), by decide +kernel⟩
theorem ka_q_co_X3_isLeg : Cond.code yX3_isLeg prog_5_method_5_code 3 (some FieldType.boolean) ∈ ka_T := List.mem_filter.mpr ⟨List.mem_of_getElem? (i := 362) (by decide +kernel), by decide +kernel⟩
theorem ka_q_ml_X3_81 : Cond.methodLink RX3 81 yX3_isPlace ∈ ka_T := List.mem_filter.mpr ⟨List.mem_of_getElem? (i := 363) (by decide +kernel), by decide +kernel⟩
theorem ka_q_im_X3_isPlace : Cond.instanceMethod yX3_isPlace ∈ ka_T := List.mem_filter.mpr ⟨List.mem_of_getElem? (i := 364) (by decide +kernel), by decide +kernel⟩
theorem ka_q_se_X3_isPlace : Cond.selects RX3 yX3_isPlace yX3_isPlace ∈ ka_T := List.mem_filter.mpr ⟨List.mem_of_getElem? (i := 365) (by decide +kernel), by decide +kernel⟩
theorem ka_q_co_X3_isPlace : Cond.code yX3_isPlace prog_5_method_3_code 2 (some FieldType.boolean) ∈ ka_T := List.mem_filter.mpr ⟨List.mem_of_getElem? (i := 366) (by decide +kernel), by decide +kernel⟩
theorem ka_q_ml_X3_108 : Cond.methodLink RX3 108 yX3_legDays ∈ ka_T := List.mem_filter.mpr ⟨List.mem_of_getElem? (i := 367) (by decide +kernel), by decide +kernel⟩
theorem ka_q_im_X3_legDays : Cond.instanceMethod yX3_legDays ∈ ka_T := List.mem_filter.mpr ⟨List.mem_of_getElem? (i := 368) (by decide +kernel), by decide +kernel⟩
theorem ka_q_se_X3_legDays : Cond.selects RX3 yX3_legDays yX3_legDays ∈ ka_T := List.mem_filter.mpr ⟨List.mem_of_getElem? (i := 369) (by decide +kernel), by decide +kernel⟩
theorem ka_q_co_X3_legDays : Cond.code yX3_legDays prog_5_method_10_code 4 (some FieldType.int) ∈ ka_T := List.mem_filter.mpr ⟨List.mem_of_getElem? (i := 370) (by decide +kernel), by decide +kernel⟩
theorem ka_q_ml_X3_112 : Cond.methodLink RX3 112 yX3_keepLeg ∈ ka_T := List.mem_filter.mpr ⟨List.mem_of_getElem? (i := 371) (by decide +kernel), by decide +kernel⟩
theorem ka_q_im_X3_keepLeg : Cond.instanceMethod yX3_keepLeg ∈ ka_T := List.mem_filter.mpr ⟨List.mem_of_getElem? (i := 373) (by decide +kernel), by decide +kernel⟩
theorem ka_q_co_X3_keepLeg : Cond.code yX3_keepLeg prog_5_method_11_code 5 none ∈ ka_T := List.mem_filter.mpr ⟨List.mem_of_getElem? (i := 374) (by decide +kernel), by decide +kernel⟩
theorem ka_q_ml_L_23 : Cond.methodLink RL 23 yX6_wagon ∈ ka_T := List.mem_filter.mpr ⟨List.mem_of_getElem? (i := 375) (by decide +kernel), by decide +kernel⟩
theorem ka_q_im_X6_wagon : Cond.instanceMethod yX6_wagon ∈ ka_T := List.mem_filter.mpr ⟨List.mem_of_getElem? (i := 376) (by decide +kernel), by decide +kernel⟩
theorem ka_q_se_X6_wagon : Cond.selects RX6 yX6_wagon yX6_wagon ∈ ka_T := List.mem_filter.mpr ⟨List.mem_of_getElem? (i := 377) (by decide +kernel), by decide +kernel⟩
theorem ka_q_co_X6_wagon : Cond.code yX6_wagon prog_1_method_4_code 2 (some FieldType.int) ∈ ka_T := List.mem_filter.mpr ⟨List.mem_of_getElem? (i := 378) (by decide +kernel), by decide +kernel⟩
theorem ka_q_ml_X6_48 : Cond.methodLink RX6 48 yX3_addWagon ∈ ka_T := List.mem_filter.mpr ⟨List.mem_of_getElem? (i := 379) (by decide +kernel), by decide +kernel⟩
theorem ka_q_im_X3_addWagon : Cond.instanceMethod yX3_addWagon ∈ ka_T := List.mem_filter.mpr ⟨List.mem_of_getElem? (i := 380) (by decide +kernel), by decide +kernel⟩
theorem ka_q_se_X3_addWagon : Cond.selects RX3 yX3_addWagon yX3_addWagon ∈ ka_T := List.mem_filter.mpr ⟨List.mem_of_getElem? (i := 381) (by decide +kernel), by decide +kernel⟩
theorem ka_q_co_X3_addWagon : Cond.code yX3_addWagon prog_5_method_16_code 4 (some FieldType.int) ∈ ka_T := List.mem_filter.mpr ⟨List.mem_of_getElem? (i := 382) (by decide +kernel), by decide +kernel⟩
theorem ka_q_ml_X3_116 : Cond.methodLink RX3 116 yX3_isMine ∈ ka_T := List.mem_filter.mpr ⟨List.mem_of_getElem? (i := 383) (by decide +kernel), by decide +kernel⟩
theorem ka_q_im_X3_isMine : Cond.instanceMethod yX3_isMine ∈ ka_T := List.mem_filter.mpr ⟨List.mem_of_getElem? (i := 384) (by decide +kernel), by decide +kernel⟩
theorem ka_q_se_X3_isMine : Cond.selects RX3 yX3_isMine yX3_isMine ∈ ka_T := List.mem_filter.mpr ⟨List.mem_of_getElem? (i := 385) (by decide +kernel), by decide +kernel⟩
theorem ka_q_co_X3_isMine : Cond.code yX3_isMine prog_5_method_4_code 2 (some FieldType.boolean) ∈ ka_T := List.mem_filter.mpr ⟨List.mem_of_getElem? (i := 386) (by decide +kernel), by decide +kernel⟩
theorem ka_q_ml_X3_119 : Cond.methodLink RX3 119 yX3_wagonAt ∈ ka_T := List.mem_filter.mpr ⟨List.mem_of_getElem? (i := 387) (by decide +kernel), by decide +kernel⟩
theorem ka_q_im_X3_wagonAt : Cond.instanceMethod yX3_wagonAt ∈ ka_T := List.mem_filter.mpr ⟨List.mem_of_getElem? (i := 389) (by decide +kernel), by decide +kernel⟩
theorem ka_q_co_X3_wagonAt : Cond.code yX3_wagonAt prog_5_method_8_code 2 (some (FieldType.object RX5)) ∈ ka_T := List.mem_filter.mpr ⟨List.mem_of_getElem? (i := 390) (by decide +kernel), by decide +kernel⟩
theorem ka_q_ml_X3_129 : Cond.methodLink RX3 129 yX5_standFrom ∈ ka_T := List.mem_filter.mpr ⟨List.mem_of_getElem? (i := 391) (by decide +kernel), by decide +kernel⟩
theorem ka_q_im_X5_standFrom : Cond.instanceMethod yX5_standFrom ∈ ka_T := List.mem_filter.mpr ⟨List.mem_of_getElem? (i := 392) (by decide +kernel), by decide +kernel⟩
theorem ka_q_se_X5_standFrom : Cond.selects RX5 yX5_standFrom yX5_standFrom ∈ ka_T := List.mem_filter.mpr ⟨List.mem_of_getElem? (i := 393) (by decide +kernel), by decide +kernel⟩
theorem ka_q_co_X5_standFrom : Cond.code yX5_standFrom prog_7_method_3_code 2 none ∈ ka_T := List.mem_filter.mpr ⟨List.mem_of_getElem? (i := 394) (by decide +kernel), by decide +kernel⟩
theorem ka_q_ml_L_27 : Cond.methodLink RL 27 yX6_load ∈ ka_T := List.mem_filter.mpr ⟨List.mem_of_getElem? (i := 395) (by decide +kernel), by decide +kernel⟩
theorem ka_q_im_X6_load : Cond.instanceMethod yX6_load ∈ ka_T := List.mem_filter.mpr ⟨List.mem_of_getElem? (i := 396) (by decide +kernel), by decide +kernel⟩
theorem ka_q_se_X6_load : Cond.selects RX6 yX6_load yX6_load ∈ ka_T := List.mem_filter.mpr ⟨List.mem_of_getElem? (i := 397) (by decide +kernel), by decide +kernel⟩
theorem ka_q_co_X6_load : Cond.code yX6_load prog_1_method_5_code 2 (some FieldType.int) ∈ ka_T := List.mem_filter.mpr ⟨List.mem_of_getElem? (i := 398) (by decide +kernel), by decide +kernel⟩
theorem ka_q_ml_X6_51 : Cond.methodLink RX6 51 yX3_loadWagon ∈ ka_T := List.mem_filter.mpr ⟨List.mem_of_getElem? (i := 399) (by decide +kernel), by decide +kernel⟩
theorem ka_q_im_X3_loadWagon : Cond.instanceMethod yX3_loadWagon ∈ ka_T := List.mem_filter.mpr ⟨List.mem_of_getElem? (i := 400) (by decide +kernel), by decide +kernel⟩
theorem ka_q_se_X3_loadWagon : Cond.selects RX3 yX3_loadWagon yX3_loadWagon ∈ ka_T := List.mem_filter.mpr ⟨List.mem_of_getElem? (i := 401) (by decide +kernel), by decide +kernel⟩
theorem ka_q_co_X3_loadWagon : Cond.code yX3_loadWagon prog_5_method_17_code 4 (some FieldType.int) ∈ ka_T := List.mem_filter.mpr ⟨List.mem_of_getElem? (i := 402) (by decide +kernel), by decide +kernel⟩
theorem ka_q_ml_X3_133 : Cond.methodLink RX3 133 yX3_isWagon ∈ ka_T := List.mem_filter.mpr ⟨List.mem_of_getElem? (i := 403) (by decide +kernel), by decide +kernel⟩
theorem ka_q_im_X3_isWagon : Cond.instanceMethod yX3_isWagon ∈ ka_T := List.mem_filter.mpr ⟨List.mem_of_getElem? (i := 405) (by decide +kernel), by decide +kernel⟩
theorem ka_q_co_X3_isWagon : Cond.code yX3_isWagon prog_5_method_6_code 2 (some FieldType.boolean) ∈ ka_T := List.mem_filter.mpr ⟨List.mem_of_getElem? (i := 406) (by decide +kernel), by decide +kernel⟩
theorem ka_q_ml_X3_136 : Cond.methodLink RX3 136 yX3_whyNotLoaded ∈ ka_T := List.mem_filter.mpr ⟨List.mem_of_getElem? (i := 407) (by decide +kernel), by decide +kernel⟩
theorem ka_q_im_X3_whyNotLoaded : Cond.instanceMethod yX3_whyNotLoaded ∈ ka_T := List.mem_filter.mpr ⟨List.mem_of_getElem? (i := 409) (by decide +kernel), by decide +kernel⟩
theorem ka_q_co_X3_whyNotLoaded : Cond.code yX3_whyNotLoaded prog_5_method_18_code 2 (some FieldType.int) ∈ ka_T := List.mem_filter.mpr ⟨List.mem_of_getElem? (i := 410) (by decide +kernel), by decide +kernel⟩
theorem ka_q_ml_X3_157 : Cond.methodLink RX3 157 yX3_isDue ∈ ka_T := List.mem_filter.mpr ⟨List.mem_of_getElem? (i := 411) (by decide +kernel), by decide +kernel⟩
theorem ka_q_im_X3_isDue : Cond.instanceMethod yX3_isDue ∈ ka_T := List.mem_filter.mpr ⟨List.mem_of_getElem? (i := 413) (by decide +kernel), by decide +kernel⟩
theorem ka_q_co_X3_isDue : Cond.code yX3_isDue prog_5_method_13_code 2 (some FieldType.boolean) ∈ ka_T := List.mem_filter.mpr ⟨List.mem_of_getElem? (i := 414) (by decide +kernel), by decide +kernel⟩
theorem ka_q_ml_X3_95 : Cond.methodLink RX3 95 yX3_setting ∈ ka_T := List.mem_filter.mpr ⟨List.mem_of_getElem? (i := 415) (by decide +kernel), by decide +kernel⟩
theorem ka_q_im_X3_setting : Cond.instanceMethod yX3_setting ∈ ka_T := List.mem_filter.mpr ⟨List.mem_of_getElem? (i := 417) (by decide +kernel), by decide +kernel⟩
theorem ka_q_co_X3_setting : Cond.code yX3_setting prog_5_method_9_code 2 (some FieldType.int) ∈ ka_T := List.mem_filter.mpr ⟨List.mem_of_getElem? (i := 418) (by decide +kernel), by decide +kernel⟩
theorem ka_q_cn_X3_140 : Cond.constant RX3 140 (-2000000002) ∈ ka_T := List.mem_filter.mpr ⟨List.mem_of_getElem? (i := 419) (by decide +kernel), by decide +kernel⟩
theorem ka_q_ml_L_31 : Cond.methodLink RL 31 yX6_unload ∈ ka_T := List.mem_filter.mpr ⟨List.mem_of_getElem? (i := 420) (by decide +kernel), by decide +kernel⟩
theorem ka_q_im_X6_unload : Cond.instanceMethod yX6_unload ∈ ka_T := List.mem_filter.mpr ⟨List.mem_of_getElem? (i := 421) (by decide +kernel), by decide +kernel⟩
theorem ka_q_se_X6_unload : Cond.selects RX6 yX6_unload yX6_unload ∈ ka_T := List.mem_filter.mpr ⟨List.mem_of_getElem? (i := 422) (by decide +kernel), by decide +kernel⟩
theorem ka_q_co_X6_unload : Cond.code yX6_unload prog_1_method_6_code 2 (some FieldType.int) ∈ ka_T := List.mem_filter.mpr ⟨List.mem_of_getElem? (i := 423) (by decide +kernel), by decide +kernel⟩
theorem ka_q_ml_X6_54 : Cond.methodLink RX6 54 yX3_unloadWagon ∈ ka_T := List.mem_filter.mpr ⟨List.mem_of_getElem? (i := 424) (by decide +kernel), by decide +kernel⟩
theorem ka_q_im_X3_unloadWagon : Cond.instanceMethod yX3_unloadWagon ∈ ka_T := List.mem_filter.mpr ⟨List.mem_of_getElem? (i := 425) (by decide +kernel), by decide +kernel⟩
theorem ka_q_se_X3_unloadWagon : Cond.selects RX3 yX3_unloadWagon yX3_unloadWagon ∈ ka_T := List.mem_filter.mpr ⟨List.mem_of_getElem? (i := 426) (by decide +kernel), by decide +kernel⟩
theorem ka_q_co_X3_unloadWagon : Cond.code yX3_unloadWagon prog_5_method_19_code 5 (some FieldType.int) ∈ ka_T := List.mem_filter.mpr ⟨List.mem_of_getElem? (i := 427) (by decide +kernel), by decide +kernel⟩
theorem ka_q_ml_X3_161 : Cond.methodLink RX3 161 yX5_isLoadedAtPort ∈ ka_T := List.mem_filter.mpr ⟨List.mem_of_getElem? (i := 428) (by decide +kernel), by decide +kernel⟩
theorem ka_q_im_X5_isLoadedAtPort : Cond.instanceMethod yX5_isLoadedAtPort ∈ ka_T := List.mem_filter.mpr ⟨List.mem_of_getElem? (i := 429) (by decide +kernel), by decide +kernel⟩
theorem ka_q_se_X5_isLoadedAtPort : Cond.selects RX5 yX5_isLoadedAtPort yX5_isLoadedAtPort ∈ ka_T := List.mem_filter.mpr ⟨List.mem_of_getElem? (i := 430) (by decide +kernel), by decide +kernel⟩
theorem ka_q_co_X5_isLoadedAtPort : Cond.code yX5_isLoadedAtPort prog_7_method_8_code 1 (some FieldType.boolean) ∈ ka_T := List.mem_filter.mpr ⟨List.mem_of_getElem? (i := 431) (by decide +kernel), by decide +kernel⟩
theorem ka_q_ml_X3_165 : Cond.methodLink RX3 165 yX2_pay ∈ ka_T := List.mem_filter.mpr ⟨List.mem_of_getElem? (i := 432) (by decide +kernel), by decide +kernel⟩
theorem ka_q_im_X2_pay : Cond.instanceMethod yX2_pay ∈ ka_T := List.mem_filter.mpr ⟨List.mem_of_getElem? (i := 433) (by decide +kernel), by decide +kernel⟩
theorem ka_q_se_X2_pay : Cond.selects RX2 yX2_pay yX2_pay ∈ ka_T := List.mem_filter.mpr ⟨List.mem_of_getElem? (i := 434) (by decide +kernel), by decide +kernel⟩
theorem ka_q_co_X2_pay : Cond.code yX2_pay prog_4_method_4_code 3 none ∈ ka_T := List.mem_filter.mpr ⟨List.mem_of_getElem? (i := 435) (by decide +kernel), by decide +kernel⟩
theorem ka_q_ml_L_35 : Cond.methodLink RL 35 yX6_repair ∈ ka_T := List.mem_filter.mpr ⟨List.mem_of_getElem? (i := 436) (by decide +kernel), by decide +kernel⟩
theorem ka_q_im_X6_repair : Cond.instanceMethod yX6_repair ∈ ka_T := List.mem_filter.mpr ⟨List.mem_of_getElem? (i := 437) (by decide +kernel), by decide +kernel⟩
theorem ka_q_se_X6_repair : Cond.selects RX6 yX6_repair yX6_repair ∈ ka_T := List.mem_filter.mpr ⟨List.mem_of_getElem? (i := 438) (by decide +kernel), by decide +kernel⟩
theorem ka_q_co_X6_repair : Cond.code yX6_repair prog_1_method_7_code 2 (some FieldType.int) ∈ ka_T := List.mem_filter.mpr ⟨List.mem_of_getElem? (i := 439) (by decide +kernel), by decide +kernel⟩
theorem ka_q_ml_X6_57 : Cond.methodLink RX6 57 yX3_repairWagon ∈ ka_T := List.mem_filter.mpr ⟨List.mem_of_getElem? (i := 440) (by decide +kernel), by decide +kernel⟩
theorem ka_q_im_X3_repairWagon : Cond.instanceMethod yX3_repairWagon ∈ ka_T := List.mem_filter.mpr ⟨List.mem_of_getElem? (i := 441) (by decide +kernel), by decide +kernel⟩
theorem ka_q_se_X3_repairWagon : Cond.selects RX3 yX3_repairWagon yX3_repairWagon ∈ ka_T := List.mem_filter.mpr ⟨List.mem_of_getElem? (i := 442) (by decide +kernel), by decide +kernel⟩
theorem ka_q_co_X3_repairWagon : Cond.code yX3_repairWagon prog_5_method_20_code 4 (some FieldType.int) ∈ ka_T := List.mem_filter.mpr ⟨List.mem_of_getElem? (i := 443) (by decide +kernel), by decide +kernel⟩
theorem ka_q_ml_X3_169 : Cond.methodLink RX3 169 yX5_standsAt ∈ ka_T := List.mem_filter.mpr ⟨List.mem_of_getElem? (i := 444) (by decide +kernel), by decide +kernel⟩
theorem ka_q_im_X5_standsAt : Cond.instanceMethod yX5_standsAt ∈ ka_T := List.mem_filter.mpr ⟨List.mem_of_getElem? (i := 445) (by decide +kernel), by decide +kernel⟩
theorem ka_q_se_X5_standsAt : Cond.selects RX5 yX5_standsAt yX5_standsAt ∈ ka_T := List.mem_filter.mpr ⟨List.mem_of_getElem? (i := 446) (by decide +kernel), by decide +kernel⟩
theorem ka_q_co_X5_standsAt : Cond.code yX5_standsAt prog_7_method_5_code 2 (some FieldType.boolean) ∈ ka_T := List.mem_filter.mpr ⟨List.mem_of_getElem? (i := 447) (by decide +kernel), by decide +kernel⟩
theorem ka_q_ml_X3_172 : Cond.methodLink RX3 172 yX4_size ∈ ka_T := List.mem_filter.mpr ⟨List.mem_of_getElem? (i := 448) (by decide +kernel), by decide +kernel⟩
theorem ka_q_im_X4_size : Cond.instanceMethod yX4_size ∈ ka_T := List.mem_filter.mpr ⟨List.mem_of_getElem? (i := 449) (by decide +kernel), by decide +kernel⟩
theorem ka_q_se_X4_size : Cond.selects RX4 yX4_size yX4_size ∈ ka_T := List.mem_filter.mpr ⟨List.mem_of_getElem? (i := 450) (by decide +kernel), by decide +kernel⟩
theorem ka_q_co_X4_size : Cond.code yX4_size prog_6_method_3_code 1 (some FieldType.int) ∈ ka_T := List.mem_filter.mpr ⟨List.mem_of_getElem? (i := 451) (by decide +kernel), by decide +kernel⟩
theorem ka_q_ml_X3_179 : Cond.methodLink RX3 179 yX4_enter ∈ ka_T := List.mem_filter.mpr ⟨List.mem_of_getElem? (i := 452) (by decide +kernel), by decide +kernel⟩
theorem ka_q_im_X4_enter : Cond.instanceMethod yX4_enter ∈ ka_T := List.mem_filter.mpr ⟨List.mem_of_getElem? (i := 453) (by decide +kernel), by decide +kernel⟩
theorem ka_q_se_X4_enter : Cond.selects RX4 yX4_enter yX4_enter ∈ ka_T := List.mem_filter.mpr ⟨List.mem_of_getElem? (i := 454) (by decide +kernel), by decide +kernel⟩
theorem ka_q_co_X4_enter : Cond.code yX4_enter prog_6_method_6_code 2 none ∈ ka_T := List.mem_filter.mpr ⟨List.mem_of_getElem? (i := 455) (by decide +kernel), by decide +kernel⟩
theorem ka_q_ml_X3_182 : Cond.methodLink RX3 182 yX3_beginRepairs ∈ ka_T := List.mem_filter.mpr ⟨List.mem_of_getElem? (i := 456) (by decide +kernel), by decide +kernel⟩
theorem ka_q_im_X3_beginRepairs : Cond.instanceMethod yX3_beginRepairs ∈ ka_T := List.mem_filter.mpr ⟨List.mem_of_getElem? (i := 458) (by decide +kernel), by decide +kernel⟩
theorem ka_q_co_X3_beginRepairs : Cond.code yX3_beginRepairs prog_5_method_28_code 3 none ∈ ka_T := List.mem_filter.mpr ⟨List.mem_of_getElem? (i := 459) (by decide +kernel), by decide +kernel⟩
theorem ka_q_ml_X3_218 : Cond.methodLink RX3 218 yX4_atWork ∈ ka_T := List.mem_filter.mpr ⟨List.mem_of_getElem? (i := 460) (by decide +kernel), by decide +kernel⟩
theorem ka_q_im_X4_atWork : Cond.instanceMethod yX4_atWork ∈ ka_T := List.mem_filter.mpr ⟨List.mem_of_getElem? (i := 461) (by decide +kernel), by decide +kernel⟩
theorem ka_q_se_X4_atWork : Cond.selects RX4 yX4_atWork yX4_atWork ∈ ka_T := List.mem_filter.mpr ⟨List.mem_of_getElem? (i := 462) (by decide +kernel), by decide +kernel⟩
theorem ka_q_co_X4_atWork : Cond.code yX4_atWork prog_6_method_4_code 1 (some FieldType.int) ∈ ka_T := List.mem_filter.mpr ⟨List.mem_of_getElem? (i := 463) (by decide +kernel), by decide +kernel⟩
theorem ka_q_ml_X3_221 : Cond.methodLink RX3 221 yX4_numberAt ∈ ka_T := List.mem_filter.mpr ⟨List.mem_of_getElem? (i := 464) (by decide +kernel), by decide +kernel⟩
theorem ka_q_im_X4_numberAt : Cond.instanceMethod yX4_numberAt ∈ ka_T := List.mem_filter.mpr ⟨List.mem_of_getElem? (i := 465) (by decide +kernel), by decide +kernel⟩
theorem ka_q_se_X4_numberAt : Cond.selects RX4 yX4_numberAt yX4_numberAt ∈ ka_T := List.mem_filter.mpr ⟨List.mem_of_getElem? (i := 466) (by decide +kernel), by decide +kernel⟩
theorem ka_q_co_X4_numberAt : Cond.code yX4_numberAt prog_6_method_5_code 2 (some FieldType.int) ∈ ka_T := List.mem_filter.mpr ⟨List.mem_of_getElem? (i := 467) (by decide +kernel), by decide +kernel⟩
theorem ka_q_ml_L_39 : Cond.methodLink RL 39 yX6_train ∈ ka_T := List.mem_filter.mpr ⟨List.mem_of_getElem? (i := 468) (by decide +kernel), by decide +kernel⟩
theorem ka_q_im_X6_train : Cond.instanceMethod yX6_train ∈ ka_T := List.mem_filter.mpr ⟨List.mem_of_getElem? (i := 469) (by decide +kernel), by decide +kernel⟩
theorem ka_q_se_X6_train : Cond.selects RX6 yX6_train yX6_train ∈ ka_T := List.mem_filter.mpr ⟨List.mem_of_getElem? (i := 470) (by decide +kernel), by decide +kernel⟩
theorem ka_q_co_X6_train : Cond.code yX6_train prog_1_method_8_code 5 (some FieldType.int) ∈ ka_T := List.mem_filter.mpr ⟨List.mem_of_getElem? (i := 471) (by decide +kernel), by decide +kernel⟩
theorem ka_q_ml_X6_60 : Cond.methodLink RX6 60 yX3_sendTrain ∈ ka_T := List.mem_filter.mpr ⟨List.mem_of_getElem? (i := 472) (by decide +kernel), by decide +kernel⟩
theorem ka_q_im_X3_sendTrain : Cond.instanceMethod yX3_sendTrain ∈ ka_T := List.mem_filter.mpr ⟨List.mem_of_getElem? (i := 473) (by decide +kernel), by decide +kernel⟩
theorem ka_q_se_X3_sendTrain : Cond.selects RX3 yX3_sendTrain yX3_sendTrain ∈ ka_T := List.mem_filter.mpr ⟨List.mem_of_getElem? (i := 474) (by decide +kernel), by decide +kernel⟩
theorem ka_q_co_X3_sendTrain : Cond.code yX3_sendTrain prog_5_method_21_code 11 (some FieldType.int) ∈ ka_T := List.mem_filter.mpr ⟨List.mem_of_getElem? (i := 475) (by decide +kernel), by decide +kernel⟩
theorem ka_q_ml_X3_185 : Cond.methodLink RX3 185 yX5_isOfKind ∈ ka_T := List.mem_filter.mpr ⟨List.mem_of_getElem? (i := 476) (by decide +kernel), by decide +kernel⟩
theorem ka_q_im_X5_isOfKind : Cond.instanceMethod yX5_isOfKind ∈ ka_T := List.mem_filter.mpr ⟨List.mem_of_getElem? (i := 477) (by decide +kernel), by decide +kernel⟩
theorem ka_q_se_X5_isOfKind : Cond.selects RX5 yX5_isOfKind yX5_isOfKind ∈ ka_T := List.mem_filter.mpr ⟨List.mem_of_getElem? (i := 478) (by decide +kernel), by decide +kernel⟩
theorem ka_q_co_X5_isOfKind : Cond.code yX5_isOfKind prog_7_method_9_code 2 (some FieldType.boolean) ∈ ka_T := List.mem_filter.mpr ⟨List.mem_of_getElem? (i := 479) (by decide +kernel), by decide +kernel⟩
theorem ka_q_ml_X3_188 : Cond.methodLink RX3 188 yX5_leaveFor ∈ ka_T := List.mem_filter.mpr ⟨List.mem_of_getElem? (i := 480) (by decide +kernel), by decide +kernel⟩
theorem ka_q_im_X5_leaveFor : Cond.instanceMethod yX5_leaveFor ∈ ka_T := List.mem_filter.mpr ⟨List.mem_of_getElem? (i := 481) (by decide +kernel), by decide +kernel⟩
theorem ka_q_se_X5_leaveFor : Cond.selects RX5 yX5_leaveFor yX5_leaveFor ∈ ka_T := List.mem_filter.mpr ⟨List.mem_of_getElem? (i := 482) (by decide +kernel), by decide +kernel⟩
theorem ka_q_co_X5_leaveFor : Cond.code yX5_leaveFor prog_7_method_4_code 4 none ∈ ka_T := List.mem_filter.mpr ⟨List.mem_of_getElem? (i := 483) (by decide +kernel), by decide +kernel⟩
theorem ka_q_ml_L_44 : Cond.methodLink RL 44 yX6_pass ∈ ka_T := List.mem_filter.mpr ⟨List.mem_of_getElem? (i := 484) (by decide +kernel), by decide +kernel⟩
theorem ka_q_im_X6_pass : Cond.instanceMethod yX6_pass ∈ ka_T := List.mem_filter.mpr ⟨List.mem_of_getElem? (i := 485) (by decide +kernel), by decide +kernel⟩
theorem ka_q_se_X6_pass : Cond.selects RX6 yX6_pass yX6_pass ∈ ka_T := List.mem_filter.mpr ⟨List.mem_of_getElem? (i := 486) (by decide +kernel), by decide +kernel⟩
theorem ka_q_co_X6_pass : Cond.code yX6_pass prog_1_method_9_code 2 (some FieldType.int) ∈ ka_T := List.mem_filter.mpr ⟨List.mem_of_getElem? (i := 487) (by decide +kernel), by decide +kernel⟩
theorem ka_q_ml_X6_64 : Cond.methodLink RX6 64 yX3_passDays ∈ ka_T := List.mem_filter.mpr ⟨List.mem_of_getElem? (i := 488) (by decide +kernel), by decide +kernel⟩
theorem ka_q_im_X3_passDays : Cond.instanceMethod yX3_passDays ∈ ka_T := List.mem_filter.mpr ⟨List.mem_of_getElem? (i := 489) (by decide +kernel), by decide +kernel⟩
theorem ka_q_se_X3_passDays : Cond.selects RX3 yX3_passDays yX3_passDays ∈ ka_T := List.mem_filter.mpr ⟨List.mem_of_getElem? (i := 490) (by decide +kernel), by decide +kernel⟩
theorem ka_q_co_X3_passDays : Cond.code yX3_passDays prog_5_method_22_code 2 (some FieldType.int) ∈ ka_T := List.mem_filter.mpr ⟨List.mem_of_getElem? (i := 491) (by decide +kernel), by decide +kernel⟩
theorem ka_q_ml_X3_191 : Cond.methodLink RX3 191 yX3_letDaysPass ∈ ka_T := List.mem_filter.mpr ⟨List.mem_of_getElem? (i := 492) (by decide +kernel), by decide +kernel⟩
theorem ka_q_im_X3_letDaysPass : Cond.instanceMethod yX3_letDaysPass ∈ ka_T := List.mem_filter.mpr ⟨List.mem_of_getElem? (i := 493) (by decide +kernel), by decide +kernel⟩
theorem ka_q_se_X3_letDaysPass : Cond.selects RX3 yX3_letDaysPass yX3_letDaysPass ∈ ka_T := List.mem_filter.mpr ⟨List.mem_of_getElem? (i := 494) (by decide +kernel), by decide +kernel⟩
theorem ka_q_co_X3_letDaysPass : Cond.code yX3_letDaysPass prog_5_method_24_code 4 (some FieldType.int) ∈ ka_T := List.mem_filter.mpr ⟨List.mem_of_getElem? (i := 495) (by decide +kernel), by decide +kernel⟩
theorem ka_q_ml_X3_200 : Cond.methodLink RX3 200 yX3_growHeaps ∈ ka_T := List.mem_filter.mpr ⟨List.mem_of_getElem? (i := 496) (by decide +kernel), by decide +kernel⟩
theorem ka_q_im_X3_growHeaps : Cond.instanceMethod yX3_growHeaps ∈ ka_T := List.mem_filter.mpr ⟨List.mem_of_getElem? (i := 498) (by decide +kernel), by decide +kernel⟩
theorem ka_q_co_X3_growHeaps : Cond.code yX3_growHeaps prog_5_method_25_code 2 none ∈ ka_T := List.mem_filter.mpr ⟨List.mem_of_getElem? (i := 499) (by decide +kernel), by decide +kernel⟩
theorem ka_q_ml_X3_212 : Cond.methodLink RX3 212 yX2_grow ∈ ka_T := List.mem_filter.mpr ⟨List.mem_of_getElem? (i := 500) (by decide +kernel), by decide +kernel⟩
theorem ka_q_im_X2_grow : Cond.instanceMethod yX2_grow ∈ ka_T := List.mem_filter.mpr ⟨List.mem_of_getElem? (i := 501) (by decide +kernel), by decide +kernel⟩
theorem ka_q_se_X2_grow : Cond.selects RX2 yX2_grow yX2_grow ∈ ka_T := List.mem_filter.mpr ⟨List.mem_of_getElem? (i := 502) (by decide +kernel), by decide +kernel⟩
theorem ka_q_co_X2_grow : Cond.code yX2_grow prog_4_method_3_code 1 none ∈ ka_T := List.mem_filter.mpr ⟨List.mem_of_getElem? (i := 503) (by decide +kernel), by decide +kernel⟩
theorem ka_q_ml_X3_203 : Cond.methodLink RX3 203 yX3_arrive ∈ ka_T := List.mem_filter.mpr ⟨List.mem_of_getElem? (i := 504) (by decide +kernel), by decide +kernel⟩
theorem ka_q_im_X3_arrive : Cond.instanceMethod yX3_arrive ∈ ka_T := List.mem_filter.mpr ⟨List.mem_of_getElem? (i := 506) (by decide +kernel), by decide +kernel⟩
theorem ka_q_co_X3_arrive : Cond.code yX3_arrive prog_5_method_26_code 4 (some FieldType.int) ∈ ka_T := List.mem_filter.mpr ⟨List.mem_of_getElem? (i := 507) (by decide +kernel), by decide +kernel⟩
theorem ka_q_ml_X3_206 : Cond.methodLink RX3 206 yX3_endRepairs ∈ ka_T := List.mem_filter.mpr ⟨List.mem_of_getElem? (i := 508) (by decide +kernel), by decide +kernel⟩
theorem ka_q_im_X3_endRepairs : Cond.instanceMethod yX3_endRepairs ∈ ka_T := List.mem_filter.mpr ⟨List.mem_of_getElem? (i := 510) (by decide +kernel), by decide +kernel⟩
theorem ka_q_co_X3_endRepairs : Cond.code yX3_endRepairs prog_5_method_27_code 3 none ∈ ka_T := List.mem_filter.mpr ⟨List.mem_of_getElem? (i := 511) (by decide +kernel), by decide +kernel⟩
theorem ka_q_ml_X3_224 : Cond.methodLink RX3 224 yX4_leave ∈ ka_T := List.mem_filter.mpr ⟨List.mem_of_getElem? (i := 512) (by decide +kernel), by decide +kernel⟩
theorem ka_q_im_X4_leave : Cond.instanceMethod yX4_leave ∈ ka_T := List.mem_filter.mpr ⟨List.mem_of_getElem? (i := 513) (by decide +kernel), by decide +kernel⟩
theorem ka_q_se_X4_leave : Cond.selects RX4 yX4_leave yX4_leave ∈ ka_T := List.mem_filter.mpr ⟨List.mem_of_getElem? (i := 514) (by decide +kernel), by decide +kernel⟩
theorem ka_q_co_X4_leave : Cond.code yX4_leave prog_6_method_7_code 3 none ∈ ka_T := List.mem_filter.mpr ⟨List.mem_of_getElem? (i := 515) (by decide +kernel), by decide +kernel⟩
theorem ka_q_ml_X3_209 : Cond.methodLink RX3 209 yX3_payForTheDay ∈ ka_T := List.mem_filter.mpr ⟨List.mem_of_getElem? (i := 516) (by decide +kernel), by decide +kernel⟩
theorem ka_q_im_X3_payForTheDay : Cond.instanceMethod yX3_payForTheDay ∈ ka_T := List.mem_filter.mpr ⟨List.mem_of_getElem? (i := 518) (by decide +kernel), by decide +kernel⟩
theorem ka_q_co_X3_payForTheDay : Cond.code yX3_payForTheDay prog_5_method_29_code 8 none ∈ ka_T := List.mem_filter.mpr ⟨List.mem_of_getElem? (i := 519) (by decide +kernel), by decide +kernel⟩
theorem ka_q_ml_X3_227 : Cond.methodLink RX3 227 yX5_isHired ∈ ka_T := List.mem_filter.mpr ⟨List.mem_of_getElem? (i := 520) (by decide +kernel), by decide +kernel⟩
theorem ka_q_im_X5_isHired : Cond.instanceMethod yX5_isHired ∈ ka_T := List.mem_filter.mpr ⟨List.mem_of_getElem? (i := 521) (by decide +kernel), by decide +kernel⟩
theorem ka_q_se_X5_isHired : Cond.selects RX5 yX5_isHired yX5_isHired ∈ ka_T := List.mem_filter.mpr ⟨List.mem_of_getElem? (i := 522) (by decide +kernel), by decide +kernel⟩
theorem ka_q_co_X5_isHired : Cond.code yX5_isHired prog_7_method_7_code 1 (some FieldType.boolean) ∈ ka_T := List.mem_filter.mpr ⟨List.mem_of_getElem? (i := 523) (by decide +kernel), by decide +kernel⟩
theorem ka_q_ml_X3_230 : Cond.methodLink RX3 230 yX2_payHire ∈ ka_T := List.mem_filter.mpr ⟨List.mem_of_getElem? (i := 524) (by decide +kernel), by decide +kernel⟩
theorem ka_q_im_X2_payHire : Cond.instanceMethod yX2_payHire ∈ ka_T := List.mem_filter.mpr ⟨List.mem_of_getElem? (i := 525) (by decide +kernel), by decide +kernel⟩
theorem ka_q_se_X2_payHire : Cond.selects RX2 yX2_payHire yX2_payHire ∈ ka_T := List.mem_filter.mpr ⟨List.mem_of_getElem? (i := 526) (by decide +kernel), by decide +kernel⟩
theorem ka_q_co_X2_payHire : Cond.code yX2_payHire prog_4_method_5_code 3 none ∈ ka_T := List.mem_filter.mpr ⟨List.mem_of_getElem? (i := 527) (by decide +kernel), by decide +kernel⟩
theorem ka_q_ml_X3_236 : Cond.methodLink RX3 236 yX2_payDemurrage ∈ ka_T := List.mem_filter.mpr ⟨List.mem_of_getElem? (i := 528) (by decide +kernel), by decide +kernel⟩
theorem ka_q_im_X2_payDemurrage : Cond.instanceMethod yX2_payDemurrage ∈ ka_T := List.mem_filter.mpr ⟨List.mem_of_getElem? (i := 529) (by decide +kernel), by decide +kernel⟩
theorem ka_q_se_X2_payDemurrage : Cond.selects RX2 yX2_payDemurrage yX2_payDemurrage ∈ ka_T := List.mem_filter.mpr ⟨List.mem_of_getElem? (i := 530) (by decide +kernel), by decide +kernel⟩
theorem ka_q_co_X2_payDemurrage : Cond.code yX2_payDemurrage prog_4_method_6_code 3 none ∈ ka_T := List.mem_filter.mpr ⟨List.mem_of_getElem? (i := 531) (by decide +kernel), by decide +kernel⟩
theorem ka_q_ml_L_48 : Cond.methodLink RL 48 yX6_set ∈ ka_T := List.mem_filter.mpr ⟨List.mem_of_getElem? (i := 532) (by decide +kernel), by decide +kernel⟩
theorem ka_q_im_X6_set : Cond.instanceMethod yX6_set ∈ ka_T := List.mem_filter.mpr ⟨List.mem_of_getElem? (i := 533) (by decide +kernel), by decide +kernel⟩
theorem ka_q_se_X6_set : Cond.selects RX6 yX6_set yX6_set ∈ ka_T := List.mem_filter.mpr ⟨List.mem_of_getElem? (i := 534) (by decide +kernel), by decide +kernel⟩
theorem ka_q_co_X6_set : Cond.code yX6_set prog_1_method_10_code 3 (some FieldType.int) ∈ ka_T := List.mem_filter.mpr ⟨List.mem_of_getElem? (i := 535) (by decide +kernel), by decide +kernel⟩
theorem ka_q_ml_X6_67 : Cond.methodLink RX6 67 yX3_changeSetting ∈ ka_T := List.mem_filter.mpr ⟨List.mem_of_getElem? (i := 536) (by decide +kernel), by decide +kernel⟩
theorem ka_q_im_X3_changeSetting : Cond.instanceMethod yX3_changeSetting ∈ ka_T := List.mem_filter.mpr ⟨List.mem_of_getElem? (i := 537) (by decide +kernel), by decide +kernel⟩
theorem ka_q_se_X3_changeSetting : Cond.selects RX3 yX3_changeSetting yX3_changeSetting ∈ ka_T := List.mem_filter.mpr ⟨List.mem_of_getElem? (i := 538) (by decide +kernel), by decide +kernel⟩
theorem ka_q_co_X3_changeSetting : Cond.code yX3_changeSetting prog_5_method_23_code 4 (some FieldType.int) ∈ ka_T := List.mem_filter.mpr ⟨List.mem_of_getElem? (i := 539) (by decide +kernel), by decide +kernel⟩
theorem ka_q_ls_X6_LOWEST_SETTING : Cond.laysStatic RX6 "LOWEST_SETTING" "[I" ∈ lw_tbl := List.mem_of_getElem? (i := 541) (by decide +kernel)
theorem ka_q_ls_X6_HIGHEST_SETTING : Cond.laysStatic RX6 "HIGHEST_SETTING" "[I" ∈ lw_tbl := List.mem_of_getElem? (i := 543) (by decide +kernel)
theorem ka_q_ml_L_53 : Cond.methodLink RL 53 yX6_wagonOf ∈ ka_T := List.mem_filter.mpr ⟨List.mem_of_getElem? (i := 544) (by decide +kernel), by decide +kernel⟩
theorem ka_q_im_X6_wagonOf : Cond.instanceMethod yX6_wagonOf ∈ ka_T := List.mem_filter.mpr ⟨List.mem_of_getElem? (i := 545) (by decide +kernel), by decide +kernel⟩
theorem ka_q_se_X6_wagonOf : Cond.selects RX6 yX6_wagonOf yX6_wagonOf ∈ ka_T := List.mem_filter.mpr ⟨List.mem_of_getElem? (i := 546) (by decide +kernel), by decide +kernel⟩
theorem ka_q_co_X6_wagonOf : Cond.code yX6_wagonOf prog_1_method_11_code 3 (some FieldType.int) ∈ ka_T := List.mem_filter.mpr ⟨List.mem_of_getElem? (i := 547) (by decide +kernel), by decide +kernel⟩
theorem ka_q_ml_X6_71 : Cond.methodLink RX6 71 yX3_tellOfWagon ∈ ka_T := List.mem_filter.mpr ⟨List.mem_of_getElem? (i := 548) (by decide +kernel), by decide +kernel⟩
theorem ka_q_im_X3_tellOfWagon : Cond.instanceMethod yX3_tellOfWagon ∈ ka_T := List.mem_filter.mpr ⟨List.mem_of_getElem? (i := 549) (by decide +kernel), by decide +kernel⟩
theorem ka_q_se_X3_tellOfWagon : Cond.selects RX3 yX3_tellOfWagon yX3_tellOfWagon ∈ ka_T := List.mem_filter.mpr ⟨List.mem_of_getElem? (i := 550) (by decide +kernel), by decide +kernel⟩
theorem ka_q_co_X3_tellOfWagon : Cond.code yX3_tellOfWagon prog_5_method_30_code 4 (some FieldType.int) ∈ ka_T := List.mem_filter.mpr ⟨List.mem_of_getElem? (i := 551) (by decide +kernel), by decide +kernel⟩
theorem ka_q_cn_X3_239 : Cond.constant RX3 239 (-2000000004) ∈ ka_T := List.mem_filter.mpr ⟨List.mem_of_getElem? (i := 552) (by decide +kernel), by decide +kernel⟩
theorem ka_q_ml_L_57 : Cond.methodLink RL 57 yX6_placeOf ∈ ka_T := List.mem_filter.mpr ⟨List.mem_of_getElem? (i := 553) (by decide +kernel), by decide +kernel⟩
theorem ka_q_im_X6_placeOf : Cond.instanceMethod yX6_placeOf ∈ ka_T := List.mem_filter.mpr ⟨List.mem_of_getElem? (i := 554) (by decide +kernel), by decide +kernel⟩
theorem ka_q_se_X6_placeOf : Cond.selects RX6 yX6_placeOf yX6_placeOf ∈ ka_T := List.mem_filter.mpr ⟨List.mem_of_getElem? (i := 555) (by decide +kernel), by decide +kernel⟩
theorem ka_q_co_X6_placeOf : Cond.code yX6_placeOf prog_1_method_12_code 3 (some FieldType.int) ∈ ka_T := List.mem_filter.mpr ⟨List.mem_of_getElem? (i := 556) (by decide +kernel), by decide +kernel⟩
theorem ka_q_ml_X6_74 : Cond.methodLink RX6 74 yX3_tellOfPlace ∈ ka_T := List.mem_filter.mpr ⟨List.mem_of_getElem? (i := 557) (by decide +kernel), by decide +kernel⟩
theorem ka_q_im_X3_tellOfPlace : Cond.instanceMethod yX3_tellOfPlace ∈ ka_T := List.mem_filter.mpr ⟨List.mem_of_getElem? (i := 558) (by decide +kernel), by decide +kernel⟩
theorem ka_q_se_X3_tellOfPlace : Cond.selects RX3 yX3_tellOfPlace yX3_tellOfPlace ∈ ka_T := List.mem_filter.mpr ⟨List.mem_of_getElem? (i := 559) (by decide +kernel), by decide +kernel⟩
theorem ka_q_co_X3_tellOfPlace : Cond.code yX3_tellOfPlace prog_5_method_31_code 4 (some FieldType.int) ∈ ka_T := List.mem_filter.mpr ⟨List.mem_of_getElem? (i := 560) (by decide +kernel), by decide +kernel⟩
theorem ka_q_ml_X3_240 : Cond.methodLink RX3 240 yX3_setStanding ∈ ka_T := List.mem_filter.mpr ⟨List.mem_of_getElem? (i := 561) (by decide +kernel), by decide +kernel⟩
theorem ka_q_im_X3_setStanding : Cond.instanceMethod yX3_setStanding ∈ ka_T := List.mem_filter.mpr ⟨List.mem_of_getElem? (i := 563) (by decide +kernel), by decide +kernel⟩
theorem ka_q_co_X3_setStanding : Cond.code yX3_setStanding prog_5_method_32_code 6 (some FieldType.int) ∈ ka_T := List.mem_filter.mpr ⟨List.mem_of_getElem? (i := 564) (by decide +kernel), by decide +kernel⟩
theorem ka_q_ml_X3_243 : Cond.methodLink RX3 243 yX3_setOnTheWayTo ∈ ka_T := List.mem_filter.mpr ⟨List.mem_of_getElem? (i := 565) (by decide +kernel), by decide +kernel⟩
theorem ka_q_im_X3_setOnTheWayTo : Cond.instanceMethod yX3_setOnTheWayTo ∈ ka_T := List.mem_filter.mpr ⟨List.mem_of_getElem? (i := 567) (by decide +kernel), by decide +kernel⟩
theorem ka_q_co_X3_setOnTheWayTo : Cond.code yX3_setOnTheWayTo prog_5_method_33_code 4 (some FieldType.int) ∈ ka_T := List.mem_filter.mpr ⟨List.mem_of_getElem? (i := 568) (by decide +kernel), by decide +kernel⟩
theorem ka_q_ml_X3_255 : Cond.methodLink RX3 255 yX5_isOnItsWayTo ∈ ka_T := List.mem_filter.mpr ⟨List.mem_of_getElem? (i := 569) (by decide +kernel), by decide +kernel⟩
theorem ka_q_im_X5_isOnItsWayTo : Cond.instanceMethod yX5_isOnItsWayTo ∈ ka_T := List.mem_filter.mpr ⟨List.mem_of_getElem? (i := 570) (by decide +kernel), by decide +kernel⟩
theorem ka_q_se_X5_isOnItsWayTo : Cond.selects RX5 yX5_isOnItsWayTo yX5_isOnItsWayTo ∈ ka_T := List.mem_filter.mpr ⟨List.mem_of_getElem? (i := 571) (by decide +kernel), by decide +kernel⟩
theorem ka_q_co_X5_isOnItsWayTo : Cond.code yX5_isOnItsWayTo prog_7_method_6_code 2 (some FieldType.boolean) ∈ ka_T := List.mem_filter.mpr ⟨List.mem_of_getElem? (i := 572) (by decide +kernel), by decide +kernel⟩
theorem ka_q_ml_X3_246 : Cond.methodLink RX3 246 yX3_setOwnedBy ∈ ka_T := List.mem_filter.mpr ⟨List.mem_of_getElem? (i := 573) (by decide +kernel), by decide +kernel⟩
theorem ka_q_im_X3_setOwnedBy : Cond.instanceMethod yX3_setOwnedBy ∈ ka_T := List.mem_filter.mpr ⟨List.mem_of_getElem? (i := 575) (by decide +kernel), by decide +kernel⟩
theorem ka_q_co_X3_setOwnedBy : Cond.code yX3_setOwnedBy prog_5_method_34_code 4 (some FieldType.int) ∈ ka_T := List.mem_filter.mpr ⟨List.mem_of_getElem? (i := 576) (by decide +kernel), by decide +kernel⟩
theorem ka_q_ml_L_61 : Cond.methodLink RL 61 yX6_days ∈ ka_T := List.mem_filter.mpr ⟨List.mem_of_getElem? (i := 577) (by decide +kernel), by decide +kernel⟩
theorem ka_q_im_X6_days : Cond.instanceMethod yX6_days ∈ ka_T := List.mem_filter.mpr ⟨List.mem_of_getElem? (i := 578) (by decide +kernel), by decide +kernel⟩
theorem ka_q_se_X6_days : Cond.selects RX6 yX6_days yX6_days ∈ ka_T := List.mem_filter.mpr ⟨List.mem_of_getElem? (i := 579) (by decide +kernel), by decide +kernel⟩
theorem ka_q_co_X6_days : Cond.code yX6_days prog_1_method_13_code 3 (some FieldType.int) ∈ ka_T := List.mem_filter.mpr ⟨List.mem_of_getElem? (i := 580) (by decide +kernel), by decide +kernel⟩
theorem ka_q_ml_X6_77 : Cond.methodLink RX6 77 yX3_isLeg ∈ ka_T := List.mem_filter.mpr ⟨List.mem_of_getElem? (i := 581) (by decide +kernel), by decide +kernel⟩
theorem ka_q_ml_X6_81 : Cond.methodLink RX6 81 yX3_legDays ∈ ka_T := List.mem_filter.mpr ⟨List.mem_of_getElem? (i := 582) (by decide +kernel), by decide +kernel⟩
theorem ka_q_ml_L_65 : Cond.methodLink RL 65 yX6_would ∈ ka_T := List.mem_filter.mpr ⟨List.mem_of_getElem? (i := 583) (by decide +kernel), by decide +kernel⟩
theorem ka_q_im_X6_would : Cond.instanceMethod yX6_would ∈ ka_T := List.mem_filter.mpr ⟨List.mem_of_getElem? (i := 584) (by decide +kernel), by decide +kernel⟩
theorem ka_q_se_X6_would : Cond.selects RX6 yX6_would yX6_would ∈ ka_T := List.mem_filter.mpr ⟨List.mem_of_getElem? (i := 585) (by decide +kernel), by decide +kernel⟩
