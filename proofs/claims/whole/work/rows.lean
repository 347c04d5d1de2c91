section
-- ===== PART A: goes FIRST, ahead of the names: the tables' words, and 'selects' of the private methods out of them =====
/-- a private method of a class that the tables say can be made, by its rows of tables_1 -/
def lw_okq (q : MethodName × Nat) : Prop := (q.1.cls ≠ "java/lang/invoke/MethodHandle" ∧ q.1.cls ≠ "java/lang/invoke/VarHandle") ∧ Cond.instantiable q.1.cls q.2 ∈ tables_1 ∧ Cond.privateMethod q.1 ∈ tables_1 ∧ Cond.instanceMethod q.1 ∈ tables_1
theorem lw_p0 : lw_okq (⟨"CoalWagons$Pool", "placeAt", "(I)LCoalWagons$Place;"⟩, 11) := ⟨⟨by decide +kernel, by decide +kernel⟩, List.mem_of_getElem? (i := 22) (by decide +kernel), List.mem_of_getElem? (i := 253) (by decide +kernel), List.mem_of_getElem? (i := 254) (by decide +kernel)⟩
theorem lw_p1 : lw_okq (⟨"CoalWagons", "settle", "(I)I"⟩, 4) := ⟨⟨by decide +kernel, by decide +kernel⟩, List.mem_of_getElem? (i := 14) (by decide +kernel), List.mem_of_getElem? (i := 257) (by decide +kernel), List.mem_of_getElem? (i := 258) (by decide +kernel)⟩
theorem lw_p2 : lw_okq (⟨"CoalWagons$History", "stateAt", "(I)LCoalWagons$Pool;"⟩, 3) := ⟨⟨by decide +kernel, by decide +kernel⟩, List.mem_of_getElem? (i := 154) (by decide +kernel), List.mem_of_getElem? (i := 274) (by decide +kernel), List.mem_of_getElem? (i := 275) (by decide +kernel)⟩
theorem lw_p3 : lw_okq (⟨"CoalWagons$Pool", "keepLeg", "(III)V"⟩, 11) := ⟨⟨by decide +kernel, by decide +kernel⟩, List.mem_of_getElem? (i := 22) (by decide +kernel), List.mem_of_getElem? (i := 299) (by decide +kernel), List.mem_of_getElem? (i := 300) (by decide +kernel)⟩
theorem lw_p4 : lw_okq (⟨"CoalWagons$Pool", "wagonAt", "(I)LCoalWagons$Wagon;"⟩, 11) := ⟨⟨by decide +kernel, by decide +kernel⟩, List.mem_of_getElem? (i := 22) (by decide +kernel), List.mem_of_getElem? (i := 315) (by decide +kernel), List.mem_of_getElem? (i := 316) (by decide +kernel)⟩
theorem lw_p5 : lw_okq (⟨"CoalWagons$Pool", "isWagon", "(I)Z"⟩, 11) := ⟨⟨by decide +kernel, by decide +kernel⟩, List.mem_of_getElem? (i := 22) (by decide +kernel), List.mem_of_getElem? (i := 331) (by decide +kernel), List.mem_of_getElem? (i := 332) (by decide +kernel)⟩
theorem lw_p6 : lw_okq (⟨"CoalWagons$Pool", "whyNotLoaded", "(LCoalWagons$Wagon;)I"⟩, 11) := ⟨⟨by decide +kernel, by decide +kernel⟩, List.mem_of_getElem? (i := 22) (by decide +kernel), List.mem_of_getElem? (i := 335) (by decide +kernel), List.mem_of_getElem? (i := 336) (by decide +kernel)⟩
theorem lw_p7 : lw_okq (⟨"CoalWagons$Pool", "isDue", "(LCoalWagons$Wagon;)Z"⟩, 11) := ⟨⟨by decide +kernel, by decide +kernel⟩, List.mem_of_getElem? (i := 22) (by decide +kernel), List.mem_of_getElem? (i := 339) (by decide +kernel), List.mem_of_getElem? (i := 340) (by decide +kernel)⟩
theorem lw_p8 : lw_okq (⟨"CoalWagons$Pool", "setting", "(I)I"⟩, 11) := ⟨⟨by decide +kernel, by decide +kernel⟩, List.mem_of_getElem? (i := 22) (by decide +kernel), List.mem_of_getElem? (i := 343) (by decide +kernel), List.mem_of_getElem? (i := 344) (by decide +kernel)⟩
theorem lw_p9 : lw_okq (⟨"CoalWagons$Pool", "beginRepairs", "()V"⟩, 11) := ⟨⟨by decide +kernel, by decide +kernel⟩, List.mem_of_getElem? (i := 22) (by decide +kernel), List.mem_of_getElem? (i := 384) (by decide +kernel), List.mem_of_getElem? (i := 385) (by decide +kernel)⟩
theorem lw_p10 : lw_okq (⟨"CoalWagons$Pool", "growHeaps", "()V"⟩, 11) := ⟨⟨by decide +kernel, by decide +kernel⟩, List.mem_of_getElem? (i := 22) (by decide +kernel), List.mem_of_getElem? (i := 424) (by decide +kernel), List.mem_of_getElem? (i := 425) (by decide +kernel)⟩
theorem lw_p11 : lw_okq (⟨"CoalWagons$Pool", "arrive", "()I"⟩, 11) := ⟨⟨by decide +kernel, by decide +kernel⟩, List.mem_of_getElem? (i := 22) (by decide +kernel), List.mem_of_getElem? (i := 432) (by decide +kernel), List.mem_of_getElem? (i := 433) (by decide +kernel)⟩
theorem lw_p12 : lw_okq (⟨"CoalWagons$Pool", "endRepairs", "()V"⟩, 11) := ⟨⟨by decide +kernel, by decide +kernel⟩, List.mem_of_getElem? (i := 22) (by decide +kernel), List.mem_of_getElem? (i := 436) (by decide +kernel), List.mem_of_getElem? (i := 437) (by decide +kernel)⟩
theorem lw_p13 : lw_okq (⟨"CoalWagons$Pool", "payForTheDay", "()V"⟩, 11) := ⟨⟨by decide +kernel, by decide +kernel⟩, List.mem_of_getElem? (i := 22) (by decide +kernel), List.mem_of_getElem? (i := 444) (by decide +kernel), List.mem_of_getElem? (i := 445) (by decide +kernel)⟩
theorem lw_p14 : lw_okq (⟨"CoalWagons$Pool", "setStanding", "(II)I"⟩, 11) := ⟨⟨by decide +kernel, by decide +kernel⟩, List.mem_of_getElem? (i := 22) (by decide +kernel), List.mem_of_getElem? (i := 489) (by decide +kernel), List.mem_of_getElem? (i := 490) (by decide +kernel)⟩
theorem lw_p15 : lw_okq (⟨"CoalWagons$Pool", "setOnTheWayTo", "(I)I"⟩, 11) := ⟨⟨by decide +kernel, by decide +kernel⟩, List.mem_of_getElem? (i := 22) (by decide +kernel), List.mem_of_getElem? (i := 493) (by decide +kernel), List.mem_of_getElem? (i := 494) (by decide +kernel)⟩
def lw_privs_1 : List (MethodName × Nat) := [(⟨"CoalWagons$Pool", "placeAt", "(I)LCoalWagons$Place;"⟩, 11), (⟨"CoalWagons", "settle", "(I)I"⟩, 4), (⟨"CoalWagons$History", "stateAt", "(I)LCoalWagons$Pool;"⟩, 3), (⟨"CoalWagons$Pool", "keepLeg", "(III)V"⟩, 11), (⟨"CoalWagons$Pool", "wagonAt", "(I)LCoalWagons$Wagon;"⟩, 11), (⟨"CoalWagons$Pool", "isWagon", "(I)Z"⟩, 11), (⟨"CoalWagons$Pool", "whyNotLoaded", "(LCoalWagons$Wagon;)I"⟩, 11), (⟨"CoalWagons$Pool", "isDue", "(LCoalWagons$Wagon;)Z"⟩, 11), (⟨"CoalWagons$Pool", "setting", "(I)I"⟩, 11), (⟨"CoalWagons$Pool", "beginRepairs", "()V"⟩, 11), (⟨"CoalWagons$Pool", "growHeaps", "()V"⟩, 11), (⟨"CoalWagons$Pool", "arrive", "()I"⟩, 11), (⟨"CoalWagons$Pool", "endRepairs", "()V"⟩, 11), (⟨"CoalWagons$Pool", "payForTheDay", "()V"⟩, 11), (⟨"CoalWagons$Pool", "setStanding", "(II)I"⟩, 11), (⟨"CoalWagons$Pool", "setOnTheWayTo", "(I)I"⟩, 11)]
theorem lw_r1 : ∀ q ∈ lw_privs_1, lw_okq q := List.forall_mem_cons.mpr ⟨lw_p0, List.forall_mem_cons.mpr ⟨lw_p1, List.forall_mem_cons.mpr ⟨lw_p2, List.forall_mem_cons.mpr ⟨lw_p3, List.forall_mem_cons.mpr ⟨lw_p4, List.forall_mem_cons.mpr ⟨lw_p5, List.forall_mem_cons.mpr ⟨lw_p6, List.forall_mem_cons.mpr ⟨lw_p7, List.forall_mem_cons.mpr ⟨lw_p8, List.forall_mem_cons.mpr ⟨lw_p9, List.forall_mem_cons.mpr ⟨lw_p10, List.forall_mem_cons.mpr ⟨lw_p11, List.forall_mem_cons.mpr ⟨lw_p12, List.forall_mem_cons.mpr ⟨lw_p13, List.forall_mem_cons.mpr ⟨lw_p14, List.forall_mem_cons.mpr ⟨lw_p15, fun _ h => absurd h List.not_mem_nil⟩⟩⟩⟩⟩⟩⟩⟩⟩⟩⟩⟩⟩⟩⟩⟩
theorem lw_p16 : lw_okq (⟨"CoalWagons$Pool", "setOwnedBy", "(I)I"⟩, 11) := ⟨⟨by decide +kernel, by decide +kernel⟩, List.mem_of_getElem? (i := 22) (by decide +kernel), List.mem_of_getElem? (i := 501) (by decide +kernel), List.mem_of_getElem? (i := 502) (by decide +kernel)⟩
theorem lw_p17 : lw_okq (⟨"CoalWagons$Pool", "readyAt", "(I)I"⟩, 11) := ⟨⟨by decide +kernel, by decide +kernel⟩, List.mem_of_getElem? (i := 22) (by decide +kernel), List.mem_of_getElem? (i := 534) (by decide +kernel), List.mem_of_getElem? (i := 535) (by decide +kernel)⟩
theorem lw_p18 : lw_okq (⟨"CoalWagons$Pool", "countStanding", "(I)I"⟩, 11) := ⟨⟨by decide +kernel, by decide +kernel⟩, List.mem_of_getElem? (i := 22) (by decide +kernel), List.mem_of_getElem? (i := 601) (by decide +kernel), List.mem_of_getElem? (i := 602) (by decide +kernel)⟩
theorem lw_p19 : lw_okq (⟨"CoalWagons$Pool", "countOnTheWay", "()I"⟩, 11) := ⟨⟨by decide +kernel, by decide +kernel⟩, List.mem_of_getElem? (i := 22) (by decide +kernel), List.mem_of_getElem? (i := 605) (by decide +kernel), List.mem_of_getElem? (i := 606) (by decide +kernel)⟩
theorem lw_p20 : lw_okq (⟨"CoalWagons$Pool", "allAccounts", "()I"⟩, 11) := ⟨⟨by decide +kernel, by decide +kernel⟩, List.mem_of_getElem? (i := 22) (by decide +kernel), List.mem_of_getElem? (i := 609) (by decide +kernel), List.mem_of_getElem? (i := 610) (by decide +kernel)⟩
theorem lw_p21 : lw_okq (⟨"CoalWagons$Pool", "allTonnes", "()I"⟩, 11) := ⟨⟨by decide +kernel, by decide +kernel⟩, List.mem_of_getElem? (i := 22) (by decide +kernel), List.mem_of_getElem? (i := 614) (by decide +kernel), List.mem_of_getElem? (i := 615) (by decide +kernel)⟩
theorem lw_p22 : lw_okq (⟨"CoalWagons$Pool", "countDue", "()I"⟩, 11) := ⟨⟨by decide +kernel, by decide +kernel⟩, List.mem_of_getElem? (i := 22) (by decide +kernel), List.mem_of_getElem? (i := 618) (by decide +kernel), List.mem_of_getElem? (i := 619) (by decide +kernel)⟩
theorem lw_p23 : lw_okq (⟨"CoalWagons$OrderText", "readOrder", "()Z"⟩, 9) := ⟨⟨by decide +kernel, by decide +kernel⟩, List.mem_of_getElem? (i := 173) (by decide +kernel), List.mem_of_getElem? (i := 662) (by decide +kernel), List.mem_of_getElem? (i := 663) (by decide +kernel)⟩
theorem lw_p24 : lw_okq (⟨"CoalWagons$OrderText", "signAt", "(I)I"⟩, 9) := ⟨⟨by decide +kernel, by decide +kernel⟩, List.mem_of_getElem? (i := 173) (by decide +kernel), List.mem_of_getElem? (i := 666) (by decide +kernel), List.mem_of_getElem? (i := 667) (by decide +kernel)⟩
theorem lw_p25 : lw_okq (⟨"CoalWagons$OrderText", "readSign", "(I)Z"⟩, 9) := ⟨⟨by decide +kernel, by decide +kernel⟩, List.mem_of_getElem? (i := 173) (by decide +kernel), List.mem_of_getElem? (i := 673) (by decide +kernel), List.mem_of_getElem? (i := 674) (by decide +kernel)⟩
theorem lw_p26 : lw_okq (⟨"CoalWagons$OrderText", "readNumber", "(I)Z"⟩, 9) := ⟨⟨by decide +kernel, by decide +kernel⟩, List.mem_of_getElem? (i := 173) (by decide +kernel), List.mem_of_getElem? (i := 677) (by decide +kernel), List.mem_of_getElem? (i := 678) (by decide +kernel)⟩
theorem lw_p27 : lw_okq (⟨"CoalWagons$OrderText", "blame", "(III)V"⟩, 9) := ⟨⟨by decide +kernel, by decide +kernel⟩, List.mem_of_getElem? (i := 173) (by decide +kernel), List.mem_of_getElem? (i := 684) (by decide +kernel), List.mem_of_getElem? (i := 685) (by decide +kernel)⟩
theorem lw_p28 : lw_okq (⟨"CoalWagons$OrderText", "doOrder", "(LCoalWagons$Pool;)I"⟩, 9) := ⟨⟨by decide +kernel, by decide +kernel⟩, List.mem_of_getElem? (i := 173) (by decide +kernel), List.mem_of_getElem? (i := 688) (by decide +kernel), List.mem_of_getElem? (i := 689) (by decide +kernel)⟩
theorem lw_p29 : lw_okq (⟨"CoalWagonsModel", "begins", "()V"⟩, 13) := ⟨⟨by decide +kernel, by decide +kernel⟩, List.mem_of_getElem? (i := 720) (by decide +kernel), List.mem_of_getElem? (i := 770) (by decide +kernel), List.mem_of_getElem? (i := 771) (by decide +kernel)⟩
theorem lw_p30 : lw_okq (⟨"CoalWagonsModel", "acted", "(I)I"⟩, 13) := ⟨⟨by decide +kernel, by decide +kernel⟩, List.mem_of_getElem? (i := 720) (by decide +kernel), List.mem_of_getElem? (i := 779) (by decide +kernel), List.mem_of_getElem? (i := 780) (by decide +kernel)⟩
theorem lw_p31 : lw_okq (⟨"CoalWagonsModel", "returns", "()V"⟩, 13) := ⟨⟨by decide +kernel, by decide +kernel⟩, List.mem_of_getElem? (i := 720) (by decide +kernel), List.mem_of_getElem? (i := 783) (by decide +kernel), List.mem_of_getElem? (i := 784) (by decide +kernel)⟩
def lw_privs_2 : List (MethodName × Nat) := [(⟨"CoalWagons$Pool", "setOwnedBy", "(I)I"⟩, 11), (⟨"CoalWagons$Pool", "readyAt", "(I)I"⟩, 11), (⟨"CoalWagons$Pool", "countStanding", "(I)I"⟩, 11), (⟨"CoalWagons$Pool", "countOnTheWay", "()I"⟩, 11), (⟨"CoalWagons$Pool", "allAccounts", "()I"⟩, 11), (⟨"CoalWagons$Pool", "allTonnes", "()I"⟩, 11), (⟨"CoalWagons$Pool", "countDue", "()I"⟩, 11), (⟨"CoalWagons$OrderText", "readOrder", "()Z"⟩, 9), (⟨"CoalWagons$OrderText", "signAt", "(I)I"⟩, 9), (⟨"CoalWagons$OrderText", "readSign", "(I)Z"⟩, 9), (⟨"CoalWagons$OrderText", "readNumber", "(I)Z"⟩, 9), (⟨"CoalWagons$OrderText", "blame", "(III)V"⟩, 9), (⟨"CoalWagons$OrderText", "doOrder", "(LCoalWagons$Pool;)I"⟩, 9), (⟨"CoalWagonsModel", "begins", "()V"⟩, 13), (⟨"CoalWagonsModel", "acted", "(I)I"⟩, 13), (⟨"CoalWagonsModel", "returns", "()V"⟩, 13)]
theorem lw_r2 : ∀ q ∈ lw_privs_2, lw_okq q := List.forall_mem_cons.mpr ⟨lw_p16, List.forall_mem_cons.mpr ⟨lw_p17, List.forall_mem_cons.mpr ⟨lw_p18, List.forall_mem_cons.mpr ⟨lw_p19, List.forall_mem_cons.mpr ⟨lw_p20, List.forall_mem_cons.mpr ⟨lw_p21, List.forall_mem_cons.mpr ⟨lw_p22, List.forall_mem_cons.mpr ⟨lw_p23, List.forall_mem_cons.mpr ⟨lw_p24, List.forall_mem_cons.mpr ⟨lw_p25, List.forall_mem_cons.mpr ⟨lw_p26, List.forall_mem_cons.mpr ⟨lw_p27, List.forall_mem_cons.mpr ⟨lw_p28, List.forall_mem_cons.mpr ⟨lw_p29, List.forall_mem_cons.mpr ⟨lw_p30, List.forall_mem_cons.mpr ⟨lw_p31, fun _ h => absurd h List.not_mem_nil⟩⟩⟩⟩⟩⟩⟩⟩⟩⟩⟩⟩⟩⟩⟩⟩
theorem lw_p32 : lw_okq (⟨"CoalWagonsModel", "isPlace", "(I)Z"⟩, 13) := ⟨⟨by decide +kernel, by decide +kernel⟩, List.mem_of_getElem? (i := 720) (by decide +kernel), List.mem_of_getElem? (i := 791) (by decide +kernel), List.mem_of_getElem? (i := 792) (by decide +kernel)⟩
theorem lw_p33 : lw_okq (⟨"CoalWagonsModel", "joins", "(I)I"⟩, 13) := ⟨⟨by decide +kernel, by decide +kernel⟩, List.mem_of_getElem? (i := 720) (by decide +kernel), List.mem_of_getElem? (i := 799) (by decide +kernel), List.mem_of_getElem? (i := 800) (by decide +kernel)⟩
theorem lw_p34 : lw_okq (⟨"CoalWagonsModel", "isMine", "(I)Z"⟩, 13) := ⟨⟨by decide +kernel, by decide +kernel⟩, List.mem_of_getElem? (i := 720) (by decide +kernel), List.mem_of_getElem? (i := 803) (by decide +kernel), List.mem_of_getElem? (i := 804) (by decide +kernel)⟩
theorem lw_p35 : lw_okq (⟨"CoalWagonsModel", "lays", "(III)V"⟩, 13) := ⟨⟨by decide +kernel, by decide +kernel⟩, List.mem_of_getElem? (i := 720) (by decide +kernel), List.mem_of_getElem? (i := 807) (by decide +kernel), List.mem_of_getElem? (i := 808) (by decide +kernel)⟩
theorem lw_p36 : lw_okq (⟨"CoalWagonsModel", "loads", "(I)I"⟩, 13) := ⟨⟨by decide +kernel, by decide +kernel⟩, List.mem_of_getElem? (i := 720) (by decide +kernel), List.mem_of_getElem? (i := 815) (by decide +kernel), List.mem_of_getElem? (i := 816) (by decide +kernel)⟩
theorem lw_p37 : lw_okq (⟨"CoalWagonsModel", "isWagon", "(I)Z"⟩, 13) := ⟨⟨by decide +kernel, by decide +kernel⟩, List.mem_of_getElem? (i := 720) (by decide +kernel), List.mem_of_getElem? (i := 819) (by decide +kernel), List.mem_of_getElem? (i := 820) (by decide +kernel)⟩
theorem lw_p38 : lw_okq (⟨"CoalWagonsModel", "whyNot", "(I)I"⟩, 13) := ⟨⟨by decide +kernel, by decide +kernel⟩, List.mem_of_getElem? (i := 720) (by decide +kernel), List.mem_of_getElem? (i := 823) (by decide +kernel), List.mem_of_getElem? (i := 824) (by decide +kernel)⟩
theorem lw_p39 : lw_okq (⟨"CoalWagonsModel", "of", "(II)I"⟩, 13) := ⟨⟨by decide +kernel, by decide +kernel⟩, List.mem_of_getElem? (i := 720) (by decide +kernel), List.mem_of_getElem? (i := 827) (by decide +kernel), List.mem_of_getElem? (i := 828) (by decide +kernel)⟩
theorem lw_p40 : lw_okq (⟨"CoalWagonsModel", "isDue", "(I)Z"⟩, 13) := ⟨⟨by decide +kernel, by decide +kernel⟩, List.mem_of_getElem? (i := 720) (by decide +kernel), List.mem_of_getElem? (i := 831) (by decide +kernel), List.mem_of_getElem? (i := 832) (by decide +kernel)⟩
theorem lw_p41 : lw_okq (⟨"CoalWagonsModel", "has", "(II)I"⟩, 13) := ⟨⟨by decide +kernel, by decide +kernel⟩, List.mem_of_getElem? (i := 720) (by decide +kernel), List.mem_of_getElem? (i := 835) (by decide +kernel), List.mem_of_getElem? (i := 836) (by decide +kernel)⟩
theorem lw_p42 : lw_okq (⟨"CoalWagonsModel", "adds", "(III)V"⟩, 13) := ⟨⟨by decide +kernel, by decide +kernel⟩, List.mem_of_getElem? (i := 720) (by decide +kernel), List.mem_of_getElem? (i := 840) (by decide +kernel), List.mem_of_getElem? (i := 841) (by decide +kernel)⟩
theorem lw_p43 : lw_okq (⟨"CoalWagonsModel", "unloads", "(I)I"⟩, 13) := ⟨⟨by decide +kernel, by decide +kernel⟩, List.mem_of_getElem? (i := 720) (by decide +kernel), List.mem_of_getElem? (i := 848) (by decide +kernel), List.mem_of_getElem? (i := 849) (by decide +kernel)⟩
theorem lw_p44 : lw_okq (⟨"CoalWagonsModel", "stands", "(II)Z"⟩, 13) := ⟨⟨by decide +kernel, by decide +kernel⟩, List.mem_of_getElem? (i := 720) (by decide +kernel), List.mem_of_getElem? (i := 852) (by decide +kernel), List.mem_of_getElem? (i := 853) (by decide +kernel)⟩
theorem lw_p45 : lw_okq (⟨"CoalWagonsModel", "pays", "(III)V"⟩, 13) := ⟨⟨by decide +kernel, by decide +kernel⟩, List.mem_of_getElem? (i := 720) (by decide +kernel), List.mem_of_getElem? (i := 856) (by decide +kernel), List.mem_of_getElem? (i := 857) (by decide +kernel)⟩
theorem lw_p46 : lw_okq (⟨"CoalWagonsModel", "sends", "(I)I"⟩, 13) := ⟨⟨by decide +kernel, by decide +kernel⟩, List.mem_of_getElem? (i := 720) (by decide +kernel), List.mem_of_getElem? (i := 864) (by decide +kernel), List.mem_of_getElem? (i := 865) (by decide +kernel)⟩
theorem lw_p47 : lw_okq (⟨"CoalWagonsModel", "inRepair", "(Z)I"⟩, 13) := ⟨⟨by decide +kernel, by decide +kernel⟩, List.mem_of_getElem? (i := 720) (by decide +kernel), List.mem_of_getElem? (i := 868) (by decide +kernel), List.mem_of_getElem? (i := 869) (by decide +kernel)⟩
def lw_privs_3 : List (MethodName × Nat) := [(⟨"CoalWagonsModel", "isPlace", "(I)Z"⟩, 13), (⟨"CoalWagonsModel", "joins", "(I)I"⟩, 13), (⟨"CoalWagonsModel", "isMine", "(I)Z"⟩, 13), (⟨"CoalWagonsModel", "lays", "(III)V"⟩, 13), (⟨"CoalWagonsModel", "loads", "(I)I"⟩, 13), (⟨"CoalWagonsModel", "isWagon", "(I)Z"⟩, 13), (⟨"CoalWagonsModel", "whyNot", "(I)I"⟩, 13), (⟨"CoalWagonsModel", "of", "(II)I"⟩, 13), (⟨"CoalWagonsModel", "isDue", "(I)Z"⟩, 13), (⟨"CoalWagonsModel", "has", "(II)I"⟩, 13), (⟨"CoalWagonsModel", "adds", "(III)V"⟩, 13), (⟨"CoalWagonsModel", "unloads", "(I)I"⟩, 13), (⟨"CoalWagonsModel", "stands", "(II)Z"⟩, 13), (⟨"CoalWagonsModel", "pays", "(III)V"⟩, 13), (⟨"CoalWagonsModel", "sends", "(I)I"⟩, 13), (⟨"CoalWagonsModel", "inRepair", "(Z)I"⟩, 13)]
theorem lw_r3 : ∀ q ∈ lw_privs_3, lw_okq q := List.forall_mem_cons.mpr ⟨lw_p32, List.forall_mem_cons.mpr ⟨lw_p33, List.forall_mem_cons.mpr ⟨lw_p34, List.forall_mem_cons.mpr ⟨lw_p35, List.forall_mem_cons.mpr ⟨lw_p36, List.forall_mem_cons.mpr ⟨lw_p37, List.forall_mem_cons.mpr ⟨lw_p38, List.forall_mem_cons.mpr ⟨lw_p39, List.forall_mem_cons.mpr ⟨lw_p40, List.forall_mem_cons.mpr ⟨lw_p41, List.forall_mem_cons.mpr ⟨lw_p42, List.forall_mem_cons.mpr ⟨lw_p43, List.forall_mem_cons.mpr ⟨lw_p44, List.forall_mem_cons.mpr ⟨lw_p45, List.forall_mem_cons.mpr ⟨lw_p46, List.forall_mem_cons.mpr ⟨lw_p47, fun _ h => absurd h List.not_mem_nil⟩⟩⟩⟩⟩⟩⟩⟩⟩⟩⟩⟩⟩⟩⟩⟩
theorem lw_p48 : lw_okq (⟨"CoalWagonsModel", "fillsShop", "()V"⟩, 13) := ⟨⟨by decide +kernel, by decide +kernel⟩, List.mem_of_getElem? (i := 720) (by decide +kernel), List.mem_of_getElem? (i := 872) (by decide +kernel), List.mem_of_getElem? (i := 873) (by decide +kernel)⟩
theorem lw_p49 : lw_okq (⟨"CoalWagonsModel", "firstWaiting", "()I"⟩, 13) := ⟨⟨by decide +kernel, by decide +kernel⟩, List.mem_of_getElem? (i := 720) (by decide +kernel), List.mem_of_getElem? (i := 876) (by decide +kernel), List.mem_of_getElem? (i := 877) (by decide +kernel)⟩
theorem lw_p50 : lw_okq (⟨"CoalWagonsModel", "trains", "(IIII)I"⟩, 13) := ⟨⟨by decide +kernel, by decide +kernel⟩, List.mem_of_getElem? (i := 720) (by decide +kernel), List.mem_of_getElem? (i := 884) (by decide +kernel), List.mem_of_getElem? (i := 885) (by decide +kernel)⟩
theorem lw_p51 : lw_okq (⟨"CoalWagonsModel", "passes", "(I)I"⟩, 13) := ⟨⟨by decide +kernel, by decide +kernel⟩, List.mem_of_getElem? (i := 720) (by decide +kernel), List.mem_of_getElem? (i := 892) (by decide +kernel), List.mem_of_getElem? (i := 893) (by decide +kernel)⟩
theorem lw_p52 : lw_okq (⟨"CoalWagonsModel", "day", "()I"⟩, 13) := ⟨⟨by decide +kernel, by decide +kernel⟩, List.mem_of_getElem? (i := 720) (by decide +kernel), List.mem_of_getElem? (i := 896) (by decide +kernel), List.mem_of_getElem? (i := 897) (by decide +kernel)⟩
theorem lw_p53 : lw_okq (⟨"CoalWagonsModel", "arrives", "()I"⟩, 13) := ⟨⟨by decide +kernel, by decide +kernel⟩, List.mem_of_getElem? (i := 720) (by decide +kernel), List.mem_of_getElem? (i := 900) (by decide +kernel), List.mem_of_getElem? (i := 901) (by decide +kernel)⟩
theorem lw_p54 : lw_okq (⟨"CoalWagonsModel", "repairs", "()V"⟩, 13) := ⟨⟨by decide +kernel, by decide +kernel⟩, List.mem_of_getElem? (i := 720) (by decide +kernel), List.mem_of_getElem? (i := 904) (by decide +kernel), List.mem_of_getElem? (i := 905) (by decide +kernel)⟩
theorem lw_p55 : lw_okq (⟨"CoalWagonsModel", "charges", "(I)V"⟩, 13) := ⟨⟨by decide +kernel, by decide +kernel⟩, List.mem_of_getElem? (i := 720) (by decide +kernel), List.mem_of_getElem? (i := 908) (by decide +kernel), List.mem_of_getElem? (i := 909) (by decide +kernel)⟩
theorem lw_p56 : lw_okq (⟨"CoalWagonsModel", "daysOf", "(I)I"⟩, 13) := ⟨⟨by decide +kernel, by decide +kernel⟩, List.mem_of_getElem? (i := 720) (by decide +kernel), List.mem_of_getElem? (i := 924) (by decide +kernel), List.mem_of_getElem? (i := 925) (by decide +kernel)⟩
theorem lw_p57 : lw_okq (⟨"CoalWagonsModel", "standing", "(II)I"⟩, 13) := ⟨⟨by decide +kernel, by decide +kernel⟩, List.mem_of_getElem? (i := 720) (by decide +kernel), List.mem_of_getElem? (i := 932) (by decide +kernel), List.mem_of_getElem? (i := 933) (by decide +kernel)⟩
theorem lw_p58 : lw_okq (⟨"CoalWagonsModel", "going", "(I)I"⟩, 13) := ⟨⟨by decide +kernel, by decide +kernel⟩, List.mem_of_getElem? (i := 720) (by decide +kernel), List.mem_of_getElem? (i := 936) (by decide +kernel), List.mem_of_getElem? (i := 937) (by decide +kernel)⟩
theorem lw_p59 : lw_okq (⟨"CoalWagonsModel", "owned", "(I)I"⟩, 13) := ⟨⟨by decide +kernel, by decide +kernel⟩, List.mem_of_getElem? (i := 720) (by decide +kernel), List.mem_of_getElem? (i := 940) (by decide +kernel), List.mem_of_getElem? (i := 941) (by decide +kernel)⟩
theorem lw_p60 : lw_okq (⟨"CoalWagonsModel", "lacking", "(I)I"⟩, 13) := ⟨⟨by decide +kernel, by decide +kernel⟩, List.mem_of_getElem? (i := 720) (by decide +kernel), List.mem_of_getElem? (i := 956) (by decide +kernel), List.mem_of_getElem? (i := 957) (by decide +kernel)⟩
theorem lw_p61 : lw_okq (⟨"CoalWagonsModel", "ready", "(I)I"⟩, 13) := ⟨⟨by decide +kernel, by decide +kernel⟩, List.mem_of_getElem? (i := 720) (by decide +kernel), List.mem_of_getElem? (i := 960) (by decide +kernel), List.mem_of_getElem? (i := 961) (by decide +kernel)⟩
theorem lw_p62 : lw_okq (⟨"CoalWagonsModel", "spare", "(I)I"⟩, 13) := ⟨⟨by decide +kernel, by decide +kernel⟩, List.mem_of_getElem? (i := 720) (by decide +kernel), List.mem_of_getElem? (i := 968) (by decide +kernel), List.mem_of_getElem? (i := 969) (by decide +kernel)⟩
theorem lw_p63 : lw_okq (⟨"CoalWagonsModel", "wagons", "(I)I"⟩, 13) := ⟨⟨by decide +kernel, by decide +kernel⟩, List.mem_of_getElem? (i := 720) (by decide +kernel), List.mem_of_getElem? (i := 990) (by decide +kernel), List.mem_of_getElem? (i := 991) (by decide +kernel)⟩
def lw_privs_4 : List (MethodName × Nat) := [(⟨"CoalWagonsModel", "fillsShop", "()V"⟩, 13), (⟨"CoalWagonsModel", "firstWaiting", "()I"⟩, 13), (⟨"CoalWagonsModel", "trains", "(IIII)I"⟩, 13), (⟨"CoalWagonsModel", "passes", "(I)I"⟩, 13), (⟨"CoalWagonsModel", "day", "()I"⟩, 13), (⟨"CoalWagonsModel", "arrives", "()I"⟩, 13), (⟨"CoalWagonsModel", "repairs", "()V"⟩, 13), (⟨"CoalWagonsModel", "charges", "(I)V"⟩, 13), (⟨"CoalWagonsModel", "daysOf", "(I)I"⟩, 13), (⟨"CoalWagonsModel", "standing", "(II)I"⟩, 13), (⟨"CoalWagonsModel", "going", "(I)I"⟩, 13), (⟨"CoalWagonsModel", "owned", "(I)I"⟩, 13), (⟨"CoalWagonsModel", "lacking", "(I)I"⟩, 13), (⟨"CoalWagonsModel", "ready", "(I)I"⟩, 13), (⟨"CoalWagonsModel", "spare", "(I)I"⟩, 13), (⟨"CoalWagonsModel", "wagons", "(I)I"⟩, 13)]
theorem lw_r4 : ∀ q ∈ lw_privs_4, lw_okq q := List.forall_mem_cons.mpr ⟨lw_p48, List.forall_mem_cons.mpr ⟨lw_p49, List.forall_mem_cons.mpr ⟨lw_p50, List.forall_mem_cons.mpr ⟨lw_p51, List.forall_mem_cons.mpr ⟨lw_p52, List.forall_mem_cons.mpr ⟨lw_p53, List.forall_mem_cons.mpr ⟨lw_p54, List.forall_mem_cons.mpr ⟨lw_p55, List.forall_mem_cons.mpr ⟨lw_p56, List.forall_mem_cons.mpr ⟨lw_p57, List.forall_mem_cons.mpr ⟨lw_p58, List.forall_mem_cons.mpr ⟨lw_p59, List.forall_mem_cons.mpr ⟨lw_p60, List.forall_mem_cons.mpr ⟨lw_p61, List.forall_mem_cons.mpr ⟨lw_p62, List.forall_mem_cons.mpr ⟨lw_p63, fun _ h => absurd h List.not_mem_nil⟩⟩⟩⟩⟩⟩⟩⟩⟩⟩⟩⟩⟩⟩⟩⟩
theorem lw_p64 : lw_okq (⟨"CoalWagonsModel", "sum", "(I)I"⟩, 13) := ⟨⟨by decide +kernel, by decide +kernel⟩, List.mem_of_getElem? (i := 720) (by decide +kernel), List.mem_of_getElem? (i := 994) (by decide +kernel), List.mem_of_getElem? (i := 995) (by decide +kernel)⟩
theorem lw_p65 : lw_okq (⟨"CoalWagonsModel", "tonnes", "()I"⟩, 13) := ⟨⟨by decide +kernel, by decide +kernel⟩, List.mem_of_getElem? (i := 720) (by decide +kernel), List.mem_of_getElem? (i := 998) (by decide +kernel), List.mem_of_getElem? (i := 999) (by decide +kernel)⟩
theorem lw_p66 : lw_okq (⟨"CoalWagonsModel", "due", "()I"⟩, 13) := ⟨⟨by decide +kernel, by decide +kernel⟩, List.mem_of_getElem? (i := 720) (by decide +kernel), List.mem_of_getElem? (i := 1002) (by decide +kernel), List.mem_of_getElem? (i := 1003) (by decide +kernel)⟩
theorem lw_p67 : lw_okq (⟨"CoalWagonsModel", "doesAll", "()Z"⟩, 13) := ⟨⟨by decide +kernel, by decide +kernel⟩, List.mem_of_getElem? (i := 720) (by decide +kernel), List.mem_of_getElem? (i := 1022) (by decide +kernel), List.mem_of_getElem? (i := 1023) (by decide +kernel)⟩
theorem lw_p68 : lw_okq (⟨"CoalWagonsModel", "here", "()I"⟩, 13) := ⟨⟨by decide +kernel, by decide +kernel⟩, List.mem_of_getElem? (i := 720) (by decide +kernel), List.mem_of_getElem? (i := 1026) (by decide +kernel), List.mem_of_getElem? (i := 1027) (by decide +kernel)⟩
theorem lw_p69 : lw_okq (⟨"CoalWagonsModel", "takesSign", "(I)V"⟩, 13) := ⟨⟨by decide +kernel, by decide +kernel⟩, List.mem_of_getElem? (i := 720) (by decide +kernel), List.mem_of_getElem? (i := 1033) (by decide +kernel), List.mem_of_getElem? (i := 1034) (by decide +kernel)⟩
theorem lw_p70 : lw_okq (⟨"CoalWagonsModel", "number", "()I"⟩, 13) := ⟨⟨by decide +kernel, by decide +kernel⟩, List.mem_of_getElem? (i := 720) (by decide +kernel), List.mem_of_getElem? (i := 1037) (by decide +kernel), List.mem_of_getElem? (i := 1038) (by decide +kernel)⟩
theorem lw_p71 : lw_okq (⟨"CoalWagonsModel", "isDigit", "()Z"⟩, 13) := ⟨⟨by decide +kernel, by decide +kernel⟩, List.mem_of_getElem? (i := 720) (by decide +kernel), List.mem_of_getElem? (i := 1041) (by decide +kernel), List.mem_of_getElem? (i := 1042) (by decide +kernel)⟩
theorem lw_p72 : lw_okq (⟨"CoalWagonsModel", "called", "(I)I"⟩, 13) := ⟨⟨by decide +kernel, by decide +kernel⟩, List.mem_of_getElem? (i := 720) (by decide +kernel), List.mem_of_getElem? (i := 1045) (by decide +kernel), List.mem_of_getElem? (i := 1046) (by decide +kernel)⟩
def lw_privs_5 : List (MethodName × Nat) := [(⟨"CoalWagonsModel", "sum", "(I)I"⟩, 13), (⟨"CoalWagonsModel", "tonnes", "()I"⟩, 13), (⟨"CoalWagonsModel", "due", "()I"⟩, 13), (⟨"CoalWagonsModel", "doesAll", "()Z"⟩, 13), (⟨"CoalWagonsModel", "here", "()I"⟩, 13), (⟨"CoalWagonsModel", "takesSign", "(I)V"⟩, 13), (⟨"CoalWagonsModel", "number", "()I"⟩, 13), (⟨"CoalWagonsModel", "isDigit", "()Z"⟩, 13), (⟨"CoalWagonsModel", "called", "(I)I"⟩, 13)]
theorem lw_r5 : ∀ q ∈ lw_privs_5, lw_okq q := List.forall_mem_cons.mpr ⟨lw_p64, List.forall_mem_cons.mpr ⟨lw_p65, List.forall_mem_cons.mpr ⟨lw_p66, List.forall_mem_cons.mpr ⟨lw_p67, List.forall_mem_cons.mpr ⟨lw_p68, List.forall_mem_cons.mpr ⟨lw_p69, List.forall_mem_cons.mpr ⟨lw_p70, List.forall_mem_cons.mpr ⟨lw_p71, List.forall_mem_cons.mpr ⟨lw_p72, fun _ h => absurd h List.not_mem_nil⟩⟩⟩⟩⟩⟩⟩⟩⟩
def lw_privs : List (MethodName × Nat) := lw_privs_1 ++ (lw_privs_2 ++ (lw_privs_3 ++ (lw_privs_4 ++ (lw_privs_5))))
def lw_tbl : List Cond := k2_sels lw_privs ++ tables_1
theorem lw_privs_ok : ∀ q ∈ lw_privs, lw_okq q := by
  show ∀ q ∈ lw_privs_1 ++ (lw_privs_2 ++ (lw_privs_3 ++ (lw_privs_4 ++ (lw_privs_5)))), lw_okq q
  exact List.forall_mem_append.mpr ⟨lw_r1, List.forall_mem_append.mpr ⟨lw_r2, List.forall_mem_append.mpr ⟨lw_r3, List.forall_mem_append.mpr ⟨lw_r4, lw_r5⟩⟩⟩⟩
/-- the streams that the claim lets the run draw from -/
abbrev lw_cs : List Choice := [Jvm.Choice.named "NaN.bits"]
theorem lw_bits : nanBits ∈ lw_cs := by first | decide | exact List.mem_cons_self | simp [lw_cs, nanBits]
end
section
def RX0 : String := "CoalWagons$History"
def TX0 : u_T := fun k => match k with
  | 0 => ("CoalWagons$History", "states", "[LCoalWagons$Pool;", true)
  | 1 => ("CoalWagons$History", "oldest", "I", false)
  | _ => ("CoalWagons$History", "size", "I", false)
def tyX0 : Nat → FieldType := fun k => match k with
  | 0 => .array (.object "CoalWagons$Pool")
  | 1 => .int
  | _ => .int
abbrev wsX00 : List Cond := u_ws RX0 TX0 3
theorem nmX0 : ∀ a, a < 3 → ∀ b, b < 3 → a ≠ b → (TX0 a).2.1 ≠ (TX0 b).2.1 := by decide +kernel
theorem tyX0_ok : ∀ k, k < 3 → parseFieldDescriptor (TX0 k).2.2.1 = some (tyX0 k) := by decide +kernel
abbrev cX0_init : ByteArray := prog_2_method_1_code
def yX0_init : MethodName := ⟨RX0, "<init>", "()V"⟩
abbrev cX0_size : ByteArray := prog_2_method_2_code
def yX0_size : MethodName := ⟨RX0, "size", "()I"⟩
abbrev cX0_stateAt : ByteArray := prog_2_method_3_code
def yX0_stateAt : MethodName := ⟨RX0, "stateAt", "(I)LCoalWagons$Pool;"⟩
abbrev cX0_record : ByteArray := prog_2_method_4_code
def yX0_record : MethodName := ⟨RX0, "record", "(LCoalWagons$Pool;)V"⟩
abbrev cX0_takeLatest : ByteArray := prog_2_method_5_code
def yX0_takeLatest : MethodName := ⟨RX0, "takeLatest", "(LCoalWagons$Pool;)V"⟩
def RX1 : String := "CoalWagons$OrderText"
def TX1 : u_T := fun k => match k with
  | 0 => ("CoalWagons$OrderText", "signs", "[I", true)
  | 1 => ("CoalWagons$OrderText", "numbers", "[I", true)
  | 2 => ("CoalWagons$OrderText", "length", "I", false)
  | 3 => ("CoalWagons$OrderText", "letter", "I", false)
  | 4 => ("CoalWagons$OrderText", "at", "I", false)
  | 5 => ("CoalWagons$OrderText", "orders", "I", false)
  | 6 => ("CoalWagons$OrderText", "position", "I", false)
  | 7 => ("CoalWagons$OrderText", "reason", "I", false)
  | _ => ("CoalWagons$OrderText", "cause", "I", false)
def tyX1 : Nat → FieldType := fun k => match k with
  | 0 => .array .int
  | 1 => .array .int
  | 2 => .int
  | 3 => .int
  | 4 => .int
  | 5 => .int
  | 6 => .int
  | 7 => .int
  | _ => .int
abbrev wsX10 : List Cond := u_ws RX1 TX1 9
theorem nmX1 : ∀ a, a < 9 → ∀ b, b < 9 → a ≠ b → (TX1 a).2.1 ≠ (TX1 b).2.1 := by decide +kernel
theorem tyX1_ok : ∀ k, k < 9 → parseFieldDescriptor (TX1 k).2.2.1 = some (tyX1 k) := by decide +kernel
abbrev cX1_init : ByteArray := prog_3_method_1_code
def yX1_init : MethodName := ⟨RX1, "<init>", "()V"⟩
abbrev cX1_length : ByteArray := prog_3_method_2_code
def yX1_length : MethodName := ⟨RX1, "length", "()I"⟩
abbrev cX1_orders : ByteArray := prog_3_method_3_code
def yX1_orders : MethodName := ⟨RX1, "orders", "()I"⟩
abbrev cX1_hasFault : ByteArray := prog_3_method_4_code
def yX1_hasFault : MethodName := ⟨RX1, "hasFault", "()Z"⟩
abbrev cX1_position : ByteArray := prog_3_method_5_code
def yX1_position : MethodName := ⟨RX1, "position", "()I"⟩
abbrev cX1_reason : ByteArray := prog_3_method_6_code
def yX1_reason : MethodName := ⟨RX1, "reason", "()I"⟩
abbrev cX1_cause : ByteArray := prog_3_method_7_code
def yX1_cause : MethodName := ⟨RX1, "cause", "()I"⟩
abbrev cX1_append : ByteArray := prog_3_method_8_code
def yX1_append : MethodName := ⟨RX1, "append", "(I)I"⟩
abbrev cX1_clear : ByteArray := prog_3_method_9_code
def yX1_clear : MethodName := ⟨RX1, "clear", "()I"⟩
abbrev cX1_doAll : ByteArray := prog_3_method_10_code
def yX1_doAll : MethodName := ⟨RX1, "doAll", "(LCoalWagons$Pool;)V"⟩
abbrev cX1_blame : ByteArray := prog_3_method_11_code
def yX1_blame : MethodName := ⟨RX1, "blame", "(III)V"⟩
abbrev cX1_doOrder : ByteArray := prog_3_method_12_code
def yX1_doOrder : MethodName := ⟨RX1, "doOrder", "(LCoalWagons$Pool;)I"⟩
abbrev cX1_readOrder : ByteArray := prog_3_method_13_code
def yX1_readOrder : MethodName := ⟨RX1, "readOrder", "()Z"⟩
abbrev cX1_numbersOf : ByteArray := prog_3_method_14_code
def yX1_numbersOf : MethodName := ⟨RX1, "numbersOf", "(I)I"⟩
abbrev cX1_readSign : ByteArray := prog_3_method_15_code
def yX1_readSign : MethodName := ⟨RX1, "readSign", "(I)Z"⟩
abbrev cX1_readNumber : ByteArray := prog_3_method_16_code
def yX1_readNumber : MethodName := ⟨RX1, "readNumber", "(I)Z"⟩
abbrev cX1_signAt : ByteArray := prog_3_method_17_code
def yX1_signAt : MethodName := ⟨RX1, "signAt", "(I)I"⟩
abbrev cX1_isDigit : ByteArray := prog_3_method_18_code
def yX1_isDigit : MethodName := ⟨RX1, "isDigit", "(I)Z"⟩
def RX2 : String := "CoalWagons$Place"
def TX2 : u_T := fun k => match k with
  | 0 => ("CoalWagons$Place", "rate", "I", false)
  | 1 => ("CoalWagons$Place", "heap", "I", false)
  | 2 => ("CoalWagons$Place", "account", "I", false)
  | 3 => ("CoalWagons$Place", "demurrage", "I", false)
  | 4 => ("CoalWagons$Place", "hire", "I", false)
  | _ => ("CoalWagons$Place", "tonnes", "I", false)
def tyX2 : Nat → FieldType := fun k => match k with
  | 0 => .int
  | 1 => .int
  | 2 => .int
  | 3 => .int
  | 4 => .int
  | _ => .int
abbrev wsX20 : List Cond := u_ws RX2 TX2 6
theorem nmX2 : ∀ a, a < 6 → ∀ b, b < 6 → a ≠ b → (TX2 a).2.1 ≠ (TX2 b).2.1 := by decide +kernel
theorem tyX2_ok : ∀ k, k < 6 → parseFieldDescriptor (TX2 k).2.2.1 = some (tyX2 k) := by decide +kernel
abbrev cX2_init : ByteArray := prog_4_method_1_code
def yX2_init : MethodName := ⟨RX2, "<init>", "()V"⟩
abbrev cX2_copyFrom : ByteArray := prog_4_method_2_code
def yX2_copyFrom : MethodName := ⟨RX2, "copyFrom", "(LCoalWagons$Place;)V"⟩
abbrev cX2_grow : ByteArray := prog_4_method_3_code
def yX2_grow : MethodName := ⟨RX2, "grow", "()V"⟩
abbrev cX2_pay : ByteArray := prog_4_method_4_code
def yX2_pay : MethodName := ⟨RX2, "pay", "(LCoalWagons$Place;I)V"⟩
abbrev cX2_payHire : ByteArray := prog_4_method_5_code
def yX2_payHire : MethodName := ⟨RX2, "payHire", "(LCoalWagons$Place;I)V"⟩
abbrev cX2_payDemurrage : ByteArray := prog_4_method_6_code
def yX2_payDemurrage : MethodName := ⟨RX2, "payDemurrage", "(LCoalWagons$Place;I)V"⟩
abbrev cX2_loadsOfHeap : ByteArray := prog_4_method_7_code
def yX2_loadsOfHeap : MethodName := ⟨RX2, "loadsOfHeap", "()I"⟩
def RX3 : String := "CoalWagons$Pool"
def TX3 : u_T := fun k => match k with
  | 0 => ("CoalWagons$Pool", "places", "[LCoalWagons$Place;", true)
  | 1 => ("CoalWagons$Pool", "wagons", "[LCoalWagons$Wagon;", true)
  | 2 => ("CoalWagons$Pool", "legs", "[I", true)
  | 3 => ("CoalWagons$Pool", "settings", "[I", true)
  | 4 => ("CoalWagons$Pool", "shop", "LCoalWagons$Shop;", true)
  | 5 => ("CoalWagons$Pool", "mines", "I", false)
  | 6 => ("CoalWagons$Pool", "wagonCount", "I", false)
  | 7 => ("CoalWagons$Pool", "day", "I", false)
  | 8 => ("CoalWagons$Pool", "repairsEnded", "I", false)
  | 9 => ("CoalWagons$Pool", "trains", "I", false)
  | _ => ("CoalWagons$Pool", "emptyTrains", "I", false)
def tyX3 : Nat → FieldType := fun k => match k with
  | 0 => .array (.object "CoalWagons$Place")
  | 1 => .array (.object "CoalWagons$Wagon")
  | 2 => .array .int
  | 3 => .array .int
  | 4 => .object "CoalWagons$Shop"
  | 5 => .int
  | 6 => .int
  | 7 => .int
  | 8 => .int
  | 9 => .int
  | _ => .int
abbrev wsX30 : List Cond := u_ws RX3 TX3 11
theorem nmX3 : ∀ a, a < 11 → ∀ b, b < 11 → a ≠ b → (TX3 a).2.1 ≠ (TX3 b).2.1 := by decide +kernel
theorem tyX3_ok : ∀ k, k < 11 → parseFieldDescriptor (TX3 k).2.2.1 = some (tyX3 k) := by decide +kernel
abbrev cX3_init : ByteArray := prog_5_method_1_code
def yX3_init : MethodName := ⟨RX3, "<init>", "()V"⟩
abbrev cX3_copyFrom : ByteArray := prog_5_method_2_code
def yX3_copyFrom : MethodName := ⟨RX3, "copyFrom", "(LCoalWagons$Pool;)V"⟩
abbrev cX3_isPlace : ByteArray := prog_5_method_3_code
def yX3_isPlace : MethodName := ⟨RX3, "isPlace", "(I)Z"⟩
abbrev cX3_isMine : ByteArray := prog_5_method_4_code
def yX3_isMine : MethodName := ⟨RX3, "isMine", "(I)Z"⟩
abbrev cX3_isLeg : ByteArray := prog_5_method_5_code
def yX3_isLeg : MethodName := ⟨RX3, "isLeg", "(II)Z"⟩
abbrev cX3_isWagon : ByteArray := prog_5_method_6_code
def yX3_isWagon : MethodName := ⟨RX3, "isWagon", "(I)Z"⟩
abbrev cX3_placeAt : ByteArray := prog_5_method_7_code
def yX3_placeAt : MethodName := ⟨RX3, "placeAt", "(I)LCoalWagons$Place;"⟩
abbrev cX3_wagonAt : ByteArray := prog_5_method_8_code
def yX3_wagonAt : MethodName := ⟨RX3, "wagonAt", "(I)LCoalWagons$Wagon;"⟩
abbrev cX3_setting : ByteArray := prog_5_method_9_code
def yX3_setting : MethodName := ⟨RX3, "setting", "(I)I"⟩
abbrev cX3_legDays : ByteArray := prog_5_method_10_code
def yX3_legDays : MethodName := ⟨RX3, "legDays", "(II)I"⟩
abbrev cX3_keepLeg : ByteArray := prog_5_method_11_code
def yX3_keepLeg : MethodName := ⟨RX3, "keepLeg", "(III)V"⟩
abbrev cX3_accountOf : ByteArray := prog_5_method_12_code
def yX3_accountOf : MethodName := ⟨RX3, "accountOf", "(I)I"⟩
abbrev cX3_isDue : ByteArray := prog_5_method_13_code
def yX3_isDue : MethodName := ⟨RX3, "isDue", "(LCoalWagons$Wagon;)Z"⟩
abbrev cX3_addMine : ByteArray := prog_5_method_14_code
def yX3_addMine : MethodName := ⟨RX3, "addMine", "(I)I"⟩
abbrev cX3_changeLeg : ByteArray := prog_5_method_15_code
def yX3_changeLeg : MethodName := ⟨RX3, "changeLeg", "(III)I"⟩
abbrev cX3_addWagon : ByteArray := prog_5_method_16_code
def yX3_addWagon : MethodName := ⟨RX3, "addWagon", "(I)I"⟩
abbrev cX3_loadWagon : ByteArray := prog_5_method_17_code
def yX3_loadWagon : MethodName := ⟨RX3, "loadWagon", "(I)I"⟩
abbrev cX3_whyNotLoaded : ByteArray := prog_5_method_18_code
def yX3_whyNotLoaded : MethodName := ⟨RX3, "whyNotLoaded", "(LCoalWagons$Wagon;)I"⟩
abbrev cX3_unloadWagon : ByteArray := prog_5_method_19_code
def yX3_unloadWagon : MethodName := ⟨RX3, "unloadWagon", "(I)I"⟩
abbrev cX3_repairWagon : ByteArray := prog_5_method_20_code
def yX3_repairWagon : MethodName := ⟨RX3, "repairWagon", "(I)I"⟩
abbrev cX3_sendTrain : ByteArray := prog_5_method_21_code
def yX3_sendTrain : MethodName := ⟨RX3, "sendTrain", "(IIII)I"⟩
abbrev cX3_passDays : ByteArray := prog_5_method_22_code
def yX3_passDays : MethodName := ⟨RX3, "passDays", "(I)I"⟩
abbrev cX3_changeSetting : ByteArray := prog_5_method_23_code
def yX3_changeSetting : MethodName := ⟨RX3, "changeSetting", "(II)I"⟩
abbrev cX3_letDaysPass : ByteArray := prog_5_method_24_code
def yX3_letDaysPass : MethodName := ⟨RX3, "letDaysPass", "(I)I"⟩
abbrev cX3_growHeaps : ByteArray := prog_5_method_25_code
def yX3_growHeaps : MethodName := ⟨RX3, "growHeaps", "()V"⟩
abbrev cX3_arrive : ByteArray := prog_5_method_26_code
def yX3_arrive : MethodName := ⟨RX3, "arrive", "()I"⟩
abbrev cX3_endRepairs : ByteArray := prog_5_method_27_code
def yX3_endRepairs : MethodName := ⟨RX3, "endRepairs", "()V"⟩
abbrev cX3_beginRepairs : ByteArray := prog_5_method_28_code
def yX3_beginRepairs : MethodName := ⟨RX3, "beginRepairs", "()V"⟩
abbrev cX3_payForTheDay : ByteArray := prog_5_method_29_code
def yX3_payForTheDay : MethodName := ⟨RX3, "payForTheDay", "()V"⟩
abbrev cX3_tellOfWagon : ByteArray := prog_5_method_30_code
def yX3_tellOfWagon : MethodName := ⟨RX3, "tellOfWagon", "(II)I"⟩
abbrev cX3_tellOfPlace : ByteArray := prog_5_method_31_code
def yX3_tellOfPlace : MethodName := ⟨RX3, "tellOfPlace", "(II)I"⟩
abbrev cX3_setStanding : ByteArray := prog_5_method_32_code
def yX3_setStanding : MethodName := ⟨RX3, "setStanding", "(II)I"⟩
abbrev cX3_setOnTheWayTo : ByteArray := prog_5_method_33_code
def yX3_setOnTheWayTo : MethodName := ⟨RX3, "setOnTheWayTo", "(I)I"⟩
abbrev cX3_setOwnedBy : ByteArray := prog_5_method_34_code
def yX3_setOwnedBy : MethodName := ⟨RX3, "setOwnedBy", "(I)I"⟩
abbrev cX3_tellNumber : ByteArray := prog_5_method_35_code
def yX3_tellNumber : MethodName := ⟨RX3, "tellNumber", "(I)I"⟩
abbrev cX3_countStanding : ByteArray := prog_5_method_36_code
def yX3_countStanding : MethodName := ⟨RX3, "countStanding", "(I)I"⟩
abbrev cX3_countOnTheWay : ByteArray := prog_5_method_37_code
def yX3_countOnTheWay : MethodName := ⟨RX3, "countOnTheWay", "()I"⟩
abbrev cX3_countDue : ByteArray := prog_5_method_38_code
def yX3_countDue : MethodName := ⟨RX3, "countDue", "()I"⟩
abbrev cX3_allAccounts : ByteArray := prog_5_method_39_code
def yX3_allAccounts : MethodName := ⟨RX3, "allAccounts", "()I"⟩
abbrev cX3_allTonnes : ByteArray := prog_5_method_40_code
def yX3_allTonnes : MethodName := ⟨RX3, "allTonnes", "()I"⟩
abbrev cX3_lackOf : ByteArray := prog_5_method_41_code
def yX3_lackOf : MethodName := ⟨RX3, "lackOf", "(I)I"⟩
abbrev cX3_spareOf : ByteArray := prog_5_method_42_code
def yX3_spareOf : MethodName := ⟨RX3, "spareOf", "(I)I"⟩
abbrev cX3_readyAt : ByteArray := prog_5_method_43_code
def yX3_readyAt : MethodName := ⟨RX3, "readyAt", "(I)I"⟩
abbrev cX3_neediestMine : ByteArray := prog_5_method_44_code
def yX3_neediestMine : MethodName := ⟨RX3, "neediestMine", "()I"⟩
abbrev cX3_nearestToSpare : ByteArray := prog_5_method_45_code
def yX3_nearestToSpare : MethodName := ⟨RX3, "nearestToSpare", "(I)I"⟩
abbrev cX3_ownedBy : ByteArray := prog_5_method_46_code
def yX3_ownedBy : MethodName := ⟨RX3, "ownedBy", "(I)I"⟩
abbrev cX3_loadedOf : ByteArray := prog_5_method_47_code
def yX3_loadedOf : MethodName := ⟨RX3, "loadedOf", "(I)I"⟩
def RX4 : String := "CoalWagons$Shop"
def TX4 : u_T := fun k => match k with
  | 0 => ("CoalWagons$Shop", "queue", "[I", true)
  | _ => ("CoalWagons$Shop", "size", "I", false)
def tyX4 : Nat → FieldType := fun k => match k with
  | 0 => .array .int
  | _ => .int
abbrev wsX40 : List Cond := u_ws RX4 TX4 2
theorem nmX4 : ∀ a, a < 2 → ∀ b, b < 2 → a ≠ b → (TX4 a).2.1 ≠ (TX4 b).2.1 := by decide +kernel
theorem tyX4_ok : ∀ k, k < 2 → parseFieldDescriptor (TX4 k).2.2.1 = some (tyX4 k) := by decide +kernel
abbrev cX4_init : ByteArray := prog_6_method_1_code
def yX4_init : MethodName := ⟨RX4, "<init>", "()V"⟩
abbrev cX4_copyFrom : ByteArray := prog_6_method_2_code
def yX4_copyFrom : MethodName := ⟨RX4, "copyFrom", "(LCoalWagons$Shop;)V"⟩
abbrev cX4_size : ByteArray := prog_6_method_3_code
def yX4_size : MethodName := ⟨RX4, "size", "()I"⟩
abbrev cX4_atWork : ByteArray := prog_6_method_4_code
def yX4_atWork : MethodName := ⟨RX4, "atWork", "()I"⟩
abbrev cX4_numberAt : ByteArray := prog_6_method_5_code
def yX4_numberAt : MethodName := ⟨RX4, "numberAt", "(I)I"⟩
abbrev cX4_enter : ByteArray := prog_6_method_6_code
def yX4_enter : MethodName := ⟨RX4, "enter", "(I)V"⟩
abbrev cX4_leave : ByteArray := prog_6_method_7_code
def yX4_leave : MethodName := ⟨RX4, "leave", "(I)V"⟩
def RX5 : String := "CoalWagons$Wagon"
def TX5 : u_T := fun k => match k with
  | 0 => ("CoalWagons$Wagon", "owner", "I", false)
  | 1 => ("CoalWagons$Wagon", "place", "I", false)
  | 2 => ("CoalWagons$Wagon", "state", "I", false)
  | 3 => ("CoalWagons$Wagon", "loaded", "Z", false)
  | 4 => ("CoalWagons$Wagon", "wear", "I", false)
  | 5 => ("CoalWagons$Wagon", "since", "I", false)
  | 6 => ("CoalWagons$Wagon", "until", "I", false)
  | 7 => ("CoalWagons$Wagon", "journey", "I", false)
  | _ => ("CoalWagons$Wagon", "loads", "I", false)
def tyX5 : Nat → FieldType := fun k => match k with
  | 0 => .int
  | 1 => .int
  | 2 => .int
  | 3 => .boolean
  | 4 => .int
  | 5 => .int
  | 6 => .int
  | 7 => .int
  | _ => .int
abbrev wsX50 : List Cond := u_ws RX5 TX5 9
theorem nmX5 : ∀ a, a < 9 → ∀ b, b < 9 → a ≠ b → (TX5 a).2.1 ≠ (TX5 b).2.1 := by decide +kernel
theorem tyX5_ok : ∀ k, k < 9 → parseFieldDescriptor (TX5 k).2.2.1 = some (tyX5 k) := by decide +kernel
abbrev cX5_init : ByteArray := prog_7_method_1_code
def yX5_init : MethodName := ⟨RX5, "<init>", "()V"⟩
abbrev cX5_copyFrom : ByteArray := prog_7_method_2_code
def yX5_copyFrom : MethodName := ⟨RX5, "copyFrom", "(LCoalWagons$Wagon;)V"⟩
abbrev cX5_standFrom : ByteArray := prog_7_method_3_code
def yX5_standFrom : MethodName := ⟨RX5, "standFrom", "(I)V"⟩
abbrev cX5_leaveFor : ByteArray := prog_7_method_4_code
def yX5_leaveFor : MethodName := ⟨RX5, "leaveFor", "(III)V"⟩
abbrev cX5_standsAt : ByteArray := prog_7_method_5_code
def yX5_standsAt : MethodName := ⟨RX5, "standsAt", "(I)Z"⟩
abbrev cX5_isOnItsWayTo : ByteArray := prog_7_method_6_code
def yX5_isOnItsWayTo : MethodName := ⟨RX5, "isOnItsWayTo", "(I)Z"⟩
abbrev cX5_isHired : ByteArray := prog_7_method_7_code
def yX5_isHired : MethodName := ⟨RX5, "isHired", "()Z"⟩
abbrev cX5_isLoadedAtPort : ByteArray := prog_7_method_8_code
def yX5_isLoadedAtPort : MethodName := ⟨RX5, "isLoadedAtPort", "()Z"⟩
abbrev cX5_isOfKind : ByteArray := prog_7_method_9_code
def yX5_isOfKind : MethodName := ⟨RX5, "isOfKind", "(I)Z"⟩
def RX6 : String := "CoalWagons"
def TX6 : u_T := fun k => match k with
  | 0 => ("CoalWagons", "now", "LCoalWagons$Pool;", true)
  | 1 => ("CoalWagons", "trial", "LCoalWagons$Pool;", true)
  | 2 => ("CoalWagons", "history", "LCoalWagons$History;", true)
  | _ => ("CoalWagons", "text", "LCoalWagons$OrderText;", true)
def tyX6 : Nat → FieldType := fun k => match k with
  | 0 => .object "CoalWagons$Pool"
  | 1 => .object "CoalWagons$Pool"
  | 2 => .object "CoalWagons$History"
  | _ => .object "CoalWagons$OrderText"
abbrev wsX60 : List Cond := u_ws RX6 TX6 4
theorem nmX6 : ∀ a, a < 4 → ∀ b, b < 4 → a ≠ b → (TX6 a).2.1 ≠ (TX6 b).2.1 := by decide +kernel
theorem tyX6_ok : ∀ k, k < 4 → parseFieldDescriptor (TX6 k).2.2.1 = some (tyX6 k) := by decide +kernel
abbrev cX6_init : ByteArray := prog_1_method_1_code
def yX6_init : MethodName := ⟨RX6, "<init>", "()V"⟩
abbrev cX6_mine : ByteArray := prog_1_method_2_code
def yX6_mine : MethodName := ⟨RX6, "mine", "(I)I"⟩
abbrev cX6_leg : ByteArray := prog_1_method_3_code
def yX6_leg : MethodName := ⟨RX6, "leg", "(III)I"⟩
abbrev cX6_wagon : ByteArray := prog_1_method_4_code
def yX6_wagon : MethodName := ⟨RX6, "wagon", "(I)I"⟩
abbrev cX6_load : ByteArray := prog_1_method_5_code
def yX6_load : MethodName := ⟨RX6, "load", "(I)I"⟩
abbrev cX6_unload : ByteArray := prog_1_method_6_code
def yX6_unload : MethodName := ⟨RX6, "unload", "(I)I"⟩
abbrev cX6_repair : ByteArray := prog_1_method_7_code
def yX6_repair : MethodName := ⟨RX6, "repair", "(I)I"⟩
abbrev cX6_train : ByteArray := prog_1_method_8_code
def yX6_train : MethodName := ⟨RX6, "train", "(IIII)I"⟩
abbrev cX6_pass : ByteArray := prog_1_method_9_code
def yX6_pass : MethodName := ⟨RX6, "pass", "(I)I"⟩
abbrev cX6_set : ByteArray := prog_1_method_10_code
def yX6_set : MethodName := ⟨RX6, "set", "(II)I"⟩
abbrev cX6_wagonOf : ByteArray := prog_1_method_11_code
def yX6_wagonOf : MethodName := ⟨RX6, "wagonOf", "(II)I"⟩
abbrev cX6_placeOf : ByteArray := prog_1_method_12_code
def yX6_placeOf : MethodName := ⟨RX6, "placeOf", "(II)I"⟩
abbrev cX6_days : ByteArray := prog_1_method_13_code
def yX6_days : MethodName := ⟨RX6, "days", "(II)I"⟩
abbrev cX6_would : ByteArray := prog_1_method_14_code
def yX6_would : MethodName := ⟨RX6, "would", "(II)I"⟩
abbrev cX6_lacks : ByteArray := prog_1_method_15_code
def yX6_lacks : MethodName := ⟨RX6, "lacks", "(I)I"⟩
abbrev cX6_bestTrain : ByteArray := prog_1_method_16_code
def yX6_bestTrain : MethodName := ⟨RX6, "bestTrain", "(I)I"⟩
abbrev cX6_share : ByteArray := prog_1_method_17_code
def yX6_share : MethodName := ⟨RX6, "share", "(I)I"⟩
abbrev cX6_count : ByteArray := prog_1_method_18_code
def yX6_count : MethodName := ⟨RX6, "count", "(I)I"⟩
abbrev cX6_undo : ByteArray := prog_1_method_19_code
def yX6_undo : MethodName := ⟨RX6, "undo", "()I"⟩
abbrev cX6_type : ByteArray := prog_1_method_20_code
def yX6_type : MethodName := ⟨RX6, "type", "(I)I"⟩
abbrev cX6_clearText : ByteArray := prog_1_method_21_code
def yX6_clearText : MethodName := ⟨RX6, "clearText", "()I"⟩
abbrev cX6_fault : ByteArray := prog_1_method_22_code
def yX6_fault : MethodName := ⟨RX6, "fault", "(I)I"⟩
abbrev cX6_play : ByteArray := prog_1_method_23_code
def yX6_play : MethodName := ⟨RX6, "play", "()I"⟩
abbrev cX6_settle : ByteArray := prog_1_method_24_code
def yX6_settle : MethodName := ⟨RX6, "settle", "(I)I"⟩
abbrev cX6_isError : ByteArray := prog_1_method_25_code
def yX6_isError : MethodName := ⟨RX6, "isError", "(I)Z"⟩
abbrev cX6_within : ByteArray := prog_1_method_26_code
def yX6_within : MethodName := ⟨RX6, "within", "(III)Z"⟩
abbrev cX6_bitsOfShare : ByteArray := prog_1_method_27_code
def yX6_bitsOfShare : MethodName := ⟨RX6, "bitsOfShare", "(F)I"⟩
def RX7 : String := "CoalWagonsModel"
def TX7 : u_T := fun k => match k with
  | 0 => ("CoalWagonsModel", "s", "[I", true)
  | 1 => ("CoalWagonsModel", "begun", "[I", true)
  | 2 => ("CoalWagonsModel", "aside", "[I", true)
  | 3 => ("CoalWagonsModel", "past", "[I", true)
  | 4 => ("CoalWagonsModel", "states", "I", false)
  | 5 => ("CoalWagonsModel", "text", "[I", true)
  | 6 => ("CoalWagonsModel", "length", "I", false)
  | 7 => ("CoalWagonsModel", "at", "I", false)
  | 8 => ("CoalWagonsModel", "from", "I", false)
  | 9 => ("CoalWagonsModel", "done", "I", false)
  | 10 => ("CoalWagonsModel", "told", "I", false)
  | 11 => ("CoalWagonsModel", "isForm", "Z", false)
  | _ => ("CoalWagonsModel", "numbers", "[I", true)
def tyX7 : Nat → FieldType := fun k => match k with
  | 0 => .array .int
  | 1 => .array .int
  | 2 => .array .int
  | 3 => .array .int
  | 4 => .int
  | 5 => .array .int
  | 6 => .int
  | 7 => .int
  | 8 => .int
  | 9 => .int
  | 10 => .int
  | 11 => .boolean
  | _ => .array .int
abbrev wsX70 : List Cond := u_ws RX7 TX7 13
theorem nmX7 : ∀ a, a < 13 → ∀ b, b < 13 → a ≠ b → (TX7 a).2.1 ≠ (TX7 b).2.1 := by decide +kernel
theorem tyX7_ok : ∀ k, k < 13 → parseFieldDescriptor (TX7 k).2.2.1 = some (tyX7 k) := by decide +kernel
abbrev cX7_init : ByteArray := prog_9_method_1_code
def yX7_init : MethodName := ⟨RX7, "<init>", "()V"⟩
abbrev cX7_in : ByteArray := prog_9_method_3_code
def yX7_in : MethodName := ⟨RX7, "in", "(III)Z"⟩
abbrev cX7_begins : ByteArray := prog_9_method_4_code
def yX7_begins : MethodName := ⟨RX7, "begins", "()V"⟩
abbrev cX7_returns : ByteArray := prog_9_method_5_code
def yX7_returns : MethodName := ⟨RX7, "returns", "()V"⟩
abbrev cX7_acted : ByteArray := prog_9_method_6_code
def yX7_acted : MethodName := ⟨RX7, "acted", "(I)I"⟩
abbrev cX7_isPlace : ByteArray := prog_9_method_7_code
def yX7_isPlace : MethodName := ⟨RX7, "isPlace", "(I)Z"⟩
abbrev cX7_isMine : ByteArray := prog_9_method_8_code
def yX7_isMine : MethodName := ⟨RX7, "isMine", "(I)Z"⟩
abbrev cX7_isWagon : ByteArray := prog_9_method_9_code
def yX7_isWagon : MethodName := ⟨RX7, "isWagon", "(I)Z"⟩
abbrev cX7_has : ByteArray := prog_9_method_10_code
def yX7_has : MethodName := ⟨RX7, "has", "(II)I"⟩
abbrev cX7_adds : ByteArray := prog_9_method_11_code
def yX7_adds : MethodName := ⟨RX7, "adds", "(III)V"⟩
abbrev cX7_of : ByteArray := prog_9_method_12_code
def yX7_of : MethodName := ⟨RX7, "of", "(II)I"⟩
abbrev cX7_lays : ByteArray := prog_9_method_13_code
def yX7_lays : MethodName := ⟨RX7, "lays", "(III)V"⟩
abbrev cX7_stands : ByteArray := prog_9_method_14_code
def yX7_stands : MethodName := ⟨RX7, "stands", "(II)Z"⟩
abbrev cX7_isDue : ByteArray := prog_9_method_15_code
def yX7_isDue : MethodName := ⟨RX7, "isDue", "(I)Z"⟩
abbrev cX7_whyNot : ByteArray := prog_9_method_16_code
def yX7_whyNot : MethodName := ⟨RX7, "whyNot", "(I)I"⟩
abbrev cX7_pays : ByteArray := prog_9_method_17_code
def yX7_pays : MethodName := ⟨RX7, "pays", "(III)V"⟩
abbrev cX7_inRepair : ByteArray := prog_9_method_18_code
def yX7_inRepair : MethodName := ⟨RX7, "inRepair", "(Z)I"⟩
abbrev cX7_firstWaiting : ByteArray := prog_9_method_19_code
def yX7_firstWaiting : MethodName := ⟨RX7, "firstWaiting", "()I"⟩
abbrev cX7_fillsShop : ByteArray := prog_9_method_20_code
def yX7_fillsShop : MethodName := ⟨RX7, "fillsShop", "()V"⟩
abbrev cX7_arrives : ByteArray := prog_9_method_21_code
def yX7_arrives : MethodName := ⟨RX7, "arrives", "()I"⟩
abbrev cX7_repairs : ByteArray := prog_9_method_22_code
def yX7_repairs : MethodName := ⟨RX7, "repairs", "()V"⟩
abbrev cX7_charges : ByteArray := prog_9_method_23_code
def yX7_charges : MethodName := ⟨RX7, "charges", "(I)V"⟩
abbrev cX7_day : ByteArray := prog_9_method_24_code
def yX7_day : MethodName := ⟨RX7, "day", "()I"⟩
abbrev cX7_joins : ByteArray := prog_9_method_25_code
def yX7_joins : MethodName := ⟨RX7, "joins", "(I)I"⟩
abbrev cX7_loads : ByteArray := prog_9_method_26_code
def yX7_loads : MethodName := ⟨RX7, "loads", "(I)I"⟩
abbrev cX7_unloads : ByteArray := prog_9_method_27_code
def yX7_unloads : MethodName := ⟨RX7, "unloads", "(I)I"⟩
abbrev cX7_sends : ByteArray := prog_9_method_28_code
def yX7_sends : MethodName := ⟨RX7, "sends", "(I)I"⟩
abbrev cX7_trains : ByteArray := prog_9_method_29_code
def yX7_trains : MethodName := ⟨RX7, "trains", "(IIII)I"⟩
abbrev cX7_passes : ByteArray := prog_9_method_30_code
def yX7_passes : MethodName := ⟨RX7, "passes", "(I)I"⟩
abbrev cX7_mine : ByteArray := prog_9_method_31_code
def yX7_mine : MethodName := ⟨RX7, "mine", "(I)I"⟩
abbrev cX7_leg : ByteArray := prog_9_method_32_code
def yX7_leg : MethodName := ⟨RX7, "leg", "(III)I"⟩
abbrev cX7_wagon : ByteArray := prog_9_method_33_code
def yX7_wagon : MethodName := ⟨RX7, "wagon", "(I)I"⟩
abbrev cX7_load : ByteArray := prog_9_method_34_code
def yX7_load : MethodName := ⟨RX7, "load", "(I)I"⟩
abbrev cX7_unload : ByteArray := prog_9_method_35_code
def yX7_unload : MethodName := ⟨RX7, "unload", "(I)I"⟩
abbrev cX7_repair : ByteArray := prog_9_method_36_code
def yX7_repair : MethodName := ⟨RX7, "repair", "(I)I"⟩
abbrev cX7_train : ByteArray := prog_9_method_37_code
def yX7_train : MethodName := ⟨RX7, "train", "(IIII)I"⟩
abbrev cX7_pass : ByteArray := prog_9_method_38_code
def yX7_pass : MethodName := ⟨RX7, "pass", "(I)I"⟩
abbrev cX7_isSetting : ByteArray := prog_9_method_39_code
def yX7_isSetting : MethodName := ⟨RX7, "isSetting", "(II)Z"⟩
abbrev cX7_set : ByteArray := prog_9_method_40_code
def yX7_set : MethodName := ⟨RX7, "set", "(II)I"⟩
abbrev cX7_daysOf : ByteArray := prog_9_method_41_code
def yX7_daysOf : MethodName := ⟨RX7, "daysOf", "(I)I"⟩
abbrev cX7_wagonOf : ByteArray := prog_9_method_42_code
def yX7_wagonOf : MethodName := ⟨RX7, "wagonOf", "(II)I"⟩
abbrev cX7_standing : ByteArray := prog_9_method_43_code
def yX7_standing : MethodName := ⟨RX7, "standing", "(II)I"⟩
abbrev cX7_going : ByteArray := prog_9_method_44_code
def yX7_going : MethodName := ⟨RX7, "going", "(I)I"⟩
abbrev cX7_owned : ByteArray := prog_9_method_45_code
def yX7_owned : MethodName := ⟨RX7, "owned", "(I)I"⟩
abbrev cX7_placeOf : ByteArray := prog_9_method_46_code
def yX7_placeOf : MethodName := ⟨RX7, "placeOf", "(II)I"⟩
abbrev cX7_days : ByteArray := prog_9_method_47_code
def yX7_days : MethodName := ⟨RX7, "days", "(II)I"⟩
abbrev cX7_would : ByteArray := prog_9_method_48_code
def yX7_would : MethodName := ⟨RX7, "would", "(II)I"⟩
abbrev cX7_ready : ByteArray := prog_9_method_49_code
def yX7_ready : MethodName := ⟨RX7, "ready", "(I)I"⟩
abbrev cX7_lacking : ByteArray := prog_9_method_50_code
def yX7_lacking : MethodName := ⟨RX7, "lacking", "(I)I"⟩
abbrev cX7_spare : ByteArray := prog_9_method_51_code
def yX7_spare : MethodName := ⟨RX7, "spare", "(I)I"⟩
abbrev cX7_lacks : ByteArray := prog_9_method_52_code
def yX7_lacks : MethodName := ⟨RX7, "lacks", "(I)I"⟩
abbrev cX7_bestTrain : ByteArray := prog_9_method_53_code
def yX7_bestTrain : MethodName := ⟨RX7, "bestTrain", "(I)I"⟩
abbrev cX7_share : ByteArray := prog_9_method_54_code
def yX7_share : MethodName := ⟨RX7, "share", "(I)I"⟩
abbrev cX7_wagons : ByteArray := prog_9_method_55_code
def yX7_wagons : MethodName := ⟨RX7, "wagons", "(I)I"⟩
abbrev cX7_sum : ByteArray := prog_9_method_56_code
def yX7_sum : MethodName := ⟨RX7, "sum", "(I)I"⟩
abbrev cX7_due : ByteArray := prog_9_method_57_code
def yX7_due : MethodName := ⟨RX7, "due", "()I"⟩
abbrev cX7_tonnes : ByteArray := prog_9_method_58_code
def yX7_tonnes : MethodName := ⟨RX7, "tonnes", "()I"⟩
abbrev cX7_count : ByteArray := prog_9_method_59_code
def yX7_count : MethodName := ⟨RX7, "count", "(I)I"⟩
abbrev cX7_undo : ByteArray := prog_9_method_60_code
def yX7_undo : MethodName := ⟨RX7, "undo", "()I"⟩
abbrev cX7_type : ByteArray := prog_9_method_61_code
def yX7_type : MethodName := ⟨RX7, "type", "(I)I"⟩
abbrev cX7_clearText : ByteArray := prog_9_method_62_code
def yX7_clearText : MethodName := ⟨RX7, "clearText", "()I"⟩
abbrev cX7_here : ByteArray := prog_9_method_63_code
def yX7_here : MethodName := ⟨RX7, "here", "()I"⟩
abbrev cX7_isDigit : ByteArray := prog_9_method_64_code
def yX7_isDigit : MethodName := ⟨RX7, "isDigit", "()Z"⟩
abbrev cX7_takesSign : ByteArray := prog_9_method_65_code
def yX7_takesSign : MethodName := ⟨RX7, "takesSign", "(I)V"⟩
abbrev cX7_number : ByteArray := prog_9_method_66_code
def yX7_number : MethodName := ⟨RX7, "number", "()I"⟩
abbrev cX7_manyOf : ByteArray := prog_9_method_67_code
def yX7_manyOf : MethodName := ⟨RX7, "manyOf", "(I)I"⟩
abbrev cX7_called : ByteArray := prog_9_method_68_code
def yX7_called : MethodName := ⟨RX7, "called", "(I)I"⟩
abbrev cX7_doesAll : ByteArray := prog_9_method_69_code
def yX7_doesAll : MethodName := ⟨RX7, "doesAll", "()Z"⟩
abbrev cX7_fault : ByteArray := prog_9_method_70_code
def yX7_fault : MethodName := ⟨RX7, "fault", "(I)I"⟩
abbrev cX7_play : ByteArray := prog_9_method_71_code
def yX7_play : MethodName := ⟨RX7, "play", "()I"⟩
def RJxf58ca : String := "java/lang/Float"
abbrev cJxf58ca_isNaN_12338 : ByteArray := prog_10_method_6_code
def yJxf58ca_isNaN_12338 : MethodName := ⟨RJxf58ca, "isNaN", "(F)Z"⟩
abbrev cJxf58ca_floatToIntBits_5c35a : ByteArray := prog_10_method_24_code
def yJxf58ca_floatToIntBits_5c35a : MethodName := ⟨RJxf58ca, "floatToIntBits", "(F)I"⟩
def RJ6 : String := "java/lang/Integer"
abbrev cJ6_bitCount_0f7a4 : ByteArray := prog_11_method_49_code
def yJ6_bitCount_0f7a4 : MethodName := ⟨RJ6, "bitCount", "(I)I"⟩
def RJ9 : String := "java/lang/Math"
abbrev cJ9_floorMod_7cf53 : ByteArray := prog_12_method_50_code
def yJ9_floorMod_7cf53 : MethodName := ⟨RJ9, "floorMod", "(II)I"⟩
abbrev cJ9_max_7cf53 : ByteArray := prog_12_method_65_code
def yJ9_max_7cf53 : MethodName := ⟨RJ9, "max", "(II)I"⟩
abbrev cJ9_min_7cf53 : ByteArray := prog_12_method_69_code
def yJ9_min_7cf53 : MethodName := ⟨RJ9, "min", "(II)I"⟩
def RJ10 : String := "java/lang/System"
def RL : String := "CoalWagonsLaw"
abbrev cL_law : ByteArray := code
def yL_law : MethodName := ⟨RL, "law", "([I)Z"⟩
abbrev vwCl : List vw_C := [(RX0, TX0, 3), (RX1, TX1, 9), (RX2, TX2, 6), (RX3, TX3, 11), (RX4, TX4, 2), (RX5, TX5, 9), (RX6, TX6, 4), (RX7, TX7, 13)]
/-- the words that a caller may hand on: all good ones of the tables -/
def ka_T : List Cond := lw_tbl.filter goodWord
theorem ka_T_good : GoodIn ka_T ka_T := fun w hw => ⟨hw, good_of_word (List.mem_filter.mp hw).2⟩
theorem ka_in0 : ∀ w ∈ wsX00, w ∈ ka_T := fun w hw => List.mem_filter.mpr ⟨(by decide +kernel : ∀ w ∈ wsX00, w ∈ lw_tbl) w hw, (by decide +kernel : ∀ w ∈ wsX00, goodWord w = true) w hw⟩
theorem ka_in1 : ∀ w ∈ wsX10, w ∈ ka_T := fun w hw => List.mem_filter.mpr ⟨(by decide +kernel : ∀ w ∈ wsX10, w ∈ lw_tbl) w hw, (by decide +kernel : ∀ w ∈ wsX10, goodWord w = true) w hw⟩
theorem ka_in2 : ∀ w ∈ wsX20, w ∈ ka_T := fun w hw => List.mem_filter.mpr ⟨(by decide +kernel : ∀ w ∈ wsX20, w ∈ lw_tbl) w hw, (by decide +kernel : ∀ w ∈ wsX20, goodWord w = true) w hw⟩
theorem ka_in3 : ∀ w ∈ wsX30, w ∈ ka_T := fun w hw => List.mem_filter.mpr ⟨(by decide +kernel : ∀ w ∈ wsX30, w ∈ lw_tbl) w hw, (by decide +kernel : ∀ w ∈ wsX30, goodWord w = true) w hw⟩
theorem ka_in4 : ∀ w ∈ wsX40, w ∈ ka_T := fun w hw => List.mem_filter.mpr ⟨(by decide +kernel : ∀ w ∈ wsX40, w ∈ lw_tbl) w hw, (by decide +kernel : ∀ w ∈ wsX40, goodWord w = true) w hw⟩
theorem ka_in5 : ∀ w ∈ wsX50, w ∈ ka_T := fun w hw => List.mem_filter.mpr ⟨(by decide +kernel : ∀ w ∈ wsX50, w ∈ lw_tbl) w hw, (by decide +kernel : ∀ w ∈ wsX50, goodWord w = true) w hw⟩
theorem ka_in6 : ∀ w ∈ wsX60, w ∈ ka_T := fun w hw => List.mem_filter.mpr ⟨(by decide +kernel : ∀ w ∈ wsX60, w ∈ lw_tbl) w hw, (by decide +kernel : ∀ w ∈ wsX60, goodWord w = true) w hw⟩
theorem ka_in7 : ∀ w ∈ wsX70, w ∈ ka_T := fun w hw => List.mem_filter.mpr ⟨(by decide +kernel : ∀ w ∈ wsX70, w ∈ lw_tbl) w hw, (by decide +kernel : ∀ w ∈ wsX70, goodWord w = true) w hw⟩
end
section
/-! the world of the claim: places (region, offset), the judgement ka_I over it, one row an instruction -/
abbrev ka_G : Type := Launch × va_G × (Nat → ClassId) × (Nat → Nat → Nat)
def ka_ad (G : ka_G) (r o : Nat) : Nat := G.2.2.2 r o
def ka_ca (G : ka_G) (k : Nat) : ClassId := G.2.2.1 k
abbrev ka_W : Type := Nat → Nat → Nat → Int32
def ka_b (b : Bool) : Int32 := if b then 1 else 0
def ka_t (x : Int32) : Bool := !decide (x = 0)
theorem ka_t_b {b : Bool} : ka_t (ka_b b) = b := by cases b <;> rfl
theorem ka_b0 {b : Bool} (h : ka_b b = 0) : b = false := by
  cases b
  · rfl
  · exact absurd h (by decide)
theorem ka_b1 {b : Bool} (h : ¬ ka_b b = 0) : b = true := by
  cases b
  · exact absurd rfl h
  · rfl
def ka_E (G : ka_G) (r o : Nat) (f : Nat → Int32) : va_E :=
  if r < 6 then
    if o = 0 then .inr (3, [.ref (ka_ad G r 1), .ref (ka_ad G r 7), .ref (ka_ad G r 28), .ref (ka_ad G r 29), .ref (ka_ad G r 30), .int (f 5), .int (f 6), .int (f 7), .int (f 8), .int (f 9), .int (f 10)])
    else if o = 1 then .inl (ka_ca G 1, 5, .inr (.inr (.inr (.inr (fun k => some (ka_ad G r (2 + k)))))))
    else if o < 7 then .inr (2, [.int (f 0), .int (f 1), .int (f 2), .int (f 3), .int (f 4), .int (f 5)])
    else if o = 7 then .inl (ka_ca G 2, 20, .inr (.inr (.inr (.inr (fun k => some (ka_ad G r (8 + k)))))))
    else if o < 28 then .inr (5, [.int (f 0), .int (f 1), .int (f 2), .int (ka_b (ka_t (f 3))), .int (f 4), .int (f 5), .int (f 6), .int (f 7), .int (f 8)])
    else if o = 28 then .inl (ka_ca G 0, 25, .inl f)
    else if o = 29 then .inl (ka_ca G 0, 7, .inl f)
    else if o = 30 then .inr (4, [.ref (ka_ad G r 31), .int (f 1)])
    else .inl (ka_ca G 0, 20, .inl f)
  else if r = 6 then
    if o = 0 then .inr (0, [.ref (ka_ad G 6 1), .int (f 1), .int (f 2)])
    else .inl (ka_ca G 3, 4, .inr (.inr (.inr (.inr (fun k => some (ka_ad G (2 + k) 0))))))
  else if r = 7 then
    if o = 0 then .inr (1, [.ref (ka_ad G 7 1), .ref (ka_ad G 7 2), .int (f 2), .int (f 3), .int (f 4), .int (f 5), .int (f 6), .int (f 7), .int (f 8)])
    else if o = 1 then .inl (ka_ca G 0, 60, .inl f)
    else .inl (ka_ca G 0, 4, .inl f)
  else if r = 8 then .inr (6, [.ref (ka_ad G 0 0), .ref (ka_ad G 1 0), .ref (ka_ad G 6 0), .ref (ka_ad G 7 0)])
  else
    if o = 0 then .inr (7, [.ref (ka_ad G 9 1), .ref (ka_ad G 9 2), .ref (ka_ad G 9 3), .ref (ka_ad G 9 4), .int (f 4), .ref (ka_ad G 9 5), .int (f 6), .int (f 7), .int (f 8), .int (f 9), .int (f 10), .int (ka_b (ka_t (f 11))), .ref (ka_ad G 9 6)])
    else if o < 4 then .inl (ka_ca G 0, 269, .inl f)
    else if o = 4 then .inl (ka_ca G 0, 1076, .inl f)
    else if o = 5 then .inl (ka_ca G 0, 60, .inl f)
    else .inl (ka_ca G 0, 4, .inl f)
def ka_ix : List (Nat × Nat) := (List.range 6).flatMap (fun r => (List.range 32).map (fun o => (r, o))) ++ [(6, 0), (6, 1), (7, 0), (7, 1), (7, 2), (8, 0), (9, 0), (9, 1), (9, 2), (9, 3), (9, 4), (9, 5), (9, 6)]
set_option maxRecDepth 100000 in
theorem ka_ixp : ∀ r, r < 6 → ∀ o, o < 32 → ka_ix[32 * r + o]? = some (r, o) := by decide +kernel
theorem ka_ix_60 : ka_ix[192]? = some (6, 0) := by decide +kernel
theorem ka_ix_61 : ka_ix[193]? = some (6, 1) := by decide +kernel
theorem ka_ix_70 : ka_ix[194]? = some (7, 0) := by decide +kernel
theorem ka_ix_71 : ka_ix[195]? = some (7, 1) := by decide +kernel
theorem ka_ix_72 : ka_ix[196]? = some (7, 2) := by decide +kernel
theorem ka_ix_80 : ka_ix[197]? = some (8, 0) := by decide +kernel
theorem ka_ix_90 : ka_ix[198]? = some (9, 0) := by decide +kernel
theorem ka_ix_91 : ka_ix[199]? = some (9, 1) := by decide +kernel
theorem ka_ix_92 : ka_ix[200]? = some (9, 2) := by decide +kernel
theorem ka_ix_93 : ka_ix[201]? = some (9, 3) := by decide +kernel
theorem ka_ix_94 : ka_ix[202]? = some (9, 4) := by decide +kernel
theorem ka_ix_95 : ka_ix[203]? = some (9, 5) := by decide +kernel
theorem ka_ix_96 : ka_ix[204]? = some (9, 6) := by decide +kernel
set_option maxRecDepth 100000 in
theorem ka_ix_nd : ka_ix.Nodup := by decide +kernel
theorem ka_ix_inj {i j : Nat} {q : Nat × Nat} (h : ka_ix[i]? = some q) (h2 : ka_ix[j]? = some q) : i = j := by
  obtain ⟨hi, ei⟩ := List.getElem?_eq_some_iff.mp h
  obtain ⟨hj, ej⟩ := List.getElem?_eq_some_iff.mp h2
  exact (List.getElem_inj ka_ix_nd).mp (ei.trans ej.symm)
def ka_wl (G : ka_G) (V : ka_W) : va_W := ka_ix.map (fun q => (ka_ad G q.1 q.2, ka_E G q.1 q.2 (V q.1 q.2)))
def ka_sp (V : ka_W) (r : Nat) (P : Nat → Nat → Int32) : ka_W := fun r' => if r' = r then P else V r'
def ka_s2 (P : Nat → Nat → Int32) (o : Nat) (f : Nat → Int32) : Nat → Nat → Int32 := fun o' => if o' = o then f else P o'
def ka_st (V : ka_W) (r o : Nat) (f : Nat → Int32) : ka_W := ka_sp V r (ka_s2 (V r) o f)
theorem ka_sp_s {V : ka_W} {r : Nat} {P : Nat → Nat → Int32} : ka_sp V r P r = P := if_pos rfl
theorem ka_sp_n {V : ka_W} {r r' : Nat} {P : Nat → Nat → Int32} (h : r' ≠ r) : ka_sp V r P r' = V r' := if_neg h
theorem ka_s2_s {P : Nat → Nat → Int32} {o : Nat} {f : Nat → Int32} : ka_s2 P o f o = f := if_pos rfl
theorem ka_s2_n {P : Nat → Nat → Int32} {o o' : Nat} {f : Nat → Int32} (h : o' ≠ o) : ka_s2 P o f o' = P o' := if_neg h
theorem ka_sp_sp {V : ka_W} {r : Nat} {P P' : Nat → Nat → Int32} : ka_sp (ka_sp V r P) r P' = ka_sp V r P' := by
  funext r'
  simp only [ka_sp]
  split <;> rfl
theorem ka_sp_self {V : ka_W} {r : Nat} : ka_sp V r (V r) = V := by
  funext r'
  simp only [ka_sp]
  split
  · next h => rw [h]
  · rfl
theorem ka_sp_comm {V : ka_W} {r r' : Nat} {P P' : Nat → Nat → Int32} (h : r ≠ r') : ka_sp (ka_sp V r P) r' P' = ka_sp (ka_sp V r' P') r P := by
  funext x
  simp only [ka_sp]
  split
  · next h1 => rw [if_neg (fun h2 => h (h2.symm.trans h1))]
  · rfl
theorem ka_s2_s2 {P : Nat → Nat → Int32} {o : Nat} {f f' : Nat → Int32} : ka_s2 (ka_s2 P o f) o f' = ka_s2 P o f' := by
  funext r'
  simp only [ka_s2]
  split <;> rfl
theorem ka_s2_self {P : Nat → Nat → Int32} {o : Nat} : ka_s2 P o (P o) = P := by
  funext r'
  simp only [ka_s2]
  split
  · next h => rw [h]
  · rfl
theorem ka_st_sp {V : ka_W} {r o : Nat} {P : Nat → Nat → Int32} {f : Nat → Int32} : ka_st (ka_sp V r P) r o f = ka_sp V r (ka_s2 P o f) := by
  unfold ka_st
  rw [ka_sp_s, ka_sp_sp]
theorem ka_st_s {V : ka_W} {r o : Nat} {f : Nat → Int32} : ka_st V r o f r o = f := by
  unfold ka_st
  rw [ka_sp_s, ka_s2_s]
theorem ka_wl_at {G : ka_G} {V : ka_W} {i r o : Nat} (h : ka_ix[i]? = some (r, o)) : (ka_wl G V)[i]? = some (ka_ad G r o, ka_E G r o (V r o)) := by
  simp [ka_wl, List.getElem?_map, h]
theorem ka_wl_set {G : ka_G} {V : ka_W} {i r o : Nat} {f : Nat → Int32} (h : ka_ix[i]? = some (r, o)) : (ka_wl G V).set i (ka_ad G r o, ka_E G r o f) = ka_wl G (ka_st V r o f) := by
  apply List.ext_getElem?
  intro j
  by_cases hj : j = i
  · subst hj
    have hl : j < (ka_wl G V).length := (List.getElem?_eq_some_iff.mp (ka_wl_at (G := G) (V := V) h)).1
    rw [List.getElem?_set_self hl, ka_wl_at h, ka_st_s]
  · rw [List.getElem?_set_ne (Ne.symm hj)]
    cases hq : ka_ix[j]? with
    | none => simp [ka_wl, List.getElem?_map, hq]
    | some q =>
      obtain ⟨r', o'⟩ := q
      rw [ka_wl_at hq, ka_wl_at hq]
      have hne : ¬ (r' = r ∧ o' = o) := fun h3 => hj (ka_ix_inj hq (by rw [h3.1, h3.2]; exact h))
      have e : ka_st V r o f r' o' = V r' o' := by
        unfold ka_st ka_sp ka_s2
        by_cases h1 : r' = r
        · rw [if_pos h1]
          have h2 : ¬ o' = o := fun h2 => hne ⟨h1, h2⟩
          rw [if_neg h2, h1]
        · rw [if_neg h1]
      rw [e]
def ka_AD (G : ka_G) : Prop := ∀ (i j : Nat) (p q : Nat × Nat), ka_ix[i]? = some p → ka_ix[j]? = some q → ka_ad G p.1 p.2 = ka_ad G q.1 q.2 → i = j
def ka_A (G : ka_G) : Nat → Prop := fun q => ∃ (i : Nat) (p : Nat × Nat), ka_ix[i]? = some p ∧ q = ka_ad G p.1 p.2
theorem ka_wl_of {G : ka_G} {V : ka_W} {k : Nat} {q : Nat × va_E} (h : (ka_wl G V)[k]? = some q) : ∃ p : Nat × Nat, ka_ix[k]? = some p ∧ q = (ka_ad G p.1 p.2, ka_E G p.1 p.2 (V p.1 p.2)) := by
  simp only [ka_wl, List.getElem?_map] at h
  cases hq : ka_ix[k]? with
  | none => rw [hq] at h; cases h
  | some p => rw [hq] at h; exact ⟨p, rfl, (Option.some.inj h).symm⟩
theorem ka_wlD {G : ka_G} {V : ka_W} {A : Nat → Prop} (h : ka_AD G) (hA : ∀ q, ka_A G q → A q) : va_D A (ka_wl G V) := by
  refine ⟨fun i j p q hi hj e => ?_, fun k q hk => ?_⟩
  · obtain ⟨p', h1, rfl⟩ := ka_wl_of hi
    obtain ⟨q', h2, rfl⟩ := ka_wl_of hj
    exact h i j p' q' h1 h2 e
  · obtain ⟨p', h1, rfl⟩ := ka_wl_of hk
    exact hA _ ⟨k, p', h1, rfl⟩
def ka_ty (G : ka_G) : List (ClassId × FieldType) := [(ka_ca G 0, .int), (ka_ca G 1, .object RX2), (ka_ca G 2, .object RX5), (ka_ca G 3, .object RX3)]
def ka_nF : List (String × Nat × String × String × String × String) := [("CoalWagons$Pool", 101, "CoalWagons$Place", "rate", "I", "CoalWagons"), ("CoalWagons$Pool", 141, "CoalWagons$Place", "heap", "I", "CoalWagons"), ("CoalWagons$Pool", 89, "CoalWagons$Place", "account", "I", "CoalWagons"), ("CoalWagons$Pool", 249, "CoalWagons$Place", "demurrage", "I", "CoalWagons"), ("CoalWagons$Pool", 252, "CoalWagons$Place", "hire", "I", "CoalWagons"), ("CoalWagons$Pool", 144, "CoalWagons$Place", "tonnes", "I", "CoalWagons"), ("CoalWagons$Pool", 123, "CoalWagons$Wagon", "owner", "I", "CoalWagons"), ("CoalWagons$Pool", 126, "CoalWagons$Wagon", "place", "I", "CoalWagons"), ("CoalWagons$Pool", 154, "CoalWagons$Wagon", "state", "I", "CoalWagons"), ("CoalWagons$Pool", 147, "CoalWagons$Wagon", "loaded", "Z", "CoalWagons"), ("CoalWagons$Pool", 92, "CoalWagons$Wagon", "wear", "I", "CoalWagons"), ("CoalWagons$Pool", 233, "CoalWagons$Wagon", "since", "I", "CoalWagons"), ("CoalWagons$Pool", 176, "CoalWagons$Wagon", "until", "I", "CoalWagons"), ("CoalWagons$Pool", 215, "CoalWagons$Wagon", "journey", "I", "CoalWagons"), ("CoalWagons$Pool", 151, "CoalWagons$Wagon", "loads", "I", "CoalWagons"), ("CoalWagons$Pool", 32, "CoalWagons", "FIRST_SETTING", "[I", "CoalWagons"), ("CoalWagons$Pool", 194, "CoalWagons", "LOWEST_SETTING", "[I", "CoalWagons"), ("CoalWagons$Pool", 197, "CoalWagons", "HIGHEST_SETTING", "[I", "CoalWagons")]
def ka_nM : List (String × Nat × MethodName × String) := [("CoalWagons$Pool", 17, ⟨"CoalWagons$Place", "<init>", "()V"⟩, "CoalWagons"), ("CoalWagons$Pool", 24, ⟨"CoalWagons$Wagon", "<init>", "()V"⟩, "CoalWagons"), ("CoalWagons$Pool", 77, ⟨"CoalWagons", "within", "(III)Z"⟩, "CoalWagons"), ("CoalWagons$OrderText", 34, ⟨"CoalWagons", "within", "(III)Z"⟩, "CoalWagons"), ("CoalWagons$OrderText", 58, ⟨"CoalWagons", "isError", "(I)Z"⟩, "CoalWagons")]
def ka_NW (U : State) : Prop := (∀ q ∈ ka_nF, va_Nw (.fieldLinkNest q.1 q.2.1 q.2.2.1 q.2.2.2.1 q.2.2.2.2.1 q.2.2.2.2.2) U) ∧ (∀ q ∈ ka_nM, va_Nw (.methodLinkNest q.1 q.2.1 q.2.2.1 q.2.2.2) U)
theorem ka_NW.warm {s U : State} (hW : s.WarmedH U.vm) (h : ka_NW s) : ka_NW U := ⟨fun q hq => va_Nw.warmF hW (h.1 q hq), fun q hq => va_Nw.warmM hW (h.2 q hq)⟩
theorem ka_NW.same {s U : State} (hW : s.vm = U.vm) (h : ka_NW s) : ka_NW U := ⟨fun q hq => va_Nw.same rfl hW (h.1 q hq), fun q hq => va_Nw.same rfl hW (h.2 q hq)⟩
def ka_low : Nat → Int32 := fun j => if j = 3 then 1 else if j = 6 then 1 else 0
def ka_high : Nat → Int32 := fun j => if j = 0 then 30 else if j = 6 then 30 else 99
def ka_SZ (A : Nat → Prop) (U : State) (H : Heap) : Prop := ∃ tL tH : Nat, va_Z RX6 "LOWEST_SETTING" "[I" (.ref tL) A U H ∧ va_T .int tL 7 (fun j => .int (ka_low j)) A U H ∧ va_Z RX6 "HIGHEST_SETTING" "[I" (.ref tH) A U H ∧ va_T .int tH 7 (fun j => .int (ka_high j)) A U H
theorem ka_SZ.moved {A : Nat → Prop} {u U : State} {H : Heap} (hvm : u.vm.Alike U.vm) (h : ka_SZ A u H) : ka_SZ A U H := by
  obtain ⟨tL, tH, h1, h2, h3, h4⟩ := h
  exact ⟨tL, tH, h1.moved hvm, h2.moved hvm, h3.moved hvm, h4.moved hvm⟩
theorem ka_SZ.kept {A : Nat → Prop} {U : State} {H H1 : Heap} (h : ka_SZ A U H) (hq : ∀ a : Nat, a < H.size → ¬ A a → H1[a]? = H[a]?) : ka_SZ A U H1 := by
  obtain ⟨tL, tH, h1, h2, h3, h4⟩ := h
  exact ⟨tL, tH, h1.kept hq, h2.kept hq, h3.kept hq, h4.kept hq⟩
theorem ka_SZ.narrow {A B : Nat → Prop} {U : State} {H : Heap} (h : ka_SZ A U H) (hAB : ∀ q, B q → A q) : ka_SZ B U H := by
  obtain ⟨tL, tH, h1, h2, h3, h4⟩ := h
  exact ⟨tL, tH, h1.narrow hAB, h2.narrow hAB, h3.narrow hAB, h4.narrow hAB⟩
def ka_Pre (G : ka_G) (V : ka_W) (U : State) : Prop := va_P G.2.1 vwCl (ka_wl G V) U.heap ∧ va_K G.2.1 vwCl (ka_ty G) U ∧ ka_NW U ∧ ka_SZ (ka_A G) U U.heap
def ka_ws (y : MethodName) (bytes : ByteArray) (maxL : Nat) (ret : Option FieldType) : List Cond := .code y bytes maxL ret :: ka_T
def ka_rm (d : Nat) : Room := { frames := d, cells := 0, slots := 0, locals := 32 * d }
/-- THE CONTRACT: called with As over the world V, the method y returns v, the world is then V'; no other old cell changes, none is made -/
def ka_M (G : ka_G) (y : MethodName) (bytes : ByteArray) (maxL : Nat) (ret : Option FieldType) (d : Nat) (As : List Value) (V : ka_W) (v : Option Value) (V' : ka_W) : Prop :=
  Met G.1 y (ka_ws y bytes maxL ret) (ka_rm d) (fun a U => a = As.toArray ∧ ka_Pre G V U) (fun _ st oc t => oc = .returned v ∧ ka_Pre G V' t ∧ va_F (ka_A G) st t) 0 0 (ka_A G)
abbrev ka_X : Type := Program × Env × Room × State × MethodId × Array Value × List Frame × Method × Code × (Nat → Prop) × Nat × Nat × (State → Prop)
def ka_lx : Nat → List Value → List (Nat × Value)
  | _, [] => []
  | i, v :: vs => (i, v) :: ka_lx (i + 1) vs
def ka_L (ls : Array Slot) (nL : Nat) (L : List Value) : Prop := lv_has ls nL (ka_lx 0 L) ∧ ∀ v ∈ L, v.category = 1
def ka_I (G : ka_G) (X : ka_X) (V : ka_W) (pc : Nat) (L st : List Value) : Prop := match X with
  | (p, e, R, s, m, args, below, meth, c, A0, k, n, Q) => ∀ (H : Heap) (locs : List Loc) (ls : Array Slot), va_P G.2.1 vwCl (ka_wl G V) H → va_S A0 s.heap H locs → ka_L ls c.maxLocals L → W p G.1 e R s m args below meth c H locs k n Q (F0 m pc ls st)
def ka_C (G : ka_G) (X : ka_X) (cc : ByteArray) (own : String) (nL d : Nat) : Prop := match X with
  | (p, _, R, s, m, args, _, _, c, A0, k, n, _) => p.tables.exec = Jvm.exec ∧ c.code = cc ∧ c.maxLocals = nL ∧ s.vm.findClass own = some m.cls ∧ (∀ w ∈ ka_T, w.before args s = true) ∧ va_K G.2.1 vwCl (ka_ty G) s ∧ ka_NW s ∧ ka_SZ A0 s s.heap ∧ ka_AD G ∧ (∀ q, ka_A G q → A0 q) ∧ (d ≤ R.frames ∧ 32 * d ≤ R.locals ∧ k ≤ R.cells ∧ n ≤ R.slots)
def ka_R (G : ka_G) (X : ka_X) (ret : Option FieldType) (v : Option Value) (V' : ka_W) : Prop := match X with
  | (_, _, _, s, _, args, below, meth, _, A0, k, n, Q) => meth.sig.returnType = ret ∧ meth.locks = false ∧ A0 = ka_A G ∧ Q = MQ below (fun _ st oc t => oc = .returned v ∧ ka_Pre G V' t ∧ va_F (ka_A G) st t) args s k n (ka_A G)
theorem ka_lx_mem {q : Nat × Value} : ∀ {L : List Value} {a : Nat}, q ∈ ka_lx a L ↔ ∃ j : Nat, L[j]? = some q.2 ∧ q.1 = a + j
  | [], a => by simp [ka_lx]
  | v :: L, a => by
    rw [ka_lx, List.mem_cons, ka_lx_mem (L := L) (a := a + 1)]
    constructor
    · rintro (rfl | ⟨j, h1, h2⟩)
      · exact ⟨0, rfl, rfl⟩
      · exact ⟨j + 1, by simpa using h1, by omega⟩
    · rintro ⟨j, h1, h2⟩
      cases j with
      | zero =>
        refine Or.inl ?_
        obtain ⟨q1, q2⟩ := q
        simp at h1 h2
        rw [h1, h2]
      | succ j => exact Or.inr ⟨j, by simpa using h1, by omega⟩
theorem ka_lx_args : ∀ {L : List Value} {a : Nat}, (∀ v ∈ L, v.category = 1) → lv_args a L = ka_lx a L
  | [], _, _ => rfl
  | v :: L, a, h => by
    have h1 : v.category = 1 := h v List.mem_cons_self
    rw [lv_args, ka_lx, if_neg (by rw [h1]; decide), ka_lx_args (fun w hw => h w (List.mem_cons_of_mem _ hw))]
theorem ka_lg : ∀ {L : List Value}, (∀ v ∈ L, v.category = 1) → (lg_sl L).length = L.length
  | [], _ => rfl
  | v :: L, h => by
    have h1 : v.category = 1 := h v List.mem_cons_self
    have h2 := ka_lg (L := L) (fun w hw => h w (List.mem_cons_of_mem _ hw))
    unfold lg_sl at h2 ⊢
    rw [List.flatMap_cons, if_neg (by rw [h1]; decide), List.length_append, h2, List.length_cons]
    simp
    omega
theorem ka_L_at {ls : Array Slot} {nL i : Nat} {L : List Value} {v : Value} (h : ka_L ls nL L) (hi : L[i]? = some v) : ls[i]? = some (.val v) := h.1.2.2 (i, v) (ka_lx_mem.mpr ⟨i, hi, by simp⟩)
theorem ka_L_new {ls ls' : Array Slot} {nL i : Nat} {L L' : List Value} {v : Value} (h : ka_L ls nL L) (hc : v.category = 1) (hL : ∀ (j : Nat) (w : Value), L'[j]? = some w → (j = i ∧ w = v) ∨ (j ≠ i ∧ L[j]? = some w)) (h' : lv_has ls' nL ((i, v) :: (ka_lx 0 L).filter (fun q => !(q.1 == i) && !(q.1 + 1 == i && q.2.category == 2)))) : ka_L ls' nL L' := by
  have hcat : ∀ w ∈ L', w.category = 1 := by
    intro w hw
    obtain ⟨j, hj⟩ := List.getElem?_of_mem hw
    rcases hL j w hj with ⟨-, rfl⟩ | ⟨-, h1⟩
    · exact hc
    · exact h.2 w (List.mem_of_getElem? h1)
  refine ⟨⟨h'.1, h'.2.1, fun q hq => ?_⟩, hcat⟩
  obtain ⟨j, hj, e⟩ := ka_lx_mem.mp hq
  have e1 : q.1 = j := by omega
  refine h'.2.2 q ?_
  rcases hL j q.2 hj with ⟨h1, h2⟩ | ⟨h1, h2⟩
  · refine List.mem_cons.mpr (Or.inl ?_)
    obtain ⟨q1, q2⟩ := q
    simp at e1 h2 ⊢
    exact ⟨by omega, h2⟩
  · refine List.mem_cons_of_mem _ (List.mem_filter.mpr ⟨ka_lx_mem.mpr ⟨j, h2, by omega⟩, ?_⟩)
    have h3 : q.2.category = 1 := h.2 _ (List.mem_of_getElem? h2)
    have h4 : ¬ q.1 = i := by omega
    simp [h3, h4]
theorem ka_set_at {L : List Value} {i : Nat} {v : Value} : ∀ (j : Nat) (w : Value), (L.set i v)[j]? = some w → (j = i ∧ w = v) ∨ (j ≠ i ∧ L[j]? = some w) := by
  intro j w h
  by_cases hj : j = i
  · subst hj
    have hl : j < L.length := by have := (List.getElem?_eq_some_iff.mp h).1; simpa using this
    rw [List.getElem?_set_self hl] at h
    exact Or.inl ⟨rfl, (Option.some.inj h).symm⟩
  · rw [List.getElem?_set_ne (Ne.symm hj)] at h
    exact Or.inr ⟨hj, h⟩
theorem ka_push_at {L : List Value} {v : Value} : ∀ (j : Nat) (w : Value), (L ++ [v])[j]? = some w → (j = L.length ∧ w = v) ∨ (j ≠ L.length ∧ L[j]? = some w) := by
  intro j w h
  by_cases hj : j < L.length
  · rw [List.getElem?_append_left hj] at h
    exact Or.inr ⟨by omega, h⟩
  · rw [List.getElem?_append_right (by omega)] at h
    have h1 := (List.getElem?_eq_some_iff.mp h).1
    simp at h1
    have h2 : j = L.length := by omega
    subst h2
    simp at h
    exact Or.inl ⟨rfl, h.symm⟩
theorem ka_entry {G : ka_G} {y : MethodName} {bytes : ByteArray} {maxL : Nat} {ret : Option FieldType} {d : Nat} {As : List Value} {V : ka_W} {v : Option Value} {V' : ka_W} (hG : ka_AD G) (hy : plainName y.cls = true) (hc : ∀ v ∈ As, v.category = 1) (hl : As.length ≤ maxL)
    (body : ∀ X : ka_X, ka_C G X bytes y.cls maxL d → ka_R G X ret v V' → ka_I G X V 0 As []) : ka_M G y bytes maxL ret d As V v V' := by
  refine Met.ofW (cc := bytes) (maxL := maxL) (ret := ret) hy rfl ?_
  intro p e s m args below meth c s₁ B hml hv
  obtain ⟨rfl, hP, hK, hN, hZ⟩ := hv
  have hts := atoms_spec (ws := ka_ws y bytes maxL ret) B.pre
  have b := body (p, e, (headSpec (ka_ws y bytes maxL ret) (ka_rm d)).room, s, m, As.toArray, below, meth, c, ka_A G, 0, 0, MQ below (fun _ st oc t => oc = .returned v ∧ ka_Pre G V' t ∧ va_F (ka_A G) st t) As.toArray s 0 0 (ka_A G)) ⟨B.exec, B.bytes, hml, findClass_of_methodNamed B.named, fun w hw => hts w (List.mem_cons_of_mem _ hw), hK, hN, hZ, hG, fun _ h => h, ⟨Nat.le_refl _, Nat.le_refl _, Nat.le_refl _, Nat.le_refl _⟩⟩ ⟨B.returns, B.notSynchronized, rfl, rfl⟩
  rw [lg_entry_eq]
  refine b s.heap [] _ hP va_S.rf ⟨?_, hc⟩
  have h1 := lv_entry As (n := maxL) (by rw [ka_lg hc]; exact hl)
  rw [ka_lx_args hc] at h1
  rw [hml]
  exact h1
section KA
variable {G : ka_G} {X : ka_X} {cc : ByteArray} {own : String} {nL d : Nat} {V : ka_W} {pc : Nat} {L st : List Value}
theorem ka_I.eqW {V' : ka_W} (h : V = V') (k : ka_I G X V' pc L st) : ka_I G X V pc L st := h ▸ k
theorem ka_I.to {V' : ka_W} {L' : List Value} (hW : V = V') (hL : L = L') (k : ka_I G X V' pc L' st) : ka_I G X V pc L st := by
  subst hW; subst hL; exact k
theorem ka_I.drop {L' : List Value} (n : Nat) (hL : L.take n = L') (k : ka_I G X V pc L' st) : ka_I G X V pc L st := by
  obtain ⟨p, e, R, s, m, args, below, meth, c, A0, k', n', Q⟩ := X
  intro H locs ls hP hS hl
  refine k H locs ls hP hS ?_
  subst hL
  refine ⟨⟨hl.1.1, hl.1.2.1, fun q hq => ?_⟩, fun v hv => hl.2 v (List.mem_of_mem_take hv)⟩
  obtain ⟨j, h1, h2⟩ := ka_lx_mem.mp hq
  refine hl.1.2.2 q (ka_lx_mem.mpr ⟨j, ?_, h2⟩)
  rw [List.getElem?_take] at h1
  split at h1
  · exact h1
  · cases h1
theorem ka_iconst {i : Int} {v : Int32} (hC : ka_C G X cc own nL d) (hd : decode cc pc = .ok (.iconst i, 1)) (hv : Int32.ofInt i = v) (kk : ka_I G X V (pc + 1) L (.int v :: st)): ka_I G X V pc L (st) := by
  obtain ⟨p, e, R, s, m, args, below, meth, c, A0, k, n, Q⟩ := X
  intro H locs ls hP hS hL
  exact lv_iconst hC.1 hC.2.1 hd hv (kk H locs ls hP hS hL)
theorem ka_bipush {i : Int} {v : Int32} (hC : ka_C G X cc own nL d) (hd : decode cc pc = .ok (.bipush i, 2)) (hv : (Int8.ofInt i).toInt32 = v) (kk : ka_I G X V (pc + 2) L (.int v :: st)): ka_I G X V pc L (st) := by
  obtain ⟨p, e, R, s, m, args, below, meth, c, A0, k, n, Q⟩ := X
  intro H locs ls hP hS hL
  exact lv_bipush hC.1 hC.2.1 hd hv (kk H locs ls hP hS hL)
theorem ka_sipush {i : Int} {v : Int32} (hC : ka_C G X cc own nL d) (hd : decode cc pc = .ok (.sipush i, 3)) (hv : (Int16.ofInt i).toInt32 = v) (kk : ka_I G X V (pc + 3) L (.int v :: st)): ka_I G X V pc L (st) := by
  obtain ⟨p, e, R, s, m, args, below, meth, c, A0, k, n, Q⟩ := X
  intro H locs ls hP hS hL
  exact lv_sipush hC.1 hC.2.1 hd hv (kk H locs ls hP hS hL)
theorem ka_ldc {i : Nat} {v : Int32} (hC : ka_C G X cc own nL d) (hq : Cond.constant own i v ∈ ka_T) (hd : decode cc pc = .ok (.ldc i, 2)) (kk : ka_I G X V (pc + 2) L (.int v :: st)): ka_I G X V pc L (st) := by
  obtain ⟨p, e, R, s, m, args, below, meth, c, A0, k, n, Q⟩ := X
  intro H locs ls hP hS hL
  exact lv_ldc hC.1 hC.2.1 hC.2.2.2.1 (hC.2.2.2.2.1 _ hq) hd (kk H locs ls hP hS hL)
theorem ka_ldcw {i : Nat} {v : Int32} (hC : ka_C G X cc own nL d) (hq : Cond.constant own i v ∈ ka_T) (hd : decode cc pc = .ok (.ldc_w i, 3)) (kk : ka_I G X V (pc + 3) L (.int v :: st)): ka_I G X V pc L (st) := by
  obtain ⟨p, e, R, s, m, args, below, meth, c, A0, k, n, Q⟩ := X
  intro H locs ls hP hS hL
  exact lv_ldcw hC.1 hC.2.1 hC.2.2.2.1 (hC.2.2.2.2.1 _ hq) hd (kk H locs ls hP hS hL)
theorem ka_iload_n {k : Fin 4} {x : Int32} (hC : ka_C G X cc own nL d) (hd : decode cc pc = .ok (.iload_n k, 1)) (hl : L[(k : Nat)]? = some (.int x)) (kk : ka_I G X V (pc + 1) L (.int x :: st)): ka_I G X V pc L (st) := by
  obtain ⟨p, e, R, s, m, args, below, meth, c, A0, k, n, Q⟩ := X
  intro H locs ls hP hS hL
  exact lv_iload_n hC.1 hC.2.1 hd rfl (ka_L_at hL hl) (kk H locs ls hP hS hL)
theorem ka_iload {k : Nat} {x : Int32} (hC : ka_C G X cc own nL d) (hd : decode cc pc = .ok (.iload k, 2)) (hl : L[k]? = some (.int x)) (kk : ka_I G X V (pc + 2) L (.int x :: st)): ka_I G X V pc L (st) := by
  obtain ⟨p, e, R, s, m, args, below, meth, c, A0, k, n, Q⟩ := X
  intro H locs ls hP hS hL
  exact lv_iload hC.1 hC.2.1 hd (ka_L_at hL hl) (kk H locs ls hP hS hL)
theorem ka_istore_n_s {k : Fin 4} {x : Int32} (hC : ka_C G X cc own nL d) (hd : decode cc pc = .ok (.istore_n k, 1)) (hi : (k : Nat) < L.length) (hn : (k : Nat) < nL) (kk : ka_I G X V (pc + 1) (L.set (k : Nat) (.int x)) (st)): ka_I G X V pc L (.int x :: st) := by
  obtain ⟨p, e, R, s, m, args, below, meth, c, A0, k, n, Q⟩ := X
  intro H locs ls hP hS hL
  exact lv_istore_n hC.1 hC.2.1 hd rfl (nL := c.maxLocals) hL.1 (by rw [hC.2.2.1]; exact hn) rfl (fun ls' h' => kk H locs ls' hP hS (ka_L_new hL rfl ka_set_at h'))
theorem ka_istore_n_p {k : Fin 4} {x : Int32} (hC : ka_C G X cc own nL d) (hd : decode cc pc = .ok (.istore_n k, 1)) (hi : (k : Nat) = L.length) (hn : (k : Nat) < nL) (kk : ka_I G X V (pc + 1) (L ++ [.int x]) (st)): ka_I G X V pc L (.int x :: st) := by
  obtain ⟨p, e, R, s, m, args, below, meth, c, A0, k, n, Q⟩ := X
  intro H locs ls hP hS hL
  exact lv_istore_n hC.1 hC.2.1 hd rfl (nL := c.maxLocals) hL.1 (by rw [hC.2.2.1]; exact hn) rfl (fun ls' h' => kk H locs ls' hP hS (ka_L_new hL rfl (hi ▸ ka_push_at) h'))
theorem ka_istore_s {k : Nat} {x : Int32} (hC : ka_C G X cc own nL d) (hd : decode cc pc = .ok (.istore k, 2)) (hi : k < L.length) (hn : k < nL) (kk : ka_I G X V (pc + 2) (L.set k (.int x)) (st)): ka_I G X V pc L (.int x :: st) := by
  obtain ⟨p, e, R, s, m, args, below, meth, c, A0, k, n, Q⟩ := X
  intro H locs ls hP hS hL
  exact lv_istore hC.1 hC.2.1 hd (nL := c.maxLocals) hL.1 (by rw [hC.2.2.1]; exact hn) rfl (fun ls' h' => kk H locs ls' hP hS (ka_L_new hL rfl ka_set_at h'))
theorem ka_istore_p {k : Nat} {x : Int32} (hC : ka_C G X cc own nL d) (hd : decode cc pc = .ok (.istore k, 2)) (hi : k = L.length) (hn : k < nL) (kk : ka_I G X V (pc + 2) (L ++ [.int x]) (st)): ka_I G X V pc L (.int x :: st) := by
  obtain ⟨p, e, R, s, m, args, below, meth, c, A0, k, n, Q⟩ := X
  intro H locs ls hP hS hL
  exact lv_istore hC.1 hC.2.1 hd (nL := c.maxLocals) hL.1 (by rw [hC.2.2.1]; exact hn) rfl (fun ls' h' => kk H locs ls' hP hS (ka_L_new hL rfl (hi ▸ ka_push_at) h'))
theorem ka_aload_n {k : Fin 4} {x : Nat} (hC : ka_C G X cc own nL d) (hd : decode cc pc = .ok (.aload_n k, 1)) (hl : L[(k : Nat)]? = some (.ref x)) (kk : ka_I G X V (pc + 1) L (.ref x :: st)): ka_I G X V pc L (st) := by
  obtain ⟨p, e, R, s, m, args, below, meth, c, A0, k, n, Q⟩ := X
  intro H locs ls hP hS hL
  exact lv_aload_n hC.1 hC.2.1 hd rfl (ka_L_at hL hl) (kk H locs ls hP hS hL)
theorem ka_aload {k : Nat} {x : Nat} (hC : ka_C G X cc own nL d) (hd : decode cc pc = .ok (.aload k, 2)) (hl : L[k]? = some (.ref x)) (kk : ka_I G X V (pc + 2) L (.ref x :: st)): ka_I G X V pc L (st) := by
  obtain ⟨p, e, R, s, m, args, below, meth, c, A0, k, n, Q⟩ := X
  intro H locs ls hP hS hL
  exact lv_aload hC.1 hC.2.1 hd (ka_L_at hL hl) (kk H locs ls hP hS hL)
theorem ka_astore_n_s {k : Fin 4} {x : Nat} (hC : ka_C G X cc own nL d) (hd : decode cc pc = .ok (.astore_n k, 1)) (hi : (k : Nat) < L.length) (hn : (k : Nat) < nL) (kk : ka_I G X V (pc + 1) (L.set (k : Nat) (.ref x)) (st)): ka_I G X V pc L (.ref x :: st) := by
  obtain ⟨p, e, R, s, m, args, below, meth, c, A0, k, n, Q⟩ := X
  intro H locs ls hP hS hL
  exact lv_astore_n hC.1 hC.2.1 hd rfl (nL := c.maxLocals) hL.1 (by rw [hC.2.2.1]; exact hn) rfl (fun ls' h' => kk H locs ls' hP hS (ka_L_new hL rfl ka_set_at h'))
theorem ka_astore_n_p {k : Fin 4} {x : Nat} (hC : ka_C G X cc own nL d) (hd : decode cc pc = .ok (.astore_n k, 1)) (hi : (k : Nat) = L.length) (hn : (k : Nat) < nL) (kk : ka_I G X V (pc + 1) (L ++ [.ref x]) (st)): ka_I G X V pc L (.ref x :: st) := by
  obtain ⟨p, e, R, s, m, args, below, meth, c, A0, k, n, Q⟩ := X
  intro H locs ls hP hS hL
  exact lv_astore_n hC.1 hC.2.1 hd rfl (nL := c.maxLocals) hL.1 (by rw [hC.2.2.1]; exact hn) rfl (fun ls' h' => kk H locs ls' hP hS (ka_L_new hL rfl (hi ▸ ka_push_at) h'))
theorem ka_astore_s {k : Nat} {x : Nat} (hC : ka_C G X cc own nL d) (hd : decode cc pc = .ok (.astore k, 2)) (hi : k < L.length) (hn : k < nL) (kk : ka_I G X V (pc + 2) (L.set k (.ref x)) (st)): ka_I G X V pc L (.ref x :: st) := by
  obtain ⟨p, e, R, s, m, args, below, meth, c, A0, k, n, Q⟩ := X
  intro H locs ls hP hS hL
  exact lv_astore hC.1 hC.2.1 hd (nL := c.maxLocals) hL.1 (by rw [hC.2.2.1]; exact hn) rfl (fun ls' h' => kk H locs ls' hP hS (ka_L_new hL rfl ka_set_at h'))
theorem ka_astore_p {k : Nat} {x : Nat} (hC : ka_C G X cc own nL d) (hd : decode cc pc = .ok (.astore k, 2)) (hi : k = L.length) (hn : k < nL) (kk : ka_I G X V (pc + 2) (L ++ [.ref x]) (st)): ka_I G X V pc L (.ref x :: st) := by
  obtain ⟨p, e, R, s, m, args, below, meth, c, A0, k, n, Q⟩ := X
  intro H locs ls hP hS hL
  exact lv_astore hC.1 hC.2.1 hd (nL := c.maxLocals) hL.1 (by rw [hC.2.2.1]; exact hn) rfl (fun ls' h' => kk H locs ls' hP hS (ka_L_new hL rfl (hi ▸ ka_push_at) h'))
theorem ka_fload_n {k : Fin 4} {x : UInt32} (hC : ka_C G X cc own nL d) (hd : decode cc pc = .ok (.fload_n k, 1)) (hl : L[(k : Nat)]? = some (.float x)) (kk : ka_I G X V (pc + 1) L (.float x :: st)): ka_I G X V pc L (st) := by
  obtain ⟨p, e, R, s, m, args, below, meth, c, A0, k, n, Q⟩ := X
  intro H locs ls hP hS hL
  exact lv_fload_n hC.1 hC.2.1 hd rfl (ka_L_at hL hl) (kk H locs ls hP hS hL)
theorem ka_fload {k : Nat} {x : UInt32} (hC : ka_C G X cc own nL d) (hd : decode cc pc = .ok (.fload k, 2)) (hl : L[k]? = some (.float x)) (kk : ka_I G X V (pc + 2) L (.float x :: st)): ka_I G X V pc L (st) := by
  obtain ⟨p, e, R, s, m, args, below, meth, c, A0, k, n, Q⟩ := X
  intro H locs ls hP hS hL
  exact lv_fload hC.1 hC.2.1 hd (ka_L_at hL hl) (kk H locs ls hP hS hL)
theorem ka_fstore_n_s {k : Fin 4} {x : UInt32} (hC : ka_C G X cc own nL d) (hd : decode cc pc = .ok (.fstore_n k, 1)) (hi : (k : Nat) < L.length) (hn : (k : Nat) < nL) (kk : ka_I G X V (pc + 1) (L.set (k : Nat) (.float x)) (st)): ka_I G X V pc L (.float x :: st) := by
  obtain ⟨p, e, R, s, m, args, below, meth, c, A0, k, n, Q⟩ := X
  intro H locs ls hP hS hL
  exact lv_fstore_n hC.1 hC.2.1 hd rfl (nL := c.maxLocals) hL.1 (by rw [hC.2.2.1]; exact hn) rfl (fun ls' h' => kk H locs ls' hP hS (ka_L_new hL rfl ka_set_at h'))
theorem ka_fstore_n_p {k : Fin 4} {x : UInt32} (hC : ka_C G X cc own nL d) (hd : decode cc pc = .ok (.fstore_n k, 1)) (hi : (k : Nat) = L.length) (hn : (k : Nat) < nL) (kk : ka_I G X V (pc + 1) (L ++ [.float x]) (st)): ka_I G X V pc L (.float x :: st) := by
  obtain ⟨p, e, R, s, m, args, below, meth, c, A0, k, n, Q⟩ := X
  intro H locs ls hP hS hL
  exact lv_fstore_n hC.1 hC.2.1 hd rfl (nL := c.maxLocals) hL.1 (by rw [hC.2.2.1]; exact hn) rfl (fun ls' h' => kk H locs ls' hP hS (ka_L_new hL rfl (hi ▸ ka_push_at) h'))
theorem ka_fstore_s {k : Nat} {x : UInt32} (hC : ka_C G X cc own nL d) (hd : decode cc pc = .ok (.fstore k, 2)) (hi : k < L.length) (hn : k < nL) (kk : ka_I G X V (pc + 2) (L.set k (.float x)) (st)): ka_I G X V pc L (.float x :: st) := by
  obtain ⟨p, e, R, s, m, args, below, meth, c, A0, k, n, Q⟩ := X
  intro H locs ls hP hS hL
  exact lv_fstore hC.1 hC.2.1 hd (nL := c.maxLocals) hL.1 (by rw [hC.2.2.1]; exact hn) rfl (fun ls' h' => kk H locs ls' hP hS (ka_L_new hL rfl ka_set_at h'))
theorem ka_fstore_p {k : Nat} {x : UInt32} (hC : ka_C G X cc own nL d) (hd : decode cc pc = .ok (.fstore k, 2)) (hi : k = L.length) (hn : k < nL) (kk : ka_I G X V (pc + 2) (L ++ [.float x]) (st)): ka_I G X V pc L (.float x :: st) := by
  obtain ⟨p, e, R, s, m, args, below, meth, c, A0, k, n, Q⟩ := X
  intro H locs ls hP hS hL
  exact lv_fstore hC.1 hC.2.1 hd (nL := c.maxLocals) hL.1 (by rw [hC.2.2.1]; exact hn) rfl (fun ls' h' => kk H locs ls' hP hS (ka_L_new hL rfl (hi ▸ ka_push_at) h'))
theorem ka_iinc0 {p : Program} {l : Launch} {e : Env} {R : Room} {s : State} {m : MethodId} {args : Array Value} {below : List Frame} {meth : Method} {c : Code} {H : Heap} {locs : List Loc} {cells slots : Nat} {Q : State → Prop} {ls : Array Slot} {rest : List Value} (hexec : p.tables.exec = Jvm.exec) (hb : c.code = cc) {i nL : Nat} {n : Int} {x v : Int32} {lv : List (Nat × Value)} (hdg : decode cc pc = .ok (.iinc i n, 3)) (hg : ls[i]? = some (.val (.int x))) (hv : x + Int32.ofInt n = v) (h : lv_has ls nL lv) (hn : i < nL)
    (kk : ∀ ls' : Array Slot, lv_has ls' nL ((i, Value.int v) :: lv.filter (fun q => !(q.1 == i) && !(q.1 + 1 == i && q.2.category == 2))) → W p l e R s m args below meth c H locs cells slots Q (F0 m (pc + 3) ls' rest)) : W p l e R s m args below meth c H locs cells slots Q (F0 m pc ls rest) := by
  subst hv
  obtain ⟨ls', e', h'⟩ := lv_store1 (v := .int (x + Int32.ofInt n)) h hn rfl
  intro T hT X
  obtain ⟨t, a, b⟩ := kk ls' h' T hT X
  refine ⟨t, ?_, b⟩
  jvm_step X.here [X.here.top, ↓top_set X.here.top, hexec, hb, hdg, hg, e']
  exact a
theorem ka_iinc {k : Nat} {i : Int} {v x : Int32} (hC : ka_C G X cc own nL d) (hd : decode cc pc = .ok (.iinc k i, 3)) (hl : L[k]? = some (.int x)) (hv : Int32.ofInt i = v) (hn : k < nL) (kk : ka_I G X V (pc + 3) (L.set k (.int (x + v))) (st)): ka_I G X V pc L (st) := by
  obtain ⟨p, e, R, s, m, args, below, meth, c, A0, k, n, Q⟩ := X
  intro H locs ls hP hS hL
  exact ka_iinc0 hC.1 hC.2.1 hd (ka_L_at hL hl) (by rw [hv]) hL.1 (by rw [hC.2.2.1]; exact hn) (fun ls' h' => kk H locs ls' hP hS (ka_L_new hL rfl ka_set_at h'))
theorem ka_istore_n_s0 {x : Int32} {b : Value} {T : List Value} (hC : ka_C G X cc own nL d) (hd : decode cc pc = .ok (.istore_n 0, 1)) (hn : 0 < nL) (kk : ka_I G X V (pc + 1) (.int x :: T) st) : ka_I G X V pc (b :: T) (.int x :: st) := ka_istore_n_s (L := b :: T) (k := 0) hC hd (by show 0 < _; simp only [List.length_cons]; omega) hn kk
theorem ka_istore_n_p0 {x : Int32} (hC : ka_C G X cc own nL d) (hd : decode cc pc = .ok (.istore_n 0, 1)) (hn : 0 < nL) (kk : ka_I G X V (pc + 1) [.int x] st) : ka_I G X V pc [] (.int x :: st) := ka_istore_n_p (L := []) (k := 0) hC hd rfl hn kk
theorem ka_astore_n_s0 {x : Nat} {b : Value} {T : List Value} (hC : ka_C G X cc own nL d) (hd : decode cc pc = .ok (.astore_n 0, 1)) (hn : 0 < nL) (kk : ka_I G X V (pc + 1) (.ref x :: T) st) : ka_I G X V pc (b :: T) (.ref x :: st) := ka_astore_n_s (L := b :: T) (k := 0) hC hd (by show 0 < _; simp only [List.length_cons]; omega) hn kk
theorem ka_astore_n_p0 {x : Nat} (hC : ka_C G X cc own nL d) (hd : decode cc pc = .ok (.astore_n 0, 1)) (hn : 0 < nL) (kk : ka_I G X V (pc + 1) [.ref x] st) : ka_I G X V pc [] (.ref x :: st) := ka_astore_n_p (L := []) (k := 0) hC hd rfl hn kk
theorem ka_fstore_n_s0 {x : UInt32} {b : Value} {T : List Value} (hC : ka_C G X cc own nL d) (hd : decode cc pc = .ok (.fstore_n 0, 1)) (hn : 0 < nL) (kk : ka_I G X V (pc + 1) (.float x :: T) st) : ka_I G X V pc (b :: T) (.float x :: st) := ka_fstore_n_s (L := b :: T) (k := 0) hC hd (by show 0 < _; simp only [List.length_cons]; omega) hn kk
theorem ka_fstore_n_p0 {x : UInt32} (hC : ka_C G X cc own nL d) (hd : decode cc pc = .ok (.fstore_n 0, 1)) (hn : 0 < nL) (kk : ka_I G X V (pc + 1) [.float x] st) : ka_I G X V pc [] (.float x :: st) := ka_fstore_n_p (L := []) (k := 0) hC hd rfl hn kk
theorem ka_iinc_0 {i : Int} {v x : Int32} {T : List Value} (hC : ka_C G X cc own nL d) (hd : decode cc pc = .ok (.iinc 0 i, 3)) (hv : Int32.ofInt i = v) (hn : 0 < nL) (kk : ka_I G X V (pc + 3) (.int (x + v) :: T) st) : ka_I G X V pc (.int x :: T) st := ka_iinc (L := .int x :: T) (k := 0) hC hd rfl hv hn kk
theorem ka_istore_n_s1 {x : Int32} {b : Value} {T : List Value} {a0 : Value} (hC : ka_C G X cc own nL d) (hd : decode cc pc = .ok (.istore_n 1, 1)) (hn : 1 < nL) (kk : ka_I G X V (pc + 1) (a0 :: .int x :: T) st) : ka_I G X V pc (a0 :: b :: T) (.int x :: st) := ka_istore_n_s (L := a0 :: b :: T) (k := 1) hC hd (by show 1 < _; simp only [List.length_cons]; omega) hn kk
theorem ka_istore_n_p1 {x : Int32} {a0 : Value} (hC : ka_C G X cc own nL d) (hd : decode cc pc = .ok (.istore_n 1, 1)) (hn : 1 < nL) (kk : ka_I G X V (pc + 1) [a0, .int x] st) : ka_I G X V pc [a0] (.int x :: st) := ka_istore_n_p (L := [a0]) (k := 1) hC hd rfl hn kk
theorem ka_astore_n_s1 {x : Nat} {b : Value} {T : List Value} {a0 : Value} (hC : ka_C G X cc own nL d) (hd : decode cc pc = .ok (.astore_n 1, 1)) (hn : 1 < nL) (kk : ka_I G X V (pc + 1) (a0 :: .ref x :: T) st) : ka_I G X V pc (a0 :: b :: T) (.ref x :: st) := ka_astore_n_s (L := a0 :: b :: T) (k := 1) hC hd (by show 1 < _; simp only [List.length_cons]; omega) hn kk
theorem ka_astore_n_p1 {x : Nat} {a0 : Value} (hC : ka_C G X cc own nL d) (hd : decode cc pc = .ok (.astore_n 1, 1)) (hn : 1 < nL) (kk : ka_I G X V (pc + 1) [a0, .ref x] st) : ka_I G X V pc [a0] (.ref x :: st) := ka_astore_n_p (L := [a0]) (k := 1) hC hd rfl hn kk
theorem ka_fstore_n_s1 {x : UInt32} {b : Value} {T : List Value} {a0 : Value} (hC : ka_C G X cc own nL d) (hd : decode cc pc = .ok (.fstore_n 1, 1)) (hn : 1 < nL) (kk : ka_I G X V (pc + 1) (a0 :: .float x :: T) st) : ka_I G X V pc (a0 :: b :: T) (.float x :: st) := ka_fstore_n_s (L := a0 :: b :: T) (k := 1) hC hd (by show 1 < _; simp only [List.length_cons]; omega) hn kk
theorem ka_fstore_n_p1 {x : UInt32} {a0 : Value} (hC : ka_C G X cc own nL d) (hd : decode cc pc = .ok (.fstore_n 1, 1)) (hn : 1 < nL) (kk : ka_I G X V (pc + 1) [a0, .float x] st) : ka_I G X V pc [a0] (.float x :: st) := ka_fstore_n_p (L := [a0]) (k := 1) hC hd rfl hn kk
theorem ka_iinc_1 {i : Int} {v x : Int32} {T : List Value} {a0 : Value} (hC : ka_C G X cc own nL d) (hd : decode cc pc = .ok (.iinc 1 i, 3)) (hv : Int32.ofInt i = v) (hn : 1 < nL) (kk : ka_I G X V (pc + 3) (a0 :: .int (x + v) :: T) st) : ka_I G X V pc (a0 :: .int x :: T) st := ka_iinc (L := a0 :: .int x :: T) (k := 1) hC hd rfl hv hn kk
theorem ka_istore_n_s2 {x : Int32} {b : Value} {T : List Value} {a0 a1 : Value} (hC : ka_C G X cc own nL d) (hd : decode cc pc = .ok (.istore_n 2, 1)) (hn : 2 < nL) (kk : ka_I G X V (pc + 1) (a0 :: a1 :: .int x :: T) st) : ka_I G X V pc (a0 :: a1 :: b :: T) (.int x :: st) := ka_istore_n_s (L := a0 :: a1 :: b :: T) (k := 2) hC hd (by show 2 < _; simp only [List.length_cons]; omega) hn kk
theorem ka_istore_n_p2 {x : Int32} {a0 a1 : Value} (hC : ka_C G X cc own nL d) (hd : decode cc pc = .ok (.istore_n 2, 1)) (hn : 2 < nL) (kk : ka_I G X V (pc + 1) [a0, a1, .int x] st) : ka_I G X V pc [a0, a1] (.int x :: st) := ka_istore_n_p (L := [a0, a1]) (k := 2) hC hd rfl hn kk
theorem ka_astore_n_s2 {x : Nat} {b : Value} {T : List Value} {a0 a1 : Value} (hC : ka_C G X cc own nL d) (hd : decode cc pc = .ok (.astore_n 2, 1)) (hn : 2 < nL) (kk : ka_I G X V (pc + 1) (a0 :: a1 :: .ref x :: T) st) : ka_I G X V pc (a0 :: a1 :: b :: T) (.ref x :: st) := ka_astore_n_s (L := a0 :: a1 :: b :: T) (k := 2) hC hd (by show 2 < _; simp only [List.length_cons]; omega) hn kk
theorem ka_astore_n_p2 {x : Nat} {a0 a1 : Value} (hC : ka_C G X cc own nL d) (hd : decode cc pc = .ok (.astore_n 2, 1)) (hn : 2 < nL) (kk : ka_I G X V (pc + 1) [a0, a1, .ref x] st) : ka_I G X V pc [a0, a1] (.ref x :: st) := ka_astore_n_p (L := [a0, a1]) (k := 2) hC hd rfl hn kk
theorem ka_fstore_n_s2 {x : UInt32} {b : Value} {T : List Value} {a0 a1 : Value} (hC : ka_C G X cc own nL d) (hd : decode cc pc = .ok (.fstore_n 2, 1)) (hn : 2 < nL) (kk : ka_I G X V (pc + 1) (a0 :: a1 :: .float x :: T) st) : ka_I G X V pc (a0 :: a1 :: b :: T) (.float x :: st) := ka_fstore_n_s (L := a0 :: a1 :: b :: T) (k := 2) hC hd (by show 2 < _; simp only [List.length_cons]; omega) hn kk
theorem ka_fstore_n_p2 {x : UInt32} {a0 a1 : Value} (hC : ka_C G X cc own nL d) (hd : decode cc pc = .ok (.fstore_n 2, 1)) (hn : 2 < nL) (kk : ka_I G X V (pc + 1) [a0, a1, .float x] st) : ka_I G X V pc [a0, a1] (.float x :: st) := ka_fstore_n_p (L := [a0, a1]) (k := 2) hC hd rfl hn kk
theorem ka_iinc_2 {i : Int} {v x : Int32} {T : List Value} {a0 a1 : Value} (hC : ka_C G X cc own nL d) (hd : decode cc pc = .ok (.iinc 2 i, 3)) (hv : Int32.ofInt i = v) (hn : 2 < nL) (kk : ka_I G X V (pc + 3) (a0 :: a1 :: .int (x + v) :: T) st) : ka_I G X V pc (a0 :: a1 :: .int x :: T) st := ka_iinc (L := a0 :: a1 :: .int x :: T) (k := 2) hC hd rfl hv hn kk
theorem ka_istore_n_s3 {x : Int32} {b : Value} {T : List Value} {a0 a1 a2 : Value} (hC : ka_C G X cc own nL d) (hd : decode cc pc = .ok (.istore_n 3, 1)) (hn : 3 < nL) (kk : ka_I G X V (pc + 1) (a0 :: a1 :: a2 :: .int x :: T) st) : ka_I G X V pc (a0 :: a1 :: a2 :: b :: T) (.int x :: st) := ka_istore_n_s (L := a0 :: a1 :: a2 :: b :: T) (k := 3) hC hd (by show 3 < _; simp only [List.length_cons]; omega) hn kk
theorem ka_istore_n_p3 {x : Int32} {a0 a1 a2 : Value} (hC : ka_C G X cc own nL d) (hd : decode cc pc = .ok (.istore_n 3, 1)) (hn : 3 < nL) (kk : ka_I G X V (pc + 1) [a0, a1, a2, .int x] st) : ka_I G X V pc [a0, a1, a2] (.int x :: st) := ka_istore_n_p (L := [a0, a1, a2]) (k := 3) hC hd rfl hn kk
theorem ka_astore_n_s3 {x : Nat} {b : Value} {T : List Value} {a0 a1 a2 : Value} (hC : ka_C G X cc own nL d) (hd : decode cc pc = .ok (.astore_n 3, 1)) (hn : 3 < nL) (kk : ka_I G X V (pc + 1) (a0 :: a1 :: a2 :: .ref x :: T) st) : ka_I G X V pc (a0 :: a1 :: a2 :: b :: T) (.ref x :: st) := ka_astore_n_s (L := a0 :: a1 :: a2 :: b :: T) (k := 3) hC hd (by show 3 < _; simp only [List.length_cons]; omega) hn kk
theorem ka_astore_n_p3 {x : Nat} {a0 a1 a2 : Value} (hC : ka_C G X cc own nL d) (hd : decode cc pc = .ok (.astore_n 3, 1)) (hn : 3 < nL) (kk : ka_I G X V (pc + 1) [a0, a1, a2, .ref x] st) : ka_I G X V pc [a0, a1, a2] (.ref x :: st) := ka_astore_n_p (L := [a0, a1, a2]) (k := 3) hC hd rfl hn kk
theorem ka_fstore_n_s3 {x : UInt32} {b : Value} {T : List Value} {a0 a1 a2 : Value} (hC : ka_C G X cc own nL d) (hd : decode cc pc = .ok (.fstore_n 3, 1)) (hn : 3 < nL) (kk : ka_I G X V (pc + 1) (a0 :: a1 :: a2 :: .float x :: T) st) : ka_I G X V pc (a0 :: a1 :: a2 :: b :: T) (.float x :: st) := ka_fstore_n_s (L := a0 :: a1 :: a2 :: b :: T) (k := 3) hC hd (by show 3 < _; simp only [List.length_cons]; omega) hn kk
theorem ka_fstore_n_p3 {x : UInt32} {a0 a1 a2 : Value} (hC : ka_C G X cc own nL d) (hd : decode cc pc = .ok (.fstore_n 3, 1)) (hn : 3 < nL) (kk : ka_I G X V (pc + 1) [a0, a1, a2, .float x] st) : ka_I G X V pc [a0, a1, a2] (.float x :: st) := ka_fstore_n_p (L := [a0, a1, a2]) (k := 3) hC hd rfl hn kk
theorem ka_iinc_3 {i : Int} {v x : Int32} {T : List Value} {a0 a1 a2 : Value} (hC : ka_C G X cc own nL d) (hd : decode cc pc = .ok (.iinc 3 i, 3)) (hv : Int32.ofInt i = v) (hn : 3 < nL) (kk : ka_I G X V (pc + 3) (a0 :: a1 :: a2 :: .int (x + v) :: T) st) : ka_I G X V pc (a0 :: a1 :: a2 :: .int x :: T) st := ka_iinc (L := a0 :: a1 :: a2 :: .int x :: T) (k := 3) hC hd rfl hv hn kk
theorem ka_istore_s4 {x : Int32} {b : Value} {T : List Value} {a0 a1 a2 a3 : Value} (hC : ka_C G X cc own nL d) (hd : decode cc pc = .ok (.istore 4, 2)) (hn : 4 < nL) (kk : ka_I G X V (pc + 2) (a0 :: a1 :: a2 :: a3 :: .int x :: T) st) : ka_I G X V pc (a0 :: a1 :: a2 :: a3 :: b :: T) (.int x :: st) := ka_istore_s (L := a0 :: a1 :: a2 :: a3 :: b :: T) (k := 4) hC hd (by show 4 < _; simp only [List.length_cons]; omega) hn kk
theorem ka_istore_p4 {x : Int32} {a0 a1 a2 a3 : Value} (hC : ka_C G X cc own nL d) (hd : decode cc pc = .ok (.istore 4, 2)) (hn : 4 < nL) (kk : ka_I G X V (pc + 2) [a0, a1, a2, a3, .int x] st) : ka_I G X V pc [a0, a1, a2, a3] (.int x :: st) := ka_istore_p (L := [a0, a1, a2, a3]) (k := 4) hC hd rfl hn kk
theorem ka_astore_s4 {x : Nat} {b : Value} {T : List Value} {a0 a1 a2 a3 : Value} (hC : ka_C G X cc own nL d) (hd : decode cc pc = .ok (.astore 4, 2)) (hn : 4 < nL) (kk : ka_I G X V (pc + 2) (a0 :: a1 :: a2 :: a3 :: .ref x :: T) st) : ka_I G X V pc (a0 :: a1 :: a2 :: a3 :: b :: T) (.ref x :: st) := ka_astore_s (L := a0 :: a1 :: a2 :: a3 :: b :: T) (k := 4) hC hd (by show 4 < _; simp only [List.length_cons]; omega) hn kk
theorem ka_astore_p4 {x : Nat} {a0 a1 a2 a3 : Value} (hC : ka_C G X cc own nL d) (hd : decode cc pc = .ok (.astore 4, 2)) (hn : 4 < nL) (kk : ka_I G X V (pc + 2) [a0, a1, a2, a3, .ref x] st) : ka_I G X V pc [a0, a1, a2, a3] (.ref x :: st) := ka_astore_p (L := [a0, a1, a2, a3]) (k := 4) hC hd rfl hn kk
theorem ka_fstore_s4 {x : UInt32} {b : Value} {T : List Value} {a0 a1 a2 a3 : Value} (hC : ka_C G X cc own nL d) (hd : decode cc pc = .ok (.fstore 4, 2)) (hn : 4 < nL) (kk : ka_I G X V (pc + 2) (a0 :: a1 :: a2 :: a3 :: .float x :: T) st) : ka_I G X V pc (a0 :: a1 :: a2 :: a3 :: b :: T) (.float x :: st) := ka_fstore_s (L := a0 :: a1 :: a2 :: a3 :: b :: T) (k := 4) hC hd (by show 4 < _; simp only [List.length_cons]; omega) hn kk
theorem ka_fstore_p4 {x : UInt32} {a0 a1 a2 a3 : Value} (hC : ka_C G X cc own nL d) (hd : decode cc pc = .ok (.fstore 4, 2)) (hn : 4 < nL) (kk : ka_I G X V (pc + 2) [a0, a1, a2, a3, .float x] st) : ka_I G X V pc [a0, a1, a2, a3] (.float x :: st) := ka_fstore_p (L := [a0, a1, a2, a3]) (k := 4) hC hd rfl hn kk
theorem ka_iinc_4 {i : Int} {v x : Int32} {T : List Value} {a0 a1 a2 a3 : Value} (hC : ka_C G X cc own nL d) (hd : decode cc pc = .ok (.iinc 4 i, 3)) (hv : Int32.ofInt i = v) (hn : 4 < nL) (kk : ka_I G X V (pc + 3) (a0 :: a1 :: a2 :: a3 :: .int (x + v) :: T) st) : ka_I G X V pc (a0 :: a1 :: a2 :: a3 :: .int x :: T) st := ka_iinc (L := a0 :: a1 :: a2 :: a3 :: .int x :: T) (k := 4) hC hd rfl hv hn kk
theorem ka_istore_s5 {x : Int32} {b : Value} {T : List Value} {a0 a1 a2 a3 a4 : Value} (hC : ka_C G X cc own nL d) (hd : decode cc pc = .ok (.istore 5, 2)) (hn : 5 < nL) (kk : ka_I G X V (pc + 2) (a0 :: a1 :: a2 :: a3 :: a4 :: .int x :: T) st) : ka_I G X V pc (a0 :: a1 :: a2 :: a3 :: a4 :: b :: T) (.int x :: st) := ka_istore_s (L := a0 :: a1 :: a2 :: a3 :: a4 :: b :: T) (k := 5) hC hd (by show 5 < _; simp only [List.length_cons]; omega) hn kk
theorem ka_istore_p5 {x : Int32} {a0 a1 a2 a3 a4 : Value} (hC : ka_C G X cc own nL d) (hd : decode cc pc = .ok (.istore 5, 2)) (hn : 5 < nL) (kk : ka_I G X V (pc + 2) [a0, a1, a2, a3, a4, .int x] st) : ka_I G X V pc [a0, a1, a2, a3, a4] (.int x :: st) := ka_istore_p (L := [a0, a1, a2, a3, a4]) (k := 5) hC hd rfl hn kk
theorem ka_astore_s5 {x : Nat} {b : Value} {T : List Value} {a0 a1 a2 a3 a4 : Value} (hC : ka_C G X cc own nL d) (hd : decode cc pc = .ok (.astore 5, 2)) (hn : 5 < nL) (kk : ka_I G X V (pc + 2) (a0 :: a1 :: a2 :: a3 :: a4 :: .ref x :: T) st) : ka_I G X V pc (a0 :: a1 :: a2 :: a3 :: a4 :: b :: T) (.ref x :: st) := ka_astore_s (L := a0 :: a1 :: a2 :: a3 :: a4 :: b :: T) (k := 5) hC hd (by show 5 < _; simp only [List.length_cons]; omega) hn kk
theorem ka_astore_p5 {x : Nat} {a0 a1 a2 a3 a4 : Value} (hC : ka_C G X cc own nL d) (hd : decode cc pc = .ok (.astore 5, 2)) (hn : 5 < nL) (kk : ka_I G X V (pc + 2) [a0, a1, a2, a3, a4, .ref x] st) : ka_I G X V pc [a0, a1, a2, a3, a4] (.ref x :: st) := ka_astore_p (L := [a0, a1, a2, a3, a4]) (k := 5) hC hd rfl hn kk
theorem ka_fstore_s5 {x : UInt32} {b : Value} {T : List Value} {a0 a1 a2 a3 a4 : Value} (hC : ka_C G X cc own nL d) (hd : decode cc pc = .ok (.fstore 5, 2)) (hn : 5 < nL) (kk : ka_I G X V (pc + 2) (a0 :: a1 :: a2 :: a3 :: a4 :: .float x :: T) st) : ka_I G X V pc (a0 :: a1 :: a2 :: a3 :: a4 :: b :: T) (.float x :: st) := ka_fstore_s (L := a0 :: a1 :: a2 :: a3 :: a4 :: b :: T) (k := 5) hC hd (by show 5 < _; simp only [List.length_cons]; omega) hn kk
theorem ka_fstore_p5 {x : UInt32} {a0 a1 a2 a3 a4 : Value} (hC : ka_C G X cc own nL d) (hd : decode cc pc = .ok (.fstore 5, 2)) (hn : 5 < nL) (kk : ka_I G X V (pc + 2) [a0, a1, a2, a3, a4, .float x] st) : ka_I G X V pc [a0, a1, a2, a3, a4] (.float x :: st) := ka_fstore_p (L := [a0, a1, a2, a3, a4]) (k := 5) hC hd rfl hn kk
theorem ka_iinc_5 {i : Int} {v x : Int32} {T : List Value} {a0 a1 a2 a3 a4 : Value} (hC : ka_C G X cc own nL d) (hd : decode cc pc = .ok (.iinc 5 i, 3)) (hv : Int32.ofInt i = v) (hn : 5 < nL) (kk : ka_I G X V (pc + 3) (a0 :: a1 :: a2 :: a3 :: a4 :: .int (x + v) :: T) st) : ka_I G X V pc (a0 :: a1 :: a2 :: a3 :: a4 :: .int x :: T) st := ka_iinc (L := a0 :: a1 :: a2 :: a3 :: a4 :: .int x :: T) (k := 5) hC hd rfl hv hn kk
theorem ka_istore_s6 {x : Int32} {b : Value} {T : List Value} {a0 a1 a2 a3 a4 a5 : Value} (hC : ka_C G X cc own nL d) (hd : decode cc pc = .ok (.istore 6, 2)) (hn : 6 < nL) (kk : ka_I G X V (pc + 2) (a0 :: a1 :: a2 :: a3 :: a4 :: a5 :: .int x :: T) st) : ka_I G X V pc (a0 :: a1 :: a2 :: a3 :: a4 :: a5 :: b :: T) (.int x :: st) := ka_istore_s (L := a0 :: a1 :: a2 :: a3 :: a4 :: a5 :: b :: T) (k := 6) hC hd (by show 6 < _; simp only [List.length_cons]; omega) hn kk
theorem ka_istore_p6 {x : Int32} {a0 a1 a2 a3 a4 a5 : Value} (hC : ka_C G X cc own nL d) (hd : decode cc pc = .ok (.istore 6, 2)) (hn : 6 < nL) (kk : ka_I G X V (pc + 2) [a0, a1, a2, a3, a4, a5, .int x] st) : ka_I G X V pc [a0, a1, a2, a3, a4, a5] (.int x :: st) := ka_istore_p (L := [a0, a1, a2, a3, a4, a5]) (k := 6) hC hd rfl hn kk
theorem ka_astore_s6 {x : Nat} {b : Value} {T : List Value} {a0 a1 a2 a3 a4 a5 : Value} (hC : ka_C G X cc own nL d) (hd : decode cc pc = .ok (.astore 6, 2)) (hn : 6 < nL) (kk : ka_I G X V (pc + 2) (a0 :: a1 :: a2 :: a3 :: a4 :: a5 :: .ref x :: T) st) : ka_I G X V pc (a0 :: a1 :: a2 :: a3 :: a4 :: a5 :: b :: T) (.ref x :: st) := ka_astore_s (L := a0 :: a1 :: a2 :: a3 :: a4 :: a5 :: b :: T) (k := 6) hC hd (by show 6 < _; simp only [List.length_cons]; omega) hn kk
theorem ka_astore_p6 {x : Nat} {a0 a1 a2 a3 a4 a5 : Value} (hC : ka_C G X cc own nL d) (hd : decode cc pc = .ok (.astore 6, 2)) (hn : 6 < nL) (kk : ka_I G X V (pc + 2) [a0, a1, a2, a3, a4, a5, .ref x] st) : ka_I G X V pc [a0, a1, a2, a3, a4, a5] (.ref x :: st) := ka_astore_p (L := [a0, a1, a2, a3, a4, a5]) (k := 6) hC hd rfl hn kk
theorem ka_fstore_s6 {x : UInt32} {b : Value} {T : List Value} {a0 a1 a2 a3 a4 a5 : Value} (hC : ka_C G X cc own nL d) (hd : decode cc pc = .ok (.fstore 6, 2)) (hn : 6 < nL) (kk : ka_I G X V (pc + 2) (a0 :: a1 :: a2 :: a3 :: a4 :: a5 :: .float x :: T) st) : ka_I G X V pc (a0 :: a1 :: a2 :: a3 :: a4 :: a5 :: b :: T) (.float x :: st) := ka_fstore_s (L := a0 :: a1 :: a2 :: a3 :: a4 :: a5 :: b :: T) (k := 6) hC hd (by show 6 < _; simp only [List.length_cons]; omega) hn kk
theorem ka_fstore_p6 {x : UInt32} {a0 a1 a2 a3 a4 a5 : Value} (hC : ka_C G X cc own nL d) (hd : decode cc pc = .ok (.fstore 6, 2)) (hn : 6 < nL) (kk : ka_I G X V (pc + 2) [a0, a1, a2, a3, a4, a5, .float x] st) : ka_I G X V pc [a0, a1, a2, a3, a4, a5] (.float x :: st) := ka_fstore_p (L := [a0, a1, a2, a3, a4, a5]) (k := 6) hC hd rfl hn kk
theorem ka_iinc_6 {i : Int} {v x : Int32} {T : List Value} {a0 a1 a2 a3 a4 a5 : Value} (hC : ka_C G X cc own nL d) (hd : decode cc pc = .ok (.iinc 6 i, 3)) (hv : Int32.ofInt i = v) (hn : 6 < nL) (kk : ka_I G X V (pc + 3) (a0 :: a1 :: a2 :: a3 :: a4 :: a5 :: .int (x + v) :: T) st) : ka_I G X V pc (a0 :: a1 :: a2 :: a3 :: a4 :: a5 :: .int x :: T) st := ka_iinc (L := a0 :: a1 :: a2 :: a3 :: a4 :: a5 :: .int x :: T) (k := 6) hC hd rfl hv hn kk
theorem ka_istore_s7 {x : Int32} {b : Value} {T : List Value} {a0 a1 a2 a3 a4 a5 a6 : Value} (hC : ka_C G X cc own nL d) (hd : decode cc pc = .ok (.istore 7, 2)) (hn : 7 < nL) (kk : ka_I G X V (pc + 2) (a0 :: a1 :: a2 :: a3 :: a4 :: a5 :: a6 :: .int x :: T) st) : ka_I G X V pc (a0 :: a1 :: a2 :: a3 :: a4 :: a5 :: a6 :: b :: T) (.int x :: st) := ka_istore_s (L := a0 :: a1 :: a2 :: a3 :: a4 :: a5 :: a6 :: b :: T) (k := 7) hC hd (by show 7 < _; simp only [List.length_cons]; omega) hn kk
theorem ka_istore_p7 {x : Int32} {a0 a1 a2 a3 a4 a5 a6 : Value} (hC : ka_C G X cc own nL d) (hd : decode cc pc = .ok (.istore 7, 2)) (hn : 7 < nL) (kk : ka_I G X V (pc + 2) [a0, a1, a2, a3, a4, a5, a6, .int x] st) : ka_I G X V pc [a0, a1, a2, a3, a4, a5, a6] (.int x :: st) := ka_istore_p (L := [a0, a1, a2, a3, a4, a5, a6]) (k := 7) hC hd rfl hn kk
theorem ka_astore_s7 {x : Nat} {b : Value} {T : List Value} {a0 a1 a2 a3 a4 a5 a6 : Value} (hC : ka_C G X cc own nL d) (hd : decode cc pc = .ok (.astore 7, 2)) (hn : 7 < nL) (kk : ka_I G X V (pc + 2) (a0 :: a1 :: a2 :: a3 :: a4 :: a5 :: a6 :: .ref x :: T) st) : ka_I G X V pc (a0 :: a1 :: a2 :: a3 :: a4 :: a5 :: a6 :: b :: T) (.ref x :: st) := ka_astore_s (L := a0 :: a1 :: a2 :: a3 :: a4 :: a5 :: a6 :: b :: T) (k := 7) hC hd (by show 7 < _; simp only [List.length_cons]; omega) hn kk
theorem ka_astore_p7 {x : Nat} {a0 a1 a2 a3 a4 a5 a6 : Value} (hC : ka_C G X cc own nL d) (hd : decode cc pc = .ok (.astore 7, 2)) (hn : 7 < nL) (kk : ka_I G X V (pc + 2) [a0, a1, a2, a3, a4, a5, a6, .ref x] st) : ka_I G X V pc [a0, a1, a2, a3, a4, a5, a6] (.ref x :: st) := ka_astore_p (L := [a0, a1, a2, a3, a4, a5, a6]) (k := 7) hC hd rfl hn kk
theorem ka_fstore_s7 {x : UInt32} {b : Value} {T : List Value} {a0 a1 a2 a3 a4 a5 a6 : Value} (hC : ka_C G X cc own nL d) (hd : decode cc pc = .ok (.fstore 7, 2)) (hn : 7 < nL) (kk : ka_I G X V (pc + 2) (a0 :: a1 :: a2 :: a3 :: a4 :: a5 :: a6 :: .float x :: T) st) : ka_I G X V pc (a0 :: a1 :: a2 :: a3 :: a4 :: a5 :: a6 :: b :: T) (.float x :: st) := ka_fstore_s (L := a0 :: a1 :: a2 :: a3 :: a4 :: a5 :: a6 :: b :: T) (k := 7) hC hd (by show 7 < _; simp only [List.length_cons]; omega) hn kk
theorem ka_fstore_p7 {x : UInt32} {a0 a1 a2 a3 a4 a5 a6 : Value} (hC : ka_C G X cc own nL d) (hd : decode cc pc = .ok (.fstore 7, 2)) (hn : 7 < nL) (kk : ka_I G X V (pc + 2) [a0, a1, a2, a3, a4, a5, a6, .float x] st) : ka_I G X V pc [a0, a1, a2, a3, a4, a5, a6] (.float x :: st) := ka_fstore_p (L := [a0, a1, a2, a3, a4, a5, a6]) (k := 7) hC hd rfl hn kk
theorem ka_iinc_7 {i : Int} {v x : Int32} {T : List Value} {a0 a1 a2 a3 a4 a5 a6 : Value} (hC : ka_C G X cc own nL d) (hd : decode cc pc = .ok (.iinc 7 i, 3)) (hv : Int32.ofInt i = v) (hn : 7 < nL) (kk : ka_I G X V (pc + 3) (a0 :: a1 :: a2 :: a3 :: a4 :: a5 :: a6 :: .int (x + v) :: T) st) : ka_I G X V pc (a0 :: a1 :: a2 :: a3 :: a4 :: a5 :: a6 :: .int x :: T) st := ka_iinc (L := a0 :: a1 :: a2 :: a3 :: a4 :: a5 :: a6 :: .int x :: T) (k := 7) hC hd rfl hv hn kk
theorem ka_istore_s8 {x : Int32} {b : Value} {T : List Value} {a0 a1 a2 a3 a4 a5 a6 a7 : Value} (hC : ka_C G X cc own nL d) (hd : decode cc pc = .ok (.istore 8, 2)) (hn : 8 < nL) (kk : ka_I G X V (pc + 2) (a0 :: a1 :: a2 :: a3 :: a4 :: a5 :: a6 :: a7 :: .int x :: T) st) : ka_I G X V pc (a0 :: a1 :: a2 :: a3 :: a4 :: a5 :: a6 :: a7 :: b :: T) (.int x :: st) := ka_istore_s (L := a0 :: a1 :: a2 :: a3 :: a4 :: a5 :: a6 :: a7 :: b :: T) (k := 8) hC hd (by show 8 < _; simp only [List.length_cons]; omega) hn kk
theorem ka_istore_p8 {x : Int32} {a0 a1 a2 a3 a4 a5 a6 a7 : Value} (hC : ka_C G X cc own nL d) (hd : decode cc pc = .ok (.istore 8, 2)) (hn : 8 < nL) (kk : ka_I G X V (pc + 2) [a0, a1, a2, a3, a4, a5, a6, a7, .int x] st) : ka_I G X V pc [a0, a1, a2, a3, a4, a5, a6, a7] (.int x :: st) := ka_istore_p (L := [a0, a1, a2, a3, a4, a5, a6, a7]) (k := 8) hC hd rfl hn kk
theorem ka_astore_s8 {x : Nat} {b : Value} {T : List Value} {a0 a1 a2 a3 a4 a5 a6 a7 : Value} (hC : ka_C G X cc own nL d) (hd : decode cc pc = .ok (.astore 8, 2)) (hn : 8 < nL) (kk : ka_I G X V (pc + 2) (a0 :: a1 :: a2 :: a3 :: a4 :: a5 :: a6 :: a7 :: .ref x :: T) st) : ka_I G X V pc (a0 :: a1 :: a2 :: a3 :: a4 :: a5 :: a6 :: a7 :: b :: T) (.ref x :: st) := ka_astore_s (L := a0 :: a1 :: a2 :: a3 :: a4 :: a5 :: a6 :: a7 :: b :: T) (k := 8) hC hd (by show 8 < _; simp only [List.length_cons]; omega) hn kk
theorem ka_astore_p8 {x : Nat} {a0 a1 a2 a3 a4 a5 a6 a7 : Value} (hC : ka_C G X cc own nL d) (hd : decode cc pc = .ok (.astore 8, 2)) (hn : 8 < nL) (kk : ka_I G X V (pc + 2) [a0, a1, a2, a3, a4, a5, a6, a7, .ref x] st) : ka_I G X V pc [a0, a1, a2, a3, a4, a5, a6, a7] (.ref x :: st) := ka_astore_p (L := [a0, a1, a2, a3, a4, a5, a6, a7]) (k := 8) hC hd rfl hn kk
theorem ka_fstore_s8 {x : UInt32} {b : Value} {T : List Value} {a0 a1 a2 a3 a4 a5 a6 a7 : Value} (hC : ka_C G X cc own nL d) (hd : decode cc pc = .ok (.fstore 8, 2)) (hn : 8 < nL) (kk : ka_I G X V (pc + 2) (a0 :: a1 :: a2 :: a3 :: a4 :: a5 :: a6 :: a7 :: .float x :: T) st) : ka_I G X V pc (a0 :: a1 :: a2 :: a3 :: a4 :: a5 :: a6 :: a7 :: b :: T) (.float x :: st) := ka_fstore_s (L := a0 :: a1 :: a2 :: a3 :: a4 :: a5 :: a6 :: a7 :: b :: T) (k := 8) hC hd (by show 8 < _; simp only [List.length_cons]; omega) hn kk
theorem ka_fstore_p8 {x : UInt32} {a0 a1 a2 a3 a4 a5 a6 a7 : Value} (hC : ka_C G X cc own nL d) (hd : decode cc pc = .ok (.fstore 8, 2)) (hn : 8 < nL) (kk : ka_I G X V (pc + 2) [a0, a1, a2, a3, a4, a5, a6, a7, .float x] st) : ka_I G X V pc [a0, a1, a2, a3, a4, a5, a6, a7] (.float x :: st) := ka_fstore_p (L := [a0, a1, a2, a3, a4, a5, a6, a7]) (k := 8) hC hd rfl hn kk
theorem ka_iinc_8 {i : Int} {v x : Int32} {T : List Value} {a0 a1 a2 a3 a4 a5 a6 a7 : Value} (hC : ka_C G X cc own nL d) (hd : decode cc pc = .ok (.iinc 8 i, 3)) (hv : Int32.ofInt i = v) (hn : 8 < nL) (kk : ka_I G X V (pc + 3) (a0 :: a1 :: a2 :: a3 :: a4 :: a5 :: a6 :: a7 :: .int (x + v) :: T) st) : ka_I G X V pc (a0 :: a1 :: a2 :: a3 :: a4 :: a5 :: a6 :: a7 :: .int x :: T) st := ka_iinc (L := a0 :: a1 :: a2 :: a3 :: a4 :: a5 :: a6 :: a7 :: .int x :: T) (k := 8) hC hd rfl hv hn kk
theorem ka_istore_s9 {x : Int32} {b : Value} {T : List Value} {a0 a1 a2 a3 a4 a5 a6 a7 a8 : Value} (hC : ka_C G X cc own nL d) (hd : decode cc pc = .ok (.istore 9, 2)) (hn : 9 < nL) (kk : ka_I G X V (pc + 2) (a0 :: a1 :: a2 :: a3 :: a4 :: a5 :: a6 :: a7 :: a8 :: .int x :: T) st) : ka_I G X V pc (a0 :: a1 :: a2 :: a3 :: a4 :: a5 :: a6 :: a7 :: a8 :: b :: T) (.int x :: st) := ka_istore_s (L := a0 :: a1 :: a2 :: a3 :: a4 :: a5 :: a6 :: a7 :: a8 :: b :: T) (k := 9) hC hd (by show 9 < _; simp only [List.length_cons]; omega) hn kk
theorem ka_istore_p9 {x : Int32} {a0 a1 a2 a3 a4 a5 a6 a7 a8 : Value} (hC : ka_C G X cc own nL d) (hd : decode cc pc = .ok (.istore 9, 2)) (hn : 9 < nL) (kk : ka_I G X V (pc + 2) [a0, a1, a2, a3, a4, a5, a6, a7, a8, .int x] st) : ka_I G X V pc [a0, a1, a2, a3, a4, a5, a6, a7, a8] (.int x :: st) := ka_istore_p (L := [a0, a1, a2, a3, a4, a5, a6, a7, a8]) (k := 9) hC hd rfl hn kk
theorem ka_astore_s9 {x : Nat} {b : Value} {T : List Value} {a0 a1 a2 a3 a4 a5 a6 a7 a8 : Value} (hC : ka_C G X cc own nL d) (hd : decode cc pc = .ok (.astore 9, 2)) (hn : 9 < nL) (kk : ka_I G X V (pc + 2) (a0 :: a1 :: a2 :: a3 :: a4 :: a5 :: a6 :: a7 :: a8 :: .ref x :: T) st) : ka_I G X V pc (a0 :: a1 :: a2 :: a3 :: a4 :: a5 :: a6 :: a7 :: a8 :: b :: T) (.ref x :: st) := ka_astore_s (L := a0 :: a1 :: a2 :: a3 :: a4 :: a5 :: a6 :: a7 :: a8 :: b :: T) (k := 9) hC hd (by show 9 < _; simp only [List.length_cons]; omega) hn kk
theorem ka_astore_p9 {x : Nat} {a0 a1 a2 a3 a4 a5 a6 a7 a8 : Value} (hC : ka_C G X cc own nL d) (hd : decode cc pc = .ok (.astore 9, 2)) (hn : 9 < nL) (kk : ka_I G X V (pc + 2) [a0, a1, a2, a3, a4, a5, a6, a7, a8, .ref x] st) : ka_I G X V pc [a0, a1, a2, a3, a4, a5, a6, a7, a8] (.ref x :: st) := ka_astore_p (L := [a0, a1, a2, a3, a4, a5, a6, a7, a8]) (k := 9) hC hd rfl hn kk
theorem ka_fstore_s9 {x : UInt32} {b : Value} {T : List Value} {a0 a1 a2 a3 a4 a5 a6 a7 a8 : Value} (hC : ka_C G X cc own nL d) (hd : decode cc pc = .ok (.fstore 9, 2)) (hn : 9 < nL) (kk : ka_I G X V (pc + 2) (a0 :: a1 :: a2 :: a3 :: a4 :: a5 :: a6 :: a7 :: a8 :: .float x :: T) st) : ka_I G X V pc (a0 :: a1 :: a2 :: a3 :: a4 :: a5 :: a6 :: a7 :: a8 :: b :: T) (.float x :: st) := ka_fstore_s (L := a0 :: a1 :: a2 :: a3 :: a4 :: a5 :: a6 :: a7 :: a8 :: b :: T) (k := 9) hC hd (by show 9 < _; simp only [List.length_cons]; omega) hn kk
theorem ka_fstore_p9 {x : UInt32} {a0 a1 a2 a3 a4 a5 a6 a7 a8 : Value} (hC : ka_C G X cc own nL d) (hd : decode cc pc = .ok (.fstore 9, 2)) (hn : 9 < nL) (kk : ka_I G X V (pc + 2) [a0, a1, a2, a3, a4, a5, a6, a7, a8, .float x] st) : ka_I G X V pc [a0, a1, a2, a3, a4, a5, a6, a7, a8] (.float x :: st) := ka_fstore_p (L := [a0, a1, a2, a3, a4, a5, a6, a7, a8]) (k := 9) hC hd rfl hn kk
theorem ka_iinc_9 {i : Int} {v x : Int32} {T : List Value} {a0 a1 a2 a3 a4 a5 a6 a7 a8 : Value} (hC : ka_C G X cc own nL d) (hd : decode cc pc = .ok (.iinc 9 i, 3)) (hv : Int32.ofInt i = v) (hn : 9 < nL) (kk : ka_I G X V (pc + 3) (a0 :: a1 :: a2 :: a3 :: a4 :: a5 :: a6 :: a7 :: a8 :: .int (x + v) :: T) st) : ka_I G X V pc (a0 :: a1 :: a2 :: a3 :: a4 :: a5 :: a6 :: a7 :: a8 :: .int x :: T) st := ka_iinc (L := a0 :: a1 :: a2 :: a3 :: a4 :: a5 :: a6 :: a7 :: a8 :: .int x :: T) (k := 9) hC hd rfl hv hn kk
theorem ka_iadd {x y : Int32} (hC : ka_C G X cc own nL d) (hd : decode cc pc = .ok (.iadd, 1)) (kk : ka_I G X V (pc + 1) L (.int (x + y) :: st)): ka_I G X V pc L (.int y :: .int x :: st) := by
  obtain ⟨p, e, R, s, m, args, below, meth, c, A0, k, n, Q⟩ := X
  intro H locs ls hP hS hL
  exact lv_iadd hC.1 hC.2.1 hd (kk H locs ls hP hS hL)
theorem ka_isub {x y : Int32} (hC : ka_C G X cc own nL d) (hd : decode cc pc = .ok (.isub, 1)) (kk : ka_I G X V (pc + 1) L (.int (x - y) :: st)): ka_I G X V pc L (.int y :: .int x :: st) := by
  obtain ⟨p, e, R, s, m, args, below, meth, c, A0, k, n, Q⟩ := X
  intro H locs ls hP hS hL
  exact lv_isub hC.1 hC.2.1 hd (kk H locs ls hP hS hL)
theorem ka_imul {x y : Int32} (hC : ka_C G X cc own nL d) (hd : decode cc pc = .ok (.imul, 1)) (kk : ka_I G X V (pc + 1) L (.int (x * y) :: st)): ka_I G X V pc L (.int y :: .int x :: st) := by
  obtain ⟨p, e, R, s, m, args, below, meth, c, A0, k, n, Q⟩ := X
  intro H locs ls hP hS hL
  exact lv_imul hC.1 hC.2.1 hd (kk H locs ls hP hS hL)
theorem ka_iand {x y : Int32} (hC : ka_C G X cc own nL d) (hd : decode cc pc = .ok (.iand, 1)) (kk : ka_I G X V (pc + 1) L (.int (x &&& y) :: st)): ka_I G X V pc L (.int y :: .int x :: st) := by
  obtain ⟨p, e, R, s, m, args, below, meth, c, A0, k, n, Q⟩ := X
  intro H locs ls hP hS hL
  exact lv_iand hC.1 hC.2.1 hd (kk H locs ls hP hS hL)
theorem ka_ior {x y : Int32} (hC : ka_C G X cc own nL d) (hd : decode cc pc = .ok (.ior, 1)) (kk : ka_I G X V (pc + 1) L (.int (x ||| y) :: st)): ka_I G X V pc L (.int y :: .int x :: st) := by
  obtain ⟨p, e, R, s, m, args, below, meth, c, A0, k, n, Q⟩ := X
  intro H locs ls hP hS hL
  exact lv_ior hC.1 hC.2.1 hd (kk H locs ls hP hS hL)
theorem ka_ixor {x y : Int32} (hC : ka_C G X cc own nL d) (hd : decode cc pc = .ok (.ixor, 1)) (kk : ka_I G X V (pc + 1) L (.int (x ^^^ y) :: st)): ka_I G X V pc L (.int y :: .int x :: st) := by
  obtain ⟨p, e, R, s, m, args, below, meth, c, A0, k, n, Q⟩ := X
  intro H locs ls hP hS hL
  exact lv_ixor hC.1 hC.2.1 hd (kk H locs ls hP hS hL)
theorem ka_ishl {x y : Int32} (hC : ka_C G X cc own nL d) (hd : decode cc pc = .ok (.ishl, 1)) (kk : ka_I G X V (pc + 1) L (.int (x <<< (y &&& 31)) :: st)): ka_I G X V pc L (.int y :: .int x :: st) := by
  obtain ⟨p, e, R, s, m, args, below, meth, c, A0, k, n, Q⟩ := X
  intro H locs ls hP hS hL
  exact lv_ishl hC.1 hC.2.1 hd (kk H locs ls hP hS hL)
theorem ka_idiv {x y : Int32} (hC : ka_C G X cc own nL d) (hd : decode cc pc = .ok (.idiv, 1)) (hne : ¬ y = 0) (kk : ka_I G X V (pc + 1) L (.int (x / y) :: st)): ka_I G X V pc L (.int y :: .int x :: st) := by
  obtain ⟨p, e, R, s, m, args, below, meth, c, A0, k, n, Q⟩ := X
  intro H locs ls hP hS hL
  exact lv_idiv hC.1 hC.2.1 hd hne (kk H locs ls hP hS hL)
theorem ka_ineg {x : Int32} (hC : ka_C G X cc own nL d) (hd : decode cc pc = .ok (.ineg, 1)) (kk : ka_I G X V (pc + 1) L (.int (-x) :: st)): ka_I G X V pc L (.int x :: st) := by
  obtain ⟨p, e, R, s, m, args, below, meth, c, A0, k, n, Q⟩ := X
  intro H locs ls hP hS hL
  exact lv_ineg hC.1 hC.2.1 hd (kk H locs ls hP hS hL)
theorem ka_dup {v : Value} (hC : ka_C G X cc own nL d) (hd : decode cc pc = .ok (.dup, 1)) (hv : v.category = 1) (kk : ka_I G X V (pc + 1) L (v :: v :: st)): ka_I G X V pc L (v :: st) := by
  obtain ⟨p, e, R, s, m, args, below, meth, c, A0, k, n, Q⟩ := X
  intro H locs ls hP hS hL
  exact lv_dup hC.1 hC.2.1 hd hv (kk H locs ls hP hS hL)
theorem ka_pop {v : Value} (hC : ka_C G X cc own nL d) (hd : decode cc pc = .ok (.pop, 1)) (hv : v.category = 1) (kk : ka_I G X V (pc + 1) L (st)): ka_I G X V pc L (v :: st) := by
  obtain ⟨p, e, R, s, m, args, below, meth, c, A0, k, n, Q⟩ := X
  intro H locs ls hP hS hL
  exact lv_pop hC.1 hC.2.1 hd hv (kk H locs ls hP hS hL)
theorem ka_dup2 {v u : Value} (hC : ka_C G X cc own nL d) (hd : decode cc pc = .ok (.dup2, 1)) (hv : v.category = 1) (hu : u.category = 1) (kk : ka_I G X V (pc + 1) L (v :: u :: v :: u :: st)): ka_I G X V pc L (v :: u :: st) := by
  obtain ⟨p, e, R, s, m, args, below, meth, c, A0, k, n, Q⟩ := X
  intro H locs ls hP hS hL
  exact lv_dup2_11 hC.1 hC.2.1 hd hv hu (kk H locs ls hP hS hL)
theorem ka_goto {off : Int} {tgt : Nat} (hC : ka_C G X cc own nL d) (hd : decode cc pc = .ok (.goto off, 3)) (ht : (pc : Int) + off = (tgt : Int)) (kk : ka_I G X V tgt L (st)): ka_I G X V pc L (st) := by
  obtain ⟨p, e, R, s, m, args, below, meth, c, A0, k, n, Q⟩ := X
  intro H locs ls hP hS hL
  exact lv_goto hC.1 hC.2.1 hd ht (kk H locs ls hP hS hL)
theorem ka_icmp_eq {x y : Int32} {off : Int} {tgt : Nat} (hC : ka_C G X cc own nL d) (hd : decode cc pc = .ok (.if_icmp .eq off, 3)) (ht : (pc : Int) + off = (tgt : Int)) (kt : x = y → ka_I G X V tgt L (st)) (kf : ¬ x = y → ka_I G X V (pc + 3) L (st)) : ka_I G X V pc L (.int y :: .int x :: st) := by
  obtain ⟨p, e, R, s, m, args, below, meth, c, A0, k, n, Q⟩ := X
  intro H locs ls hP hS hL
  exact lv_icmp_eq hC.1 hC.2.1 hd ht (fun h => kt h H locs ls hP hS hL) (fun h => kf h H locs ls hP hS hL)
theorem ka_icmp_ne {x y : Int32} {off : Int} {tgt : Nat} (hC : ka_C G X cc own nL d) (hd : decode cc pc = .ok (.if_icmp .ne off, 3)) (ht : (pc : Int) + off = (tgt : Int)) (kt : ¬ x = y → ka_I G X V tgt L (st)) (kf : x = y → ka_I G X V (pc + 3) L (st)) : ka_I G X V pc L (.int y :: .int x :: st) := by
  obtain ⟨p, e, R, s, m, args, below, meth, c, A0, k, n, Q⟩ := X
  intro H locs ls hP hS hL
  exact lv_icmp_ne hC.1 hC.2.1 hd ht (fun h => kt h H locs ls hP hS hL) (fun h => kf h H locs ls hP hS hL)
theorem ka_icmp_lt {x y : Int32} {off : Int} {tgt : Nat} (hC : ka_C G X cc own nL d) (hd : decode cc pc = .ok (.if_icmp .lt off, 3)) (ht : (pc : Int) + off = (tgt : Int)) (kt : x < y → ka_I G X V tgt L (st)) (kf : ¬ x < y → ka_I G X V (pc + 3) L (st)) : ka_I G X V pc L (.int y :: .int x :: st) := by
  obtain ⟨p, e, R, s, m, args, below, meth, c, A0, k, n, Q⟩ := X
  intro H locs ls hP hS hL
  exact lv_icmp_lt hC.1 hC.2.1 hd ht (fun h => kt h H locs ls hP hS hL) (fun h => kf h H locs ls hP hS hL)
theorem ka_icmp_ge {x y : Int32} {off : Int} {tgt : Nat} (hC : ka_C G X cc own nL d) (hd : decode cc pc = .ok (.if_icmp .ge off, 3)) (ht : (pc : Int) + off = (tgt : Int)) (kt : ¬ x < y → ka_I G X V tgt L (st)) (kf : x < y → ka_I G X V (pc + 3) L (st)) : ka_I G X V pc L (.int y :: .int x :: st) := by
  obtain ⟨p, e, R, s, m, args, below, meth, c, A0, k, n, Q⟩ := X
  intro H locs ls hP hS hL
  exact lv_icmp_ge hC.1 hC.2.1 hd ht (fun h => kt (Int32.not_lt.mpr h) H locs ls hP hS hL) (fun h => kf (Int32.not_le.mp h) H locs ls hP hS hL)
theorem ka_icmp_gt {x y : Int32} {off : Int} {tgt : Nat} (hC : ka_C G X cc own nL d) (hd : decode cc pc = .ok (.if_icmp .gt off, 3)) (ht : (pc : Int) + off = (tgt : Int)) (kt : y < x → ka_I G X V tgt L (st)) (kf : ¬ y < x → ka_I G X V (pc + 3) L (st)) : ka_I G X V pc L (.int y :: .int x :: st) := by
  obtain ⟨p, e, R, s, m, args, below, meth, c, A0, k, n, Q⟩ := X
  intro H locs ls hP hS hL
  exact lv_icmp_gt hC.1 hC.2.1 hd ht (fun h => kt h H locs ls hP hS hL) (fun h => kf h H locs ls hP hS hL)
theorem ka_icmp_le {x y : Int32} {off : Int} {tgt : Nat} (hC : ka_C G X cc own nL d) (hd : decode cc pc = .ok (.if_icmp .le off, 3)) (ht : (pc : Int) + off = (tgt : Int)) (kt : ¬ y < x → ka_I G X V tgt L (st)) (kf : y < x → ka_I G X V (pc + 3) L (st)) : ka_I G X V pc L (.int y :: .int x :: st) := by
  obtain ⟨p, e, R, s, m, args, below, meth, c, A0, k, n, Q⟩ := X
  intro H locs ls hP hS hL
  exact lv_icmp_le hC.1 hC.2.1 hd ht (fun h => kt (Int32.not_lt.mpr h) H locs ls hP hS hL) (fun h => kf (Int32.not_le.mp h) H locs ls hP hS hL)
theorem ka_if_eq {x : Int32} {off : Int} {tgt : Nat} (hC : ka_C G X cc own nL d) (hd : decode cc pc = .ok (.ifCond .eq off, 3)) (ht : (pc : Int) + off = (tgt : Int)) (kt : x = 0 → ka_I G X V tgt L (st)) (kf : ¬ x = 0 → ka_I G X V (pc + 3) L (st)) : ka_I G X V pc L (.int x :: st) := by
  obtain ⟨p, e, R, s, m, args, below, meth, c, A0, k, n, Q⟩ := X
  intro H locs ls hP hS hL
  exact lv_if_eq hC.1 hC.2.1 hd ht (fun h => kt h H locs ls hP hS hL) (fun h => kf h H locs ls hP hS hL)
theorem ka_if_ne {x : Int32} {off : Int} {tgt : Nat} (hC : ka_C G X cc own nL d) (hd : decode cc pc = .ok (.ifCond .ne off, 3)) (ht : (pc : Int) + off = (tgt : Int)) (kt : ¬ x = 0 → ka_I G X V tgt L (st)) (kf : x = 0 → ka_I G X V (pc + 3) L (st)) : ka_I G X V pc L (.int x :: st) := by
  obtain ⟨p, e, R, s, m, args, below, meth, c, A0, k, n, Q⟩ := X
  intro H locs ls hP hS hL
  exact lv_if_ne hC.1 hC.2.1 hd ht (fun h => kt h H locs ls hP hS hL) (fun h => kf h H locs ls hP hS hL)
theorem ka_if_lt {x : Int32} {off : Int} {tgt : Nat} (hC : ka_C G X cc own nL d) (hd : decode cc pc = .ok (.ifCond .lt off, 3)) (ht : (pc : Int) + off = (tgt : Int)) (kt : x < 0 → ka_I G X V tgt L (st)) (kf : ¬ x < 0 → ka_I G X V (pc + 3) L (st)) : ka_I G X V pc L (.int x :: st) := by
  obtain ⟨p, e, R, s, m, args, below, meth, c, A0, k, n, Q⟩ := X
  intro H locs ls hP hS hL
  exact lv_if_lt hC.1 hC.2.1 hd ht (fun h => kt h H locs ls hP hS hL) (fun h => kf h H locs ls hP hS hL)
theorem ka_if_ge {x : Int32} {off : Int} {tgt : Nat} (hC : ka_C G X cc own nL d) (hd : decode cc pc = .ok (.ifCond .ge off, 3)) (ht : (pc : Int) + off = (tgt : Int)) (kt : ¬ x < 0 → ka_I G X V tgt L (st)) (kf : x < 0 → ka_I G X V (pc + 3) L (st)) : ka_I G X V pc L (.int x :: st) := by
  obtain ⟨p, e, R, s, m, args, below, meth, c, A0, k, n, Q⟩ := X
  intro H locs ls hP hS hL
  exact lv_if_ge hC.1 hC.2.1 hd ht (fun h => kt (Int32.not_lt.mpr h) H locs ls hP hS hL) (fun h => kf (Int32.not_le.mp h) H locs ls hP hS hL)
theorem ka_if_gt {x : Int32} {off : Int} {tgt : Nat} (hC : ka_C G X cc own nL d) (hd : decode cc pc = .ok (.ifCond .gt off, 3)) (ht : (pc : Int) + off = (tgt : Int)) (kt : 0 < x → ka_I G X V tgt L (st)) (kf : ¬ 0 < x → ka_I G X V (pc + 3) L (st)) : ka_I G X V pc L (.int x :: st) := by
  obtain ⟨p, e, R, s, m, args, below, meth, c, A0, k, n, Q⟩ := X
  intro H locs ls hP hS hL
  exact lv_if_gt hC.1 hC.2.1 hd ht (fun h => kt h H locs ls hP hS hL) (fun h => kf h H locs ls hP hS hL)
theorem ka_if_le {x : Int32} {off : Int} {tgt : Nat} (hC : ka_C G X cc own nL d) (hd : decode cc pc = .ok (.ifCond .le off, 3)) (ht : (pc : Int) + off = (tgt : Int)) (kt : ¬ 0 < x → ka_I G X V tgt L (st)) (kf : 0 < x → ka_I G X V (pc + 3) L (st)) : ka_I G X V pc L (.int x :: st) := by
  obtain ⟨p, e, R, s, m, args, below, meth, c, A0, k, n, Q⟩ := X
  intro H locs ls hP hS hL
  exact lv_if_le hC.1 hC.2.1 hd ht (fun h => kt (Int32.not_lt.mpr h) H locs ls hP hS hL) (fun h => kf (Int32.not_le.mp h) H locs ls hP hS hL)
theorem ka_if_eq_b {b : Bool} {off : Int} {tgt : Nat} (hC : ka_C G X cc own nL d) (hd : decode cc pc = .ok (.ifCond .eq off, 3)) (ht : (pc : Int) + off = (tgt : Int)) (kt : b = false → ka_I G X V tgt L (st)) (kf : b = true → ka_I G X V (pc + 3) L (st)) : ka_I G X V pc L (.int (ka_b b) :: st) := ka_if_eq hC hd ht (fun h => kt (ka_b0 h)) (fun h => kf (ka_b1 h))
theorem ka_if_ne_b {b : Bool} {off : Int} {tgt : Nat} (hC : ka_C G X cc own nL d) (hd : decode cc pc = .ok (.ifCond .ne off, 3)) (ht : (pc : Int) + off = (tgt : Int)) (kt : b = true → ka_I G X V tgt L (st)) (kf : b = false → ka_I G X V (pc + 3) L (st)) : ka_I G X V pc L (.int (ka_b b) :: st) := ka_if_ne hC hd ht (fun h => kt (ka_b1 h)) (fun h => kf (ka_b0 h))
theorem ka_tsOut {dflt lo hi : Int} {offs : Array Int} {len tgt : Nat} {x : Int32} (hC : ka_C G X cc own nL d) (hd : decode cc pc = .ok (.tableswitch dflt lo hi offs, len)) (h : x.toInt < lo ∨ hi < x.toInt) (ht : (pc : Int) + dflt = (tgt : Int)) (kk : ka_I G X V tgt L (st)): ka_I G X V pc L (.int x :: st) := by
  obtain ⟨p, e, R, s, m, args, below, meth, c, A0, k, n, Q⟩ := X
  intro H locs ls hP hS hL
  exact lv_tableOut hC.1 hC.2.1 hd h ht (kk H locs ls hP hS hL)
theorem ka_tsIn {dflt lo hi : Int} {offs : Array Int} {len tgt : Nat} {x : Int32} {off : Int} (hC : ka_C G X cc own nL d) (hd : decode cc pc = .ok (.tableswitch dflt lo hi offs, len)) (h1 : ¬ x.toInt < lo) (h2 : ¬ hi < x.toInt) (ho : offs[(x.toInt - lo).toNat]? = some off) (ht : (pc : Int) + off = (tgt : Int)) (kk : ka_I G X V tgt L (st)): ka_I G X V pc L (.int x :: st) := by
  obtain ⟨p, e, R, s, m, args, below, meth, c, A0, k, n, Q⟩ := X
  intro H locs ls hP hS hL
  exact lv_tableIn hC.1 hC.2.1 hd h1 h2 ho ht (kk H locs ls hP hS hL)
theorem ka_ls {dflt : Int} {ps : Array (Int × Int)} {len tgt : Nat} {x : Int32} {off : Int} (hC : ka_C G X cc own nL d) (hd : decode cc pc = .ok (.lookupswitch dflt ps, len)) (hp : (ps.toList.zip (ps.toList.drop 1)).all (fun (a, next) => a.1 < next.1) = true) (ho : Op.lookupswitch.offset ps.toList dflt x.toInt = off) (ht : (pc : Int) + off = (tgt : Int)) (kk : ka_I G X V tgt L (st)): ka_I G X V pc L (.int x :: st) := by
  obtain ⟨p, e, R, s, m, args, below, meth, c, A0, k, n, Q⟩ := X
  intro H locs ls hP hS hL
  exact lv_lookup hC.1 hC.2.1 hd hp ho ht (kk H locs ls hP hS hL)
theorem ka_i2f {x : Int32} (hC : ka_C G X cc own nL d) (hd : decode cc pc = .ok (.i2f, 1)) (kk : ka_I G X V (pc + 1) L (.float (FP.i2f x) :: st)): ka_I G X V pc L (.int x :: st) := by
  obtain ⟨p, e, R, s, m, args, below, meth, c, A0, k, n, Q⟩ := X
  intro H locs ls hP hS hL
  exact lv_i2f hC.1 hC.2.1 hd (kk H locs ls hP hS hL)
theorem ka_f2i {x : UInt32} (hC : ka_C G X cc own nL d) (hd : decode cc pc = .ok (.f2i, 1)) (kk : ka_I G X V (pc + 1) L (.int (FP.f2i x) :: st)): ka_I G X V pc L (.float x :: st) := by
  obtain ⟨p, e, R, s, m, args, below, meth, c, A0, k, n, Q⟩ := X
  intro H locs ls hP hS hL
  exact lv_f2i hC.1 hC.2.1 hd (kk H locs ls hP hS hL)
theorem ka_fconst0 (hC : ka_C G X cc own nL d) (hd : decode cc pc = .ok (.fconst 0, 1)) (kk : ka_I G X V (pc + 1) L (.float FP.fconst0 :: st)): ka_I G X V pc L (st) := by
  obtain ⟨p, e, R, s, m, args, below, meth, c, A0, k, n, Q⟩ := X
  intro H locs ls hP hS hL
  exact lv_fconst0 hC.1 hC.2.1 hd (kk H locs ls hP hS hL)
theorem ka_fconst1 (hC : ka_C G X cc own nL d) (hd : decode cc pc = .ok (.fconst 1, 1)) (kk : ka_I G X V (pc + 1) L (.float FP.fconst1 :: st)): ka_I G X V pc L (st) := by
  obtain ⟨p, e, R, s, m, args, below, meth, c, A0, k, n, Q⟩ := X
  intro H locs ls hP hS hL
  exact lv_fconst1 hC.1 hC.2.1 hd (kk H locs ls hP hS hL)
theorem ka_fconst2 (hC : ka_C G X cc own nL d) (hd : decode cc pc = .ok (.fconst 2, 1)) (kk : ka_I G X V (pc + 1) L (.float FP.fconst2 :: st)): ka_I G X V pc L (st) := by
  obtain ⟨p, e, R, s, m, args, below, meth, c, A0, k, n, Q⟩ := X
  intro H locs ls hP hS hL
  exact lv_fconst2 hC.1 hC.2.1 hd (kk H locs ls hP hS hL)
theorem ka_fdiv {x y : UInt32} (hC : ka_C G X cc own nL d) (hd : decode cc pc = .ok (.fdiv, 1)) (hne : vf_n32 (FP.fdiv x y)) (kk : ka_I G X V (pc + 1) L (.float (FP.fdiv x y) :: st)): ka_I G X V pc L (.float y :: .float x :: st) := by
  obtain ⟨p, e, R, s, m, args, below, meth, c, A0, k, n, Q⟩ := X
  intro H locs ls hP hS hL
  exact lv_fdiv hC.1 hC.2.1 hd hne (kk H locs ls hP hS hL)
theorem ka_fmul {x y : UInt32} (hC : ka_C G X cc own nL d) (hd : decode cc pc = .ok (.fmul, 1)) (hne : vf_n32 (FP.fmul x y)) (kk : ka_I G X V (pc + 1) L (.float (FP.fmul x y) :: st)): ka_I G X V pc L (.float y :: .float x :: st) := by
  obtain ⟨p, e, R, s, m, args, below, meth, c, A0, k, n, Q⟩ := X
  intro H locs ls hP hS hL
  exact lv_fmul hC.1 hC.2.1 hd hne (kk H locs ls hP hS hL)
theorem ka_fcmp {x y : UInt32} {op : CmpOp} (hC : ka_C G X cc own nL d) (hd : decode cc pc = .ok (.fcmp op, 1)) (kk : ka_I G X V (pc + 1) L (.int (Op.cmpValue (FP.fcmp x y) op) :: st)): ka_I G X V pc L (.float y :: .float x :: st) := by
  obtain ⟨p, e, R, s, m, args, below, meth, c, A0, k, n, Q⟩ := X
  intro H locs ls hP hS hL
  exact lv_fcmp hC.1 hC.2.1 hd (kk H locs ls hP hS hL)
theorem ka_zret {x : Int32} {rt : FieldType} {v : Option Value} {V' : ka_W} (hC : ka_C G X cc own nL d) (hR : ka_R G X (some rt) v V') (hn : narrow rt (.int x) = .int x) (hd : decode cc pc = .ok (.ireturn, 1)) (hv : some (.int x) = v) (hW : V = V') : ka_I G X V pc L [.int x] := by
  obtain ⟨p, e, R, s, m, args, below, meth, c, A0, k, n, Q⟩ := X
  intro H locs ls hP hS hL
  obtain ⟨r1, r2, rfl, rfl⟩ := hR
  subst hv
  subst hW
  exact W.zret hC.1 hC.2.1 r1 hn (fun t ht hW => ⟨rfl, ⟨by rw [ht]; exact hP, va_K.moved hW.alike hC.2.2.2.2.2.1, ka_NW.warm hW hC.2.2.2.2.2.2.1, ((hC.2.2.2.2.2.2.2.1.kept (fun a h1 h2 => by rw [ht]; exact hS.2.1 a h1 h2))).moved hW.alike⟩, hS.F ht⟩) hS.2.2 hd r2
theorem ka_iret {x : Int32} {v : Option Value} {V' : ka_W} (hC : ka_C G X cc own nL d) (hR : ka_R G X (some .int) v V') (hd : decode cc pc = .ok (.ireturn, 1)) (hv : some (.int x) = v) (hW : V = V') : ka_I G X V pc L [.int x] := ka_zret hC hR rfl hd hv hW
theorem ka_bret {b : Bool} {v : Option Value} {V' : ka_W} {x : Int32} (hC : ka_C G X cc own nL d) (hR : ka_R G X (some .boolean) v V') (hd : decode cc pc = .ok (.ireturn, 1)) (hb : x = ka_b b) (hv : some (.int (ka_b b)) = v) (hW : V = V') : ka_I G X V pc L [.int x] := by
  subst hb
  exact ka_zret hC hR (by cases b <;> rfl) hd hv hW
theorem ka_vret {v : Option Value} {V' : ka_W} (hC : ka_C G X cc own nL d) (hR : ka_R G X none v V') (hd : decode cc pc = .ok (.return_, 1)) (hv : none = v) (hW : V = V') : ka_I G X V pc L [] := by
  obtain ⟨p, e, R, s, m, args, below, meth, c, A0, k, n, Q⟩ := X
  intro H locs ls hP hS hL
  obtain ⟨r1, r2, rfl, rfl⟩ := hR
  subst hv
  subst hW
  exact W.vret hC.1 hC.2.1 r1 (fun t ht hW => ⟨rfl, ⟨by rw [ht]; exact hP, va_K.moved hW.alike hC.2.2.2.2.2.1, ka_NW.warm hW hC.2.2.2.2.2.2.1, ((hC.2.2.2.2.2.2.2.1.kept (fun a h1 h2 => by rw [ht]; exact hS.2.1 a h1 h2))).moved hW.alike⟩, hS.F ht⟩) hS.2.2 hd r2
theorem ka_aret {a : Nat} {C : String} {v : Option Value} {V' : ka_W} (hC : ka_C G X cc own nL d) (hR : ka_R G X (some (.object C)) v V') (hd : decode cc pc = .ok (.areturn, 1)) (hv : some (.ref a) = v) (hW : V = V') : ka_I G X V pc L [.ref a] := by
  obtain ⟨p, e, R, s, m, args, below, meth, c, A0, k, n, Q⟩ := X
  intro H locs ls hP hS hL
  obtain ⟨r1, r2, rfl, rfl⟩ := hR
  subst hv
  subst hW
  exact W.aret hC.1 hC.2.1 r1 (Or.inl ⟨C, rfl⟩) (Or.inr ⟨a, rfl⟩) (fun t ht hW => ⟨rfl, ⟨by rw [ht]; exact hP, va_K.moved hW.alike hC.2.2.2.2.2.1, ka_NW.warm hW hC.2.2.2.2.2.2.1, ((hC.2.2.2.2.2.2.2.1.kept (fun a h1 h2 => by rw [ht]; exact hS.2.1 a h1 h2))).moved hW.alike⟩, hS.F ht⟩) hS.2.2 hd r2
end KA
end
section
theorem ka_q_se_X3_placeAt : Cond.selects RX3 yX3_placeAt yX3_placeAt ∈ ka_T := List.mem_filter.mpr ⟨List.mem_of_getElem? (i := 0) (by decide +kernel), by decide +kernel⟩
theorem ka_q_se_X6_settle : Cond.selects RX6 yX6_settle yX6_settle ∈ ka_T := List.mem_filter.mpr ⟨List.mem_of_getElem? (i := 1) (by decide +kernel), by decide +kernel⟩
theorem ka_q_se_X0_stateAt : Cond.selects RX0 yX0_stateAt yX0_stateAt ∈ ka_T := List.mem_filter.mpr ⟨List.mem_of_getElem? (i := 2) (by decide +kernel), by decide +kernel⟩
theorem ka_q_se_X3_keepLeg : Cond.selects RX3 yX3_keepLeg yX3_keepLeg ∈ ka_T := List.mem_filter.mpr ⟨List.mem_of_getElem? (i := 3) (by decide +kernel), by decide +kernel⟩
theorem ka_q_se_X3_wagonAt : Cond.selects RX3 yX3_wagonAt yX3_wagonAt ∈ ka_T := List.mem_filter.mpr ⟨List.mem_of_getElem? (i := 4) (by decide +kernel), by decide +kernel⟩
theorem ka_q_se_X3_isWagon : Cond.selects RX3 yX3_isWagon yX3_isWagon ∈ ka_T := List.mem_filter.mpr ⟨List.mem_of_getElem? (i := 5) (by decide +kernel), by decide +kernel⟩
theorem ka_q_se_X3_whyNotLoaded : Cond.selects RX3 yX3_whyNotLoaded yX3_whyNotLoaded ∈ ka_T := List.mem_filter.mpr ⟨List.mem_of_getElem? (i := 6) (by decide +kernel), by decide +kernel⟩
theorem ka_q_se_X3_isDue : Cond.selects RX3 yX3_isDue yX3_isDue ∈ ka_T := List.mem_filter.mpr ⟨List.mem_of_getElem? (i := 7) (by decide +kernel), by decide +kernel⟩
theorem ka_q_se_X3_setting : Cond.selects RX3 yX3_setting yX3_setting ∈ ka_T := List.mem_filter.mpr ⟨List.mem_of_getElem? (i := 8) (by decide +kernel), by decide +kernel⟩
theorem ka_q_se_X3_beginRepairs : Cond.selects RX3 yX3_beginRepairs yX3_beginRepairs ∈ ka_T := List.mem_filter.mpr ⟨List.mem_of_getElem? (i := 9) (by decide +kernel), by decide +kernel⟩
theorem ka_q_se_X3_growHeaps : Cond.selects RX3 yX3_growHeaps yX3_growHeaps ∈ ka_T := List.mem_filter.mpr ⟨List.mem_of_getElem? (i := 10) (by decide +kernel), by decide +kernel⟩
theorem ka_q_se_X3_arrive : Cond.selects RX3 yX3_arrive yX3_arrive ∈ ka_T := List.mem_filter.mpr ⟨List.mem_of_getElem? (i := 11) (by decide +kernel), by decide +kernel⟩
theorem ka_q_se_X3_endRepairs : Cond.selects RX3 yX3_endRepairs yX3_endRepairs ∈ ka_T := List.mem_filter.mpr ⟨List.mem_of_getElem? (i := 12) (by decide +kernel), by decide +kernel⟩
theorem ka_q_se_X3_payForTheDay : Cond.selects RX3 yX3_payForTheDay yX3_payForTheDay ∈ ka_T := List.mem_filter.mpr ⟨List.mem_of_getElem? (i := 13) (by decide +kernel), by decide +kernel⟩
theorem ka_q_se_X3_setStanding : Cond.selects RX3 yX3_setStanding yX3_setStanding ∈ ka_T := List.mem_filter.mpr ⟨List.mem_of_getElem? (i := 14) (by decide +kernel), by decide +kernel⟩
theorem ka_q_se_X3_setOnTheWayTo : Cond.selects RX3 yX3_setOnTheWayTo yX3_setOnTheWayTo ∈ ka_T := List.mem_filter.mpr ⟨List.mem_of_getElem? (i := 15) (by decide +kernel), by decide +kernel⟩
theorem ka_q_se_X3_setOwnedBy : Cond.selects RX3 yX3_setOwnedBy yX3_setOwnedBy ∈ ka_T := List.mem_filter.mpr ⟨List.mem_of_getElem? (i := 16) (by decide +kernel), by decide +kernel⟩
theorem ka_q_se_X3_readyAt : Cond.selects RX3 yX3_readyAt yX3_readyAt ∈ ka_T := List.mem_filter.mpr ⟨List.mem_of_getElem? (i := 17) (by decide +kernel), by decide +kernel⟩
theorem ka_q_se_X3_countStanding : Cond.selects RX3 yX3_countStanding yX3_countStanding ∈ ka_T := List.mem_filter.mpr ⟨List.mem_of_getElem? (i := 18) (by decide +kernel), by decide +kernel⟩
theorem ka_q_se_X3_countOnTheWay : Cond.selects RX3 yX3_countOnTheWay yX3_countOnTheWay ∈ ka_T := List.mem_filter.mpr ⟨List.mem_of_getElem? (i := 19) (by decide +kernel), by decide +kernel⟩
theorem ka_q_se_X3_allAccounts : Cond.selects RX3 yX3_allAccounts yX3_allAccounts ∈ ka_T := List.mem_filter.mpr ⟨List.mem_of_getElem? (i := 20) (by decide +kernel), by decide +kernel⟩
theorem ka_q_se_X3_allTonnes : Cond.selects RX3 yX3_allTonnes yX3_allTonnes ∈ ka_T := List.mem_filter.mpr ⟨List.mem_of_getElem? (i := 21) (by decide +kernel), by decide +kernel⟩
theorem ka_q_se_X3_countDue : Cond.selects RX3 yX3_countDue yX3_countDue ∈ ka_T := List.mem_filter.mpr ⟨List.mem_of_getElem? (i := 22) (by decide +kernel), by decide +kernel⟩
theorem ka_q_se_X1_readOrder : Cond.selects RX1 yX1_readOrder yX1_readOrder ∈ ka_T := List.mem_filter.mpr ⟨List.mem_of_getElem? (i := 23) (by decide +kernel), by decide +kernel⟩
theorem ka_q_se_X1_signAt : Cond.selects RX1 yX1_signAt yX1_signAt ∈ ka_T := List.mem_filter.mpr ⟨List.mem_of_getElem? (i := 24) (by decide +kernel), by decide +kernel⟩
theorem ka_q_se_X1_readSign : Cond.selects RX1 yX1_readSign yX1_readSign ∈ ka_T := List.mem_filter.mpr ⟨List.mem_of_getElem? (i := 25) (by decide +kernel), by decide +kernel⟩
theorem ka_q_se_X1_readNumber : Cond.selects RX1 yX1_readNumber yX1_readNumber ∈ ka_T := List.mem_filter.mpr ⟨List.mem_of_getElem? (i := 26) (by decide +kernel), by decide +kernel⟩
theorem ka_q_se_X1_blame : Cond.selects RX1 yX1_blame yX1_blame ∈ ka_T := List.mem_filter.mpr ⟨List.mem_of_getElem? (i := 27) (by decide +kernel), by decide +kernel⟩
theorem ka_q_se_X1_doOrder : Cond.selects RX1 yX1_doOrder yX1_doOrder ∈ ka_T := List.mem_filter.mpr ⟨List.mem_of_getElem? (i := 28) (by decide +kernel), by decide +kernel⟩
theorem ka_q_se_X7_begins : Cond.selects RX7 yX7_begins yX7_begins ∈ ka_T := List.mem_filter.mpr ⟨List.mem_of_getElem? (i := 29) (by decide +kernel), by decide +kernel⟩
theorem ka_q_se_X7_acted : Cond.selects RX7 yX7_acted yX7_acted ∈ ka_T := List.mem_filter.mpr ⟨List.mem_of_getElem? (i := 30) (by decide +kernel), by decide +kernel⟩
theorem ka_q_se_X7_returns : Cond.selects RX7 yX7_returns yX7_returns ∈ ka_T := List.mem_filter.mpr ⟨List.mem_of_getElem? (i := 31) (by decide +kernel), by decide +kernel⟩
theorem ka_q_se_X7_isPlace : Cond.selects RX7 yX7_isPlace yX7_isPlace ∈ ka_T := List.mem_filter.mpr ⟨List.mem_of_getElem? (i := 32) (by decide +kernel), by decide +kernel⟩
theorem ka_q_se_X7_joins : Cond.selects RX7 yX7_joins yX7_joins ∈ ka_T := List.mem_filter.mpr ⟨List.mem_of_getElem? (i := 33) (by decide +kernel), by decide +kernel⟩
theorem ka_q_se_X7_isMine : Cond.selects RX7 yX7_isMine yX7_isMine ∈ ka_T := List.mem_filter.mpr ⟨List.mem_of_getElem? (i := 34) (by decide +kernel), by decide +kernel⟩
theorem ka_q_se_X7_lays : Cond.selects RX7 yX7_lays yX7_lays ∈ ka_T := List.mem_filter.mpr ⟨List.mem_of_getElem? (i := 35) (by decide +kernel), by decide +kernel⟩
theorem ka_q_se_X7_loads : Cond.selects RX7 yX7_loads yX7_loads ∈ ka_T := List.mem_filter.mpr ⟨List.mem_of_getElem? (i := 36) (by decide +kernel), by decide +kernel⟩
theorem ka_q_se_X7_isWagon : Cond.selects RX7 yX7_isWagon yX7_isWagon ∈ ka_T := List.mem_filter.mpr ⟨List.mem_of_getElem? (i := 37) (by decide +kernel), by decide +kernel⟩
theorem ka_q_se_X7_whyNot : Cond.selects RX7 yX7_whyNot yX7_whyNot ∈ ka_T := List.mem_filter.mpr ⟨List.mem_of_getElem? (i := 38) (by decide +kernel), by decide +kernel⟩
theorem ka_q_se_X7_of : Cond.selects RX7 yX7_of yX7_of ∈ ka_T := List.mem_filter.mpr ⟨List.mem_of_getElem? (i := 39) (by decide +kernel), by decide +kernel⟩
theorem ka_q_se_X7_isDue : Cond.selects RX7 yX7_isDue yX7_isDue ∈ ka_T := List.mem_filter.mpr ⟨List.mem_of_getElem? (i := 40) (by decide +kernel), by decide +kernel⟩
theorem ka_q_se_X7_has : Cond.selects RX7 yX7_has yX7_has ∈ ka_T := List.mem_filter.mpr ⟨List.mem_of_getElem? (i := 41) (by decide +kernel), by decide +kernel⟩
theorem ka_q_se_X7_adds : Cond.selects RX7 yX7_adds yX7_adds ∈ ka_T := List.mem_filter.mpr ⟨List.mem_of_getElem? (i := 42) (by decide +kernel), by decide +kernel⟩
theorem ka_q_se_X7_unloads : Cond.selects RX7 yX7_unloads yX7_unloads ∈ ka_T := List.mem_filter.mpr ⟨List.mem_of_getElem? (i := 43) (by decide +kernel), by decide +kernel⟩
theorem ka_q_se_X7_stands : Cond.selects RX7 yX7_stands yX7_stands ∈ ka_T := List.mem_filter.mpr ⟨List.mem_of_getElem? (i := 44) (by decide +kernel), by decide +kernel⟩
theorem ka_q_se_X7_pays : Cond.selects RX7 yX7_pays yX7_pays ∈ ka_T := List.mem_filter.mpr ⟨List.mem_of_getElem? (i := 45) (by decide +kernel), by decide +kernel⟩
theorem ka_q_se_X7_sends : Cond.selects RX7 yX7_sends yX7_sends ∈ ka_T := List.mem_filter.mpr ⟨List.mem_of_getElem? (i := 46) (by decide +kernel), by decide +kernel⟩
theorem ka_q_se_X7_inRepair : Cond.selects RX7 yX7_inRepair yX7_inRepair ∈ ka_T := List.mem_filter.mpr ⟨List.mem_of_getElem? (i := 47) (by decide +kernel), by decide +kernel⟩
theorem ka_q_se_X7_fillsShop : Cond.selects RX7 yX7_fillsShop yX7_fillsShop ∈ ka_T := List.mem_filter.mpr ⟨List.mem_of_getElem? (i := 48) (by decide +kernel), by decide +kernel⟩
theorem ka_q_se_X7_firstWaiting : Cond.selects RX7 yX7_firstWaiting yX7_firstWaiting ∈ ka_T := List.mem_filter.mpr ⟨List.mem_of_getElem? (i := 49) (by decide +kernel), by decide +kernel⟩
theorem ka_q_se_X7_trains : Cond.selects RX7 yX7_trains yX7_trains ∈ ka_T := List.mem_filter.mpr ⟨List.mem_of_getElem? (i := 50) (by decide +kernel), by decide +kernel⟩
theorem ka_q_se_X7_passes : Cond.selects RX7 yX7_passes yX7_passes ∈ ka_T := List.mem_filter.mpr ⟨List.mem_of_getElem? (i := 51) (by decide +kernel), by decide +kernel⟩
theorem ka_q_se_X7_day : Cond.selects RX7 yX7_day yX7_day ∈ ka_T := List.mem_filter.mpr ⟨List.mem_of_getElem? (i := 52) (by decide +kernel), by decide +kernel⟩
theorem ka_q_se_X7_arrives : Cond.selects RX7 yX7_arrives yX7_arrives ∈ ka_T := List.mem_filter.mpr ⟨List.mem_of_getElem? (i := 53) (by decide +kernel), by decide +kernel⟩
theorem ka_q_se_X7_repairs : Cond.selects RX7 yX7_repairs yX7_repairs ∈ ka_T := List.mem_filter.mpr ⟨List.mem_of_getElem? (i := 54) (by decide +kernel), by decide +kernel⟩
theorem ka_q_se_X7_charges : Cond.selects RX7 yX7_charges yX7_charges ∈ ka_T := List.mem_filter.mpr ⟨List.mem_of_getElem? (i := 55) (by decide +kernel), by decide +kernel⟩
theorem ka_q_se_X7_daysOf : Cond.selects RX7 yX7_daysOf yX7_daysOf ∈ ka_T := List.mem_filter.mpr ⟨List.mem_of_getElem? (i := 56) (by decide +kernel), by decide +kernel⟩
theorem ka_q_se_X7_standing : Cond.selects RX7 yX7_standing yX7_standing ∈ ka_T := List.mem_filter.mpr ⟨List.mem_of_getElem? (i := 57) (by decide +kernel), by decide +kernel⟩
theorem ka_q_se_X7_going : Cond.selects RX7 yX7_going yX7_going ∈ ka_T := List.mem_filter.mpr ⟨List.mem_of_getElem? (i := 58) (by decide +kernel), by decide +kernel⟩
theorem ka_q_se_X7_owned : Cond.selects RX7 yX7_owned yX7_owned ∈ ka_T := List.mem_filter.mpr ⟨List.mem_of_getElem? (i := 59) (by decide +kernel), by decide +kernel⟩
theorem ka_q_se_X7_lacking : Cond.selects RX7 yX7_lacking yX7_lacking ∈ ka_T := List.mem_filter.mpr ⟨List.mem_of_getElem? (i := 60) (by decide +kernel), by decide +kernel⟩
theorem ka_q_se_X7_ready : Cond.selects RX7 yX7_ready yX7_ready ∈ ka_T := List.mem_filter.mpr ⟨List.mem_of_getElem? (i := 61) (by decide +kernel), by decide +kernel⟩
theorem ka_q_se_X7_spare : Cond.selects RX7 yX7_spare yX7_spare ∈ ka_T := List.mem_filter.mpr ⟨List.mem_of_getElem? (i := 62) (by decide +kernel), by decide +kernel⟩
theorem ka_q_se_X7_wagons : Cond.selects RX7 yX7_wagons yX7_wagons ∈ ka_T := List.mem_filter.mpr ⟨List.mem_of_getElem? (i := 63) (by decide +kernel), by decide +kernel⟩
theorem ka_q_se_X7_sum : Cond.selects RX7 yX7_sum yX7_sum ∈ ka_T := List.mem_filter.mpr ⟨List.mem_of_getElem? (i := 64) (by decide +kernel), by decide +kernel⟩
theorem ka_q_se_X7_tonnes : Cond.selects RX7 yX7_tonnes yX7_tonnes ∈ ka_T := List.mem_filter.mpr ⟨List.mem_of_getElem? (i := 65) (by decide +kernel), by decide +kernel⟩
theorem ka_q_se_X7_due : Cond.selects RX7 yX7_due yX7_due ∈ ka_T := List.mem_filter.mpr ⟨List.mem_of_getElem? (i := 66) (by decide +kernel), by decide +kernel⟩
theorem ka_q_se_X7_doesAll : Cond.selects RX7 yX7_doesAll yX7_doesAll ∈ ka_T := List.mem_filter.mpr ⟨List.mem_of_getElem? (i := 67) (by decide +kernel), by decide +kernel⟩
theorem ka_q_se_X7_here : Cond.selects RX7 yX7_here yX7_here ∈ ka_T := List.mem_filter.mpr ⟨List.mem_of_getElem? (i := 68) (by decide +kernel), by decide +kernel⟩
theorem ka_q_se_X7_takesSign : Cond.selects RX7 yX7_takesSign yX7_takesSign ∈ ka_T := List.mem_filter.mpr ⟨List.mem_of_getElem? (i := 69) (by decide +kernel), by decide +kernel⟩
theorem ka_q_se_X7_number : Cond.selects RX7 yX7_number yX7_number ∈ ka_T := List.mem_filter.mpr ⟨List.mem_of_getElem? (i := 70) (by decide +kernel), by decide +kernel⟩
theorem ka_q_se_X7_isDigit : Cond.selects RX7 yX7_isDigit yX7_isDigit ∈ ka_T := List.mem_filter.mpr ⟨List.mem_of_getElem? (i := 71) (by decide +kernel), by decide +kernel⟩
theorem ka_q_se_X7_called : Cond.selects RX7 yX7_called yX7_called ∈ ka_T := List.mem_filter.mpr ⟨List.mem_of_getElem? (i := 72) (by decide +kernel), by decide +kernel⟩
theorem ka_q_in_L : Cond.initialized RL ∈ ka_T := List.mem_filter.mpr ⟨List.mem_of_getElem? (i := 73) (by decide +kernel), by decide +kernel⟩
theorem ka_q_in_X6 : Cond.initialized RX6 ∈ ka_T := List.mem_filter.mpr ⟨List.mem_of_getElem? (i := 74) (by decide +kernel), by decide +kernel⟩
theorem ka_q_in_X3 : Cond.initialized RX3 ∈ ka_T := List.mem_filter.mpr ⟨List.mem_of_getElem? (i := 75) (by decide +kernel), by decide +kernel⟩
theorem ka_q_in_X2 : Cond.initialized RX2 ∈ ka_T := List.mem_filter.mpr ⟨List.mem_of_getElem? (i := 76) (by decide +kernel), by decide +kernel⟩
theorem ka_q_in_X5 : Cond.initialized RX5 ∈ ka_T := List.mem_filter.mpr ⟨List.mem_of_getElem? (i := 77) (by decide +kernel), by decide +kernel⟩
theorem ka_q_in_X4 : Cond.initialized RX4 ∈ ka_T := List.mem_filter.mpr ⟨List.mem_of_getElem? (i := 78) (by decide +kernel), by decide +kernel⟩
theorem ka_q_in_X0 : Cond.initialized RX0 ∈ ka_T := List.mem_filter.mpr ⟨List.mem_of_getElem? (i := 79) (by decide +kernel), by decide +kernel⟩
theorem ka_q_in_X1 : Cond.initialized RX1 ∈ ka_T := List.mem_filter.mpr ⟨List.mem_of_getElem? (i := 80) (by decide +kernel), by decide +kernel⟩
theorem ka_q_in_X7 : Cond.initialized RX7 ∈ ka_T := List.mem_filter.mpr ⟨List.mem_of_getElem? (i := 81) (by decide +kernel), by decide +kernel⟩
theorem ka_q_in_J10 : Cond.initialized RJ10 ∈ ka_T := List.mem_filter.mpr ⟨List.mem_of_getElem? (i := 82) (by decide +kernel), by decide +kernel⟩
theorem ka_q_in_J9 : Cond.initialized RJ9 ∈ ka_T := List.mem_filter.mpr ⟨List.mem_of_getElem? (i := 83) (by decide +kernel), by decide +kernel⟩
theorem ka_q_in_J6 : Cond.initialized RJ6 ∈ ka_T := List.mem_filter.mpr ⟨List.mem_of_getElem? (i := 84) (by decide +kernel), by decide +kernel⟩
theorem ka_q_in_Jxf58ca : Cond.initialized RJxf58ca ∈ ka_T := List.mem_filter.mpr ⟨List.mem_of_getElem? (i := 85) (by decide +kernel), by decide +kernel⟩
theorem ka_q_cl_L_7 : Cond.classLink RL 7 RX6 ∈ ka_T := List.mem_filter.mpr ⟨List.mem_of_getElem? (i := 86) (by decide +kernel), by decide +kernel⟩
theorem ka_q_it_X6 : Cond.instantiable RX6 4 ∈ ka_T := List.mem_filter.mpr ⟨List.mem_of_getElem? (i := 87) (by decide +kernel), by decide +kernel⟩
theorem ka_q_ml_L_9 : Cond.methodLink RL 9 yX6_init ∈ ka_T := List.mem_filter.mpr ⟨List.mem_of_getElem? (i := 88) (by decide +kernel), by decide +kernel⟩
theorem ka_q_im_X6_init : Cond.instanceMethod yX6_init ∈ ka_T := List.mem_filter.mpr ⟨List.mem_of_getElem? (i := 89) (by decide +kernel), by decide +kernel⟩
theorem ka_q_co_X6_init : Cond.code yX6_init prog_1_method_1_code 1 none ∈ ka_T := List.mem_filter.mpr ⟨List.mem_of_getElem? (i := 90) (by decide +kernel), by decide +kernel⟩
theorem ka_q_ml_X6_1 : Cond.methodLink RX6 1 objectInit ∈ ka_T := List.mem_filter.mpr ⟨List.mem_of_getElem? (i := 91) (by decide +kernel), by decide +kernel⟩
theorem ka_q_im_objectInit : Cond.instanceMethod objectInit ∈ ka_T := List.mem_filter.mpr ⟨List.mem_of_getElem? (i := 92) (by decide +kernel), by decide +kernel⟩
theorem ka_q_co_objectInit : Cond.code objectInit ⟨#[0xb1]⟩ 1 none ∈ ka_T := List.mem_filter.mpr ⟨List.mem_of_getElem? (i := 93) (by decide +kernel), by decide +kernel⟩
theorem ka_q_cl_X6_7 : Cond.classLink RX6 7 RX3 ∈ ka_T := List.mem_filter.mpr ⟨List.mem_of_getElem? (i := 94) (by decide +kernel), by decide +kernel⟩
theorem ka_q_it_X3 : Cond.instantiable RX3 11 ∈ ka_T := List.mem_filter.mpr ⟨List.mem_of_getElem? (i := 95) (by decide +kernel), by decide +kernel⟩
theorem ka_q_ml_X6_9 : Cond.methodLink RX6 9 yX3_init ∈ ka_T := List.mem_filter.mpr ⟨List.mem_of_getElem? (i := 96) (by decide +kernel), by decide +kernel⟩
theorem ka_q_im_X3_init : Cond.instanceMethod yX3_init ∈ ka_T := List.mem_filter.mpr ⟨List.mem_of_getElem? (i := 97) (by decide +kernel), by decide +kernel⟩
theorem ka_q_co_X3_init : Cond.code yX3_init prog_5_method_1_code 2 none ∈ ka_T := List.mem_filter.mpr ⟨List.mem_of_getElem? (i := 98) (by decide +kernel), by decide +kernel⟩
theorem ka_q_ml_X3_3 : Cond.methodLink RX3 3 objectInit ∈ ka_T := List.mem_filter.mpr ⟨List.mem_of_getElem? (i := 99) (by decide +kernel), by decide +kernel⟩
theorem ka_q_cl_X3_9 : Cond.classLink RX3 9 RX2 ∈ ka_T := List.mem_filter.mpr ⟨List.mem_of_getElem? (i := 100) (by decide +kernel), by decide +kernel⟩
theorem ka_q_ao_X2 : Cond.arrayOver (FieldType.object RX2) ∈ lw_tbl := List.mem_of_getElem? (i := 101) (by decide +kernel)
theorem ka_q_it_X2 : Cond.instantiable RX2 6 ∈ ka_T := List.mem_filter.mpr ⟨List.mem_of_getElem? (i := 102) (by decide +kernel), by decide +kernel⟩
theorem ka_q_im_X2_init : Cond.instanceMethod yX2_init ∈ ka_T := List.mem_filter.mpr ⟨List.mem_of_getElem? (i := 104) (by decide +kernel), by decide +kernel⟩
theorem ka_q_co_X2_init : Cond.code yX2_init prog_4_method_1_code 1 none ∈ ka_T := List.mem_filter.mpr ⟨List.mem_of_getElem? (i := 105) (by decide +kernel), by decide +kernel⟩
theorem ka_q_ml_X2_3 : Cond.methodLink RX2 3 objectInit ∈ ka_T := List.mem_filter.mpr ⟨List.mem_of_getElem? (i := 106) (by decide +kernel), by decide +kernel⟩
theorem ka_q_fl_X2_9 : Cond.fieldLink RX2 9 RX2 "rate" "I" ∈ ka_T := List.mem_filter.mpr ⟨List.mem_of_getElem? (i := 107) (by decide +kernel), by decide +kernel⟩
theorem ka_q_fl_X2_15 : Cond.fieldLink RX2 15 RX2 "heap" "I" ∈ ka_T := List.mem_filter.mpr ⟨List.mem_of_getElem? (i := 109) (by decide +kernel), by decide +kernel⟩
theorem ka_q_fl_X2_18 : Cond.fieldLink RX2 18 RX2 "account" "I" ∈ ka_T := List.mem_filter.mpr ⟨List.mem_of_getElem? (i := 111) (by decide +kernel), by decide +kernel⟩
theorem ka_q_fl_X2_21 : Cond.fieldLink RX2 21 RX2 "demurrage" "I" ∈ ka_T := List.mem_filter.mpr ⟨List.mem_of_getElem? (i := 113) (by decide +kernel), by decide +kernel⟩
theorem ka_q_fl_X2_24 : Cond.fieldLink RX2 24 RX2 "hire" "I" ∈ ka_T := List.mem_filter.mpr ⟨List.mem_of_getElem? (i := 115) (by decide +kernel), by decide +kernel⟩
theorem ka_q_fl_X2_27 : Cond.fieldLink RX2 27 RX2 "tonnes" "I" ∈ ka_T := List.mem_filter.mpr ⟨List.mem_of_getElem? (i := 117) (by decide +kernel), by decide +kernel⟩
theorem ka_q_cl_X3_18 : Cond.classLink RX3 18 RX5 ∈ ka_T := List.mem_filter.mpr ⟨List.mem_of_getElem? (i := 132) (by decide +kernel), by decide +kernel⟩
theorem ka_q_ao_X5 : Cond.arrayOver (FieldType.object RX5) ∈ lw_tbl := List.mem_of_getElem? (i := 133) (by decide +kernel)
theorem ka_q_it_X5 : Cond.instantiable RX5 9 ∈ ka_T := List.mem_filter.mpr ⟨List.mem_of_getElem? (i := 134) (by decide +kernel), by decide +kernel⟩
theorem ka_q_im_X5_init : Cond.instanceMethod yX5_init ∈ ka_T := List.mem_filter.mpr ⟨List.mem_of_getElem? (i := 136) (by decide +kernel), by decide +kernel⟩
theorem ka_q_co_X5_init : Cond.code yX5_init prog_7_method_1_code 1 none ∈ ka_T := List.mem_filter.mpr ⟨List.mem_of_getElem? (i := 137) (by decide +kernel), by decide +kernel⟩
theorem ka_q_ml_X5_3 : Cond.methodLink RX5 3 objectInit ∈ ka_T := List.mem_filter.mpr ⟨List.mem_of_getElem? (i := 138) (by decide +kernel), by decide +kernel⟩
theorem ka_q_fl_X5_9 : Cond.fieldLink RX5 9 RX5 "owner" "I" ∈ ka_T := List.mem_filter.mpr ⟨List.mem_of_getElem? (i := 139) (by decide +kernel), by decide +kernel⟩
theorem ka_q_fl_X5_15 : Cond.fieldLink RX5 15 RX5 "place" "I" ∈ ka_T := List.mem_filter.mpr ⟨List.mem_of_getElem? (i := 141) (by decide +kernel), by decide +kernel⟩
theorem ka_q_fl_X5_18 : Cond.fieldLink RX5 18 RX5 "state" "I" ∈ ka_T := List.mem_filter.mpr ⟨List.mem_of_getElem? (i := 143) (by decide +kernel), by decide +kernel⟩
theorem ka_q_fl_X5_21 : Cond.fieldLink RX5 21 RX5 "loaded" "Z" ∈ ka_T := List.mem_filter.mpr ⟨List.mem_of_getElem? (i := 145) (by decide +kernel), by decide +kernel⟩
theorem ka_q_fl_X5_25 : Cond.fieldLink RX5 25 RX5 "wear" "I" ∈ ka_T := List.mem_filter.mpr ⟨List.mem_of_getElem? (i := 147) (by decide +kernel), by decide +kernel⟩
theorem ka_q_fl_X5_28 : Cond.fieldLink RX5 28 RX5 "since" "I" ∈ ka_T := List.mem_filter.mpr ⟨List.mem_of_getElem? (i := 149) (by decide +kernel), by decide +kernel⟩
theorem ka_q_fl_X5_31 : Cond.fieldLink RX5 31 RX5 "until" "I" ∈ ka_T := List.mem_filter.mpr ⟨List.mem_of_getElem? (i := 151) (by decide +kernel), by decide +kernel⟩
theorem ka_q_fl_X5_34 : Cond.fieldLink RX5 34 RX5 "journey" "I" ∈ ka_T := List.mem_filter.mpr ⟨List.mem_of_getElem? (i := 153) (by decide +kernel), by decide +kernel⟩
theorem ka_q_fl_X5_37 : Cond.fieldLink RX5 37 RX5 "loads" "I" ∈ ka_T := List.mem_filter.mpr ⟨List.mem_of_getElem? (i := 155) (by decide +kernel), by decide +kernel⟩
theorem ka_q_ls_X6_FIRST_SETTING : Cond.laysStatic RX6 "FIRST_SETTING" "[I" ∈ lw_tbl := List.mem_of_getElem? (i := 177) (by decide +kernel)
theorem ka_q_cl_X3_35 : Cond.classLink RX3 35 RX4 ∈ ka_T := List.mem_filter.mpr ⟨List.mem_of_getElem? (i := 178) (by decide +kernel), by decide +kernel⟩
theorem ka_q_it_X4 : Cond.instantiable RX4 2 ∈ ka_T := List.mem_filter.mpr ⟨List.mem_of_getElem? (i := 179) (by decide +kernel), by decide +kernel⟩
theorem ka_q_ml_X3_37 : Cond.methodLink RX3 37 yX4_init ∈ ka_T := List.mem_filter.mpr ⟨List.mem_of_getElem? (i := 180) (by decide +kernel), by decide +kernel⟩
theorem ka_q_im_X4_init : Cond.instanceMethod yX4_init ∈ ka_T := List.mem_filter.mpr ⟨List.mem_of_getElem? (i := 181) (by decide +kernel), by decide +kernel⟩
theorem ka_q_co_X4_init : Cond.code yX4_init prog_6_method_1_code 1 none ∈ ka_T := List.mem_filter.mpr ⟨List.mem_of_getElem? (i := 182) (by decide +kernel), by decide +kernel⟩
theorem ka_q_ml_X4_3 : Cond.methodLink RX4 3 objectInit ∈ ka_T := List.mem_filter.mpr ⟨List.mem_of_getElem? (i := 183) (by decide +kernel), by decide +kernel⟩
theorem ka_q_fl_X4_9 : Cond.fieldLink RX4 9 RX4 "queue" "[I" ∈ ka_T := List.mem_filter.mpr ⟨List.mem_of_getElem? (i := 184) (by decide +kernel), by decide +kernel⟩
theorem ka_q_fl_X4_21 : Cond.fieldLink RX4 21 RX4 "size" "I" ∈ ka_T := List.mem_filter.mpr ⟨List.mem_of_getElem? (i := 185) (by decide +kernel), by decide +kernel⟩
theorem ka_q_ac_int : Cond.arrayClass FieldType.int ∈ ka_T := List.mem_filter.mpr ⟨List.mem_of_getElem? (i := 191) (by decide +kernel), by decide +kernel⟩
theorem ka_q_fl_X3_11 : Cond.fieldLink RX3 11 RX3 "places" "[LCoalWagons$Place;" ∈ ka_T := List.mem_filter.mpr ⟨List.mem_of_getElem? (i := 192) (by decide +kernel), by decide +kernel⟩
theorem ka_q_fl_X3_20 : Cond.fieldLink RX3 20 RX3 "wagons" "[LCoalWagons$Wagon;" ∈ ka_T := List.mem_filter.mpr ⟨List.mem_of_getElem? (i := 193) (by decide +kernel), by decide +kernel⟩
theorem ka_q_fl_X3_25 : Cond.fieldLink RX3 25 RX3 "legs" "[I" ∈ ka_T := List.mem_filter.mpr ⟨List.mem_of_getElem? (i := 194) (by decide +kernel), by decide +kernel⟩
theorem ka_q_fl_X3_29 : Cond.fieldLink RX3 29 RX3 "settings" "[I" ∈ ka_T := List.mem_filter.mpr ⟨List.mem_of_getElem? (i := 195) (by decide +kernel), by decide +kernel⟩
theorem ka_q_fl_X3_38 : Cond.fieldLink RX3 38 RX3 "shop" "LCoalWagons$Shop;" ∈ ka_T := List.mem_filter.mpr ⟨List.mem_of_getElem? (i := 196) (by decide +kernel), by decide +kernel⟩
theorem ka_q_fl_X3_58 : Cond.fieldLink RX3 58 RX3 "mines" "I" ∈ ka_T := List.mem_filter.mpr ⟨List.mem_of_getElem? (i := 197) (by decide +kernel), by decide +kernel⟩
theorem ka_q_fl_X3_62 : Cond.fieldLink RX3 62 RX3 "wagonCount" "I" ∈ ka_T := List.mem_filter.mpr ⟨List.mem_of_getElem? (i := 198) (by decide +kernel), by decide +kernel⟩
theorem ka_q_fl_X3_65 : Cond.fieldLink RX3 65 RX3 "day" "I" ∈ ka_T := List.mem_filter.mpr ⟨List.mem_of_getElem? (i := 199) (by decide +kernel), by decide +kernel⟩
theorem ka_q_fl_X3_68 : Cond.fieldLink RX3 68 RX3 "repairsEnded" "I" ∈ ka_T := List.mem_filter.mpr ⟨List.mem_of_getElem? (i := 200) (by decide +kernel), by decide +kernel⟩
theorem ka_q_fl_X3_71 : Cond.fieldLink RX3 71 RX3 "trains" "I" ∈ ka_T := List.mem_filter.mpr ⟨List.mem_of_getElem? (i := 201) (by decide +kernel), by decide +kernel⟩
theorem ka_q_fl_X3_74 : Cond.fieldLink RX3 74 RX3 "emptyTrains" "I" ∈ ka_T := List.mem_filter.mpr ⟨List.mem_of_getElem? (i := 202) (by decide +kernel), by decide +kernel⟩
theorem ka_q_cl_X6_19 : Cond.classLink RX6 19 RX0 ∈ ka_T := List.mem_filter.mpr ⟨List.mem_of_getElem? (i := 226) (by decide +kernel), by decide +kernel⟩
theorem ka_q_it_X0 : Cond.instantiable RX0 3 ∈ ka_T := List.mem_filter.mpr ⟨List.mem_of_getElem? (i := 227) (by decide +kernel), by decide +kernel⟩
theorem ka_q_ml_X6_21 : Cond.methodLink RX6 21 yX0_init ∈ ka_T := List.mem_filter.mpr ⟨List.mem_of_getElem? (i := 228) (by decide +kernel), by decide +kernel⟩
theorem ka_q_im_X0_init : Cond.instanceMethod yX0_init ∈ ka_T := List.mem_filter.mpr ⟨List.mem_of_getElem? (i := 229) (by decide +kernel), by decide +kernel⟩
theorem ka_q_co_X0_init : Cond.code yX0_init prog_2_method_1_code 2 none ∈ ka_T := List.mem_filter.mpr ⟨List.mem_of_getElem? (i := 230) (by decide +kernel), by decide +kernel⟩
theorem ka_q_ml_X0_3 : Cond.methodLink RX0 3 objectInit ∈ ka_T := List.mem_filter.mpr ⟨List.mem_of_getElem? (i := 231) (by decide +kernel), by decide +kernel⟩
theorem ka_q_cl_X0_9 : Cond.classLink RX0 9 RX3 ∈ ka_T := List.mem_filter.mpr ⟨List.mem_of_getElem? (i := 232) (by decide +kernel), by decide +kernel⟩
theorem ka_q_ao_X3 : Cond.arrayOver (FieldType.object RX3) ∈ lw_tbl := List.mem_of_getElem? (i := 233) (by decide +kernel)
theorem ka_q_ml_X0_17 : Cond.methodLink RX0 17 yX3_init ∈ ka_T := List.mem_filter.mpr ⟨List.mem_of_getElem? (i := 234) (by decide +kernel), by decide +kernel⟩
theorem ka_q_fl_X0_11 : Cond.fieldLink RX0 11 RX0 "states" "[LCoalWagons$Pool;" ∈ ka_T := List.mem_filter.mpr ⟨List.mem_of_getElem? (i := 235) (by decide +kernel), by decide +kernel⟩
theorem ka_q_fl_X0_22 : Cond.fieldLink RX0 22 RX0 "oldest" "I" ∈ ka_T := List.mem_filter.mpr ⟨List.mem_of_getElem? (i := 236) (by decide +kernel), by decide +kernel⟩
theorem ka_q_fl_X0_18 : Cond.fieldLink RX0 18 RX0 "size" "I" ∈ ka_T := List.mem_filter.mpr ⟨List.mem_of_getElem? (i := 237) (by decide +kernel), by decide +kernel⟩
theorem ka_q_cl_X6_26 : Cond.classLink RX6 26 RX1 ∈ ka_T := List.mem_filter.mpr ⟨List.mem_of_getElem? (i := 245) (by decide +kernel), by decide +kernel⟩
theorem ka_q_it_X1 : Cond.instantiable RX1 9 ∈ ka_T := List.mem_filter.mpr ⟨List.mem_of_getElem? (i := 246) (by decide +kernel), by decide +kernel⟩
theorem ka_q_ml_X6_28 : Cond.methodLink RX6 28 yX1_init ∈ ka_T := List.mem_filter.mpr ⟨List.mem_of_getElem? (i := 247) (by decide +kernel), by decide +kernel⟩
theorem ka_q_im_X1_init : Cond.instanceMethod yX1_init ∈ ka_T := List.mem_filter.mpr ⟨List.mem_of_getElem? (i := 248) (by decide +kernel), by decide +kernel⟩
theorem ka_q_co_X1_init : Cond.code yX1_init prog_3_method_1_code 1 none ∈ ka_T := List.mem_filter.mpr ⟨List.mem_of_getElem? (i := 249) (by decide +kernel), by decide +kernel⟩
theorem ka_q_ml_X1_3 : Cond.methodLink RX1 3 objectInit ∈ ka_T := List.mem_filter.mpr ⟨List.mem_of_getElem? (i := 250) (by decide +kernel), by decide +kernel⟩
theorem ka_q_fl_X1_9 : Cond.fieldLink RX1 9 RX1 "signs" "[I" ∈ ka_T := List.mem_filter.mpr ⟨List.mem_of_getElem? (i := 251) (by decide +kernel), by decide +kernel⟩
theorem ka_q_fl_X1_15 : Cond.fieldLink RX1 15 RX1 "numbers" "[I" ∈ ka_T := List.mem_filter.mpr ⟨List.mem_of_getElem? (i := 252) (by decide +kernel), by decide +kernel⟩
theorem ka_q_fl_X1_18 : Cond.fieldLink RX1 18 RX1 "length" "I" ∈ ka_T := List.mem_filter.mpr ⟨List.mem_of_getElem? (i := 253) (by decide +kernel), by decide +kernel⟩
theorem ka_q_fl_X1_62 : Cond.fieldLink RX1 62 RX1 "letter" "I" ∈ ka_T := List.mem_filter.mpr ⟨List.mem_of_getElem? (i := 254) (by decide +kernel), by decide +kernel⟩
theorem ka_q_fl_X1_40 : Cond.fieldLink RX1 40 RX1 "at" "I" ∈ ka_T := List.mem_filter.mpr ⟨List.mem_of_getElem? (i := 255) (by decide +kernel), by decide +kernel⟩
theorem ka_q_fl_X1_22 : Cond.fieldLink RX1 22 RX1 "orders" "I" ∈ ka_T := List.mem_filter.mpr ⟨List.mem_of_getElem? (i := 256) (by decide +kernel), by decide +kernel⟩
theorem ka_q_fl_X1_28 : Cond.fieldLink RX1 28 RX1 "position" "I" ∈ ka_T := List.mem_filter.mpr ⟨List.mem_of_getElem? (i := 257) (by decide +kernel), by decide +kernel⟩
theorem ka_q_fl_X1_25 : Cond.fieldLink RX1 25 RX1 "reason" "I" ∈ ka_T := List.mem_filter.mpr ⟨List.mem_of_getElem? (i := 258) (by decide +kernel), by decide +kernel⟩
theorem ka_q_fl_X1_31 : Cond.fieldLink RX1 31 RX1 "cause" "I" ∈ ka_T := List.mem_filter.mpr ⟨List.mem_of_getElem? (i := 259) (by decide +kernel), by decide +kernel⟩
theorem ka_q_fl_X6_10 : Cond.fieldLink RX6 10 RX6 "now" "LCoalWagons$Pool;" ∈ ka_T := List.mem_filter.mpr ⟨List.mem_of_getElem? (i := 279) (by decide +kernel), by decide +kernel⟩
theorem ka_q_fl_X6_16 : Cond.fieldLink RX6 16 RX6 "trial" "LCoalWagons$Pool;" ∈ ka_T := List.mem_filter.mpr ⟨List.mem_of_getElem? (i := 280) (by decide +kernel), by decide +kernel⟩
theorem ka_q_fl_X6_22 : Cond.fieldLink RX6 22 RX6 "history" "LCoalWagons$History;" ∈ ka_T := List.mem_filter.mpr ⟨List.mem_of_getElem? (i := 281) (by decide +kernel), by decide +kernel⟩
theorem ka_q_fl_X6_29 : Cond.fieldLink RX6 29 RX6 "text" "LCoalWagons$OrderText;" ∈ ka_T := List.mem_filter.mpr ⟨List.mem_of_getElem? (i := 282) (by decide +kernel), by decide +kernel⟩
theorem ka_q_ml_L_13 : Cond.methodLink RL 13 yX6_mine ∈ ka_T := List.mem_filter.mpr ⟨List.mem_of_getElem? (i := 292) (by decide +kernel), by decide +kernel⟩
theorem ka_q_im_X6_mine : Cond.instanceMethod yX6_mine ∈ ka_T := List.mem_filter.mpr ⟨List.mem_of_getElem? (i := 293) (by decide +kernel), by decide +kernel⟩
theorem ka_q_se_X6_mine : Cond.selects RX6 yX6_mine yX6_mine ∈ ka_T := List.mem_filter.mpr ⟨List.mem_of_getElem? (i := 294) (by decide +kernel), by decide +kernel⟩
theorem ka_q_co_X6_mine : Cond.code yX6_mine prog_1_method_2_code 2 (some FieldType.int) ∈ ka_T := List.mem_filter.mpr ⟨List.mem_of_getElem? (i := 295) (by decide +kernel), by decide +kernel⟩
theorem ka_q_ml_X6_33 : Cond.methodLink RX6 33 yX3_copyFrom ∈ ka_T := List.mem_filter.mpr ⟨List.mem_of_getElem? (i := 296) (by decide +kernel), by decide +kernel⟩
theorem ka_q_im_X3_copyFrom : Cond.instanceMethod yX3_copyFrom ∈ ka_T := List.mem_filter.mpr ⟨List.mem_of_getElem? (i := 297) (by decide +kernel), by decide +kernel⟩
theorem ka_q_se_X3_copyFrom : Cond.selects RX3 yX3_copyFrom yX3_copyFrom ∈ ka_T := List.mem_filter.mpr ⟨List.mem_of_getElem? (i := 298) (by decide +kernel), by decide +kernel⟩
theorem ka_q_co_X3_copyFrom : Cond.code yX3_copyFrom prog_5_method_2_code 3 none ∈ ka_T := List.mem_filter.mpr ⟨List.mem_of_getElem? (i := 299) (by decide +kernel), by decide +kernel⟩
theorem ka_q_ml_X3_42 : Cond.methodLink RX3 42 yX2_copyFrom ∈ ka_T := List.mem_filter.mpr ⟨List.mem_of_getElem? (i := 300) (by decide +kernel), by decide +kernel⟩
theorem ka_q_im_X2_copyFrom : Cond.instanceMethod yX2_copyFrom ∈ ka_T := List.mem_filter.mpr ⟨List.mem_of_getElem? (i := 301) (by decide +kernel), by decide +kernel⟩
theorem ka_q_se_X2_copyFrom : Cond.selects RX2 yX2_copyFrom yX2_copyFrom ∈ ka_T := List.mem_filter.mpr ⟨List.mem_of_getElem? (i := 302) (by decide +kernel), by decide +kernel⟩
theorem ka_q_co_X2_copyFrom : Cond.code yX2_copyFrom prog_4_method_2_code 2 none ∈ ka_T := List.mem_filter.mpr ⟨List.mem_of_getElem? (i := 303) (by decide +kernel), by decide +kernel⟩
theorem ka_q_ml_X3_46 : Cond.methodLink RX3 46 yX5_copyFrom ∈ ka_T := List.mem_filter.mpr ⟨List.mem_of_getElem? (i := 304) (by decide +kernel), by decide +kernel⟩
theorem ka_q_im_X5_copyFrom : Cond.instanceMethod yX5_copyFrom ∈ ka_T := List.mem_filter.mpr ⟨List.mem_of_getElem? (i := 305) (by decide +kernel), by decide +kernel⟩
theorem ka_q_se_X5_copyFrom : Cond.selects RX5 yX5_copyFrom yX5_copyFrom ∈ ka_T := List.mem_filter.mpr ⟨List.mem_of_getElem? (i := 306) (by decide +kernel), by decide +kernel⟩
theorem ka_q_co_X5_copyFrom : Cond.code yX5_copyFrom prog_7_method_2_code 2 none ∈ ka_T := List.mem_filter.mpr ⟨List.mem_of_getElem? (i := 307) (by decide +kernel), by decide +kernel⟩
theorem ka_q_ml_X3_49 : Cond.methodLink RX3 49 arraycopyName ∈ ka_T := List.mem_filter.mpr ⟨List.mem_of_getElem? (i := 308) (by decide +kernel), by decide +kernel⟩
theorem ka_q_st_arraycopy : Cond.static arraycopyName ∈ ka_T := List.mem_filter.mpr ⟨List.mem_of_getElem? (i := 309) (by decide +kernel), by decide +kernel⟩
theorem ka_q_na_arraycopy : Cond.native arraycopyName ∈ ka_T := List.mem_filter.mpr ⟨List.mem_of_getElem? (i := 310) (by decide +kernel), by decide +kernel⟩
theorem ka_q_ml_X3_55 : Cond.methodLink RX3 55 yX4_copyFrom ∈ ka_T := List.mem_filter.mpr ⟨List.mem_of_getElem? (i := 311) (by decide +kernel), by decide +kernel⟩
theorem ka_q_im_X4_copyFrom : Cond.instanceMethod yX4_copyFrom ∈ ka_T := List.mem_filter.mpr ⟨List.mem_of_getElem? (i := 312) (by decide +kernel), by decide +kernel⟩
theorem ka_q_se_X4_copyFrom : Cond.selects RX4 yX4_copyFrom yX4_copyFrom ∈ ka_T := List.mem_filter.mpr ⟨List.mem_of_getElem? (i := 313) (by decide +kernel), by decide +kernel⟩
theorem ka_q_co_X4_copyFrom : Cond.code yX4_copyFrom prog_6_method_2_code 2 none ∈ ka_T := List.mem_filter.mpr ⟨List.mem_of_getElem? (i := 314) (by decide +kernel), by decide +kernel⟩
theorem ka_q_ml_X4_15 : Cond.methodLink RX4 15 arraycopyName ∈ ka_T := List.mem_filter.mpr ⟨List.mem_of_getElem? (i := 315) (by decide +kernel), by decide +kernel⟩
theorem ka_q_ml_X6_37 : Cond.methodLink RX6 37 yX3_addMine ∈ ka_T := List.mem_filter.mpr ⟨List.mem_of_getElem? (i := 316) (by decide +kernel), by decide +kernel⟩
theorem ka_q_im_X3_addMine : Cond.instanceMethod yX3_addMine ∈ ka_T := List.mem_filter.mpr ⟨List.mem_of_getElem? (i := 317) (by decide +kernel), by decide +kernel⟩
theorem ka_q_se_X3_addMine : Cond.selects RX3 yX3_addMine yX3_addMine ∈ ka_T := List.mem_filter.mpr ⟨List.mem_of_getElem? (i := 318) (by decide +kernel), by decide +kernel⟩
theorem ka_q_co_X3_addMine : Cond.code yX3_addMine prog_5_method_14_code 2 (some FieldType.int) ∈ ka_T := List.mem_filter.mpr ⟨List.mem_of_getElem? (i := 319) (by decide +kernel), by decide +kernel⟩
theorem ka_q_st_X6_within : Cond.static yX6_within ∈ ka_T := List.mem_filter.mpr ⟨List.mem_of_getElem? (i := 321) (by decide +kernel), by decide +kernel⟩
theorem ka_q_co_X6_within : Cond.code yX6_within prog_1_method_26_code 3 (some FieldType.boolean) ∈ ka_T := List.mem_filter.mpr ⟨List.mem_of_getElem? (i := 322) (by decide +kernel), by decide +kernel⟩
theorem ka_q_cn_X3_99 : Cond.constant RX3 99 (-2000000001) ∈ ka_T := List.mem_filter.mpr ⟨List.mem_of_getElem? (i := 323) (by decide +kernel), by decide +kernel⟩
theorem ka_q_cn_X3_100 : Cond.constant RX3 100 (-2000000003) ∈ ka_T := List.mem_filter.mpr ⟨List.mem_of_getElem? (i := 324) (by decide +kernel), by decide +kernel⟩
theorem ka_q_ml_X3_85 : Cond.methodLink RX3 85 yX3_placeAt ∈ ka_T := List.mem_filter.mpr ⟨List.mem_of_getElem? (i := 325) (by decide +kernel), by decide +kernel⟩
theorem ka_q_im_X3_placeAt : Cond.instanceMethod yX3_placeAt ∈ ka_T := List.mem_filter.mpr ⟨List.mem_of_getElem? (i := 327) (by decide +kernel), by decide +kernel⟩
theorem ka_q_co_X3_placeAt : Cond.code yX3_placeAt prog_5_method_7_code 2 (some (FieldType.object RX2)) ∈ ka_T := List.mem_filter.mpr ⟨List.mem_of_getElem? (i := 328) (by decide +kernel), by decide +kernel⟩
theorem ka_q_ml_X6_41 : Cond.methodLink RX6 41 yX6_settle ∈ ka_T := List.mem_filter.mpr ⟨List.mem_of_getElem? (i := 329) (by decide +kernel), by decide +kernel⟩
theorem ka_q_im_X6_settle : Cond.instanceMethod yX6_settle ∈ ka_T := List.mem_filter.mpr ⟨List.mem_of_getElem? (i := 331) (by decide +kernel), by decide +kernel⟩
theorem ka_q_co_X6_settle : Cond.code yX6_settle prog_1_method_24_code 2 (some FieldType.int) ∈ ka_T := List.mem_filter.mpr ⟨List.mem_of_getElem? (i := 332) (by decide +kernel), by decide +kernel⟩
theorem ka_q_ml_X6_169 : Cond.methodLink RX6 169 yX6_isError ∈ ka_T := List.mem_filter.mpr ⟨List.mem_of_getElem? (i := 333) (by decide +kernel), by decide +kernel⟩
theorem ka_q_st_X6_isError : Cond.static yX6_isError ∈ ka_T := List.mem_filter.mpr ⟨List.mem_of_getElem? (i := 334) (by decide +kernel), by decide +kernel⟩
theorem ka_q_co_X6_isError : Cond.code yX6_isError prog_1_method_25_code 1 (some FieldType.boolean) ∈ ka_T := List.mem_filter.mpr ⟨List.mem_of_getElem? (i := 335) (by decide +kernel), by decide +kernel⟩
theorem ka_q_cn_X6_112 : Cond.constant RX6 112 (-2000000004) ∈ ka_T := List.mem_filter.mpr ⟨List.mem_of_getElem? (i := 336) (by decide +kernel), by decide +kernel⟩
theorem ka_q_cn_X6_84 : Cond.constant RX6 84 (-2000000001) ∈ ka_T := List.mem_filter.mpr ⟨List.mem_of_getElem? (i := 337) (by decide +kernel), by decide +kernel⟩
theorem ka_q_ml_X6_89 : Cond.methodLink RX6 89 yX6_within ∈ ka_T := List.mem_filter.mpr ⟨List.mem_of_getElem? (i := 338) (by decide +kernel), by decide +kernel⟩
theorem ka_q_ml_X6_172 : Cond.methodLink RX6 172 yX0_record ∈ ka_T := List.mem_filter.mpr ⟨List.mem_of_getElem? (i := 339) (by decide +kernel), by decide +kernel⟩
theorem ka_q_im_X0_record : Cond.instanceMethod yX0_record ∈ ka_T := List.mem_filter.mpr ⟨List.mem_of_getElem? (i := 340) (by decide +kernel), by decide +kernel⟩
theorem ka_q_se_X0_record : Cond.selects RX0 yX0_record yX0_record ∈ ka_T := List.mem_filter.mpr ⟨List.mem_of_getElem? (i := 341) (by decide +kernel), by decide +kernel⟩
theorem ka_q_co_X0_record : Cond.code yX0_record prog_2_method_4_code 2 none ∈ ka_T := List.mem_filter.mpr ⟨List.mem_of_getElem? (i := 342) (by decide +kernel), by decide +kernel⟩
theorem ka_q_ml_X0_25 : Cond.methodLink RX0 25 yJ9_floorMod_7cf53 ∈ ka_T := List.mem_filter.mpr ⟨List.mem_of_getElem? (i := 343) (by decide +kernel), by decide +kernel⟩
theorem ka_q_st_J9_floorMod_7cf53 : Cond.static yJ9_floorMod_7cf53 ∈ ka_T := List.mem_filter.mpr ⟨List.mem_of_getElem? (i := 344) (by decide +kernel), by decide +kernel⟩
theorem ka_q_co_J9_floorMod_7cf53 : Cond.code yJ9_floorMod_7cf53 prog_12_method_50_code 3 (some FieldType.int) ∈ ka_T := List.mem_filter.mpr ⟨List.mem_of_getElem? (i := 345) (by decide +kernel), by decide +kernel⟩
theorem ka_q_ml_X0_31 : Cond.methodLink RX0 31 yX0_stateAt ∈ ka_T := List.mem_filter.mpr ⟨List.mem_of_getElem? (i := 346) (by decide +kernel), by decide +kernel⟩
theorem ka_q_im_X0_stateAt : Cond.instanceMethod yX0_stateAt ∈ ka_T := List.mem_filter.mpr ⟨List.mem_of_getElem? (i := 348) (by decide +kernel), by decide +kernel⟩
theorem ka_q_co_X0_stateAt : Cond.code yX0_stateAt prog_2_method_3_code 2 (some (FieldType.object RX3)) ∈ ka_T := List.mem_filter.mpr ⟨List.mem_of_getElem? (i := 349) (by decide +kernel), by decide +kernel⟩
theorem ka_q_ml_X0_35 : Cond.methodLink RX0 35 yX3_copyFrom ∈ ka_T := List.mem_filter.mpr ⟨List.mem_of_getElem? (i := 350) (by decide +kernel), by decide +kernel⟩
theorem ka_q_ml_L_18 : Cond.methodLink RL 18 yX6_leg ∈ ka_T := List.mem_filter.mpr ⟨List.mem_of_getElem? (i := 351) (by decide +kernel), by decide +kernel⟩
theorem ka_q_im_X6_leg : Cond.instanceMethod yX6_leg ∈ ka_T := List.mem_filter.mpr ⟨List.mem_of_getElem? (i := 352) (by decide +kernel), by decide +kernel⟩
theorem ka_q_se_X6_leg : Cond.selects RX6 yX6_leg yX6_leg ∈ ka_T := List.mem_filter.mpr ⟨List.mem_of_getElem? (i := 353) (by decide +kernel), by decide +kernel⟩
theorem ka_q_co_X6_leg : Cond.code yX6_leg prog_1_method_3_code 4 (some FieldType.int) ∈ ka_T := List.mem_filter.mpr ⟨List.mem_of_getElem? (i := 354) (by decide +kernel), by decide +kernel⟩
theorem ka_q_ml_X6_44 : Cond.methodLink RX6 44 yX3_changeLeg ∈ ka_T := List.mem_filter.mpr ⟨List.mem_of_getElem? (i := 355) (by decide +kernel), by decide +kernel⟩
theorem ka_q_im_X3_changeLeg : Cond.instanceMethod yX3_changeLeg ∈ ka_T := List.mem_filter.mpr ⟨List.mem_of_getElem? (i := 356) (by decide +kernel), by decide +kernel⟩
theorem ka_q_se_X3_changeLeg : Cond.selects RX3 yX3_changeLeg yX3_changeLeg ∈ ka_T := List.mem_filter.mpr ⟨List.mem_of_getElem? (i := 357) (by decide +kernel), by decide +kernel⟩
theorem ka_q_co_X3_changeLeg : Cond.code yX3_changeLeg prog_5_method_15_code 5 (some FieldType.int) ∈ ka_T := List.mem_filter.mpr ⟨List.mem_of_getElem? (i := 358) (by decide +kernel), by decide +kernel⟩
theorem ka_q_ml_X3_104 : Cond.methodLink RX3 104 yX3_isLeg ∈ ka_T := List.mem_filter.mpr ⟨List.mem_of_getElem? (i := 359) (by decide +kernel), by decide +kernel⟩
theorem ka_q_im_X3_isLeg : Cond.instanceMethod yX3_isLeg ∈ ka_T := List.mem_filter.mpr ⟨List.mem_of_getElem? (i := 360) (by decide +kernel), by decide +kernel⟩
theorem ka_q_se_X3_isLeg : Cond.selects RX3 yX3_isLeg yX3_isLeg ∈ ka_T := List.mem_filter.mpr ⟨List.mem_of_getElem? (i := 361) (by decide +kernel), by decide +kernel⟩
theorem ka_q_co_X3_isLeg : Cond.code yX3_isLeg prog_5_method_5_code 3 (some FieldType.boolean) ∈ ka_T := List.mem_filter.mpr ⟨List.mem_of_getElem? (i := 362) (by decide +kernel), by decide +kernel⟩
theorem ka_q_ml_X3_81 : Cond.methodLink RX3 81 yX3_isPlace ∈ ka_T := List.mem_filter.mpr ⟨List.mem_of_getElem? (i := 363) (by decide +kernel), by decide +kernel⟩
theorem ka_q_im_X3_isPlace : Cond.instanceMethod yX3_isPlace ∈ ka_T := List.mem_filter.mpr ⟨List.mem_of_getElem? (i := 364) (by decide +kernel), by decide +kernel⟩
theorem ka_q_se_X3_isPlace : Cond.selects RX3 yX3_isPlace yX3_isPlace ∈ ka_T := List.mem_filter.mpr ⟨List.mem_of_getElem? (i := 365) (by decide +kernel), by decide +kernel⟩
theorem ka_q_co_X3_isPlace : Cond.code yX3_isPlace prog_5_method_3_code 2 (some FieldType.boolean) ∈ ka_T := List.mem_filter.mpr ⟨List.mem_of_getElem? (i := 366) (by decide +kernel), by decide +kernel⟩
theorem ka_q_ml_X3_108 : Cond.methodLink RX3 108 yX3_legDays ∈ ka_T := List.mem_filter.mpr ⟨List.mem_of_getElem? (i := 367) (by decide +kernel), by decide +kernel⟩
theorem ka_q_im_X3_legDays : Cond.instanceMethod yX3_legDays ∈ ka_T := List.mem_filter.mpr ⟨List.mem_of_getElem? (i := 368) (by decide +kernel), by decide +kernel⟩
theorem ka_q_se_X3_legDays : Cond.selects RX3 yX3_legDays yX3_legDays ∈ ka_T := List.mem_filter.mpr ⟨List.mem_of_getElem? (i := 369) (by decide +kernel), by decide +kernel⟩
theorem ka_q_co_X3_legDays : Cond.code yX3_legDays prog_5_method_10_code 4 (some FieldType.int) ∈ ka_T := List.mem_filter.mpr ⟨List.mem_of_getElem? (i := 370) (by decide +kernel), by decide +kernel⟩
theorem ka_q_ml_X3_112 : Cond.methodLink RX3 112 yX3_keepLeg ∈ ka_T := List.mem_filter.mpr ⟨List.mem_of_getElem? (i := 371) (by decide +kernel), by decide +kernel⟩
theorem ka_q_im_X3_keepLeg : Cond.instanceMethod yX3_keepLeg ∈ ka_T := List.mem_filter.mpr ⟨List.mem_of_getElem? (i := 373) (by decide +kernel), by decide +kernel⟩
theorem ka_q_co_X3_keepLeg : Cond.code yX3_keepLeg prog_5_method_11_code 5 none ∈ ka_T := List.mem_filter.mpr ⟨List.mem_of_getElem? (i := 374) (by decide +kernel), by decide +kernel⟩
theorem ka_q_ml_L_23 : Cond.methodLink RL 23 yX6_wagon ∈ ka_T := List.mem_filter.mpr ⟨List.mem_of_getElem? (i := 375) (by decide +kernel), by decide +kernel⟩
theorem ka_q_im_X6_wagon : Cond.instanceMethod yX6_wagon ∈ ka_T := List.mem_filter.mpr ⟨List.mem_of_getElem? (i := 376) (by decide +kernel), by decide +kernel⟩
theorem ka_q_se_X6_wagon : Cond.selects RX6 yX6_wagon yX6_wagon ∈ ka_T := List.mem_filter.mpr ⟨List.mem_of_getElem? (i := 377) (by decide +kernel), by decide +kernel⟩
theorem ka_q_co_X6_wagon : Cond.code yX6_wagon prog_1_method_4_code 2 (some FieldType.int) ∈ ka_T := List.mem_filter.mpr ⟨List.mem_of_getElem? (i := 378) (by decide +kernel), by decide +kernel⟩
theorem ka_q_ml_X6_48 : Cond.methodLink RX6 48 yX3_addWagon ∈ ka_T := List.mem_filter.mpr ⟨List.mem_of_getElem? (i := 379) (by decide +kernel), by decide +kernel⟩
theorem ka_q_im_X3_addWagon : Cond.instanceMethod yX3_addWagon ∈ ka_T := List.mem_filter.mpr ⟨List.mem_of_getElem? (i := 380) (by decide +kernel), by decide +kernel⟩
theorem ka_q_se_X3_addWagon : Cond.selects RX3 yX3_addWagon yX3_addWagon ∈ ka_T := List.mem_filter.mpr ⟨List.mem_of_getElem? (i := 381) (by decide +kernel), by decide +kernel⟩
theorem ka_q_co_X3_addWagon : Cond.code yX3_addWagon prog_5_method_16_code 4 (some FieldType.int) ∈ ka_T := List.mem_filter.mpr ⟨List.mem_of_getElem? (i := 382) (by decide +kernel), by decide +kernel⟩
theorem ka_q_ml_X3_116 : Cond.methodLink RX3 116 yX3_isMine ∈ ka_T := List.mem_filter.mpr ⟨List.mem_of_getElem? (i := 383) (by decide +kernel), by decide +kernel⟩
theorem ka_q_im_X3_isMine : Cond.instanceMethod yX3_isMine ∈ ka_T := List.mem_filter.mpr ⟨List.mem_of_getElem? (i := 384) (by decide +kernel), by decide +kernel⟩
theorem ka_q_se_X3_isMine : Cond.selects RX3 yX3_isMine yX3_isMine ∈ ka_T := List.mem_filter.mpr ⟨List.mem_of_getElem? (i := 385) (by decide +kernel), by decide +kernel⟩
theorem ka_q_co_X3_isMine : Cond.code yX3_isMine prog_5_method_4_code 2 (some FieldType.boolean) ∈ ka_T := List.mem_filter.mpr ⟨List.mem_of_getElem? (i := 386) (by decide +kernel), by decide +kernel⟩
theorem ka_q_ml_X3_119 : Cond.methodLink RX3 119 yX3_wagonAt ∈ ka_T := List.mem_filter.mpr ⟨List.mem_of_getElem? (i := 387) (by decide +kernel), by decide +kernel⟩
theorem ka_q_im_X3_wagonAt : Cond.instanceMethod yX3_wagonAt ∈ ka_T := List.mem_filter.mpr ⟨List.mem_of_getElem? (i := 389) (by decide +kernel), by decide +kernel⟩
theorem ka_q_co_X3_wagonAt : Cond.code yX3_wagonAt prog_5_method_8_code 2 (some (FieldType.object RX5)) ∈ ka_T := List.mem_filter.mpr ⟨List.mem_of_getElem? (i := 390) (by decide +kernel), by decide +kernel⟩
theorem ka_q_ml_X3_129 : Cond.methodLink RX3 129 yX5_standFrom ∈ ka_T := List.mem_filter.mpr ⟨List.mem_of_getElem? (i := 391) (by decide +kernel), by decide +kernel⟩
theorem ka_q_im_X5_standFrom : Cond.instanceMethod yX5_standFrom ∈ ka_T := List.mem_filter.mpr ⟨List.mem_of_getElem? (i := 392) (by decide +kernel), by decide +kernel⟩
theorem ka_q_se_X5_standFrom : Cond.selects RX5 yX5_standFrom yX5_standFrom ∈ ka_T := List.mem_filter.mpr ⟨List.mem_of_getElem? (i := 393) (by decide +kernel), by decide +kernel⟩
theorem ka_q_co_X5_standFrom : Cond.code yX5_standFrom prog_7_method_3_code 2 none ∈ ka_T := List.mem_filter.mpr ⟨List.mem_of_getElem? (i := 394) (by decide +kernel), by decide +kernel⟩
theorem ka_q_ml_L_27 : Cond.methodLink RL 27 yX6_load ∈ ka_T := List.mem_filter.mpr ⟨List.mem_of_getElem? (i := 395) (by decide +kernel), by decide +kernel⟩
theorem ka_q_im_X6_load : Cond.instanceMethod yX6_load ∈ ka_T := List.mem_filter.mpr ⟨List.mem_of_getElem? (i := 396) (by decide +kernel), by decide +kernel⟩
theorem ka_q_se_X6_load : Cond.selects RX6 yX6_load yX6_load ∈ ka_T := List.mem_filter.mpr ⟨List.mem_of_getElem? (i := 397) (by decide +kernel), by decide +kernel⟩
theorem ka_q_co_X6_load : Cond.code yX6_load prog_1_method_5_code 2 (some FieldType.int) ∈ ka_T := List.mem_filter.mpr ⟨List.mem_of_getElem? (i := 398) (by decide +kernel), by decide +kernel⟩
theorem ka_q_ml_X6_51 : Cond.methodLink RX6 51 yX3_loadWagon ∈ ka_T := List.mem_filter.mpr ⟨List.mem_of_getElem? (i := 399) (by decide +kernel), by decide +kernel⟩
theorem ka_q_im_X3_loadWagon : Cond.instanceMethod yX3_loadWagon ∈ ka_T := List.mem_filter.mpr ⟨List.mem_of_getElem? (i := 400) (by decide +kernel), by decide +kernel⟩
theorem ka_q_se_X3_loadWagon : Cond.selects RX3 yX3_loadWagon yX3_loadWagon ∈ ka_T := List.mem_filter.mpr ⟨List.mem_of_getElem? (i := 401) (by decide +kernel), by decide +kernel⟩
theorem ka_q_co_X3_loadWagon : Cond.code yX3_loadWagon prog_5_method_17_code 4 (some FieldType.int) ∈ ka_T := List.mem_filter.mpr ⟨List.mem_of_getElem? (i := 402) (by decide +kernel), by decide +kernel⟩
theorem ka_q_ml_X3_133 : Cond.methodLink RX3 133 yX3_isWagon ∈ ka_T := List.mem_filter.mpr ⟨List.mem_of_getElem? (i := 403) (by decide +kernel), by decide +kernel⟩
theorem ka_q_im_X3_isWagon : Cond.instanceMethod yX3_isWagon ∈ ka_T := List.mem_filter.mpr ⟨List.mem_of_getElem? (i := 405) (by decide +kernel), by decide +kernel⟩
theorem ka_q_co_X3_isWagon : Cond.code yX3_isWagon prog_5_method_6_code 2 (some FieldType.boolean) ∈ ka_T := List.mem_filter.mpr ⟨List.mem_of_getElem? (i := 406) (by decide +kernel), by decide +kernel⟩
theorem ka_q_ml_X3_136 : Cond.methodLink RX3 136 yX3_whyNotLoaded ∈ ka_T := List.mem_filter.mpr ⟨List.mem_of_getElem? (i := 407) (by decide +kernel), by decide +kernel⟩
theorem ka_q_im_X3_whyNotLoaded : Cond.instanceMethod yX3_whyNotLoaded ∈ ka_T := List.mem_filter.mpr ⟨List.mem_of_getElem? (i := 409) (by decide +kernel), by decide +kernel⟩
theorem ka_q_co_X3_whyNotLoaded : Cond.code yX3_whyNotLoaded prog_5_method_18_code 2 (some FieldType.int) ∈ ka_T := List.mem_filter.mpr ⟨List.mem_of_getElem? (i := 410) (by decide +kernel), by decide +kernel⟩
theorem ka_q_ml_X3_157 : Cond.methodLink RX3 157 yX3_isDue ∈ ka_T := List.mem_filter.mpr ⟨List.mem_of_getElem? (i := 411) (by decide +kernel), by decide +kernel⟩
theorem ka_q_im_X3_isDue : Cond.instanceMethod yX3_isDue ∈ ka_T := List.mem_filter.mpr ⟨List.mem_of_getElem? (i := 413) (by decide +kernel), by decide +kernel⟩
theorem ka_q_co_X3_isDue : Cond.code yX3_isDue prog_5_method_13_code 2 (some FieldType.boolean) ∈ ka_T := List.mem_filter.mpr ⟨List.mem_of_getElem? (i := 414) (by decide +kernel), by decide +kernel⟩
theorem ka_q_ml_X3_95 : Cond.methodLink RX3 95 yX3_setting ∈ ka_T := List.mem_filter.mpr ⟨List.mem_of_getElem? (i := 415) (by decide +kernel), by decide +kernel⟩
theorem ka_q_im_X3_setting : Cond.instanceMethod yX3_setting ∈ ka_T := List.mem_filter.mpr ⟨List.mem_of_getElem? (i := 417) (by decide +kernel), by decide +kernel⟩
theorem ka_q_co_X3_setting : Cond.code yX3_setting prog_5_method_9_code 2 (some FieldType.int) ∈ ka_T := List.mem_filter.mpr ⟨List.mem_of_getElem? (i := 418) (by decide +kernel), by decide +kernel⟩
theorem ka_q_cn_X3_140 : Cond.constant RX3 140 (-2000000002) ∈ ka_T := List.mem_filter.mpr ⟨List.mem_of_getElem? (i := 419) (by decide +kernel), by decide +kernel⟩
theorem ka_q_ml_L_31 : Cond.methodLink RL 31 yX6_unload ∈ ka_T := List.mem_filter.mpr ⟨List.mem_of_getElem? (i := 420) (by decide +kernel), by decide +kernel⟩
theorem ka_q_im_X6_unload : Cond.instanceMethod yX6_unload ∈ ka_T := List.mem_filter.mpr ⟨List.mem_of_getElem? (i := 421) (by decide +kernel), by decide +kernel⟩
theorem ka_q_se_X6_unload : Cond.selects RX6 yX6_unload yX6_unload ∈ ka_T := List.mem_filter.mpr ⟨List.mem_of_getElem? (i := 422) (by decide +kernel), by decide +kernel⟩
theorem ka_q_co_X6_unload : Cond.code yX6_unload prog_1_method_6_code 2 (some FieldType.int) ∈ ka_T := List.mem_filter.mpr ⟨List.mem_of_getElem? (i := 423) (by decide +kernel), by decide +kernel⟩
theorem ka_q_ml_X6_54 : Cond.methodLink RX6 54 yX3_unloadWagon ∈ ka_T := List.mem_filter.mpr ⟨List.mem_of_getElem? (i := 424) (by decide +kernel), by decide +kernel⟩
theorem ka_q_im_X3_unloadWagon : Cond.instanceMethod yX3_unloadWagon ∈ ka_T := List.mem_filter.mpr ⟨List.mem_of_getElem? (i := 425) (by decide +kernel), by decide +kernel⟩
theorem ka_q_se_X3_unloadWagon : Cond.selects RX3 yX3_unloadWagon yX3_unloadWagon ∈ ka_T := List.mem_filter.mpr ⟨List.mem_of_getElem? (i := 426) (by decide +kernel), by decide +kernel⟩
theorem ka_q_co_X3_unloadWagon : Cond.code yX3_unloadWagon prog_5_method_19_code 5 (some FieldType.int) ∈ ka_T := List.mem_filter.mpr ⟨List.mem_of_getElem? (i := 427) (by decide +kernel), by decide +kernel⟩
theorem ka_q_ml_X3_161 : Cond.methodLink RX3 161 yX5_isLoadedAtPort ∈ ka_T := List.mem_filter.mpr ⟨List.mem_of_getElem? (i := 428) (by decide +kernel), by decide +kernel⟩
theorem ka_q_im_X5_isLoadedAtPort : Cond.instanceMethod yX5_isLoadedAtPort ∈ ka_T := List.mem_filter.mpr ⟨List.mem_of_getElem? (i := 429) (by decide +kernel), by decide +kernel⟩
theorem ka_q_se_X5_isLoadedAtPort : Cond.selects RX5 yX5_isLoadedAtPort yX5_isLoadedAtPort ∈ ka_T := List.mem_filter.mpr ⟨List.mem_of_getElem? (i := 430) (by decide +kernel), by decide +kernel⟩
theorem ka_q_co_X5_isLoadedAtPort : Cond.code yX5_isLoadedAtPort prog_7_method_8_code 1 (some FieldType.boolean) ∈ ka_T := List.mem_filter.mpr ⟨List.mem_of_getElem? (i := 431) (by decide +kernel), by decide +kernel⟩
theorem ka_q_ml_X3_165 : Cond.methodLink RX3 165 yX2_pay ∈ ka_T := List.mem_filter.mpr ⟨List.mem_of_getElem? (i := 432) (by decide +kernel), by decide +kernel⟩
theorem ka_q_im_X2_pay : Cond.instanceMethod yX2_pay ∈ ka_T := List.mem_filter.mpr ⟨List.mem_of_getElem? (i := 433) (by decide +kernel), by decide +kernel⟩
theorem ka_q_se_X2_pay : Cond.selects RX2 yX2_pay yX2_pay ∈ ka_T := List.mem_filter.mpr ⟨List.mem_of_getElem? (i := 434) (by decide +kernel), by decide +kernel⟩
theorem ka_q_co_X2_pay : Cond.code yX2_pay prog_4_method_4_code 3 none ∈ ka_T := List.mem_filter.mpr ⟨List.mem_of_getElem? (i := 435) (by decide +kernel), by decide +kernel⟩
theorem ka_q_ml_L_35 : Cond.methodLink RL 35 yX6_repair ∈ ka_T := List.mem_filter.mpr ⟨List.mem_of_getElem? (i := 436) (by decide +kernel), by decide +kernel⟩
theorem ka_q_im_X6_repair : Cond.instanceMethod yX6_repair ∈ ka_T := List.mem_filter.mpr ⟨List.mem_of_getElem? (i := 437) (by decide +kernel), by decide +kernel⟩
theorem ka_q_se_X6_repair : Cond.selects RX6 yX6_repair yX6_repair ∈ ka_T := List.mem_filter.mpr ⟨List.mem_of_getElem? (i := 438) (by decide +kernel), by decide +kernel⟩
theorem ka_q_co_X6_repair : Cond.code yX6_repair prog_1_method_7_code 2 (some FieldType.int) ∈ ka_T := List.mem_filter.mpr ⟨List.mem_of_getElem? (i := 439) (by decide +kernel), by decide +kernel⟩
theorem ka_q_ml_X6_57 : Cond.methodLink RX6 57 yX3_repairWagon ∈ ka_T := List.mem_filter.mpr ⟨List.mem_of_getElem? (i := 440) (by decide +kernel), by decide +kernel⟩
theorem ka_q_im_X3_repairWagon : Cond.instanceMethod yX3_repairWagon ∈ ka_T := List.mem_filter.mpr ⟨List.mem_of_getElem? (i := 441) (by decide +kernel), by decide +kernel⟩
theorem ka_q_se_X3_repairWagon : Cond.selects RX3 yX3_repairWagon yX3_repairWagon ∈ ka_T := List.mem_filter.mpr ⟨List.mem_of_getElem? (i := 442) (by decide +kernel), by decide +kernel⟩
theorem ka_q_co_X3_repairWagon : Cond.code yX3_repairWagon prog_5_method_20_code 4 (some FieldType.int) ∈ ka_T := List.mem_filter.mpr ⟨List.mem_of_getElem? (i := 443) (by decide +kernel), by decide +kernel⟩
theorem ka_q_ml_X3_169 : Cond.methodLink RX3 169 yX5_standsAt ∈ ka_T := List.mem_filter.mpr ⟨List.mem_of_getElem? (i := 444) (by decide +kernel), by decide +kernel⟩
theorem ka_q_im_X5_standsAt : Cond.instanceMethod yX5_standsAt ∈ ka_T := List.mem_filter.mpr ⟨List.mem_of_getElem? (i := 445) (by decide +kernel), by decide +kernel⟩
theorem ka_q_se_X5_standsAt : Cond.selects RX5 yX5_standsAt yX5_standsAt ∈ ka_T := List.mem_filter.mpr ⟨List.mem_of_getElem? (i := 446) (by decide +kernel), by decide +kernel⟩
theorem ka_q_co_X5_standsAt : Cond.code yX5_standsAt prog_7_method_5_code 2 (some FieldType.boolean) ∈ ka_T := List.mem_filter.mpr ⟨List.mem_of_getElem? (i := 447) (by decide +kernel), by decide +kernel⟩
theorem ka_q_ml_X3_172 : Cond.methodLink RX3 172 yX4_size ∈ ka_T := List.mem_filter.mpr ⟨List.mem_of_getElem? (i := 448) (by decide +kernel), by decide +kernel⟩
theorem ka_q_im_X4_size : Cond.instanceMethod yX4_size ∈ ka_T := List.mem_filter.mpr ⟨List.mem_of_getElem? (i := 449) (by decide +kernel), by decide +kernel⟩
theorem ka_q_se_X4_size : Cond.selects RX4 yX4_size yX4_size ∈ ka_T := List.mem_filter.mpr ⟨List.mem_of_getElem? (i := 450) (by decide +kernel), by decide +kernel⟩
theorem ka_q_co_X4_size : Cond.code yX4_size prog_6_method_3_code 1 (some FieldType.int) ∈ ka_T := List.mem_filter.mpr ⟨List.mem_of_getElem? (i := 451) (by decide +kernel), by decide +kernel⟩
theorem ka_q_ml_X3_179 : Cond.methodLink RX3 179 yX4_enter ∈ ka_T := List.mem_filter.mpr ⟨List.mem_of_getElem? (i := 452) (by decide +kernel), by decide +kernel⟩
theorem ka_q_im_X4_enter : Cond.instanceMethod yX4_enter ∈ ka_T := List.mem_filter.mpr ⟨List.mem_of_getElem? (i := 453) (by decide +kernel), by decide +kernel⟩
theorem ka_q_se_X4_enter : Cond.selects RX4 yX4_enter yX4_enter ∈ ka_T := List.mem_filter.mpr ⟨List.mem_of_getElem? (i := 454) (by decide +kernel), by decide +kernel⟩
theorem ka_q_co_X4_enter : Cond.code yX4_enter prog_6_method_6_code 2 none ∈ ka_T := List.mem_filter.mpr ⟨List.mem_of_getElem? (i := 455) (by decide +kernel), by decide +kernel⟩
theorem ka_q_ml_X3_182 : Cond.methodLink RX3 182 yX3_beginRepairs ∈ ka_T := List.mem_filter.mpr ⟨List.mem_of_getElem? (i := 456) (by decide +kernel), by decide +kernel⟩
theorem ka_q_im_X3_beginRepairs : Cond.instanceMethod yX3_beginRepairs ∈ ka_T := List.mem_filter.mpr ⟨List.mem_of_getElem? (i := 458) (by decide +kernel), by decide +kernel⟩
theorem ka_q_co_X3_beginRepairs : Cond.code yX3_beginRepairs prog_5_method_28_code 3 none ∈ ka_T := List.mem_filter.mpr ⟨List.mem_of_getElem? (i := 459) (by decide +kernel), by decide +kernel⟩
theorem ka_q_ml_X3_218 : Cond.methodLink RX3 218 yX4_atWork ∈ ka_T := List.mem_filter.mpr ⟨List.mem_of_getElem? (i := 460) (by decide +kernel), by decide +kernel⟩
theorem ka_q_im_X4_atWork : Cond.instanceMethod yX4_atWork ∈ ka_T := List.mem_filter.mpr ⟨List.mem_of_getElem? (i := 461) (by decide +kernel), by decide +kernel⟩
theorem ka_q_se_X4_atWork : Cond.selects RX4 yX4_atWork yX4_atWork ∈ ka_T := List.mem_filter.mpr ⟨List.mem_of_getElem? (i := 462) (by decide +kernel), by decide +kernel⟩
theorem ka_q_co_X4_atWork : Cond.code yX4_atWork prog_6_method_4_code 1 (some FieldType.int) ∈ ka_T := List.mem_filter.mpr ⟨List.mem_of_getElem? (i := 463) (by decide +kernel), by decide +kernel⟩
theorem ka_q_ml_X3_221 : Cond.methodLink RX3 221 yX4_numberAt ∈ ka_T := List.mem_filter.mpr ⟨List.mem_of_getElem? (i := 464) (by decide +kernel), by decide +kernel⟩
theorem ka_q_im_X4_numberAt : Cond.instanceMethod yX4_numberAt ∈ ka_T := List.mem_filter.mpr ⟨List.mem_of_getElem? (i := 465) (by decide +kernel), by decide +kernel⟩
theorem ka_q_se_X4_numberAt : Cond.selects RX4 yX4_numberAt yX4_numberAt ∈ ka_T := List.mem_filter.mpr ⟨List.mem_of_getElem? (i := 466) (by decide +kernel), by decide +kernel⟩
theorem ka_q_co_X4_numberAt : Cond.code yX4_numberAt prog_6_method_5_code 2 (some FieldType.int) ∈ ka_T := List.mem_filter.mpr ⟨List.mem_of_getElem? (i := 467) (by decide +kernel), by decide +kernel⟩
theorem ka_q_ml_L_39 : Cond.methodLink RL 39 yX6_train ∈ ka_T := List.mem_filter.mpr ⟨List.mem_of_getElem? (i := 468) (by decide +kernel), by decide +kernel⟩
theorem ka_q_im_X6_train : Cond.instanceMethod yX6_train ∈ ka_T := List.mem_filter.mpr ⟨List.mem_of_getElem? (i := 469) (by decide +kernel), by decide +kernel⟩
theorem ka_q_se_X6_train : Cond.selects RX6 yX6_train yX6_train ∈ ka_T := List.mem_filter.mpr ⟨List.mem_of_getElem? (i := 470) (by decide +kernel), by decide +kernel⟩
theorem ka_q_co_X6_train : Cond.code yX6_train prog_1_method_8_code 5 (some FieldType.int) ∈ ka_T := List.mem_filter.mpr ⟨List.mem_of_getElem? (i := 471) (by decide +kernel), by decide +kernel⟩
theorem ka_q_ml_X6_60 : Cond.methodLink RX6 60 yX3_sendTrain ∈ ka_T := List.mem_filter.mpr ⟨List.mem_of_getElem? (i := 472) (by decide +kernel), by decide +kernel⟩
theorem ka_q_im_X3_sendTrain : Cond.instanceMethod yX3_sendTrain ∈ ka_T := List.mem_filter.mpr ⟨List.mem_of_getElem? (i := 473) (by decide +kernel), by decide +kernel⟩
theorem ka_q_se_X3_sendTrain : Cond.selects RX3 yX3_sendTrain yX3_sendTrain ∈ ka_T := List.mem_filter.mpr ⟨List.mem_of_getElem? (i := 474) (by decide +kernel), by decide +kernel⟩
theorem ka_q_co_X3_sendTrain : Cond.code yX3_sendTrain prog_5_method_21_code 11 (some FieldType.int) ∈ ka_T := List.mem_filter.mpr ⟨List.mem_of_getElem? (i := 475) (by decide +kernel), by decide +kernel⟩
theorem ka_q_ml_X3_185 : Cond.methodLink RX3 185 yX5_isOfKind ∈ ka_T := List.mem_filter.mpr ⟨List.mem_of_getElem? (i := 476) (by decide +kernel), by decide +kernel⟩
theorem ka_q_im_X5_isOfKind : Cond.instanceMethod yX5_isOfKind ∈ ka_T := List.mem_filter.mpr ⟨List.mem_of_getElem? (i := 477) (by decide +kernel), by decide +kernel⟩
theorem ka_q_se_X5_isOfKind : Cond.selects RX5 yX5_isOfKind yX5_isOfKind ∈ ka_T := List.mem_filter.mpr ⟨List.mem_of_getElem? (i := 478) (by decide +kernel), by decide +kernel⟩
theorem ka_q_co_X5_isOfKind : Cond.code yX5_isOfKind prog_7_method_9_code 2 (some FieldType.boolean) ∈ ka_T := List.mem_filter.mpr ⟨List.mem_of_getElem? (i := 479) (by decide +kernel), by decide +kernel⟩
theorem ka_q_ml_X3_188 : Cond.methodLink RX3 188 yX5_leaveFor ∈ ka_T := List.mem_filter.mpr ⟨List.mem_of_getElem? (i := 480) (by decide +kernel), by decide +kernel⟩
theorem ka_q_im_X5_leaveFor : Cond.instanceMethod yX5_leaveFor ∈ ka_T := List.mem_filter.mpr ⟨List.mem_of_getElem? (i := 481) (by decide +kernel), by decide +kernel⟩
theorem ka_q_se_X5_leaveFor : Cond.selects RX5 yX5_leaveFor yX5_leaveFor ∈ ka_T := List.mem_filter.mpr ⟨List.mem_of_getElem? (i := 482) (by decide +kernel), by decide +kernel⟩
theorem ka_q_co_X5_leaveFor : Cond.code yX5_leaveFor prog_7_method_4_code 4 none ∈ ka_T := List.mem_filter.mpr ⟨List.mem_of_getElem? (i := 483) (by decide +kernel), by decide +kernel⟩
theorem ka_q_ml_L_44 : Cond.methodLink RL 44 yX6_pass ∈ ka_T := List.mem_filter.mpr ⟨List.mem_of_getElem? (i := 484) (by decide +kernel), by decide +kernel⟩
theorem ka_q_im_X6_pass : Cond.instanceMethod yX6_pass ∈ ka_T := List.mem_filter.mpr ⟨List.mem_of_getElem? (i := 485) (by decide +kernel), by decide +kernel⟩
theorem ka_q_se_X6_pass : Cond.selects RX6 yX6_pass yX6_pass ∈ ka_T := List.mem_filter.mpr ⟨List.mem_of_getElem? (i := 486) (by decide +kernel), by decide +kernel⟩
theorem ka_q_co_X6_pass : Cond.code yX6_pass prog_1_method_9_code 2 (some FieldType.int) ∈ ka_T := List.mem_filter.mpr ⟨List.mem_of_getElem? (i := 487) (by decide +kernel), by decide +kernel⟩
theorem ka_q_ml_X6_64 : Cond.methodLink RX6 64 yX3_passDays ∈ ka_T := List.mem_filter.mpr ⟨List.mem_of_getElem? (i := 488) (by decide +kernel), by decide +kernel⟩
theorem ka_q_im_X3_passDays : Cond.instanceMethod yX3_passDays ∈ ka_T := List.mem_filter.mpr ⟨List.mem_of_getElem? (i := 489) (by decide +kernel), by decide +kernel⟩
theorem ka_q_se_X3_passDays : Cond.selects RX3 yX3_passDays yX3_passDays ∈ ka_T := List.mem_filter.mpr ⟨List.mem_of_getElem? (i := 490) (by decide +kernel), by decide +kernel⟩
theorem ka_q_co_X3_passDays : Cond.code yX3_passDays prog_5_method_22_code 2 (some FieldType.int) ∈ ka_T := List.mem_filter.mpr ⟨List.mem_of_getElem? (i := 491) (by decide +kernel), by decide +kernel⟩
theorem ka_q_ml_X3_191 : Cond.methodLink RX3 191 yX3_letDaysPass ∈ ka_T := List.mem_filter.mpr ⟨List.mem_of_getElem? (i := 492) (by decide +kernel), by decide +kernel⟩
theorem ka_q_im_X3_letDaysPass : Cond.instanceMethod yX3_letDaysPass ∈ ka_T := List.mem_filter.mpr ⟨List.mem_of_getElem? (i := 493) (by decide +kernel), by decide +kernel⟩
theorem ka_q_se_X3_letDaysPass : Cond.selects RX3 yX3_letDaysPass yX3_letDaysPass ∈ ka_T := List.mem_filter.mpr ⟨List.mem_of_getElem? (i := 494) (by decide +kernel), by decide +kernel⟩
theorem ka_q_co_X3_letDaysPass : Cond.code yX3_letDaysPass prog_5_method_24_code 4 (some FieldType.int) ∈ ka_T := List.mem_filter.mpr ⟨List.mem_of_getElem? (i := 495) (by decide +kernel), by decide +kernel⟩
theorem ka_q_ml_X3_200 : Cond.methodLink RX3 200 yX3_growHeaps ∈ ka_T := List.mem_filter.mpr ⟨List.mem_of_getElem? (i := 496) (by decide +kernel), by decide +kernel⟩
theorem ka_q_im_X3_growHeaps : Cond.instanceMethod yX3_growHeaps ∈ ka_T := List.mem_filter.mpr ⟨List.mem_of_getElem? (i := 498) (by decide +kernel), by decide +kernel⟩
theorem ka_q_co_X3_growHeaps : Cond.code yX3_growHeaps prog_5_method_25_code 2 none ∈ ka_T := List.mem_filter.mpr ⟨List.mem_of_getElem? (i := 499) (by decide +kernel), by decide +kernel⟩
theorem ka_q_ml_X3_212 : Cond.methodLink RX3 212 yX2_grow ∈ ka_T := List.mem_filter.mpr ⟨List.mem_of_getElem? (i := 500) (by decide +kernel), by decide +kernel⟩
theorem ka_q_im_X2_grow : Cond.instanceMethod yX2_grow ∈ ka_T := List.mem_filter.mpr ⟨List.mem_of_getElem? (i := 501) (by decide +kernel), by decide +kernel⟩
theorem ka_q_se_X2_grow : Cond.selects RX2 yX2_grow yX2_grow ∈ ka_T := List.mem_filter.mpr ⟨List.mem_of_getElem? (i := 502) (by decide +kernel), by decide +kernel⟩
theorem ka_q_co_X2_grow : Cond.code yX2_grow prog_4_method_3_code 1 none ∈ ka_T := List.mem_filter.mpr ⟨List.mem_of_getElem? (i := 503) (by decide +kernel), by decide +kernel⟩
theorem ka_q_ml_X3_203 : Cond.methodLink RX3 203 yX3_arrive ∈ ka_T := List.mem_filter.mpr ⟨List.mem_of_getElem? (i := 504) (by decide +kernel), by decide +kernel⟩
theorem ka_q_im_X3_arrive : Cond.instanceMethod yX3_arrive ∈ ka_T := List.mem_filter.mpr ⟨List.mem_of_getElem? (i := 506) (by decide +kernel), by decide +kernel⟩
theorem ka_q_co_X3_arrive : Cond.code yX3_arrive prog_5_method_26_code 4 (some FieldType.int) ∈ ka_T := List.mem_filter.mpr ⟨List.mem_of_getElem? (i := 507) (by decide +kernel), by decide +kernel⟩
theorem ka_q_ml_X3_206 : Cond.methodLink RX3 206 yX3_endRepairs ∈ ka_T := List.mem_filter.mpr ⟨List.mem_of_getElem? (i := 508) (by decide +kernel), by decide +kernel⟩
theorem ka_q_im_X3_endRepairs : Cond.instanceMethod yX3_endRepairs ∈ ka_T := List.mem_filter.mpr ⟨List.mem_of_getElem? (i := 510) (by decide +kernel), by decide +kernel⟩
theorem ka_q_co_X3_endRepairs : Cond.code yX3_endRepairs prog_5_method_27_code 3 none ∈ ka_T := List.mem_filter.mpr ⟨List.mem_of_getElem? (i := 511) (by decide +kernel), by decide +kernel⟩
theorem ka_q_ml_X3_224 : Cond.methodLink RX3 224 yX4_leave ∈ ka_T := List.mem_filter.mpr ⟨List.mem_of_getElem? (i := 512) (by decide +kernel), by decide +kernel⟩
theorem ka_q_im_X4_leave : Cond.instanceMethod yX4_leave ∈ ka_T := List.mem_filter.mpr ⟨List.mem_of_getElem? (i := 513) (by decide +kernel), by decide +kernel⟩
theorem ka_q_se_X4_leave : Cond.selects RX4 yX4_leave yX4_leave ∈ ka_T := List.mem_filter.mpr ⟨List.mem_of_getElem? (i := 514) (by decide +kernel), by decide +kernel⟩
theorem ka_q_co_X4_leave : Cond.code yX4_leave prog_6_method_7_code 3 none ∈ ka_T := List.mem_filter.mpr ⟨List.mem_of_getElem? (i := 515) (by decide +kernel), by decide +kernel⟩
theorem ka_q_ml_X3_209 : Cond.methodLink RX3 209 yX3_payForTheDay ∈ ka_T := List.mem_filter.mpr ⟨List.mem_of_getElem? (i := 516) (by decide +kernel), by decide +kernel⟩
theorem ka_q_im_X3_payForTheDay : Cond.instanceMethod yX3_payForTheDay ∈ ka_T := List.mem_filter.mpr ⟨List.mem_of_getElem? (i := 518) (by decide +kernel), by decide +kernel⟩
theorem ka_q_co_X3_payForTheDay : Cond.code yX3_payForTheDay prog_5_method_29_code 8 none ∈ ka_T := List.mem_filter.mpr ⟨List.mem_of_getElem? (i := 519) (by decide +kernel), by decide +kernel⟩
theorem ka_q_ml_X3_227 : Cond.methodLink RX3 227 yX5_isHired ∈ ka_T := List.mem_filter.mpr ⟨List.mem_of_getElem? (i := 520) (by decide +kernel), by decide +kernel⟩
theorem ka_q_im_X5_isHired : Cond.instanceMethod yX5_isHired ∈ ka_T := List.mem_filter.mpr ⟨List.mem_of_getElem? (i := 521) (by decide +kernel), by decide +kernel⟩
theorem ka_q_se_X5_isHired : Cond.selects RX5 yX5_isHired yX5_isHired ∈ ka_T := List.mem_filter.mpr ⟨List.mem_of_getElem? (i := 522) (by decide +kernel), by decide +kernel⟩
theorem ka_q_co_X5_isHired : Cond.code yX5_isHired prog_7_method_7_code 1 (some FieldType.boolean) ∈ ka_T := List.mem_filter.mpr ⟨List.mem_of_getElem? (i := 523) (by decide +kernel), by decide +kernel⟩
theorem ka_q_ml_X3_230 : Cond.methodLink RX3 230 yX2_payHire ∈ ka_T := List.mem_filter.mpr ⟨List.mem_of_getElem? (i := 524) (by decide +kernel), by decide +kernel⟩
theorem ka_q_im_X2_payHire : Cond.instanceMethod yX2_payHire ∈ ka_T := List.mem_filter.mpr ⟨List.mem_of_getElem? (i := 525) (by decide +kernel), by decide +kernel⟩
theorem ka_q_se_X2_payHire : Cond.selects RX2 yX2_payHire yX2_payHire ∈ ka_T := List.mem_filter.mpr ⟨List.mem_of_getElem? (i := 526) (by decide +kernel), by decide +kernel⟩
theorem ka_q_co_X2_payHire : Cond.code yX2_payHire prog_4_method_5_code 3 none ∈ ka_T := List.mem_filter.mpr ⟨List.mem_of_getElem? (i := 527) (by decide +kernel), by decide +kernel⟩
theorem ka_q_ml_X3_236 : Cond.methodLink RX3 236 yX2_payDemurrage ∈ ka_T := List.mem_filter.mpr ⟨List.mem_of_getElem? (i := 528) (by decide +kernel), by decide +kernel⟩
theorem ka_q_im_X2_payDemurrage : Cond.instanceMethod yX2_payDemurrage ∈ ka_T := List.mem_filter.mpr ⟨List.mem_of_getElem? (i := 529) (by decide +kernel), by decide +kernel⟩
theorem ka_q_se_X2_payDemurrage : Cond.selects RX2 yX2_payDemurrage yX2_payDemurrage ∈ ka_T := List.mem_filter.mpr ⟨List.mem_of_getElem? (i := 530) (by decide +kernel), by decide +kernel⟩
theorem ka_q_co_X2_payDemurrage : Cond.code yX2_payDemurrage prog_4_method_6_code 3 none ∈ ka_T := List.mem_filter.mpr ⟨List.mem_of_getElem? (i := 531) (by decide +kernel), by decide +kernel⟩
theorem ka_q_ml_L_48 : Cond.methodLink RL 48 yX6_set ∈ ka_T := List.mem_filter.mpr ⟨List.mem_of_getElem? (i := 532) (by decide +kernel), by decide +kernel⟩
theorem ka_q_im_X6_set : Cond.instanceMethod yX6_set ∈ ka_T := List.mem_filter.mpr ⟨List.mem_of_getElem? (i := 533) (by decide +kernel), by decide +kernel⟩
theorem ka_q_se_X6_set : Cond.selects RX6 yX6_set yX6_set ∈ ka_T := List.mem_filter.mpr ⟨List.mem_of_getElem? (i := 534) (by decide +kernel), by decide +kernel⟩
theorem ka_q_co_X6_set : Cond.code yX6_set prog_1_method_10_code 3 (some FieldType.int) ∈ ka_T := List.mem_filter.mpr ⟨List.mem_of_getElem? (i := 535) (by decide +kernel), by decide +kernel⟩
theorem ka_q_ml_X6_67 : Cond.methodLink RX6 67 yX3_changeSetting ∈ ka_T := List.mem_filter.mpr ⟨List.mem_of_getElem? (i := 536) (by decide +kernel), by decide +kernel⟩
theorem ka_q_im_X3_changeSetting : Cond.instanceMethod yX3_changeSetting ∈ ka_T := List.mem_filter.mpr ⟨List.mem_of_getElem? (i := 537) (by decide +kernel), by decide +kernel⟩
theorem ka_q_se_X3_changeSetting : Cond.selects RX3 yX3_changeSetting yX3_changeSetting ∈ ka_T := List.mem_filter.mpr ⟨List.mem_of_getElem? (i := 538) (by decide +kernel), by decide +kernel⟩
theorem ka_q_co_X3_changeSetting : Cond.code yX3_changeSetting prog_5_method_23_code 4 (some FieldType.int) ∈ ka_T := List.mem_filter.mpr ⟨List.mem_of_getElem? (i := 539) (by decide +kernel), by decide +kernel⟩
theorem ka_q_ls_X6_LOWEST_SETTING : Cond.laysStatic RX6 "LOWEST_SETTING" "[I" ∈ lw_tbl := List.mem_of_getElem? (i := 541) (by decide +kernel)
theorem ka_q_ls_X6_HIGHEST_SETTING : Cond.laysStatic RX6 "HIGHEST_SETTING" "[I" ∈ lw_tbl := List.mem_of_getElem? (i := 543) (by decide +kernel)
theorem ka_q_ml_L_53 : Cond.methodLink RL 53 yX6_wagonOf ∈ ka_T := List.mem_filter.mpr ⟨List.mem_of_getElem? (i := 544) (by decide +kernel), by decide +kernel⟩
theorem ka_q_im_X6_wagonOf : Cond.instanceMethod yX6_wagonOf ∈ ka_T := List.mem_filter.mpr ⟨List.mem_of_getElem? (i := 545) (by decide +kernel), by decide +kernel⟩
theorem ka_q_se_X6_wagonOf : Cond.selects RX6 yX6_wagonOf yX6_wagonOf ∈ ka_T := List.mem_filter.mpr ⟨List.mem_of_getElem? (i := 546) (by decide +kernel), by decide +kernel⟩
theorem ka_q_co_X6_wagonOf : Cond.code yX6_wagonOf prog_1_method_11_code 3 (some FieldType.int) ∈ ka_T := List.mem_filter.mpr ⟨List.mem_of_getElem? (i := 547) (by decide +kernel), by decide +kernel⟩
theorem ka_q_ml_X6_71 : Cond.methodLink RX6 71 yX3_tellOfWagon ∈ ka_T := List.mem_filter.mpr ⟨List.mem_of_getElem? (i := 548) (by decide +kernel), by decide +kernel⟩
theorem ka_q_im_X3_tellOfWagon : Cond.instanceMethod yX3_tellOfWagon ∈ ka_T := List.mem_filter.mpr ⟨List.mem_of_getElem? (i := 549) (by decide +kernel), by decide +kernel⟩
theorem ka_q_se_X3_tellOfWagon : Cond.selects RX3 yX3_tellOfWagon yX3_tellOfWagon ∈ ka_T := List.mem_filter.mpr ⟨List.mem_of_getElem? (i := 550) (by decide +kernel), by decide +kernel⟩
theorem ka_q_co_X3_tellOfWagon : Cond.code yX3_tellOfWagon prog_5_method_30_code 4 (some FieldType.int) ∈ ka_T := List.mem_filter.mpr ⟨List.mem_of_getElem? (i := 551) (by decide +kernel), by decide +kernel⟩
theorem ka_q_cn_X3_239 : Cond.constant RX3 239 (-2000000004) ∈ ka_T := List.mem_filter.mpr ⟨List.mem_of_getElem? (i := 552) (by decide +kernel), by decide +kernel⟩
theorem ka_q_ml_L_57 : Cond.methodLink RL 57 yX6_placeOf ∈ ka_T := List.mem_filter.mpr ⟨List.mem_of_getElem? (i := 553) (by decide +kernel), by decide +kernel⟩
theorem ka_q_im_X6_placeOf : Cond.instanceMethod yX6_placeOf ∈ ka_T := List.mem_filter.mpr ⟨List.mem_of_getElem? (i := 554) (by decide +kernel), by decide +kernel⟩
theorem ka_q_se_X6_placeOf : Cond.selects RX6 yX6_placeOf yX6_placeOf ∈ ka_T := List.mem_filter.mpr ⟨List.mem_of_getElem? (i := 555) (by decide +kernel), by decide +kernel⟩
theorem ka_q_co_X6_placeOf : Cond.code yX6_placeOf prog_1_method_12_code 3 (some FieldType.int) ∈ ka_T := List.mem_filter.mpr ⟨List.mem_of_getElem? (i := 556) (by decide +kernel), by decide +kernel⟩
theorem ka_q_ml_X6_74 : Cond.methodLink RX6 74 yX3_tellOfPlace ∈ ka_T := List.mem_filter.mpr ⟨List.mem_of_getElem? (i := 557) (by decide +kernel), by decide +kernel⟩
theorem ka_q_im_X3_tellOfPlace : Cond.instanceMethod yX3_tellOfPlace ∈ ka_T := List.mem_filter.mpr ⟨List.mem_of_getElem? (i := 558) (by decide +kernel), by decide +kernel⟩
theorem ka_q_se_X3_tellOfPlace : Cond.selects RX3 yX3_tellOfPlace yX3_tellOfPlace ∈ ka_T := List.mem_filter.mpr ⟨List.mem_of_getElem? (i := 559) (by decide +kernel), by decide +kernel⟩
theorem ka_q_co_X3_tellOfPlace : Cond.code yX3_tellOfPlace prog_5_method_31_code 4 (some FieldType.int) ∈ ka_T := List.mem_filter.mpr ⟨List.mem_of_getElem? (i := 560) (by decide +kernel), by decide +kernel⟩
theorem ka_q_ml_X3_240 : Cond.methodLink RX3 240 yX3_setStanding ∈ ka_T := List.mem_filter.mpr ⟨List.mem_of_getElem? (i := 561) (by decide +kernel), by decide +kernel⟩
theorem ka_q_im_X3_setStanding : Cond.instanceMethod yX3_setStanding ∈ ka_T := List.mem_filter.mpr ⟨List.mem_of_getElem? (i := 563) (by decide +kernel), by decide +kernel⟩
theorem ka_q_co_X3_setStanding : Cond.code yX3_setStanding prog_5_method_32_code 6 (some FieldType.int) ∈ ka_T := List.mem_filter.mpr ⟨List.mem_of_getElem? (i := 564) (by decide +kernel), by decide +kernel⟩
theorem ka_q_ml_X3_243 : Cond.methodLink RX3 243 yX3_setOnTheWayTo ∈ ka_T := List.mem_filter.mpr ⟨List.mem_of_getElem? (i := 565) (by decide +kernel), by decide +kernel⟩
theorem ka_q_im_X3_setOnTheWayTo : Cond.instanceMethod yX3_setOnTheWayTo ∈ ka_T := List.mem_filter.mpr ⟨List.mem_of_getElem? (i := 567) (by decide +kernel), by decide +kernel⟩
theorem ka_q_co_X3_setOnTheWayTo : Cond.code yX3_setOnTheWayTo prog_5_method_33_code 4 (some FieldType.int) ∈ ka_T := List.mem_filter.mpr ⟨List.mem_of_getElem? (i := 568) (by decide +kernel), by decide +kernel⟩
theorem ka_q_ml_X3_255 : Cond.methodLink RX3 255 yX5_isOnItsWayTo ∈ ka_T := List.mem_filter.mpr ⟨List.mem_of_getElem? (i := 569) (by decide +kernel), by decide +kernel⟩
theorem ka_q_im_X5_isOnItsWayTo : Cond.instanceMethod yX5_isOnItsWayTo ∈ ka_T := List.mem_filter.mpr ⟨List.mem_of_getElem? (i := 570) (by decide +kernel), by decide +kernel⟩
theorem ka_q_se_X5_isOnItsWayTo : Cond.selects RX5 yX5_isOnItsWayTo yX5_isOnItsWayTo ∈ ka_T := List.mem_filter.mpr ⟨List.mem_of_getElem? (i := 571) (by decide +kernel), by decide +kernel⟩
theorem ka_q_co_X5_isOnItsWayTo : Cond.code yX5_isOnItsWayTo prog_7_method_6_code 2 (some FieldType.boolean) ∈ ka_T := List.mem_filter.mpr ⟨List.mem_of_getElem? (i := 572) (by decide +kernel), by decide +kernel⟩
theorem ka_q_ml_X3_246 : Cond.methodLink RX3 246 yX3_setOwnedBy ∈ ka_T := List.mem_filter.mpr ⟨List.mem_of_getElem? (i := 573) (by decide +kernel), by decide +kernel⟩
theorem ka_q_im_X3_setOwnedBy : Cond.instanceMethod yX3_setOwnedBy ∈ ka_T := List.mem_filter.mpr ⟨List.mem_of_getElem? (i := 575) (by decide +kernel), by decide +kernel⟩
theorem ka_q_co_X3_setOwnedBy : Cond.code yX3_setOwnedBy prog_5_method_34_code 4 (some FieldType.int) ∈ ka_T := List.mem_filter.mpr ⟨List.mem_of_getElem? (i := 576) (by decide +kernel), by decide +kernel⟩
theorem ka_q_ml_L_61 : Cond.methodLink RL 61 yX6_days ∈ ka_T := List.mem_filter.mpr ⟨List.mem_of_getElem? (i := 577) (by decide +kernel), by decide +kernel⟩
theorem ka_q_im_X6_days : Cond.instanceMethod yX6_days ∈ ka_T := List.mem_filter.mpr ⟨List.mem_of_getElem? (i := 578) (by decide +kernel), by decide +kernel⟩
theorem ka_q_se_X6_days : Cond.selects RX6 yX6_days yX6_days ∈ ka_T := List.mem_filter.mpr ⟨List.mem_of_getElem? (i := 579) (by decide +kernel), by decide +kernel⟩
theorem ka_q_co_X6_days : Cond.code yX6_days prog_1_method_13_code 3 (some FieldType.int) ∈ ka_T := List.mem_filter.mpr ⟨List.mem_of_getElem? (i := 580) (by decide +kernel), by decide +kernel⟩
theorem ka_q_ml_X6_77 : Cond.methodLink RX6 77 yX3_isLeg ∈ ka_T := List.mem_filter.mpr ⟨List.mem_of_getElem? (i := 581) (by decide +kernel), by decide +kernel⟩
theorem ka_q_ml_X6_81 : Cond.methodLink RX6 81 yX3_legDays ∈ ka_T := List.mem_filter.mpr ⟨List.mem_of_getElem? (i := 582) (by decide +kernel), by decide +kernel⟩
theorem ka_q_ml_L_65 : Cond.methodLink RL 65 yX6_would ∈ ka_T := List.mem_filter.mpr ⟨List.mem_of_getElem? (i := 583) (by decide +kernel), by decide +kernel⟩
theorem ka_q_im_X6_would : Cond.instanceMethod yX6_would ∈ ka_T := List.mem_filter.mpr ⟨List.mem_of_getElem? (i := 584) (by decide +kernel), by decide +kernel⟩
theorem ka_q_se_X6_would : Cond.selects RX6 yX6_would yX6_would ∈ ka_T := List.mem_filter.mpr ⟨List.mem_of_getElem? (i := 585) (by decide +kernel), by decide +kernel⟩
end
section
theorem ka_q_co_X6_would : Cond.code yX6_would prog_1_method_14_code 3 (some FieldType.int) ∈ ka_T := List.mem_filter.mpr ⟨List.mem_of_getElem? (i := 586) (by decide +kernel), by decide +kernel⟩
theorem ka_q_ml_X6_85 : Cond.methodLink RX6 85 yX3_isPlace ∈ ka_T := List.mem_filter.mpr ⟨List.mem_of_getElem? (i := 587) (by decide +kernel), by decide +kernel⟩
theorem ka_q_ml_X6_93 : Cond.methodLink RX6 93 yX3_letDaysPass ∈ ka_T := List.mem_filter.mpr ⟨List.mem_of_getElem? (i := 588) (by decide +kernel), by decide +kernel⟩
theorem ka_q_ml_X6_96 : Cond.methodLink RX6 96 yX3_accountOf ∈ ka_T := List.mem_filter.mpr ⟨List.mem_of_getElem? (i := 589) (by decide +kernel), by decide +kernel⟩
theorem ka_q_im_X3_accountOf : Cond.instanceMethod yX3_accountOf ∈ ka_T := List.mem_filter.mpr ⟨List.mem_of_getElem? (i := 590) (by decide +kernel), by decide +kernel⟩
theorem ka_q_se_X3_accountOf : Cond.selects RX3 yX3_accountOf yX3_accountOf ∈ ka_T := List.mem_filter.mpr ⟨List.mem_of_getElem? (i := 591) (by decide +kernel), by decide +kernel⟩
theorem ka_q_co_X3_accountOf : Cond.code yX3_accountOf prog_5_method_12_code 2 (some FieldType.int) ∈ ka_T := List.mem_filter.mpr ⟨List.mem_of_getElem? (i := 592) (by decide +kernel), by decide +kernel⟩
theorem ka_q_ml_L_69 : Cond.methodLink RL 69 yX6_lacks ∈ ka_T := List.mem_filter.mpr ⟨List.mem_of_getElem? (i := 593) (by decide +kernel), by decide +kernel⟩
theorem ka_q_im_X6_lacks : Cond.instanceMethod yX6_lacks ∈ ka_T := List.mem_filter.mpr ⟨List.mem_of_getElem? (i := 594) (by decide +kernel), by decide +kernel⟩
theorem ka_q_se_X6_lacks : Cond.selects RX6 yX6_lacks yX6_lacks ∈ ka_T := List.mem_filter.mpr ⟨List.mem_of_getElem? (i := 595) (by decide +kernel), by decide +kernel⟩
theorem ka_q_co_X6_lacks : Cond.code yX6_lacks prog_1_method_15_code 2 (some FieldType.int) ∈ ka_T := List.mem_filter.mpr ⟨List.mem_of_getElem? (i := 596) (by decide +kernel), by decide +kernel⟩
theorem ka_q_ml_X6_99 : Cond.methodLink RX6 99 yX3_isMine ∈ ka_T := List.mem_filter.mpr ⟨List.mem_of_getElem? (i := 597) (by decide +kernel), by decide +kernel⟩
theorem ka_q_ml_X6_102 : Cond.methodLink RX6 102 yX3_lackOf ∈ ka_T := List.mem_filter.mpr ⟨List.mem_of_getElem? (i := 598) (by decide +kernel), by decide +kernel⟩
theorem ka_q_im_X3_lackOf : Cond.instanceMethod yX3_lackOf ∈ ka_T := List.mem_filter.mpr ⟨List.mem_of_getElem? (i := 599) (by decide +kernel), by decide +kernel⟩
theorem ka_q_se_X3_lackOf : Cond.selects RX3 yX3_lackOf yX3_lackOf ∈ ka_T := List.mem_filter.mpr ⟨List.mem_of_getElem? (i := 600) (by decide +kernel), by decide +kernel⟩
theorem ka_q_co_X3_lackOf : Cond.code yX3_lackOf prog_5_method_41_code 5 (some FieldType.int) ∈ ka_T := List.mem_filter.mpr ⟨List.mem_of_getElem? (i := 601) (by decide +kernel), by decide +kernel⟩
theorem ka_q_ml_X3_276 : Cond.methodLink RX3 276 yX2_loadsOfHeap ∈ ka_T := List.mem_filter.mpr ⟨List.mem_of_getElem? (i := 602) (by decide +kernel), by decide +kernel⟩
theorem ka_q_im_X2_loadsOfHeap : Cond.instanceMethod yX2_loadsOfHeap ∈ ka_T := List.mem_filter.mpr ⟨List.mem_of_getElem? (i := 603) (by decide +kernel), by decide +kernel⟩
theorem ka_q_se_X2_loadsOfHeap : Cond.selects RX2 yX2_loadsOfHeap yX2_loadsOfHeap ∈ ka_T := List.mem_filter.mpr ⟨List.mem_of_getElem? (i := 604) (by decide +kernel), by decide +kernel⟩
theorem ka_q_co_X2_loadsOfHeap : Cond.code yX2_loadsOfHeap prog_4_method_7_code 1 (some FieldType.int) ∈ ka_T := List.mem_filter.mpr ⟨List.mem_of_getElem? (i := 605) (by decide +kernel), by decide +kernel⟩
theorem ka_q_ml_X3_279 : Cond.methodLink RX3 279 yX3_readyAt ∈ ka_T := List.mem_filter.mpr ⟨List.mem_of_getElem? (i := 606) (by decide +kernel), by decide +kernel⟩
theorem ka_q_im_X3_readyAt : Cond.instanceMethod yX3_readyAt ∈ ka_T := List.mem_filter.mpr ⟨List.mem_of_getElem? (i := 608) (by decide +kernel), by decide +kernel⟩
theorem ka_q_co_X3_readyAt : Cond.code yX3_readyAt prog_5_method_43_code 5 (some FieldType.int) ∈ ka_T := List.mem_filter.mpr ⟨List.mem_of_getElem? (i := 609) (by decide +kernel), by decide +kernel⟩
theorem ka_q_ml_X3_282 : Cond.methodLink RX3 282 Lib.Math.max.name ∈ ka_T := List.mem_filter.mpr ⟨List.mem_of_getElem? (i := 610) (by decide +kernel), by decide +kernel⟩
theorem ka_q_st_max : Cond.static Lib.Math.max.name ∈ ka_T := List.mem_filter.mpr ⟨List.mem_of_getElem? (i := 611) (by decide +kernel), by decide +kernel⟩
theorem ka_q_co_max : Cond.code Lib.Math.max.name Lib.Math.max.code 2 (some .int) ∈ ka_T := List.mem_filter.mpr ⟨List.mem_of_getElem? (i := 612) (by decide +kernel), by decide +kernel⟩
theorem ka_q_ml_L_73 : Cond.methodLink RL 73 yX6_bestTrain ∈ ka_T := List.mem_filter.mpr ⟨List.mem_of_getElem? (i := 613) (by decide +kernel), by decide +kernel⟩
theorem ka_q_im_X6_bestTrain : Cond.instanceMethod yX6_bestTrain ∈ ka_T := List.mem_filter.mpr ⟨List.mem_of_getElem? (i := 614) (by decide +kernel), by decide +kernel⟩
theorem ka_q_se_X6_bestTrain : Cond.selects RX6 yX6_bestTrain yX6_bestTrain ∈ ka_T := List.mem_filter.mpr ⟨List.mem_of_getElem? (i := 615) (by decide +kernel), by decide +kernel⟩
theorem ka_q_co_X6_bestTrain : Cond.code yX6_bestTrain prog_1_method_16_code 4 (some FieldType.int) ∈ ka_T := List.mem_filter.mpr ⟨List.mem_of_getElem? (i := 616) (by decide +kernel), by decide +kernel⟩
theorem ka_q_ml_X6_105 : Cond.methodLink RX6 105 yX3_neediestMine ∈ ka_T := List.mem_filter.mpr ⟨List.mem_of_getElem? (i := 617) (by decide +kernel), by decide +kernel⟩
theorem ka_q_im_X3_neediestMine : Cond.instanceMethod yX3_neediestMine ∈ ka_T := List.mem_filter.mpr ⟨List.mem_of_getElem? (i := 618) (by decide +kernel), by decide +kernel⟩
theorem ka_q_se_X3_neediestMine : Cond.selects RX3 yX3_neediestMine yX3_neediestMine ∈ ka_T := List.mem_filter.mpr ⟨List.mem_of_getElem? (i := 619) (by decide +kernel), by decide +kernel⟩
theorem ka_q_co_X3_neediestMine : Cond.code yX3_neediestMine prog_5_method_44_code 5 (some FieldType.int) ∈ ka_T := List.mem_filter.mpr ⟨List.mem_of_getElem? (i := 620) (by decide +kernel), by decide +kernel⟩
theorem ka_q_ml_X3_287 : Cond.methodLink RX3 287 yX3_lackOf ∈ ka_T := List.mem_filter.mpr ⟨List.mem_of_getElem? (i := 621) (by decide +kernel), by decide +kernel⟩
theorem ka_q_ml_X6_109 : Cond.methodLink RX6 109 yX3_nearestToSpare ∈ ka_T := List.mem_filter.mpr ⟨List.mem_of_getElem? (i := 622) (by decide +kernel), by decide +kernel⟩
theorem ka_q_im_X3_nearestToSpare : Cond.instanceMethod yX3_nearestToSpare ∈ ka_T := List.mem_filter.mpr ⟨List.mem_of_getElem? (i := 623) (by decide +kernel), by decide +kernel⟩
theorem ka_q_se_X3_nearestToSpare : Cond.selects RX3 yX3_nearestToSpare yX3_nearestToSpare ∈ ka_T := List.mem_filter.mpr ⟨List.mem_of_getElem? (i := 624) (by decide +kernel), by decide +kernel⟩
theorem ka_q_co_X3_nearestToSpare : Cond.code yX3_nearestToSpare prog_5_method_45_code 5 (some FieldType.int) ∈ ka_T := List.mem_filter.mpr ⟨List.mem_of_getElem? (i := 625) (by decide +kernel), by decide +kernel⟩
theorem ka_q_ml_X3_290 : Cond.methodLink RX3 290 yX3_spareOf ∈ ka_T := List.mem_filter.mpr ⟨List.mem_of_getElem? (i := 626) (by decide +kernel), by decide +kernel⟩
theorem ka_q_im_X3_spareOf : Cond.instanceMethod yX3_spareOf ∈ ka_T := List.mem_filter.mpr ⟨List.mem_of_getElem? (i := 627) (by decide +kernel), by decide +kernel⟩
theorem ka_q_se_X3_spareOf : Cond.selects RX3 yX3_spareOf yX3_spareOf ∈ ka_T := List.mem_filter.mpr ⟨List.mem_of_getElem? (i := 628) (by decide +kernel), by decide +kernel⟩
theorem ka_q_co_X3_spareOf : Cond.code yX3_spareOf prog_5_method_42_code 2 (some FieldType.int) ∈ ka_T := List.mem_filter.mpr ⟨List.mem_of_getElem? (i := 629) (by decide +kernel), by decide +kernel⟩
theorem ka_q_ml_X6_113 : Cond.methodLink RX6 113 yX3_spareOf ∈ ka_T := List.mem_filter.mpr ⟨List.mem_of_getElem? (i := 630) (by decide +kernel), by decide +kernel⟩
theorem ka_q_ml_X6_116 : Cond.methodLink RX6 116 Lib.Math.min.name ∈ ka_T := List.mem_filter.mpr ⟨List.mem_of_getElem? (i := 631) (by decide +kernel), by decide +kernel⟩
theorem ka_q_st_min : Cond.static Lib.Math.min.name ∈ ka_T := List.mem_filter.mpr ⟨List.mem_of_getElem? (i := 632) (by decide +kernel), by decide +kernel⟩
theorem ka_q_co_min : Cond.code Lib.Math.min.name Lib.Math.min.code 2 (some .int) ∈ ka_T := List.mem_filter.mpr ⟨List.mem_of_getElem? (i := 633) (by decide +kernel), by decide +kernel⟩
theorem ka_q_ml_L_77 : Cond.methodLink RL 77 yX6_share ∈ ka_T := List.mem_filter.mpr ⟨List.mem_of_getElem? (i := 634) (by decide +kernel), by decide +kernel⟩
theorem ka_q_im_X6_share : Cond.instanceMethod yX6_share ∈ ka_T := List.mem_filter.mpr ⟨List.mem_of_getElem? (i := 635) (by decide +kernel), by decide +kernel⟩
theorem ka_q_se_X6_share : Cond.selects RX6 yX6_share yX6_share ∈ ka_T := List.mem_filter.mpr ⟨List.mem_of_getElem? (i := 636) (by decide +kernel), by decide +kernel⟩
theorem ka_q_co_X6_share : Cond.code yX6_share prog_1_method_17_code 3 (some FieldType.int) ∈ ka_T := List.mem_filter.mpr ⟨List.mem_of_getElem? (i := 637) (by decide +kernel), by decide +kernel⟩
theorem ka_q_ml_X6_121 : Cond.methodLink RX6 121 yX3_ownedBy ∈ ka_T := List.mem_filter.mpr ⟨List.mem_of_getElem? (i := 638) (by decide +kernel), by decide +kernel⟩
theorem ka_q_im_X3_ownedBy : Cond.instanceMethod yX3_ownedBy ∈ ka_T := List.mem_filter.mpr ⟨List.mem_of_getElem? (i := 639) (by decide +kernel), by decide +kernel⟩
theorem ka_q_se_X3_ownedBy : Cond.selects RX3 yX3_ownedBy yX3_ownedBy ∈ ka_T := List.mem_filter.mpr ⟨List.mem_of_getElem? (i := 640) (by decide +kernel), by decide +kernel⟩
theorem ka_q_co_X3_ownedBy : Cond.code yX3_ownedBy prog_5_method_46_code 2 (some FieldType.int) ∈ ka_T := List.mem_filter.mpr ⟨List.mem_of_getElem? (i := 641) (by decide +kernel), by decide +kernel⟩
theorem ka_q_ml_X3_293 : Cond.methodLink RX3 293 yJ6_bitCount_0f7a4 ∈ ka_T := List.mem_filter.mpr ⟨List.mem_of_getElem? (i := 642) (by decide +kernel), by decide +kernel⟩
theorem ka_q_st_J6_bitCount_0f7a4 : Cond.static yJ6_bitCount_0f7a4 ∈ ka_T := List.mem_filter.mpr ⟨List.mem_of_getElem? (i := 643) (by decide +kernel), by decide +kernel⟩
theorem ka_q_co_J6_bitCount_0f7a4 : Cond.code yJ6_bitCount_0f7a4 prog_11_method_49_code 1 (some FieldType.int) ∈ ka_T := List.mem_filter.mpr ⟨List.mem_of_getElem? (i := 644) (by decide +kernel), by decide +kernel⟩
theorem ka_q_cn_J6_265 : Cond.constant RJ6 265 1431655765 ∈ ka_T := List.mem_filter.mpr ⟨List.mem_of_getElem? (i := 645) (by decide +kernel), by decide +kernel⟩
theorem ka_q_cn_J6_266 : Cond.constant RJ6 266 858993459 ∈ ka_T := List.mem_filter.mpr ⟨List.mem_of_getElem? (i := 646) (by decide +kernel), by decide +kernel⟩
theorem ka_q_cn_J6_267 : Cond.constant RJ6 267 252645135 ∈ ka_T := List.mem_filter.mpr ⟨List.mem_of_getElem? (i := 647) (by decide +kernel), by decide +kernel⟩
theorem ka_q_ml_X6_124 : Cond.methodLink RX6 124 yX3_loadedOf ∈ ka_T := List.mem_filter.mpr ⟨List.mem_of_getElem? (i := 648) (by decide +kernel), by decide +kernel⟩
theorem ka_q_im_X3_loadedOf : Cond.instanceMethod yX3_loadedOf ∈ ka_T := List.mem_filter.mpr ⟨List.mem_of_getElem? (i := 649) (by decide +kernel), by decide +kernel⟩
theorem ka_q_se_X3_loadedOf : Cond.selects RX3 yX3_loadedOf yX3_loadedOf ∈ ka_T := List.mem_filter.mpr ⟨List.mem_of_getElem? (i := 650) (by decide +kernel), by decide +kernel⟩
theorem ka_q_co_X3_loadedOf : Cond.code yX3_loadedOf prog_5_method_47_code 5 (some FieldType.int) ∈ ka_T := List.mem_filter.mpr ⟨List.mem_of_getElem? (i := 651) (by decide +kernel), by decide +kernel⟩
theorem ka_q_ml_X6_127 : Cond.methodLink RX6 127 yX6_bitsOfShare ∈ ka_T := List.mem_filter.mpr ⟨List.mem_of_getElem? (i := 652) (by decide +kernel), by decide +kernel⟩
theorem ka_q_st_X6_bitsOfShare : Cond.static yX6_bitsOfShare ∈ ka_T := List.mem_filter.mpr ⟨List.mem_of_getElem? (i := 653) (by decide +kernel), by decide +kernel⟩
theorem ka_q_co_X6_bitsOfShare : Cond.code yX6_bitsOfShare prog_1_method_27_code 4 (some FieldType.int) ∈ ka_T := List.mem_filter.mpr ⟨List.mem_of_getElem? (i := 654) (by decide +kernel), by decide +kernel⟩
theorem ka_q_cf_X6_175 : Cond.constantFloat RX6 175 1258291200 ∈ ka_T := List.mem_filter.mpr ⟨List.mem_of_getElem? (i := 655) (by decide +kernel), by decide +kernel⟩
theorem ka_q_cn_X6_176 : Cond.constant RX6 176 8388608 ∈ ka_T := List.mem_filter.mpr ⟨List.mem_of_getElem? (i := 656) (by decide +kernel), by decide +kernel⟩
theorem ka_q_ml_L_81 : Cond.methodLink RL 81 yX6_count ∈ ka_T := List.mem_filter.mpr ⟨List.mem_of_getElem? (i := 657) (by decide +kernel), by decide +kernel⟩
theorem ka_q_im_X6_count : Cond.instanceMethod yX6_count ∈ ka_T := List.mem_filter.mpr ⟨List.mem_of_getElem? (i := 658) (by decide +kernel), by decide +kernel⟩
theorem ka_q_se_X6_count : Cond.selects RX6 yX6_count yX6_count ∈ ka_T := List.mem_filter.mpr ⟨List.mem_of_getElem? (i := 659) (by decide +kernel), by decide +kernel⟩
theorem ka_q_co_X6_count : Cond.code yX6_count prog_1_method_18_code 2 (some FieldType.int) ∈ ka_T := List.mem_filter.mpr ⟨List.mem_of_getElem? (i := 660) (by decide +kernel), by decide +kernel⟩
theorem ka_q_ml_X6_131 : Cond.methodLink RX6 131 yX0_size ∈ ka_T := List.mem_filter.mpr ⟨List.mem_of_getElem? (i := 661) (by decide +kernel), by decide +kernel⟩
theorem ka_q_im_X0_size : Cond.instanceMethod yX0_size ∈ ka_T := List.mem_filter.mpr ⟨List.mem_of_getElem? (i := 662) (by decide +kernel), by decide +kernel⟩
theorem ka_q_se_X0_size : Cond.selects RX0 yX0_size yX0_size ∈ ka_T := List.mem_filter.mpr ⟨List.mem_of_getElem? (i := 663) (by decide +kernel), by decide +kernel⟩
theorem ka_q_co_X0_size : Cond.code yX0_size prog_2_method_2_code 1 (some FieldType.int) ∈ ka_T := List.mem_filter.mpr ⟨List.mem_of_getElem? (i := 664) (by decide +kernel), by decide +kernel⟩
theorem ka_q_ml_X6_134 : Cond.methodLink RX6 134 yX1_length ∈ ka_T := List.mem_filter.mpr ⟨List.mem_of_getElem? (i := 665) (by decide +kernel), by decide +kernel⟩
theorem ka_q_im_X1_length : Cond.instanceMethod yX1_length ∈ ka_T := List.mem_filter.mpr ⟨List.mem_of_getElem? (i := 666) (by decide +kernel), by decide +kernel⟩
theorem ka_q_se_X1_length : Cond.selects RX1 yX1_length yX1_length ∈ ka_T := List.mem_filter.mpr ⟨List.mem_of_getElem? (i := 667) (by decide +kernel), by decide +kernel⟩
theorem ka_q_co_X1_length : Cond.code yX1_length prog_3_method_2_code 1 (some FieldType.int) ∈ ka_T := List.mem_filter.mpr ⟨List.mem_of_getElem? (i := 668) (by decide +kernel), by decide +kernel⟩
theorem ka_q_ml_X6_137 : Cond.methodLink RX6 137 yX3_tellNumber ∈ ka_T := List.mem_filter.mpr ⟨List.mem_of_getElem? (i := 669) (by decide +kernel), by decide +kernel⟩
theorem ka_q_im_X3_tellNumber : Cond.instanceMethod yX3_tellNumber ∈ ka_T := List.mem_filter.mpr ⟨List.mem_of_getElem? (i := 670) (by decide +kernel), by decide +kernel⟩
theorem ka_q_se_X3_tellNumber : Cond.selects RX3 yX3_tellNumber yX3_tellNumber ∈ ka_T := List.mem_filter.mpr ⟨List.mem_of_getElem? (i := 671) (by decide +kernel), by decide +kernel⟩
theorem ka_q_co_X3_tellNumber : Cond.code yX3_tellNumber prog_5_method_35_code 2 (some FieldType.int) ∈ ka_T := List.mem_filter.mpr ⟨List.mem_of_getElem? (i := 672) (by decide +kernel), by decide +kernel⟩
theorem ka_q_ml_X3_258 : Cond.methodLink RX3 258 yX3_countStanding ∈ ka_T := List.mem_filter.mpr ⟨List.mem_of_getElem? (i := 673) (by decide +kernel), by decide +kernel⟩
theorem ka_q_im_X3_countStanding : Cond.instanceMethod yX3_countStanding ∈ ka_T := List.mem_filter.mpr ⟨List.mem_of_getElem? (i := 675) (by decide +kernel), by decide +kernel⟩
theorem ka_q_co_X3_countStanding : Cond.code yX3_countStanding prog_5_method_36_code 5 (some FieldType.int) ∈ ka_T := List.mem_filter.mpr ⟨List.mem_of_getElem? (i := 676) (by decide +kernel), by decide +kernel⟩
theorem ka_q_ml_X3_261 : Cond.methodLink RX3 261 yX3_countOnTheWay ∈ ka_T := List.mem_filter.mpr ⟨List.mem_of_getElem? (i := 677) (by decide +kernel), by decide +kernel⟩
theorem ka_q_im_X3_countOnTheWay : Cond.instanceMethod yX3_countOnTheWay ∈ ka_T := List.mem_filter.mpr ⟨List.mem_of_getElem? (i := 679) (by decide +kernel), by decide +kernel⟩
theorem ka_q_co_X3_countOnTheWay : Cond.code yX3_countOnTheWay prog_5_method_37_code 3 (some FieldType.int) ∈ ka_T := List.mem_filter.mpr ⟨List.mem_of_getElem? (i := 680) (by decide +kernel), by decide +kernel⟩
theorem ka_q_ml_X3_264 : Cond.methodLink RX3 264 yX3_allAccounts ∈ ka_T := List.mem_filter.mpr ⟨List.mem_of_getElem? (i := 681) (by decide +kernel), by decide +kernel⟩
theorem ka_q_im_X3_allAccounts : Cond.instanceMethod yX3_allAccounts ∈ ka_T := List.mem_filter.mpr ⟨List.mem_of_getElem? (i := 683) (by decide +kernel), by decide +kernel⟩
theorem ka_q_co_X3_allAccounts : Cond.code yX3_allAccounts prog_5_method_39_code 3 (some FieldType.int) ∈ ka_T := List.mem_filter.mpr ⟨List.mem_of_getElem? (i := 684) (by decide +kernel), by decide +kernel⟩
theorem ka_q_ml_X3_273 : Cond.methodLink RX3 273 yX3_accountOf ∈ ka_T := List.mem_filter.mpr ⟨List.mem_of_getElem? (i := 685) (by decide +kernel), by decide +kernel⟩
theorem ka_q_ml_X3_267 : Cond.methodLink RX3 267 yX3_allTonnes ∈ ka_T := List.mem_filter.mpr ⟨List.mem_of_getElem? (i := 686) (by decide +kernel), by decide +kernel⟩
theorem ka_q_im_X3_allTonnes : Cond.instanceMethod yX3_allTonnes ∈ ka_T := List.mem_filter.mpr ⟨List.mem_of_getElem? (i := 688) (by decide +kernel), by decide +kernel⟩
theorem ka_q_co_X3_allTonnes : Cond.code yX3_allTonnes prog_5_method_40_code 3 (some FieldType.int) ∈ ka_T := List.mem_filter.mpr ⟨List.mem_of_getElem? (i := 689) (by decide +kernel), by decide +kernel⟩
theorem ka_q_ml_X3_270 : Cond.methodLink RX3 270 yX3_countDue ∈ ka_T := List.mem_filter.mpr ⟨List.mem_of_getElem? (i := 690) (by decide +kernel), by decide +kernel⟩
theorem ka_q_im_X3_countDue : Cond.instanceMethod yX3_countDue ∈ ka_T := List.mem_filter.mpr ⟨List.mem_of_getElem? (i := 692) (by decide +kernel), by decide +kernel⟩
theorem ka_q_co_X3_countDue : Cond.code yX3_countDue prog_5_method_38_code 3 (some FieldType.int) ∈ ka_T := List.mem_filter.mpr ⟨List.mem_of_getElem? (i := 693) (by decide +kernel), by decide +kernel⟩
theorem ka_q_ml_L_85 : Cond.methodLink RL 85 yX6_undo ∈ ka_T := List.mem_filter.mpr ⟨List.mem_of_getElem? (i := 694) (by decide +kernel), by decide +kernel⟩
theorem ka_q_im_X6_undo : Cond.instanceMethod yX6_undo ∈ ka_T := List.mem_filter.mpr ⟨List.mem_of_getElem? (i := 695) (by decide +kernel), by decide +kernel⟩
theorem ka_q_se_X6_undo : Cond.selects RX6 yX6_undo yX6_undo ∈ ka_T := List.mem_filter.mpr ⟨List.mem_of_getElem? (i := 696) (by decide +kernel), by decide +kernel⟩
theorem ka_q_co_X6_undo : Cond.code yX6_undo prog_1_method_19_code 1 (some FieldType.int) ∈ ka_T := List.mem_filter.mpr ⟨List.mem_of_getElem? (i := 697) (by decide +kernel), by decide +kernel⟩
theorem ka_q_cn_X6_140 : Cond.constant RX6 140 (-2000000002) ∈ ka_T := List.mem_filter.mpr ⟨List.mem_of_getElem? (i := 698) (by decide +kernel), by decide +kernel⟩
theorem ka_q_ml_X6_141 : Cond.methodLink RX6 141 yX0_takeLatest ∈ ka_T := List.mem_filter.mpr ⟨List.mem_of_getElem? (i := 699) (by decide +kernel), by decide +kernel⟩
theorem ka_q_im_X0_takeLatest : Cond.instanceMethod yX0_takeLatest ∈ ka_T := List.mem_filter.mpr ⟨List.mem_of_getElem? (i := 700) (by decide +kernel), by decide +kernel⟩
theorem ka_q_se_X0_takeLatest : Cond.selects RX0 yX0_takeLatest yX0_takeLatest ∈ ka_T := List.mem_filter.mpr ⟨List.mem_of_getElem? (i := 701) (by decide +kernel), by decide +kernel⟩
theorem ka_q_co_X0_takeLatest : Cond.code yX0_takeLatest prog_2_method_5_code 2 none ∈ ka_T := List.mem_filter.mpr ⟨List.mem_of_getElem? (i := 702) (by decide +kernel), by decide +kernel⟩
theorem ka_q_ml_L_90 : Cond.methodLink RL 90 yX6_type ∈ ka_T := List.mem_filter.mpr ⟨List.mem_of_getElem? (i := 703) (by decide +kernel), by decide +kernel⟩
theorem ka_q_im_X6_type : Cond.instanceMethod yX6_type ∈ ka_T := List.mem_filter.mpr ⟨List.mem_of_getElem? (i := 704) (by decide +kernel), by decide +kernel⟩
theorem ka_q_se_X6_type : Cond.selects RX6 yX6_type yX6_type ∈ ka_T := List.mem_filter.mpr ⟨List.mem_of_getElem? (i := 705) (by decide +kernel), by decide +kernel⟩
theorem ka_q_co_X6_type : Cond.code yX6_type prog_1_method_20_code 2 (some FieldType.int) ∈ ka_T := List.mem_filter.mpr ⟨List.mem_of_getElem? (i := 706) (by decide +kernel), by decide +kernel⟩
theorem ka_q_ml_X6_144 : Cond.methodLink RX6 144 yX1_append ∈ ka_T := List.mem_filter.mpr ⟨List.mem_of_getElem? (i := 707) (by decide +kernel), by decide +kernel⟩
theorem ka_q_im_X1_append : Cond.instanceMethod yX1_append ∈ ka_T := List.mem_filter.mpr ⟨List.mem_of_getElem? (i := 708) (by decide +kernel), by decide +kernel⟩
theorem ka_q_se_X1_append : Cond.selects RX1 yX1_append yX1_append ∈ ka_T := List.mem_filter.mpr ⟨List.mem_of_getElem? (i := 709) (by decide +kernel), by decide +kernel⟩
theorem ka_q_co_X1_append : Cond.code yX1_append prog_3_method_8_code 2 (some FieldType.int) ∈ ka_T := List.mem_filter.mpr ⟨List.mem_of_getElem? (i := 710) (by decide +kernel), by decide +kernel⟩
theorem ka_q_cn_X1_38 : Cond.constant RX1 38 (-2000000001) ∈ ka_T := List.mem_filter.mpr ⟨List.mem_of_getElem? (i := 712) (by decide +kernel), by decide +kernel⟩
theorem ka_q_cn_X1_39 : Cond.constant RX1 39 (-2000000003) ∈ ka_T := List.mem_filter.mpr ⟨List.mem_of_getElem? (i := 713) (by decide +kernel), by decide +kernel⟩
theorem ka_q_ml_L_94 : Cond.methodLink RL 94 yX6_clearText ∈ ka_T := List.mem_filter.mpr ⟨List.mem_of_getElem? (i := 714) (by decide +kernel), by decide +kernel⟩
theorem ka_q_im_X6_clearText : Cond.instanceMethod yX6_clearText ∈ ka_T := List.mem_filter.mpr ⟨List.mem_of_getElem? (i := 715) (by decide +kernel), by decide +kernel⟩
theorem ka_q_se_X6_clearText : Cond.selects RX6 yX6_clearText yX6_clearText ∈ ka_T := List.mem_filter.mpr ⟨List.mem_of_getElem? (i := 716) (by decide +kernel), by decide +kernel⟩
theorem ka_q_co_X6_clearText : Cond.code yX6_clearText prog_1_method_21_code 1 (some FieldType.int) ∈ ka_T := List.mem_filter.mpr ⟨List.mem_of_getElem? (i := 717) (by decide +kernel), by decide +kernel⟩
theorem ka_q_ml_X6_147 : Cond.methodLink RX6 147 yX1_clear ∈ ka_T := List.mem_filter.mpr ⟨List.mem_of_getElem? (i := 718) (by decide +kernel), by decide +kernel⟩
theorem ka_q_im_X1_clear : Cond.instanceMethod yX1_clear ∈ ka_T := List.mem_filter.mpr ⟨List.mem_of_getElem? (i := 719) (by decide +kernel), by decide +kernel⟩
theorem ka_q_se_X1_clear : Cond.selects RX1 yX1_clear yX1_clear ∈ ka_T := List.mem_filter.mpr ⟨List.mem_of_getElem? (i := 720) (by decide +kernel), by decide +kernel⟩
theorem ka_q_co_X1_clear : Cond.code yX1_clear prog_3_method_9_code 2 (some FieldType.int) ∈ ka_T := List.mem_filter.mpr ⟨List.mem_of_getElem? (i := 721) (by decide +kernel), by decide +kernel⟩
theorem ka_q_ml_L_98 : Cond.methodLink RL 98 yX6_fault ∈ ka_T := List.mem_filter.mpr ⟨List.mem_of_getElem? (i := 722) (by decide +kernel), by decide +kernel⟩
theorem ka_q_im_X6_fault : Cond.instanceMethod yX6_fault ∈ ka_T := List.mem_filter.mpr ⟨List.mem_of_getElem? (i := 723) (by decide +kernel), by decide +kernel⟩
theorem ka_q_se_X6_fault : Cond.selects RX6 yX6_fault yX6_fault ∈ ka_T := List.mem_filter.mpr ⟨List.mem_of_getElem? (i := 724) (by decide +kernel), by decide +kernel⟩
theorem ka_q_co_X6_fault : Cond.code yX6_fault prog_1_method_22_code 2 (some FieldType.int) ∈ ka_T := List.mem_filter.mpr ⟨List.mem_of_getElem? (i := 725) (by decide +kernel), by decide +kernel⟩
theorem ka_q_ml_X6_150 : Cond.methodLink RX6 150 yX1_doAll ∈ ka_T := List.mem_filter.mpr ⟨List.mem_of_getElem? (i := 726) (by decide +kernel), by decide +kernel⟩
theorem ka_q_im_X1_doAll : Cond.instanceMethod yX1_doAll ∈ ka_T := List.mem_filter.mpr ⟨List.mem_of_getElem? (i := 727) (by decide +kernel), by decide +kernel⟩
theorem ka_q_se_X1_doAll : Cond.selects RX1 yX1_doAll yX1_doAll ∈ ka_T := List.mem_filter.mpr ⟨List.mem_of_getElem? (i := 728) (by decide +kernel), by decide +kernel⟩
theorem ka_q_co_X1_doAll : Cond.code yX1_doAll prog_3_method_10_code 5 none ∈ ka_T := List.mem_filter.mpr ⟨List.mem_of_getElem? (i := 729) (by decide +kernel), by decide +kernel⟩
theorem ka_q_ml_X1_43 : Cond.methodLink RX1 43 yX1_hasFault ∈ ka_T := List.mem_filter.mpr ⟨List.mem_of_getElem? (i := 730) (by decide +kernel), by decide +kernel⟩
theorem ka_q_im_X1_hasFault : Cond.instanceMethod yX1_hasFault ∈ ka_T := List.mem_filter.mpr ⟨List.mem_of_getElem? (i := 731) (by decide +kernel), by decide +kernel⟩
theorem ka_q_se_X1_hasFault : Cond.selects RX1 yX1_hasFault yX1_hasFault ∈ ka_T := List.mem_filter.mpr ⟨List.mem_of_getElem? (i := 732) (by decide +kernel), by decide +kernel⟩
theorem ka_q_co_X1_hasFault : Cond.code yX1_hasFault prog_3_method_4_code 1 (some FieldType.boolean) ∈ ka_T := List.mem_filter.mpr ⟨List.mem_of_getElem? (i := 733) (by decide +kernel), by decide +kernel⟩
theorem ka_q_ml_X1_47 : Cond.methodLink RX1 47 yX1_readOrder ∈ ka_T := List.mem_filter.mpr ⟨List.mem_of_getElem? (i := 734) (by decide +kernel), by decide +kernel⟩
theorem ka_q_im_X1_readOrder : Cond.instanceMethod yX1_readOrder ∈ ka_T := List.mem_filter.mpr ⟨List.mem_of_getElem? (i := 736) (by decide +kernel), by decide +kernel⟩
theorem ka_q_co_X1_readOrder : Cond.code yX1_readOrder prog_3_method_13_code 3 (some FieldType.boolean) ∈ ka_T := List.mem_filter.mpr ⟨List.mem_of_getElem? (i := 737) (by decide +kernel), by decide +kernel⟩
theorem ka_q_ml_X1_87 : Cond.methodLink RX1 87 yX1_signAt ∈ ka_T := List.mem_filter.mpr ⟨List.mem_of_getElem? (i := 738) (by decide +kernel), by decide +kernel⟩
theorem ka_q_im_X1_signAt : Cond.instanceMethod yX1_signAt ∈ ka_T := List.mem_filter.mpr ⟨List.mem_of_getElem? (i := 740) (by decide +kernel), by decide +kernel⟩
theorem ka_q_co_X1_signAt : Cond.code yX1_signAt prog_3_method_17_code 2 (some FieldType.int) ∈ ka_T := List.mem_filter.mpr ⟨List.mem_of_getElem? (i := 741) (by decide +kernel), by decide +kernel⟩
theorem ka_q_ml_X1_90 : Cond.methodLink RX1 90 yX1_numbersOf ∈ ka_T := List.mem_filter.mpr ⟨List.mem_of_getElem? (i := 742) (by decide +kernel), by decide +kernel⟩
theorem ka_q_st_X1_numbersOf : Cond.static yX1_numbersOf ∈ ka_T := List.mem_filter.mpr ⟨List.mem_of_getElem? (i := 743) (by decide +kernel), by decide +kernel⟩
theorem ka_q_co_X1_numbersOf : Cond.code yX1_numbersOf prog_3_method_14_code 1 (some FieldType.int) ∈ ka_T := List.mem_filter.mpr ⟨List.mem_of_getElem? (i := 744) (by decide +kernel), by decide +kernel⟩
theorem ka_q_ml_X1_93 : Cond.methodLink RX1 93 yX1_readSign ∈ ka_T := List.mem_filter.mpr ⟨List.mem_of_getElem? (i := 745) (by decide +kernel), by decide +kernel⟩
theorem ka_q_im_X1_readSign : Cond.instanceMethod yX1_readSign ∈ ka_T := List.mem_filter.mpr ⟨List.mem_of_getElem? (i := 747) (by decide +kernel), by decide +kernel⟩
theorem ka_q_co_X1_readSign : Cond.code yX1_readSign prog_3_method_15_code 2 (some FieldType.boolean) ∈ ka_T := List.mem_filter.mpr ⟨List.mem_of_getElem? (i := 748) (by decide +kernel), by decide +kernel⟩
theorem ka_q_ml_X1_96 : Cond.methodLink RX1 96 yX1_readNumber ∈ ka_T := List.mem_filter.mpr ⟨List.mem_of_getElem? (i := 749) (by decide +kernel), by decide +kernel⟩
theorem ka_q_im_X1_readNumber : Cond.instanceMethod yX1_readNumber ∈ ka_T := List.mem_filter.mpr ⟨List.mem_of_getElem? (i := 751) (by decide +kernel), by decide +kernel⟩
theorem ka_q_co_X1_readNumber : Cond.code yX1_readNumber prog_3_method_16_code 3 (some FieldType.boolean) ∈ ka_T := List.mem_filter.mpr ⟨List.mem_of_getElem? (i := 752) (by decide +kernel), by decide +kernel⟩
theorem ka_q_ml_X1_99 : Cond.methodLink RX1 99 yX1_isDigit ∈ ka_T := List.mem_filter.mpr ⟨List.mem_of_getElem? (i := 753) (by decide +kernel), by decide +kernel⟩
theorem ka_q_st_X1_isDigit : Cond.static yX1_isDigit ∈ ka_T := List.mem_filter.mpr ⟨List.mem_of_getElem? (i := 754) (by decide +kernel), by decide +kernel⟩
theorem ka_q_co_X1_isDigit : Cond.code yX1_isDigit prog_3_method_18_code 1 (some FieldType.boolean) ∈ ka_T := List.mem_filter.mpr ⟨List.mem_of_getElem? (i := 755) (by decide +kernel), by decide +kernel⟩
theorem ka_q_ml_X1_50 : Cond.methodLink RX1 50 yX1_blame ∈ ka_T := List.mem_filter.mpr ⟨List.mem_of_getElem? (i := 756) (by decide +kernel), by decide +kernel⟩
theorem ka_q_im_X1_blame : Cond.instanceMethod yX1_blame ∈ ka_T := List.mem_filter.mpr ⟨List.mem_of_getElem? (i := 758) (by decide +kernel), by decide +kernel⟩
theorem ka_q_co_X1_blame : Cond.code yX1_blame prog_3_method_11_code 4 none ∈ ka_T := List.mem_filter.mpr ⟨List.mem_of_getElem? (i := 759) (by decide +kernel), by decide +kernel⟩
theorem ka_q_ml_X1_54 : Cond.methodLink RX1 54 yX1_doOrder ∈ ka_T := List.mem_filter.mpr ⟨List.mem_of_getElem? (i := 760) (by decide +kernel), by decide +kernel⟩
theorem ka_q_im_X1_doOrder : Cond.instanceMethod yX1_doOrder ∈ ka_T := List.mem_filter.mpr ⟨List.mem_of_getElem? (i := 762) (by decide +kernel), by decide +kernel⟩
theorem ka_q_co_X1_doOrder : Cond.code yX1_doOrder prog_3_method_12_code 2 (some FieldType.int) ∈ ka_T := List.mem_filter.mpr ⟨List.mem_of_getElem? (i := 763) (by decide +kernel), by decide +kernel⟩
theorem ka_q_ml_X1_65 : Cond.methodLink RX1 65 yX3_addWagon ∈ ka_T := List.mem_filter.mpr ⟨List.mem_of_getElem? (i := 764) (by decide +kernel), by decide +kernel⟩
theorem ka_q_ml_X1_71 : Cond.methodLink RX1 71 yX3_loadWagon ∈ ka_T := List.mem_filter.mpr ⟨List.mem_of_getElem? (i := 765) (by decide +kernel), by decide +kernel⟩
theorem ka_q_ml_X1_74 : Cond.methodLink RX1 74 yX3_unloadWagon ∈ ka_T := List.mem_filter.mpr ⟨List.mem_of_getElem? (i := 766) (by decide +kernel), by decide +kernel⟩
theorem ka_q_ml_X1_77 : Cond.methodLink RX1 77 yX3_repairWagon ∈ ka_T := List.mem_filter.mpr ⟨List.mem_of_getElem? (i := 767) (by decide +kernel), by decide +kernel⟩
theorem ka_q_ml_X1_80 : Cond.methodLink RX1 80 yX3_sendTrain ∈ ka_T := List.mem_filter.mpr ⟨List.mem_of_getElem? (i := 768) (by decide +kernel), by decide +kernel⟩
theorem ka_q_ml_X1_84 : Cond.methodLink RX1 84 yX3_passDays ∈ ka_T := List.mem_filter.mpr ⟨List.mem_of_getElem? (i := 769) (by decide +kernel), by decide +kernel⟩
theorem ka_q_ml_X6_153 : Cond.methodLink RX6 153 yX1_hasFault ∈ ka_T := List.mem_filter.mpr ⟨List.mem_of_getElem? (i := 771) (by decide +kernel), by decide +kernel⟩
theorem ka_q_ml_X6_157 : Cond.methodLink RX6 157 yX1_position ∈ ka_T := List.mem_filter.mpr ⟨List.mem_of_getElem? (i := 772) (by decide +kernel), by decide +kernel⟩
theorem ka_q_im_X1_position : Cond.instanceMethod yX1_position ∈ ka_T := List.mem_filter.mpr ⟨List.mem_of_getElem? (i := 773) (by decide +kernel), by decide +kernel⟩
theorem ka_q_se_X1_position : Cond.selects RX1 yX1_position yX1_position ∈ ka_T := List.mem_filter.mpr ⟨List.mem_of_getElem? (i := 774) (by decide +kernel), by decide +kernel⟩
theorem ka_q_co_X1_position : Cond.code yX1_position prog_3_method_5_code 1 (some FieldType.int) ∈ ka_T := List.mem_filter.mpr ⟨List.mem_of_getElem? (i := 775) (by decide +kernel), by decide +kernel⟩
theorem ka_q_ml_X6_160 : Cond.methodLink RX6 160 yX1_reason ∈ ka_T := List.mem_filter.mpr ⟨List.mem_of_getElem? (i := 776) (by decide +kernel), by decide +kernel⟩
theorem ka_q_im_X1_reason : Cond.instanceMethod yX1_reason ∈ ka_T := List.mem_filter.mpr ⟨List.mem_of_getElem? (i := 777) (by decide +kernel), by decide +kernel⟩
theorem ka_q_se_X1_reason : Cond.selects RX1 yX1_reason yX1_reason ∈ ka_T := List.mem_filter.mpr ⟨List.mem_of_getElem? (i := 778) (by decide +kernel), by decide +kernel⟩
theorem ka_q_co_X1_reason : Cond.code yX1_reason prog_3_method_6_code 1 (some FieldType.int) ∈ ka_T := List.mem_filter.mpr ⟨List.mem_of_getElem? (i := 779) (by decide +kernel), by decide +kernel⟩
theorem ka_q_ml_X6_163 : Cond.methodLink RX6 163 yX1_cause ∈ ka_T := List.mem_filter.mpr ⟨List.mem_of_getElem? (i := 780) (by decide +kernel), by decide +kernel⟩
theorem ka_q_im_X1_cause : Cond.instanceMethod yX1_cause ∈ ka_T := List.mem_filter.mpr ⟨List.mem_of_getElem? (i := 781) (by decide +kernel), by decide +kernel⟩
theorem ka_q_se_X1_cause : Cond.selects RX1 yX1_cause yX1_cause ∈ ka_T := List.mem_filter.mpr ⟨List.mem_of_getElem? (i := 782) (by decide +kernel), by decide +kernel⟩
theorem ka_q_co_X1_cause : Cond.code yX1_cause prog_3_method_7_code 1 (some FieldType.int) ∈ ka_T := List.mem_filter.mpr ⟨List.mem_of_getElem? (i := 783) (by decide +kernel), by decide +kernel⟩
theorem ka_q_ml_L_102 : Cond.methodLink RL 102 yX6_play ∈ ka_T := List.mem_filter.mpr ⟨List.mem_of_getElem? (i := 784) (by decide +kernel), by decide +kernel⟩
theorem ka_q_im_X6_play : Cond.instanceMethod yX6_play ∈ ka_T := List.mem_filter.mpr ⟨List.mem_of_getElem? (i := 785) (by decide +kernel), by decide +kernel⟩
theorem ka_q_se_X6_play : Cond.selects RX6 yX6_play yX6_play ∈ ka_T := List.mem_filter.mpr ⟨List.mem_of_getElem? (i := 786) (by decide +kernel), by decide +kernel⟩
theorem ka_q_co_X6_play : Cond.code yX6_play prog_1_method_23_code 1 (some FieldType.int) ∈ ka_T := List.mem_filter.mpr ⟨List.mem_of_getElem? (i := 787) (by decide +kernel), by decide +kernel⟩
theorem ka_q_ml_X6_166 : Cond.methodLink RX6 166 yX1_orders ∈ ka_T := List.mem_filter.mpr ⟨List.mem_of_getElem? (i := 788) (by decide +kernel), by decide +kernel⟩
theorem ka_q_im_X1_orders : Cond.instanceMethod yX1_orders ∈ ka_T := List.mem_filter.mpr ⟨List.mem_of_getElem? (i := 789) (by decide +kernel), by decide +kernel⟩
theorem ka_q_se_X1_orders : Cond.selects RX1 yX1_orders yX1_orders ∈ ka_T := List.mem_filter.mpr ⟨List.mem_of_getElem? (i := 790) (by decide +kernel), by decide +kernel⟩
theorem ka_q_co_X1_orders : Cond.code yX1_orders prog_3_method_3_code 1 (some FieldType.int) ∈ ka_T := List.mem_filter.mpr ⟨List.mem_of_getElem? (i := 791) (by decide +kernel), by decide +kernel⟩
theorem ka_q_cl_L_10 : Cond.classLink RL 10 RX7 ∈ ka_T := List.mem_filter.mpr ⟨List.mem_of_getElem? (i := 792) (by decide +kernel), by decide +kernel⟩
theorem ka_q_it_X7 : Cond.instantiable RX7 13 ∈ ka_T := List.mem_filter.mpr ⟨List.mem_of_getElem? (i := 793) (by decide +kernel), by decide +kernel⟩
theorem ka_q_ml_L_12 : Cond.methodLink RL 12 yX7_init ∈ ka_T := List.mem_filter.mpr ⟨List.mem_of_getElem? (i := 794) (by decide +kernel), by decide +kernel⟩
theorem ka_q_im_X7_init : Cond.instanceMethod yX7_init ∈ ka_T := List.mem_filter.mpr ⟨List.mem_of_getElem? (i := 795) (by decide +kernel), by decide +kernel⟩
theorem ka_q_co_X7_init : Cond.code yX7_init prog_9_method_1_code 2 none ∈ ka_T := List.mem_filter.mpr ⟨List.mem_of_getElem? (i := 796) (by decide +kernel), by decide +kernel⟩
theorem ka_q_ml_X7_1 : Cond.methodLink RX7 1 objectInit ∈ ka_T := List.mem_filter.mpr ⟨List.mem_of_getElem? (i := 797) (by decide +kernel), by decide +kernel⟩
theorem ka_q_fl_X7_7 : Cond.fieldLink RX7 7 RX7 "s" "[I" ∈ ka_T := List.mem_filter.mpr ⟨List.mem_of_getElem? (i := 798) (by decide +kernel), by decide +kernel⟩
theorem ka_q_fl_X7_13 : Cond.fieldLink RX7 13 RX7 "begun" "[I" ∈ ka_T := List.mem_filter.mpr ⟨List.mem_of_getElem? (i := 799) (by decide +kernel), by decide +kernel⟩
theorem ka_q_fl_X7_16 : Cond.fieldLink RX7 16 RX7 "aside" "[I" ∈ ka_T := List.mem_filter.mpr ⟨List.mem_of_getElem? (i := 800) (by decide +kernel), by decide +kernel⟩
theorem ka_q_fl_X7_19 : Cond.fieldLink RX7 19 RX7 "past" "[I" ∈ ka_T := List.mem_filter.mpr ⟨List.mem_of_getElem? (i := 801) (by decide +kernel), by decide +kernel⟩
theorem ka_q_fl_X7_32 : Cond.fieldLink RX7 32 RX7 "states" "I" ∈ ka_T := List.mem_filter.mpr ⟨List.mem_of_getElem? (i := 802) (by decide +kernel), by decide +kernel⟩
theorem ka_q_fl_X7_22 : Cond.fieldLink RX7 22 RX7 "text" "[I" ∈ ka_T := List.mem_filter.mpr ⟨List.mem_of_getElem? (i := 803) (by decide +kernel), by decide +kernel⟩
theorem ka_q_fl_X7_172 : Cond.fieldLink RX7 172 RX7 "length" "I" ∈ ka_T := List.mem_filter.mpr ⟨List.mem_of_getElem? (i := 804) (by decide +kernel), by decide +kernel⟩
theorem ka_q_fl_X7_175 : Cond.fieldLink RX7 175 RX7 "at" "I" ∈ ka_T := List.mem_filter.mpr ⟨List.mem_of_getElem? (i := 805) (by decide +kernel), by decide +kernel⟩
theorem ka_q_fl_X7_192 : Cond.fieldLink RX7 192 RX7 "from" "I" ∈ ka_T := List.mem_filter.mpr ⟨List.mem_of_getElem? (i := 806) (by decide +kernel), by decide +kernel⟩
theorem ka_q_fl_X7_189 : Cond.fieldLink RX7 189 RX7 "done" "I" ∈ ka_T := List.mem_filter.mpr ⟨List.mem_of_getElem? (i := 807) (by decide +kernel), by decide +kernel⟩
theorem ka_q_fl_X7_207 : Cond.fieldLink RX7 207 RX7 "told" "I" ∈ ka_T := List.mem_filter.mpr ⟨List.mem_of_getElem? (i := 808) (by decide +kernel), by decide +kernel⟩
theorem ka_q_fl_X7_181 : Cond.fieldLink RX7 181 RX7 "isForm" "Z" ∈ ka_T := List.mem_filter.mpr ⟨List.mem_of_getElem? (i := 809) (by decide +kernel), by decide +kernel⟩
theorem ka_q_fl_X7_25 : Cond.fieldLink RX7 25 RX7 "numbers" "[I" ∈ ka_T := List.mem_filter.mpr ⟨List.mem_of_getElem? (i := 810) (by decide +kernel), by decide +kernel⟩
theorem ka_q_ml_L_17 : Cond.methodLink RL 17 yX7_mine ∈ ka_T := List.mem_filter.mpr ⟨List.mem_of_getElem? (i := 838) (by decide +kernel), by decide +kernel⟩
theorem ka_q_im_X7_mine : Cond.instanceMethod yX7_mine ∈ ka_T := List.mem_filter.mpr ⟨List.mem_of_getElem? (i := 839) (by decide +kernel), by decide +kernel⟩
theorem ka_q_se_X7_mine : Cond.selects RX7 yX7_mine yX7_mine ∈ ka_T := List.mem_filter.mpr ⟨List.mem_of_getElem? (i := 840) (by decide +kernel), by decide +kernel⟩
theorem ka_q_co_X7_mine : Cond.code yX7_mine prog_9_method_31_code 2 (some FieldType.int) ∈ ka_T := List.mem_filter.mpr ⟨List.mem_of_getElem? (i := 841) (by decide +kernel), by decide +kernel⟩
theorem ka_q_ml_X7_104 : Cond.methodLink RX7 104 yX7_begins ∈ ka_T := List.mem_filter.mpr ⟨List.mem_of_getElem? (i := 842) (by decide +kernel), by decide +kernel⟩
theorem ka_q_im_X7_begins : Cond.instanceMethod yX7_begins ∈ ka_T := List.mem_filter.mpr ⟨List.mem_of_getElem? (i := 844) (by decide +kernel), by decide +kernel⟩
theorem ka_q_co_X7_begins : Cond.code yX7_begins prog_9_method_4_code 2 none ∈ ka_T := List.mem_filter.mpr ⟨List.mem_of_getElem? (i := 845) (by decide +kernel), by decide +kernel⟩
theorem ka_q_ml_X7_36 : Cond.methodLink RX7 36 yX7_in ∈ ka_T := List.mem_filter.mpr ⟨List.mem_of_getElem? (i := 846) (by decide +kernel), by decide +kernel⟩
theorem ka_q_st_X7_in : Cond.static yX7_in ∈ ka_T := List.mem_filter.mpr ⟨List.mem_of_getElem? (i := 847) (by decide +kernel), by decide +kernel⟩
theorem ka_q_co_X7_in : Cond.code yX7_in prog_9_method_3_code 3 (some FieldType.boolean) ∈ ka_T := List.mem_filter.mpr ⟨List.mem_of_getElem? (i := 848) (by decide +kernel), by decide +kernel⟩
theorem ka_q_cn_X7_28 : Cond.constant RX7 28 (-2000000001) ∈ ka_T := List.mem_filter.mpr ⟨List.mem_of_getElem? (i := 849) (by decide +kernel), by decide +kernel⟩
theorem ka_q_cn_X7_85 : Cond.constant RX7 85 (-2000000003) ∈ ka_T := List.mem_filter.mpr ⟨List.mem_of_getElem? (i := 850) (by decide +kernel), by decide +kernel⟩
theorem ka_q_ml_X7_107 : Cond.methodLink RX7 107 yX7_acted ∈ ka_T := List.mem_filter.mpr ⟨List.mem_of_getElem? (i := 851) (by decide +kernel), by decide +kernel⟩
theorem ka_q_im_X7_acted : Cond.instanceMethod yX7_acted ∈ ka_T := List.mem_filter.mpr ⟨List.mem_of_getElem? (i := 853) (by decide +kernel), by decide +kernel⟩
theorem ka_q_co_X7_acted : Cond.code yX7_acted prog_9_method_6_code 3 (some FieldType.int) ∈ ka_T := List.mem_filter.mpr ⟨List.mem_of_getElem? (i := 854) (by decide +kernel), by decide +kernel⟩
theorem ka_q_ml_X7_29 : Cond.methodLink RX7 29 yX7_returns ∈ ka_T := List.mem_filter.mpr ⟨List.mem_of_getElem? (i := 855) (by decide +kernel), by decide +kernel⟩
theorem ka_q_im_X7_returns : Cond.instanceMethod yX7_returns ∈ ka_T := List.mem_filter.mpr ⟨List.mem_of_getElem? (i := 857) (by decide +kernel), by decide +kernel⟩
theorem ka_q_co_X7_returns : Cond.code yX7_returns prog_9_method_5_code 2 none ∈ ka_T := List.mem_filter.mpr ⟨List.mem_of_getElem? (i := 858) (by decide +kernel), by decide +kernel⟩
theorem ka_q_ml_L_22 : Cond.methodLink RL 22 yX7_leg ∈ ka_T := List.mem_filter.mpr ⟨List.mem_of_getElem? (i := 859) (by decide +kernel), by decide +kernel⟩
theorem ka_q_im_X7_leg : Cond.instanceMethod yX7_leg ∈ ka_T := List.mem_filter.mpr ⟨List.mem_of_getElem? (i := 860) (by decide +kernel), by decide +kernel⟩
theorem ka_q_se_X7_leg : Cond.selects RX7 yX7_leg yX7_leg ∈ ka_T := List.mem_filter.mpr ⟨List.mem_of_getElem? (i := 861) (by decide +kernel), by decide +kernel⟩
theorem ka_q_co_X7_leg : Cond.code yX7_leg prog_9_method_32_code 5 (some FieldType.int) ∈ ka_T := List.mem_filter.mpr ⟨List.mem_of_getElem? (i := 862) (by decide +kernel), by decide +kernel⟩
theorem ka_q_ml_X7_98 : Cond.methodLink RX7 98 yX7_isPlace ∈ ka_T := List.mem_filter.mpr ⟨List.mem_of_getElem? (i := 863) (by decide +kernel), by decide +kernel⟩
theorem ka_q_im_X7_isPlace : Cond.instanceMethod yX7_isPlace ∈ ka_T := List.mem_filter.mpr ⟨List.mem_of_getElem? (i := 865) (by decide +kernel), by decide +kernel⟩
theorem ka_q_co_X7_isPlace : Cond.code yX7_isPlace prog_9_method_7_code 2 (some FieldType.boolean) ∈ ka_T := List.mem_filter.mpr ⟨List.mem_of_getElem? (i := 866) (by decide +kernel), by decide +kernel⟩
theorem ka_q_ml_L_26 : Cond.methodLink RL 26 yX7_wagon ∈ ka_T := List.mem_filter.mpr ⟨List.mem_of_getElem? (i := 867) (by decide +kernel), by decide +kernel⟩
theorem ka_q_im_X7_wagon : Cond.instanceMethod yX7_wagon ∈ ka_T := List.mem_filter.mpr ⟨List.mem_of_getElem? (i := 868) (by decide +kernel), by decide +kernel⟩
theorem ka_q_se_X7_wagon : Cond.selects RX7 yX7_wagon yX7_wagon ∈ ka_T := List.mem_filter.mpr ⟨List.mem_of_getElem? (i := 869) (by decide +kernel), by decide +kernel⟩
theorem ka_q_co_X7_wagon : Cond.code yX7_wagon prog_9_method_33_code 2 (some FieldType.int) ∈ ka_T := List.mem_filter.mpr ⟨List.mem_of_getElem? (i := 870) (by decide +kernel), by decide +kernel⟩
theorem ka_q_ml_X7_110 : Cond.methodLink RX7 110 yX7_joins ∈ ka_T := List.mem_filter.mpr ⟨List.mem_of_getElem? (i := 871) (by decide +kernel), by decide +kernel⟩
theorem ka_q_im_X7_joins : Cond.instanceMethod yX7_joins ∈ ka_T := List.mem_filter.mpr ⟨List.mem_of_getElem? (i := 873) (by decide +kernel), by decide +kernel⟩
theorem ka_q_co_X7_joins : Cond.code yX7_joins prog_9_method_25_code 4 (some FieldType.int) ∈ ka_T := List.mem_filter.mpr ⟨List.mem_of_getElem? (i := 874) (by decide +kernel), by decide +kernel⟩
theorem ka_q_ml_X7_82 : Cond.methodLink RX7 82 yX7_isMine ∈ ka_T := List.mem_filter.mpr ⟨List.mem_of_getElem? (i := 875) (by decide +kernel), by decide +kernel⟩
theorem ka_q_im_X7_isMine : Cond.instanceMethod yX7_isMine ∈ ka_T := List.mem_filter.mpr ⟨List.mem_of_getElem? (i := 877) (by decide +kernel), by decide +kernel⟩
theorem ka_q_co_X7_isMine : Cond.code yX7_isMine prog_9_method_8_code 2 (some FieldType.boolean) ∈ ka_T := List.mem_filter.mpr ⟨List.mem_of_getElem? (i := 878) (by decide +kernel), by decide +kernel⟩
theorem ka_q_ml_X7_63 : Cond.methodLink RX7 63 yX7_lays ∈ ka_T := List.mem_filter.mpr ⟨List.mem_of_getElem? (i := 879) (by decide +kernel), by decide +kernel⟩
theorem ka_q_im_X7_lays : Cond.instanceMethod yX7_lays ∈ ka_T := List.mem_filter.mpr ⟨List.mem_of_getElem? (i := 881) (by decide +kernel), by decide +kernel⟩
theorem ka_q_co_X7_lays : Cond.code yX7_lays prog_9_method_13_code 4 none ∈ ka_T := List.mem_filter.mpr ⟨List.mem_of_getElem? (i := 882) (by decide +kernel), by decide +kernel⟩
theorem ka_q_ml_L_30 : Cond.methodLink RL 30 yX7_load ∈ ka_T := List.mem_filter.mpr ⟨List.mem_of_getElem? (i := 883) (by decide +kernel), by decide +kernel⟩
theorem ka_q_im_X7_load : Cond.instanceMethod yX7_load ∈ ka_T := List.mem_filter.mpr ⟨List.mem_of_getElem? (i := 884) (by decide +kernel), by decide +kernel⟩
theorem ka_q_se_X7_load : Cond.selects RX7 yX7_load yX7_load ∈ ka_T := List.mem_filter.mpr ⟨List.mem_of_getElem? (i := 885) (by decide +kernel), by decide +kernel⟩
theorem ka_q_co_X7_load : Cond.code yX7_load prog_9_method_34_code 2 (some FieldType.int) ∈ ka_T := List.mem_filter.mpr ⟨List.mem_of_getElem? (i := 886) (by decide +kernel), by decide +kernel⟩
theorem ka_q_ml_X7_113 : Cond.methodLink RX7 113 yX7_loads ∈ ka_T := List.mem_filter.mpr ⟨List.mem_of_getElem? (i := 887) (by decide +kernel), by decide +kernel⟩
theorem ka_q_im_X7_loads : Cond.instanceMethod yX7_loads ∈ ka_T := List.mem_filter.mpr ⟨List.mem_of_getElem? (i := 889) (by decide +kernel), by decide +kernel⟩
theorem ka_q_co_X7_loads : Cond.code yX7_loads prog_9_method_26_code 3 (some FieldType.int) ∈ ka_T := List.mem_filter.mpr ⟨List.mem_of_getElem? (i := 890) (by decide +kernel), by decide +kernel⟩
theorem ka_q_ml_X7_86 : Cond.methodLink RX7 86 yX7_isWagon ∈ ka_T := List.mem_filter.mpr ⟨List.mem_of_getElem? (i := 891) (by decide +kernel), by decide +kernel⟩
theorem ka_q_im_X7_isWagon : Cond.instanceMethod yX7_isWagon ∈ ka_T := List.mem_filter.mpr ⟨List.mem_of_getElem? (i := 893) (by decide +kernel), by decide +kernel⟩
theorem ka_q_co_X7_isWagon : Cond.code yX7_isWagon prog_9_method_9_code 2 (some FieldType.boolean) ∈ ka_T := List.mem_filter.mpr ⟨List.mem_of_getElem? (i := 894) (by decide +kernel), by decide +kernel⟩
theorem ka_q_ml_X7_89 : Cond.methodLink RX7 89 yX7_whyNot ∈ ka_T := List.mem_filter.mpr ⟨List.mem_of_getElem? (i := 895) (by decide +kernel), by decide +kernel⟩
theorem ka_q_im_X7_whyNot : Cond.instanceMethod yX7_whyNot ∈ ka_T := List.mem_filter.mpr ⟨List.mem_of_getElem? (i := 897) (by decide +kernel), by decide +kernel⟩
theorem ka_q_co_X7_whyNot : Cond.code yX7_whyNot prog_9_method_16_code 3 (some FieldType.int) ∈ ka_T := List.mem_filter.mpr ⟨List.mem_of_getElem? (i := 898) (by decide +kernel), by decide +kernel⟩
theorem ka_q_ml_X7_40 : Cond.methodLink RX7 40 yX7_of ∈ ka_T := List.mem_filter.mpr ⟨List.mem_of_getElem? (i := 899) (by decide +kernel), by decide +kernel⟩
theorem ka_q_im_X7_of : Cond.instanceMethod yX7_of ∈ ka_T := List.mem_filter.mpr ⟨List.mem_of_getElem? (i := 901) (by decide +kernel), by decide +kernel⟩
theorem ka_q_co_X7_of : Cond.code yX7_of prog_9_method_12_code 3 (some FieldType.int) ∈ ka_T := List.mem_filter.mpr ⟨List.mem_of_getElem? (i := 902) (by decide +kernel), by decide +kernel⟩
theorem ka_q_ml_X7_44 : Cond.methodLink RX7 44 yX7_isDue ∈ ka_T := List.mem_filter.mpr ⟨List.mem_of_getElem? (i := 903) (by decide +kernel), by decide +kernel⟩
theorem ka_q_im_X7_isDue : Cond.instanceMethod yX7_isDue ∈ ka_T := List.mem_filter.mpr ⟨List.mem_of_getElem? (i := 905) (by decide +kernel), by decide +kernel⟩
theorem ka_q_co_X7_isDue : Cond.code yX7_isDue prog_9_method_15_code 2 (some FieldType.boolean) ∈ ka_T := List.mem_filter.mpr ⟨List.mem_of_getElem? (i := 906) (by decide +kernel), by decide +kernel⟩
theorem ka_q_ml_X7_48 : Cond.methodLink RX7 48 yX7_has ∈ ka_T := List.mem_filter.mpr ⟨List.mem_of_getElem? (i := 907) (by decide +kernel), by decide +kernel⟩
theorem ka_q_im_X7_has : Cond.instanceMethod yX7_has ∈ ka_T := List.mem_filter.mpr ⟨List.mem_of_getElem? (i := 909) (by decide +kernel), by decide +kernel⟩
theorem ka_q_co_X7_has : Cond.code yX7_has prog_9_method_10_code 3 (some FieldType.int) ∈ ka_T := List.mem_filter.mpr ⟨List.mem_of_getElem? (i := 910) (by decide +kernel), by decide +kernel⟩
theorem ka_q_cn_X7_93 : Cond.constant RX7 93 (-2000000002) ∈ ka_T := List.mem_filter.mpr ⟨List.mem_of_getElem? (i := 911) (by decide +kernel), by decide +kernel⟩
theorem ka_q_ml_X7_51 : Cond.methodLink RX7 51 yX7_adds ∈ ka_T := List.mem_filter.mpr ⟨List.mem_of_getElem? (i := 912) (by decide +kernel), by decide +kernel⟩
theorem ka_q_im_X7_adds : Cond.instanceMethod yX7_adds ∈ ka_T := List.mem_filter.mpr ⟨List.mem_of_getElem? (i := 914) (by decide +kernel), by decide +kernel⟩
theorem ka_q_co_X7_adds : Cond.code yX7_adds prog_9_method_11_code 4 none ∈ ka_T := List.mem_filter.mpr ⟨List.mem_of_getElem? (i := 915) (by decide +kernel), by decide +kernel⟩
theorem ka_q_ml_L_34 : Cond.methodLink RL 34 yX7_unload ∈ ka_T := List.mem_filter.mpr ⟨List.mem_of_getElem? (i := 916) (by decide +kernel), by decide +kernel⟩
theorem ka_q_im_X7_unload : Cond.instanceMethod yX7_unload ∈ ka_T := List.mem_filter.mpr ⟨List.mem_of_getElem? (i := 917) (by decide +kernel), by decide +kernel⟩
theorem ka_q_se_X7_unload : Cond.selects RX7 yX7_unload yX7_unload ∈ ka_T := List.mem_filter.mpr ⟨List.mem_of_getElem? (i := 918) (by decide +kernel), by decide +kernel⟩
theorem ka_q_co_X7_unload : Cond.code yX7_unload prog_9_method_35_code 2 (some FieldType.int) ∈ ka_T := List.mem_filter.mpr ⟨List.mem_of_getElem? (i := 919) (by decide +kernel), by decide +kernel⟩
theorem ka_q_ml_X7_116 : Cond.methodLink RX7 116 yX7_unloads ∈ ka_T := List.mem_filter.mpr ⟨List.mem_of_getElem? (i := 920) (by decide +kernel), by decide +kernel⟩
theorem ka_q_im_X7_unloads : Cond.instanceMethod yX7_unloads ∈ ka_T := List.mem_filter.mpr ⟨List.mem_of_getElem? (i := 922) (by decide +kernel), by decide +kernel⟩
theorem ka_q_co_X7_unloads : Cond.code yX7_unloads prog_9_method_27_code 2 (some FieldType.int) ∈ ka_T := List.mem_filter.mpr ⟨List.mem_of_getElem? (i := 923) (by decide +kernel), by decide +kernel⟩
theorem ka_q_ml_X7_94 : Cond.methodLink RX7 94 yX7_stands ∈ ka_T := List.mem_filter.mpr ⟨List.mem_of_getElem? (i := 924) (by decide +kernel), by decide +kernel⟩
theorem ka_q_im_X7_stands : Cond.instanceMethod yX7_stands ∈ ka_T := List.mem_filter.mpr ⟨List.mem_of_getElem? (i := 926) (by decide +kernel), by decide +kernel⟩
theorem ka_q_co_X7_stands : Cond.code yX7_stands prog_9_method_14_code 3 (some FieldType.boolean) ∈ ka_T := List.mem_filter.mpr ⟨List.mem_of_getElem? (i := 927) (by decide +kernel), by decide +kernel⟩
theorem ka_q_ml_X7_69 : Cond.methodLink RX7 69 yX7_pays ∈ ka_T := List.mem_filter.mpr ⟨List.mem_of_getElem? (i := 928) (by decide +kernel), by decide +kernel⟩
theorem ka_q_im_X7_pays : Cond.instanceMethod yX7_pays ∈ ka_T := List.mem_filter.mpr ⟨List.mem_of_getElem? (i := 930) (by decide +kernel), by decide +kernel⟩
theorem ka_q_co_X7_pays : Cond.code yX7_pays prog_9_method_17_code 4 none ∈ ka_T := List.mem_filter.mpr ⟨List.mem_of_getElem? (i := 931) (by decide +kernel), by decide +kernel⟩
theorem ka_q_ml_L_38 : Cond.methodLink RL 38 yX7_repair ∈ ka_T := List.mem_filter.mpr ⟨List.mem_of_getElem? (i := 932) (by decide +kernel), by decide +kernel⟩
theorem ka_q_im_X7_repair : Cond.instanceMethod yX7_repair ∈ ka_T := List.mem_filter.mpr ⟨List.mem_of_getElem? (i := 933) (by decide +kernel), by decide +kernel⟩
theorem ka_q_se_X7_repair : Cond.selects RX7 yX7_repair yX7_repair ∈ ka_T := List.mem_filter.mpr ⟨List.mem_of_getElem? (i := 934) (by decide +kernel), by decide +kernel⟩
theorem ka_q_co_X7_repair : Cond.code yX7_repair prog_9_method_36_code 2 (some FieldType.int) ∈ ka_T := List.mem_filter.mpr ⟨List.mem_of_getElem? (i := 935) (by decide +kernel), by decide +kernel⟩
theorem ka_q_ml_X7_119 : Cond.methodLink RX7 119 yX7_sends ∈ ka_T := List.mem_filter.mpr ⟨List.mem_of_getElem? (i := 936) (by decide +kernel), by decide +kernel⟩
theorem ka_q_im_X7_sends : Cond.instanceMethod yX7_sends ∈ ka_T := List.mem_filter.mpr ⟨List.mem_of_getElem? (i := 938) (by decide +kernel), by decide +kernel⟩
theorem ka_q_co_X7_sends : Cond.code yX7_sends prog_9_method_28_code 3 (some FieldType.int) ∈ ka_T := List.mem_filter.mpr ⟨List.mem_of_getElem? (i := 939) (by decide +kernel), by decide +kernel⟩
theorem ka_q_ml_X7_59 : Cond.methodLink RX7 59 yX7_inRepair ∈ ka_T := List.mem_filter.mpr ⟨List.mem_of_getElem? (i := 940) (by decide +kernel), by decide +kernel⟩
theorem ka_q_im_X7_inRepair : Cond.instanceMethod yX7_inRepair ∈ ka_T := List.mem_filter.mpr ⟨List.mem_of_getElem? (i := 942) (by decide +kernel), by decide +kernel⟩
theorem ka_q_co_X7_inRepair : Cond.code yX7_inRepair prog_9_method_18_code 4 (some FieldType.int) ∈ ka_T := List.mem_filter.mpr ⟨List.mem_of_getElem? (i := 943) (by decide +kernel), by decide +kernel⟩
theorem ka_q_ml_X7_66 : Cond.methodLink RX7 66 yX7_fillsShop ∈ ka_T := List.mem_filter.mpr ⟨List.mem_of_getElem? (i := 944) (by decide +kernel), by decide +kernel⟩
theorem ka_q_im_X7_fillsShop : Cond.instanceMethod yX7_fillsShop ∈ ka_T := List.mem_filter.mpr ⟨List.mem_of_getElem? (i := 946) (by decide +kernel), by decide +kernel⟩
theorem ka_q_co_X7_fillsShop : Cond.code yX7_fillsShop prog_9_method_20_code 2 none ∈ ka_T := List.mem_filter.mpr ⟨List.mem_of_getElem? (i := 947) (by decide +kernel), by decide +kernel⟩
theorem ka_q_ml_X7_55 : Cond.methodLink RX7 55 yX7_firstWaiting ∈ ka_T := List.mem_filter.mpr ⟨List.mem_of_getElem? (i := 948) (by decide +kernel), by decide +kernel⟩
theorem ka_q_im_X7_firstWaiting : Cond.instanceMethod yX7_firstWaiting ∈ ka_T := List.mem_filter.mpr ⟨List.mem_of_getElem? (i := 950) (by decide +kernel), by decide +kernel⟩
theorem ka_q_co_X7_firstWaiting : Cond.code yX7_firstWaiting prog_9_method_19_code 4 (some FieldType.int) ∈ ka_T := List.mem_filter.mpr ⟨List.mem_of_getElem? (i := 951) (by decide +kernel), by decide +kernel⟩
theorem ka_q_ml_L_43 : Cond.methodLink RL 43 yX7_train ∈ ka_T := List.mem_filter.mpr ⟨List.mem_of_getElem? (i := 952) (by decide +kernel), by decide +kernel⟩
theorem ka_q_im_X7_train : Cond.instanceMethod yX7_train ∈ ka_T := List.mem_filter.mpr ⟨List.mem_of_getElem? (i := 953) (by decide +kernel), by decide +kernel⟩
theorem ka_q_se_X7_train : Cond.selects RX7 yX7_train yX7_train ∈ ka_T := List.mem_filter.mpr ⟨List.mem_of_getElem? (i := 954) (by decide +kernel), by decide +kernel⟩
theorem ka_q_co_X7_train : Cond.code yX7_train prog_9_method_37_code 5 (some FieldType.int) ∈ ka_T := List.mem_filter.mpr ⟨List.mem_of_getElem? (i := 955) (by decide +kernel), by decide +kernel⟩
theorem ka_q_ml_X7_122 : Cond.methodLink RX7 122 yX7_trains ∈ ka_T := List.mem_filter.mpr ⟨List.mem_of_getElem? (i := 956) (by decide +kernel), by decide +kernel⟩
theorem ka_q_im_X7_trains : Cond.instanceMethod yX7_trains ∈ ka_T := List.mem_filter.mpr ⟨List.mem_of_getElem? (i := 958) (by decide +kernel), by decide +kernel⟩
theorem ka_q_co_X7_trains : Cond.code yX7_trains prog_9_method_29_code 10 (some FieldType.int) ∈ ka_T := List.mem_filter.mpr ⟨List.mem_of_getElem? (i := 959) (by decide +kernel), by decide +kernel⟩
theorem ka_q_ml_L_47 : Cond.methodLink RL 47 yX7_pass ∈ ka_T := List.mem_filter.mpr ⟨List.mem_of_getElem? (i := 960) (by decide +kernel), by decide +kernel⟩
theorem ka_q_im_X7_pass : Cond.instanceMethod yX7_pass ∈ ka_T := List.mem_filter.mpr ⟨List.mem_of_getElem? (i := 961) (by decide +kernel), by decide +kernel⟩
theorem ka_q_se_X7_pass : Cond.selects RX7 yX7_pass yX7_pass ∈ ka_T := List.mem_filter.mpr ⟨List.mem_of_getElem? (i := 962) (by decide +kernel), by decide +kernel⟩
theorem ka_q_co_X7_pass : Cond.code yX7_pass prog_9_method_38_code 2 (some FieldType.int) ∈ ka_T := List.mem_filter.mpr ⟨List.mem_of_getElem? (i := 963) (by decide +kernel), by decide +kernel⟩
theorem ka_q_ml_X7_126 : Cond.methodLink RX7 126 yX7_passes ∈ ka_T := List.mem_filter.mpr ⟨List.mem_of_getElem? (i := 964) (by decide +kernel), by decide +kernel⟩
theorem ka_q_im_X7_passes : Cond.instanceMethod yX7_passes ∈ ka_T := List.mem_filter.mpr ⟨List.mem_of_getElem? (i := 966) (by decide +kernel), by decide +kernel⟩
theorem ka_q_co_X7_passes : Cond.code yX7_passes prog_9_method_30_code 4 (some FieldType.int) ∈ ka_T := List.mem_filter.mpr ⟨List.mem_of_getElem? (i := 967) (by decide +kernel), by decide +kernel⟩
theorem ka_q_ml_X7_101 : Cond.methodLink RX7 101 yX7_day ∈ ka_T := List.mem_filter.mpr ⟨List.mem_of_getElem? (i := 968) (by decide +kernel), by decide +kernel⟩
theorem ka_q_im_X7_day : Cond.instanceMethod yX7_day ∈ ka_T := List.mem_filter.mpr ⟨List.mem_of_getElem? (i := 970) (by decide +kernel), by decide +kernel⟩
theorem ka_q_co_X7_day : Cond.code yX7_day prog_9_method_24_code 3 (some FieldType.int) ∈ ka_T := List.mem_filter.mpr ⟨List.mem_of_getElem? (i := 971) (by decide +kernel), by decide +kernel⟩
theorem ka_q_ml_X7_72 : Cond.methodLink RX7 72 yX7_arrives ∈ ka_T := List.mem_filter.mpr ⟨List.mem_of_getElem? (i := 972) (by decide +kernel), by decide +kernel⟩
theorem ka_q_im_X7_arrives : Cond.instanceMethod yX7_arrives ∈ ka_T := List.mem_filter.mpr ⟨List.mem_of_getElem? (i := 974) (by decide +kernel), by decide +kernel⟩
theorem ka_q_co_X7_arrives : Cond.code yX7_arrives prog_9_method_21_code 3 (some FieldType.int) ∈ ka_T := List.mem_filter.mpr ⟨List.mem_of_getElem? (i := 975) (by decide +kernel), by decide +kernel⟩
theorem ka_q_ml_X7_75 : Cond.methodLink RX7 75 yX7_repairs ∈ ka_T := List.mem_filter.mpr ⟨List.mem_of_getElem? (i := 976) (by decide +kernel), by decide +kernel⟩
theorem ka_q_im_X7_repairs : Cond.instanceMethod yX7_repairs ∈ ka_T := List.mem_filter.mpr ⟨List.mem_of_getElem? (i := 978) (by decide +kernel), by decide +kernel⟩
theorem ka_q_co_X7_repairs : Cond.code yX7_repairs prog_9_method_22_code 2 none ∈ ka_T := List.mem_filter.mpr ⟨List.mem_of_getElem? (i := 979) (by decide +kernel), by decide +kernel⟩
theorem ka_q_ml_X7_78 : Cond.methodLink RX7 78 yX7_charges ∈ ka_T := List.mem_filter.mpr ⟨List.mem_of_getElem? (i := 980) (by decide +kernel), by decide +kernel⟩
theorem ka_q_im_X7_charges : Cond.instanceMethod yX7_charges ∈ ka_T := List.mem_filter.mpr ⟨List.mem_of_getElem? (i := 982) (by decide +kernel), by decide +kernel⟩
theorem ka_q_co_X7_charges : Cond.code yX7_charges prog_9_method_23_code 5 none ∈ ka_T := List.mem_filter.mpr ⟨List.mem_of_getElem? (i := 983) (by decide +kernel), by decide +kernel⟩
theorem ka_q_ml_L_52 : Cond.methodLink RL 52 yX7_set ∈ ka_T := List.mem_filter.mpr ⟨List.mem_of_getElem? (i := 984) (by decide +kernel), by decide +kernel⟩
theorem ka_q_im_X7_set : Cond.instanceMethod yX7_set ∈ ka_T := List.mem_filter.mpr ⟨List.mem_of_getElem? (i := 985) (by decide +kernel), by decide +kernel⟩
theorem ka_q_se_X7_set : Cond.selects RX7 yX7_set yX7_set ∈ ka_T := List.mem_filter.mpr ⟨List.mem_of_getElem? (i := 986) (by decide +kernel), by decide +kernel⟩
theorem ka_q_co_X7_set : Cond.code yX7_set prog_9_method_40_code 4 (some FieldType.int) ∈ ka_T := List.mem_filter.mpr ⟨List.mem_of_getElem? (i := 987) (by decide +kernel), by decide +kernel⟩
theorem ka_q_ml_X7_129 : Cond.methodLink RX7 129 yX7_isSetting ∈ ka_T := List.mem_filter.mpr ⟨List.mem_of_getElem? (i := 988) (by decide +kernel), by decide +kernel⟩
theorem ka_q_st_X7_isSetting : Cond.static yX7_isSetting ∈ ka_T := List.mem_filter.mpr ⟨List.mem_of_getElem? (i := 989) (by decide +kernel), by decide +kernel⟩
theorem ka_q_co_X7_isSetting : Cond.code yX7_isSetting prog_9_method_39_code 2 (some FieldType.boolean) ∈ ka_T := List.mem_filter.mpr ⟨List.mem_of_getElem? (i := 990) (by decide +kernel), by decide +kernel⟩
theorem ka_q_ml_L_56 : Cond.methodLink RL 56 yX7_wagonOf ∈ ka_T := List.mem_filter.mpr ⟨List.mem_of_getElem? (i := 991) (by decide +kernel), by decide +kernel⟩
theorem ka_q_im_X7_wagonOf : Cond.instanceMethod yX7_wagonOf ∈ ka_T := List.mem_filter.mpr ⟨List.mem_of_getElem? (i := 992) (by decide +kernel), by decide +kernel⟩
theorem ka_q_se_X7_wagonOf : Cond.selects RX7 yX7_wagonOf yX7_wagonOf ∈ ka_T := List.mem_filter.mpr ⟨List.mem_of_getElem? (i := 993) (by decide +kernel), by decide +kernel⟩
theorem ka_q_co_X7_wagonOf : Cond.code yX7_wagonOf prog_9_method_42_code 3 (some FieldType.int) ∈ ka_T := List.mem_filter.mpr ⟨List.mem_of_getElem? (i := 994) (by decide +kernel), by decide +kernel⟩
theorem ka_q_cn_X7_132 : Cond.constant RX7 132 (-2000000004) ∈ ka_T := List.mem_filter.mpr ⟨List.mem_of_getElem? (i := 995) (by decide +kernel), by decide +kernel⟩
theorem ka_q_ml_X7_133 : Cond.methodLink RX7 133 yX7_daysOf ∈ ka_T := List.mem_filter.mpr ⟨List.mem_of_getElem? (i := 996) (by decide +kernel), by decide +kernel⟩
theorem ka_q_im_X7_daysOf : Cond.instanceMethod yX7_daysOf ∈ ka_T := List.mem_filter.mpr ⟨List.mem_of_getElem? (i := 998) (by decide +kernel), by decide +kernel⟩
theorem ka_q_co_X7_daysOf : Cond.code yX7_daysOf prog_9_method_41_code 2 (some FieldType.int) ∈ ka_T := List.mem_filter.mpr ⟨List.mem_of_getElem? (i := 999) (by decide +kernel), by decide +kernel⟩
theorem ka_q_ml_L_60 : Cond.methodLink RL 60 yX7_placeOf ∈ ka_T := List.mem_filter.mpr ⟨List.mem_of_getElem? (i := 1000) (by decide +kernel), by decide +kernel⟩
theorem ka_q_im_X7_placeOf : Cond.instanceMethod yX7_placeOf ∈ ka_T := List.mem_filter.mpr ⟨List.mem_of_getElem? (i := 1001) (by decide +kernel), by decide +kernel⟩
theorem ka_q_se_X7_placeOf : Cond.selects RX7 yX7_placeOf yX7_placeOf ∈ ka_T := List.mem_filter.mpr ⟨List.mem_of_getElem? (i := 1002) (by decide +kernel), by decide +kernel⟩
theorem ka_q_co_X7_placeOf : Cond.code yX7_placeOf prog_9_method_46_code 3 (some FieldType.int) ∈ ka_T := List.mem_filter.mpr ⟨List.mem_of_getElem? (i := 1003) (by decide +kernel), by decide +kernel⟩
theorem ka_q_ml_X7_136 : Cond.methodLink RX7 136 yX7_standing ∈ ka_T := List.mem_filter.mpr ⟨List.mem_of_getElem? (i := 1004) (by decide +kernel), by decide +kernel⟩
theorem ka_q_im_X7_standing : Cond.instanceMethod yX7_standing ∈ ka_T := List.mem_filter.mpr ⟨List.mem_of_getElem? (i := 1006) (by decide +kernel), by decide +kernel⟩
theorem ka_q_co_X7_standing : Cond.code yX7_standing prog_9_method_43_code 5 (some FieldType.int) ∈ ka_T := List.mem_filter.mpr ⟨List.mem_of_getElem? (i := 1007) (by decide +kernel), by decide +kernel⟩
theorem ka_q_ml_X7_139 : Cond.methodLink RX7 139 yX7_going ∈ ka_T := List.mem_filter.mpr ⟨List.mem_of_getElem? (i := 1008) (by decide +kernel), by decide +kernel⟩
theorem ka_q_im_X7_going : Cond.instanceMethod yX7_going ∈ ka_T := List.mem_filter.mpr ⟨List.mem_of_getElem? (i := 1010) (by decide +kernel), by decide +kernel⟩
theorem ka_q_co_X7_going : Cond.code yX7_going prog_9_method_44_code 4 (some FieldType.int) ∈ ka_T := List.mem_filter.mpr ⟨List.mem_of_getElem? (i := 1011) (by decide +kernel), by decide +kernel⟩
theorem ka_q_ml_X7_142 : Cond.methodLink RX7 142 yX7_owned ∈ ka_T := List.mem_filter.mpr ⟨List.mem_of_getElem? (i := 1012) (by decide +kernel), by decide +kernel⟩
theorem ka_q_im_X7_owned : Cond.instanceMethod yX7_owned ∈ ka_T := List.mem_filter.mpr ⟨List.mem_of_getElem? (i := 1014) (by decide +kernel), by decide +kernel⟩
theorem ka_q_co_X7_owned : Cond.code yX7_owned prog_9_method_45_code 4 (some FieldType.int) ∈ ka_T := List.mem_filter.mpr ⟨List.mem_of_getElem? (i := 1015) (by decide +kernel), by decide +kernel⟩
theorem ka_q_ml_L_64 : Cond.methodLink RL 64 yX7_days ∈ ka_T := List.mem_filter.mpr ⟨List.mem_of_getElem? (i := 1016) (by decide +kernel), by decide +kernel⟩
theorem ka_q_im_X7_days : Cond.instanceMethod yX7_days ∈ ka_T := List.mem_filter.mpr ⟨List.mem_of_getElem? (i := 1017) (by decide +kernel), by decide +kernel⟩
theorem ka_q_se_X7_days : Cond.selects RX7 yX7_days yX7_days ∈ ka_T := List.mem_filter.mpr ⟨List.mem_of_getElem? (i := 1018) (by decide +kernel), by decide +kernel⟩
theorem ka_q_co_X7_days : Cond.code yX7_days prog_9_method_47_code 3 (some FieldType.int) ∈ ka_T := List.mem_filter.mpr ⟨List.mem_of_getElem? (i := 1019) (by decide +kernel), by decide +kernel⟩
theorem ka_q_ml_L_68 : Cond.methodLink RL 68 yX7_would ∈ ka_T := List.mem_filter.mpr ⟨List.mem_of_getElem? (i := 1020) (by decide +kernel), by decide +kernel⟩
theorem ka_q_im_X7_would : Cond.instanceMethod yX7_would ∈ ka_T := List.mem_filter.mpr ⟨List.mem_of_getElem? (i := 1021) (by decide +kernel), by decide +kernel⟩
theorem ka_q_se_X7_would : Cond.selects RX7 yX7_would yX7_would ∈ ka_T := List.mem_filter.mpr ⟨List.mem_of_getElem? (i := 1022) (by decide +kernel), by decide +kernel⟩
theorem ka_q_co_X7_would : Cond.code yX7_would prog_9_method_48_code 5 (some FieldType.int) ∈ ka_T := List.mem_filter.mpr ⟨List.mem_of_getElem? (i := 1023) (by decide +kernel), by decide +kernel⟩
theorem ka_q_ml_L_72 : Cond.methodLink RL 72 yX7_lacks ∈ ka_T := List.mem_filter.mpr ⟨List.mem_of_getElem? (i := 1024) (by decide +kernel), by decide +kernel⟩
theorem ka_q_im_X7_lacks : Cond.instanceMethod yX7_lacks ∈ ka_T := List.mem_filter.mpr ⟨List.mem_of_getElem? (i := 1025) (by decide +kernel), by decide +kernel⟩
theorem ka_q_se_X7_lacks : Cond.selects RX7 yX7_lacks yX7_lacks ∈ ka_T := List.mem_filter.mpr ⟨List.mem_of_getElem? (i := 1026) (by decide +kernel), by decide +kernel⟩
theorem ka_q_co_X7_lacks : Cond.code yX7_lacks prog_9_method_52_code 2 (some FieldType.int) ∈ ka_T := List.mem_filter.mpr ⟨List.mem_of_getElem? (i := 1027) (by decide +kernel), by decide +kernel⟩
theorem ka_q_ml_X7_148 : Cond.methodLink RX7 148 yX7_lacking ∈ ka_T := List.mem_filter.mpr ⟨List.mem_of_getElem? (i := 1028) (by decide +kernel), by decide +kernel⟩
theorem ka_q_im_X7_lacking : Cond.instanceMethod yX7_lacking ∈ ka_T := List.mem_filter.mpr ⟨List.mem_of_getElem? (i := 1030) (by decide +kernel), by decide +kernel⟩
theorem ka_q_co_X7_lacking : Cond.code yX7_lacking prog_9_method_50_code 4 (some FieldType.int) ∈ ka_T := List.mem_filter.mpr ⟨List.mem_of_getElem? (i := 1031) (by decide +kernel), by decide +kernel⟩
theorem ka_q_ml_X7_145 : Cond.methodLink RX7 145 yX7_ready ∈ ka_T := List.mem_filter.mpr ⟨List.mem_of_getElem? (i := 1032) (by decide +kernel), by decide +kernel⟩
theorem ka_q_im_X7_ready : Cond.instanceMethod yX7_ready ∈ ka_T := List.mem_filter.mpr ⟨List.mem_of_getElem? (i := 1034) (by decide +kernel), by decide +kernel⟩
theorem ka_q_co_X7_ready : Cond.code yX7_ready prog_9_method_49_code 4 (some FieldType.int) ∈ ka_T := List.mem_filter.mpr ⟨List.mem_of_getElem? (i := 1035) (by decide +kernel), by decide +kernel⟩
theorem ka_q_ml_L_76 : Cond.methodLink RL 76 yX7_bestTrain ∈ ka_T := List.mem_filter.mpr ⟨List.mem_of_getElem? (i := 1036) (by decide +kernel), by decide +kernel⟩
theorem ka_q_im_X7_bestTrain : Cond.instanceMethod yX7_bestTrain ∈ ka_T := List.mem_filter.mpr ⟨List.mem_of_getElem? (i := 1037) (by decide +kernel), by decide +kernel⟩
theorem ka_q_se_X7_bestTrain : Cond.selects RX7 yX7_bestTrain yX7_bestTrain ∈ ka_T := List.mem_filter.mpr ⟨List.mem_of_getElem? (i := 1038) (by decide +kernel), by decide +kernel⟩
theorem ka_q_co_X7_bestTrain : Cond.code yX7_bestTrain prog_9_method_53_code 6 (some FieldType.int) ∈ ka_T := List.mem_filter.mpr ⟨List.mem_of_getElem? (i := 1039) (by decide +kernel), by decide +kernel⟩
theorem ka_q_ml_X7_151 : Cond.methodLink RX7 151 yX7_spare ∈ ka_T := List.mem_filter.mpr ⟨List.mem_of_getElem? (i := 1040) (by decide +kernel), by decide +kernel⟩
theorem ka_q_im_X7_spare : Cond.instanceMethod yX7_spare ∈ ka_T := List.mem_filter.mpr ⟨List.mem_of_getElem? (i := 1042) (by decide +kernel), by decide +kernel⟩
theorem ka_q_co_X7_spare : Cond.code yX7_spare prog_9_method_51_code 2 (some FieldType.int) ∈ ka_T := List.mem_filter.mpr ⟨List.mem_of_getElem? (i := 1043) (by decide +kernel), by decide +kernel⟩
theorem ka_q_ml_L_80 : Cond.methodLink RL 80 yX7_share ∈ ka_T := List.mem_filter.mpr ⟨List.mem_of_getElem? (i := 1044) (by decide +kernel), by decide +kernel⟩
theorem ka_q_im_X7_share : Cond.instanceMethod yX7_share ∈ ka_T := List.mem_filter.mpr ⟨List.mem_of_getElem? (i := 1045) (by decide +kernel), by decide +kernel⟩
theorem ka_q_se_X7_share : Cond.selects RX7 yX7_share yX7_share ∈ ka_T := List.mem_filter.mpr ⟨List.mem_of_getElem? (i := 1046) (by decide +kernel), by decide +kernel⟩
theorem ka_q_co_X7_share : Cond.code yX7_share prog_9_method_54_code 6 (some FieldType.int) ∈ ka_T := List.mem_filter.mpr ⟨List.mem_of_getElem? (i := 1047) (by decide +kernel), by decide +kernel⟩
theorem ka_q_ml_X7_154 : Cond.methodLink RX7 154 yJxf58ca_floatToIntBits_5c35a ∈ ka_T := List.mem_filter.mpr ⟨List.mem_of_getElem? (i := 1048) (by decide +kernel), by decide +kernel⟩
theorem ka_q_st_Jxf58ca_floatToIntBits_5c35a : Cond.static yJxf58ca_floatToIntBits_5c35a ∈ ka_T := List.mem_filter.mpr ⟨List.mem_of_getElem? (i := 1049) (by decide +kernel), by decide +kernel⟩
theorem ka_q_co_Jxf58ca_floatToIntBits_5c35a : Cond.code yJxf58ca_floatToIntBits_5c35a prog_10_method_24_code 1 (some FieldType.int) ∈ ka_T := List.mem_filter.mpr ⟨List.mem_of_getElem? (i := 1050) (by decide +kernel), by decide +kernel⟩
theorem ka_q_ml_Jxf58ca_59 : Cond.methodLink RJxf58ca 59 yJxf58ca_isNaN_12338 ∈ ka_T := List.mem_filter.mpr ⟨List.mem_of_getElem? (i := 1051) (by decide +kernel), by decide +kernel⟩
theorem ka_q_st_Jxf58ca_isNaN_12338 : Cond.static yJxf58ca_isNaN_12338 ∈ ka_T := List.mem_filter.mpr ⟨List.mem_of_getElem? (i := 1052) (by decide +kernel), by decide +kernel⟩
theorem ka_q_co_Jxf58ca_isNaN_12338 : Cond.code yJxf58ca_isNaN_12338 prog_10_method_6_code 1 (some FieldType.boolean) ∈ ka_T := List.mem_filter.mpr ⟨List.mem_of_getElem? (i := 1053) (by decide +kernel), by decide +kernel⟩
theorem ka_q_ml_Jxf58ca_74 : Cond.methodLink RJxf58ca 74 ⟨"java/lang/Float", "floatToRawIntBits", "(F)I"⟩ ∈ ka_T := List.mem_filter.mpr ⟨List.mem_of_getElem? (i := 1054) (by decide +kernel), by decide +kernel⟩
theorem ka_q_st_java_lang_Float_floatToRawIntBits : Cond.static ⟨"java/lang/Float", "floatToRawIntBits", "(F)I"⟩ ∈ ka_T := List.mem_filter.mpr ⟨List.mem_of_getElem? (i := 1055) (by decide +kernel), by decide +kernel⟩
theorem ka_q_na_java_lang_Float_floatToRawIntBits : Cond.native ⟨"java/lang/Float", "floatToRawIntBits", "(F)I"⟩ ∈ ka_T := List.mem_filter.mpr ⟨List.mem_of_getElem? (i := 1056) (by decide +kernel), by decide +kernel⟩
theorem ka_q_cn_Jxf58ca_77 : Cond.constant RJxf58ca 77 2143289344 ∈ ka_T := List.mem_filter.mpr ⟨List.mem_of_getElem? (i := 1057) (by decide +kernel), by decide +kernel⟩
theorem ka_q_ml_L_84 : Cond.methodLink RL 84 yX7_count ∈ ka_T := List.mem_filter.mpr ⟨List.mem_of_getElem? (i := 1058) (by decide +kernel), by decide +kernel⟩
theorem ka_q_im_X7_count : Cond.instanceMethod yX7_count ∈ ka_T := List.mem_filter.mpr ⟨List.mem_of_getElem? (i := 1059) (by decide +kernel), by decide +kernel⟩
theorem ka_q_se_X7_count : Cond.selects RX7 yX7_count yX7_count ∈ ka_T := List.mem_filter.mpr ⟨List.mem_of_getElem? (i := 1060) (by decide +kernel), by decide +kernel⟩
theorem ka_q_co_X7_count : Cond.code yX7_count prog_9_method_59_code 2 (some FieldType.int) ∈ ka_T := List.mem_filter.mpr ⟨List.mem_of_getElem? (i := 1061) (by decide +kernel), by decide +kernel⟩
theorem ka_q_ml_X7_163 : Cond.methodLink RX7 163 yX7_wagons ∈ ka_T := List.mem_filter.mpr ⟨List.mem_of_getElem? (i := 1062) (by decide +kernel), by decide +kernel⟩
theorem ka_q_im_X7_wagons : Cond.instanceMethod yX7_wagons ∈ ka_T := List.mem_filter.mpr ⟨List.mem_of_getElem? (i := 1064) (by decide +kernel), by decide +kernel⟩
theorem ka_q_co_X7_wagons : Cond.code yX7_wagons prog_9_method_55_code 5 (some FieldType.int) ∈ ka_T := List.mem_filter.mpr ⟨List.mem_of_getElem? (i := 1065) (by decide +kernel), by decide +kernel⟩
theorem ka_q_ml_X7_160 : Cond.methodLink RX7 160 yX7_sum ∈ ka_T := List.mem_filter.mpr ⟨List.mem_of_getElem? (i := 1066) (by decide +kernel), by decide +kernel⟩
theorem ka_q_im_X7_sum : Cond.instanceMethod yX7_sum ∈ ka_T := List.mem_filter.mpr ⟨List.mem_of_getElem? (i := 1068) (by decide +kernel), by decide +kernel⟩
theorem ka_q_co_X7_sum : Cond.code yX7_sum prog_9_method_56_code 4 (some FieldType.int) ∈ ka_T := List.mem_filter.mpr ⟨List.mem_of_getElem? (i := 1069) (by decide +kernel), by decide +kernel⟩
theorem ka_q_ml_X7_166 : Cond.methodLink RX7 166 yX7_tonnes ∈ ka_T := List.mem_filter.mpr ⟨List.mem_of_getElem? (i := 1070) (by decide +kernel), by decide +kernel⟩
theorem ka_q_im_X7_tonnes : Cond.instanceMethod yX7_tonnes ∈ ka_T := List.mem_filter.mpr ⟨List.mem_of_getElem? (i := 1072) (by decide +kernel), by decide +kernel⟩
theorem ka_q_co_X7_tonnes : Cond.code yX7_tonnes prog_9_method_58_code 3 (some FieldType.int) ∈ ka_T := List.mem_filter.mpr ⟨List.mem_of_getElem? (i := 1073) (by decide +kernel), by decide +kernel⟩
theorem ka_q_ml_X7_169 : Cond.methodLink RX7 169 yX7_due ∈ ka_T := List.mem_filter.mpr ⟨List.mem_of_getElem? (i := 1074) (by decide +kernel), by decide +kernel⟩
theorem ka_q_im_X7_due : Cond.instanceMethod yX7_due ∈ ka_T := List.mem_filter.mpr ⟨List.mem_of_getElem? (i := 1076) (by decide +kernel), by decide +kernel⟩
theorem ka_q_co_X7_due : Cond.code yX7_due prog_9_method_57_code 3 (some FieldType.int) ∈ ka_T := List.mem_filter.mpr ⟨List.mem_of_getElem? (i := 1077) (by decide +kernel), by decide +kernel⟩
theorem ka_q_ml_L_89 : Cond.methodLink RL 89 yX7_undo ∈ ka_T := List.mem_filter.mpr ⟨List.mem_of_getElem? (i := 1078) (by decide +kernel), by decide +kernel⟩
theorem ka_q_im_X7_undo : Cond.instanceMethod yX7_undo ∈ ka_T := List.mem_filter.mpr ⟨List.mem_of_getElem? (i := 1079) (by decide +kernel), by decide +kernel⟩
theorem ka_q_se_X7_undo : Cond.selects RX7 yX7_undo yX7_undo ∈ ka_T := List.mem_filter.mpr ⟨List.mem_of_getElem? (i := 1080) (by decide +kernel), by decide +kernel⟩
theorem ka_q_co_X7_undo : Cond.code yX7_undo prog_9_method_60_code 2 (some FieldType.int) ∈ ka_T := List.mem_filter.mpr ⟨List.mem_of_getElem? (i := 1081) (by decide +kernel), by decide +kernel⟩
theorem ka_q_ml_L_93 : Cond.methodLink RL 93 yX7_type ∈ ka_T := List.mem_filter.mpr ⟨List.mem_of_getElem? (i := 1082) (by decide +kernel), by decide +kernel⟩
theorem ka_q_im_X7_type : Cond.instanceMethod yX7_type ∈ ka_T := List.mem_filter.mpr ⟨List.mem_of_getElem? (i := 1083) (by decide +kernel), by decide +kernel⟩
theorem ka_q_se_X7_type : Cond.selects RX7 yX7_type yX7_type ∈ ka_T := List.mem_filter.mpr ⟨List.mem_of_getElem? (i := 1084) (by decide +kernel), by decide +kernel⟩
theorem ka_q_co_X7_type : Cond.code yX7_type prog_9_method_61_code 2 (some FieldType.int) ∈ ka_T := List.mem_filter.mpr ⟨List.mem_of_getElem? (i := 1085) (by decide +kernel), by decide +kernel⟩
theorem ka_q_ml_L_97 : Cond.methodLink RL 97 yX7_clearText ∈ ka_T := List.mem_filter.mpr ⟨List.mem_of_getElem? (i := 1086) (by decide +kernel), by decide +kernel⟩
theorem ka_q_im_X7_clearText : Cond.instanceMethod yX7_clearText ∈ ka_T := List.mem_filter.mpr ⟨List.mem_of_getElem? (i := 1087) (by decide +kernel), by decide +kernel⟩
theorem ka_q_se_X7_clearText : Cond.selects RX7 yX7_clearText yX7_clearText ∈ ka_T := List.mem_filter.mpr ⟨List.mem_of_getElem? (i := 1088) (by decide +kernel), by decide +kernel⟩
theorem ka_q_co_X7_clearText : Cond.code yX7_clearText prog_9_method_62_code 2 (some FieldType.int) ∈ ka_T := List.mem_filter.mpr ⟨List.mem_of_getElem? (i := 1089) (by decide +kernel), by decide +kernel⟩
theorem ka_q_ml_L_101 : Cond.methodLink RL 101 yX7_fault ∈ ka_T := List.mem_filter.mpr ⟨List.mem_of_getElem? (i := 1090) (by decide +kernel), by decide +kernel⟩
theorem ka_q_im_X7_fault : Cond.instanceMethod yX7_fault ∈ ka_T := List.mem_filter.mpr ⟨List.mem_of_getElem? (i := 1091) (by decide +kernel), by decide +kernel⟩
theorem ka_q_se_X7_fault : Cond.selects RX7 yX7_fault yX7_fault ∈ ka_T := List.mem_filter.mpr ⟨List.mem_of_getElem? (i := 1092) (by decide +kernel), by decide +kernel⟩
theorem ka_q_co_X7_fault : Cond.code yX7_fault prog_9_method_70_code 3 (some FieldType.int) ∈ ka_T := List.mem_filter.mpr ⟨List.mem_of_getElem? (i := 1093) (by decide +kernel), by decide +kernel⟩
theorem ka_q_ml_X7_210 : Cond.methodLink RX7 210 yX7_doesAll ∈ ka_T := List.mem_filter.mpr ⟨List.mem_of_getElem? (i := 1094) (by decide +kernel), by decide +kernel⟩
theorem ka_q_im_X7_doesAll : Cond.instanceMethod yX7_doesAll ∈ ka_T := List.mem_filter.mpr ⟨List.mem_of_getElem? (i := 1096) (by decide +kernel), by decide +kernel⟩
theorem ka_q_co_X7_doesAll : Cond.code yX7_doesAll prog_9_method_69_code 3 (some FieldType.boolean) ∈ ka_T := List.mem_filter.mpr ⟨List.mem_of_getElem? (i := 1097) (by decide +kernel), by decide +kernel⟩
theorem ka_q_ml_X7_178 : Cond.methodLink RX7 178 yX7_here ∈ ka_T := List.mem_filter.mpr ⟨List.mem_of_getElem? (i := 1098) (by decide +kernel), by decide +kernel⟩
theorem ka_q_im_X7_here : Cond.instanceMethod yX7_here ∈ ka_T := List.mem_filter.mpr ⟨List.mem_of_getElem? (i := 1100) (by decide +kernel), by decide +kernel⟩
theorem ka_q_co_X7_here : Cond.code yX7_here prog_9_method_63_code 1 (some FieldType.int) ∈ ka_T := List.mem_filter.mpr ⟨List.mem_of_getElem? (i := 1101) (by decide +kernel), by decide +kernel⟩
theorem ka_q_ml_X7_195 : Cond.methodLink RX7 195 yX7_manyOf ∈ ka_T := List.mem_filter.mpr ⟨List.mem_of_getElem? (i := 1102) (by decide +kernel), by decide +kernel⟩
theorem ka_q_st_X7_manyOf : Cond.static yX7_manyOf ∈ ka_T := List.mem_filter.mpr ⟨List.mem_of_getElem? (i := 1103) (by decide +kernel), by decide +kernel⟩
theorem ka_q_co_X7_manyOf : Cond.code yX7_manyOf prog_9_method_67_code 1 (some FieldType.int) ∈ ka_T := List.mem_filter.mpr ⟨List.mem_of_getElem? (i := 1104) (by decide +kernel), by decide +kernel⟩
theorem ka_q_ml_X7_198 : Cond.methodLink RX7 198 yX7_takesSign ∈ ka_T := List.mem_filter.mpr ⟨List.mem_of_getElem? (i := 1105) (by decide +kernel), by decide +kernel⟩
theorem ka_q_im_X7_takesSign : Cond.instanceMethod yX7_takesSign ∈ ka_T := List.mem_filter.mpr ⟨List.mem_of_getElem? (i := 1107) (by decide +kernel), by decide +kernel⟩
theorem ka_q_co_X7_takesSign : Cond.code yX7_takesSign prog_9_method_65_code 2 none ∈ ka_T := List.mem_filter.mpr ⟨List.mem_of_getElem? (i := 1108) (by decide +kernel), by decide +kernel⟩
theorem ka_q_ml_X7_201 : Cond.methodLink RX7 201 yX7_number ∈ ka_T := List.mem_filter.mpr ⟨List.mem_of_getElem? (i := 1109) (by decide +kernel), by decide +kernel⟩
theorem ka_q_im_X7_number : Cond.instanceMethod yX7_number ∈ ka_T := List.mem_filter.mpr ⟨List.mem_of_getElem? (i := 1111) (by decide +kernel), by decide +kernel⟩
theorem ka_q_co_X7_number : Cond.code yX7_number prog_9_method_66_code 3 (some FieldType.int) ∈ ka_T := List.mem_filter.mpr ⟨List.mem_of_getElem? (i := 1112) (by decide +kernel), by decide +kernel⟩
theorem ka_q_ml_X7_185 : Cond.methodLink RX7 185 yX7_isDigit ∈ ka_T := List.mem_filter.mpr ⟨List.mem_of_getElem? (i := 1113) (by decide +kernel), by decide +kernel⟩
theorem ka_q_im_X7_isDigit : Cond.instanceMethod yX7_isDigit ∈ ka_T := List.mem_filter.mpr ⟨List.mem_of_getElem? (i := 1115) (by decide +kernel), by decide +kernel⟩
theorem ka_q_co_X7_isDigit : Cond.code yX7_isDigit prog_9_method_64_code 1 (some FieldType.boolean) ∈ ka_T := List.mem_filter.mpr ⟨List.mem_of_getElem? (i := 1116) (by decide +kernel), by decide +kernel⟩
theorem ka_q_ml_X7_204 : Cond.methodLink RX7 204 yX7_called ∈ ka_T := List.mem_filter.mpr ⟨List.mem_of_getElem? (i := 1117) (by decide +kernel), by decide +kernel⟩
theorem ka_q_im_X7_called : Cond.instanceMethod yX7_called ∈ ka_T := List.mem_filter.mpr ⟨List.mem_of_getElem? (i := 1119) (by decide +kernel), by decide +kernel⟩
theorem ka_q_co_X7_called : Cond.code yX7_called prog_9_method_68_code 2 (some FieldType.int) ∈ ka_T := List.mem_filter.mpr ⟨List.mem_of_getElem? (i := 1120) (by decide +kernel), by decide +kernel⟩
theorem ka_q_ml_L_105 : Cond.methodLink RL 105 yX7_play ∈ ka_T := List.mem_filter.mpr ⟨List.mem_of_getElem? (i := 1121) (by decide +kernel), by decide +kernel⟩
theorem ka_q_im_X7_play : Cond.instanceMethod yX7_play ∈ ka_T := List.mem_filter.mpr ⟨List.mem_of_getElem? (i := 1122) (by decide +kernel), by decide +kernel⟩
theorem ka_q_se_X7_play : Cond.selects RX7 yX7_play yX7_play ∈ ka_T := List.mem_filter.mpr ⟨List.mem_of_getElem? (i := 1123) (by decide +kernel), by decide +kernel⟩
theorem ka_q_co_X7_play : Cond.code yX7_play prog_9_method_71_code 1 (some FieldType.int) ∈ ka_T := List.mem_filter.mpr ⟨List.mem_of_getElem? (i := 1124) (by decide +kernel), by decide +kernel⟩
end
section
theorem ka_E_pool {G : ka_G} {r : Nat} (hr : r < 6) {f : Nat → Int32} : ka_E G r 0 f = .inr (3, [.ref (ka_ad G r 1), .ref (ka_ad G r 7), .ref (ka_ad G r 28), .ref (ka_ad G r 29), .ref (ka_ad G r 30), .int (f 5), .int (f 6), .int (f 7), .int (f 8), .int (f 9), .int (f 10)]) := by
  unfold ka_E
  rw [if_pos hr, if_pos rfl]
theorem ka_E_places {G : ka_G} {r : Nat} (hr : r < 6) {f : Nat → Int32} : ka_E G r 1 f = .inl (ka_ca G 1, 5, .inr (.inr (.inr (.inr (fun k => some (ka_ad G r (2 + k))))))) := by
  unfold ka_E
  rw [if_pos hr, if_neg (by decide), if_pos rfl]
theorem ka_E_place {G : ka_G} {r : Nat} (hr : r < 6) {k : Nat} (hk : k < 5) {f : Nat → Int32} : ka_E G r (2 + k) f = .inr (2, [.int (f 0), .int (f 1), .int (f 2), .int (f 3), .int (f 4), .int (f 5)]) := by
  unfold ka_E
  rw [if_pos hr, if_neg (by omega), if_neg (by omega), if_pos (by omega)]
theorem ka_E_wagons {G : ka_G} {r : Nat} (hr : r < 6) {f : Nat → Int32} : ka_E G r 7 f = .inl (ka_ca G 2, 20, .inr (.inr (.inr (.inr (fun k => some (ka_ad G r (8 + k))))))) := by
  unfold ka_E
  rw [if_pos hr, if_neg (by decide), if_neg (by decide), if_neg (by decide), if_pos rfl]
theorem ka_E_wagon {G : ka_G} {r : Nat} (hr : r < 6) {k : Nat} (hk : k < 20) {f : Nat → Int32} : ka_E G r (8 + k) f = .inr (5, [.int (f 0), .int (f 1), .int (f 2), .int (ka_b (ka_t (f 3))), .int (f 4), .int (f 5), .int (f 6), .int (f 7), .int (f 8)]) := by
  unfold ka_E
  rw [if_pos hr, if_neg (by omega), if_neg (by omega), if_neg (by omega), if_neg (by omega), if_pos (by omega)]
theorem ka_E_legs {G : ka_G} {r : Nat} (hr : r < 6) {f : Nat → Int32} : ka_E G r 28 f = .inl (ka_ca G 0, 25, .inl f) := by
  unfold ka_E
  rw [if_pos hr, if_neg (by decide), if_neg (by decide), if_neg (by decide), if_neg (by decide), if_neg (by decide), if_pos rfl]
theorem ka_E_sett {G : ka_G} {r : Nat} (hr : r < 6) {f : Nat → Int32} : ka_E G r 29 f = .inl (ka_ca G 0, 7, .inl f) := by
  unfold ka_E
  rw [if_pos hr, if_neg (by decide), if_neg (by decide), if_neg (by decide), if_neg (by decide), if_neg (by decide), if_neg (by decide), if_pos rfl]
theorem ka_E_shop {G : ka_G} {r : Nat} (hr : r < 6) {f : Nat → Int32} : ka_E G r 30 f = .inr (4, [.ref (ka_ad G r 31), .int (f 1)]) := by
  unfold ka_E
  rw [if_pos hr, if_neg (by decide), if_neg (by decide), if_neg (by decide), if_neg (by decide), if_neg (by decide), if_neg (by decide), if_neg (by decide), if_pos rfl]
theorem ka_E_queue {G : ka_G} {r : Nat} (hr : r < 6) {f : Nat → Int32} : ka_E G r 31 f = .inl (ka_ca G 0, 20, .inl f) := by
  unfold ka_E
  rw [if_pos hr, if_neg (by decide), if_neg (by decide), if_neg (by decide), if_neg (by decide), if_neg (by decide), if_neg (by decide), if_neg (by decide), if_neg (by decide)]
theorem ka_E_hist {G : ka_G} {f : Nat → Int32} : ka_E G 6 0 f = .inr (0, [.ref (ka_ad G 6 1), .int (f 1), .int (f 2)]) := by
  unfold ka_E
  rfl
theorem ka_E_states {G : ka_G} {f : Nat → Int32} : ka_E G 6 1 f = .inl (ka_ca G 3, 4, .inr (.inr (.inr (.inr (fun k => some (ka_ad G (2 + k) 0)))))) := by
  unfold ka_E
  rfl
theorem ka_E_text {G : ka_G} {f : Nat → Int32} : ka_E G 7 0 f = .inr (1, [.ref (ka_ad G 7 1), .ref (ka_ad G 7 2), .int (f 2), .int (f 3), .int (f 4), .int (f 5), .int (f 6), .int (f 7), .int (f 8)]) := by
  unfold ka_E
  rfl
theorem ka_E_signs {G : ka_G} {f : Nat → Int32} : ka_E G 7 1 f = .inl (ka_ca G 0, 60, .inl f) := by
  unfold ka_E
  rfl
theorem ka_E_nums {G : ka_G} {f : Nat → Int32} : ka_E G 7 2 f = .inl (ka_ca G 0, 4, .inl f) := by
  unfold ka_E
  rfl
theorem ka_E_coal {G : ka_G} {f : Nat → Int32} : ka_E G 8 0 f = .inr (6, [.ref (ka_ad G 0 0), .ref (ka_ad G 1 0), .ref (ka_ad G 6 0), .ref (ka_ad G 7 0)]) := by
  unfold ka_E
  rfl
theorem ka_E_model {G : ka_G} {f : Nat → Int32} : ka_E G 9 0 f = .inr (7, [.ref (ka_ad G 9 1), .ref (ka_ad G 9 2), .ref (ka_ad G 9 3), .ref (ka_ad G 9 4), .int (f 4), .ref (ka_ad G 9 5), .int (f 6), .int (f 7), .int (f 8), .int (f 9), .int (f 10), .int (ka_b (ka_t (f 11))), .ref (ka_ad G 9 6)]) := by
  unfold ka_E
  rfl
theorem ka_E_ms {G : ka_G} {f : Nat → Int32} : ka_E G 9 1 f = .inl (ka_ca G 0, 269, .inl f) := by
  unfold ka_E
  rfl
theorem ka_E_mbegun {G : ka_G} {f : Nat → Int32} : ka_E G 9 2 f = .inl (ka_ca G 0, 269, .inl f) := by
  unfold ka_E
  rfl
theorem ka_E_maside {G : ka_G} {f : Nat → Int32} : ka_E G 9 3 f = .inl (ka_ca G 0, 269, .inl f) := by
  unfold ka_E
  rfl
theorem ka_E_mpast {G : ka_G} {f : Nat → Int32} : ka_E G 9 4 f = .inl (ka_ca G 0, 1076, .inl f) := by
  unfold ka_E
  rfl
theorem ka_E_mtext {G : ka_G} {f : Nat → Int32} : ka_E G 9 5 f = .inl (ka_ca G 0, 60, .inl f) := by
  unfold ka_E
  rfl
theorem ka_E_mnums {G : ka_G} {f : Nat → Int32} : ka_E G 9 6 f = .inl (ka_ca G 0, 4, .inl f) := by
  unfold ka_E
  rfl
def ka_Rc (G : ka_G) (V : ka_W) (b : Nat) (C : String) : Prop := ∃ (i r o ci : Nat) (fs : List Value) (q : vw_C), ka_ix[i]? = some (r, o) ∧ b = ka_ad G r o ∧ ka_E G r o (V r o) = .inr (ci, fs) ∧ vwCl[ci]? = some q ∧ q.1 = C
theorem ka_Rc_pool {G : ka_G} {V : ka_W} {r : Nat} (hr : r < 6) : ka_Rc G V (ka_ad G r 0) RX3 := ⟨_, _, _, _, _, _, (ka_ixp _ hr 0 (by decide)), rfl, ka_E_pool hr, rfl, rfl⟩
theorem ka_Rc_place {G : ka_G} {V : ka_W} {r : Nat} (hr : r < 6) {k : Nat} (hk : k < 5) : ka_Rc G V (ka_ad G r (2 + k)) RX2 := ⟨_, _, _, _, _, _, (ka_ixp _ hr (2 + k) (by omega)), rfl, ka_E_place hr hk, rfl, rfl⟩
theorem ka_Rc_wagon {G : ka_G} {V : ka_W} {r : Nat} (hr : r < 6) {k : Nat} (hk : k < 20) : ka_Rc G V (ka_ad G r (8 + k)) RX5 := ⟨_, _, _, _, _, _, (ka_ixp _ hr (8 + k) (by omega)), rfl, ka_E_wagon hr hk, rfl, rfl⟩
theorem ka_Rc_shop {G : ka_G} {V : ka_W} {r : Nat} (hr : r < 6) : ka_Rc G V (ka_ad G r 30) RX4 := ⟨_, _, _, _, _, _, (ka_ixp _ hr 30 (by decide)), rfl, ka_E_shop hr, rfl, rfl⟩
theorem ka_Rc_hist {G : ka_G} {V : ka_W} : ka_Rc G V (ka_ad G 6 0) RX0 := ⟨_, _, _, _, _, _, ka_ix_60, rfl, ka_E_hist , rfl, rfl⟩
theorem ka_Rc_text {G : ka_G} {V : ka_W} : ka_Rc G V (ka_ad G 7 0) RX1 := ⟨_, _, _, _, _, _, ka_ix_70, rfl, ka_E_text , rfl, rfl⟩
theorem ka_Rc_coal {G : ka_G} {V : ka_W} : ka_Rc G V (ka_ad G 8 0) RX6 := ⟨_, _, _, _, _, _, ka_ix_80, rfl, ka_E_coal , rfl, rfl⟩
theorem ka_Rc_model {G : ka_G} {V : ka_W} : ka_Rc G V (ka_ad G 9 0) RX7 := ⟨_, _, _, _, _, _, ka_ix_90, rfl, ka_E_model , rfl, rfl⟩
section KB
variable {G : ka_G} {X : ka_X} {cc : ByteArray} {own : String} {nL d : Nat} {V : ka_W} {pc : Nat} {L st : List Value}
theorem ka_get {i r o ci idx N : Nat} {C ref : String} {T : u_T} {fs : List Value} {v : Value} (hC : ka_C G X cc own nL d) (hi : ka_ix[i]? = some (r, o)) (hE : ka_E G r o (V r o) = .inr (ci, fs)) (hc : vwCl[ci]? = some (C, T, N)) (k0 : Nat) (hk : k0 < N) (hin : ∀ w ∈ u_ws C T N, w ∈ ka_T) (hq : Cond.fieldLink own idx ref (T k0).2.1 (T k0).2.2.1 ∈ ka_T) (href : ref = (T k0).1) (hv : fs[k0]? = some v) (hd : decode cc pc = .ok (.getfield idx, 3)) (kk : ka_I G X V (pc + 3) L (v :: st)) : ka_I G X V pc L (.ref (ka_ad G r o) :: st) := by
  obtain ⟨p, e, R, s, m, args, below, meth, c, A0, k, n, Q⟩ := X
  intro H locs ls hP hS hL
  exact va_get hC.1 hC.2.1 hC.2.2.2.2.1 hin hC.2.2.2.1 hC.2.2.2.2.2.1 hP i (by rw [ka_wl_at hi, hE]) hc k0 hk (hC.2.2.2.2.1 _ hq) (fun x hx => by rw [href]; exact hx) hv hd (kk H locs ls hP hS hL)
theorem ka_getN {i r o ci idx N : Nat} {C ref host : String} {T : u_T} {fs : List Value} {v : Value} (hC : ka_C G X cc own nL d) (hi : ka_ix[i]? = some (r, o)) (hE : ka_E G r o (V r o) = .inr (ci, fs)) (hc : vwCl[ci]? = some (C, T, N)) (k0 : Nat) (hk : k0 < N) (hin : ∀ w ∈ u_ws C T N, w ∈ ka_T) (hq : (own, idx, ref, (T k0).2.1, (T k0).2.2.1, host) ∈ ka_nF) (href : ref = (T k0).1) (hv : fs[k0]? = some v) (hd : decode cc pc = .ok (.getfield idx, 3)) (kk : ka_I G X V (pc + 3) L (v :: st)) : ka_I G X V pc L (.ref (ka_ad G r o) :: st) := by
  obtain ⟨p, e, R, s, m, args, below, meth, c, A0, k, n, Q⟩ := X
  intro H locs ls hP hS hL
  exact va_getN (host := host) hC.1 hC.2.1 hC.2.2.2.2.1 hin hC.2.2.2.1 hC.2.2.2.2.2.1 hP i (by rw [ka_wl_at hi, hE]) hc k0 hk (va_Nw.use rfl (hC.2.2.2.2.2.2.1.1 _ hq)) (fun x hx => by rw [href]; exact hx) hv hd (kk H locs ls hP hS hL)
theorem ka_put {i r o ci idx N : Nat} {C ref : String} {T : u_T} {fs : List Value} {v : Value} {ty : FieldType} {x : Int32} {ty0 : Nat → FieldType} (hC : ka_C G X cc own nL d) (hi : ka_ix[i]? = some (r, o)) (hE : ka_E G r o (V r o) = .inr (ci, fs)) (hc : vwCl[ci]? = some (C, T, N)) (k0 : Nat) (hk : k0 < N) (hin : ∀ w ∈ u_ws C T N, w ∈ ka_T) (hty : ∀ k, k < N → parseFieldDescriptor (T k).2.2.1 = some (ty0 k)) (hnm : ∀ a, a < N → ∀ b, b < N → a ≠ b → (T a).2.1 ≠ (T b).2.1) (hq : Cond.fieldLink own idx ref (T k0).2.1 (T k0).2.2.1 ∈ ka_T) (href : ref = (T k0).1) (hfin : (T k0).2.2.2 = false) (hdt : parseFieldDescriptor (T k0).2.2.1 = some ty) (hn : narrow ty v = v) (hfit : fits ty v = true) (hl : k0 < fs.length) (hE2 : ka_E G r o (upd (V r o) k0 x) = .inr (ci, fs.set k0 v)) (hd : decode cc pc = .ok (.putfield idx, 3)) (kk : ka_I G X (ka_st V r o (upd (V r o) k0 x)) (pc + 3) L st) : ka_I G X V pc L (v :: .ref (ka_ad G r o) :: st) := by
  obtain ⟨p, e, R, s, m, args, below, meth, c, A0, k, n, Q⟩ := X
  intro H locs ls hP hS hL
  have he : (ka_wl G V)[i]? = some (ka_ad G r o, .inr (ci, fs)) := by rw [ka_wl_at hi, hE]
  refine va_put hC.1 hC.2.1 hC.2.2.2.2.1 hin ty0 hty hnm hC.2.2.2.1 hC.2.2.2.2.2.1 hP (ka_wlD hC.2.2.2.2.2.2.2.2.1 hC.2.2.2.2.2.2.2.2.2.1) hS i he hc k0 hk (hC.2.2.2.2.1 _ hq) (fun x hx => by rw [href]; exact hx) hfin hdt hn hfit hl hd (fun H1 locs1 hP1 _ hS1 => kk H1 locs1 ls ?_ hS1 hL)
  rw [← ka_wl_set hi, hE2]
  exact hP1
theorem ka_putN {i r o ci idx N : Nat} {C ref host : String} {T : u_T} {fs : List Value} {v : Value} {ty : FieldType} {x : Int32} {ty0 : Nat → FieldType} (hC : ka_C G X cc own nL d) (hi : ka_ix[i]? = some (r, o)) (hE : ka_E G r o (V r o) = .inr (ci, fs)) (hc : vwCl[ci]? = some (C, T, N)) (k0 : Nat) (hk : k0 < N) (hin : ∀ w ∈ u_ws C T N, w ∈ ka_T) (hty : ∀ k, k < N → parseFieldDescriptor (T k).2.2.1 = some (ty0 k)) (hnm : ∀ a, a < N → ∀ b, b < N → a ≠ b → (T a).2.1 ≠ (T b).2.1) (hq : (own, idx, ref, (T k0).2.1, (T k0).2.2.1, host) ∈ ka_nF) (href : ref = (T k0).1) (hfin : (T k0).2.2.2 = false) (hdt : parseFieldDescriptor (T k0).2.2.1 = some ty) (hn : narrow ty v = v) (hfit : fits ty v = true) (hl : k0 < fs.length) (hE2 : ka_E G r o (upd (V r o) k0 x) = .inr (ci, fs.set k0 v)) (hd : decode cc pc = .ok (.putfield idx, 3)) (kk : ka_I G X (ka_st V r o (upd (V r o) k0 x)) (pc + 3) L st) : ka_I G X V pc L (v :: .ref (ka_ad G r o) :: st) := by
  obtain ⟨p, e, R, s, m, args, below, meth, c, A0, k, n, Q⟩ := X
  intro H locs ls hP hS hL
  have he : (ka_wl G V)[i]? = some (ka_ad G r o, .inr (ci, fs)) := by rw [ka_wl_at hi, hE]
  refine va_putN (host := host) hC.1 hC.2.1 hC.2.2.2.2.1 hin ty0 hty hnm hC.2.2.2.1 hC.2.2.2.2.2.1 hP (ka_wlD hC.2.2.2.2.2.2.2.2.1 hC.2.2.2.2.2.2.2.2.2.1) hS i he hc k0 hk (va_Nw.use rfl (hC.2.2.2.2.2.2.1.1 _ hq)) (fun x hx => by rw [href]; exact hx) hfin hdt hn hfit hl hd (fun H1 locs1 hP1 _ hS1 => kk H1 locs1 ls ?_ hS1 hL)
  rw [← ka_wl_set hi, hE2]
  exact hP1
theorem ka_iald {i r o N : Nat} {x : Int32} {f : Nat → Int32} (hC : ka_C G X cc own nL d) (hi : ka_ix[i]? = some (r, o)) (hE : ka_E G r o (V r o) = .inl (ka_ca G 0, N, .inl f)) (hx : vp_in x N) (hd : decode cc pc = .ok (.iaload, 1)) (kk : ka_I G X V (pc + 1) L (.int (f x.toNatClampNeg) :: st)) : ka_I G X V pc L (.int x :: .ref (ka_ad G r o) :: st) := by
  obtain ⟨p, e, R, s, m, args, below, meth, c, A0, k, n, Q⟩ := X
  intro H locs ls hP hS hL
  exact va_iald hC.1 hC.2.1 hC.2.2.2.2.2.1 hP i 0 (by rw [ka_wl_at hi, hE]) rfl hx hd (kk H locs ls hP hS hL)
theorem ka_iast {i r o N : Nat} {x v : Int32} {f : Nat → Int32} (hC : ka_C G X cc own nL d) (hi : ka_ix[i]? = some (r, o)) (hE : ∀ f, ka_E G r o f = .inl (ka_ca G 0, N, .inl f)) (hx : vp_in x N) (hd : decode cc pc = .ok (.iastore, 1)) (kk : ka_I G X (ka_st V r o (upd (V r o) x.toNatClampNeg v)) (pc + 1) L st) : ka_I G X V pc L (.int v :: .int x :: .ref (ka_ad G r o) :: st) := by
  obtain ⟨p, e, R, s, m, args, below, meth, c, A0, k, n, Q⟩ := X
  intro H locs ls hP hS hL
  refine va_iast hC.1 hC.2.1 hC.2.2.2.2.2.1 hP (ka_wlD hC.2.2.2.2.2.2.2.2.1 hC.2.2.2.2.2.2.2.2.2.1) hS i 0 (by rw [ka_wl_at hi, hE]) rfl hx hd (fun H1 locs1 hP1 _ hS1 => kk H1 locs1 ls ?_ hS1 hL)
  rw [← ka_wl_set hi, hE]
  exact hP1
theorem ka_aald {i r o N t : Nat} {x : Int32} {f : Nat → Option Nat} {C : String} {b : Nat} (hC : ka_C G X cc own nL d) (hi : ka_ix[i]? = some (r, o)) (hE : ka_E G r o (V r o) = .inl (ka_ca G t, N, .inr (.inr (.inr (.inr f))))) (ht : (ka_ty G)[t]? = some (ka_ca G t, .object C)) (hx : vp_in x N) (hb : f x.toNatClampNeg = some b) (hd : decode cc pc = .ok (.aaload, 1)) (kk : ka_I G X V (pc + 1) L (.ref b :: st)) : ka_I G X V pc L (.int x :: .ref (ka_ad G r o) :: st) := by
  obtain ⟨p, e, R, s, m, args, below, meth, c, A0, k, n, Q⟩ := X
  intro H locs ls hP hS hL
  refine va_aldq hC.1 hC.2.1 hC.2.2.2.2.2.1 hP i t (by rw [ka_wl_at hi, hE]) ht hx hd ?_
  rw [hb]
  exact kk H locs ls hP hS hL
theorem ka_alen {i r o t : Nat} {v : Int32} {x : vp_A} {ty : FieldType} (hC : ka_C G X cc own nL d) (hi : ka_ix[i]? = some (r, o)) (hE : ka_E G r o (V r o) = .inl (ka_ca G t, x)) (ht : (ka_ty G)[t]? = some (ka_ca G t, ty)) (hv : Int32.ofNat x.1 = v) (hd : decode cc pc = .ok (.arraylength, 1)) (kk : ka_I G X V (pc + 1) L (.int v :: st)) : ka_I G X V pc L (.ref (ka_ad G r o) :: st) := by
  obtain ⟨p, e, R, s, m, args, below, meth, c, A0, k, n, Q⟩ := X
  intro H locs ls hP hS hL
  exact va_alen hC.1 hC.2.1 hC.2.2.2.2.2.1 hP i t (by rw [ka_wl_at hi, hE]) ht hv hd (kk H locs ls hP hS hL)
theorem ka_copy {i0 i1 r0 o0 r1 o1 N0 N1 idx : Nat} {sp dp n : Int32} (hC : ka_C G X cc own nL d) (hi0 : ka_ix[i0]? = some (r0, o0)) (hi1 : ka_ix[i1]? = some (r1, o1)) (hE0 : ka_E G r0 o0 (V r0 o0) = .inl (ka_ca G 0, N0, .inl (V r0 o0))) (hE1 : ∀ f, ka_E G r1 o1 f = .inl (ka_ca G 0, N1, .inl f)) (hq : Cond.methodLink own idx arraycopyName ∈ ka_T) (q1 : Cond.native arraycopyName ∈ ka_T) (q2 : Cond.static arraycopyName ∈ ka_T) (q3 : Cond.initialized "java/lang/System" ∈ ka_T) (h1 : ¬ sp < 0) (h2 : ¬ dp < 0) (h3 : ¬ n < 0) (h4 : sp.toNatClampNeg + n.toNatClampNeg ≤ N0) (h5 : dp.toNatClampNeg + n.toNatClampNeg ≤ N1) (hcat : (st.map fun v => v.category).sum ≤ 8) (hdp : 2 ≤ d) (hd : decode cc pc = .ok (.invokestatic idx, 3)) (kk : ka_I G X (ka_st V r1 o1 (va_cpy (V r0 o0) (V r1 o1) sp.toNatClampNeg dp.toNatClampNeg n.toNatClampNeg)) (pc + 3) L st) : ka_I G X V pc L (.int n :: .int dp :: .ref (ka_ad G r1 o1) :: .int sp :: .ref (ka_ad G r0 o0) :: st) := by
  obtain ⟨p, e, R, s, m, args, below, meth, c, A0, k, n', Q⟩ := X
  intro H locs ls hP hS hL
  refine va_copyi hC.1 hC.2.1 hL.1.1.symm hC.2.2.2.1 (hC.2.2.2.2.1 _ hq) (hC.2.2.2.2.1 _ q1) (hC.2.2.2.2.1 _ q2) (hC.2.2.2.2.1 _ q3) hC.2.2.2.2.2.1 hP (ka_wlD hC.2.2.2.2.2.2.2.2.1 hC.2.2.2.2.2.2.2.2.2.1) hS i0 i1 0 0 (by rw [ka_wl_at hi0, hE0]) (by rw [ka_wl_at hi1, hE1]) rfl rfl rfl h1 h2 h3 h4 h5 (fun _ _ => rfl) (Nat.le_trans (by omega) hC.2.2.2.2.2.2.2.2.2.2.1) ?_ hd (fun H1 locs1 hP1 _ hS1 => kk H1 locs1 ls ?_ hS1 hL)
  · have h6 := hC.2.2.2.2.2.2.2.2.2.2.2.1
    have h7 : nativeFrameWords "java/lang/System" "arraycopy" 5 ≤ 30 := by decide
    omega
  · rw [← ka_wl_set hi1, hE1]
    exact hP1
theorem ka_max {x y : Int32} {idx : Nat} (hC : ka_C G X cc own nL d) (hq : Cond.methodLink own idx Lib.Math.max.name ∈ ka_T) (q2 : Cond.static Lib.Math.max.name ∈ ka_T) (q3 : Cond.initialized "java/lang/Math" ∈ ka_T) (q4 : Cond.code Lib.Math.max.name Lib.Math.max.code 2 (some .int) ∈ ka_T) (hcat : (st.map fun v => v.category).sum ≤ 8) (hdp : 1 ≤ d) (hd : decode cc pc = .ok (.invokestatic idx, 3)) (kk : ka_I G X V (pc + 3) L (.int (if x < y then y else x) :: st)) : ka_I G X V pc L (.int y :: .int x :: st) := by
  obtain ⟨p, e, R, s, m, args, below, meth, c, A0, k, n', Q⟩ := X
  intro H locs ls hP hS hL
  have h6 := hC.2.2.2.2.2.2.2.2.2.2
  exact va_mmax hC.1 hC.2.1 hL.1.1.symm hC.2.2.2.1 (hC.2.2.2.2.1 _ hq) (hC.2.2.2.2.1 _ q2) (hC.2.2.2.2.1 _ q3) (hC.2.2.2.2.1 _ q4) (Nat.le_trans hdp h6.1) (by omega) h6.2.2.1 h6.2.2.2 hd (kk H locs ls hP hS hL)
theorem ka_min {x y : Int32} {idx : Nat} (hC : ka_C G X cc own nL d) (hq : Cond.methodLink own idx Lib.Math.min.name ∈ ka_T) (q2 : Cond.static Lib.Math.min.name ∈ ka_T) (q3 : Cond.initialized "java/lang/Math" ∈ ka_T) (q4 : Cond.code Lib.Math.min.name Lib.Math.min.code 2 (some .int) ∈ ka_T) (hcat : (st.map fun v => v.category).sum ≤ 8) (hdp : 1 ≤ d) (hd : decode cc pc = .ok (.invokestatic idx, 3)) (kk : ka_I G X V (pc + 3) L (.int (if y < x then y else x) :: st)) : ka_I G X V pc L (.int y :: .int x :: st) := by
  obtain ⟨p, e, R, s, m, args, below, meth, c, A0, k, n', Q⟩ := X
  intro H locs ls hP hS hL
  have h6 := hC.2.2.2.2.2.2.2.2.2.2
  exact va_mmin hC.1 hC.2.1 hL.1.1.symm hC.2.2.2.1 (hC.2.2.2.2.1 _ hq) (hC.2.2.2.2.1 _ q2) (hC.2.2.2.2.1 _ q3) (hC.2.2.2.2.1 _ q4) (Nat.le_trans hdp h6.1) (by omega) h6.2.2.1 h6.2.2.2 hd (kk H locs ls hP hS hL)
/-- calls -/
def ka_y (y : MethodName) (n : Nat) : Prop := y.cls ≠ "java/lang/invoke/MethodHandle" ∧ y.cls ≠ "java/lang/invoke/VarHandle" ∧ (parseMethodDescriptor y.desc).map (fun d => d.parameters.length) = some n
theorem ka_blind {G : ka_G} {V : ka_W} {As : List Value} : FrameBlind (fun (a : Array Value) (U : State) => a = As.toArray ∧ ka_Pre G V U) := fun a U g mk q => ⟨q.1, q.2.1, va_K.moved (u := U) (U := U.calling g mk a) (Vm.Alike.refl U.vm) q.2.2.1, ka_NW.same (s := U) (U := U.calling g mk a) rfl q.2.2.2.1, ka_SZ.moved (u := U) (U := U.calling g mk a) (Vm.Alike.refl U.vm) q.2.2.2.2⟩
theorem ka_after {p : Program} {e : Env} {R : Room} {s : State} {m : MethodId} {args : Array Value} {below : List Frame} {meth : Method} {c : Code} {A0 : Nat → Prop} {k n : Nat} {Q : State → Prop} {H : Heap} {locs : List Loc} {ls : Array Slot} {st0 rest : List Value} {v : Option Value} {V' : ka_W}
    (hr : va_Run p G.1 e R s m args below meth c H locs k n 0 0 (F0 m pc ls st0) rest (fun st oc t => oc = .returned v ∧ ka_Pre G V' t ∧ va_F (ka_A G) st t) (ka_A G)) (hA : ∀ q, ka_A G q → A0 q) (hS : va_S A0 s.heap H locs) (hL : ka_L ls c.maxLocals L)
    (kk : ka_I G (p, e, R, s, m, args, below, meth, c, A0, k, n, Q) V' (pc + 3) L (v.toList ++ rest)) : W p G.1 e R s m args below meth c H locs k n Q (F0 m pc ls st0) := by
  intro T hT X
  obtain ⟨v', st₀, t, T', L2, h0, X', hL2, e1, e2, ⟨hv, hp, hz, hk⟩, st⟩ := hr T hT X
  cases hv
  rw [h0] at hz hk
  obtain ⟨t2, a1, b1⟩ := kk T'.heap (locs ++ L2) ls (by rw [e1]; exact hp.1)
    ⟨Nat.le_trans hS.1 (by rw [e1]; exact hz), fun q h1 h2 => by rw [e1, hk q (Nat.lt_of_lt_of_le h1 hS.1) (fun z => h2 (hA q z))]; exact hS.2.1 q h1 h2, fun q hq => by
      rcases List.mem_append.mp hq with h | h
      · exact hS.2.2 q h
      · exact hA _ (hL2 q h)⟩ hL T' rfl X'
  exact ⟨t2, st t2 a1, b1⟩
theorem ka_pre {p : Program} {e : Env} {R : Room} {s : State} {m : MethodId} {args : Array Value} {below : List Frame} {meth : Method} {c : Code} {A0 : Nat → Prop} {k n : Nat} {Q : State → Prop} {H : Heap} {locs : List Loc} (hC : ka_C G (p, e, R, s, m, args, below, meth, c, A0, k, n, Q) cc own nL d) (hP : va_P G.2.1 vwCl (ka_wl G V) H) (hS : va_S A0 s.heap H locs) (U : State) (hU : U.heap = H) (hW : s.WarmedH U.vm) : ka_Pre G V U :=
  ⟨by rw [hU]; exact hP, va_K.moved hW.alike hC.2.2.2.2.2.1, ka_NW.warm hW hC.2.2.2.2.2.2.1, by rw [hU]; exact ((hC.2.2.2.2.2.2.2.1.kept (fun a h1 h2 => hS.2.1 a h1 h2)).moved hW.alike).narrow hC.2.2.2.2.2.2.2.2.2.1⟩
theorem ka_goodV {own C : String} {idx : Nat} {y : MethodName} {bytes : ByteArray} {maxL : Nat} {ret : Option FieldType} (q1 : Cond.methodLink own idx y ∈ ka_T) (q2 : Cond.instanceMethod y ∈ ka_T) (q3 : Cond.selects C y y ∈ ka_T) (q4 : Cond.initialized C ∈ ka_T) (q5 : Cond.code y bytes maxL ret ∈ ka_T) : GoodIn ka_T (wsV own idx C y (ka_ws y bytes maxL ret)) := by
  intro w hw
  refine ka_T_good w ?_
  simp only [wsV, ka_ws, List.cons_append, List.nil_append, List.mem_cons] at hw
  rcases hw with rfl | rfl | rfl | rfl | rfl | h
  · exact q1
  · exact q2
  · exact q3
  · exact q4
  · exact q5
  · exact h
theorem ka_goodS {own : String} {idx : Nat} {y : MethodName} {bytes : ByteArray} {maxL : Nat} {ret : Option FieldType} (q1 : Cond.methodLink own idx y ∈ ka_T) (q2 : Cond.static y ∈ ka_T) (q4 : Cond.initialized y.cls ∈ ka_T) (q5 : Cond.code y bytes maxL ret ∈ ka_T) : GoodIn ka_T (va_wsS own idx y (ka_ws y bytes maxL ret)) := by
  intro w hw
  refine ka_T_good w ?_
  simp only [va_wsS, ka_ws, List.cons_append, List.nil_append, List.mem_cons] at hw
  rcases hw with rfl | rfl | rfl | rfl | h
  · exact q1
  · exact q2
  · exact q4
  · exact q5
  · exact h
theorem ka_goodW {y : MethodName} {bytes : ByteArray} {maxL : Nat} {ret : Option FieldType} (q5 : Cond.code y bytes maxL ret ∈ ka_T) : GoodIn ka_T (ka_ws y bytes maxL ret) := by
  intro w hw
  refine ka_T_good w ?_
  simp only [ka_ws, List.mem_cons] at hw
  rcases hw with rfl | h
  · exact q5
  · exact h
theorem ka_callV {y : MethodName} {bytes : ByteArray} {maxL d' b idx : Nat} {ret : Option FieldType} {As rest : List Value} {v : Option Value} {V' : ka_W} {C : String} (hC : ka_C G X cc own nL d) (hM : ka_M G y bytes maxL ret d' (.ref b :: As) V v V') (hRc : ka_Rc G V b C) (hyC : y.cls = C) (q1 : Cond.methodLink own idx y ∈ ka_T) (q2 : Cond.instanceMethod y ∈ ka_T) (q3 : Cond.selects C y y ∈ ka_T) (q4 : Cond.initialized C ∈ ka_T) (q5 : Cond.code y bytes maxL ret ∈ ka_T) (hy : ka_y y As.length) (hdd : d' + 1 ≤ d) (hm : maxL ≤ 13) (hcat : (rest.map fun v => v.category).sum ≤ 8) (hst : st = As.reverse ++ .ref b :: rest) (hd : decode cc pc = .ok (.invokevirtual idx, 3)) (kk : ka_I G X V' (pc + 3) L (v.toList ++ rest)) : ka_I G X V pc L st := by
  subst hst
  obtain ⟨p, e, R, s, m, args, below, meth, c, A0, k, n, Q⟩ := X
  intro H locs ls hP hS hL
  obtain ⟨i, r, o, ci, fs, q, h1, h2, h3, h4, h5⟩ := hRc
  have h6 := hC.2.2.2.2.2.2.2.2.2.2
  refine ka_after (va_runV (C := C) (Ts := ka_T) (own := own) ⟨hC.1, hC.2.1, hC.2.2.1, hC.2.2.2.1, hC.2.2.2.2.1⟩ hM (cwV As.length hC.2.2.2.2.1 (ka_goodV q1 q2 q3 q4 q5) rfl rfl rfl ⟨hyC, hy⟩ ⟨Nat.le_trans hdd h6.1, by show 8 + (maxL + 11) + 32 * d' ≤ _; omega⟩) ⟨ka_blind, ?_, fun U hU hW => ⟨rfl, ka_pre hC hP hS U hU hW⟩⟩ rfl rfl (by rw [← hC.2.2.1]; exact hL.1.1) rfl (lv_room hcat) hd ⟨h6.2.2.1, h6.2.2.2⟩) hC.2.2.2.2.2.2.2.2.2.1 hS hL kk
  subst h2
  rw [← h5]
  exact va_recv hC.2.2.2.2.2.1 hP h4 (by rw [ka_wl_at h1, h3])
theorem ka_callS {y : MethodName} {bytes : ByteArray} {maxL d' idx : Nat} {ret : Option FieldType} {As rest : List Value} {v : Option Value} {V' : ka_W} (hC : ka_C G X cc own nL d) (hM : ka_M G y bytes maxL ret d' As V v V') (q1 : Cond.methodLink own idx y ∈ ka_T) (q2 : Cond.static y ∈ ka_T) (q4 : Cond.initialized y.cls ∈ ka_T) (q5 : Cond.code y bytes maxL ret ∈ ka_T) (hy : ka_y y As.length) (hdd : d' + 1 ≤ d) (hm : maxL ≤ 13) (hcat : (rest.map fun v => v.category).sum ≤ 8) (hst : st = As.reverse ++ rest) (hd : decode cc pc = .ok (.invokestatic idx, 3)) (kk : ka_I G X V' (pc + 3) L (v.toList ++ rest)) : ka_I G X V pc L st := by
  subst hst
  obtain ⟨p, e, R, s, m, args, below, meth, c, A0, k, n, Q⟩ := X
  intro H locs ls hP hS hL
  have h6 := hC.2.2.2.2.2.2.2.2.2.2
  exact ka_after (va_runS (Ts := ka_T) (own := own) ⟨hC.1, hC.2.1, hC.2.2.1, hC.2.2.2.1, hC.2.2.2.2.1⟩ hM (va_cwS As.length hC.2.2.2.2.1 (ka_goodS q1 q2 q4 q5) rfl rfl rfl hy ⟨Nat.le_trans hdd h6.1, by show 8 + (maxL + 11) + 32 * d' ≤ _; omega⟩) ⟨ka_blind, fun U hU hW => ⟨rfl, ka_pre hC hP hS U hU hW⟩⟩ rfl rfl (by rw [← hC.2.2.1]; exact hL.1.1) rfl (lv_room hcat) hd ⟨h6.2.2.1, h6.2.2.2⟩) hC.2.2.2.2.2.2.2.2.2.1 hS hL kk
theorem ka_callSN {y : MethodName} {bytes : ByteArray} {maxL d' idx : Nat} {ret : Option FieldType} {As rest : List Value} {v : Option Value} {V' : ka_W} {host : String} (hC : ka_C G X cc own nL d) (hM : ka_M G y bytes maxL ret d' As V v V') (q1 : (own, idx, y, host) ∈ ka_nM) (q2 : Cond.static y ∈ ka_T) (q4 : Cond.initialized y.cls ∈ ka_T) (q5 : Cond.code y bytes maxL ret ∈ ka_T) (hy : ka_y y As.length) (hdd : d' + 1 ≤ d) (hm : maxL ≤ 13) (hcat : (rest.map fun v => v.category).sum ≤ 8) (hst : st = As.reverse ++ rest) (hd : decode cc pc = .ok (.invokestatic idx, 3)) (kk : ka_I G X V' (pc + 3) L (v.toList ++ rest)) : ka_I G X V pc L st := by
  subst hst
  obtain ⟨p, e, R, s, m, args, below, meth, c, A0, k, n, Q⟩ := X
  intro H locs ls hP hS hL
  have h6 := hC.2.2.2.2.2.2.2.2.2.2
  exact ka_after (va_runSN (Ts := ka_T) (own := own) (host := host) ⟨hC.1, hC.2.1, hC.2.2.1, hC.2.2.2.1, hC.2.2.2.2.1⟩ hM ⟨va_cnB As.length hC.2.2.2.2.1 (ka_goodW q5) rfl rfl rfl (hC.2.2.2.2.2.2.1.2 _ q1) (hC.2.2.2.2.1 _ q4) hy ⟨Nat.le_trans hdd h6.1, by show 8 + (maxL + 11) + 32 * d' ≤ _; omega⟩, hC.2.2.2.2.1 _ q2, trivial⟩ ⟨ka_blind, fun U hU hW => ⟨rfl, ka_pre hC hP hS U hU hW⟩⟩ rfl rfl (by rw [← hC.2.2.1]; exact hL.1.1) rfl (lv_room hcat) hd ⟨h6.2.2.1, h6.2.2.2⟩) hC.2.2.2.2.2.2.2.2.2.1 hS hL kk
theorem ka_gstat {idx : Nat} {f : String} {fn : Nat → Int32} {host : String} (hC : ka_C G X cc own nL d) (hq : (own, idx, RX6, f, "[I", host) ∈ ka_nF) (hs : ∀ (A : Nat → Prop) (s : State), ka_SZ A s s.heap → ∃ t : Nat, va_Z RX6 f "[I" (.ref t) A s s.heap ∧ va_T .int t 7 (fun j => .int (fn j)) A s s.heap) (hd : decode cc pc = .ok (.getstatic idx, 3)) (kk : ∀ t : Nat, (∀ {pc : Nat} {st : List Value} {i : Int32}, vp_in i 7 → decode cc pc = .ok (.iaload, 1) → ka_I G X V (pc + 1) L (.int (fn i.toNatClampNeg) :: st) → ka_I G X V pc L (.int i :: .ref t :: st)) → ka_I G X V (pc + 3) L (.ref t :: st)) : ka_I G X V pc L st := by
  obtain ⟨p, e, R, s, m, args, below, meth, c, A0, k, n, Q⟩ := X
  obtain ⟨t, h1, h2⟩ := hs A0 s hC.2.2.2.2.2.2.2.1
  intro H locs ls hP hS hL
  refine va_getsN (host := host) hC.1 hC.2.1 h1 hS hC.2.2.2.1 (va_Nw.use rfl (hC.2.2.2.2.2.2.1.1 _ hq)) (fun x hx => hx) hd (kk t ?_ H locs ls hP hS hL)
  intro pc st i hin hd2 k2 H locs ls hP hS hL
  exact va_ti hC.1 hC.2.1 h2 hS hin rfl hd2 (k2 H locs ls hP hS hL)
theorem kg_X0_11 (hC : ka_C G X cc RX0 nL d) (hd : decode cc pc = .ok (.getfield 11, 3)) (kk : ka_I G X V (pc + 3) L (.ref (ka_ad G 6 1) :: st)) : ka_I G X V pc L (.ref (ka_ad G 6 0) :: st) := ka_get hC ka_ix_60 (ka_E_hist ) rfl 0 (by decide) ka_in0 ka_q_fl_X0_11 rfl rfl hd kk
theorem kg_X0_18 (hC : ka_C G X cc RX0 nL d) (hd : decode cc pc = .ok (.getfield 18, 3)) (kk : ka_I G X V (pc + 3) L (.int (V 6 0 2) :: st)) : ka_I G X V pc L (.ref (ka_ad G 6 0) :: st) := ka_get hC ka_ix_60 (ka_E_hist ) rfl 2 (by decide) ka_in0 ka_q_fl_X0_18 rfl rfl hd kk
theorem kgp_X0_18 {P : Nat → Nat → Int32} (hC : ka_C G X cc RX0 nL d) (hd : decode cc pc = .ok (.getfield 18, 3)) (kk : ka_I G X (ka_sp V 6 P) (pc + 3) L (.int (P 0 2) :: st)) : ka_I G X (ka_sp V 6 P) pc L (.ref (ka_ad G 6 0) :: st) := kg_X0_18  hC hd (by rw [ka_sp_s]; exact kk)
theorem kp_X0_18 {x : Int32} (hC : ka_C G X cc RX0 nL d) (hd : decode cc pc = .ok (.putfield 18, 3)) (kk : ka_I G X (ka_st V 6 0 (upd (V 6 0) 2 x)) (pc + 3) L st) : ka_I G X V pc L (.int x :: .ref (ka_ad G 6 0) :: st) := ka_put (x := x) hC ka_ix_60 (ka_E_hist ) rfl 2 (by decide) ka_in0 tyX0_ok nmX0 ka_q_fl_X0_18 rfl rfl (ty := .int) (by decide +kernel) rfl rfl (Nat.le_of_ble_eq_true rfl) (by rw [ka_E_hist ]; rfl) hd kk
theorem kpp_X0_18 {P : Nat → Nat → Int32} {x : Int32} (hC : ka_C G X cc RX0 nL d) (hd : decode cc pc = .ok (.putfield 18, 3)) (kk : ka_I G X (ka_sp V 6 (ka_s2 P 0 (upd (P 0) 2 x))) (pc + 3) L st) : ka_I G X (ka_sp V 6 P) pc L (.int x :: .ref (ka_ad G 6 0) :: st) := kp_X0_18  hC hd (by rw [ka_st_sp, ka_sp_s]; exact kk)
theorem kg_X0_22 (hC : ka_C G X cc RX0 nL d) (hd : decode cc pc = .ok (.getfield 22, 3)) (kk : ka_I G X V (pc + 3) L (.int (V 6 0 1) :: st)) : ka_I G X V pc L (.ref (ka_ad G 6 0) :: st) := ka_get hC ka_ix_60 (ka_E_hist ) rfl 1 (by decide) ka_in0 ka_q_fl_X0_22 rfl rfl hd kk
theorem kgp_X0_22 {P : Nat → Nat → Int32} (hC : ka_C G X cc RX0 nL d) (hd : decode cc pc = .ok (.getfield 22, 3)) (kk : ka_I G X (ka_sp V 6 P) (pc + 3) L (.int (P 0 1) :: st)) : ka_I G X (ka_sp V 6 P) pc L (.ref (ka_ad G 6 0) :: st) := kg_X0_22  hC hd (by rw [ka_sp_s]; exact kk)
theorem kp_X0_22 {x : Int32} (hC : ka_C G X cc RX0 nL d) (hd : decode cc pc = .ok (.putfield 22, 3)) (kk : ka_I G X (ka_st V 6 0 (upd (V 6 0) 1 x)) (pc + 3) L st) : ka_I G X V pc L (.int x :: .ref (ka_ad G 6 0) :: st) := ka_put (x := x) hC ka_ix_60 (ka_E_hist ) rfl 1 (by decide) ka_in0 tyX0_ok nmX0 ka_q_fl_X0_22 rfl rfl (ty := .int) (by decide +kernel) rfl rfl (Nat.le_of_ble_eq_true rfl) (by rw [ka_E_hist ]; rfl) hd kk
theorem kpp_X0_22 {P : Nat → Nat → Int32} {x : Int32} (hC : ka_C G X cc RX0 nL d) (hd : decode cc pc = .ok (.putfield 22, 3)) (kk : ka_I G X (ka_sp V 6 (ka_s2 P 0 (upd (P 0) 1 x))) (pc + 3) L st) : ka_I G X (ka_sp V 6 P) pc L (.int x :: .ref (ka_ad G 6 0) :: st) := kp_X0_22  hC hd (by rw [ka_st_sp, ka_sp_s]; exact kk)
theorem kg_X1_9 (hC : ka_C G X cc RX1 nL d) (hd : decode cc pc = .ok (.getfield 9, 3)) (kk : ka_I G X V (pc + 3) L (.ref (ka_ad G 7 1) :: st)) : ka_I G X V pc L (.ref (ka_ad G 7 0) :: st) := ka_get hC ka_ix_70 (ka_E_text ) rfl 0 (by decide) ka_in1 ka_q_fl_X1_9 rfl rfl hd kk
theorem kg_X1_15 (hC : ka_C G X cc RX1 nL d) (hd : decode cc pc = .ok (.getfield 15, 3)) (kk : ka_I G X V (pc + 3) L (.ref (ka_ad G 7 2) :: st)) : ka_I G X V pc L (.ref (ka_ad G 7 0) :: st) := ka_get hC ka_ix_70 (ka_E_text ) rfl 1 (by decide) ka_in1 ka_q_fl_X1_15 rfl rfl hd kk
theorem kg_X1_18 (hC : ka_C G X cc RX1 nL d) (hd : decode cc pc = .ok (.getfield 18, 3)) (kk : ka_I G X V (pc + 3) L (.int (V 7 0 2) :: st)) : ka_I G X V pc L (.ref (ka_ad G 7 0) :: st) := ka_get hC ka_ix_70 (ka_E_text ) rfl 2 (by decide) ka_in1 ka_q_fl_X1_18 rfl rfl hd kk
theorem kgp_X1_18 {P : Nat → Nat → Int32} (hC : ka_C G X cc RX1 nL d) (hd : decode cc pc = .ok (.getfield 18, 3)) (kk : ka_I G X (ka_sp V 7 P) (pc + 3) L (.int (P 0 2) :: st)) : ka_I G X (ka_sp V 7 P) pc L (.ref (ka_ad G 7 0) :: st) := kg_X1_18  hC hd (by rw [ka_sp_s]; exact kk)
theorem kp_X1_18 {x : Int32} (hC : ka_C G X cc RX1 nL d) (hd : decode cc pc = .ok (.putfield 18, 3)) (kk : ka_I G X (ka_st V 7 0 (upd (V 7 0) 2 x)) (pc + 3) L st) : ka_I G X V pc L (.int x :: .ref (ka_ad G 7 0) :: st) := ka_put (x := x) hC ka_ix_70 (ka_E_text ) rfl 2 (by decide) ka_in1 tyX1_ok nmX1 ka_q_fl_X1_18 rfl rfl (ty := .int) (by decide +kernel) rfl rfl (Nat.le_of_ble_eq_true rfl) (by rw [ka_E_text ]; rfl) hd kk
theorem kpp_X1_18 {P : Nat → Nat → Int32} {x : Int32} (hC : ka_C G X cc RX1 nL d) (hd : decode cc pc = .ok (.putfield 18, 3)) (kk : ka_I G X (ka_sp V 7 (ka_s2 P 0 (upd (P 0) 2 x))) (pc + 3) L st) : ka_I G X (ka_sp V 7 P) pc L (.int x :: .ref (ka_ad G 7 0) :: st) := kp_X1_18  hC hd (by rw [ka_st_sp, ka_sp_s]; exact kk)
theorem kg_X1_22 (hC : ka_C G X cc RX1 nL d) (hd : decode cc pc = .ok (.getfield 22, 3)) (kk : ka_I G X V (pc + 3) L (.int (V 7 0 5) :: st)) : ka_I G X V pc L (.ref (ka_ad G 7 0) :: st) := ka_get hC ka_ix_70 (ka_E_text ) rfl 5 (by decide) ka_in1 ka_q_fl_X1_22 rfl rfl hd kk
theorem kgp_X1_22 {P : Nat → Nat → Int32} (hC : ka_C G X cc RX1 nL d) (hd : decode cc pc = .ok (.getfield 22, 3)) (kk : ka_I G X (ka_sp V 7 P) (pc + 3) L (.int (P 0 5) :: st)) : ka_I G X (ka_sp V 7 P) pc L (.ref (ka_ad G 7 0) :: st) := kg_X1_22  hC hd (by rw [ka_sp_s]; exact kk)
theorem kp_X1_22 {x : Int32} (hC : ka_C G X cc RX1 nL d) (hd : decode cc pc = .ok (.putfield 22, 3)) (kk : ka_I G X (ka_st V 7 0 (upd (V 7 0) 5 x)) (pc + 3) L st) : ka_I G X V pc L (.int x :: .ref (ka_ad G 7 0) :: st) := ka_put (x := x) hC ka_ix_70 (ka_E_text ) rfl 5 (by decide) ka_in1 tyX1_ok nmX1 ka_q_fl_X1_22 rfl rfl (ty := .int) (by decide +kernel) rfl rfl (Nat.le_of_ble_eq_true rfl) (by rw [ka_E_text ]; rfl) hd kk
theorem kpp_X1_22 {P : Nat → Nat → Int32} {x : Int32} (hC : ka_C G X cc RX1 nL d) (hd : decode cc pc = .ok (.putfield 22, 3)) (kk : ka_I G X (ka_sp V 7 (ka_s2 P 0 (upd (P 0) 5 x))) (pc + 3) L st) : ka_I G X (ka_sp V 7 P) pc L (.int x :: .ref (ka_ad G 7 0) :: st) := kp_X1_22  hC hd (by rw [ka_st_sp, ka_sp_s]; exact kk)
theorem kg_X1_25 (hC : ka_C G X cc RX1 nL d) (hd : decode cc pc = .ok (.getfield 25, 3)) (kk : ka_I G X V (pc + 3) L (.int (V 7 0 7) :: st)) : ka_I G X V pc L (.ref (ka_ad G 7 0) :: st) := ka_get hC ka_ix_70 (ka_E_text ) rfl 7 (by decide) ka_in1 ka_q_fl_X1_25 rfl rfl hd kk
theorem kgp_X1_25 {P : Nat → Nat → Int32} (hC : ka_C G X cc RX1 nL d) (hd : decode cc pc = .ok (.getfield 25, 3)) (kk : ka_I G X (ka_sp V 7 P) (pc + 3) L (.int (P 0 7) :: st)) : ka_I G X (ka_sp V 7 P) pc L (.ref (ka_ad G 7 0) :: st) := kg_X1_25  hC hd (by rw [ka_sp_s]; exact kk)
theorem kp_X1_25 {x : Int32} (hC : ka_C G X cc RX1 nL d) (hd : decode cc pc = .ok (.putfield 25, 3)) (kk : ka_I G X (ka_st V 7 0 (upd (V 7 0) 7 x)) (pc + 3) L st) : ka_I G X V pc L (.int x :: .ref (ka_ad G 7 0) :: st) := ka_put (x := x) hC ka_ix_70 (ka_E_text ) rfl 7 (by decide) ka_in1 tyX1_ok nmX1 ka_q_fl_X1_25 rfl rfl (ty := .int) (by decide +kernel) rfl rfl (Nat.le_of_ble_eq_true rfl) (by rw [ka_E_text ]; rfl) hd kk
theorem kpp_X1_25 {P : Nat → Nat → Int32} {x : Int32} (hC : ka_C G X cc RX1 nL d) (hd : decode cc pc = .ok (.putfield 25, 3)) (kk : ka_I G X (ka_sp V 7 (ka_s2 P 0 (upd (P 0) 7 x))) (pc + 3) L st) : ka_I G X (ka_sp V 7 P) pc L (.int x :: .ref (ka_ad G 7 0) :: st) := kp_X1_25  hC hd (by rw [ka_st_sp, ka_sp_s]; exact kk)
theorem kg_X1_28 (hC : ka_C G X cc RX1 nL d) (hd : decode cc pc = .ok (.getfield 28, 3)) (kk : ka_I G X V (pc + 3) L (.int (V 7 0 6) :: st)) : ka_I G X V pc L (.ref (ka_ad G 7 0) :: st) := ka_get hC ka_ix_70 (ka_E_text ) rfl 6 (by decide) ka_in1 ka_q_fl_X1_28 rfl rfl hd kk
theorem kgp_X1_28 {P : Nat → Nat → Int32} (hC : ka_C G X cc RX1 nL d) (hd : decode cc pc = .ok (.getfield 28, 3)) (kk : ka_I G X (ka_sp V 7 P) (pc + 3) L (.int (P 0 6) :: st)) : ka_I G X (ka_sp V 7 P) pc L (.ref (ka_ad G 7 0) :: st) := kg_X1_28  hC hd (by rw [ka_sp_s]; exact kk)
theorem kp_X1_28 {x : Int32} (hC : ka_C G X cc RX1 nL d) (hd : decode cc pc = .ok (.putfield 28, 3)) (kk : ka_I G X (ka_st V 7 0 (upd (V 7 0) 6 x)) (pc + 3) L st) : ka_I G X V pc L (.int x :: .ref (ka_ad G 7 0) :: st) := ka_put (x := x) hC ka_ix_70 (ka_E_text ) rfl 6 (by decide) ka_in1 tyX1_ok nmX1 ka_q_fl_X1_28 rfl rfl (ty := .int) (by decide +kernel) rfl rfl (Nat.le_of_ble_eq_true rfl) (by rw [ka_E_text ]; rfl) hd kk
theorem kpp_X1_28 {P : Nat → Nat → Int32} {x : Int32} (hC : ka_C G X cc RX1 nL d) (hd : decode cc pc = .ok (.putfield 28, 3)) (kk : ka_I G X (ka_sp V 7 (ka_s2 P 0 (upd (P 0) 6 x))) (pc + 3) L st) : ka_I G X (ka_sp V 7 P) pc L (.int x :: .ref (ka_ad G 7 0) :: st) := kp_X1_28  hC hd (by rw [ka_st_sp, ka_sp_s]; exact kk)
theorem kg_X1_31 (hC : ka_C G X cc RX1 nL d) (hd : decode cc pc = .ok (.getfield 31, 3)) (kk : ka_I G X V (pc + 3) L (.int (V 7 0 8) :: st)) : ka_I G X V pc L (.ref (ka_ad G 7 0) :: st) := ka_get hC ka_ix_70 (ka_E_text ) rfl 8 (by decide) ka_in1 ka_q_fl_X1_31 rfl rfl hd kk
theorem kgp_X1_31 {P : Nat → Nat → Int32} (hC : ka_C G X cc RX1 nL d) (hd : decode cc pc = .ok (.getfield 31, 3)) (kk : ka_I G X (ka_sp V 7 P) (pc + 3) L (.int (P 0 8) :: st)) : ka_I G X (ka_sp V 7 P) pc L (.ref (ka_ad G 7 0) :: st) := kg_X1_31  hC hd (by rw [ka_sp_s]; exact kk)
theorem kp_X1_31 {x : Int32} (hC : ka_C G X cc RX1 nL d) (hd : decode cc pc = .ok (.putfield 31, 3)) (kk : ka_I G X (ka_st V 7 0 (upd (V 7 0) 8 x)) (pc + 3) L st) : ka_I G X V pc L (.int x :: .ref (ka_ad G 7 0) :: st) := ka_put (x := x) hC ka_ix_70 (ka_E_text ) rfl 8 (by decide) ka_in1 tyX1_ok nmX1 ka_q_fl_X1_31 rfl rfl (ty := .int) (by decide +kernel) rfl rfl (Nat.le_of_ble_eq_true rfl) (by rw [ka_E_text ]; rfl) hd kk
theorem kpp_X1_31 {P : Nat → Nat → Int32} {x : Int32} (hC : ka_C G X cc RX1 nL d) (hd : decode cc pc = .ok (.putfield 31, 3)) (kk : ka_I G X (ka_sp V 7 (ka_s2 P 0 (upd (P 0) 8 x))) (pc + 3) L st) : ka_I G X (ka_sp V 7 P) pc L (.int x :: .ref (ka_ad G 7 0) :: st) := kp_X1_31  hC hd (by rw [ka_st_sp, ka_sp_s]; exact kk)
theorem kg_X1_40 (hC : ka_C G X cc RX1 nL d) (hd : decode cc pc = .ok (.getfield 40, 3)) (kk : ka_I G X V (pc + 3) L (.int (V 7 0 4) :: st)) : ka_I G X V pc L (.ref (ka_ad G 7 0) :: st) := ka_get hC ka_ix_70 (ka_E_text ) rfl 4 (by decide) ka_in1 ka_q_fl_X1_40 rfl rfl hd kk
theorem kgp_X1_40 {P : Nat → Nat → Int32} (hC : ka_C G X cc RX1 nL d) (hd : decode cc pc = .ok (.getfield 40, 3)) (kk : ka_I G X (ka_sp V 7 P) (pc + 3) L (.int (P 0 4) :: st)) : ka_I G X (ka_sp V 7 P) pc L (.ref (ka_ad G 7 0) :: st) := kg_X1_40  hC hd (by rw [ka_sp_s]; exact kk)
theorem kp_X1_40 {x : Int32} (hC : ka_C G X cc RX1 nL d) (hd : decode cc pc = .ok (.putfield 40, 3)) (kk : ka_I G X (ka_st V 7 0 (upd (V 7 0) 4 x)) (pc + 3) L st) : ka_I G X V pc L (.int x :: .ref (ka_ad G 7 0) :: st) := ka_put (x := x) hC ka_ix_70 (ka_E_text ) rfl 4 (by decide) ka_in1 tyX1_ok nmX1 ka_q_fl_X1_40 rfl rfl (ty := .int) (by decide +kernel) rfl rfl (Nat.le_of_ble_eq_true rfl) (by rw [ka_E_text ]; rfl) hd kk
theorem kpp_X1_40 {P : Nat → Nat → Int32} {x : Int32} (hC : ka_C G X cc RX1 nL d) (hd : decode cc pc = .ok (.putfield 40, 3)) (kk : ka_I G X (ka_sp V 7 (ka_s2 P 0 (upd (P 0) 4 x))) (pc + 3) L st) : ka_I G X (ka_sp V 7 P) pc L (.int x :: .ref (ka_ad G 7 0) :: st) := kp_X1_40  hC hd (by rw [ka_st_sp, ka_sp_s]; exact kk)
theorem kg_X1_62 (hC : ka_C G X cc RX1 nL d) (hd : decode cc pc = .ok (.getfield 62, 3)) (kk : ka_I G X V (pc + 3) L (.int (V 7 0 3) :: st)) : ka_I G X V pc L (.ref (ka_ad G 7 0) :: st) := ka_get hC ka_ix_70 (ka_E_text ) rfl 3 (by decide) ka_in1 ka_q_fl_X1_62 rfl rfl hd kk
theorem kgp_X1_62 {P : Nat → Nat → Int32} (hC : ka_C G X cc RX1 nL d) (hd : decode cc pc = .ok (.getfield 62, 3)) (kk : ka_I G X (ka_sp V 7 P) (pc + 3) L (.int (P 0 3) :: st)) : ka_I G X (ka_sp V 7 P) pc L (.ref (ka_ad G 7 0) :: st) := kg_X1_62  hC hd (by rw [ka_sp_s]; exact kk)
theorem kp_X1_62 {x : Int32} (hC : ka_C G X cc RX1 nL d) (hd : decode cc pc = .ok (.putfield 62, 3)) (kk : ka_I G X (ka_st V 7 0 (upd (V 7 0) 3 x)) (pc + 3) L st) : ka_I G X V pc L (.int x :: .ref (ka_ad G 7 0) :: st) := ka_put (x := x) hC ka_ix_70 (ka_E_text ) rfl 3 (by decide) ka_in1 tyX1_ok nmX1 ka_q_fl_X1_62 rfl rfl (ty := .int) (by decide +kernel) rfl rfl (Nat.le_of_ble_eq_true rfl) (by rw [ka_E_text ]; rfl) hd kk
theorem kpp_X1_62 {P : Nat → Nat → Int32} {x : Int32} (hC : ka_C G X cc RX1 nL d) (hd : decode cc pc = .ok (.putfield 62, 3)) (kk : ka_I G X (ka_sp V 7 (ka_s2 P 0 (upd (P 0) 3 x))) (pc + 3) L st) : ka_I G X (ka_sp V 7 P) pc L (.int x :: .ref (ka_ad G 7 0) :: st) := kp_X1_62  hC hd (by rw [ka_st_sp, ka_sp_s]; exact kk)
theorem kg_X2_9 {r : Nat} (hr : r < 6) {k : Nat} (hk : k < 5) (hC : ka_C G X cc RX2 nL d) (hd : decode cc pc = .ok (.getfield 9, 3)) (kk : ka_I G X V (pc + 3) L (.int (V r (2 + k) 0) :: st)) : ka_I G X V pc L (.ref (ka_ad G r (2 + k)) :: st) := ka_get hC (ka_ixp _ hr (2 + k) (by omega)) (ka_E_place hr hk) rfl 0 (by decide) ka_in2 ka_q_fl_X2_9 rfl rfl hd kk
theorem kgp_X2_9 {r : Nat} (hr : r < 6) {k : Nat} (hk : k < 5) {P : Nat → Nat → Int32} (hC : ka_C G X cc RX2 nL d) (hd : decode cc pc = .ok (.getfield 9, 3)) (kk : ka_I G X (ka_sp V r P) (pc + 3) L (.int (P (2 + k) 0) :: st)) : ka_I G X (ka_sp V r P) pc L (.ref (ka_ad G r (2 + k)) :: st) := kg_X2_9 hr hk hC hd (by rw [ka_sp_s]; exact kk)
theorem kp_X2_9 {r : Nat} (hr : r < 6) {k : Nat} (hk : k < 5) {x : Int32} (hC : ka_C G X cc RX2 nL d) (hd : decode cc pc = .ok (.putfield 9, 3)) (kk : ka_I G X (ka_st V r (2 + k) (upd (V r (2 + k)) 0 x)) (pc + 3) L st) : ka_I G X V pc L (.int x :: .ref (ka_ad G r (2 + k)) :: st) := ka_put (x := x) hC (ka_ixp _ hr (2 + k) (by omega)) (ka_E_place hr hk) rfl 0 (by decide) ka_in2 tyX2_ok nmX2 ka_q_fl_X2_9 rfl rfl (ty := .int) (by decide +kernel) rfl rfl (Nat.le_of_ble_eq_true rfl) (by rw [ka_E_place hr hk]; rfl) hd kk
theorem kpp_X2_9 {r : Nat} (hr : r < 6) {k : Nat} (hk : k < 5) {P : Nat → Nat → Int32} {x : Int32} (hC : ka_C G X cc RX2 nL d) (hd : decode cc pc = .ok (.putfield 9, 3)) (kk : ka_I G X (ka_sp V r (ka_s2 P (2 + k) (upd (P (2 + k)) 0 x))) (pc + 3) L st) : ka_I G X (ka_sp V r P) pc L (.int x :: .ref (ka_ad G r (2 + k)) :: st) := kp_X2_9 hr hk hC hd (by rw [ka_st_sp, ka_sp_s]; exact kk)
theorem kg_X2_15 {r : Nat} (hr : r < 6) {k : Nat} (hk : k < 5) (hC : ka_C G X cc RX2 nL d) (hd : decode cc pc = .ok (.getfield 15, 3)) (kk : ka_I G X V (pc + 3) L (.int (V r (2 + k) 1) :: st)) : ka_I G X V pc L (.ref (ka_ad G r (2 + k)) :: st) := ka_get hC (ka_ixp _ hr (2 + k) (by omega)) (ka_E_place hr hk) rfl 1 (by decide) ka_in2 ka_q_fl_X2_15 rfl rfl hd kk
theorem kgp_X2_15 {r : Nat} (hr : r < 6) {k : Nat} (hk : k < 5) {P : Nat → Nat → Int32} (hC : ka_C G X cc RX2 nL d) (hd : decode cc pc = .ok (.getfield 15, 3)) (kk : ka_I G X (ka_sp V r P) (pc + 3) L (.int (P (2 + k) 1) :: st)) : ka_I G X (ka_sp V r P) pc L (.ref (ka_ad G r (2 + k)) :: st) := kg_X2_15 hr hk hC hd (by rw [ka_sp_s]; exact kk)
theorem kp_X2_15 {r : Nat} (hr : r < 6) {k : Nat} (hk : k < 5) {x : Int32} (hC : ka_C G X cc RX2 nL d) (hd : decode cc pc = .ok (.putfield 15, 3)) (kk : ka_I G X (ka_st V r (2 + k) (upd (V r (2 + k)) 1 x)) (pc + 3) L st) : ka_I G X V pc L (.int x :: .ref (ka_ad G r (2 + k)) :: st) := ka_put (x := x) hC (ka_ixp _ hr (2 + k) (by omega)) (ka_E_place hr hk) rfl 1 (by decide) ka_in2 tyX2_ok nmX2 ka_q_fl_X2_15 rfl rfl (ty := .int) (by decide +kernel) rfl rfl (Nat.le_of_ble_eq_true rfl) (by rw [ka_E_place hr hk]; rfl) hd kk
theorem kpp_X2_15 {r : Nat} (hr : r < 6) {k : Nat} (hk : k < 5) {P : Nat → Nat → Int32} {x : Int32} (hC : ka_C G X cc RX2 nL d) (hd : decode cc pc = .ok (.putfield 15, 3)) (kk : ka_I G X (ka_sp V r (ka_s2 P (2 + k) (upd (P (2 + k)) 1 x))) (pc + 3) L st) : ka_I G X (ka_sp V r P) pc L (.int x :: .ref (ka_ad G r (2 + k)) :: st) := kp_X2_15 hr hk hC hd (by rw [ka_st_sp, ka_sp_s]; exact kk)
theorem kg_X2_18 {r : Nat} (hr : r < 6) {k : Nat} (hk : k < 5) (hC : ka_C G X cc RX2 nL d) (hd : decode cc pc = .ok (.getfield 18, 3)) (kk : ka_I G X V (pc + 3) L (.int (V r (2 + k) 2) :: st)) : ka_I G X V pc L (.ref (ka_ad G r (2 + k)) :: st) := ka_get hC (ka_ixp _ hr (2 + k) (by omega)) (ka_E_place hr hk) rfl 2 (by decide) ka_in2 ka_q_fl_X2_18 rfl rfl hd kk
theorem kgp_X2_18 {r : Nat} (hr : r < 6) {k : Nat} (hk : k < 5) {P : Nat → Nat → Int32} (hC : ka_C G X cc RX2 nL d) (hd : decode cc pc = .ok (.getfield 18, 3)) (kk : ka_I G X (ka_sp V r P) (pc + 3) L (.int (P (2 + k) 2) :: st)) : ka_I G X (ka_sp V r P) pc L (.ref (ka_ad G r (2 + k)) :: st) := kg_X2_18 hr hk hC hd (by rw [ka_sp_s]; exact kk)
theorem kp_X2_18 {r : Nat} (hr : r < 6) {k : Nat} (hk : k < 5) {x : Int32} (hC : ka_C G X cc RX2 nL d) (hd : decode cc pc = .ok (.putfield 18, 3)) (kk : ka_I G X (ka_st V r (2 + k) (upd (V r (2 + k)) 2 x)) (pc + 3) L st) : ka_I G X V pc L (.int x :: .ref (ka_ad G r (2 + k)) :: st) := ka_put (x := x) hC (ka_ixp _ hr (2 + k) (by omega)) (ka_E_place hr hk) rfl 2 (by decide) ka_in2 tyX2_ok nmX2 ka_q_fl_X2_18 rfl rfl (ty := .int) (by decide +kernel) rfl rfl (Nat.le_of_ble_eq_true rfl) (by rw [ka_E_place hr hk]; rfl) hd kk
theorem kpp_X2_18 {r : Nat} (hr : r < 6) {k : Nat} (hk : k < 5) {P : Nat → Nat → Int32} {x : Int32} (hC : ka_C G X cc RX2 nL d) (hd : decode cc pc = .ok (.putfield 18, 3)) (kk : ka_I G X (ka_sp V r (ka_s2 P (2 + k) (upd (P (2 + k)) 2 x))) (pc + 3) L st) : ka_I G X (ka_sp V r P) pc L (.int x :: .ref (ka_ad G r (2 + k)) :: st) := kp_X2_18 hr hk hC hd (by rw [ka_st_sp, ka_sp_s]; exact kk)
theorem kg_X2_21 {r : Nat} (hr : r < 6) {k : Nat} (hk : k < 5) (hC : ka_C G X cc RX2 nL d) (hd : decode cc pc = .ok (.getfield 21, 3)) (kk : ka_I G X V (pc + 3) L (.int (V r (2 + k) 3) :: st)) : ka_I G X V pc L (.ref (ka_ad G r (2 + k)) :: st) := ka_get hC (ka_ixp _ hr (2 + k) (by omega)) (ka_E_place hr hk) rfl 3 (by decide) ka_in2 ka_q_fl_X2_21 rfl rfl hd kk
theorem kgp_X2_21 {r : Nat} (hr : r < 6) {k : Nat} (hk : k < 5) {P : Nat → Nat → Int32} (hC : ka_C G X cc RX2 nL d) (hd : decode cc pc = .ok (.getfield 21, 3)) (kk : ka_I G X (ka_sp V r P) (pc + 3) L (.int (P (2 + k) 3) :: st)) : ka_I G X (ka_sp V r P) pc L (.ref (ka_ad G r (2 + k)) :: st) := kg_X2_21 hr hk hC hd (by rw [ka_sp_s]; exact kk)
theorem kp_X2_21 {r : Nat} (hr : r < 6) {k : Nat} (hk : k < 5) {x : Int32} (hC : ka_C G X cc RX2 nL d) (hd : decode cc pc = .ok (.putfield 21, 3)) (kk : ka_I G X (ka_st V r (2 + k) (upd (V r (2 + k)) 3 x)) (pc + 3) L st) : ka_I G X V pc L (.int x :: .ref (ka_ad G r (2 + k)) :: st) := ka_put (x := x) hC (ka_ixp _ hr (2 + k) (by omega)) (ka_E_place hr hk) rfl 3 (by decide) ka_in2 tyX2_ok nmX2 ka_q_fl_X2_21 rfl rfl (ty := .int) (by decide +kernel) rfl rfl (Nat.le_of_ble_eq_true rfl) (by rw [ka_E_place hr hk]; rfl) hd kk
theorem kpp_X2_21 {r : Nat} (hr : r < 6) {k : Nat} (hk : k < 5) {P : Nat → Nat → Int32} {x : Int32} (hC : ka_C G X cc RX2 nL d) (hd : decode cc pc = .ok (.putfield 21, 3)) (kk : ka_I G X (ka_sp V r (ka_s2 P (2 + k) (upd (P (2 + k)) 3 x))) (pc + 3) L st) : ka_I G X (ka_sp V r P) pc L (.int x :: .ref (ka_ad G r (2 + k)) :: st) := kp_X2_21 hr hk hC hd (by rw [ka_st_sp, ka_sp_s]; exact kk)
theorem kg_X2_24 {r : Nat} (hr : r < 6) {k : Nat} (hk : k < 5) (hC : ka_C G X cc RX2 nL d) (hd : decode cc pc = .ok (.getfield 24, 3)) (kk : ka_I G X V (pc + 3) L (.int (V r (2 + k) 4) :: st)) : ka_I G X V pc L (.ref (ka_ad G r (2 + k)) :: st) := ka_get hC (ka_ixp _ hr (2 + k) (by omega)) (ka_E_place hr hk) rfl 4 (by decide) ka_in2 ka_q_fl_X2_24 rfl rfl hd kk
theorem kgp_X2_24 {r : Nat} (hr : r < 6) {k : Nat} (hk : k < 5) {P : Nat → Nat → Int32} (hC : ka_C G X cc RX2 nL d) (hd : decode cc pc = .ok (.getfield 24, 3)) (kk : ka_I G X (ka_sp V r P) (pc + 3) L (.int (P (2 + k) 4) :: st)) : ka_I G X (ka_sp V r P) pc L (.ref (ka_ad G r (2 + k)) :: st) := kg_X2_24 hr hk hC hd (by rw [ka_sp_s]; exact kk)
theorem kp_X2_24 {r : Nat} (hr : r < 6) {k : Nat} (hk : k < 5) {x : Int32} (hC : ka_C G X cc RX2 nL d) (hd : decode cc pc = .ok (.putfield 24, 3)) (kk : ka_I G X (ka_st V r (2 + k) (upd (V r (2 + k)) 4 x)) (pc + 3) L st) : ka_I G X V pc L (.int x :: .ref (ka_ad G r (2 + k)) :: st) := ka_put (x := x) hC (ka_ixp _ hr (2 + k) (by omega)) (ka_E_place hr hk) rfl 4 (by decide) ka_in2 tyX2_ok nmX2 ka_q_fl_X2_24 rfl rfl (ty := .int) (by decide +kernel) rfl rfl (Nat.le_of_ble_eq_true rfl) (by rw [ka_E_place hr hk]; rfl) hd kk
theorem kpp_X2_24 {r : Nat} (hr : r < 6) {k : Nat} (hk : k < 5) {P : Nat → Nat → Int32} {x : Int32} (hC : ka_C G X cc RX2 nL d) (hd : decode cc pc = .ok (.putfield 24, 3)) (kk : ka_I G X (ka_sp V r (ka_s2 P (2 + k) (upd (P (2 + k)) 4 x))) (pc + 3) L st) : ka_I G X (ka_sp V r P) pc L (.int x :: .ref (ka_ad G r (2 + k)) :: st) := kp_X2_24 hr hk hC hd (by rw [ka_st_sp, ka_sp_s]; exact kk)
theorem kg_X2_27 {r : Nat} (hr : r < 6) {k : Nat} (hk : k < 5) (hC : ka_C G X cc RX2 nL d) (hd : decode cc pc = .ok (.getfield 27, 3)) (kk : ka_I G X V (pc + 3) L (.int (V r (2 + k) 5) :: st)) : ka_I G X V pc L (.ref (ka_ad G r (2 + k)) :: st) := ka_get hC (ka_ixp _ hr (2 + k) (by omega)) (ka_E_place hr hk) rfl 5 (by decide) ka_in2 ka_q_fl_X2_27 rfl rfl hd kk
theorem kgp_X2_27 {r : Nat} (hr : r < 6) {k : Nat} (hk : k < 5) {P : Nat → Nat → Int32} (hC : ka_C G X cc RX2 nL d) (hd : decode cc pc = .ok (.getfield 27, 3)) (kk : ka_I G X (ka_sp V r P) (pc + 3) L (.int (P (2 + k) 5) :: st)) : ka_I G X (ka_sp V r P) pc L (.ref (ka_ad G r (2 + k)) :: st) := kg_X2_27 hr hk hC hd (by rw [ka_sp_s]; exact kk)
theorem kp_X2_27 {r : Nat} (hr : r < 6) {k : Nat} (hk : k < 5) {x : Int32} (hC : ka_C G X cc RX2 nL d) (hd : decode cc pc = .ok (.putfield 27, 3)) (kk : ka_I G X (ka_st V r (2 + k) (upd (V r (2 + k)) 5 x)) (pc + 3) L st) : ka_I G X V pc L (.int x :: .ref (ka_ad G r (2 + k)) :: st) := ka_put (x := x) hC (ka_ixp _ hr (2 + k) (by omega)) (ka_E_place hr hk) rfl 5 (by decide) ka_in2 tyX2_ok nmX2 ka_q_fl_X2_27 rfl rfl (ty := .int) (by decide +kernel) rfl rfl (Nat.le_of_ble_eq_true rfl) (by rw [ka_E_place hr hk]; rfl) hd kk
theorem kpp_X2_27 {r : Nat} (hr : r < 6) {k : Nat} (hk : k < 5) {P : Nat → Nat → Int32} {x : Int32} (hC : ka_C G X cc RX2 nL d) (hd : decode cc pc = .ok (.putfield 27, 3)) (kk : ka_I G X (ka_sp V r (ka_s2 P (2 + k) (upd (P (2 + k)) 5 x))) (pc + 3) L st) : ka_I G X (ka_sp V r P) pc L (.int x :: .ref (ka_ad G r (2 + k)) :: st) := kp_X2_27 hr hk hC hd (by rw [ka_st_sp, ka_sp_s]; exact kk)
theorem kg_X3_11 {r : Nat} (hr : r < 6) (hC : ka_C G X cc RX3 nL d) (hd : decode cc pc = .ok (.getfield 11, 3)) (kk : ka_I G X V (pc + 3) L (.ref (ka_ad G r 1) :: st)) : ka_I G X V pc L (.ref (ka_ad G r 0) :: st) := ka_get hC (ka_ixp _ hr 0 (by decide)) (ka_E_pool hr) rfl 0 (by decide) ka_in3 ka_q_fl_X3_11 rfl rfl hd kk
theorem kg_X3_20 {r : Nat} (hr : r < 6) (hC : ka_C G X cc RX3 nL d) (hd : decode cc pc = .ok (.getfield 20, 3)) (kk : ka_I G X V (pc + 3) L (.ref (ka_ad G r 7) :: st)) : ka_I G X V pc L (.ref (ka_ad G r 0) :: st) := ka_get hC (ka_ixp _ hr 0 (by decide)) (ka_E_pool hr) rfl 1 (by decide) ka_in3 ka_q_fl_X3_20 rfl rfl hd kk
theorem kg_X3_25 {r : Nat} (hr : r < 6) (hC : ka_C G X cc RX3 nL d) (hd : decode cc pc = .ok (.getfield 25, 3)) (kk : ka_I G X V (pc + 3) L (.ref (ka_ad G r 28) :: st)) : ka_I G X V pc L (.ref (ka_ad G r 0) :: st) := ka_get hC (ka_ixp _ hr 0 (by decide)) (ka_E_pool hr) rfl 2 (by decide) ka_in3 ka_q_fl_X3_25 rfl rfl hd kk
theorem kg_X3_29 {r : Nat} (hr : r < 6) (hC : ka_C G X cc RX3 nL d) (hd : decode cc pc = .ok (.getfield 29, 3)) (kk : ka_I G X V (pc + 3) L (.ref (ka_ad G r 29) :: st)) : ka_I G X V pc L (.ref (ka_ad G r 0) :: st) := ka_get hC (ka_ixp _ hr 0 (by decide)) (ka_E_pool hr) rfl 3 (by decide) ka_in3 ka_q_fl_X3_29 rfl rfl hd kk
theorem kg_X3_38 {r : Nat} (hr : r < 6) (hC : ka_C G X cc RX3 nL d) (hd : decode cc pc = .ok (.getfield 38, 3)) (kk : ka_I G X V (pc + 3) L (.ref (ka_ad G r 30) :: st)) : ka_I G X V pc L (.ref (ka_ad G r 0) :: st) := ka_get hC (ka_ixp _ hr 0 (by decide)) (ka_E_pool hr) rfl 4 (by decide) ka_in3 ka_q_fl_X3_38 rfl rfl hd kk
theorem kg_X3_58 {r : Nat} (hr : r < 6) (hC : ka_C G X cc RX3 nL d) (hd : decode cc pc = .ok (.getfield 58, 3)) (kk : ka_I G X V (pc + 3) L (.int (V r 0 5) :: st)) : ka_I G X V pc L (.ref (ka_ad G r 0) :: st) := ka_get hC (ka_ixp _ hr 0 (by decide)) (ka_E_pool hr) rfl 5 (by decide) ka_in3 ka_q_fl_X3_58 rfl rfl hd kk
theorem kgp_X3_58 {r : Nat} (hr : r < 6) {P : Nat → Nat → Int32} (hC : ka_C G X cc RX3 nL d) (hd : decode cc pc = .ok (.getfield 58, 3)) (kk : ka_I G X (ka_sp V r P) (pc + 3) L (.int (P 0 5) :: st)) : ka_I G X (ka_sp V r P) pc L (.ref (ka_ad G r 0) :: st) := kg_X3_58 hr hC hd (by rw [ka_sp_s]; exact kk)
theorem kp_X3_58 {r : Nat} (hr : r < 6) {x : Int32} (hC : ka_C G X cc RX3 nL d) (hd : decode cc pc = .ok (.putfield 58, 3)) (kk : ka_I G X (ka_st V r 0 (upd (V r 0) 5 x)) (pc + 3) L st) : ka_I G X V pc L (.int x :: .ref (ka_ad G r 0) :: st) := ka_put (x := x) hC (ka_ixp _ hr 0 (by decide)) (ka_E_pool hr) rfl 5 (by decide) ka_in3 tyX3_ok nmX3 ka_q_fl_X3_58 rfl rfl (ty := .int) (by decide +kernel) rfl rfl (Nat.le_of_ble_eq_true rfl) (by rw [ka_E_pool hr]; rfl) hd kk
theorem kpp_X3_58 {r : Nat} (hr : r < 6) {P : Nat → Nat → Int32} {x : Int32} (hC : ka_C G X cc RX3 nL d) (hd : decode cc pc = .ok (.putfield 58, 3)) (kk : ka_I G X (ka_sp V r (ka_s2 P 0 (upd (P 0) 5 x))) (pc + 3) L st) : ka_I G X (ka_sp V r P) pc L (.int x :: .ref (ka_ad G r 0) :: st) := kp_X3_58 hr hC hd (by rw [ka_st_sp, ka_sp_s]; exact kk)
theorem kg_X3_62 {r : Nat} (hr : r < 6) (hC : ka_C G X cc RX3 nL d) (hd : decode cc pc = .ok (.getfield 62, 3)) (kk : ka_I G X V (pc + 3) L (.int (V r 0 6) :: st)) : ka_I G X V pc L (.ref (ka_ad G r 0) :: st) := ka_get hC (ka_ixp _ hr 0 (by decide)) (ka_E_pool hr) rfl 6 (by decide) ka_in3 ka_q_fl_X3_62 rfl rfl hd kk
theorem kgp_X3_62 {r : Nat} (hr : r < 6) {P : Nat → Nat → Int32} (hC : ka_C G X cc RX3 nL d) (hd : decode cc pc = .ok (.getfield 62, 3)) (kk : ka_I G X (ka_sp V r P) (pc + 3) L (.int (P 0 6) :: st)) : ka_I G X (ka_sp V r P) pc L (.ref (ka_ad G r 0) :: st) := kg_X3_62 hr hC hd (by rw [ka_sp_s]; exact kk)
theorem kp_X3_62 {r : Nat} (hr : r < 6) {x : Int32} (hC : ka_C G X cc RX3 nL d) (hd : decode cc pc = .ok (.putfield 62, 3)) (kk : ka_I G X (ka_st V r 0 (upd (V r 0) 6 x)) (pc + 3) L st) : ka_I G X V pc L (.int x :: .ref (ka_ad G r 0) :: st) := ka_put (x := x) hC (ka_ixp _ hr 0 (by decide)) (ka_E_pool hr) rfl 6 (by decide) ka_in3 tyX3_ok nmX3 ka_q_fl_X3_62 rfl rfl (ty := .int) (by decide +kernel) rfl rfl (Nat.le_of_ble_eq_true rfl) (by rw [ka_E_pool hr]; rfl) hd kk
theorem kpp_X3_62 {r : Nat} (hr : r < 6) {P : Nat → Nat → Int32} {x : Int32} (hC : ka_C G X cc RX3 nL d) (hd : decode cc pc = .ok (.putfield 62, 3)) (kk : ka_I G X (ka_sp V r (ka_s2 P 0 (upd (P 0) 6 x))) (pc + 3) L st) : ka_I G X (ka_sp V r P) pc L (.int x :: .ref (ka_ad G r 0) :: st) := kp_X3_62 hr hC hd (by rw [ka_st_sp, ka_sp_s]; exact kk)
theorem kg_X3_65 {r : Nat} (hr : r < 6) (hC : ka_C G X cc RX3 nL d) (hd : decode cc pc = .ok (.getfield 65, 3)) (kk : ka_I G X V (pc + 3) L (.int (V r 0 7) :: st)) : ka_I G X V pc L (.ref (ka_ad G r 0) :: st) := ka_get hC (ka_ixp _ hr 0 (by decide)) (ka_E_pool hr) rfl 7 (by decide) ka_in3 ka_q_fl_X3_65 rfl rfl hd kk
theorem kgp_X3_65 {r : Nat} (hr : r < 6) {P : Nat → Nat → Int32} (hC : ka_C G X cc RX3 nL d) (hd : decode cc pc = .ok (.getfield 65, 3)) (kk : ka_I G X (ka_sp V r P) (pc + 3) L (.int (P 0 7) :: st)) : ka_I G X (ka_sp V r P) pc L (.ref (ka_ad G r 0) :: st) := kg_X3_65 hr hC hd (by rw [ka_sp_s]; exact kk)
theorem kp_X3_65 {r : Nat} (hr : r < 6) {x : Int32} (hC : ka_C G X cc RX3 nL d) (hd : decode cc pc = .ok (.putfield 65, 3)) (kk : ka_I G X (ka_st V r 0 (upd (V r 0) 7 x)) (pc + 3) L st) : ka_I G X V pc L (.int x :: .ref (ka_ad G r 0) :: st) := ka_put (x := x) hC (ka_ixp _ hr 0 (by decide)) (ka_E_pool hr) rfl 7 (by decide) ka_in3 tyX3_ok nmX3 ka_q_fl_X3_65 rfl rfl (ty := .int) (by decide +kernel) rfl rfl (Nat.le_of_ble_eq_true rfl) (by rw [ka_E_pool hr]; rfl) hd kk
theorem kpp_X3_65 {r : Nat} (hr : r < 6) {P : Nat → Nat → Int32} {x : Int32} (hC : ka_C G X cc RX3 nL d) (hd : decode cc pc = .ok (.putfield 65, 3)) (kk : ka_I G X (ka_sp V r (ka_s2 P 0 (upd (P 0) 7 x))) (pc + 3) L st) : ka_I G X (ka_sp V r P) pc L (.int x :: .ref (ka_ad G r 0) :: st) := kp_X3_65 hr hC hd (by rw [ka_st_sp, ka_sp_s]; exact kk)
theorem kg_X3_68 {r : Nat} (hr : r < 6) (hC : ka_C G X cc RX3 nL d) (hd : decode cc pc = .ok (.getfield 68, 3)) (kk : ka_I G X V (pc + 3) L (.int (V r 0 8) :: st)) : ka_I G X V pc L (.ref (ka_ad G r 0) :: st) := ka_get hC (ka_ixp _ hr 0 (by decide)) (ka_E_pool hr) rfl 8 (by decide) ka_in3 ka_q_fl_X3_68 rfl rfl hd kk
theorem kgp_X3_68 {r : Nat} (hr : r < 6) {P : Nat → Nat → Int32} (hC : ka_C G X cc RX3 nL d) (hd : decode cc pc = .ok (.getfield 68, 3)) (kk : ka_I G X (ka_sp V r P) (pc + 3) L (.int (P 0 8) :: st)) : ka_I G X (ka_sp V r P) pc L (.ref (ka_ad G r 0) :: st) := kg_X3_68 hr hC hd (by rw [ka_sp_s]; exact kk)
theorem kp_X3_68 {r : Nat} (hr : r < 6) {x : Int32} (hC : ka_C G X cc RX3 nL d) (hd : decode cc pc = .ok (.putfield 68, 3)) (kk : ka_I G X (ka_st V r 0 (upd (V r 0) 8 x)) (pc + 3) L st) : ka_I G X V pc L (.int x :: .ref (ka_ad G r 0) :: st) := ka_put (x := x) hC (ka_ixp _ hr 0 (by decide)) (ka_E_pool hr) rfl 8 (by decide) ka_in3 tyX3_ok nmX3 ka_q_fl_X3_68 rfl rfl (ty := .int) (by decide +kernel) rfl rfl (Nat.le_of_ble_eq_true rfl) (by rw [ka_E_pool hr]; rfl) hd kk
theorem kpp_X3_68 {r : Nat} (hr : r < 6) {P : Nat → Nat → Int32} {x : Int32} (hC : ka_C G X cc RX3 nL d) (hd : decode cc pc = .ok (.putfield 68, 3)) (kk : ka_I G X (ka_sp V r (ka_s2 P 0 (upd (P 0) 8 x))) (pc + 3) L st) : ka_I G X (ka_sp V r P) pc L (.int x :: .ref (ka_ad G r 0) :: st) := kp_X3_68 hr hC hd (by rw [ka_st_sp, ka_sp_s]; exact kk)
theorem kg_X3_71 {r : Nat} (hr : r < 6) (hC : ka_C G X cc RX3 nL d) (hd : decode cc pc = .ok (.getfield 71, 3)) (kk : ka_I G X V (pc + 3) L (.int (V r 0 9) :: st)) : ka_I G X V pc L (.ref (ka_ad G r 0) :: st) := ka_get hC (ka_ixp _ hr 0 (by decide)) (ka_E_pool hr) rfl 9 (by decide) ka_in3 ka_q_fl_X3_71 rfl rfl hd kk
theorem kgp_X3_71 {r : Nat} (hr : r < 6) {P : Nat → Nat → Int32} (hC : ka_C G X cc RX3 nL d) (hd : decode cc pc = .ok (.getfield 71, 3)) (kk : ka_I G X (ka_sp V r P) (pc + 3) L (.int (P 0 9) :: st)) : ka_I G X (ka_sp V r P) pc L (.ref (ka_ad G r 0) :: st) := kg_X3_71 hr hC hd (by rw [ka_sp_s]; exact kk)
theorem kp_X3_71 {r : Nat} (hr : r < 6) {x : Int32} (hC : ka_C G X cc RX3 nL d) (hd : decode cc pc = .ok (.putfield 71, 3)) (kk : ka_I G X (ka_st V r 0 (upd (V r 0) 9 x)) (pc + 3) L st) : ka_I G X V pc L (.int x :: .ref (ka_ad G r 0) :: st) := ka_put (x := x) hC (ka_ixp _ hr 0 (by decide)) (ka_E_pool hr) rfl 9 (by decide) ka_in3 tyX3_ok nmX3 ka_q_fl_X3_71 rfl rfl (ty := .int) (by decide +kernel) rfl rfl (Nat.le_of_ble_eq_true rfl) (by rw [ka_E_pool hr]; rfl) hd kk
theorem kpp_X3_71 {r : Nat} (hr : r < 6) {P : Nat → Nat → Int32} {x : Int32} (hC : ka_C G X cc RX3 nL d) (hd : decode cc pc = .ok (.putfield 71, 3)) (kk : ka_I G X (ka_sp V r (ka_s2 P 0 (upd (P 0) 9 x))) (pc + 3) L st) : ka_I G X (ka_sp V r P) pc L (.int x :: .ref (ka_ad G r 0) :: st) := kp_X3_71 hr hC hd (by rw [ka_st_sp, ka_sp_s]; exact kk)
theorem kg_X3_74 {r : Nat} (hr : r < 6) (hC : ka_C G X cc RX3 nL d) (hd : decode cc pc = .ok (.getfield 74, 3)) (kk : ka_I G X V (pc + 3) L (.int (V r 0 10) :: st)) : ka_I G X V pc L (.ref (ka_ad G r 0) :: st) := ka_get hC (ka_ixp _ hr 0 (by decide)) (ka_E_pool hr) rfl 10 (by decide) ka_in3 ka_q_fl_X3_74 rfl rfl hd kk
theorem kgp_X3_74 {r : Nat} (hr : r < 6) {P : Nat → Nat → Int32} (hC : ka_C G X cc RX3 nL d) (hd : decode cc pc = .ok (.getfield 74, 3)) (kk : ka_I G X (ka_sp V r P) (pc + 3) L (.int (P 0 10) :: st)) : ka_I G X (ka_sp V r P) pc L (.ref (ka_ad G r 0) :: st) := kg_X3_74 hr hC hd (by rw [ka_sp_s]; exact kk)
theorem kp_X3_74 {r : Nat} (hr : r < 6) {x : Int32} (hC : ka_C G X cc RX3 nL d) (hd : decode cc pc = .ok (.putfield 74, 3)) (kk : ka_I G X (ka_st V r 0 (upd (V r 0) 10 x)) (pc + 3) L st) : ka_I G X V pc L (.int x :: .ref (ka_ad G r 0) :: st) := ka_put (x := x) hC (ka_ixp _ hr 0 (by decide)) (ka_E_pool hr) rfl 10 (by decide) ka_in3 tyX3_ok nmX3 ka_q_fl_X3_74 rfl rfl (ty := .int) (by decide +kernel) rfl rfl (Nat.le_of_ble_eq_true rfl) (by rw [ka_E_pool hr]; rfl) hd kk
theorem kpp_X3_74 {r : Nat} (hr : r < 6) {P : Nat → Nat → Int32} {x : Int32} (hC : ka_C G X cc RX3 nL d) (hd : decode cc pc = .ok (.putfield 74, 3)) (kk : ka_I G X (ka_sp V r (ka_s2 P 0 (upd (P 0) 10 x))) (pc + 3) L st) : ka_I G X (ka_sp V r P) pc L (.int x :: .ref (ka_ad G r 0) :: st) := kp_X3_74 hr hC hd (by rw [ka_st_sp, ka_sp_s]; exact kk)
theorem kg_X3_89 {r : Nat} (hr : r < 6) {k : Nat} (hk : k < 5) (hC : ka_C G X cc RX3 nL d) (hd : decode cc pc = .ok (.getfield 89, 3)) (kk : ka_I G X V (pc + 3) L (.int (V r (2 + k) 2) :: st)) : ka_I G X V pc L (.ref (ka_ad G r (2 + k)) :: st) := ka_getN hC (ka_ixp _ hr (2 + k) (by omega)) (ka_E_place hr hk) rfl 2 (by decide) ka_in2 (List.mem_of_getElem? (i := 2) rfl) rfl rfl hd kk
theorem kgp_X3_89 {r : Nat} (hr : r < 6) {k : Nat} (hk : k < 5) {P : Nat → Nat → Int32} (hC : ka_C G X cc RX3 nL d) (hd : decode cc pc = .ok (.getfield 89, 3)) (kk : ka_I G X (ka_sp V r P) (pc + 3) L (.int (P (2 + k) 2) :: st)) : ka_I G X (ka_sp V r P) pc L (.ref (ka_ad G r (2 + k)) :: st) := kg_X3_89 hr hk hC hd (by rw [ka_sp_s]; exact kk)
theorem kp_X3_89 {r : Nat} (hr : r < 6) {k : Nat} (hk : k < 5) {x : Int32} (hC : ka_C G X cc RX3 nL d) (hd : decode cc pc = .ok (.putfield 89, 3)) (kk : ka_I G X (ka_st V r (2 + k) (upd (V r (2 + k)) 2 x)) (pc + 3) L st) : ka_I G X V pc L (.int x :: .ref (ka_ad G r (2 + k)) :: st) := ka_putN (x := x) hC (ka_ixp _ hr (2 + k) (by omega)) (ka_E_place hr hk) rfl 2 (by decide) ka_in2 tyX2_ok nmX2 (List.mem_of_getElem? (i := 2) rfl) rfl rfl (ty := .int) (by decide +kernel) rfl rfl (Nat.le_of_ble_eq_true rfl) (by rw [ka_E_place hr hk]; rfl) hd kk
theorem kpp_X3_89 {r : Nat} (hr : r < 6) {k : Nat} (hk : k < 5) {P : Nat → Nat → Int32} {x : Int32} (hC : ka_C G X cc RX3 nL d) (hd : decode cc pc = .ok (.putfield 89, 3)) (kk : ka_I G X (ka_sp V r (ka_s2 P (2 + k) (upd (P (2 + k)) 2 x))) (pc + 3) L st) : ka_I G X (ka_sp V r P) pc L (.int x :: .ref (ka_ad G r (2 + k)) :: st) := kp_X3_89 hr hk hC hd (by rw [ka_st_sp, ka_sp_s]; exact kk)
theorem kg_X3_92 {r : Nat} (hr : r < 6) {k : Nat} (hk : k < 20) (hC : ka_C G X cc RX3 nL d) (hd : decode cc pc = .ok (.getfield 92, 3)) (kk : ka_I G X V (pc + 3) L (.int (V r (8 + k) 4) :: st)) : ka_I G X V pc L (.ref (ka_ad G r (8 + k)) :: st) := ka_getN hC (ka_ixp _ hr (8 + k) (by omega)) (ka_E_wagon hr hk) rfl 4 (by decide) ka_in5 (List.mem_of_getElem? (i := 10) rfl) rfl rfl hd kk
theorem kgp_X3_92 {r : Nat} (hr : r < 6) {k : Nat} (hk : k < 20) {P : Nat → Nat → Int32} (hC : ka_C G X cc RX3 nL d) (hd : decode cc pc = .ok (.getfield 92, 3)) (kk : ka_I G X (ka_sp V r P) (pc + 3) L (.int (P (8 + k) 4) :: st)) : ka_I G X (ka_sp V r P) pc L (.ref (ka_ad G r (8 + k)) :: st) := kg_X3_92 hr hk hC hd (by rw [ka_sp_s]; exact kk)
theorem kp_X3_92 {r : Nat} (hr : r < 6) {k : Nat} (hk : k < 20) {x : Int32} (hC : ka_C G X cc RX3 nL d) (hd : decode cc pc = .ok (.putfield 92, 3)) (kk : ka_I G X (ka_st V r (8 + k) (upd (V r (8 + k)) 4 x)) (pc + 3) L st) : ka_I G X V pc L (.int x :: .ref (ka_ad G r (8 + k)) :: st) := ka_putN (x := x) hC (ka_ixp _ hr (8 + k) (by omega)) (ka_E_wagon hr hk) rfl 4 (by decide) ka_in5 tyX5_ok nmX5 (List.mem_of_getElem? (i := 10) rfl) rfl rfl (ty := .int) (by decide +kernel) rfl rfl (Nat.le_of_ble_eq_true rfl) (by rw [ka_E_wagon hr hk]; rfl) hd kk
theorem kpp_X3_92 {r : Nat} (hr : r < 6) {k : Nat} (hk : k < 20) {P : Nat → Nat → Int32} {x : Int32} (hC : ka_C G X cc RX3 nL d) (hd : decode cc pc = .ok (.putfield 92, 3)) (kk : ka_I G X (ka_sp V r (ka_s2 P (8 + k) (upd (P (8 + k)) 4 x))) (pc + 3) L st) : ka_I G X (ka_sp V r P) pc L (.int x :: .ref (ka_ad G r (8 + k)) :: st) := kp_X3_92 hr hk hC hd (by rw [ka_st_sp, ka_sp_s]; exact kk)
theorem kg_X3_101 {r : Nat} (hr : r < 6) {k : Nat} (hk : k < 5) (hC : ka_C G X cc RX3 nL d) (hd : decode cc pc = .ok (.getfield 101, 3)) (kk : ka_I G X V (pc + 3) L (.int (V r (2 + k) 0) :: st)) : ka_I G X V pc L (.ref (ka_ad G r (2 + k)) :: st) := ka_getN hC (ka_ixp _ hr (2 + k) (by omega)) (ka_E_place hr hk) rfl 0 (by decide) ka_in2 (List.mem_of_getElem? (i := 0) rfl) rfl rfl hd kk
theorem kgp_X3_101 {r : Nat} (hr : r < 6) {k : Nat} (hk : k < 5) {P : Nat → Nat → Int32} (hC : ka_C G X cc RX3 nL d) (hd : decode cc pc = .ok (.getfield 101, 3)) (kk : ka_I G X (ka_sp V r P) (pc + 3) L (.int (P (2 + k) 0) :: st)) : ka_I G X (ka_sp V r P) pc L (.ref (ka_ad G r (2 + k)) :: st) := kg_X3_101 hr hk hC hd (by rw [ka_sp_s]; exact kk)
theorem kp_X3_101 {r : Nat} (hr : r < 6) {k : Nat} (hk : k < 5) {x : Int32} (hC : ka_C G X cc RX3 nL d) (hd : decode cc pc = .ok (.putfield 101, 3)) (kk : ka_I G X (ka_st V r (2 + k) (upd (V r (2 + k)) 0 x)) (pc + 3) L st) : ka_I G X V pc L (.int x :: .ref (ka_ad G r (2 + k)) :: st) := ka_putN (x := x) hC (ka_ixp _ hr (2 + k) (by omega)) (ka_E_place hr hk) rfl 0 (by decide) ka_in2 tyX2_ok nmX2 (List.mem_of_getElem? (i := 0) rfl) rfl rfl (ty := .int) (by decide +kernel) rfl rfl (Nat.le_of_ble_eq_true rfl) (by rw [ka_E_place hr hk]; rfl) hd kk
theorem kpp_X3_101 {r : Nat} (hr : r < 6) {k : Nat} (hk : k < 5) {P : Nat → Nat → Int32} {x : Int32} (hC : ka_C G X cc RX3 nL d) (hd : decode cc pc = .ok (.putfield 101, 3)) (kk : ka_I G X (ka_sp V r (ka_s2 P (2 + k) (upd (P (2 + k)) 0 x))) (pc + 3) L st) : ka_I G X (ka_sp V r P) pc L (.int x :: .ref (ka_ad G r (2 + k)) :: st) := kp_X3_101 hr hk hC hd (by rw [ka_st_sp, ka_sp_s]; exact kk)
theorem kg_X3_123 {r : Nat} (hr : r < 6) {k : Nat} (hk : k < 20) (hC : ka_C G X cc RX3 nL d) (hd : decode cc pc = .ok (.getfield 123, 3)) (kk : ka_I G X V (pc + 3) L (.int (V r (8 + k) 0) :: st)) : ka_I G X V pc L (.ref (ka_ad G r (8 + k)) :: st) := ka_getN hC (ka_ixp _ hr (8 + k) (by omega)) (ka_E_wagon hr hk) rfl 0 (by decide) ka_in5 (List.mem_of_getElem? (i := 6) rfl) rfl rfl hd kk
theorem kgp_X3_123 {r : Nat} (hr : r < 6) {k : Nat} (hk : k < 20) {P : Nat → Nat → Int32} (hC : ka_C G X cc RX3 nL d) (hd : decode cc pc = .ok (.getfield 123, 3)) (kk : ka_I G X (ka_sp V r P) (pc + 3) L (.int (P (8 + k) 0) :: st)) : ka_I G X (ka_sp V r P) pc L (.ref (ka_ad G r (8 + k)) :: st) := kg_X3_123 hr hk hC hd (by rw [ka_sp_s]; exact kk)
theorem kp_X3_123 {r : Nat} (hr : r < 6) {k : Nat} (hk : k < 20) {x : Int32} (hC : ka_C G X cc RX3 nL d) (hd : decode cc pc = .ok (.putfield 123, 3)) (kk : ka_I G X (ka_st V r (8 + k) (upd (V r (8 + k)) 0 x)) (pc + 3) L st) : ka_I G X V pc L (.int x :: .ref (ka_ad G r (8 + k)) :: st) := ka_putN (x := x) hC (ka_ixp _ hr (8 + k) (by omega)) (ka_E_wagon hr hk) rfl 0 (by decide) ka_in5 tyX5_ok nmX5 (List.mem_of_getElem? (i := 6) rfl) rfl rfl (ty := .int) (by decide +kernel) rfl rfl (Nat.le_of_ble_eq_true rfl) (by rw [ka_E_wagon hr hk]; rfl) hd kk
theorem kpp_X3_123 {r : Nat} (hr : r < 6) {k : Nat} (hk : k < 20) {P : Nat → Nat → Int32} {x : Int32} (hC : ka_C G X cc RX3 nL d) (hd : decode cc pc = .ok (.putfield 123, 3)) (kk : ka_I G X (ka_sp V r (ka_s2 P (8 + k) (upd (P (8 + k)) 0 x))) (pc + 3) L st) : ka_I G X (ka_sp V r P) pc L (.int x :: .ref (ka_ad G r (8 + k)) :: st) := kp_X3_123 hr hk hC hd (by rw [ka_st_sp, ka_sp_s]; exact kk)
theorem kg_X3_126 {r : Nat} (hr : r < 6) {k : Nat} (hk : k < 20) (hC : ka_C G X cc RX3 nL d) (hd : decode cc pc = .ok (.getfield 126, 3)) (kk : ka_I G X V (pc + 3) L (.int (V r (8 + k) 1) :: st)) : ka_I G X V pc L (.ref (ka_ad G r (8 + k)) :: st) := ka_getN hC (ka_ixp _ hr (8 + k) (by omega)) (ka_E_wagon hr hk) rfl 1 (by decide) ka_in5 (List.mem_of_getElem? (i := 7) rfl) rfl rfl hd kk
theorem kgp_X3_126 {r : Nat} (hr : r < 6) {k : Nat} (hk : k < 20) {P : Nat → Nat → Int32} (hC : ka_C G X cc RX3 nL d) (hd : decode cc pc = .ok (.getfield 126, 3)) (kk : ka_I G X (ka_sp V r P) (pc + 3) L (.int (P (8 + k) 1) :: st)) : ka_I G X (ka_sp V r P) pc L (.ref (ka_ad G r (8 + k)) :: st) := kg_X3_126 hr hk hC hd (by rw [ka_sp_s]; exact kk)
theorem kp_X3_126 {r : Nat} (hr : r < 6) {k : Nat} (hk : k < 20) {x : Int32} (hC : ka_C G X cc RX3 nL d) (hd : decode cc pc = .ok (.putfield 126, 3)) (kk : ka_I G X (ka_st V r (8 + k) (upd (V r (8 + k)) 1 x)) (pc + 3) L st) : ka_I G X V pc L (.int x :: .ref (ka_ad G r (8 + k)) :: st) := ka_putN (x := x) hC (ka_ixp _ hr (8 + k) (by omega)) (ka_E_wagon hr hk) rfl 1 (by decide) ka_in5 tyX5_ok nmX5 (List.mem_of_getElem? (i := 7) rfl) rfl rfl (ty := .int) (by decide +kernel) rfl rfl (Nat.le_of_ble_eq_true rfl) (by rw [ka_E_wagon hr hk]; rfl) hd kk
theorem kpp_X3_126 {r : Nat} (hr : r < 6) {k : Nat} (hk : k < 20) {P : Nat → Nat → Int32} {x : Int32} (hC : ka_C G X cc RX3 nL d) (hd : decode cc pc = .ok (.putfield 126, 3)) (kk : ka_I G X (ka_sp V r (ka_s2 P (8 + k) (upd (P (8 + k)) 1 x))) (pc + 3) L st) : ka_I G X (ka_sp V r P) pc L (.int x :: .ref (ka_ad G r (8 + k)) :: st) := kp_X3_126 hr hk hC hd (by rw [ka_st_sp, ka_sp_s]; exact kk)
theorem kg_X3_141 {r : Nat} (hr : r < 6) {k : Nat} (hk : k < 5) (hC : ka_C G X cc RX3 nL d) (hd : decode cc pc = .ok (.getfield 141, 3)) (kk : ka_I G X V (pc + 3) L (.int (V r (2 + k) 1) :: st)) : ka_I G X V pc L (.ref (ka_ad G r (2 + k)) :: st) := ka_getN hC (ka_ixp _ hr (2 + k) (by omega)) (ka_E_place hr hk) rfl 1 (by decide) ka_in2 (List.mem_of_getElem? (i := 1) rfl) rfl rfl hd kk
theorem kgp_X3_141 {r : Nat} (hr : r < 6) {k : Nat} (hk : k < 5) {P : Nat → Nat → Int32} (hC : ka_C G X cc RX3 nL d) (hd : decode cc pc = .ok (.getfield 141, 3)) (kk : ka_I G X (ka_sp V r P) (pc + 3) L (.int (P (2 + k) 1) :: st)) : ka_I G X (ka_sp V r P) pc L (.ref (ka_ad G r (2 + k)) :: st) := kg_X3_141 hr hk hC hd (by rw [ka_sp_s]; exact kk)
theorem kp_X3_141 {r : Nat} (hr : r < 6) {k : Nat} (hk : k < 5) {x : Int32} (hC : ka_C G X cc RX3 nL d) (hd : decode cc pc = .ok (.putfield 141, 3)) (kk : ka_I G X (ka_st V r (2 + k) (upd (V r (2 + k)) 1 x)) (pc + 3) L st) : ka_I G X V pc L (.int x :: .ref (ka_ad G r (2 + k)) :: st) := ka_putN (x := x) hC (ka_ixp _ hr (2 + k) (by omega)) (ka_E_place hr hk) rfl 1 (by decide) ka_in2 tyX2_ok nmX2 (List.mem_of_getElem? (i := 1) rfl) rfl rfl (ty := .int) (by decide +kernel) rfl rfl (Nat.le_of_ble_eq_true rfl) (by rw [ka_E_place hr hk]; rfl) hd kk
theorem kpp_X3_141 {r : Nat} (hr : r < 6) {k : Nat} (hk : k < 5) {P : Nat → Nat → Int32} {x : Int32} (hC : ka_C G X cc RX3 nL d) (hd : decode cc pc = .ok (.putfield 141, 3)) (kk : ka_I G X (ka_sp V r (ka_s2 P (2 + k) (upd (P (2 + k)) 1 x))) (pc + 3) L st) : ka_I G X (ka_sp V r P) pc L (.int x :: .ref (ka_ad G r (2 + k)) :: st) := kp_X3_141 hr hk hC hd (by rw [ka_st_sp, ka_sp_s]; exact kk)
theorem kg_X3_144 {r : Nat} (hr : r < 6) {k : Nat} (hk : k < 5) (hC : ka_C G X cc RX3 nL d) (hd : decode cc pc = .ok (.getfield 144, 3)) (kk : ka_I G X V (pc + 3) L (.int (V r (2 + k) 5) :: st)) : ka_I G X V pc L (.ref (ka_ad G r (2 + k)) :: st) := ka_getN hC (ka_ixp _ hr (2 + k) (by omega)) (ka_E_place hr hk) rfl 5 (by decide) ka_in2 (List.mem_of_getElem? (i := 5) rfl) rfl rfl hd kk
theorem kgp_X3_144 {r : Nat} (hr : r < 6) {k : Nat} (hk : k < 5) {P : Nat → Nat → Int32} (hC : ka_C G X cc RX3 nL d) (hd : decode cc pc = .ok (.getfield 144, 3)) (kk : ka_I G X (ka_sp V r P) (pc + 3) L (.int (P (2 + k) 5) :: st)) : ka_I G X (ka_sp V r P) pc L (.ref (ka_ad G r (2 + k)) :: st) := kg_X3_144 hr hk hC hd (by rw [ka_sp_s]; exact kk)
theorem kp_X3_144 {r : Nat} (hr : r < 6) {k : Nat} (hk : k < 5) {x : Int32} (hC : ka_C G X cc RX3 nL d) (hd : decode cc pc = .ok (.putfield 144, 3)) (kk : ka_I G X (ka_st V r (2 + k) (upd (V r (2 + k)) 5 x)) (pc + 3) L st) : ka_I G X V pc L (.int x :: .ref (ka_ad G r (2 + k)) :: st) := ka_putN (x := x) hC (ka_ixp _ hr (2 + k) (by omega)) (ka_E_place hr hk) rfl 5 (by decide) ka_in2 tyX2_ok nmX2 (List.mem_of_getElem? (i := 5) rfl) rfl rfl (ty := .int) (by decide +kernel) rfl rfl (Nat.le_of_ble_eq_true rfl) (by rw [ka_E_place hr hk]; rfl) hd kk
theorem kpp_X3_144 {r : Nat} (hr : r < 6) {k : Nat} (hk : k < 5) {P : Nat → Nat → Int32} {x : Int32} (hC : ka_C G X cc RX3 nL d) (hd : decode cc pc = .ok (.putfield 144, 3)) (kk : ka_I G X (ka_sp V r (ka_s2 P (2 + k) (upd (P (2 + k)) 5 x))) (pc + 3) L st) : ka_I G X (ka_sp V r P) pc L (.int x :: .ref (ka_ad G r (2 + k)) :: st) := kp_X3_144 hr hk hC hd (by rw [ka_st_sp, ka_sp_s]; exact kk)
theorem kg_X3_147 {r : Nat} (hr : r < 6) {k : Nat} (hk : k < 20) (hC : ka_C G X cc RX3 nL d) (hd : decode cc pc = .ok (.getfield 147, 3)) (kk : ka_I G X V (pc + 3) L (.int (ka_b (ka_t (V r (8 + k) 3))) :: st)) : ka_I G X V pc L (.ref (ka_ad G r (8 + k)) :: st) := ka_getN hC (ka_ixp _ hr (8 + k) (by omega)) (ka_E_wagon hr hk) rfl 3 (by decide) ka_in5 (List.mem_of_getElem? (i := 9) rfl) rfl rfl hd kk
theorem kgp_X3_147 {r : Nat} (hr : r < 6) {k : Nat} (hk : k < 20) {P : Nat → Nat → Int32} (hC : ka_C G X cc RX3 nL d) (hd : decode cc pc = .ok (.getfield 147, 3)) (kk : ka_I G X (ka_sp V r P) (pc + 3) L (.int (ka_b (ka_t (P (8 + k) 3))) :: st)) : ka_I G X (ka_sp V r P) pc L (.ref (ka_ad G r (8 + k)) :: st) := kg_X3_147 hr hk hC hd (by rw [ka_sp_s]; exact kk)
theorem kp_X3_147 {r : Nat} (hr : r < 6) {k : Nat} (hk : k < 20) {b : Bool} {x : Int32} (hb : x = ka_b b) (hC : ka_C G X cc RX3 nL d) (hd : decode cc pc = .ok (.putfield 147, 3)) (kk : ka_I G X (ka_st V r (8 + k) (upd (V r (8 + k)) 3 (ka_b b))) (pc + 3) L st) : ka_I G X V pc L (.int x :: .ref (ka_ad G r (8 + k)) :: st) := by
  subst hb
  exact ka_putN (x := (ka_b b)) hC (ka_ixp _ hr (8 + k) (by omega)) (ka_E_wagon hr hk) rfl 3 (by decide) ka_in5 tyX5_ok nmX5 (List.mem_of_getElem? (i := 9) rfl) rfl rfl (ty := .boolean) (by decide +kernel) (by cases b <;> rfl) (by cases b <;> rfl) (Nat.le_of_ble_eq_true rfl) (by rw [ka_E_wagon hr hk]; cases b <;> rfl) hd kk
theorem kpp_X3_147 {r : Nat} (hr : r < 6) {k : Nat} (hk : k < 20) {P : Nat → Nat → Int32} {b : Bool} {x : Int32} (hb : x = ka_b b) (hC : ka_C G X cc RX3 nL d) (hd : decode cc pc = .ok (.putfield 147, 3)) (kk : ka_I G X (ka_sp V r (ka_s2 P (8 + k) (upd (P (8 + k)) 3 (ka_b b)))) (pc + 3) L st) : ka_I G X (ka_sp V r P) pc L (.int x :: .ref (ka_ad G r (8 + k)) :: st) := kp_X3_147 hr hk hb hC hd (by rw [ka_st_sp, ka_sp_s]; exact kk)
theorem kg_X3_151 {r : Nat} (hr : r < 6) {k : Nat} (hk : k < 20) (hC : ka_C G X cc RX3 nL d) (hd : decode cc pc = .ok (.getfield 151, 3)) (kk : ka_I G X V (pc + 3) L (.int (V r (8 + k) 8) :: st)) : ka_I G X V pc L (.ref (ka_ad G r (8 + k)) :: st) := ka_getN hC (ka_ixp _ hr (8 + k) (by omega)) (ka_E_wagon hr hk) rfl 8 (by decide) ka_in5 (List.mem_of_getElem? (i := 14) rfl) rfl rfl hd kk
theorem kgp_X3_151 {r : Nat} (hr : r < 6) {k : Nat} (hk : k < 20) {P : Nat → Nat → Int32} (hC : ka_C G X cc RX3 nL d) (hd : decode cc pc = .ok (.getfield 151, 3)) (kk : ka_I G X (ka_sp V r P) (pc + 3) L (.int (P (8 + k) 8) :: st)) : ka_I G X (ka_sp V r P) pc L (.ref (ka_ad G r (8 + k)) :: st) := kg_X3_151 hr hk hC hd (by rw [ka_sp_s]; exact kk)
theorem kp_X3_151 {r : Nat} (hr : r < 6) {k : Nat} (hk : k < 20) {x : Int32} (hC : ka_C G X cc RX3 nL d) (hd : decode cc pc = .ok (.putfield 151, 3)) (kk : ka_I G X (ka_st V r (8 + k) (upd (V r (8 + k)) 8 x)) (pc + 3) L st) : ka_I G X V pc L (.int x :: .ref (ka_ad G r (8 + k)) :: st) := ka_putN (x := x) hC (ka_ixp _ hr (8 + k) (by omega)) (ka_E_wagon hr hk) rfl 8 (by decide) ka_in5 tyX5_ok nmX5 (List.mem_of_getElem? (i := 14) rfl) rfl rfl (ty := .int) (by decide +kernel) rfl rfl (Nat.le_of_ble_eq_true rfl) (by rw [ka_E_wagon hr hk]; rfl) hd kk
theorem kpp_X3_151 {r : Nat} (hr : r < 6) {k : Nat} (hk : k < 20) {P : Nat → Nat → Int32} {x : Int32} (hC : ka_C G X cc RX3 nL d) (hd : decode cc pc = .ok (.putfield 151, 3)) (kk : ka_I G X (ka_sp V r (ka_s2 P (8 + k) (upd (P (8 + k)) 8 x))) (pc + 3) L st) : ka_I G X (ka_sp V r P) pc L (.int x :: .ref (ka_ad G r (8 + k)) :: st) := kp_X3_151 hr hk hC hd (by rw [ka_st_sp, ka_sp_s]; exact kk)
theorem kg_X3_154 {r : Nat} (hr : r < 6) {k : Nat} (hk : k < 20) (hC : ka_C G X cc RX3 nL d) (hd : decode cc pc = .ok (.getfield 154, 3)) (kk : ka_I G X V (pc + 3) L (.int (V r (8 + k) 2) :: st)) : ka_I G X V pc L (.ref (ka_ad G r (8 + k)) :: st) := ka_getN hC (ka_ixp _ hr (8 + k) (by omega)) (ka_E_wagon hr hk) rfl 2 (by decide) ka_in5 (List.mem_of_getElem? (i := 8) rfl) rfl rfl hd kk
theorem kgp_X3_154 {r : Nat} (hr : r < 6) {k : Nat} (hk : k < 20) {P : Nat → Nat → Int32} (hC : ka_C G X cc RX3 nL d) (hd : decode cc pc = .ok (.getfield 154, 3)) (kk : ka_I G X (ka_sp V r P) (pc + 3) L (.int (P (8 + k) 2) :: st)) : ka_I G X (ka_sp V r P) pc L (.ref (ka_ad G r (8 + k)) :: st) := kg_X3_154 hr hk hC hd (by rw [ka_sp_s]; exact kk)
theorem kp_X3_154 {r : Nat} (hr : r < 6) {k : Nat} (hk : k < 20) {x : Int32} (hC : ka_C G X cc RX3 nL d) (hd : decode cc pc = .ok (.putfield 154, 3)) (kk : ka_I G X (ka_st V r (8 + k) (upd (V r (8 + k)) 2 x)) (pc + 3) L st) : ka_I G X V pc L (.int x :: .ref (ka_ad G r (8 + k)) :: st) := ka_putN (x := x) hC (ka_ixp _ hr (8 + k) (by omega)) (ka_E_wagon hr hk) rfl 2 (by decide) ka_in5 tyX5_ok nmX5 (List.mem_of_getElem? (i := 8) rfl) rfl rfl (ty := .int) (by decide +kernel) rfl rfl (Nat.le_of_ble_eq_true rfl) (by rw [ka_E_wagon hr hk]; rfl) hd kk
theorem kpp_X3_154 {r : Nat} (hr : r < 6) {k : Nat} (hk : k < 20) {P : Nat → Nat → Int32} {x : Int32} (hC : ka_C G X cc RX3 nL d) (hd : decode cc pc = .ok (.putfield 154, 3)) (kk : ka_I G X (ka_sp V r (ka_s2 P (8 + k) (upd (P (8 + k)) 2 x))) (pc + 3) L st) : ka_I G X (ka_sp V r P) pc L (.int x :: .ref (ka_ad G r (8 + k)) :: st) := kp_X3_154 hr hk hC hd (by rw [ka_st_sp, ka_sp_s]; exact kk)
theorem kg_X3_176 {r : Nat} (hr : r < 6) {k : Nat} (hk : k < 20) (hC : ka_C G X cc RX3 nL d) (hd : decode cc pc = .ok (.getfield 176, 3)) (kk : ka_I G X V (pc + 3) L (.int (V r (8 + k) 6) :: st)) : ka_I G X V pc L (.ref (ka_ad G r (8 + k)) :: st) := ka_getN hC (ka_ixp _ hr (8 + k) (by omega)) (ka_E_wagon hr hk) rfl 6 (by decide) ka_in5 (List.mem_of_getElem? (i := 12) rfl) rfl rfl hd kk
theorem kgp_X3_176 {r : Nat} (hr : r < 6) {k : Nat} (hk : k < 20) {P : Nat → Nat → Int32} (hC : ka_C G X cc RX3 nL d) (hd : decode cc pc = .ok (.getfield 176, 3)) (kk : ka_I G X (ka_sp V r P) (pc + 3) L (.int (P (8 + k) 6) :: st)) : ka_I G X (ka_sp V r P) pc L (.ref (ka_ad G r (8 + k)) :: st) := kg_X3_176 hr hk hC hd (by rw [ka_sp_s]; exact kk)
theorem kp_X3_176 {r : Nat} (hr : r < 6) {k : Nat} (hk : k < 20) {x : Int32} (hC : ka_C G X cc RX3 nL d) (hd : decode cc pc = .ok (.putfield 176, 3)) (kk : ka_I G X (ka_st V r (8 + k) (upd (V r (8 + k)) 6 x)) (pc + 3) L st) : ka_I G X V pc L (.int x :: .ref (ka_ad G r (8 + k)) :: st) := ka_putN (x := x) hC (ka_ixp _ hr (8 + k) (by omega)) (ka_E_wagon hr hk) rfl 6 (by decide) ka_in5 tyX5_ok nmX5 (List.mem_of_getElem? (i := 12) rfl) rfl rfl (ty := .int) (by decide +kernel) rfl rfl (Nat.le_of_ble_eq_true rfl) (by rw [ka_E_wagon hr hk]; rfl) hd kk
theorem kpp_X3_176 {r : Nat} (hr : r < 6) {k : Nat} (hk : k < 20) {P : Nat → Nat → Int32} {x : Int32} (hC : ka_C G X cc RX3 nL d) (hd : decode cc pc = .ok (.putfield 176, 3)) (kk : ka_I G X (ka_sp V r (ka_s2 P (8 + k) (upd (P (8 + k)) 6 x))) (pc + 3) L st) : ka_I G X (ka_sp V r P) pc L (.int x :: .ref (ka_ad G r (8 + k)) :: st) := kp_X3_176 hr hk hC hd (by rw [ka_st_sp, ka_sp_s]; exact kk)
theorem kg_X3_215 {r : Nat} (hr : r < 6) {k : Nat} (hk : k < 20) (hC : ka_C G X cc RX3 nL d) (hd : decode cc pc = .ok (.getfield 215, 3)) (kk : ka_I G X V (pc + 3) L (.int (V r (8 + k) 7) :: st)) : ka_I G X V pc L (.ref (ka_ad G r (8 + k)) :: st) := ka_getN hC (ka_ixp _ hr (8 + k) (by omega)) (ka_E_wagon hr hk) rfl 7 (by decide) ka_in5 (List.mem_of_getElem? (i := 13) rfl) rfl rfl hd kk
theorem kgp_X3_215 {r : Nat} (hr : r < 6) {k : Nat} (hk : k < 20) {P : Nat → Nat → Int32} (hC : ka_C G X cc RX3 nL d) (hd : decode cc pc = .ok (.getfield 215, 3)) (kk : ka_I G X (ka_sp V r P) (pc + 3) L (.int (P (8 + k) 7) :: st)) : ka_I G X (ka_sp V r P) pc L (.ref (ka_ad G r (8 + k)) :: st) := kg_X3_215 hr hk hC hd (by rw [ka_sp_s]; exact kk)
theorem kp_X3_215 {r : Nat} (hr : r < 6) {k : Nat} (hk : k < 20) {x : Int32} (hC : ka_C G X cc RX3 nL d) (hd : decode cc pc = .ok (.putfield 215, 3)) (kk : ka_I G X (ka_st V r (8 + k) (upd (V r (8 + k)) 7 x)) (pc + 3) L st) : ka_I G X V pc L (.int x :: .ref (ka_ad G r (8 + k)) :: st) := ka_putN (x := x) hC (ka_ixp _ hr (8 + k) (by omega)) (ka_E_wagon hr hk) rfl 7 (by decide) ka_in5 tyX5_ok nmX5 (List.mem_of_getElem? (i := 13) rfl) rfl rfl (ty := .int) (by decide +kernel) rfl rfl (Nat.le_of_ble_eq_true rfl) (by rw [ka_E_wagon hr hk]; rfl) hd kk
theorem kpp_X3_215 {r : Nat} (hr : r < 6) {k : Nat} (hk : k < 20) {P : Nat → Nat → Int32} {x : Int32} (hC : ka_C G X cc RX3 nL d) (hd : decode cc pc = .ok (.putfield 215, 3)) (kk : ka_I G X (ka_sp V r (ka_s2 P (8 + k) (upd (P (8 + k)) 7 x))) (pc + 3) L st) : ka_I G X (ka_sp V r P) pc L (.int x :: .ref (ka_ad G r (8 + k)) :: st) := kp_X3_215 hr hk hC hd (by rw [ka_st_sp, ka_sp_s]; exact kk)
theorem kg_X3_233 {r : Nat} (hr : r < 6) {k : Nat} (hk : k < 20) (hC : ka_C G X cc RX3 nL d) (hd : decode cc pc = .ok (.getfield 233, 3)) (kk : ka_I G X V (pc + 3) L (.int (V r (8 + k) 5) :: st)) : ka_I G X V pc L (.ref (ka_ad G r (8 + k)) :: st) := ka_getN hC (ka_ixp _ hr (8 + k) (by omega)) (ka_E_wagon hr hk) rfl 5 (by decide) ka_in5 (List.mem_of_getElem? (i := 11) rfl) rfl rfl hd kk
theorem kgp_X3_233 {r : Nat} (hr : r < 6) {k : Nat} (hk : k < 20) {P : Nat → Nat → Int32} (hC : ka_C G X cc RX3 nL d) (hd : decode cc pc = .ok (.getfield 233, 3)) (kk : ka_I G X (ka_sp V r P) (pc + 3) L (.int (P (8 + k) 5) :: st)) : ka_I G X (ka_sp V r P) pc L (.ref (ka_ad G r (8 + k)) :: st) := kg_X3_233 hr hk hC hd (by rw [ka_sp_s]; exact kk)
theorem kp_X3_233 {r : Nat} (hr : r < 6) {k : Nat} (hk : k < 20) {x : Int32} (hC : ka_C G X cc RX3 nL d) (hd : decode cc pc = .ok (.putfield 233, 3)) (kk : ka_I G X (ka_st V r (8 + k) (upd (V r (8 + k)) 5 x)) (pc + 3) L st) : ka_I G X V pc L (.int x :: .ref (ka_ad G r (8 + k)) :: st) := ka_putN (x := x) hC (ka_ixp _ hr (8 + k) (by omega)) (ka_E_wagon hr hk) rfl 5 (by decide) ka_in5 tyX5_ok nmX5 (List.mem_of_getElem? (i := 11) rfl) rfl rfl (ty := .int) (by decide +kernel) rfl rfl (Nat.le_of_ble_eq_true rfl) (by rw [ka_E_wagon hr hk]; rfl) hd kk
theorem kpp_X3_233 {r : Nat} (hr : r < 6) {k : Nat} (hk : k < 20) {P : Nat → Nat → Int32} {x : Int32} (hC : ka_C G X cc RX3 nL d) (hd : decode cc pc = .ok (.putfield 233, 3)) (kk : ka_I G X (ka_sp V r (ka_s2 P (8 + k) (upd (P (8 + k)) 5 x))) (pc + 3) L st) : ka_I G X (ka_sp V r P) pc L (.int x :: .ref (ka_ad G r (8 + k)) :: st) := kp_X3_233 hr hk hC hd (by rw [ka_st_sp, ka_sp_s]; exact kk)
theorem kg_X3_249 {r : Nat} (hr : r < 6) {k : Nat} (hk : k < 5) (hC : ka_C G X cc RX3 nL d) (hd : decode cc pc = .ok (.getfield 249, 3)) (kk : ka_I G X V (pc + 3) L (.int (V r (2 + k) 3) :: st)) : ka_I G X V pc L (.ref (ka_ad G r (2 + k)) :: st) := ka_getN hC (ka_ixp _ hr (2 + k) (by omega)) (ka_E_place hr hk) rfl 3 (by decide) ka_in2 (List.mem_of_getElem? (i := 3) rfl) rfl rfl hd kk
theorem kgp_X3_249 {r : Nat} (hr : r < 6) {k : Nat} (hk : k < 5) {P : Nat → Nat → Int32} (hC : ka_C G X cc RX3 nL d) (hd : decode cc pc = .ok (.getfield 249, 3)) (kk : ka_I G X (ka_sp V r P) (pc + 3) L (.int (P (2 + k) 3) :: st)) : ka_I G X (ka_sp V r P) pc L (.ref (ka_ad G r (2 + k)) :: st) := kg_X3_249 hr hk hC hd (by rw [ka_sp_s]; exact kk)
theorem kp_X3_249 {r : Nat} (hr : r < 6) {k : Nat} (hk : k < 5) {x : Int32} (hC : ka_C G X cc RX3 nL d) (hd : decode cc pc = .ok (.putfield 249, 3)) (kk : ka_I G X (ka_st V r (2 + k) (upd (V r (2 + k)) 3 x)) (pc + 3) L st) : ka_I G X V pc L (.int x :: .ref (ka_ad G r (2 + k)) :: st) := ka_putN (x := x) hC (ka_ixp _ hr (2 + k) (by omega)) (ka_E_place hr hk) rfl 3 (by decide) ka_in2 tyX2_ok nmX2 (List.mem_of_getElem? (i := 3) rfl) rfl rfl (ty := .int) (by decide +kernel) rfl rfl (Nat.le_of_ble_eq_true rfl) (by rw [ka_E_place hr hk]; rfl) hd kk
theorem kpp_X3_249 {r : Nat} (hr : r < 6) {k : Nat} (hk : k < 5) {P : Nat → Nat → Int32} {x : Int32} (hC : ka_C G X cc RX3 nL d) (hd : decode cc pc = .ok (.putfield 249, 3)) (kk : ka_I G X (ka_sp V r (ka_s2 P (2 + k) (upd (P (2 + k)) 3 x))) (pc + 3) L st) : ka_I G X (ka_sp V r P) pc L (.int x :: .ref (ka_ad G r (2 + k)) :: st) := kp_X3_249 hr hk hC hd (by rw [ka_st_sp, ka_sp_s]; exact kk)
theorem kg_X3_252 {r : Nat} (hr : r < 6) {k : Nat} (hk : k < 5) (hC : ka_C G X cc RX3 nL d) (hd : decode cc pc = .ok (.getfield 252, 3)) (kk : ka_I G X V (pc + 3) L (.int (V r (2 + k) 4) :: st)) : ka_I G X V pc L (.ref (ka_ad G r (2 + k)) :: st) := ka_getN hC (ka_ixp _ hr (2 + k) (by omega)) (ka_E_place hr hk) rfl 4 (by decide) ka_in2 (List.mem_of_getElem? (i := 4) rfl) rfl rfl hd kk
theorem kgp_X3_252 {r : Nat} (hr : r < 6) {k : Nat} (hk : k < 5) {P : Nat → Nat → Int32} (hC : ka_C G X cc RX3 nL d) (hd : decode cc pc = .ok (.getfield 252, 3)) (kk : ka_I G X (ka_sp V r P) (pc + 3) L (.int (P (2 + k) 4) :: st)) : ka_I G X (ka_sp V r P) pc L (.ref (ka_ad G r (2 + k)) :: st) := kg_X3_252 hr hk hC hd (by rw [ka_sp_s]; exact kk)
theorem kp_X3_252 {r : Nat} (hr : r < 6) {k : Nat} (hk : k < 5) {x : Int32} (hC : ka_C G X cc RX3 nL d) (hd : decode cc pc = .ok (.putfield 252, 3)) (kk : ka_I G X (ka_st V r (2 + k) (upd (V r (2 + k)) 4 x)) (pc + 3) L st) : ka_I G X V pc L (.int x :: .ref (ka_ad G r (2 + k)) :: st) := ka_putN (x := x) hC (ka_ixp _ hr (2 + k) (by omega)) (ka_E_place hr hk) rfl 4 (by decide) ka_in2 tyX2_ok nmX2 (List.mem_of_getElem? (i := 4) rfl) rfl rfl (ty := .int) (by decide +kernel) rfl rfl (Nat.le_of_ble_eq_true rfl) (by rw [ka_E_place hr hk]; rfl) hd kk
theorem kpp_X3_252 {r : Nat} (hr : r < 6) {k : Nat} (hk : k < 5) {P : Nat → Nat → Int32} {x : Int32} (hC : ka_C G X cc RX3 nL d) (hd : decode cc pc = .ok (.putfield 252, 3)) (kk : ka_I G X (ka_sp V r (ka_s2 P (2 + k) (upd (P (2 + k)) 4 x))) (pc + 3) L st) : ka_I G X (ka_sp V r P) pc L (.int x :: .ref (ka_ad G r (2 + k)) :: st) := kp_X3_252 hr hk hC hd (by rw [ka_st_sp, ka_sp_s]; exact kk)
theorem kg_X4_9 {r : Nat} (hr : r < 6) (hC : ka_C G X cc RX4 nL d) (hd : decode cc pc = .ok (.getfield 9, 3)) (kk : ka_I G X V (pc + 3) L (.ref (ka_ad G r 31) :: st)) : ka_I G X V pc L (.ref (ka_ad G r 30) :: st) := ka_get hC (ka_ixp _ hr 30 (by decide)) (ka_E_shop hr) rfl 0 (by decide) ka_in4 ka_q_fl_X4_9 rfl rfl hd kk
theorem kg_X4_21 {r : Nat} (hr : r < 6) (hC : ka_C G X cc RX4 nL d) (hd : decode cc pc = .ok (.getfield 21, 3)) (kk : ka_I G X V (pc + 3) L (.int (V r 30 1) :: st)) : ka_I G X V pc L (.ref (ka_ad G r 30) :: st) := ka_get hC (ka_ixp _ hr 30 (by decide)) (ka_E_shop hr) rfl 1 (by decide) ka_in4 ka_q_fl_X4_21 rfl rfl hd kk
theorem kgp_X4_21 {r : Nat} (hr : r < 6) {P : Nat → Nat → Int32} (hC : ka_C G X cc RX4 nL d) (hd : decode cc pc = .ok (.getfield 21, 3)) (kk : ka_I G X (ka_sp V r P) (pc + 3) L (.int (P 30 1) :: st)) : ka_I G X (ka_sp V r P) pc L (.ref (ka_ad G r 30) :: st) := kg_X4_21 hr hC hd (by rw [ka_sp_s]; exact kk)
theorem kp_X4_21 {r : Nat} (hr : r < 6) {x : Int32} (hC : ka_C G X cc RX4 nL d) (hd : decode cc pc = .ok (.putfield 21, 3)) (kk : ka_I G X (ka_st V r 30 (upd (V r 30) 1 x)) (pc + 3) L st) : ka_I G X V pc L (.int x :: .ref (ka_ad G r 30) :: st) := ka_put (x := x) hC (ka_ixp _ hr 30 (by decide)) (ka_E_shop hr) rfl 1 (by decide) ka_in4 tyX4_ok nmX4 ka_q_fl_X4_21 rfl rfl (ty := .int) (by decide +kernel) rfl rfl (Nat.le_of_ble_eq_true rfl) (by rw [ka_E_shop hr]; rfl) hd kk
theorem kpp_X4_21 {r : Nat} (hr : r < 6) {P : Nat → Nat → Int32} {x : Int32} (hC : ka_C G X cc RX4 nL d) (hd : decode cc pc = .ok (.putfield 21, 3)) (kk : ka_I G X (ka_sp V r (ka_s2 P 30 (upd (P 30) 1 x))) (pc + 3) L st) : ka_I G X (ka_sp V r P) pc L (.int x :: .ref (ka_ad G r 30) :: st) := kp_X4_21 hr hC hd (by rw [ka_st_sp, ka_sp_s]; exact kk)
theorem kg_X5_9 {r : Nat} (hr : r < 6) {k : Nat} (hk : k < 20) (hC : ka_C G X cc RX5 nL d) (hd : decode cc pc = .ok (.getfield 9, 3)) (kk : ka_I G X V (pc + 3) L (.int (V r (8 + k) 0) :: st)) : ka_I G X V pc L (.ref (ka_ad G r (8 + k)) :: st) := ka_get hC (ka_ixp _ hr (8 + k) (by omega)) (ka_E_wagon hr hk) rfl 0 (by decide) ka_in5 ka_q_fl_X5_9 rfl rfl hd kk
theorem kgp_X5_9 {r : Nat} (hr : r < 6) {k : Nat} (hk : k < 20) {P : Nat → Nat → Int32} (hC : ka_C G X cc RX5 nL d) (hd : decode cc pc = .ok (.getfield 9, 3)) (kk : ka_I G X (ka_sp V r P) (pc + 3) L (.int (P (8 + k) 0) :: st)) : ka_I G X (ka_sp V r P) pc L (.ref (ka_ad G r (8 + k)) :: st) := kg_X5_9 hr hk hC hd (by rw [ka_sp_s]; exact kk)
theorem kp_X5_9 {r : Nat} (hr : r < 6) {k : Nat} (hk : k < 20) {x : Int32} (hC : ka_C G X cc RX5 nL d) (hd : decode cc pc = .ok (.putfield 9, 3)) (kk : ka_I G X (ka_st V r (8 + k) (upd (V r (8 + k)) 0 x)) (pc + 3) L st) : ka_I G X V pc L (.int x :: .ref (ka_ad G r (8 + k)) :: st) := ka_put (x := x) hC (ka_ixp _ hr (8 + k) (by omega)) (ka_E_wagon hr hk) rfl 0 (by decide) ka_in5 tyX5_ok nmX5 ka_q_fl_X5_9 rfl rfl (ty := .int) (by decide +kernel) rfl rfl (Nat.le_of_ble_eq_true rfl) (by rw [ka_E_wagon hr hk]; rfl) hd kk
theorem kpp_X5_9 {r : Nat} (hr : r < 6) {k : Nat} (hk : k < 20) {P : Nat → Nat → Int32} {x : Int32} (hC : ka_C G X cc RX5 nL d) (hd : decode cc pc = .ok (.putfield 9, 3)) (kk : ka_I G X (ka_sp V r (ka_s2 P (8 + k) (upd (P (8 + k)) 0 x))) (pc + 3) L st) : ka_I G X (ka_sp V r P) pc L (.int x :: .ref (ka_ad G r (8 + k)) :: st) := kp_X5_9 hr hk hC hd (by rw [ka_st_sp, ka_sp_s]; exact kk)
theorem kg_X5_15 {r : Nat} (hr : r < 6) {k : Nat} (hk : k < 20) (hC : ka_C G X cc RX5 nL d) (hd : decode cc pc = .ok (.getfield 15, 3)) (kk : ka_I G X V (pc + 3) L (.int (V r (8 + k) 1) :: st)) : ka_I G X V pc L (.ref (ka_ad G r (8 + k)) :: st) := ka_get hC (ka_ixp _ hr (8 + k) (by omega)) (ka_E_wagon hr hk) rfl 1 (by decide) ka_in5 ka_q_fl_X5_15 rfl rfl hd kk
theorem kgp_X5_15 {r : Nat} (hr : r < 6) {k : Nat} (hk : k < 20) {P : Nat → Nat → Int32} (hC : ka_C G X cc RX5 nL d) (hd : decode cc pc = .ok (.getfield 15, 3)) (kk : ka_I G X (ka_sp V r P) (pc + 3) L (.int (P (8 + k) 1) :: st)) : ka_I G X (ka_sp V r P) pc L (.ref (ka_ad G r (8 + k)) :: st) := kg_X5_15 hr hk hC hd (by rw [ka_sp_s]; exact kk)
theorem kp_X5_15 {r : Nat} (hr : r < 6) {k : Nat} (hk : k < 20) {x : Int32} (hC : ka_C G X cc RX5 nL d) (hd : decode cc pc = .ok (.putfield 15, 3)) (kk : ka_I G X (ka_st V r (8 + k) (upd (V r (8 + k)) 1 x)) (pc + 3) L st) : ka_I G X V pc L (.int x :: .ref (ka_ad G r (8 + k)) :: st) := ka_put (x := x) hC (ka_ixp _ hr (8 + k) (by omega)) (ka_E_wagon hr hk) rfl 1 (by decide) ka_in5 tyX5_ok nmX5 ka_q_fl_X5_15 rfl rfl (ty := .int) (by decide +kernel) rfl rfl (Nat.le_of_ble_eq_true rfl) (by rw [ka_E_wagon hr hk]; rfl) hd kk
theorem kpp_X5_15 {r : Nat} (hr : r < 6) {k : Nat} (hk : k < 20) {P : Nat → Nat → Int32} {x : Int32} (hC : ka_C G X cc RX5 nL d) (hd : decode cc pc = .ok (.putfield 15, 3)) (kk : ka_I G X (ka_sp V r (ka_s2 P (8 + k) (upd (P (8 + k)) 1 x))) (pc + 3) L st) : ka_I G X (ka_sp V r P) pc L (.int x :: .ref (ka_ad G r (8 + k)) :: st) := kp_X5_15 hr hk hC hd (by rw [ka_st_sp, ka_sp_s]; exact kk)
theorem kg_X5_18 {r : Nat} (hr : r < 6) {k : Nat} (hk : k < 20) (hC : ka_C G X cc RX5 nL d) (hd : decode cc pc = .ok (.getfield 18, 3)) (kk : ka_I G X V (pc + 3) L (.int (V r (8 + k) 2) :: st)) : ka_I G X V pc L (.ref (ka_ad G r (8 + k)) :: st) := ka_get hC (ka_ixp _ hr (8 + k) (by omega)) (ka_E_wagon hr hk) rfl 2 (by decide) ka_in5 ka_q_fl_X5_18 rfl rfl hd kk
theorem kgp_X5_18 {r : Nat} (hr : r < 6) {k : Nat} (hk : k < 20) {P : Nat → Nat → Int32} (hC : ka_C G X cc RX5 nL d) (hd : decode cc pc = .ok (.getfield 18, 3)) (kk : ka_I G X (ka_sp V r P) (pc + 3) L (.int (P (8 + k) 2) :: st)) : ka_I G X (ka_sp V r P) pc L (.ref (ka_ad G r (8 + k)) :: st) := kg_X5_18 hr hk hC hd (by rw [ka_sp_s]; exact kk)
theorem kp_X5_18 {r : Nat} (hr : r < 6) {k : Nat} (hk : k < 20) {x : Int32} (hC : ka_C G X cc RX5 nL d) (hd : decode cc pc = .ok (.putfield 18, 3)) (kk : ka_I G X (ka_st V r (8 + k) (upd (V r (8 + k)) 2 x)) (pc + 3) L st) : ka_I G X V pc L (.int x :: .ref (ka_ad G r (8 + k)) :: st) := ka_put (x := x) hC (ka_ixp _ hr (8 + k) (by omega)) (ka_E_wagon hr hk) rfl 2 (by decide) ka_in5 tyX5_ok nmX5 ka_q_fl_X5_18 rfl rfl (ty := .int) (by decide +kernel) rfl rfl (Nat.le_of_ble_eq_true rfl) (by rw [ka_E_wagon hr hk]; rfl) hd kk
theorem kpp_X5_18 {r : Nat} (hr : r < 6) {k : Nat} (hk : k < 20) {P : Nat → Nat → Int32} {x : Int32} (hC : ka_C G X cc RX5 nL d) (hd : decode cc pc = .ok (.putfield 18, 3)) (kk : ka_I G X (ka_sp V r (ka_s2 P (8 + k) (upd (P (8 + k)) 2 x))) (pc + 3) L st) : ka_I G X (ka_sp V r P) pc L (.int x :: .ref (ka_ad G r (8 + k)) :: st) := kp_X5_18 hr hk hC hd (by rw [ka_st_sp, ka_sp_s]; exact kk)
theorem kg_X5_21 {r : Nat} (hr : r < 6) {k : Nat} (hk : k < 20) (hC : ka_C G X cc RX5 nL d) (hd : decode cc pc = .ok (.getfield 21, 3)) (kk : ka_I G X V (pc + 3) L (.int (ka_b (ka_t (V r (8 + k) 3))) :: st)) : ka_I G X V pc L (.ref (ka_ad G r (8 + k)) :: st) := ka_get hC (ka_ixp _ hr (8 + k) (by omega)) (ka_E_wagon hr hk) rfl 3 (by decide) ka_in5 ka_q_fl_X5_21 rfl rfl hd kk
theorem kgp_X5_21 {r : Nat} (hr : r < 6) {k : Nat} (hk : k < 20) {P : Nat → Nat → Int32} (hC : ka_C G X cc RX5 nL d) (hd : decode cc pc = .ok (.getfield 21, 3)) (kk : ka_I G X (ka_sp V r P) (pc + 3) L (.int (ka_b (ka_t (P (8 + k) 3))) :: st)) : ka_I G X (ka_sp V r P) pc L (.ref (ka_ad G r (8 + k)) :: st) := kg_X5_21 hr hk hC hd (by rw [ka_sp_s]; exact kk)
theorem kp_X5_21 {r : Nat} (hr : r < 6) {k : Nat} (hk : k < 20) {b : Bool} {x : Int32} (hb : x = ka_b b) (hC : ka_C G X cc RX5 nL d) (hd : decode cc pc = .ok (.putfield 21, 3)) (kk : ka_I G X (ka_st V r (8 + k) (upd (V r (8 + k)) 3 (ka_b b))) (pc + 3) L st) : ka_I G X V pc L (.int x :: .ref (ka_ad G r (8 + k)) :: st) := by
  subst hb
  exact ka_put (x := (ka_b b)) hC (ka_ixp _ hr (8 + k) (by omega)) (ka_E_wagon hr hk) rfl 3 (by decide) ka_in5 tyX5_ok nmX5 ka_q_fl_X5_21 rfl rfl (ty := .boolean) (by decide +kernel) (by cases b <;> rfl) (by cases b <;> rfl) (Nat.le_of_ble_eq_true rfl) (by rw [ka_E_wagon hr hk]; cases b <;> rfl) hd kk
theorem kpp_X5_21 {r : Nat} (hr : r < 6) {k : Nat} (hk : k < 20) {P : Nat → Nat → Int32} {b : Bool} {x : Int32} (hb : x = ka_b b) (hC : ka_C G X cc RX5 nL d) (hd : decode cc pc = .ok (.putfield 21, 3)) (kk : ka_I G X (ka_sp V r (ka_s2 P (8 + k) (upd (P (8 + k)) 3 (ka_b b)))) (pc + 3) L st) : ka_I G X (ka_sp V r P) pc L (.int x :: .ref (ka_ad G r (8 + k)) :: st) := kp_X5_21 hr hk hb hC hd (by rw [ka_st_sp, ka_sp_s]; exact kk)
theorem kg_X5_25 {r : Nat} (hr : r < 6) {k : Nat} (hk : k < 20) (hC : ka_C G X cc RX5 nL d) (hd : decode cc pc = .ok (.getfield 25, 3)) (kk : ka_I G X V (pc + 3) L (.int (V r (8 + k) 4) :: st)) : ka_I G X V pc L (.ref (ka_ad G r (8 + k)) :: st) := ka_get hC (ka_ixp _ hr (8 + k) (by omega)) (ka_E_wagon hr hk) rfl 4 (by decide) ka_in5 ka_q_fl_X5_25 rfl rfl hd kk
theorem kgp_X5_25 {r : Nat} (hr : r < 6) {k : Nat} (hk : k < 20) {P : Nat → Nat → Int32} (hC : ka_C G X cc RX5 nL d) (hd : decode cc pc = .ok (.getfield 25, 3)) (kk : ka_I G X (ka_sp V r P) (pc + 3) L (.int (P (8 + k) 4) :: st)) : ka_I G X (ka_sp V r P) pc L (.ref (ka_ad G r (8 + k)) :: st) := kg_X5_25 hr hk hC hd (by rw [ka_sp_s]; exact kk)
theorem kp_X5_25 {r : Nat} (hr : r < 6) {k : Nat} (hk : k < 20) {x : Int32} (hC : ka_C G X cc RX5 nL d) (hd : decode cc pc = .ok (.putfield 25, 3)) (kk : ka_I G X (ka_st V r (8 + k) (upd (V r (8 + k)) 4 x)) (pc + 3) L st) : ka_I G X V pc L (.int x :: .ref (ka_ad G r (8 + k)) :: st) := ka_put (x := x) hC (ka_ixp _ hr (8 + k) (by omega)) (ka_E_wagon hr hk) rfl 4 (by decide) ka_in5 tyX5_ok nmX5 ka_q_fl_X5_25 rfl rfl (ty := .int) (by decide +kernel) rfl rfl (Nat.le_of_ble_eq_true rfl) (by rw [ka_E_wagon hr hk]; rfl) hd kk
theorem kpp_X5_25 {r : Nat} (hr : r < 6) {k : Nat} (hk : k < 20) {P : Nat → Nat → Int32} {x : Int32} (hC : ka_C G X cc RX5 nL d) (hd : decode cc pc = .ok (.putfield 25, 3)) (kk : ka_I G X (ka_sp V r (ka_s2 P (8 + k) (upd (P (8 + k)) 4 x))) (pc + 3) L st) : ka_I G X (ka_sp V r P) pc L (.int x :: .ref (ka_ad G r (8 + k)) :: st) := kp_X5_25 hr hk hC hd (by rw [ka_st_sp, ka_sp_s]; exact kk)
theorem kg_X5_28 {r : Nat} (hr : r < 6) {k : Nat} (hk : k < 20) (hC : ka_C G X cc RX5 nL d) (hd : decode cc pc = .ok (.getfield 28, 3)) (kk : ka_I G X V (pc + 3) L (.int (V r (8 + k) 5) :: st)) : ka_I G X V pc L (.ref (ka_ad G r (8 + k)) :: st) := ka_get hC (ka_ixp _ hr (8 + k) (by omega)) (ka_E_wagon hr hk) rfl 5 (by decide) ka_in5 ka_q_fl_X5_28 rfl rfl hd kk
theorem kgp_X5_28 {r : Nat} (hr : r < 6) {k : Nat} (hk : k < 20) {P : Nat → Nat → Int32} (hC : ka_C G X cc RX5 nL d) (hd : decode cc pc = .ok (.getfield 28, 3)) (kk : ka_I G X (ka_sp V r P) (pc + 3) L (.int (P (8 + k) 5) :: st)) : ka_I G X (ka_sp V r P) pc L (.ref (ka_ad G r (8 + k)) :: st) := kg_X5_28 hr hk hC hd (by rw [ka_sp_s]; exact kk)
theorem kp_X5_28 {r : Nat} (hr : r < 6) {k : Nat} (hk : k < 20) {x : Int32} (hC : ka_C G X cc RX5 nL d) (hd : decode cc pc = .ok (.putfield 28, 3)) (kk : ka_I G X (ka_st V r (8 + k) (upd (V r (8 + k)) 5 x)) (pc + 3) L st) : ka_I G X V pc L (.int x :: .ref (ka_ad G r (8 + k)) :: st) := ka_put (x := x) hC (ka_ixp _ hr (8 + k) (by omega)) (ka_E_wagon hr hk) rfl 5 (by decide) ka_in5 tyX5_ok nmX5 ka_q_fl_X5_28 rfl rfl (ty := .int) (by decide +kernel) rfl rfl (Nat.le_of_ble_eq_true rfl) (by rw [ka_E_wagon hr hk]; rfl) hd kk
theorem kpp_X5_28 {r : Nat} (hr : r < 6) {k : Nat} (hk : k < 20) {P : Nat → Nat → Int32} {x : Int32} (hC : ka_C G X cc RX5 nL d) (hd : decode cc pc = .ok (.putfield 28, 3)) (kk : ka_I G X (ka_sp V r (ka_s2 P (8 + k) (upd (P (8 + k)) 5 x))) (pc + 3) L st) : ka_I G X (ka_sp V r P) pc L (.int x :: .ref (ka_ad G r (8 + k)) :: st) := kp_X5_28 hr hk hC hd (by rw [ka_st_sp, ka_sp_s]; exact kk)
theorem kg_X5_31 {r : Nat} (hr : r < 6) {k : Nat} (hk : k < 20) (hC : ka_C G X cc RX5 nL d) (hd : decode cc pc = .ok (.getfield 31, 3)) (kk : ka_I G X V (pc + 3) L (.int (V r (8 + k) 6) :: st)) : ka_I G X V pc L (.ref (ka_ad G r (8 + k)) :: st) := ka_get hC (ka_ixp _ hr (8 + k) (by omega)) (ka_E_wagon hr hk) rfl 6 (by decide) ka_in5 ka_q_fl_X5_31 rfl rfl hd kk
theorem kgp_X5_31 {r : Nat} (hr : r < 6) {k : Nat} (hk : k < 20) {P : Nat → Nat → Int32} (hC : ka_C G X cc RX5 nL d) (hd : decode cc pc = .ok (.getfield 31, 3)) (kk : ka_I G X (ka_sp V r P) (pc + 3) L (.int (P (8 + k) 6) :: st)) : ka_I G X (ka_sp V r P) pc L (.ref (ka_ad G r (8 + k)) :: st) := kg_X5_31 hr hk hC hd (by rw [ka_sp_s]; exact kk)
theorem kp_X5_31 {r : Nat} (hr : r < 6) {k : Nat} (hk : k < 20) {x : Int32} (hC : ka_C G X cc RX5 nL d) (hd : decode cc pc = .ok (.putfield 31, 3)) (kk : ka_I G X (ka_st V r (8 + k) (upd (V r (8 + k)) 6 x)) (pc + 3) L st) : ka_I G X V pc L (.int x :: .ref (ka_ad G r (8 + k)) :: st) := ka_put (x := x) hC (ka_ixp _ hr (8 + k) (by omega)) (ka_E_wagon hr hk) rfl 6 (by decide) ka_in5 tyX5_ok nmX5 ka_q_fl_X5_31 rfl rfl (ty := .int) (by decide +kernel) rfl rfl (Nat.le_of_ble_eq_true rfl) (by rw [ka_E_wagon hr hk]; rfl) hd kk
theorem kpp_X5_31 {r : Nat} (hr : r < 6) {k : Nat} (hk : k < 20) {P : Nat → Nat → Int32} {x : Int32} (hC : ka_C G X cc RX5 nL d) (hd : decode cc pc = .ok (.putfield 31, 3)) (kk : ka_I G X (ka_sp V r (ka_s2 P (8 + k) (upd (P (8 + k)) 6 x))) (pc + 3) L st) : ka_I G X (ka_sp V r P) pc L (.int x :: .ref (ka_ad G r (8 + k)) :: st) := kp_X5_31 hr hk hC hd (by rw [ka_st_sp, ka_sp_s]; exact kk)
theorem kg_X5_34 {r : Nat} (hr : r < 6) {k : Nat} (hk : k < 20) (hC : ka_C G X cc RX5 nL d) (hd : decode cc pc = .ok (.getfield 34, 3)) (kk : ka_I G X V (pc + 3) L (.int (V r (8 + k) 7) :: st)) : ka_I G X V pc L (.ref (ka_ad G r (8 + k)) :: st) := ka_get hC (ka_ixp _ hr (8 + k) (by omega)) (ka_E_wagon hr hk) rfl 7 (by decide) ka_in5 ka_q_fl_X5_34 rfl rfl hd kk
theorem kgp_X5_34 {r : Nat} (hr : r < 6) {k : Nat} (hk : k < 20) {P : Nat → Nat → Int32} (hC : ka_C G X cc RX5 nL d) (hd : decode cc pc = .ok (.getfield 34, 3)) (kk : ka_I G X (ka_sp V r P) (pc + 3) L (.int (P (8 + k) 7) :: st)) : ka_I G X (ka_sp V r P) pc L (.ref (ka_ad G r (8 + k)) :: st) := kg_X5_34 hr hk hC hd (by rw [ka_sp_s]; exact kk)
theorem kp_X5_34 {r : Nat} (hr : r < 6) {k : Nat} (hk : k < 20) {x : Int32} (hC : ka_C G X cc RX5 nL d) (hd : decode cc pc = .ok (.putfield 34, 3)) (kk : ka_I G X (ka_st V r (8 + k) (upd (V r (8 + k)) 7 x)) (pc + 3) L st) : ka_I G X V pc L (.int x :: .ref (ka_ad G r (8 + k)) :: st) := ka_put (x := x) hC (ka_ixp _ hr (8 + k) (by omega)) (ka_E_wagon hr hk) rfl 7 (by decide) ka_in5 tyX5_ok nmX5 ka_q_fl_X5_34 rfl rfl (ty := .int) (by decide +kernel) rfl rfl (Nat.le_of_ble_eq_true rfl) (by rw [ka_E_wagon hr hk]; rfl) hd kk
theorem kpp_X5_34 {r : Nat} (hr : r < 6) {k : Nat} (hk : k < 20) {P : Nat → Nat → Int32} {x : Int32} (hC : ka_C G X cc RX5 nL d) (hd : decode cc pc = .ok (.putfield 34, 3)) (kk : ka_I G X (ka_sp V r (ka_s2 P (8 + k) (upd (P (8 + k)) 7 x))) (pc + 3) L st) : ka_I G X (ka_sp V r P) pc L (.int x :: .ref (ka_ad G r (8 + k)) :: st) := kp_X5_34 hr hk hC hd (by rw [ka_st_sp, ka_sp_s]; exact kk)
theorem kg_X5_37 {r : Nat} (hr : r < 6) {k : Nat} (hk : k < 20) (hC : ka_C G X cc RX5 nL d) (hd : decode cc pc = .ok (.getfield 37, 3)) (kk : ka_I G X V (pc + 3) L (.int (V r (8 + k) 8) :: st)) : ka_I G X V pc L (.ref (ka_ad G r (8 + k)) :: st) := ka_get hC (ka_ixp _ hr (8 + k) (by omega)) (ka_E_wagon hr hk) rfl 8 (by decide) ka_in5 ka_q_fl_X5_37 rfl rfl hd kk
theorem kgp_X5_37 {r : Nat} (hr : r < 6) {k : Nat} (hk : k < 20) {P : Nat → Nat → Int32} (hC : ka_C G X cc RX5 nL d) (hd : decode cc pc = .ok (.getfield 37, 3)) (kk : ka_I G X (ka_sp V r P) (pc + 3) L (.int (P (8 + k) 8) :: st)) : ka_I G X (ka_sp V r P) pc L (.ref (ka_ad G r (8 + k)) :: st) := kg_X5_37 hr hk hC hd (by rw [ka_sp_s]; exact kk)
theorem kp_X5_37 {r : Nat} (hr : r < 6) {k : Nat} (hk : k < 20) {x : Int32} (hC : ka_C G X cc RX5 nL d) (hd : decode cc pc = .ok (.putfield 37, 3)) (kk : ka_I G X (ka_st V r (8 + k) (upd (V r (8 + k)) 8 x)) (pc + 3) L st) : ka_I G X V pc L (.int x :: .ref (ka_ad G r (8 + k)) :: st) := ka_put (x := x) hC (ka_ixp _ hr (8 + k) (by omega)) (ka_E_wagon hr hk) rfl 8 (by decide) ka_in5 tyX5_ok nmX5 ka_q_fl_X5_37 rfl rfl (ty := .int) (by decide +kernel) rfl rfl (Nat.le_of_ble_eq_true rfl) (by rw [ka_E_wagon hr hk]; rfl) hd kk
theorem kpp_X5_37 {r : Nat} (hr : r < 6) {k : Nat} (hk : k < 20) {P : Nat → Nat → Int32} {x : Int32} (hC : ka_C G X cc RX5 nL d) (hd : decode cc pc = .ok (.putfield 37, 3)) (kk : ka_I G X (ka_sp V r (ka_s2 P (8 + k) (upd (P (8 + k)) 8 x))) (pc + 3) L st) : ka_I G X (ka_sp V r P) pc L (.int x :: .ref (ka_ad G r (8 + k)) :: st) := kp_X5_37 hr hk hC hd (by rw [ka_st_sp, ka_sp_s]; exact kk)
theorem kg_X6_10 (hC : ka_C G X cc RX6 nL d) (hd : decode cc pc = .ok (.getfield 10, 3)) (kk : ka_I G X V (pc + 3) L (.ref (ka_ad G 0 0) :: st)) : ka_I G X V pc L (.ref (ka_ad G 8 0) :: st) := ka_get hC ka_ix_80 (ka_E_coal ) rfl 0 (by decide) ka_in6 ka_q_fl_X6_10 rfl rfl hd kk
theorem kg_X6_16 (hC : ka_C G X cc RX6 nL d) (hd : decode cc pc = .ok (.getfield 16, 3)) (kk : ka_I G X V (pc + 3) L (.ref (ka_ad G 1 0) :: st)) : ka_I G X V pc L (.ref (ka_ad G 8 0) :: st) := ka_get hC ka_ix_80 (ka_E_coal ) rfl 1 (by decide) ka_in6 ka_q_fl_X6_16 rfl rfl hd kk
theorem kg_X6_22 (hC : ka_C G X cc RX6 nL d) (hd : decode cc pc = .ok (.getfield 22, 3)) (kk : ka_I G X V (pc + 3) L (.ref (ka_ad G 6 0) :: st)) : ka_I G X V pc L (.ref (ka_ad G 8 0) :: st) := ka_get hC ka_ix_80 (ka_E_coal ) rfl 2 (by decide) ka_in6 ka_q_fl_X6_22 rfl rfl hd kk
theorem kg_X6_29 (hC : ka_C G X cc RX6 nL d) (hd : decode cc pc = .ok (.getfield 29, 3)) (kk : ka_I G X V (pc + 3) L (.ref (ka_ad G 7 0) :: st)) : ka_I G X V pc L (.ref (ka_ad G 8 0) :: st) := ka_get hC ka_ix_80 (ka_E_coal ) rfl 3 (by decide) ka_in6 ka_q_fl_X6_29 rfl rfl hd kk
theorem kg_X7_7 (hC : ka_C G X cc RX7 nL d) (hd : decode cc pc = .ok (.getfield 7, 3)) (kk : ka_I G X V (pc + 3) L (.ref (ka_ad G 9 1) :: st)) : ka_I G X V pc L (.ref (ka_ad G 9 0) :: st) := ka_get hC ka_ix_90 (ka_E_model ) rfl 0 (by decide) ka_in7 ka_q_fl_X7_7 rfl rfl hd kk
theorem kg_X7_13 (hC : ka_C G X cc RX7 nL d) (hd : decode cc pc = .ok (.getfield 13, 3)) (kk : ka_I G X V (pc + 3) L (.ref (ka_ad G 9 2) :: st)) : ka_I G X V pc L (.ref (ka_ad G 9 0) :: st) := ka_get hC ka_ix_90 (ka_E_model ) rfl 1 (by decide) ka_in7 ka_q_fl_X7_13 rfl rfl hd kk
theorem kg_X7_16 (hC : ka_C G X cc RX7 nL d) (hd : decode cc pc = .ok (.getfield 16, 3)) (kk : ka_I G X V (pc + 3) L (.ref (ka_ad G 9 3) :: st)) : ka_I G X V pc L (.ref (ka_ad G 9 0) :: st) := ka_get hC ka_ix_90 (ka_E_model ) rfl 2 (by decide) ka_in7 ka_q_fl_X7_16 rfl rfl hd kk
theorem kg_X7_19 (hC : ka_C G X cc RX7 nL d) (hd : decode cc pc = .ok (.getfield 19, 3)) (kk : ka_I G X V (pc + 3) L (.ref (ka_ad G 9 4) :: st)) : ka_I G X V pc L (.ref (ka_ad G 9 0) :: st) := ka_get hC ka_ix_90 (ka_E_model ) rfl 3 (by decide) ka_in7 ka_q_fl_X7_19 rfl rfl hd kk
theorem kg_X7_22 (hC : ka_C G X cc RX7 nL d) (hd : decode cc pc = .ok (.getfield 22, 3)) (kk : ka_I G X V (pc + 3) L (.ref (ka_ad G 9 5) :: st)) : ka_I G X V pc L (.ref (ka_ad G 9 0) :: st) := ka_get hC ka_ix_90 (ka_E_model ) rfl 5 (by decide) ka_in7 ka_q_fl_X7_22 rfl rfl hd kk
theorem kg_X7_25 (hC : ka_C G X cc RX7 nL d) (hd : decode cc pc = .ok (.getfield 25, 3)) (kk : ka_I G X V (pc + 3) L (.ref (ka_ad G 9 6) :: st)) : ka_I G X V pc L (.ref (ka_ad G 9 0) :: st) := ka_get hC ka_ix_90 (ka_E_model ) rfl 12 (by decide) ka_in7 ka_q_fl_X7_25 rfl rfl hd kk
theorem kg_X7_32 (hC : ka_C G X cc RX7 nL d) (hd : decode cc pc = .ok (.getfield 32, 3)) (kk : ka_I G X V (pc + 3) L (.int (V 9 0 4) :: st)) : ka_I G X V pc L (.ref (ka_ad G 9 0) :: st) := ka_get hC ka_ix_90 (ka_E_model ) rfl 4 (by decide) ka_in7 ka_q_fl_X7_32 rfl rfl hd kk
theorem kgp_X7_32 {P : Nat → Nat → Int32} (hC : ka_C G X cc RX7 nL d) (hd : decode cc pc = .ok (.getfield 32, 3)) (kk : ka_I G X (ka_sp V 9 P) (pc + 3) L (.int (P 0 4) :: st)) : ka_I G X (ka_sp V 9 P) pc L (.ref (ka_ad G 9 0) :: st) := kg_X7_32  hC hd (by rw [ka_sp_s]; exact kk)
theorem kp_X7_32 {x : Int32} (hC : ka_C G X cc RX7 nL d) (hd : decode cc pc = .ok (.putfield 32, 3)) (kk : ka_I G X (ka_st V 9 0 (upd (V 9 0) 4 x)) (pc + 3) L st) : ka_I G X V pc L (.int x :: .ref (ka_ad G 9 0) :: st) := ka_put (x := x) hC ka_ix_90 (ka_E_model ) rfl 4 (by decide) ka_in7 tyX7_ok nmX7 ka_q_fl_X7_32 rfl rfl (ty := .int) (by decide +kernel) rfl rfl (Nat.le_of_ble_eq_true rfl) (by rw [ka_E_model ]; rfl) hd kk
theorem kpp_X7_32 {P : Nat → Nat → Int32} {x : Int32} (hC : ka_C G X cc RX7 nL d) (hd : decode cc pc = .ok (.putfield 32, 3)) (kk : ka_I G X (ka_sp V 9 (ka_s2 P 0 (upd (P 0) 4 x))) (pc + 3) L st) : ka_I G X (ka_sp V 9 P) pc L (.int x :: .ref (ka_ad G 9 0) :: st) := kp_X7_32  hC hd (by rw [ka_st_sp, ka_sp_s]; exact kk)
theorem kg_X7_172 (hC : ka_C G X cc RX7 nL d) (hd : decode cc pc = .ok (.getfield 172, 3)) (kk : ka_I G X V (pc + 3) L (.int (V 9 0 6) :: st)) : ka_I G X V pc L (.ref (ka_ad G 9 0) :: st) := ka_get hC ka_ix_90 (ka_E_model ) rfl 6 (by decide) ka_in7 ka_q_fl_X7_172 rfl rfl hd kk
theorem kgp_X7_172 {P : Nat → Nat → Int32} (hC : ka_C G X cc RX7 nL d) (hd : decode cc pc = .ok (.getfield 172, 3)) (kk : ka_I G X (ka_sp V 9 P) (pc + 3) L (.int (P 0 6) :: st)) : ka_I G X (ka_sp V 9 P) pc L (.ref (ka_ad G 9 0) :: st) := kg_X7_172  hC hd (by rw [ka_sp_s]; exact kk)
theorem kp_X7_172 {x : Int32} (hC : ka_C G X cc RX7 nL d) (hd : decode cc pc = .ok (.putfield 172, 3)) (kk : ka_I G X (ka_st V 9 0 (upd (V 9 0) 6 x)) (pc + 3) L st) : ka_I G X V pc L (.int x :: .ref (ka_ad G 9 0) :: st) := ka_put (x := x) hC ka_ix_90 (ka_E_model ) rfl 6 (by decide) ka_in7 tyX7_ok nmX7 ka_q_fl_X7_172 rfl rfl (ty := .int) (by decide +kernel) rfl rfl (Nat.le_of_ble_eq_true rfl) (by rw [ka_E_model ]; rfl) hd kk
theorem kpp_X7_172 {P : Nat → Nat → Int32} {x : Int32} (hC : ka_C G X cc RX7 nL d) (hd : decode cc pc = .ok (.putfield 172, 3)) (kk : ka_I G X (ka_sp V 9 (ka_s2 P 0 (upd (P 0) 6 x))) (pc + 3) L st) : ka_I G X (ka_sp V 9 P) pc L (.int x :: .ref (ka_ad G 9 0) :: st) := kp_X7_172  hC hd (by rw [ka_st_sp, ka_sp_s]; exact kk)
theorem kg_X7_175 (hC : ka_C G X cc RX7 nL d) (hd : decode cc pc = .ok (.getfield 175, 3)) (kk : ka_I G X V (pc + 3) L (.int (V 9 0 7) :: st)) : ka_I G X V pc L (.ref (ka_ad G 9 0) :: st) := ka_get hC ka_ix_90 (ka_E_model ) rfl 7 (by decide) ka_in7 ka_q_fl_X7_175 rfl rfl hd kk
theorem kgp_X7_175 {P : Nat → Nat → Int32} (hC : ka_C G X cc RX7 nL d) (hd : decode cc pc = .ok (.getfield 175, 3)) (kk : ka_I G X (ka_sp V 9 P) (pc + 3) L (.int (P 0 7) :: st)) : ka_I G X (ka_sp V 9 P) pc L (.ref (ka_ad G 9 0) :: st) := kg_X7_175  hC hd (by rw [ka_sp_s]; exact kk)
theorem kp_X7_175 {x : Int32} (hC : ka_C G X cc RX7 nL d) (hd : decode cc pc = .ok (.putfield 175, 3)) (kk : ka_I G X (ka_st V 9 0 (upd (V 9 0) 7 x)) (pc + 3) L st) : ka_I G X V pc L (.int x :: .ref (ka_ad G 9 0) :: st) := ka_put (x := x) hC ka_ix_90 (ka_E_model ) rfl 7 (by decide) ka_in7 tyX7_ok nmX7 ka_q_fl_X7_175 rfl rfl (ty := .int) (by decide +kernel) rfl rfl (Nat.le_of_ble_eq_true rfl) (by rw [ka_E_model ]; rfl) hd kk
theorem kpp_X7_175 {P : Nat → Nat → Int32} {x : Int32} (hC : ka_C G X cc RX7 nL d) (hd : decode cc pc = .ok (.putfield 175, 3)) (kk : ka_I G X (ka_sp V 9 (ka_s2 P 0 (upd (P 0) 7 x))) (pc + 3) L st) : ka_I G X (ka_sp V 9 P) pc L (.int x :: .ref (ka_ad G 9 0) :: st) := kp_X7_175  hC hd (by rw [ka_st_sp, ka_sp_s]; exact kk)
theorem kg_X7_181 (hC : ka_C G X cc RX7 nL d) (hd : decode cc pc = .ok (.getfield 181, 3)) (kk : ka_I G X V (pc + 3) L (.int (ka_b (ka_t (V 9 0 11))) :: st)) : ka_I G X V pc L (.ref (ka_ad G 9 0) :: st) := ka_get hC ka_ix_90 (ka_E_model ) rfl 11 (by decide) ka_in7 ka_q_fl_X7_181 rfl rfl hd kk
theorem kgp_X7_181 {P : Nat → Nat → Int32} (hC : ka_C G X cc RX7 nL d) (hd : decode cc pc = .ok (.getfield 181, 3)) (kk : ka_I G X (ka_sp V 9 P) (pc + 3) L (.int (ka_b (ka_t (P 0 11))) :: st)) : ka_I G X (ka_sp V 9 P) pc L (.ref (ka_ad G 9 0) :: st) := kg_X7_181  hC hd (by rw [ka_sp_s]; exact kk)
theorem kp_X7_181 {b : Bool} {x : Int32} (hb : x = ka_b b) (hC : ka_C G X cc RX7 nL d) (hd : decode cc pc = .ok (.putfield 181, 3)) (kk : ka_I G X (ka_st V 9 0 (upd (V 9 0) 11 (ka_b b))) (pc + 3) L st) : ka_I G X V pc L (.int x :: .ref (ka_ad G 9 0) :: st) := by
  subst hb
  exact ka_put (x := (ka_b b)) hC ka_ix_90 (ka_E_model ) rfl 11 (by decide) ka_in7 tyX7_ok nmX7 ka_q_fl_X7_181 rfl rfl (ty := .boolean) (by decide +kernel) (by cases b <;> rfl) (by cases b <;> rfl) (Nat.le_of_ble_eq_true rfl) (by rw [ka_E_model ]; cases b <;> rfl) hd kk
theorem kpp_X7_181 {P : Nat → Nat → Int32} {b : Bool} {x : Int32} (hb : x = ka_b b) (hC : ka_C G X cc RX7 nL d) (hd : decode cc pc = .ok (.putfield 181, 3)) (kk : ka_I G X (ka_sp V 9 (ka_s2 P 0 (upd (P 0) 11 (ka_b b)))) (pc + 3) L st) : ka_I G X (ka_sp V 9 P) pc L (.int x :: .ref (ka_ad G 9 0) :: st) := kp_X7_181  hb hC hd (by rw [ka_st_sp, ka_sp_s]; exact kk)
theorem kg_X7_189 (hC : ka_C G X cc RX7 nL d) (hd : decode cc pc = .ok (.getfield 189, 3)) (kk : ka_I G X V (pc + 3) L (.int (V 9 0 9) :: st)) : ka_I G X V pc L (.ref (ka_ad G 9 0) :: st) := ka_get hC ka_ix_90 (ka_E_model ) rfl 9 (by decide) ka_in7 ka_q_fl_X7_189 rfl rfl hd kk
theorem kgp_X7_189 {P : Nat → Nat → Int32} (hC : ka_C G X cc RX7 nL d) (hd : decode cc pc = .ok (.getfield 189, 3)) (kk : ka_I G X (ka_sp V 9 P) (pc + 3) L (.int (P 0 9) :: st)) : ka_I G X (ka_sp V 9 P) pc L (.ref (ka_ad G 9 0) :: st) := kg_X7_189  hC hd (by rw [ka_sp_s]; exact kk)
theorem kp_X7_189 {x : Int32} (hC : ka_C G X cc RX7 nL d) (hd : decode cc pc = .ok (.putfield 189, 3)) (kk : ka_I G X (ka_st V 9 0 (upd (V 9 0) 9 x)) (pc + 3) L st) : ka_I G X V pc L (.int x :: .ref (ka_ad G 9 0) :: st) := ka_put (x := x) hC ka_ix_90 (ka_E_model ) rfl 9 (by decide) ka_in7 tyX7_ok nmX7 ka_q_fl_X7_189 rfl rfl (ty := .int) (by decide +kernel) rfl rfl (Nat.le_of_ble_eq_true rfl) (by rw [ka_E_model ]; rfl) hd kk
theorem kpp_X7_189 {P : Nat → Nat → Int32} {x : Int32} (hC : ka_C G X cc RX7 nL d) (hd : decode cc pc = .ok (.putfield 189, 3)) (kk : ka_I G X (ka_sp V 9 (ka_s2 P 0 (upd (P 0) 9 x))) (pc + 3) L st) : ka_I G X (ka_sp V 9 P) pc L (.int x :: .ref (ka_ad G 9 0) :: st) := kp_X7_189  hC hd (by rw [ka_st_sp, ka_sp_s]; exact kk)
theorem kg_X7_192 (hC : ka_C G X cc RX7 nL d) (hd : decode cc pc = .ok (.getfield 192, 3)) (kk : ka_I G X V (pc + 3) L (.int (V 9 0 8) :: st)) : ka_I G X V pc L (.ref (ka_ad G 9 0) :: st) := ka_get hC ka_ix_90 (ka_E_model ) rfl 8 (by decide) ka_in7 ka_q_fl_X7_192 rfl rfl hd kk
theorem kgp_X7_192 {P : Nat → Nat → Int32} (hC : ka_C G X cc RX7 nL d) (hd : decode cc pc = .ok (.getfield 192, 3)) (kk : ka_I G X (ka_sp V 9 P) (pc + 3) L (.int (P 0 8) :: st)) : ka_I G X (ka_sp V 9 P) pc L (.ref (ka_ad G 9 0) :: st) := kg_X7_192  hC hd (by rw [ka_sp_s]; exact kk)
theorem kp_X7_192 {x : Int32} (hC : ka_C G X cc RX7 nL d) (hd : decode cc pc = .ok (.putfield 192, 3)) (kk : ka_I G X (ka_st V 9 0 (upd (V 9 0) 8 x)) (pc + 3) L st) : ka_I G X V pc L (.int x :: .ref (ka_ad G 9 0) :: st) := ka_put (x := x) hC ka_ix_90 (ka_E_model ) rfl 8 (by decide) ka_in7 tyX7_ok nmX7 ka_q_fl_X7_192 rfl rfl (ty := .int) (by decide +kernel) rfl rfl (Nat.le_of_ble_eq_true rfl) (by rw [ka_E_model ]; rfl) hd kk
theorem kpp_X7_192 {P : Nat → Nat → Int32} {x : Int32} (hC : ka_C G X cc RX7 nL d) (hd : decode cc pc = .ok (.putfield 192, 3)) (kk : ka_I G X (ka_sp V 9 (ka_s2 P 0 (upd (P 0) 8 x))) (pc + 3) L st) : ka_I G X (ka_sp V 9 P) pc L (.int x :: .ref (ka_ad G 9 0) :: st) := kp_X7_192  hC hd (by rw [ka_st_sp, ka_sp_s]; exact kk)
theorem kg_X7_207 (hC : ka_C G X cc RX7 nL d) (hd : decode cc pc = .ok (.getfield 207, 3)) (kk : ka_I G X V (pc + 3) L (.int (V 9 0 10) :: st)) : ka_I G X V pc L (.ref (ka_ad G 9 0) :: st) := ka_get hC ka_ix_90 (ka_E_model ) rfl 10 (by decide) ka_in7 ka_q_fl_X7_207 rfl rfl hd kk
theorem kgp_X7_207 {P : Nat → Nat → Int32} (hC : ka_C G X cc RX7 nL d) (hd : decode cc pc = .ok (.getfield 207, 3)) (kk : ka_I G X (ka_sp V 9 P) (pc + 3) L (.int (P 0 10) :: st)) : ka_I G X (ka_sp V 9 P) pc L (.ref (ka_ad G 9 0) :: st) := kg_X7_207  hC hd (by rw [ka_sp_s]; exact kk)
theorem kp_X7_207 {x : Int32} (hC : ka_C G X cc RX7 nL d) (hd : decode cc pc = .ok (.putfield 207, 3)) (kk : ka_I G X (ka_st V 9 0 (upd (V 9 0) 10 x)) (pc + 3) L st) : ka_I G X V pc L (.int x :: .ref (ka_ad G 9 0) :: st) := ka_put (x := x) hC ka_ix_90 (ka_E_model ) rfl 10 (by decide) ka_in7 tyX7_ok nmX7 ka_q_fl_X7_207 rfl rfl (ty := .int) (by decide +kernel) rfl rfl (Nat.le_of_ble_eq_true rfl) (by rw [ka_E_model ]; rfl) hd kk
theorem kpp_X7_207 {P : Nat → Nat → Int32} {x : Int32} (hC : ka_C G X cc RX7 nL d) (hd : decode cc pc = .ok (.putfield 207, 3)) (kk : ka_I G X (ka_sp V 9 (ka_s2 P 0 (upd (P 0) 10 x))) (pc + 3) L st) : ka_I G X (ka_sp V 9 P) pc L (.int x :: .ref (ka_ad G 9 0) :: st) := kp_X7_207  hC hd (by rw [ka_st_sp, ka_sp_s]; exact kk)
theorem kq_places {r : Nat} (hr : r < 6) {x : Int32} (hC : ka_C G X cc own nL d) (hx : vp_in x 5) (hd : decode cc pc = .ok (.aaload, 1)) (kk : ka_I G X V (pc + 1) L (.ref (ka_ad G r (2 + x.toNatClampNeg)) :: st)) : ka_I G X V pc L (.int x :: .ref (ka_ad G r 1) :: st) := ka_aald (t := 1) hC (ka_ixp _ hr 1 (by decide)) (ka_E_places hr) rfl hx rfl hd kk
theorem kqn_places {r : Nat} (hr : r < 6) {x : Int32} (j : Nat) (hj : j < 5) (hx : x = nI j) (hC : ka_C G X cc own nL d) (hd : decode cc pc = .ok (.aaload, 1)) (kk : ka_I G X V (pc + 1) L (.ref (ka_ad G r (2 + j)) :: st)) : ka_I G X V pc L (.int x :: .ref (ka_ad G r 1) :: st) := by
  subst hx
  refine kq_places hr hC (vp_in_nI hj (by decide)) hd ?_
  rw [nI_clamp (by omega)]
  exact kk
theorem kl_places {r : Nat} (hr : r < 6) (hC : ka_C G X cc own nL d) (hd : decode cc pc = .ok (.arraylength, 1)) (kk : ka_I G X V (pc + 1) L (.int 5 :: st)) : ka_I G X V pc L (.ref (ka_ad G r 1) :: st) := ka_alen (t := 1) hC (ka_ixp _ hr 1 (by decide)) (ka_E_places hr) rfl rfl hd kk
theorem kq_wagons {r : Nat} (hr : r < 6) {x : Int32} (hC : ka_C G X cc own nL d) (hx : vp_in x 20) (hd : decode cc pc = .ok (.aaload, 1)) (kk : ka_I G X V (pc + 1) L (.ref (ka_ad G r (8 + x.toNatClampNeg)) :: st)) : ka_I G X V pc L (.int x :: .ref (ka_ad G r 7) :: st) := ka_aald (t := 2) hC (ka_ixp _ hr 7 (by decide)) (ka_E_wagons hr) rfl hx rfl hd kk
theorem kqn_wagons {r : Nat} (hr : r < 6) {x : Int32} (j : Nat) (hj : j < 20) (hx : x = nI j) (hC : ka_C G X cc own nL d) (hd : decode cc pc = .ok (.aaload, 1)) (kk : ka_I G X V (pc + 1) L (.ref (ka_ad G r (8 + j)) :: st)) : ka_I G X V pc L (.int x :: .ref (ka_ad G r 7) :: st) := by
  subst hx
  refine kq_wagons hr hC (vp_in_nI hj (by decide)) hd ?_
  rw [nI_clamp (by omega)]
  exact kk
theorem kl_wagons {r : Nat} (hr : r < 6) (hC : ka_C G X cc own nL d) (hd : decode cc pc = .ok (.arraylength, 1)) (kk : ka_I G X V (pc + 1) L (.int 20 :: st)) : ka_I G X V pc L (.ref (ka_ad G r 7) :: st) := ka_alen (t := 2) hC (ka_ixp _ hr 7 (by decide)) (ka_E_wagons hr) rfl rfl hd kk
theorem ki_legs {r : Nat} (hr : r < 6) {x : Int32} (hC : ka_C G X cc own nL d) (hx : vp_in x 25) (hd : decode cc pc = .ok (.iaload, 1)) (kk : ka_I G X V (pc + 1) L (.int (V r 28 x.toNatClampNeg) :: st)) : ka_I G X V pc L (.int x :: .ref (ka_ad G r 28) :: st) := ka_iald hC (ka_ixp _ hr 28 (by decide)) (ka_E_legs hr) hx hd kk
theorem kip_legs {r : Nat} (hr : r < 6) {x : Int32} {P : Nat → Nat → Int32} (hC : ka_C G X cc own nL d) (hx : vp_in x 25) (hd : decode cc pc = .ok (.iaload, 1)) (kk : ka_I G X (ka_sp V r P) (pc + 1) L (.int (P 28 x.toNatClampNeg) :: st)) : ka_I G X (ka_sp V r P) pc L (.int x :: .ref (ka_ad G r 28) :: st) := ki_legs hr hC hx hd (by rw [ka_sp_s]; exact kk)
theorem kin_legs {r : Nat} (hr : r < 6) {x : Int32} {P : Nat → Nat → Int32} (j : Nat) (hj : j < 25) (hx : x = nI j) (hC : ka_C G X cc own nL d) (hd : decode cc pc = .ok (.iaload, 1)) (kk : ka_I G X (ka_sp V r P) (pc + 1) L (.int (P 28 j) :: st)) : ka_I G X (ka_sp V r P) pc L (.int x :: .ref (ka_ad G r 28) :: st) := by
  subst hx
  refine kip_legs hr hC (vp_in_nI hj (by decide)) hd ?_
  rw [nI_clamp (by omega)]
  exact kk
theorem ks_legs {r : Nat} (hr : r < 6) {x v : Int32} (hC : ka_C G X cc own nL d) (hx : vp_in x 25) (hd : decode cc pc = .ok (.iastore, 1)) (kk : ka_I G X (ka_st V r 28 (upd (V r 28) x.toNatClampNeg v)) (pc + 1) L st) : ka_I G X V pc L (.int v :: .int x :: .ref (ka_ad G r 28) :: st) := ka_iast (f := V r 28) hC (ka_ixp _ hr 28 (by decide)) (fun f => ka_E_legs hr) hx hd kk
theorem ksp_legs {r : Nat} (hr : r < 6) {x v : Int32} {P : Nat → Nat → Int32} (hC : ka_C G X cc own nL d) (hx : vp_in x 25) (hd : decode cc pc = .ok (.iastore, 1)) (kk : ka_I G X (ka_sp V r (ka_s2 P 28 (upd (P 28) x.toNatClampNeg v))) (pc + 1) L st) : ka_I G X (ka_sp V r P) pc L (.int v :: .int x :: .ref (ka_ad G r 28) :: st) := ks_legs hr hC hx hd (by rw [ka_st_sp, ka_sp_s]; exact kk)
theorem ksn_legs {r : Nat} (hr : r < 6) {x v : Int32} {P : Nat → Nat → Int32} (j : Nat) (hj : j < 25) (hx : x = nI j) (hC : ka_C G X cc own nL d) (hd : decode cc pc = .ok (.iastore, 1)) (kk : ka_I G X (ka_sp V r (ka_s2 P 28 (upd (P 28) j v))) (pc + 1) L st) : ka_I G X (ka_sp V r P) pc L (.int v :: .int x :: .ref (ka_ad G r 28) :: st) := by
  subst hx
  refine ksp_legs hr hC (vp_in_nI hj (by decide)) hd ?_
  rw [nI_clamp (by omega)]
  exact kk
theorem kl_legs {r : Nat} (hr : r < 6) (hC : ka_C G X cc own nL d) (hd : decode cc pc = .ok (.arraylength, 1)) (kk : ka_I G X V (pc + 1) L (.int 25 :: st)) : ka_I G X V pc L (.ref (ka_ad G r 28) :: st) := ka_alen (t := 0) hC (ka_ixp _ hr 28 (by decide)) (ka_E_legs hr) rfl rfl hd kk
theorem ki_sett {r : Nat} (hr : r < 6) {x : Int32} (hC : ka_C G X cc own nL d) (hx : vp_in x 7) (hd : decode cc pc = .ok (.iaload, 1)) (kk : ka_I G X V (pc + 1) L (.int (V r 29 x.toNatClampNeg) :: st)) : ka_I G X V pc L (.int x :: .ref (ka_ad G r 29) :: st) := ka_iald hC (ka_ixp _ hr 29 (by decide)) (ka_E_sett hr) hx hd kk
theorem kip_sett {r : Nat} (hr : r < 6) {x : Int32} {P : Nat → Nat → Int32} (hC : ka_C G X cc own nL d) (hx : vp_in x 7) (hd : decode cc pc = .ok (.iaload, 1)) (kk : ka_I G X (ka_sp V r P) (pc + 1) L (.int (P 29 x.toNatClampNeg) :: st)) : ka_I G X (ka_sp V r P) pc L (.int x :: .ref (ka_ad G r 29) :: st) := ki_sett hr hC hx hd (by rw [ka_sp_s]; exact kk)
theorem kin_sett {r : Nat} (hr : r < 6) {x : Int32} {P : Nat → Nat → Int32} (j : Nat) (hj : j < 7) (hx : x = nI j) (hC : ka_C G X cc own nL d) (hd : decode cc pc = .ok (.iaload, 1)) (kk : ka_I G X (ka_sp V r P) (pc + 1) L (.int (P 29 j) :: st)) : ka_I G X (ka_sp V r P) pc L (.int x :: .ref (ka_ad G r 29) :: st) := by
  subst hx
  refine kip_sett hr hC (vp_in_nI hj (by decide)) hd ?_
  rw [nI_clamp (by omega)]
  exact kk
theorem ks_sett {r : Nat} (hr : r < 6) {x v : Int32} (hC : ka_C G X cc own nL d) (hx : vp_in x 7) (hd : decode cc pc = .ok (.iastore, 1)) (kk : ka_I G X (ka_st V r 29 (upd (V r 29) x.toNatClampNeg v)) (pc + 1) L st) : ka_I G X V pc L (.int v :: .int x :: .ref (ka_ad G r 29) :: st) := ka_iast (f := V r 29) hC (ka_ixp _ hr 29 (by decide)) (fun f => ka_E_sett hr) hx hd kk
theorem ksp_sett {r : Nat} (hr : r < 6) {x v : Int32} {P : Nat → Nat → Int32} (hC : ka_C G X cc own nL d) (hx : vp_in x 7) (hd : decode cc pc = .ok (.iastore, 1)) (kk : ka_I G X (ka_sp V r (ka_s2 P 29 (upd (P 29) x.toNatClampNeg v))) (pc + 1) L st) : ka_I G X (ka_sp V r P) pc L (.int v :: .int x :: .ref (ka_ad G r 29) :: st) := ks_sett hr hC hx hd (by rw [ka_st_sp, ka_sp_s]; exact kk)
theorem ksn_sett {r : Nat} (hr : r < 6) {x v : Int32} {P : Nat → Nat → Int32} (j : Nat) (hj : j < 7) (hx : x = nI j) (hC : ka_C G X cc own nL d) (hd : decode cc pc = .ok (.iastore, 1)) (kk : ka_I G X (ka_sp V r (ka_s2 P 29 (upd (P 29) j v))) (pc + 1) L st) : ka_I G X (ka_sp V r P) pc L (.int v :: .int x :: .ref (ka_ad G r 29) :: st) := by
  subst hx
  refine ksp_sett hr hC (vp_in_nI hj (by decide)) hd ?_
  rw [nI_clamp (by omega)]
  exact kk
theorem kl_sett {r : Nat} (hr : r < 6) (hC : ka_C G X cc own nL d) (hd : decode cc pc = .ok (.arraylength, 1)) (kk : ka_I G X V (pc + 1) L (.int 7 :: st)) : ka_I G X V pc L (.ref (ka_ad G r 29) :: st) := ka_alen (t := 0) hC (ka_ixp _ hr 29 (by decide)) (ka_E_sett hr) rfl rfl hd kk
theorem ki_queue {r : Nat} (hr : r < 6) {x : Int32} (hC : ka_C G X cc own nL d) (hx : vp_in x 20) (hd : decode cc pc = .ok (.iaload, 1)) (kk : ka_I G X V (pc + 1) L (.int (V r 31 x.toNatClampNeg) :: st)) : ka_I G X V pc L (.int x :: .ref (ka_ad G r 31) :: st) := ka_iald hC (ka_ixp _ hr 31 (by decide)) (ka_E_queue hr) hx hd kk
theorem kip_queue {r : Nat} (hr : r < 6) {x : Int32} {P : Nat → Nat → Int32} (hC : ka_C G X cc own nL d) (hx : vp_in x 20) (hd : decode cc pc = .ok (.iaload, 1)) (kk : ka_I G X (ka_sp V r P) (pc + 1) L (.int (P 31 x.toNatClampNeg) :: st)) : ka_I G X (ka_sp V r P) pc L (.int x :: .ref (ka_ad G r 31) :: st) := ki_queue hr hC hx hd (by rw [ka_sp_s]; exact kk)
theorem kin_queue {r : Nat} (hr : r < 6) {x : Int32} {P : Nat → Nat → Int32} (j : Nat) (hj : j < 20) (hx : x = nI j) (hC : ka_C G X cc own nL d) (hd : decode cc pc = .ok (.iaload, 1)) (kk : ka_I G X (ka_sp V r P) (pc + 1) L (.int (P 31 j) :: st)) : ka_I G X (ka_sp V r P) pc L (.int x :: .ref (ka_ad G r 31) :: st) := by
  subst hx
  refine kip_queue hr hC (vp_in_nI hj (by decide)) hd ?_
  rw [nI_clamp (by omega)]
  exact kk
theorem ks_queue {r : Nat} (hr : r < 6) {x v : Int32} (hC : ka_C G X cc own nL d) (hx : vp_in x 20) (hd : decode cc pc = .ok (.iastore, 1)) (kk : ka_I G X (ka_st V r 31 (upd (V r 31) x.toNatClampNeg v)) (pc + 1) L st) : ka_I G X V pc L (.int v :: .int x :: .ref (ka_ad G r 31) :: st) := ka_iast (f := V r 31) hC (ka_ixp _ hr 31 (by decide)) (fun f => ka_E_queue hr) hx hd kk
theorem ksp_queue {r : Nat} (hr : r < 6) {x v : Int32} {P : Nat → Nat → Int32} (hC : ka_C G X cc own nL d) (hx : vp_in x 20) (hd : decode cc pc = .ok (.iastore, 1)) (kk : ka_I G X (ka_sp V r (ka_s2 P 31 (upd (P 31) x.toNatClampNeg v))) (pc + 1) L st) : ka_I G X (ka_sp V r P) pc L (.int v :: .int x :: .ref (ka_ad G r 31) :: st) := ks_queue hr hC hx hd (by rw [ka_st_sp, ka_sp_s]; exact kk)
theorem ksn_queue {r : Nat} (hr : r < 6) {x v : Int32} {P : Nat → Nat → Int32} (j : Nat) (hj : j < 20) (hx : x = nI j) (hC : ka_C G X cc own nL d) (hd : decode cc pc = .ok (.iastore, 1)) (kk : ka_I G X (ka_sp V r (ka_s2 P 31 (upd (P 31) j v))) (pc + 1) L st) : ka_I G X (ka_sp V r P) pc L (.int v :: .int x :: .ref (ka_ad G r 31) :: st) := by
  subst hx
  refine ksp_queue hr hC (vp_in_nI hj (by decide)) hd ?_
  rw [nI_clamp (by omega)]
  exact kk
theorem kl_queue {r : Nat} (hr : r < 6) (hC : ka_C G X cc own nL d) (hd : decode cc pc = .ok (.arraylength, 1)) (kk : ka_I G X V (pc + 1) L (.int 20 :: st)) : ka_I G X V pc L (.ref (ka_ad G r 31) :: st) := ka_alen (t := 0) hC (ka_ixp _ hr 31 (by decide)) (ka_E_queue hr) rfl rfl hd kk
theorem kq_states {x : Int32} (hC : ka_C G X cc own nL d) (hx : vp_in x 4) (hd : decode cc pc = .ok (.aaload, 1)) (kk : ka_I G X V (pc + 1) L (.ref (ka_ad G (2 + x.toNatClampNeg) 0) :: st)) : ka_I G X V pc L (.int x :: .ref (ka_ad G 6 1) :: st) := ka_aald (t := 3) hC ka_ix_61 (ka_E_states ) rfl hx rfl hd kk
theorem kqn_states {x : Int32} (j : Nat) (hj : j < 4) (hx : x = nI j) (hC : ka_C G X cc own nL d) (hd : decode cc pc = .ok (.aaload, 1)) (kk : ka_I G X V (pc + 1) L (.ref (ka_ad G (2 + j) 0) :: st)) : ka_I G X V pc L (.int x :: .ref (ka_ad G 6 1) :: st) := by
  subst hx
  refine kq_states  hC (vp_in_nI hj (by decide)) hd ?_
  rw [nI_clamp (by omega)]
  exact kk
theorem kl_states (hC : ka_C G X cc own nL d) (hd : decode cc pc = .ok (.arraylength, 1)) (kk : ka_I G X V (pc + 1) L (.int 4 :: st)) : ka_I G X V pc L (.ref (ka_ad G 6 1) :: st) := ka_alen (t := 3) hC ka_ix_61 (ka_E_states ) rfl rfl hd kk
theorem ki_signs {x : Int32} (hC : ka_C G X cc own nL d) (hx : vp_in x 60) (hd : decode cc pc = .ok (.iaload, 1)) (kk : ka_I G X V (pc + 1) L (.int (V 7 1 x.toNatClampNeg) :: st)) : ka_I G X V pc L (.int x :: .ref (ka_ad G 7 1) :: st) := ka_iald hC ka_ix_71 (ka_E_signs ) hx hd kk
theorem kip_signs {x : Int32} {P : Nat → Nat → Int32} (hC : ka_C G X cc own nL d) (hx : vp_in x 60) (hd : decode cc pc = .ok (.iaload, 1)) (kk : ka_I G X (ka_sp V 7 P) (pc + 1) L (.int (P 1 x.toNatClampNeg) :: st)) : ka_I G X (ka_sp V 7 P) pc L (.int x :: .ref (ka_ad G 7 1) :: st) := ki_signs  hC hx hd (by rw [ka_sp_s]; exact kk)
theorem kin_signs {x : Int32} {P : Nat → Nat → Int32} (j : Nat) (hj : j < 60) (hx : x = nI j) (hC : ka_C G X cc own nL d) (hd : decode cc pc = .ok (.iaload, 1)) (kk : ka_I G X (ka_sp V 7 P) (pc + 1) L (.int (P 1 j) :: st)) : ka_I G X (ka_sp V 7 P) pc L (.int x :: .ref (ka_ad G 7 1) :: st) := by
  subst hx
  refine kip_signs  hC (vp_in_nI hj (by decide)) hd ?_
  rw [nI_clamp (by omega)]
  exact kk
theorem ks_signs {x v : Int32} (hC : ka_C G X cc own nL d) (hx : vp_in x 60) (hd : decode cc pc = .ok (.iastore, 1)) (kk : ka_I G X (ka_st V 7 1 (upd (V 7 1) x.toNatClampNeg v)) (pc + 1) L st) : ka_I G X V pc L (.int v :: .int x :: .ref (ka_ad G 7 1) :: st) := ka_iast (f := V 7 1) hC ka_ix_71 (fun f => ka_E_signs ) hx hd kk
theorem ksp_signs {x v : Int32} {P : Nat → Nat → Int32} (hC : ka_C G X cc own nL d) (hx : vp_in x 60) (hd : decode cc pc = .ok (.iastore, 1)) (kk : ka_I G X (ka_sp V 7 (ka_s2 P 1 (upd (P 1) x.toNatClampNeg v))) (pc + 1) L st) : ka_I G X (ka_sp V 7 P) pc L (.int v :: .int x :: .ref (ka_ad G 7 1) :: st) := ks_signs  hC hx hd (by rw [ka_st_sp, ka_sp_s]; exact kk)
theorem ksn_signs {x v : Int32} {P : Nat → Nat → Int32} (j : Nat) (hj : j < 60) (hx : x = nI j) (hC : ka_C G X cc own nL d) (hd : decode cc pc = .ok (.iastore, 1)) (kk : ka_I G X (ka_sp V 7 (ka_s2 P 1 (upd (P 1) j v))) (pc + 1) L st) : ka_I G X (ka_sp V 7 P) pc L (.int v :: .int x :: .ref (ka_ad G 7 1) :: st) := by
  subst hx
  refine ksp_signs  hC (vp_in_nI hj (by decide)) hd ?_
  rw [nI_clamp (by omega)]
  exact kk
theorem kl_signs (hC : ka_C G X cc own nL d) (hd : decode cc pc = .ok (.arraylength, 1)) (kk : ka_I G X V (pc + 1) L (.int 60 :: st)) : ka_I G X V pc L (.ref (ka_ad G 7 1) :: st) := ka_alen (t := 0) hC ka_ix_71 (ka_E_signs ) rfl rfl hd kk
theorem ki_nums {x : Int32} (hC : ka_C G X cc own nL d) (hx : vp_in x 4) (hd : decode cc pc = .ok (.iaload, 1)) (kk : ka_I G X V (pc + 1) L (.int (V 7 2 x.toNatClampNeg) :: st)) : ka_I G X V pc L (.int x :: .ref (ka_ad G 7 2) :: st) := ka_iald hC ka_ix_72 (ka_E_nums ) hx hd kk
theorem kip_nums {x : Int32} {P : Nat → Nat → Int32} (hC : ka_C G X cc own nL d) (hx : vp_in x 4) (hd : decode cc pc = .ok (.iaload, 1)) (kk : ka_I G X (ka_sp V 7 P) (pc + 1) L (.int (P 2 x.toNatClampNeg) :: st)) : ka_I G X (ka_sp V 7 P) pc L (.int x :: .ref (ka_ad G 7 2) :: st) := ki_nums  hC hx hd (by rw [ka_sp_s]; exact kk)
theorem kin_nums {x : Int32} {P : Nat → Nat → Int32} (j : Nat) (hj : j < 4) (hx : x = nI j) (hC : ka_C G X cc own nL d) (hd : decode cc pc = .ok (.iaload, 1)) (kk : ka_I G X (ka_sp V 7 P) (pc + 1) L (.int (P 2 j) :: st)) : ka_I G X (ka_sp V 7 P) pc L (.int x :: .ref (ka_ad G 7 2) :: st) := by
  subst hx
  refine kip_nums  hC (vp_in_nI hj (by decide)) hd ?_
  rw [nI_clamp (by omega)]
  exact kk
theorem ks_nums {x v : Int32} (hC : ka_C G X cc own nL d) (hx : vp_in x 4) (hd : decode cc pc = .ok (.iastore, 1)) (kk : ka_I G X (ka_st V 7 2 (upd (V 7 2) x.toNatClampNeg v)) (pc + 1) L st) : ka_I G X V pc L (.int v :: .int x :: .ref (ka_ad G 7 2) :: st) := ka_iast (f := V 7 2) hC ka_ix_72 (fun f => ka_E_nums ) hx hd kk
theorem ksp_nums {x v : Int32} {P : Nat → Nat → Int32} (hC : ka_C G X cc own nL d) (hx : vp_in x 4) (hd : decode cc pc = .ok (.iastore, 1)) (kk : ka_I G X (ka_sp V 7 (ka_s2 P 2 (upd (P 2) x.toNatClampNeg v))) (pc + 1) L st) : ka_I G X (ka_sp V 7 P) pc L (.int v :: .int x :: .ref (ka_ad G 7 2) :: st) := ks_nums  hC hx hd (by rw [ka_st_sp, ka_sp_s]; exact kk)
theorem ksn_nums {x v : Int32} {P : Nat → Nat → Int32} (j : Nat) (hj : j < 4) (hx : x = nI j) (hC : ka_C G X cc own nL d) (hd : decode cc pc = .ok (.iastore, 1)) (kk : ka_I G X (ka_sp V 7 (ka_s2 P 2 (upd (P 2) j v))) (pc + 1) L st) : ka_I G X (ka_sp V 7 P) pc L (.int v :: .int x :: .ref (ka_ad G 7 2) :: st) := by
  subst hx
  refine ksp_nums  hC (vp_in_nI hj (by decide)) hd ?_
  rw [nI_clamp (by omega)]
  exact kk
theorem kl_nums (hC : ka_C G X cc own nL d) (hd : decode cc pc = .ok (.arraylength, 1)) (kk : ka_I G X V (pc + 1) L (.int 4 :: st)) : ka_I G X V pc L (.ref (ka_ad G 7 2) :: st) := ka_alen (t := 0) hC ka_ix_72 (ka_E_nums ) rfl rfl hd kk
theorem ki_ms {x : Int32} (hC : ka_C G X cc own nL d) (hx : vp_in x 269) (hd : decode cc pc = .ok (.iaload, 1)) (kk : ka_I G X V (pc + 1) L (.int (V 9 1 x.toNatClampNeg) :: st)) : ka_I G X V pc L (.int x :: .ref (ka_ad G 9 1) :: st) := ka_iald hC ka_ix_91 (ka_E_ms ) hx hd kk
theorem kip_ms {x : Int32} {P : Nat → Nat → Int32} (hC : ka_C G X cc own nL d) (hx : vp_in x 269) (hd : decode cc pc = .ok (.iaload, 1)) (kk : ka_I G X (ka_sp V 9 P) (pc + 1) L (.int (P 1 x.toNatClampNeg) :: st)) : ka_I G X (ka_sp V 9 P) pc L (.int x :: .ref (ka_ad G 9 1) :: st) := ki_ms  hC hx hd (by rw [ka_sp_s]; exact kk)
theorem kin_ms {x : Int32} {P : Nat → Nat → Int32} (j : Nat) (hj : j < 269) (hx : x = nI j) (hC : ka_C G X cc own nL d) (hd : decode cc pc = .ok (.iaload, 1)) (kk : ka_I G X (ka_sp V 9 P) (pc + 1) L (.int (P 1 j) :: st)) : ka_I G X (ka_sp V 9 P) pc L (.int x :: .ref (ka_ad G 9 1) :: st) := by
  subst hx
  refine kip_ms  hC (vp_in_nI hj (by decide)) hd ?_
  rw [nI_clamp (by omega)]
  exact kk
theorem ks_ms {x v : Int32} (hC : ka_C G X cc own nL d) (hx : vp_in x 269) (hd : decode cc pc = .ok (.iastore, 1)) (kk : ka_I G X (ka_st V 9 1 (upd (V 9 1) x.toNatClampNeg v)) (pc + 1) L st) : ka_I G X V pc L (.int v :: .int x :: .ref (ka_ad G 9 1) :: st) := ka_iast (f := V 9 1) hC ka_ix_91 (fun f => ka_E_ms ) hx hd kk
theorem ksp_ms {x v : Int32} {P : Nat → Nat → Int32} (hC : ka_C G X cc own nL d) (hx : vp_in x 269) (hd : decode cc pc = .ok (.iastore, 1)) (kk : ka_I G X (ka_sp V 9 (ka_s2 P 1 (upd (P 1) x.toNatClampNeg v))) (pc + 1) L st) : ka_I G X (ka_sp V 9 P) pc L (.int v :: .int x :: .ref (ka_ad G 9 1) :: st) := ks_ms  hC hx hd (by rw [ka_st_sp, ka_sp_s]; exact kk)
theorem ksn_ms {x v : Int32} {P : Nat → Nat → Int32} (j : Nat) (hj : j < 269) (hx : x = nI j) (hC : ka_C G X cc own nL d) (hd : decode cc pc = .ok (.iastore, 1)) (kk : ka_I G X (ka_sp V 9 (ka_s2 P 1 (upd (P 1) j v))) (pc + 1) L st) : ka_I G X (ka_sp V 9 P) pc L (.int v :: .int x :: .ref (ka_ad G 9 1) :: st) := by
  subst hx
  refine ksp_ms  hC (vp_in_nI hj (by decide)) hd ?_
  rw [nI_clamp (by omega)]
  exact kk
theorem kl_ms (hC : ka_C G X cc own nL d) (hd : decode cc pc = .ok (.arraylength, 1)) (kk : ka_I G X V (pc + 1) L (.int 269 :: st)) : ka_I G X V pc L (.ref (ka_ad G 9 1) :: st) := ka_alen (t := 0) hC ka_ix_91 (ka_E_ms ) rfl rfl hd kk
theorem ki_mbegun {x : Int32} (hC : ka_C G X cc own nL d) (hx : vp_in x 269) (hd : decode cc pc = .ok (.iaload, 1)) (kk : ka_I G X V (pc + 1) L (.int (V 9 2 x.toNatClampNeg) :: st)) : ka_I G X V pc L (.int x :: .ref (ka_ad G 9 2) :: st) := ka_iald hC ka_ix_92 (ka_E_mbegun ) hx hd kk
theorem kip_mbegun {x : Int32} {P : Nat → Nat → Int32} (hC : ka_C G X cc own nL d) (hx : vp_in x 269) (hd : decode cc pc = .ok (.iaload, 1)) (kk : ka_I G X (ka_sp V 9 P) (pc + 1) L (.int (P 2 x.toNatClampNeg) :: st)) : ka_I G X (ka_sp V 9 P) pc L (.int x :: .ref (ka_ad G 9 2) :: st) := ki_mbegun  hC hx hd (by rw [ka_sp_s]; exact kk)
theorem kin_mbegun {x : Int32} {P : Nat → Nat → Int32} (j : Nat) (hj : j < 269) (hx : x = nI j) (hC : ka_C G X cc own nL d) (hd : decode cc pc = .ok (.iaload, 1)) (kk : ka_I G X (ka_sp V 9 P) (pc + 1) L (.int (P 2 j) :: st)) : ka_I G X (ka_sp V 9 P) pc L (.int x :: .ref (ka_ad G 9 2) :: st) := by
  subst hx
  refine kip_mbegun  hC (vp_in_nI hj (by decide)) hd ?_
  rw [nI_clamp (by omega)]
  exact kk
theorem ks_mbegun {x v : Int32} (hC : ka_C G X cc own nL d) (hx : vp_in x 269) (hd : decode cc pc = .ok (.iastore, 1)) (kk : ka_I G X (ka_st V 9 2 (upd (V 9 2) x.toNatClampNeg v)) (pc + 1) L st) : ka_I G X V pc L (.int v :: .int x :: .ref (ka_ad G 9 2) :: st) := ka_iast (f := V 9 2) hC ka_ix_92 (fun f => ka_E_mbegun ) hx hd kk
theorem ksp_mbegun {x v : Int32} {P : Nat → Nat → Int32} (hC : ka_C G X cc own nL d) (hx : vp_in x 269) (hd : decode cc pc = .ok (.iastore, 1)) (kk : ka_I G X (ka_sp V 9 (ka_s2 P 2 (upd (P 2) x.toNatClampNeg v))) (pc + 1) L st) : ka_I G X (ka_sp V 9 P) pc L (.int v :: .int x :: .ref (ka_ad G 9 2) :: st) := ks_mbegun  hC hx hd (by rw [ka_st_sp, ka_sp_s]; exact kk)
theorem ksn_mbegun {x v : Int32} {P : Nat → Nat → Int32} (j : Nat) (hj : j < 269) (hx : x = nI j) (hC : ka_C G X cc own nL d) (hd : decode cc pc = .ok (.iastore, 1)) (kk : ka_I G X (ka_sp V 9 (ka_s2 P 2 (upd (P 2) j v))) (pc + 1) L st) : ka_I G X (ka_sp V 9 P) pc L (.int v :: .int x :: .ref (ka_ad G 9 2) :: st) := by
  subst hx
  refine ksp_mbegun  hC (vp_in_nI hj (by decide)) hd ?_
  rw [nI_clamp (by omega)]
  exact kk
theorem kl_mbegun (hC : ka_C G X cc own nL d) (hd : decode cc pc = .ok (.arraylength, 1)) (kk : ka_I G X V (pc + 1) L (.int 269 :: st)) : ka_I G X V pc L (.ref (ka_ad G 9 2) :: st) := ka_alen (t := 0) hC ka_ix_92 (ka_E_mbegun ) rfl rfl hd kk
theorem ki_maside {x : Int32} (hC : ka_C G X cc own nL d) (hx : vp_in x 269) (hd : decode cc pc = .ok (.iaload, 1)) (kk : ka_I G X V (pc + 1) L (.int (V 9 3 x.toNatClampNeg) :: st)) : ka_I G X V pc L (.int x :: .ref (ka_ad G 9 3) :: st) := ka_iald hC ka_ix_93 (ka_E_maside ) hx hd kk
theorem kip_maside {x : Int32} {P : Nat → Nat → Int32} (hC : ka_C G X cc own nL d) (hx : vp_in x 269) (hd : decode cc pc = .ok (.iaload, 1)) (kk : ka_I G X (ka_sp V 9 P) (pc + 1) L (.int (P 3 x.toNatClampNeg) :: st)) : ka_I G X (ka_sp V 9 P) pc L (.int x :: .ref (ka_ad G 9 3) :: st) := ki_maside  hC hx hd (by rw [ka_sp_s]; exact kk)
theorem kin_maside {x : Int32} {P : Nat → Nat → Int32} (j : Nat) (hj : j < 269) (hx : x = nI j) (hC : ka_C G X cc own nL d) (hd : decode cc pc = .ok (.iaload, 1)) (kk : ka_I G X (ka_sp V 9 P) (pc + 1) L (.int (P 3 j) :: st)) : ka_I G X (ka_sp V 9 P) pc L (.int x :: .ref (ka_ad G 9 3) :: st) := by
  subst hx
  refine kip_maside  hC (vp_in_nI hj (by decide)) hd ?_
  rw [nI_clamp (by omega)]
  exact kk
theorem ks_maside {x v : Int32} (hC : ka_C G X cc own nL d) (hx : vp_in x 269) (hd : decode cc pc = .ok (.iastore, 1)) (kk : ka_I G X (ka_st V 9 3 (upd (V 9 3) x.toNatClampNeg v)) (pc + 1) L st) : ka_I G X V pc L (.int v :: .int x :: .ref (ka_ad G 9 3) :: st) := ka_iast (f := V 9 3) hC ka_ix_93 (fun f => ka_E_maside ) hx hd kk
theorem ksp_maside {x v : Int32} {P : Nat → Nat → Int32} (hC : ka_C G X cc own nL d) (hx : vp_in x 269) (hd : decode cc pc = .ok (.iastore, 1)) (kk : ka_I G X (ka_sp V 9 (ka_s2 P 3 (upd (P 3) x.toNatClampNeg v))) (pc + 1) L st) : ka_I G X (ka_sp V 9 P) pc L (.int v :: .int x :: .ref (ka_ad G 9 3) :: st) := ks_maside  hC hx hd (by rw [ka_st_sp, ka_sp_s]; exact kk)
theorem ksn_maside {x v : Int32} {P : Nat → Nat → Int32} (j : Nat) (hj : j < 269) (hx : x = nI j) (hC : ka_C G X cc own nL d) (hd : decode cc pc = .ok (.iastore, 1)) (kk : ka_I G X (ka_sp V 9 (ka_s2 P 3 (upd (P 3) j v))) (pc + 1) L st) : ka_I G X (ka_sp V 9 P) pc L (.int v :: .int x :: .ref (ka_ad G 9 3) :: st) := by
  subst hx
  refine ksp_maside  hC (vp_in_nI hj (by decide)) hd ?_
  rw [nI_clamp (by omega)]
  exact kk
theorem kl_maside (hC : ka_C G X cc own nL d) (hd : decode cc pc = .ok (.arraylength, 1)) (kk : ka_I G X V (pc + 1) L (.int 269 :: st)) : ka_I G X V pc L (.ref (ka_ad G 9 3) :: st) := ka_alen (t := 0) hC ka_ix_93 (ka_E_maside ) rfl rfl hd kk
theorem ki_mpast {x : Int32} (hC : ka_C G X cc own nL d) (hx : vp_in x 1076) (hd : decode cc pc = .ok (.iaload, 1)) (kk : ka_I G X V (pc + 1) L (.int (V 9 4 x.toNatClampNeg) :: st)) : ka_I G X V pc L (.int x :: .ref (ka_ad G 9 4) :: st) := ka_iald hC ka_ix_94 (ka_E_mpast ) hx hd kk
theorem kip_mpast {x : Int32} {P : Nat → Nat → Int32} (hC : ka_C G X cc own nL d) (hx : vp_in x 1076) (hd : decode cc pc = .ok (.iaload, 1)) (kk : ka_I G X (ka_sp V 9 P) (pc + 1) L (.int (P 4 x.toNatClampNeg) :: st)) : ka_I G X (ka_sp V 9 P) pc L (.int x :: .ref (ka_ad G 9 4) :: st) := ki_mpast  hC hx hd (by rw [ka_sp_s]; exact kk)
theorem kin_mpast {x : Int32} {P : Nat → Nat → Int32} (j : Nat) (hj : j < 1076) (hx : x = nI j) (hC : ka_C G X cc own nL d) (hd : decode cc pc = .ok (.iaload, 1)) (kk : ka_I G X (ka_sp V 9 P) (pc + 1) L (.int (P 4 j) :: st)) : ka_I G X (ka_sp V 9 P) pc L (.int x :: .ref (ka_ad G 9 4) :: st) := by
  subst hx
  refine kip_mpast  hC (vp_in_nI hj (by decide)) hd ?_
  rw [nI_clamp (by omega)]
  exact kk
theorem ks_mpast {x v : Int32} (hC : ka_C G X cc own nL d) (hx : vp_in x 1076) (hd : decode cc pc = .ok (.iastore, 1)) (kk : ka_I G X (ka_st V 9 4 (upd (V 9 4) x.toNatClampNeg v)) (pc + 1) L st) : ka_I G X V pc L (.int v :: .int x :: .ref (ka_ad G 9 4) :: st) := ka_iast (f := V 9 4) hC ka_ix_94 (fun f => ka_E_mpast ) hx hd kk
theorem ksp_mpast {x v : Int32} {P : Nat → Nat → Int32} (hC : ka_C G X cc own nL d) (hx : vp_in x 1076) (hd : decode cc pc = .ok (.iastore, 1)) (kk : ka_I G X (ka_sp V 9 (ka_s2 P 4 (upd (P 4) x.toNatClampNeg v))) (pc + 1) L st) : ka_I G X (ka_sp V 9 P) pc L (.int v :: .int x :: .ref (ka_ad G 9 4) :: st) := ks_mpast  hC hx hd (by rw [ka_st_sp, ka_sp_s]; exact kk)
theorem ksn_mpast {x v : Int32} {P : Nat → Nat → Int32} (j : Nat) (hj : j < 1076) (hx : x = nI j) (hC : ka_C G X cc own nL d) (hd : decode cc pc = .ok (.iastore, 1)) (kk : ka_I G X (ka_sp V 9 (ka_s2 P 4 (upd (P 4) j v))) (pc + 1) L st) : ka_I G X (ka_sp V 9 P) pc L (.int v :: .int x :: .ref (ka_ad G 9 4) :: st) := by
  subst hx
  refine ksp_mpast  hC (vp_in_nI hj (by decide)) hd ?_
  rw [nI_clamp (by omega)]
  exact kk
theorem kl_mpast (hC : ka_C G X cc own nL d) (hd : decode cc pc = .ok (.arraylength, 1)) (kk : ka_I G X V (pc + 1) L (.int 1076 :: st)) : ka_I G X V pc L (.ref (ka_ad G 9 4) :: st) := ka_alen (t := 0) hC ka_ix_94 (ka_E_mpast ) rfl rfl hd kk
theorem ki_mtext {x : Int32} (hC : ka_C G X cc own nL d) (hx : vp_in x 60) (hd : decode cc pc = .ok (.iaload, 1)) (kk : ka_I G X V (pc + 1) L (.int (V 9 5 x.toNatClampNeg) :: st)) : ka_I G X V pc L (.int x :: .ref (ka_ad G 9 5) :: st) := ka_iald hC ka_ix_95 (ka_E_mtext ) hx hd kk
theorem kip_mtext {x : Int32} {P : Nat → Nat → Int32} (hC : ka_C G X cc own nL d) (hx : vp_in x 60) (hd : decode cc pc = .ok (.iaload, 1)) (kk : ka_I G X (ka_sp V 9 P) (pc + 1) L (.int (P 5 x.toNatClampNeg) :: st)) : ka_I G X (ka_sp V 9 P) pc L (.int x :: .ref (ka_ad G 9 5) :: st) := ki_mtext  hC hx hd (by rw [ka_sp_s]; exact kk)
theorem kin_mtext {x : Int32} {P : Nat → Nat → Int32} (j : Nat) (hj : j < 60) (hx : x = nI j) (hC : ka_C G X cc own nL d) (hd : decode cc pc = .ok (.iaload, 1)) (kk : ka_I G X (ka_sp V 9 P) (pc + 1) L (.int (P 5 j) :: st)) : ka_I G X (ka_sp V 9 P) pc L (.int x :: .ref (ka_ad G 9 5) :: st) := by
  subst hx
  refine kip_mtext  hC (vp_in_nI hj (by decide)) hd ?_
  rw [nI_clamp (by omega)]
  exact kk
theorem ks_mtext {x v : Int32} (hC : ka_C G X cc own nL d) (hx : vp_in x 60) (hd : decode cc pc = .ok (.iastore, 1)) (kk : ka_I G X (ka_st V 9 5 (upd (V 9 5) x.toNatClampNeg v)) (pc + 1) L st) : ka_I G X V pc L (.int v :: .int x :: .ref (ka_ad G 9 5) :: st) := ka_iast (f := V 9 5) hC ka_ix_95 (fun f => ka_E_mtext ) hx hd kk
theorem ksp_mtext {x v : Int32} {P : Nat → Nat → Int32} (hC : ka_C G X cc own nL d) (hx : vp_in x 60) (hd : decode cc pc = .ok (.iastore, 1)) (kk : ka_I G X (ka_sp V 9 (ka_s2 P 5 (upd (P 5) x.toNatClampNeg v))) (pc + 1) L st) : ka_I G X (ka_sp V 9 P) pc L (.int v :: .int x :: .ref (ka_ad G 9 5) :: st) := ks_mtext  hC hx hd (by rw [ka_st_sp, ka_sp_s]; exact kk)
theorem ksn_mtext {x v : Int32} {P : Nat → Nat → Int32} (j : Nat) (hj : j < 60) (hx : x = nI j) (hC : ka_C G X cc own nL d) (hd : decode cc pc = .ok (.iastore, 1)) (kk : ka_I G X (ka_sp V 9 (ka_s2 P 5 (upd (P 5) j v))) (pc + 1) L st) : ka_I G X (ka_sp V 9 P) pc L (.int v :: .int x :: .ref (ka_ad G 9 5) :: st) := by
  subst hx
  refine ksp_mtext  hC (vp_in_nI hj (by decide)) hd ?_
  rw [nI_clamp (by omega)]
  exact kk
theorem kl_mtext (hC : ka_C G X cc own nL d) (hd : decode cc pc = .ok (.arraylength, 1)) (kk : ka_I G X V (pc + 1) L (.int 60 :: st)) : ka_I G X V pc L (.ref (ka_ad G 9 5) :: st) := ka_alen (t := 0) hC ka_ix_95 (ka_E_mtext ) rfl rfl hd kk
theorem ki_mnums {x : Int32} (hC : ka_C G X cc own nL d) (hx : vp_in x 4) (hd : decode cc pc = .ok (.iaload, 1)) (kk : ka_I G X V (pc + 1) L (.int (V 9 6 x.toNatClampNeg) :: st)) : ka_I G X V pc L (.int x :: .ref (ka_ad G 9 6) :: st) := ka_iald hC ka_ix_96 (ka_E_mnums ) hx hd kk
theorem kip_mnums {x : Int32} {P : Nat → Nat → Int32} (hC : ka_C G X cc own nL d) (hx : vp_in x 4) (hd : decode cc pc = .ok (.iaload, 1)) (kk : ka_I G X (ka_sp V 9 P) (pc + 1) L (.int (P 6 x.toNatClampNeg) :: st)) : ka_I G X (ka_sp V 9 P) pc L (.int x :: .ref (ka_ad G 9 6) :: st) := ki_mnums  hC hx hd (by rw [ka_sp_s]; exact kk)
theorem kin_mnums {x : Int32} {P : Nat → Nat → Int32} (j : Nat) (hj : j < 4) (hx : x = nI j) (hC : ka_C G X cc own nL d) (hd : decode cc pc = .ok (.iaload, 1)) (kk : ka_I G X (ka_sp V 9 P) (pc + 1) L (.int (P 6 j) :: st)) : ka_I G X (ka_sp V 9 P) pc L (.int x :: .ref (ka_ad G 9 6) :: st) := by
  subst hx
  refine kip_mnums  hC (vp_in_nI hj (by decide)) hd ?_
  rw [nI_clamp (by omega)]
  exact kk
theorem ks_mnums {x v : Int32} (hC : ka_C G X cc own nL d) (hx : vp_in x 4) (hd : decode cc pc = .ok (.iastore, 1)) (kk : ka_I G X (ka_st V 9 6 (upd (V 9 6) x.toNatClampNeg v)) (pc + 1) L st) : ka_I G X V pc L (.int v :: .int x :: .ref (ka_ad G 9 6) :: st) := ka_iast (f := V 9 6) hC ka_ix_96 (fun f => ka_E_mnums ) hx hd kk
theorem ksp_mnums {x v : Int32} {P : Nat → Nat → Int32} (hC : ka_C G X cc own nL d) (hx : vp_in x 4) (hd : decode cc pc = .ok (.iastore, 1)) (kk : ka_I G X (ka_sp V 9 (ka_s2 P 6 (upd (P 6) x.toNatClampNeg v))) (pc + 1) L st) : ka_I G X (ka_sp V 9 P) pc L (.int v :: .int x :: .ref (ka_ad G 9 6) :: st) := ks_mnums  hC hx hd (by rw [ka_st_sp, ka_sp_s]; exact kk)
theorem ksn_mnums {x v : Int32} {P : Nat → Nat → Int32} (j : Nat) (hj : j < 4) (hx : x = nI j) (hC : ka_C G X cc own nL d) (hd : decode cc pc = .ok (.iastore, 1)) (kk : ka_I G X (ka_sp V 9 (ka_s2 P 6 (upd (P 6) j v))) (pc + 1) L st) : ka_I G X (ka_sp V 9 P) pc L (.int v :: .int x :: .ref (ka_ad G 9 6) :: st) := by
  subst hx
  refine ksp_mnums  hC (vp_in_nI hj (by decide)) hd ?_
  rw [nI_clamp (by omega)]
  exact kk
theorem kl_mnums (hC : ka_C G X cc own nL d) (hd : decode cc pc = .ok (.arraylength, 1)) (kk : ka_I G X V (pc + 1) L (.int 4 :: st)) : ka_I G X V pc L (.ref (ka_ad G 9 6) :: st) := ka_alen (t := 0) hC ka_ix_96 (ka_E_mnums ) rfl rfl hd kk
end KB
end
